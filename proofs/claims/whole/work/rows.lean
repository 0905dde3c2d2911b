section
-- ===== PART A: goes FIRST, ahead of the names: the tables' words, and 'selects' of the private methods out of them =====
/-- a private method of a class that the tables say can be made, by its rows of tables_1 -/
def lw_okq (q : MethodName × Nat) : Prop := (q.1.cls ≠ "java/lang/invoke/MethodHandle" ∧ q.1.cls ≠ "java/lang/invoke/VarHandle") ∧ Cond.instantiable q.1.cls q.2 ∈ tables_1 ∧ Cond.privateMethod q.1 ∈ tables_1 ∧ Cond.instanceMethod q.1 ∈ tables_1
theorem lw_p0 : lw_okq (⟨"SewnUp$Tape", "passBlanks", "()V"⟩, 6) := ⟨⟨by decide +kernel, by decide +kernel⟩, List.mem_of_getElem? (i := 92) (by decide +kernel), List.mem_of_getElem? (i := 334) (by decide +kernel), List.mem_of_getElem? (i := 335) (by decide +kernel)⟩
theorem lw_p1 : lw_okq (⟨"SewnUp$Tape", "cutOne", "(I)I"⟩, 6) := ⟨⟨by decide +kernel, by decide +kernel⟩, List.mem_of_getElem? (i := 92) (by decide +kernel), List.mem_of_getElem? (i := 338) (by decide +kernel), List.mem_of_getElem? (i := 339) (by decide +kernel)⟩
theorem lw_p2 : lw_okq (⟨"SewnUp$Tape", "isLetter", "(I)Z"⟩, 6) := ⟨⟨by decide +kernel, by decide +kernel⟩, List.mem_of_getElem? (i := 92) (by decide +kernel), List.mem_of_getElem? (i := 342) (by decide +kernel), List.mem_of_getElem? (i := 343) (by decide +kernel)⟩
theorem lw_p3 : lw_okq (⟨"SewnUp$Tape", "cutWord", "()I"⟩, 6) := ⟨⟨by decide +kernel, by decide +kernel⟩, List.mem_of_getElem? (i := 92) (by decide +kernel), List.mem_of_getElem? (i := 346) (by decide +kernel), List.mem_of_getElem? (i := 347) (by decide +kernel)⟩
theorem lw_p4 : lw_okq (⟨"SewnUp$Tape", "isSpelled", "(ILjava/lang/String;)Z"⟩, 6) := ⟨⟨by decide +kernel, by decide +kernel⟩, List.mem_of_getElem? (i := 92) (by decide +kernel), List.mem_of_getElem? (i := 365) (by decide +kernel), List.mem_of_getElem? (i := 366) (by decide +kernel)⟩
theorem lw_p5 : lw_okq (⟨"SewnUp$Tape", "isDigit", "(I)Z"⟩, 6) := ⟨⟨by decide +kernel, by decide +kernel⟩, List.mem_of_getElem? (i := 92) (by decide +kernel), List.mem_of_getElem? (i := 369) (by decide +kernel), List.mem_of_getElem? (i := 370) (by decide +kernel)⟩
theorem lw_p6 : lw_okq (⟨"SewnUp$Tape", "cutNumber", "(I)I"⟩, 6) := ⟨⟨by decide +kernel, by decide +kernel⟩, List.mem_of_getElem? (i := 92) (by decide +kernel), List.mem_of_getElem? (i := 373) (by decide +kernel), List.mem_of_getElem? (i := 374) (by decide +kernel)⟩
theorem lw_p7 : lw_okq (⟨"SewnUp$Tape", "signAt", "(I)I"⟩, 6) := ⟨⟨by decide +kernel, by decide +kernel⟩, List.mem_of_getElem? (i := 92) (by decide +kernel), List.mem_of_getElem? (i := 377) (by decide +kernel), List.mem_of_getElem? (i := 378) (by decide +kernel)⟩
theorem lw_p8 : lw_okq (⟨"SewnUp$Reader", "readsParts", "()Z"⟩, 5) := ⟨⟨by decide +kernel, by decide +kernel⟩, List.mem_of_getElem? (i := 86) (by decide +kernel), List.mem_of_getElem? (i := 381) (by decide +kernel), List.mem_of_getElem? (i := 382) (by decide +kernel)⟩
theorem lw_p9 : lw_okq (⟨"SewnUp$Reader", "begin", "(I)V"⟩, 5) := ⟨⟨by decide +kernel, by decide +kernel⟩, List.mem_of_getElem? (i := 86) (by decide +kernel), List.mem_of_getElem? (i := 385) (by decide +kernel), List.mem_of_getElem? (i := 386) (by decide +kernel)⟩
theorem lw_p10 : lw_okq (⟨"SewnUp$Reader", "eats", "(I)Z"⟩, 5) := ⟨⟨by decide +kernel, by decide +kernel⟩, List.mem_of_getElem? (i := 86) (by decide +kernel), List.mem_of_getElem? (i := 389) (by decide +kernel), List.mem_of_getElem? (i := 390) (by decide +kernel)⟩
theorem lw_p11 : lw_okq (⟨"SewnUp$Reader", "pass", "()V"⟩, 5) := ⟨⟨by decide +kernel, by decide +kernel⟩, List.mem_of_getElem? (i := 86) (by decide +kernel), List.mem_of_getElem? (i := 393) (by decide +kernel), List.mem_of_getElem? (i := 394) (by decide +kernel)⟩
theorem lw_p12 : lw_okq (⟨"SewnUp$Reader", "readsAny", "(I)Z"⟩, 5) := ⟨⟨by decide +kernel, by decide +kernel⟩, List.mem_of_getElem? (i := 86) (by decide +kernel), List.mem_of_getElem? (i := 397) (by decide +kernel), List.mem_of_getElem? (i := 398) (by decide +kernel)⟩
theorem lw_p13 : lw_okq (⟨"SewnUp$Reader", "readsAll", "(I)Z"⟩, 5) := ⟨⟨by decide +kernel, by decide +kernel⟩, List.mem_of_getElem? (i := 86) (by decide +kernel), List.mem_of_getElem? (i := 401) (by decide +kernel), List.mem_of_getElem? (i := 402) (by decide +kernel)⟩
theorem lw_p14 : lw_okq (⟨"SewnUp$Reader", "readsNot", "(I)Z"⟩, 5) := ⟨⟨by decide +kernel, by decide +kernel⟩, List.mem_of_getElem? (i := 86) (by decide +kernel), List.mem_of_getElem? (i := 405) (by decide +kernel), List.mem_of_getElem? (i := 406) (by decide +kernel)⟩
theorem lw_p15 : lw_okq (⟨"SewnUp$Reader", "readsLess", "(I)Z"⟩, 5) := ⟨⟨by decide +kernel, by decide +kernel⟩, List.mem_of_getElem? (i := 86) (by decide +kernel), List.mem_of_getElem? (i := 409) (by decide +kernel), List.mem_of_getElem? (i := 410) (by decide +kernel)⟩
def lw_privs_1 : List (MethodName × Nat) := [(⟨"SewnUp$Tape", "passBlanks", "()V"⟩, 6), (⟨"SewnUp$Tape", "cutOne", "(I)I"⟩, 6), (⟨"SewnUp$Tape", "isLetter", "(I)Z"⟩, 6), (⟨"SewnUp$Tape", "cutWord", "()I"⟩, 6), (⟨"SewnUp$Tape", "isSpelled", "(ILjava/lang/String;)Z"⟩, 6), (⟨"SewnUp$Tape", "isDigit", "(I)Z"⟩, 6), (⟨"SewnUp$Tape", "cutNumber", "(I)I"⟩, 6), (⟨"SewnUp$Tape", "signAt", "(I)I"⟩, 6), (⟨"SewnUp$Reader", "readsParts", "()Z"⟩, 5), (⟨"SewnUp$Reader", "begin", "(I)V"⟩, 5), (⟨"SewnUp$Reader", "eats", "(I)Z"⟩, 5), (⟨"SewnUp$Reader", "pass", "()V"⟩, 5), (⟨"SewnUp$Reader", "readsAny", "(I)Z"⟩, 5), (⟨"SewnUp$Reader", "readsAll", "(I)Z"⟩, 5), (⟨"SewnUp$Reader", "readsNot", "(I)Z"⟩, 5), (⟨"SewnUp$Reader", "readsLess", "(I)Z"⟩, 5)]
theorem lw_r1 : ∀ q ∈ lw_privs_1, lw_okq q := List.forall_mem_cons.mpr ⟨lw_p0, List.forall_mem_cons.mpr ⟨lw_p1, List.forall_mem_cons.mpr ⟨lw_p2, List.forall_mem_cons.mpr ⟨lw_p3, List.forall_mem_cons.mpr ⟨lw_p4, List.forall_mem_cons.mpr ⟨lw_p5, List.forall_mem_cons.mpr ⟨lw_p6, List.forall_mem_cons.mpr ⟨lw_p7, List.forall_mem_cons.mpr ⟨lw_p8, List.forall_mem_cons.mpr ⟨lw_p9, List.forall_mem_cons.mpr ⟨lw_p10, List.forall_mem_cons.mpr ⟨lw_p11, List.forall_mem_cons.mpr ⟨lw_p12, List.forall_mem_cons.mpr ⟨lw_p13, List.forall_mem_cons.mpr ⟨lw_p14, List.forall_mem_cons.mpr ⟨lw_p15, fun _ h => absurd h List.not_mem_nil⟩⟩⟩⟩⟩⟩⟩⟩⟩⟩⟩⟩⟩⟩⟩⟩
theorem lw_p16 : lw_okq (⟨"SewnUp$Reader", "readsSum", "(I)Z"⟩, 5) := ⟨⟨by decide +kernel, by decide +kernel⟩, List.mem_of_getElem? (i := 86) (by decide +kernel), List.mem_of_getElem? (i := 413) (by decide +kernel), List.mem_of_getElem? (i := 414) (by decide +kernel)⟩
theorem lw_p17 : lw_okq (⟨"SewnUp$Reader", "readsTerm", "(I)Z"⟩, 5) := ⟨⟨by decide +kernel, by decide +kernel⟩, List.mem_of_getElem? (i := 86) (by decide +kernel), List.mem_of_getElem? (i := 417) (by decide +kernel), List.mem_of_getElem? (i := 418) (by decide +kernel)⟩
theorem lw_p18 : lw_okq (⟨"SewnUp$Reader", "readsOne", "(I)Z"⟩, 5) := ⟨⟨by decide +kernel, by decide +kernel⟩, List.mem_of_getElem? (i := 86) (by decide +kernel), List.mem_of_getElem? (i := 421) (by decide +kernel), List.mem_of_getElem? (i := 422) (by decide +kernel)⟩
theorem lw_p19 : lw_okq (⟨"SewnUp$Reader", "put", "(I)V"⟩, 5) := ⟨⟨by decide +kernel, by decide +kernel⟩, List.mem_of_getElem? (i := 86) (by decide +kernel), List.mem_of_getElem? (i := 425) (by decide +kernel), List.mem_of_getElem? (i := 426) (by decide +kernel)⟩
theorem lw_p20 : lw_okq (⟨"SewnUp", "isSettable", "(II)Z"⟩, 12) := ⟨⟨by decide +kernel, by decide +kernel⟩, List.mem_of_getElem? (i := 20) (by decide +kernel), List.mem_of_getElem? (i := 471) (by decide +kernel), List.mem_of_getElem? (i := 472) (by decide +kernel)⟩
theorem lw_p21 : lw_okq (⟨"SewnUp", "isGroom", "(I)Z"⟩, 12) := ⟨⟨by decide +kernel, by decide +kernel⟩, List.mem_of_getElem? (i := 20) (by decide +kernel), List.mem_of_getElem? (i := 475) (by decide +kernel), List.mem_of_getElem? (i := 476) (by decide +kernel)⟩
theorem lw_p22 : lw_okq (⟨"SewnUp", "settable", "(II)I"⟩, 12) := ⟨⟨by decide +kernel, by decide +kernel⟩, List.mem_of_getElem? (i := 20) (by decide +kernel), List.mem_of_getElem? (i := 482) (by decide +kernel), List.mem_of_getElem? (i := 483) (by decide +kernel)⟩
theorem lw_p23 : lw_okq (⟨"SewnUp", "seeAsIs", "(I)V"⟩, 12) := ⟨⟨by decide +kernel, by decide +kernel⟩, List.mem_of_getElem? (i := 20) (by decide +kernel), List.mem_of_getElem? (i := 501) (by decide +kernel), List.mem_of_getElem? (i := 502) (by decide +kernel)⟩
theorem lw_p24 : lw_okq (⟨"SewnUp", "seeIn", "(II)V"⟩, 12) := ⟨⟨by decide +kernel, by decide +kernel⟩, List.mem_of_getElem? (i := 20) (by decide +kernel), List.mem_of_getElem? (i := 505) (by decide +kernel), List.mem_of_getElem? (i := 506) (by decide +kernel)⟩
theorem lw_p25 : lw_okq (⟨"SewnUp", "see", "(III)V"⟩, 12) := ⟨⟨by decide +kernel, by decide +kernel⟩, List.mem_of_getElem? (i := 20) (by decide +kernel), List.mem_of_getElem? (i := 509) (by decide +kernel), List.mem_of_getElem? (i := 510) (by decide +kernel)⟩
theorem lw_p26 : lw_okq (⟨"SewnUp", "rule", "()LSewnUp$Text;"⟩, 12) := ⟨⟨by decide +kernel, by decide +kernel⟩, List.mem_of_getElem? (i := 20) (by decide +kernel), List.mem_of_getElem? (i := 513) (by decide +kernel), List.mem_of_getElem? (i := 514) (by decide +kernel)⟩
theorem lw_p27 : lw_okq (⟨"SewnUp$Man", "nameAll", "()V"⟩, 10) := ⟨⟨by decide +kernel, by decide +kernel⟩, List.mem_of_getElem? (i := 143) (by decide +kernel), List.mem_of_getElem? (i := 521) (by decide +kernel), List.mem_of_getElem? (i := 522) (by decide +kernel)⟩
theorem lw_p28 : lw_okq (⟨"SewnUp$Man", "nameNone", "()V"⟩, 10) := ⟨⟨by decide +kernel, by decide +kernel⟩, List.mem_of_getElem? (i := 143) (by decide +kernel), List.mem_of_getElem? (i := 543) (by decide +kernel), List.mem_of_getElem? (i := 544) (by decide +kernel)⟩
theorem lw_p29 : lw_okq (⟨"SewnUp", "ringCount", "()I"⟩, 12) := ⟨⟨by decide +kernel, by decide +kernel⟩, List.mem_of_getElem? (i := 20) (by decide +kernel), List.mem_of_getElem? (i := 589) (by decide +kernel), List.mem_of_getElem? (i := 590) (by decide +kernel)⟩
theorem lw_p30 : lw_okq (⟨"SewnUp", "ringOf", "(I)I"⟩, 12) := ⟨⟨by decide +kernel, by decide +kernel⟩, List.mem_of_getElem? (i := 20) (by decide +kernel), List.mem_of_getElem? (i := 593) (by decide +kernel), List.mem_of_getElem? (i := 594) (by decide +kernel)⟩
theorem lw_p31 : lw_okq (⟨"SewnUp", "longestRing", "()I"⟩, 12) := ⟨⟨by decide +kernel, by decide +kernel⟩, List.mem_of_getElem? (i := 20) (by decide +kernel), List.mem_of_getElem? (i := 597) (by decide +kernel), List.mem_of_getElem? (i := 598) (by decide +kernel)⟩
def lw_privs_2 : List (MethodName × Nat) := [(⟨"SewnUp$Reader", "readsSum", "(I)Z"⟩, 5), (⟨"SewnUp$Reader", "readsTerm", "(I)Z"⟩, 5), (⟨"SewnUp$Reader", "readsOne", "(I)Z"⟩, 5), (⟨"SewnUp$Reader", "put", "(I)V"⟩, 5), (⟨"SewnUp", "isSettable", "(II)Z"⟩, 12), (⟨"SewnUp", "isGroom", "(I)Z"⟩, 12), (⟨"SewnUp", "settable", "(II)I"⟩, 12), (⟨"SewnUp", "seeAsIs", "(I)V"⟩, 12), (⟨"SewnUp", "seeIn", "(II)V"⟩, 12), (⟨"SewnUp", "see", "(III)V"⟩, 12), (⟨"SewnUp", "rule", "()LSewnUp$Text;"⟩, 12), (⟨"SewnUp$Man", "nameAll", "()V"⟩, 10), (⟨"SewnUp$Man", "nameNone", "()V"⟩, 10), (⟨"SewnUp", "ringCount", "()I"⟩, 12), (⟨"SewnUp", "ringOf", "(I)I"⟩, 12), (⟨"SewnUp", "longestRing", "()I"⟩, 12)]
theorem lw_r2 : ∀ q ∈ lw_privs_2, lw_okq q := List.forall_mem_cons.mpr ⟨lw_p16, List.forall_mem_cons.mpr ⟨lw_p17, List.forall_mem_cons.mpr ⟨lw_p18, List.forall_mem_cons.mpr ⟨lw_p19, List.forall_mem_cons.mpr ⟨lw_p20, List.forall_mem_cons.mpr ⟨lw_p21, List.forall_mem_cons.mpr ⟨lw_p22, List.forall_mem_cons.mpr ⟨lw_p23, List.forall_mem_cons.mpr ⟨lw_p24, List.forall_mem_cons.mpr ⟨lw_p25, List.forall_mem_cons.mpr ⟨lw_p26, List.forall_mem_cons.mpr ⟨lw_p27, List.forall_mem_cons.mpr ⟨lw_p28, List.forall_mem_cons.mpr ⟨lw_p29, List.forall_mem_cons.mpr ⟨lw_p30, List.forall_mem_cons.mpr ⟨lw_p31, fun _ h => absurd h List.not_mem_nil⟩⟩⟩⟩⟩⟩⟩⟩⟩⟩⟩⟩⟩⟩⟩⟩
theorem lw_p32 : lw_okq (⟨"SewnUp", "firstChange", "()I"⟩, 12) := ⟨⟨by decide +kernel, by decide +kernel⟩, List.mem_of_getElem? (i := 20) (by decide +kernel), List.mem_of_getElem? (i := 608) (by decide +kernel), List.mem_of_getElem? (i := 609) (by decide +kernel)⟩
theorem lw_p33 : lw_okq (⟨"SewnUp", "inOwn", "()I"⟩, 12) := ⟨⟨by decide +kernel, by decide +kernel⟩, List.mem_of_getElem? (i := 20) (by decide +kernel), List.mem_of_getElem? (i := 612) (by decide +kernel), List.mem_of_getElem? (i := 613) (by decide +kernel)⟩
theorem lw_p34 : lw_okq (⟨"SewnUp", "foreseeTempers", "(I)V"⟩, 12) := ⟨⟨by decide +kernel, by decide +kernel⟩, List.mem_of_getElem? (i := 20) (by decide +kernel), List.mem_of_getElem? (i := 624) (by decide +kernel), List.mem_of_getElem? (i := 625) (by decide +kernel)⟩
theorem lw_p35 : lw_okq (⟨"SewnUp", "warmerBy", "(II)I"⟩, 12) := ⟨⟨by decide +kernel, by decide +kernel⟩, List.mem_of_getElem? (i := 20) (by decide +kernel), List.mem_of_getElem? (i := 628) (by decide +kernel), List.mem_of_getElem? (i := 629) (by decide +kernel)⟩
theorem lw_p36 : lw_okq (⟨"SewnUp$Ways", "swap", "(II)V"⟩, 4) := ⟨⟨by decide +kernel, by decide +kernel⟩, List.mem_of_getElem? (i := 189) (by decide +kernel), List.mem_of_getElem? (i := 648) (by decide +kernel), List.mem_of_getElem? (i := 649) (by decide +kernel)⟩
theorem lw_p37 : lw_okq (⟨"SewnUp", "fillPockets", "()V"⟩, 12) := ⟨⟨by decide +kernel, by decide +kernel⟩, List.mem_of_getElem? (i := 20) (by decide +kernel), List.mem_of_getElem? (i := 656) (by decide +kernel), List.mem_of_getElem? (i := 657) (by decide +kernel)⟩
theorem lw_p38 : lw_okq (⟨"SewnUp$Pockets", "openedBy", "(I)I"⟩, 4) := ⟨⟨by decide +kernel, by decide +kernel⟩, List.mem_of_getElem? (i := 210) (by decide +kernel), List.mem_of_getElem? (i := 664) (by decide +kernel), List.mem_of_getElem? (i := 665) (by decide +kernel)⟩
theorem lw_p39 : lw_okq (⟨"SewnUp$Pockets", "openedFrom", "(I)I"⟩, 4) := ⟨⟨by decide +kernel, by decide +kernel⟩, List.mem_of_getElem? (i := 210) (by decide +kernel), List.mem_of_getElem? (i := 668) (by decide +kernel), List.mem_of_getElem? (i := 669) (by decide +kernel)⟩
theorem lw_p40 : lw_okq (⟨"SewnUp", "wouldBeSo", "(LSewnUp$Sheet;II)I"⟩, 12) := ⟨⟨by decide +kernel, by decide +kernel⟩, List.mem_of_getElem? (i := 20) (by decide +kernel), List.mem_of_getElem? (i := 701) (by decide +kernel), List.mem_of_getElem? (i := 702) (by decide +kernel)⟩
theorem lw_p41 : lw_okq (⟨"SewnUp", "wearerOf", "(I)I"⟩, 12) := ⟨⟨by decide +kernel, by decide +kernel⟩, List.mem_of_getElem? (i := 20) (by decide +kernel), List.mem_of_getElem? (i := 705) (by decide +kernel), List.mem_of_getElem? (i := 706) (by decide +kernel)⟩
theorem lw_p42 : lw_okq (⟨"SewnUp", "otherwise", "(LSewnUp$Sheet;LSewnUp$Text;)I"⟩, 12) := ⟨⟨by decide +kernel, by decide +kernel⟩, List.mem_of_getElem? (i := 20) (by decide +kernel), List.mem_of_getElem? (i := 709) (by decide +kernel), List.mem_of_getElem? (i := 710) (by decide +kernel)⟩
theorem lw_p43 : lw_okq (⟨"SewnUp", "textsBy", "(LSewnUp$Sheet;)I"⟩, 12) := ⟨⟨by decide +kernel, by decide +kernel⟩, List.mem_of_getElem? (i := 20) (by decide +kernel), List.mem_of_getElem? (i := 713) (by decide +kernel), List.mem_of_getElem? (i := 714) (by decide +kernel)⟩
theorem lw_p44 : lw_okq (⟨"SewnUp", "waysBy", "(LSewnUp$Sheet;I)I"⟩, 12) := ⟨⟨by decide +kernel, by decide +kernel⟩, List.mem_of_getElem? (i := 20) (by decide +kernel), List.mem_of_getElem? (i := 717) (by decide +kernel), List.mem_of_getElem? (i := 718) (by decide +kernel)⟩
theorem lw_p45 : lw_okq (⟨"SewnUp", "fitCoats", "(LSewnUp$Sheet;)V"⟩, 12) := ⟨⟨by decide +kernel, by decide +kernel⟩, List.mem_of_getElem? (i := 20) (by decide +kernel), List.mem_of_getElem? (i := 721) (by decide +kernel), List.mem_of_getElem? (i := 722) (by decide +kernel)⟩
theorem lw_p46 : lw_okq (⟨"SewnUpModel", "spell", "(IIIIIIIII)V"⟩, 50) := ⟨⟨by decide +kernel, by decide +kernel⟩, List.mem_of_getElem? (i := 835) (by decide +kernel), List.mem_of_getElem? (i := 841) (by decide +kernel), List.mem_of_getElem? (i := 842) (by decide +kernel)⟩
theorem lw_p47 : lw_okq (⟨"SewnUpModel", "isOne", "(I)Z"⟩, 50) := ⟨⟨by decide +kernel, by decide +kernel⟩, List.mem_of_getElem? (i := 835) (by decide +kernel), List.mem_of_getElem? (i := 1004) (by decide +kernel), List.mem_of_getElem? (i := 1005) (by decide +kernel)⟩
def lw_privs_3 : List (MethodName × Nat) := [(⟨"SewnUp", "firstChange", "()I"⟩, 12), (⟨"SewnUp", "inOwn", "()I"⟩, 12), (⟨"SewnUp", "foreseeTempers", "(I)V"⟩, 12), (⟨"SewnUp", "warmerBy", "(II)I"⟩, 12), (⟨"SewnUp$Ways", "swap", "(II)V"⟩, 4), (⟨"SewnUp", "fillPockets", "()V"⟩, 12), (⟨"SewnUp$Pockets", "openedBy", "(I)I"⟩, 4), (⟨"SewnUp$Pockets", "openedFrom", "(I)I"⟩, 4), (⟨"SewnUp", "wouldBeSo", "(LSewnUp$Sheet;II)I"⟩, 12), (⟨"SewnUp", "wearerOf", "(I)I"⟩, 12), (⟨"SewnUp", "otherwise", "(LSewnUp$Sheet;LSewnUp$Text;)I"⟩, 12), (⟨"SewnUp", "textsBy", "(LSewnUp$Sheet;)I"⟩, 12), (⟨"SewnUp", "waysBy", "(LSewnUp$Sheet;I)I"⟩, 12), (⟨"SewnUp", "fitCoats", "(LSewnUp$Sheet;)V"⟩, 12), (⟨"SewnUpModel", "spell", "(IIIIIIIII)V"⟩, 50), (⟨"SewnUpModel", "isOne", "(I)Z"⟩, 50)]
theorem lw_r3 : ∀ q ∈ lw_privs_3, lw_okq q := List.forall_mem_cons.mpr ⟨lw_p32, List.forall_mem_cons.mpr ⟨lw_p33, List.forall_mem_cons.mpr ⟨lw_p34, List.forall_mem_cons.mpr ⟨lw_p35, List.forall_mem_cons.mpr ⟨lw_p36, List.forall_mem_cons.mpr ⟨lw_p37, List.forall_mem_cons.mpr ⟨lw_p38, List.forall_mem_cons.mpr ⟨lw_p39, List.forall_mem_cons.mpr ⟨lw_p40, List.forall_mem_cons.mpr ⟨lw_p41, List.forall_mem_cons.mpr ⟨lw_p42, List.forall_mem_cons.mpr ⟨lw_p43, List.forall_mem_cons.mpr ⟨lw_p44, List.forall_mem_cons.mpr ⟨lw_p45, List.forall_mem_cons.mpr ⟨lw_p46, List.forall_mem_cons.mpr ⟨lw_p47, fun _ h => absurd h List.not_mem_nil⟩⟩⟩⟩⟩⟩⟩⟩⟩⟩⟩⟩⟩⟩⟩⟩
theorem lw_p48 : lw_okq (⟨"SewnUpModel", "thingOf", "(I)I"⟩, 50) := ⟨⟨by decide +kernel, by decide +kernel⟩, List.mem_of_getElem? (i := 835) (by decide +kernel), List.mem_of_getElem? (i := 1016) (by decide +kernel), List.mem_of_getElem? (i := 1017) (by decide +kernel)⟩
theorem lw_p49 : lw_okq (⟨"SewnUpModel", "heatsOf", "(III)I"⟩, 50) := ⟨⟨by decide +kernel, by decide +kernel⟩, List.mem_of_getElem? (i := 835) (by decide +kernel), List.mem_of_getElem? (i := 1020) (by decide +kernel), List.mem_of_getElem? (i := 1021) (by decide +kernel)⟩
theorem lw_p50 : lw_okq (⟨"SewnUpModel", "says", "(IIII)I"⟩, 50) := ⟨⟨by decide +kernel, by decide +kernel⟩, List.mem_of_getElem? (i := 835) (by decide +kernel), List.mem_of_getElem? (i := 1024) (by decide +kernel), List.mem_of_getElem? (i := 1025) (by decide +kernel)⟩
theorem lw_p51 : lw_okq (⟨"SewnUpModel", "read", "(II)I"⟩, 50) := ⟨⟨by decide +kernel, by decide +kernel⟩, List.mem_of_getElem? (i := 835) (by decide +kernel), List.mem_of_getElem? (i := 1028) (by decide +kernel), List.mem_of_getElem? (i := 1029) (by decide +kernel)⟩
theorem lw_p52 : lw_okq (⟨"SewnUpModel", "next", "()V"⟩, 50) := ⟨⟨by decide +kernel, by decide +kernel⟩, List.mem_of_getElem? (i := 835) (by decide +kernel), List.mem_of_getElem? (i := 1032) (by decide +kernel), List.mem_of_getElem? (i := 1033) (by decide +kernel)⟩
theorem lw_p53 : lw_okq (⟨"SewnUpModel", "byteAt", "(I)I"⟩, 50) := ⟨⟨by decide +kernel, by decide +kernel⟩, List.mem_of_getElem? (i := 835) (by decide +kernel), List.mem_of_getElem? (i := 1036) (by decide +kernel), List.mem_of_getElem? (i := 1037) (by decide +kernel)⟩
theorem lw_p54 : lw_okq (⟨"SewnUpModel", "isWord", "(IIIIIIII)Z"⟩, 50) := ⟨⟨by decide +kernel, by decide +kernel⟩, List.mem_of_getElem? (i := 835) (by decide +kernel), List.mem_of_getElem? (i := 1044) (by decide +kernel), List.mem_of_getElem? (i := 1045) (by decide +kernel)⟩
theorem lw_p55 : lw_okq (⟨"SewnUpModel", "isLetter", "(II)Z"⟩, 50) := ⟨⟨by decide +kernel, by decide +kernel⟩, List.mem_of_getElem? (i := 835) (by decide +kernel), List.mem_of_getElem? (i := 1048) (by decide +kernel), List.mem_of_getElem? (i := 1049) (by decide +kernel)⟩
theorem lw_p56 : lw_okq (⟨"SewnUpModel", "part", "(Z)I"⟩, 50) := ⟨⟨by decide +kernel, by decide +kernel⟩, List.mem_of_getElem? (i := 835) (by decide +kernel), List.mem_of_getElem? (i := 1052) (by decide +kernel), List.mem_of_getElem? (i := 1053) (by decide +kernel)⟩
theorem lw_p57 : lw_okq (⟨"SewnUpModel", "fail", "()V"⟩, 50) := ⟨⟨by decide +kernel, by decide +kernel⟩, List.mem_of_getElem? (i := 835) (by decide +kernel), List.mem_of_getElem? (i := 1056) (by decide +kernel), List.mem_of_getElem? (i := 1057) (by decide +kernel)⟩
theorem lw_p58 : lw_okq (⟨"SewnUpModel", "either", "()I"⟩, 50) := ⟨⟨by decide +kernel, by decide +kernel⟩, List.mem_of_getElem? (i := 835) (by decide +kernel), List.mem_of_getElem? (i := 1060) (by decide +kernel), List.mem_of_getElem? (i := 1061) (by decide +kernel)⟩
theorem lw_p59 : lw_okq (⟨"SewnUpModel", "both", "()I"⟩, 50) := ⟨⟨by decide +kernel, by decide +kernel⟩, List.mem_of_getElem? (i := 835) (by decide +kernel), List.mem_of_getElem? (i := 1064) (by decide +kernel), List.mem_of_getElem? (i := 1065) (by decide +kernel)⟩
theorem lw_p60 : lw_okq (⟨"SewnUpModel", "not", "()I"⟩, 50) := ⟨⟨by decide +kernel, by decide +kernel⟩, List.mem_of_getElem? (i := 835) (by decide +kernel), List.mem_of_getElem? (i := 1068) (by decide +kernel), List.mem_of_getElem? (i := 1069) (by decide +kernel)⟩
theorem lw_p61 : lw_okq (⟨"SewnUpModel", "opens", "()Z"⟩, 50) := ⟨⟨by decide +kernel, by decide +kernel⟩, List.mem_of_getElem? (i := 835) (by decide +kernel), List.mem_of_getElem? (i := 1072) (by decide +kernel), List.mem_of_getElem? (i := 1073) (by decide +kernel)⟩
theorem lw_p62 : lw_okq (⟨"SewnUpModel", "added", "()I"⟩, 50) := ⟨⟨by decide +kernel, by decide +kernel⟩, List.mem_of_getElem? (i := 835) (by decide +kernel), List.mem_of_getElem? (i := 1076) (by decide +kernel), List.mem_of_getElem? (i := 1077) (by decide +kernel)⟩
theorem lw_p63 : lw_okq (⟨"SewnUpModel", "term", "()I"⟩, 50) := ⟨⟨by decide +kernel, by decide +kernel⟩, List.mem_of_getElem? (i := 835) (by decide +kernel), List.mem_of_getElem? (i := 1080) (by decide +kernel), List.mem_of_getElem? (i := 1081) (by decide +kernel)⟩
def lw_privs_4 : List (MethodName × Nat) := [(⟨"SewnUpModel", "thingOf", "(I)I"⟩, 50), (⟨"SewnUpModel", "heatsOf", "(III)I"⟩, 50), (⟨"SewnUpModel", "says", "(IIII)I"⟩, 50), (⟨"SewnUpModel", "read", "(II)I"⟩, 50), (⟨"SewnUpModel", "next", "()V"⟩, 50), (⟨"SewnUpModel", "byteAt", "(I)I"⟩, 50), (⟨"SewnUpModel", "isWord", "(IIIIIIII)Z"⟩, 50), (⟨"SewnUpModel", "isLetter", "(II)Z"⟩, 50), (⟨"SewnUpModel", "part", "(Z)I"⟩, 50), (⟨"SewnUpModel", "fail", "()V"⟩, 50), (⟨"SewnUpModel", "either", "()I"⟩, 50), (⟨"SewnUpModel", "both", "()I"⟩, 50), (⟨"SewnUpModel", "not", "()I"⟩, 50), (⟨"SewnUpModel", "opens", "()Z"⟩, 50), (⟨"SewnUpModel", "added", "()I"⟩, 50), (⟨"SewnUpModel", "term", "()I"⟩, 50)]
theorem lw_r4 : ∀ q ∈ lw_privs_4, lw_okq q := List.forall_mem_cons.mpr ⟨lw_p48, List.forall_mem_cons.mpr ⟨lw_p49, List.forall_mem_cons.mpr ⟨lw_p50, List.forall_mem_cons.mpr ⟨lw_p51, List.forall_mem_cons.mpr ⟨lw_p52, List.forall_mem_cons.mpr ⟨lw_p53, List.forall_mem_cons.mpr ⟨lw_p54, List.forall_mem_cons.mpr ⟨lw_p55, List.forall_mem_cons.mpr ⟨lw_p56, List.forall_mem_cons.mpr ⟨lw_p57, List.forall_mem_cons.mpr ⟨lw_p58, List.forall_mem_cons.mpr ⟨lw_p59, List.forall_mem_cons.mpr ⟨lw_p60, List.forall_mem_cons.mpr ⟨lw_p61, List.forall_mem_cons.mpr ⟨lw_p62, List.forall_mem_cons.mpr ⟨lw_p63, fun _ h => absurd h List.not_mem_nil⟩⟩⟩⟩⟩⟩⟩⟩⟩⟩⟩⟩⟩⟩⟩⟩
theorem lw_p64 : lw_okq (⟨"SewnUpModel", "atom", "()I"⟩, 50) := ⟨⟨by decide +kernel, by decide +kernel⟩, List.mem_of_getElem? (i := 835) (by decide +kernel), List.mem_of_getElem? (i := 1084) (by decide +kernel), List.mem_of_getElem? (i := 1085) (by decide +kernel)⟩
theorem lw_p65 : lw_okq (⟨"SewnUpModel", "isSign", "(I)Z"⟩, 50) := ⟨⟨by decide +kernel, by decide +kernel⟩, List.mem_of_getElem? (i := 835) (by decide +kernel), List.mem_of_getElem? (i := 1088) (by decide +kernel), List.mem_of_getElem? (i := 1089) (by decide +kernel)⟩
theorem lw_p66 : lw_okq (⟨"SewnUpModel", "name", "()I"⟩, 50) := ⟨⟨by decide +kernel, by decide +kernel⟩, List.mem_of_getElem? (i := 835) (by decide +kernel), List.mem_of_getElem? (i := 1092) (by decide +kernel), List.mem_of_getElem? (i := 1093) (by decide +kernel)⟩
theorem lw_p67 : lw_okq (⟨"SewnUpModel", "calmsOf", "(III)I"⟩, 50) := ⟨⟨by decide +kernel, by decide +kernel⟩, List.mem_of_getElem? (i := 835) (by decide +kernel), List.mem_of_getElem? (i := 1101) (by decide +kernel), List.mem_of_getElem? (i := 1102) (by decide +kernel)⟩
theorem lw_p68 : lw_okq (⟨"SewnUpModel", "feelsOf", "(II)I"⟩, 50) := ⟨⟨by decide +kernel, by decide +kernel⟩, List.mem_of_getElem? (i := 835) (by decide +kernel), List.mem_of_getElem? (i := 1105) (by decide +kernel), List.mem_of_getElem? (i := 1106) (by decide +kernel)⟩
theorem lw_p69 : lw_okq (⟨"SewnUpModel", "lays", "(III)V"⟩, 50) := ⟨⟨by decide +kernel, by decide +kernel⟩, List.mem_of_getElem? (i := 835) (by decide +kernel), List.mem_of_getElem? (i := 1109) (by decide +kernel), List.mem_of_getElem? (i := 1110) (by decide +kernel)⟩
theorem lw_p70 : lw_okq (⟨"SewnUpModel", "swaps", "(II)V"⟩, 50) := ⟨⟨by decide +kernel, by decide +kernel⟩, List.mem_of_getElem? (i := 835) (by decide +kernel), List.mem_of_getElem? (i := 1124) (by decide +kernel), List.mem_of_getElem? (i := 1125) (by decide +kernel)⟩
theorem lw_p71 : lw_okq (⟨"SewnUpModel", "lives", "(III)V"⟩, 50) := ⟨⟨by decide +kernel, by decide +kernel⟩, List.mem_of_getElem? (i := 835) (by decide +kernel), List.mem_of_getElem? (i := 1146) (by decide +kernel), List.mem_of_getElem? (i := 1147) (by decide +kernel)⟩
theorem lw_p72 : lw_okq (⟨"SewnUpModel", "ringMany", "()I"⟩, 50) := ⟨⟨by decide +kernel, by decide +kernel⟩, List.mem_of_getElem? (i := 835) (by decide +kernel), List.mem_of_getElem? (i := 1160) (by decide +kernel), List.mem_of_getElem? (i := 1161) (by decide +kernel)⟩
theorem lw_p73 : lw_okq (⟨"SewnUpModel", "ringOf", "(I)I"⟩, 50) := ⟨⟨by decide +kernel, by decide +kernel⟩, List.mem_of_getElem? (i := 835) (by decide +kernel), List.mem_of_getElem? (i := 1164) (by decide +kernel), List.mem_of_getElem? (i := 1165) (by decide +kernel)⟩
theorem lw_p74 : lw_okq (⟨"SewnUpModel", "firstChange", "()I"⟩, 50) := ⟨⟨by decide +kernel, by decide +kernel⟩, List.mem_of_getElem? (i := 835) (by decide +kernel), List.mem_of_getElem? (i := 1168) (by decide +kernel), List.mem_of_getElem? (i := 1169) (by decide +kernel)⟩
theorem lw_p75 : lw_okq (⟨"SewnUpModel", "tables", "(I)V"⟩, 50) := ⟨⟨by decide +kernel, by decide +kernel⟩, List.mem_of_getElem? (i := 835) (by decide +kernel), List.mem_of_getElem? (i := 1183) (by decide +kernel), List.mem_of_getElem? (i := 1184) (by decide +kernel)⟩
theorem lw_p76 : lw_okq (⟨"SewnUpModel", "warmNow", "()I"⟩, 50) := ⟨⟨by decide +kernel, by decide +kernel⟩, List.mem_of_getElem? (i := 835) (by decide +kernel), List.mem_of_getElem? (i := 1187) (by decide +kernel), List.mem_of_getElem? (i := 1188) (by decide +kernel)⟩
theorem lw_p77 : lw_okq (⟨"SewnUpModel", "seeks", "(IIII)V"⟩, 50) := ⟨⟨by decide +kernel, by decide +kernel⟩, List.mem_of_getElem? (i := 835) (by decide +kernel), List.mem_of_getElem? (i := 1195) (by decide +kernel), List.mem_of_getElem? (i := 1196) (by decide +kernel)⟩
theorem lw_p78 : lw_okq (⟨"SewnUpModel", "fromOf", "(I)I"⟩, 50) := ⟨⟨by decide +kernel, by decide +kernel⟩, List.mem_of_getElem? (i := 835) (by decide +kernel), List.mem_of_getElem? (i := 1203) (by decide +kernel), List.mem_of_getElem? (i := 1204) (by decide +kernel)⟩
theorem lw_p79 : lw_okq (⟨"SewnUpModel", "opens1", "(II)Z"⟩, 50) := ⟨⟨by decide +kernel, by decide +kernel⟩, List.mem_of_getElem? (i := 835) (by decide +kernel), List.mem_of_getElem? (i := 1207) (by decide +kernel), List.mem_of_getElem? (i := 1208) (by decide +kernel)⟩
def lw_privs_5 : List (MethodName × Nat) := [(⟨"SewnUpModel", "atom", "()I"⟩, 50), (⟨"SewnUpModel", "isSign", "(I)Z"⟩, 50), (⟨"SewnUpModel", "name", "()I"⟩, 50), (⟨"SewnUpModel", "calmsOf", "(III)I"⟩, 50), (⟨"SewnUpModel", "feelsOf", "(II)I"⟩, 50), (⟨"SewnUpModel", "lays", "(III)V"⟩, 50), (⟨"SewnUpModel", "swaps", "(II)V"⟩, 50), (⟨"SewnUpModel", "lives", "(III)V"⟩, 50), (⟨"SewnUpModel", "ringMany", "()I"⟩, 50), (⟨"SewnUpModel", "ringOf", "(I)I"⟩, 50), (⟨"SewnUpModel", "firstChange", "()I"⟩, 50), (⟨"SewnUpModel", "tables", "(I)V"⟩, 50), (⟨"SewnUpModel", "warmNow", "()I"⟩, 50), (⟨"SewnUpModel", "seeks", "(IIII)V"⟩, 50), (⟨"SewnUpModel", "fromOf", "(I)I"⟩, 50), (⟨"SewnUpModel", "opens1", "(II)Z"⟩, 50)]
theorem lw_r5 : ∀ q ∈ lw_privs_5, lw_okq q := List.forall_mem_cons.mpr ⟨lw_p64, List.forall_mem_cons.mpr ⟨lw_p65, List.forall_mem_cons.mpr ⟨lw_p66, List.forall_mem_cons.mpr ⟨lw_p67, List.forall_mem_cons.mpr ⟨lw_p68, List.forall_mem_cons.mpr ⟨lw_p69, List.forall_mem_cons.mpr ⟨lw_p70, List.forall_mem_cons.mpr ⟨lw_p71, List.forall_mem_cons.mpr ⟨lw_p72, List.forall_mem_cons.mpr ⟨lw_p73, List.forall_mem_cons.mpr ⟨lw_p74, List.forall_mem_cons.mpr ⟨lw_p75, List.forall_mem_cons.mpr ⟨lw_p76, List.forall_mem_cons.mpr ⟨lw_p77, List.forall_mem_cons.mpr ⟨lw_p78, List.forall_mem_cons.mpr ⟨lw_p79, fun _ h => absurd h List.not_mem_nil⟩⟩⟩⟩⟩⟩⟩⟩⟩⟩⟩⟩⟩⟩⟩⟩
theorem lw_p80 : lw_okq (⟨"SewnUpModel", "unlike", "(I)I"⟩, 50) := ⟨⟨by decide +kernel, by decide +kernel⟩, List.mem_of_getElem? (i := 835) (by decide +kernel), List.mem_of_getElem? (i := 1224) (by decide +kernel), List.mem_of_getElem? (i := 1225) (by decide +kernel)⟩
theorem lw_p81 : lw_okq (⟨"SewnUpModel", "looksAll", "(I)V"⟩, 50) := ⟨⟨by decide +kernel, by decide +kernel⟩, List.mem_of_getElem? (i := 835) (by decide +kernel), List.mem_of_getElem? (i := 1228) (by decide +kernel), List.mem_of_getElem? (i := 1229) (by decide +kernel)⟩
theorem lw_p82 : lw_okq (⟨"SewnUpModel", "looks", "(III)V"⟩, 50) := ⟨⟨by decide +kernel, by decide +kernel⟩, List.mem_of_getElem? (i := 835) (by decide +kernel), List.mem_of_getElem? (i := 1232) (by decide +kernel), List.mem_of_getElem? (i := 1233) (by decide +kernel)⟩
theorem lw_p83 : lw_okq (⟨"SewnUpModel", "sure", "()I"⟩, 50) := ⟨⟨by decide +kernel, by decide +kernel⟩, List.mem_of_getElem? (i := 835) (by decide +kernel), List.mem_of_getElem? (i := 1236) (by decide +kernel), List.mem_of_getElem? (i := 1237) (by decide +kernel)⟩
theorem lw_p84 : lw_okq (⟨"SewnUpModel", "draws", "(I)V"⟩, 50) := ⟨⟨by decide +kernel, by decide +kernel⟩, List.mem_of_getElem? (i := 835) (by decide +kernel), List.mem_of_getElem? (i := 1254) (by decide +kernel), List.mem_of_getElem? (i := 1255) (by decide +kernel)⟩
theorem lw_p85 : lw_okq (⟨"SewnUpModel", "laysBack", "()V"⟩, 50) := ⟨⟨by decide +kernel, by decide +kernel⟩, List.mem_of_getElem? (i := 835) (by decide +kernel), List.mem_of_getElem? (i := 1260) (by decide +kernel), List.mem_of_getElem? (i := 1261) (by decide +kernel)⟩
def lw_privs_6 : List (MethodName × Nat) := [(⟨"SewnUpModel", "unlike", "(I)I"⟩, 50), (⟨"SewnUpModel", "looksAll", "(I)V"⟩, 50), (⟨"SewnUpModel", "looks", "(III)V"⟩, 50), (⟨"SewnUpModel", "sure", "()I"⟩, 50), (⟨"SewnUpModel", "draws", "(I)V"⟩, 50), (⟨"SewnUpModel", "laysBack", "()V"⟩, 50)]
theorem lw_r6 : ∀ q ∈ lw_privs_6, lw_okq q := List.forall_mem_cons.mpr ⟨lw_p80, List.forall_mem_cons.mpr ⟨lw_p81, List.forall_mem_cons.mpr ⟨lw_p82, List.forall_mem_cons.mpr ⟨lw_p83, List.forall_mem_cons.mpr ⟨lw_p84, List.forall_mem_cons.mpr ⟨lw_p85, fun _ h => absurd h List.not_mem_nil⟩⟩⟩⟩⟩⟩
def lw_privs : List (MethodName × Nat) := lw_privs_1 ++ (lw_privs_2 ++ (lw_privs_3 ++ (lw_privs_4 ++ (lw_privs_5 ++ (lw_privs_6)))))
def lw_tbl : List Cond := k2_sels lw_privs ++ tables_1
theorem lw_privs_ok : ∀ q ∈ lw_privs, lw_okq q := by
  show ∀ q ∈ lw_privs_1 ++ (lw_privs_2 ++ (lw_privs_3 ++ (lw_privs_4 ++ (lw_privs_5 ++ (lw_privs_6))))), lw_okq q
  exact List.forall_mem_append.mpr ⟨lw_r1, List.forall_mem_append.mpr ⟨lw_r2, List.forall_mem_append.mpr ⟨lw_r3, List.forall_mem_append.mpr ⟨lw_r4, List.forall_mem_append.mpr ⟨lw_r5, lw_r6⟩⟩⟩⟩⟩
-- ===== end of PART A; then your names; then what follows =====
end
section
def RX0 : String := "SewnUp$Groom"
def TX0 : u_T := fun k => match k with
  | 0 => ("SewnUp$Groom", "kind", "I", false)
  | 1 => ("SewnUp$Groom", "number", "I", false)
  | 2 => ("SewnUp$Groom", "thing", "I", false)
  | 3 => ("SewnUp$Groom", "temper", "I", false)
  | _ => ("SewnUp$Groom", "wears", "I", false)
def tyX0 : Nat → FieldType := fun k => match k with
  | 0 => .int
  | 1 => .int
  | 2 => .int
  | 3 => .int
  | _ => .int
abbrev wsX00 : List Cond := u_ws RX0 TX0 5
theorem nmX0 : ∀ a, a < 5 → ∀ b, b < 5 → a ≠ b → (TX0 a).2.1 ≠ (TX0 b).2.1 := by decide +kernel
theorem tyX0_ok : ∀ k, k < 5 → parseFieldDescriptor (TX0 k).2.2.1 = some (tyX0 k) := by decide +kernel
abbrev cX0_init : ByteArray := prog_2_method_1_code
def yX0_init : MethodName := ⟨RX0, "<init>", "()V"⟩
abbrev cX0_become : ByteArray := prog_2_method_2_code
def yX0_become : MethodName := ⟨RX0, "become", "(LSewnUp$Groom;)V"⟩
def RX1 : String := "SewnUp$House"
def TX1 : u_T := fun k => match k with
  | 0 => ("SewnUp$House", "day", "I", false)
  | 1 => ("SewnUp$House", "limit", "I", false)
  | 2 => ("SewnUp$House", "rule", "I", false)
  | 3 => ("SewnUp$House", "size", "I", false)
  | _ => ("SewnUp$House", "grooms", "[LSewnUp$Groom;", true)
def tyX1 : Nat → FieldType := fun k => match k with
  | 0 => .int
  | 1 => .int
  | 2 => .int
  | 3 => .int
  | _ => .array (.object "SewnUp$Groom")
abbrev wsX10 : List Cond := u_ws RX1 TX1 5
theorem nmX1 : ∀ a, a < 5 → ∀ b, b < 5 → a ≠ b → (TX1 a).2.1 ≠ (TX1 b).2.1 := by decide +kernel
theorem tyX1_ok : ∀ k, k < 5 → parseFieldDescriptor (TX1 k).2.2.1 = some (tyX1 k) := by decide +kernel
abbrev cX1_init : ByteArray := prog_3_method_1_code
def yX1_init : MethodName := ⟨RX1, "<init>", "()V"⟩
abbrev cX1_become : ByteArray := prog_3_method_2_code
def yX1_become : MethodName := ⟨RX1, "become", "(LSewnUp$House;)V"⟩
abbrev cX1_warm : ByteArray := prog_3_method_3_code
def yX1_warm : MethodName := ⟨RX1, "warm", "()I"⟩
abbrev cX1_boiling : ByteArray := prog_3_method_4_code
def yX1_boiling : MethodName := ⟨RX1, "boiling", "()I"⟩
def RX2 : String := "SewnUp$Man"
def TX2 : u_T := fun k => match k with
  | 0 => ("SewnUp$Man", "kind", "I", false)
  | 1 => ("SewnUp$Man", "number", "I", false)
  | 2 => ("SewnUp$Man", "has", "I", false)
  | 3 => ("SewnUp$Man", "temper", "I", false)
  | 4 => ("SewnUp$Man", "day", "I", false)
  | 5 => ("SewnUp$Man", "coat", "I", false)
  | 6 => ("SewnUp$Man", "own", "I", false)
  | 7 => ("SewnUp$Man", "boils", "I", false)
  | 8 => ("SewnUp$Man", "firstBoil", "I", false)
  | _ => ("SewnUp$Man", "names", "[I", true)
def tyX2 : Nat → FieldType := fun k => match k with
  | 0 => .int
  | 1 => .int
  | 2 => .int
  | 3 => .int
  | 4 => .int
  | 5 => .int
  | 6 => .int
  | 7 => .int
  | 8 => .int
  | _ => .array .int
abbrev wsX20 : List Cond := u_ws RX2 TX2 10
theorem nmX2 : ∀ a, a < 10 → ∀ b, b < 10 → a ≠ b → (TX2 a).2.1 ≠ (TX2 b).2.1 := by decide +kernel
theorem tyX2_ok : ∀ k, k < 10 → parseFieldDescriptor (TX2 k).2.2.1 = some (tyX2 k) := by decide +kernel
abbrev cX2_init : ByteArray := prog_4_method_1_code
def yX2_init : MethodName := ⟨RX2, "<init>", "()V"⟩
abbrev cX2_heats : ByteArray := prog_4_method_2_code
def yX2_heats : MethodName := ⟨RX2, "heats", "(LSewnUp$Text;)I"⟩
abbrev cX2_calms : ByteArray := prog_4_method_3_code
def yX2_calms : MethodName := ⟨RX2, "calms", "(LSewnUp$Text;)I"⟩
abbrev cX2_feels : ByteArray := prog_4_method_4_code
def yX2_feels : MethodName := ⟨RX2, "feels", "(LSewnUp$Text;)I"⟩
abbrev cX2_boilsInADay : ByteArray := prog_4_method_5_code
def yX2_boilsInADay : MethodName := ⟨RX2, "boilsInADay", "(LSewnUp$Text;I)Z"⟩
abbrev cX2_lives : ByteArray := prog_4_method_6_code
def yX2_lives : MethodName := ⟨RX2, "lives", "(LSewnUp$Text;II)V"⟩
abbrev cX2_nameAll : ByteArray := prog_4_method_7_code
def yX2_nameAll : MethodName := ⟨RX2, "nameAll", "()V"⟩
abbrev cX2_nameNone : ByteArray := prog_4_method_8_code
def yX2_nameNone : MethodName := ⟨RX2, "nameNone", "()V"⟩
def RX3 : String := "SewnUp$Pockets"
def TX3 : u_T := fun k => match k with
  | 0 => ("SewnUp$Pockets", "size", "I", false)
  | 1 => ("SewnUp$Pockets", "numbers", "[I", true)
  | 2 => ("SewnUp$Pockets", "things", "[I", true)
  | _ => ("SewnUp$Pockets", "opened", "[I", true)
def tyX3 : Nat → FieldType := fun k => match k with
  | 0 => .int
  | 1 => .array .int
  | 2 => .array .int
  | _ => .array .int
abbrev wsX30 : List Cond := u_ws RX3 TX3 4
theorem nmX3 : ∀ a, a < 4 → ∀ b, b < 4 → a ≠ b → (TX3 a).2.1 ≠ (TX3 b).2.1 := by decide +kernel
theorem tyX3_ok : ∀ k, k < 4 → parseFieldDescriptor (TX3 k).2.2.1 = some (tyX3 k) := by decide +kernel
abbrev cX3_init : ByteArray := prog_5_method_1_code
def yX3_init : MethodName := ⟨RX3, "<init>", "()V"⟩
abbrev cX3_draw : ByteArray := prog_5_method_2_code
def yX3_draw : MethodName := ⟨RX3, "draw", "(I)V"⟩
abbrev cX3_open : ByteArray := prog_5_method_3_code
def yX3_open : MethodName := ⟨RX3, "open", "()V"⟩
abbrev cX3_openedBy : ByteArray := prog_5_method_4_code
def yX3_openedBy : MethodName := ⟨RX3, "openedBy", "(I)I"⟩
abbrev cX3_openedFrom : ByteArray := prog_5_method_5_code
def yX3_openedFrom : MethodName := ⟨RX3, "openedFrom", "(I)I"⟩
abbrev cX3_key : ByteArray := prog_5_method_6_code
def yX3_key : MethodName := ⟨RX3, "key", "()I"⟩
abbrev cX3_mostOpened : ByteArray := prog_5_method_7_code
def yX3_mostOpened : MethodName := ⟨RX3, "mostOpened", "()I"⟩
abbrev cX3_areAllFromOne : ByteArray := prog_5_method_8_code
def yX3_areAllFromOne : MethodName := ⟨RX3, "areAllFromOne", "()Z"⟩
abbrev cX3_fewest : ByteArray := prog_5_method_9_code
def yX3_fewest : MethodName := ⟨RX3, "fewest", "()I"⟩
def RX4 : String := "SewnUp$Reader"
def TX4 : u_T := fun k => match k with
  | 0 => ("SewnUp$Reader", "tape", "LSewnUp$Tape;", true)
  | 1 => ("SewnUp$Reader", "into", "LSewnUp$Text;", false)
  | 2 => ("SewnUp$Reader", "length", "I", false)
  | 3 => ("SewnUp$Reader", "at", "I", false)
  | _ => ("SewnUp$Reader", "token", "I", false)
def tyX4 : Nat → FieldType := fun k => match k with
  | 0 => .object "SewnUp$Tape"
  | 1 => .object "SewnUp$Text"
  | 2 => .int
  | 3 => .int
  | _ => .int
abbrev wsX40 : List Cond := u_ws RX4 TX4 5
theorem nmX4 : ∀ a, a < 5 → ∀ b, b < 5 → a ≠ b → (TX4 a).2.1 ≠ (TX4 b).2.1 := by decide +kernel
theorem tyX4_ok : ∀ k, k < 5 → parseFieldDescriptor (TX4 k).2.2.1 = some (tyX4 k) := by decide +kernel
abbrev cX4_init : ByteArray := prog_6_method_1_code
def yX4_init : MethodName := ⟨RX4, "<init>", "()V"⟩
abbrev cX4_read : ByteArray := prog_6_method_2_code
def yX4_read : MethodName := ⟨RX4, "read", "(LSewnUp$Text;)I"⟩
abbrev cX4_readsParts : ByteArray := prog_6_method_3_code
def yX4_readsParts : MethodName := ⟨RX4, "readsParts", "()Z"⟩
abbrev cX4_readsAny : ByteArray := prog_6_method_4_code
def yX4_readsAny : MethodName := ⟨RX4, "readsAny", "(I)Z"⟩
abbrev cX4_readsAll : ByteArray := prog_6_method_5_code
def yX4_readsAll : MethodName := ⟨RX4, "readsAll", "(I)Z"⟩
abbrev cX4_readsNot : ByteArray := prog_6_method_6_code
def yX4_readsNot : MethodName := ⟨RX4, "readsNot", "(I)Z"⟩
abbrev cX4_readsLess : ByteArray := prog_6_method_7_code
def yX4_readsLess : MethodName := ⟨RX4, "readsLess", "(I)Z"⟩
abbrev cX4_readsSum : ByteArray := prog_6_method_8_code
def yX4_readsSum : MethodName := ⟨RX4, "readsSum", "(I)Z"⟩
abbrev cX4_readsTerm : ByteArray := prog_6_method_9_code
def yX4_readsTerm : MethodName := ⟨RX4, "readsTerm", "(I)Z"⟩
abbrev cX4_readsOne : ByteArray := prog_6_method_10_code
def yX4_readsOne : MethodName := ⟨RX4, "readsOne", "(I)Z"⟩
abbrev cX4_eats : ByteArray := prog_6_method_11_code
def yX4_eats : MethodName := ⟨RX4, "eats", "(I)Z"⟩
abbrev cX4_pass : ByteArray := prog_6_method_12_code
def yX4_pass : MethodName := ⟨RX4, "pass", "()V"⟩
abbrev cX4_begin : ByteArray := prog_6_method_13_code
def yX4_begin : MethodName := ⟨RX4, "begin", "(I)V"⟩
abbrev cX4_put : ByteArray := prog_6_method_14_code
def yX4_put : MethodName := ⟨RX4, "put", "(I)V"⟩
def RX5 : String := "SewnUp$Sheet"
def TX5 : u_T := fun k => match k with
  | 0 => ("SewnUp$Sheet", "sort", "I", false)
  | 1 => ("SewnUp$Sheet", "size", "I", false)
  | _ => ("SewnUp$Sheet", "items", "[I", true)
def tyX5 : Nat → FieldType := fun k => match k with
  | 0 => .int
  | 1 => .int
  | _ => .array .int
abbrev wsX50 : List Cond := u_ws RX5 TX5 3
theorem nmX5 : ∀ a, a < 3 → ∀ b, b < 3 → a ≠ b → (TX5 a).2.1 ≠ (TX5 b).2.1 := by decide +kernel
theorem tyX5_ok : ∀ k, k < 3 → parseFieldDescriptor (TX5 k).2.2.1 = some (tyX5 k) := by decide +kernel
abbrev cX5_init : ByteArray := prog_7_method_1_code
def yX5_init : MethodName := ⟨RX5, "<init>", "()V"⟩
abbrev cX5_isMissing : ByteArray := prog_7_method_2_code
def yX5_isMissing : MethodName := ⟨RX5, "isMissing", "()Z"⟩
abbrev cX5_become : ByteArray := prog_7_method_3_code
def yX5_become : MethodName := ⟨RX5, "become", "(II)V"⟩
abbrev cX5_put : ByteArray := prog_7_method_4_code
def yX5_put : MethodName := ⟨RX5, "put", "(II)V"⟩
abbrev cX5_has : ByteArray := prog_7_method_5_code
def yX5_has : MethodName := ⟨RX5, "has", "(II)Z"⟩
def RX6 : String := "SewnUp$Tape"
def TX6 : u_T := fun k => match k with
  | 0 => ("SewnUp$Tape", "bytes", "[I", true)
  | 1 => ("SewnUp$Tape", "size", "I", false)
  | 2 => ("SewnUp$Tape", "tokens", "[I", true)
  | 3 => ("SewnUp$Tape", "places", "[I", true)
  | 4 => ("SewnUp$Tape", "values", "[I", true)
  | _ => ("SewnUp$Tape", "next", "I", false)
def tyX6 : Nat → FieldType := fun k => match k with
  | 0 => .array .int
  | 1 => .int
  | 2 => .array .int
  | 3 => .array .int
  | 4 => .array .int
  | _ => .int
abbrev wsX60 : List Cond := u_ws RX6 TX6 6
theorem nmX6 : ∀ a, a < 6 → ∀ b, b < 6 → a ≠ b → (TX6 a).2.1 ≠ (TX6 b).2.1 := by decide +kernel
theorem tyX6_ok : ∀ k, k < 6 → parseFieldDescriptor (TX6 k).2.2.1 = some (tyX6 k) := by decide +kernel
abbrev cX6_init : ByteArray := prog_8_method_1_code
def yX6_init : MethodName := ⟨RX6, "<init>", "()V"⟩
abbrev cX6_write : ByteArray := prog_8_method_2_code
def yX6_write : MethodName := ⟨RX6, "write", "(Ljava/lang/String;)V"⟩
abbrev cX6_cut : ByteArray := prog_8_method_3_code
def yX6_cut : MethodName := ⟨RX6, "cut", "()V"⟩
abbrev cX6_passBlanks : ByteArray := prog_8_method_4_code
def yX6_passBlanks : MethodName := ⟨RX6, "passBlanks", "()V"⟩
abbrev cX6_cutOne : ByteArray := prog_8_method_5_code
def yX6_cutOne : MethodName := ⟨RX6, "cutOne", "(I)I"⟩
abbrev cX6_cutWord : ByteArray := prog_8_method_6_code
def yX6_cutWord : MethodName := ⟨RX6, "cutWord", "()I"⟩
abbrev cX6_isSpelled : ByteArray := prog_8_method_7_code
def yX6_isSpelled : MethodName := ⟨RX6, "isSpelled", "(ILjava/lang/String;)Z"⟩
abbrev cX6_cutNumber : ByteArray := prog_8_method_8_code
def yX6_cutNumber : MethodName := ⟨RX6, "cutNumber", "(I)I"⟩
abbrev cX6_signAt : ByteArray := prog_8_method_9_code
def yX6_signAt : MethodName := ⟨RX6, "signAt", "(I)I"⟩
abbrev cX6_isLetter : ByteArray := prog_8_method_10_code
def yX6_isLetter : MethodName := ⟨RX6, "isLetter", "(I)Z"⟩
abbrev cX6_isDigit : ByteArray := prog_8_method_11_code
def yX6_isDigit : MethodName := ⟨RX6, "isDigit", "(I)Z"⟩
abbrev cX6_spelling : ByteArray := prog_8_method_12_code
def yX6_spelling : MethodName := ⟨RX6, "spelling", "(I)Ljava/lang/String;"⟩
def RX7 : String := "SewnUp$Text"
def TX7 : u_T := fun k => match k with
  | 0 => ("SewnUp$Text", "codes", "[I", true)
  | 1 => ("SewnUp$Text", "begins", "[I", true)
  | _ => ("SewnUp$Text", "stack", "[I", true)
def tyX7 : Nat → FieldType := fun k => match k with
  | 0 => .array .int
  | 1 => .array .int
  | _ => .array .int
abbrev wsX70 : List Cond := u_ws RX7 TX7 3
theorem nmX7 : ∀ a, a < 3 → ∀ b, b < 3 → a ≠ b → (TX7 a).2.1 ≠ (TX7 b).2.1 := by decide +kernel
theorem tyX7_ok : ∀ k, k < 3 → parseFieldDescriptor (TX7 k).2.2.1 = some (tyX7 k) := by decide +kernel
abbrev cX7_init : ByteArray := prog_9_method_1_code
def yX7_init : MethodName := ⟨RX7, "<init>", "()V"⟩
abbrev cX7_answer : ByteArray := prog_9_method_2_code
def yX7_answer : MethodName := ⟨RX7, "answer", "(I[I)I"⟩
abbrev cX7_joined : ByteArray := prog_9_method_3_code
def yX7_joined : MethodName := ⟨RX7, "joined", "(III)I"⟩
def RX8 : String := "SewnUp$Ways"
def TX8 : u_T := fun k => match k with
  | 0 => ("SewnUp$Ways", "size", "I", false)
  | 1 => ("SewnUp$Ways", "many", "I", false)
  | 2 => ("SewnUp$Ways", "coats", "[I", true)
  | _ => ("SewnUp$Ways", "marked", "[I", true)
def tyX8 : Nat → FieldType := fun k => match k with
  | 0 => .int
  | 1 => .int
  | 2 => .array .int
  | _ => .array .int
abbrev wsX80 : List Cond := u_ws RX8 TX8 4
theorem nmX8 : ∀ a, a < 4 → ∀ b, b < 4 → a ≠ b → (TX8 a).2.1 ≠ (TX8 b).2.1 := by decide +kernel
theorem tyX8_ok : ∀ k, k < 4 → parseFieldDescriptor (TX8 k).2.2.1 = some (tyX8 k) := by decide +kernel
abbrev cX8_init : ByteArray := prog_10_method_1_code
def yX8_init : MethodName := ⟨RX8, "<init>", "()V"⟩
abbrev cX8_begin : ByteArray := prog_10_method_2_code
def yX8_begin : MethodName := ⟨RX8, "begin", "(I)V"⟩
abbrev cX8_step : ByteArray := prog_10_method_3_code
def yX8_step : MethodName := ⟨RX8, "step", "()V"⟩
abbrev cX8_swap : ByteArray := prog_10_method_4_code
def yX8_swap : MethodName := ⟨RX8, "swap", "(II)V"⟩
abbrev cX8_digits : ByteArray := prog_10_method_5_code
def yX8_digits : MethodName := ⟨RX8, "digits", "()I"⟩
abbrev cX8_isAmong : ByteArray := prog_10_method_6_code
def yX8_isAmong : MethodName := ⟨RX8, "isAmong", "([I)Z"⟩
abbrev cX8_mark : ByteArray := prog_10_method_7_code
def yX8_mark : MethodName := ⟨RX8, "mark", "()V"⟩
abbrev cX8_asMarked : ByteArray := prog_10_method_8_code
def yX8_asMarked : MethodName := ⟨RX8, "asMarked", "()I"⟩
def RX9 : String := "SewnUp"
def TX9 : u_T := fun k => match k with
  | 0 => ("SewnUp", "house", "LSewnUp$House;", true)
  | 1 => ("SewnUp", "kept", "LSewnUp$House;", true)
  | 2 => ("SewnUp", "isKept", "Z", false)
  | 3 => ("SewnUp", "texts", "[LSewnUp$Text;", true)
  | 4 => ("SewnUp", "textCount", "I", false)
  | 5 => ("SewnUp", "reader", "LSewnUp$Reader;", true)
  | 6 => ("SewnUp", "sheets", "[LSewnUp$Sheet;", true)
  | 7 => ("SewnUp", "man", "LSewnUp$Man;", true)
  | 8 => ("SewnUp", "ways", "LSewnUp$Ways;", true)
  | 9 => ("SewnUp", "pockets", "LSewnUp$Pockets;", true)
  | 10 => ("SewnUp", "tempers", "[[I", true)
  | _ => ("SewnUp", "fitting", "[I", true)
def tyX9 : Nat → FieldType := fun k => match k with
  | 0 => .object "SewnUp$House"
  | 1 => .object "SewnUp$House"
  | 2 => .boolean
  | 3 => .array (.object "SewnUp$Text")
  | 4 => .int
  | 5 => .object "SewnUp$Reader"
  | 6 => .array (.object "SewnUp$Sheet")
  | 7 => .object "SewnUp$Man"
  | 8 => .object "SewnUp$Ways"
  | 9 => .object "SewnUp$Pockets"
  | 10 => .array (.array .int)
  | _ => .array .int
abbrev wsX90 : List Cond := u_ws RX9 TX9 12
theorem nmX9 : ∀ a, a < 12 → ∀ b, b < 12 → a ≠ b → (TX9 a).2.1 ≠ (TX9 b).2.1 := by decide +kernel
theorem tyX9_ok : ∀ k, k < 12 → parseFieldDescriptor (TX9 k).2.2.1 = some (tyX9 k) := by decide +kernel
abbrev cX9_init : ByteArray := prog_1_method_1_code
def yX9_init : MethodName := ⟨RX9, "<init>", "()V"⟩
abbrev cX9_set : ByteArray := prog_1_method_2_code
def yX9_set : MethodName := ⟨RX9, "set", "(III)I"⟩
abbrev cX9_groom : ByteArray := prog_1_method_3_code
def yX9_groom : MethodName := ⟨RX9, "groom", "(III)I"⟩
abbrev cX9_change : ByteArray := prog_1_method_4_code
def yX9_change : MethodName := ⟨RX9, "change", "(II)I"⟩
abbrev cX9_told : ByteArray := prog_1_method_5_code
def yX9_told : MethodName := ⟨RX9, "told", "(II)I"⟩
abbrev cX9_isSettable : ByteArray := prog_1_method_6_code
def yX9_isSettable : MethodName := ⟨RX9, "isSettable", "(II)Z"⟩
abbrev cX9_settable : ByteArray := prog_1_method_7_code
def yX9_settable : MethodName := ⟨RX9, "settable", "(II)I"⟩
abbrev cX9_lastOf : ByteArray := prog_1_method_8_code
def yX9_lastOf : MethodName := ⟨RX9, "lastOf", "(I)I"⟩
abbrev cX9_isGroom : ByteArray := prog_1_method_9_code
def yX9_isGroom : MethodName := ⟨RX9, "isGroom", "(I)Z"⟩
abbrev cX9_isKind : ByteArray := prog_1_method_10_code
def yX9_isKind : MethodName := ⟨RX9, "isKind", "(I)Z"⟩
abbrev cX9_rule : ByteArray := prog_1_method_11_code
def yX9_rule : MethodName := ⟨RX9, "rule", "()LSewnUp$Text;"⟩
abbrev cX9_see : ByteArray := prog_1_method_12_code
def yX9_see : MethodName := ⟨RX9, "see", "(III)V"⟩
abbrev cX9_seeIn : ByteArray := prog_1_method_13_code
def yX9_seeIn : MethodName := ⟨RX9, "seeIn", "(II)V"⟩
abbrev cX9_seeAsIs : ByteArray := prog_1_method_14_code
def yX9_seeAsIs : MethodName := ⟨RX9, "seeAsIs", "(I)V"⟩
abbrev cX9_feed : ByteArray := prog_1_method_15_code
def yX9_feed : MethodName := ⟨RX9, "feed", "(I)I"⟩
abbrev cX9_text : ByteArray := prog_1_method_16_code
def yX9_text : MethodName := ⟨RX9, "text", "()I"⟩
abbrev cX9_force : ByteArray := prog_1_method_17_code
def yX9_force : MethodName := ⟨RX9, "force", "(I)I"⟩
abbrev cX9_day : ByteArray := prog_1_method_18_code
def yX9_day : MethodName := ⟨RX9, "day", "()I"⟩
abbrev cX9_run : ByteArray := prog_1_method_19_code
def yX9_run : MethodName := ⟨RX9, "run", "(II)I"⟩
abbrev cX9_isDays : ByteArray := prog_1_method_20_code
def yX9_isDays : MethodName := ⟨RX9, "isDays", "(II)Z"⟩
abbrev cX9_rings : ByteArray := prog_1_method_21_code
def yX9_rings : MethodName := ⟨RX9, "rings", "(I)I"⟩
abbrev cX9_ring : ByteArray := prog_1_method_22_code
def yX9_ring : MethodName := ⟨RX9, "ring", "(I)I"⟩
abbrev cX9_ringOf : ByteArray := prog_1_method_23_code
def yX9_ringOf : MethodName := ⟨RX9, "ringOf", "(I)I"⟩
abbrev cX9_ringCount : ByteArray := prog_1_method_24_code
def yX9_ringCount : MethodName := ⟨RX9, "ringCount", "()I"⟩
abbrev cX9_longestRing : ByteArray := prog_1_method_25_code
def yX9_longestRing : MethodName := ⟨RX9, "longestRing", "()I"⟩
abbrev cX9_firstChange : ByteArray := prog_1_method_26_code
def yX9_firstChange : MethodName := ⟨RX9, "firstChange", "()I"⟩
abbrev cX9_inOwn : ByteArray := prog_1_method_27_code
def yX9_inOwn : MethodName := ⟨RX9, "inOwn", "()I"⟩
abbrev cX9_better : ByteArray := prog_1_method_28_code
def yX9_better : MethodName := ⟨RX9, "better", "(II)I"⟩
abbrev cX9_best : ByteArray := prog_1_method_29_code
def yX9_best : MethodName := ⟨RX9, "best", "(II)I"⟩
abbrev cX9_foreseeTempers : ByteArray := prog_1_method_30_code
def yX9_foreseeTempers : MethodName := ⟨RX9, "foreseeTempers", "(I)V"⟩
abbrev cX9_warmerBy : ByteArray := prog_1_method_31_code
def yX9_warmerBy : MethodName := ⟨RX9, "warmerBy", "(II)I"⟩
abbrev cX9_from : ByteArray := prog_1_method_32_code
def yX9_from : MethodName := ⟨RX9, "from", "(I)I"⟩
abbrev cX9_keys : ByteArray := prog_1_method_33_code
def yX9_keys : MethodName := ⟨RX9, "keys", "(I)I"⟩
abbrev cX9_fillPockets : ByteArray := prog_1_method_34_code
def yX9_fillPockets : MethodName := ⟨RX9, "fillPockets", "()V"⟩
abbrev cX9_tells : ByteArray := prog_1_method_35_code
def yX9_tells : MethodName := ⟨RX9, "tells", "(II)I"⟩
abbrev cX9_otherwise : ByteArray := prog_1_method_36_code
def yX9_otherwise : MethodName := ⟨RX9, "otherwise", "(LSewnUp$Sheet;LSewnUp$Text;)I"⟩
abbrev cX9_textsBy : ByteArray := prog_1_method_37_code
def yX9_textsBy : MethodName := ⟨RX9, "textsBy", "(LSewnUp$Sheet;)I"⟩
abbrev cX9_wouldBeSo : ByteArray := prog_1_method_38_code
def yX9_wouldBeSo : MethodName := ⟨RX9, "wouldBeSo", "(LSewnUp$Sheet;II)I"⟩
abbrev cX9_wearerOf : ByteArray := prog_1_method_39_code
def yX9_wearerOf : MethodName := ⟨RX9, "wearerOf", "(I)I"⟩
abbrev cX9_waysBy : ByteArray := prog_1_method_40_code
def yX9_waysBy : MethodName := ⟨RX9, "waysBy", "(LSewnUp$Sheet;I)I"⟩
abbrev cX9_fitCoats : ByteArray := prog_1_method_41_code
def yX9_fitCoats : MethodName := ⟨RX9, "fitCoats", "(LSewnUp$Sheet;)V"⟩
abbrev cX9_film : ByteArray := prog_1_method_42_code
def yX9_film : MethodName := ⟨RX9, "film", "(I)I"⟩
abbrev cX9_drawn : ByteArray := prog_1_method_43_code
def yX9_drawn : MethodName := ⟨RX9, "drawn", "(II)I"⟩
abbrev cX9_chance : ByteArray := prog_1_method_44_code
def yX9_chance : MethodName := ⟨RX9, "chance", "(III)J"⟩
abbrev cX9_commonOf : ByteArray := prog_1_method_45_code
def yX9_commonOf : MethodName := ⟨RX9, "commonOf", "(II)I"⟩
abbrev cX9_image : ByteArray := prog_1_method_46_code
def yX9_image : MethodName := ⟨RX9, "image", "()I"⟩
abbrev cX9_back : ByteArray := prog_1_method_47_code
def yX9_back : MethodName := ⟨RX9, "back", "()I"⟩
abbrev cX9_count : ByteArray := prog_1_method_48_code
def yX9_count : MethodName := ⟨RX9, "count", "(I)I"⟩
abbrev cX9_sheet : ByteArray := prog_1_method_49_code
def yX9_sheet : MethodName := ⟨RX9, "sheet", "(III)I"⟩
abbrev cX9_cell : ByteArray := prog_1_method_50_code
def yX9_cell : MethodName := ⟨RX9, "cell", "(III)I"⟩
abbrev cX9_copy : ByteArray := prog_1_method_51_code
def yX9_copy : MethodName := ⟨RX9, "copy", "(IIIII)I"⟩
abbrev cX9_grooms : ByteArray := prog_1_method_52_code
def yX9_grooms : MethodName := ⟨RX9, "grooms", "(IIII)I"⟩
abbrev cX9_taken : ByteArray := prog_1_method_53_code
def yX9_taken : MethodName := ⟨RX9, "taken", "(II)I"⟩
abbrev cX9_isUnder : ByteArray := prog_1_method_54_code
def yX9_isUnder : MethodName := ⟨RX9, "isUnder", "(II)Z"⟩
abbrev cX9_isSheet : ByteArray := prog_1_method_55_code
def yX9_isSheet : MethodName := ⟨RX9, "isSheet", "(I)Z"⟩
abbrev cX9_isSort : ByteArray := prog_1_method_56_code
def yX9_isSort : MethodName := ⟨RX9, "isSort", "(I)Z"⟩
abbrev cX9_within : ByteArray := prog_1_method_57_code
def yX9_within : MethodName := ⟨RX9, "within", "(I)I"⟩
def RX10 : String := "SewnUpModel"
def TX10 : u_T := fun k => match k with
  | 0 => ("SewnUpModel", "thrown", "I", false)
  | 1 => ("SewnUpModel", "texts", "[I", true)
  | 2 => ("SewnUpModel", "textSize", "[I", true)
  | 3 => ("SewnUpModel", "textCount", "I", false)
  | 4 => ("SewnUpModel", "rule", "I", false)
  | 5 => ("SewnUpModel", "tape", "[I", true)
  | 6 => ("SewnUpModel", "taped", "I", false)
  | 7 => ("SewnUpModel", "dayNow", "I", false)
  | 8 => ("SewnUpModel", "limit", "I", false)
  | 9 => ("SewnUpModel", "kinds", "[I", true)
  | 10 => ("SewnUpModel", "rows", "[I", true)
  | 11 => ("SewnUpModel", "wears", "[I", true)
  | 12 => ("SewnUpModel", "many", "I", false)
  | 13 => ("SewnUpModel", "ofThing", "I", false)
  | 14 => ("SewnUpModel", "ofTemper", "I", false)
  | 15 => ("SewnUpModel", "ofNumber", "I", false)
  | 16 => ("SewnUpModel", "ofDay", "I", false)
  | 17 => ("SewnUpModel", "ofCoat", "I", false)
  | 18 => ("SewnUpModel", "ofOwn", "I", false)
  | 19 => ("SewnUpModel", "textFrom", "I", false)
  | 20 => ("SewnUpModel", "size", "I", false)
  | 21 => ("SewnUpModel", "here", "I", false)
  | 22 => ("SewnUpModel", "token", "I", false)
  | 23 => ("SewnUpModel", "tokenAt", "I", false)
  | 24 => ("SewnUpModel", "tokenWorth", "J", false)
  | 25 => ("SewnUpModel", "open", "I", false)
  | 26 => ("SewnUpModel", "bad", "Z", false)
  | 27 => ("SewnUpModel", "fault", "I", false)
  | 28 => ("SewnUpModel", "temperThen", "I", false)
  | 29 => ("SewnUpModel", "boilsThen", "I", false)
  | 30 => ("SewnUpModel", "firstThen", "I", false)
  | 31 => ("SewnUpModel", "table", "[I", true)
  | 32 => ("SewnUpModel", "isFound", "Z", false)
  | 33 => ("SewnUpModel", "bestDigits", "I", false)
  | 34 => ("SewnUpModel", "bestWarm", "I", false)
  | 35 => ("SewnUpModel", "ways", "I", false)
  | 36 => ("SewnUpModel", "firstWay", "I", false)
  | 37 => ("SewnUpModel", "couldWear", "[I", true)
  | 38 => ("SewnUpModel", "laid", "[I", true)
  | 39 => ("SewnUpModel", "thingsWas", "[I", true)
  | 40 => ("SewnUpModel", "rowsKept", "[I", true)
  | 41 => ("SewnUpModel", "wearsKept", "[I", true)
  | 42 => ("SewnUpModel", "manyKept", "I", false)
  | 43 => ("SewnUpModel", "dayKept", "I", false)
  | 44 => ("SewnUpModel", "limitKept", "I", false)
  | 45 => ("SewnUpModel", "ruleKept", "I", false)
  | 46 => ("SewnUpModel", "isThere", "[Z", true)
  | 47 => ("SewnUpModel", "sorts", "[I", true)
  | 48 => ("SewnUpModel", "sheetSize", "[I", true)
  | _ => ("SewnUpModel", "items", "[I", true)
def tyX10 : Nat → FieldType := fun k => match k with
  | 0 => .int
  | 1 => .array .int
  | 2 => .array .int
  | 3 => .int
  | 4 => .int
  | 5 => .array .int
  | 6 => .int
  | 7 => .int
  | 8 => .int
  | 9 => .array .int
  | 10 => .array .int
  | 11 => .array .int
  | 12 => .int
  | 13 => .int
  | 14 => .int
  | 15 => .int
  | 16 => .int
  | 17 => .int
  | 18 => .int
  | 19 => .int
  | 20 => .int
  | 21 => .int
  | 22 => .int
  | 23 => .int
  | 24 => .long
  | 25 => .int
  | 26 => .boolean
  | 27 => .int
  | 28 => .int
  | 29 => .int
  | 30 => .int
  | 31 => .array .int
  | 32 => .boolean
  | 33 => .int
  | 34 => .int
  | 35 => .int
  | 36 => .int
  | 37 => .array .int
  | 38 => .array .int
  | 39 => .array .int
  | 40 => .array .int
  | 41 => .array .int
  | 42 => .int
  | 43 => .int
  | 44 => .int
  | 45 => .int
  | 46 => .array .boolean
  | 47 => .array .int
  | 48 => .array .int
  | _ => .array .int
abbrev wsX100 : List Cond := u_ws RX10 TX10 50
theorem nmX10 : ∀ a, a < 50 → ∀ b, b < 50 → a ≠ b → (TX10 a).2.1 ≠ (TX10 b).2.1 := by decide +kernel
theorem tyX10_ok : ∀ k, k < 50 → parseFieldDescriptor (TX10 k).2.2.1 = some (tyX10 k) := by decide +kernel
abbrev cX10_in : ByteArray := prog_12_method_2_code
def yX10_in : MethodName := ⟨RX10, "in", "(JJJ)Z"⟩
abbrev cX10_within : ByteArray := prog_12_method_3_code
def yX10_within : MethodName := ⟨RX10, "within", "(III)I"⟩
abbrev cX10_init : ByteArray := prog_12_method_4_code
def yX10_init : MethodName := ⟨RX10, "<init>", "()V"⟩
abbrev cX10_spell : ByteArray := prog_12_method_5_code
def yX10_spell : MethodName := ⟨RX10, "spell", "(IIIIIIIII)V"⟩
abbrev cX10_isOne : ByteArray := prog_12_method_6_code
def yX10_isOne : MethodName := ⟨RX10, "isOne", "(I)Z"⟩
abbrev cX10_mostOf : ByteArray := prog_12_method_7_code
def yX10_mostOf : MethodName := ⟨RX10, "mostOf", "(I)I"⟩
abbrev cX10_set : ByteArray := prog_12_method_8_code
def yX10_set : MethodName := ⟨RX10, "set", "(III)I"⟩
abbrev cX10_lays : ByteArray := prog_12_method_9_code
def yX10_lays : MethodName := ⟨RX10, "lays", "(III)V"⟩
abbrev cX10_groom : ByteArray := prog_12_method_10_code
def yX10_groom : MethodName := ⟨RX10, "groom", "(III)I"⟩
abbrev cX10_swaps : ByteArray := prog_12_method_11_code
def yX10_swaps : MethodName := ⟨RX10, "swaps", "(II)V"⟩
abbrev cX10_change : ByteArray := prog_12_method_12_code
def yX10_change : MethodName := ⟨RX10, "change", "(II)I"⟩
abbrev cX10_told : ByteArray := prog_12_method_13_code
def yX10_told : MethodName := ⟨RX10, "told", "(II)I"⟩
abbrev cX10_thingOf : ByteArray := prog_12_method_14_code
def yX10_thingOf : MethodName := ⟨RX10, "thingOf", "(I)I"⟩
abbrev cX10_feed : ByteArray := prog_12_method_15_code
def yX10_feed : MethodName := ⟨RX10, "feed", "(I)I"⟩
abbrev cX10_byteAt : ByteArray := prog_12_method_16_code
def yX10_byteAt : MethodName := ⟨RX10, "byteAt", "(I)I"⟩
abbrev cX10_next : ByteArray := prog_12_method_17_code
def yX10_next : MethodName := ⟨RX10, "next", "()V"⟩
abbrev cX10_fail : ByteArray := prog_12_method_18_code
def yX10_fail : MethodName := ⟨RX10, "fail", "()V"⟩
abbrev cX10_isLetter : ByteArray := prog_12_method_19_code
def yX10_isLetter : MethodName := ⟨RX10, "isLetter", "(II)Z"⟩
abbrev cX10_isWord : ByteArray := prog_12_method_20_code
def yX10_isWord : MethodName := ⟨RX10, "isWord", "(IIIIIIII)Z"⟩
abbrev cX10_isSign : ByteArray := prog_12_method_21_code
def yX10_isSign : MethodName := ⟨RX10, "isSign", "(I)Z"⟩
abbrev cX10_opens : ByteArray := prog_12_method_22_code
def yX10_opens : MethodName := ⟨RX10, "opens", "()Z"⟩
abbrev cX10_name : ByteArray := prog_12_method_23_code
def yX10_name : MethodName := ⟨RX10, "name", "()I"⟩
abbrev cX10_atom : ByteArray := prog_12_method_24_code
def yX10_atom : MethodName := ⟨RX10, "atom", "()I"⟩
abbrev cX10_term : ByteArray := prog_12_method_25_code
def yX10_term : MethodName := ⟨RX10, "term", "()I"⟩
abbrev cX10_added : ByteArray := prog_12_method_26_code
def yX10_added : MethodName := ⟨RX10, "added", "()I"⟩
abbrev cX10_not : ByteArray := prog_12_method_27_code
def yX10_not : MethodName := ⟨RX10, "not", "()I"⟩
abbrev cX10_both : ByteArray := prog_12_method_28_code
def yX10_both : MethodName := ⟨RX10, "both", "()I"⟩
abbrev cX10_either : ByteArray := prog_12_method_29_code
def yX10_either : MethodName := ⟨RX10, "either", "()I"⟩
abbrev cX10_part : ByteArray := prog_12_method_30_code
def yX10_part : MethodName := ⟨RX10, "part", "(Z)I"⟩
abbrev cX10_read : ByteArray := prog_12_method_31_code
def yX10_read : MethodName := ⟨RX10, "read", "(II)I"⟩
abbrev cX10_text : ByteArray := prog_12_method_32_code
def yX10_text : MethodName := ⟨RX10, "text", "()I"⟩
abbrev cX10_force : ByteArray := prog_12_method_33_code
def yX10_force : MethodName := ⟨RX10, "force", "(I)I"⟩
abbrev cX10_says : ByteArray := prog_12_method_34_code
def yX10_says : MethodName := ⟨RX10, "says", "(IIII)I"⟩
abbrev cX10_heatsOf : ByteArray := prog_12_method_35_code
def yX10_heatsOf : MethodName := ⟨RX10, "heatsOf", "(III)I"⟩
abbrev cX10_calmsOf : ByteArray := prog_12_method_36_code
def yX10_calmsOf : MethodName := ⟨RX10, "calmsOf", "(III)I"⟩
abbrev cX10_feelsOf : ByteArray := prog_12_method_37_code
def yX10_feelsOf : MethodName := ⟨RX10, "feelsOf", "(II)I"⟩
abbrev cX10_lives : ByteArray := prog_12_method_38_code
def yX10_lives : MethodName := ⟨RX10, "lives", "(III)V"⟩
abbrev cX10_day : ByteArray := prog_12_method_39_code
def yX10_day : MethodName := ⟨RX10, "day", "()I"⟩
abbrev cX10_run : ByteArray := prog_12_method_40_code
def yX10_run : MethodName := ⟨RX10, "run", "(II)I"⟩
abbrev cX10_ringOf : ByteArray := prog_12_method_41_code
def yX10_ringOf : MethodName := ⟨RX10, "ringOf", "(I)I"⟩
abbrev cX10_bitsOf : ByteArray := prog_12_method_42_code
def yX10_bitsOf : MethodName := ⟨RX10, "bitsOf", "(I)I"⟩
abbrev cX10_ringMany : ByteArray := prog_12_method_43_code
def yX10_ringMany : MethodName := ⟨RX10, "ringMany", "()I"⟩
abbrev cX10_firstChange : ByteArray := prog_12_method_44_code
def yX10_firstChange : MethodName := ⟨RX10, "firstChange", "()I"⟩
abbrev cX10_rings : ByteArray := prog_12_method_45_code
def yX10_rings : MethodName := ⟨RX10, "rings", "(I)I"⟩
abbrev cX10_ring : ByteArray := prog_12_method_46_code
def yX10_ring : MethodName := ⟨RX10, "ring", "(I)I"⟩
abbrev cX10_tables : ByteArray := prog_12_method_47_code
def yX10_tables : MethodName := ⟨RX10, "tables", "(I)V"⟩
abbrev cX10_warmNow : ByteArray := prog_12_method_48_code
def yX10_warmNow : MethodName := ⟨RX10, "warmNow", "()I"⟩
abbrev cX10_better : ByteArray := prog_12_method_49_code
def yX10_better : MethodName := ⟨RX10, "better", "(II)I"⟩
abbrev cX10_seeks : ByteArray := prog_12_method_50_code
def yX10_seeks : MethodName := ⟨RX10, "seeks", "(IIII)V"⟩
abbrev cX10_best : ByteArray := prog_12_method_51_code
def yX10_best : MethodName := ⟨RX10, "best", "(II)I"⟩
abbrev cX10_opens1 : ByteArray := prog_12_method_52_code
def yX10_opens1 : MethodName := ⟨RX10, "opens1", "(II)Z"⟩
abbrev cX10_fromOf : ByteArray := prog_12_method_53_code
def yX10_fromOf : MethodName := ⟨RX10, "fromOf", "(I)I"⟩
abbrev cX10_from : ByteArray := prog_12_method_54_code
def yX10_from : MethodName := ⟨RX10, "from", "(I)I"⟩
abbrev cX10_keys : ByteArray := prog_12_method_55_code
def yX10_keys : MethodName := ⟨RX10, "keys", "(I)I"⟩
abbrev cX10_unlike : ByteArray := prog_12_method_56_code
def yX10_unlike : MethodName := ⟨RX10, "unlike", "(I)I"⟩
abbrev cX10_looks : ByteArray := prog_12_method_57_code
def yX10_looks : MethodName := ⟨RX10, "looks", "(III)V"⟩
abbrev cX10_looksAll : ByteArray := prog_12_method_58_code
def yX10_looksAll : MethodName := ⟨RX10, "looksAll", "(I)V"⟩
abbrev cX10_sure : ByteArray := prog_12_method_59_code
def yX10_sure : MethodName := ⟨RX10, "sure", "()I"⟩
abbrev cX10_tells : ByteArray := prog_12_method_60_code
def yX10_tells : MethodName := ⟨RX10, "tells", "(II)I"⟩
abbrev cX10_film : ByteArray := prog_12_method_61_code
def yX10_film : MethodName := ⟨RX10, "film", "(I)I"⟩
abbrev cX10_draws : ByteArray := prog_12_method_62_code
def yX10_draws : MethodName := ⟨RX10, "draws", "(I)V"⟩
abbrev cX10_laysBack : ByteArray := prog_12_method_63_code
def yX10_laysBack : MethodName := ⟨RX10, "laysBack", "()V"⟩
abbrev cX10_drawn : ByteArray := prog_12_method_64_code
def yX10_drawn : MethodName := ⟨RX10, "drawn", "(II)I"⟩
abbrev cX10_chance : ByteArray := prog_12_method_65_code
def yX10_chance : MethodName := ⟨RX10, "chance", "(III)J"⟩
abbrev cX10_image : ByteArray := prog_12_method_66_code
def yX10_image : MethodName := ⟨RX10, "image", "()I"⟩
abbrev cX10_back : ByteArray := prog_12_method_67_code
def yX10_back : MethodName := ⟨RX10, "back", "()I"⟩
abbrev cX10_count : ByteArray := prog_12_method_68_code
def yX10_count : MethodName := ⟨RX10, "count", "(I)I"⟩
abbrev cX10_isSheet : ByteArray := prog_12_method_69_code
def yX10_isSheet : MethodName := ⟨RX10, "isSheet", "(I)Z"⟩
abbrev cX10_sheet : ByteArray := prog_12_method_70_code
def yX10_sheet : MethodName := ⟨RX10, "sheet", "(III)I"⟩
abbrev cX10_cell : ByteArray := prog_12_method_71_code
def yX10_cell : MethodName := ⟨RX10, "cell", "(III)I"⟩
abbrev cX10_copy : ByteArray := prog_12_method_72_code
def yX10_copy : MethodName := ⟨RX10, "copy", "(IIIII)I"⟩
abbrev cX10_grooms : ByteArray := prog_12_method_73_code
def yX10_grooms : MethodName := ⟨RX10, "grooms", "(IIII)I"⟩
abbrev cX10_over : ByteArray := prog_12_method_74_code
def yX10_over : MethodName := ⟨RX10, "over", "(I)I"⟩
abbrev cX10_taken : ByteArray := prog_12_method_75_code
def yX10_taken : MethodName := ⟨RX10, "taken", "(II)I"⟩
def RJ6 : String := "java/lang/Integer"
def TJ6 : u_T := fun k => match k with
  | _ => ("", "", "", false)
def tyJ6 : Nat → FieldType := fun k => match k with
  | _ => .int
abbrev wsJ60 : List Cond := u_ws RJ6 TJ6 0
theorem nmJ6 : ∀ a, a < 0 → ∀ b, b < 0 → a ≠ b → (TJ6 a).2.1 ≠ (TJ6 b).2.1 := by decide +kernel
theorem tyJ6_ok : ∀ k, k < 0 → parseFieldDescriptor (TJ6 k).2.2.1 = some (tyJ6 k) := by decide +kernel
abbrev cJ6_bitCount_0f7a4 : ByteArray := prog_13_method_49_code
def yJ6_bitCount_0f7a4 : MethodName := ⟨RJ6, "bitCount", "(I)I"⟩
def RJ9 : String := "java/lang/Math"
def TJ9 : u_T := fun k => match k with
  | _ => ("", "", "", false)
def tyJ9 : Nat → FieldType := fun k => match k with
  | _ => .int
abbrev wsJ90 : List Cond := u_ws RJ9 TJ9 0
theorem nmJ9 : ∀ a, a < 0 → ∀ b, b < 0 → a ≠ b → (TJ9 a).2.1 ≠ (TJ9 b).2.1 := by decide +kernel
theorem tyJ9_ok : ∀ k, k < 0 → parseFieldDescriptor (TJ9 k).2.2.1 = some (tyJ9 k) := by decide +kernel
abbrev cJ9_max_7cf53 : ByteArray := prog_14_method_65_code
def yJ9_max_7cf53 : MethodName := ⟨RJ9, "max", "(II)I"⟩
abbrev cJ9_min_7cf53 : ByteArray := prog_14_method_69_code
def yJ9_min_7cf53 : MethodName := ⟨RJ9, "min", "(II)I"⟩
def RJ0 : String := "java/lang/String"
def TJ0 : u_T := fun k => match k with
  | _ => ("", "", "", false)
def tyJ0 : Nat → FieldType := fun k => match k with
  | _ => .int
abbrev wsJ00 : List Cond := u_ws RJ0 TJ0 0
theorem nmJ0 : ∀ a, a < 0 → ∀ b, b < 0 → a ≠ b → (TJ0 a).2.1 ≠ (TJ0 b).2.1 := by decide +kernel
theorem tyJ0_ok : ∀ k, k < 0 → parseFieldDescriptor (TJ0 k).2.2.1 = some (tyJ0 k) := by decide +kernel
abbrev cJ0_length_8abf5 : ByteArray := prog_15_method_54_code
def yJ0_length_8abf5 : MethodName := ⟨RJ0, "length", "()I"⟩
abbrev cJ0_charAt_5068e : ByteArray := prog_15_method_56_code
def yJ0_charAt_5068e : MethodName := ⟨RJ0, "charAt", "(I)C"⟩
abbrev cJ0_coder_7d493 : ByteArray := prog_15_method_152_code
def yJ0_coder_7d493 : MethodName := ⟨RJ0, "coder", "()B"⟩
abbrev cJ0_isLatin1_aae02 : ByteArray := prog_15_method_154_code
def yJ0_isLatin1_aae02 : MethodName := ⟨RJ0, "isLatin1", "()Z"⟩
abbrev cJ0_checkIndex_df160 : ByteArray := prog_15_method_155_code
def yJ0_checkIndex_df160 : MethodName := ⟨RJ0, "checkIndex", "(II)V"⟩
def RJ1 : String := "java/lang/StringLatin1"
def TJ1 : u_T := fun k => match k with
  | _ => ("", "", "", false)
def tyJ1 : Nat → FieldType := fun k => match k with
  | _ => .int
abbrev wsJ10 : List Cond := u_ws RJ1 TJ1 0
theorem nmJ1 : ∀ a, a < 0 → ∀ b, b < 0 → a ≠ b → (TJ1 a).2.1 ≠ (TJ1 b).2.1 := by decide +kernel
theorem tyJ1_ok : ∀ k, k < 0 → parseFieldDescriptor (TJ1 k).2.2.1 = some (tyJ1 k) := by decide +kernel
abbrev cJ1_charAt_3b067 : ByteArray := prog_16_method_2_code
def yJ1_charAt_3b067 : MethodName := ⟨RJ1, "charAt", "([BI)C"⟩
def RJ2 : String := "java/lang/StringUTF16"
def TJ2 : u_T := fun k => match k with
  | _ => ("", "", "", false)
def tyJ2 : Nat → FieldType := fun k => match k with
  | _ => .int
abbrev wsJ20 : List Cond := u_ws RJ2 TJ2 0
theorem nmJ2 : ∀ a, a < 0 → ∀ b, b < 0 → a ≠ b → (TJ2 a).2.1 ≠ (TJ2 b).2.1 := by decide +kernel
theorem tyJ2_ok : ∀ k, k < 0 → parseFieldDescriptor (TJ2 k).2.2.1 = some (tyJ2 k) := by decide +kernel
abbrev cJ2_getChar_3b067 : ByteArray := prog_17_method_5_code
def yJ2_getChar_3b067 : MethodName := ⟨RJ2, "getChar", "([BI)C"⟩
abbrev cJ2_length_9d52b : ByteArray := prog_17_method_6_code
def yJ2_length_9d52b : MethodName := ⟨RJ2, "length", "([B)I"⟩
abbrev cJ2_charAt_3b067 : ByteArray := prog_17_method_83_code
def yJ2_charAt_3b067 : MethodName := ⟨RJ2, "charAt", "([BI)C"⟩
abbrev cJ2_checkIndex_2214a : ByteArray := prog_17_method_91_code
def yJ2_checkIndex_2214a : MethodName := ⟨RJ2, "checkIndex", "(I[B)V"⟩
def RJ10 : String := "java/lang/System"
def TJ10 : u_T := fun k => match k with
  | _ => ("", "", "", false)
def tyJ10 : Nat → FieldType := fun k => match k with
  | _ => .int
abbrev wsJ100 : List Cond := u_ws RJ10 TJ10 0
theorem nmJ10 : ∀ a, a < 0 → ∀ b, b < 0 → a ≠ b → (TJ10 a).2.1 ≠ (TJ10 b).2.1 := by decide +kernel
theorem tyJ10_ok : ∀ k, k < 0 → parseFieldDescriptor (TJ10 k).2.2.1 = some (tyJ10 k) := by decide +kernel
def RJ3 : String := "jdk/internal/util/Preconditions"
def TJ3 : u_T := fun k => match k with
  | _ => ("", "", "", false)
def tyJ3 : Nat → FieldType := fun k => match k with
  | _ => .int
abbrev wsJ30 : List Cond := u_ws RJ3 TJ3 0
theorem nmJ3 : ∀ a, a < 0 → ∀ b, b < 0 → a ≠ b → (TJ3 a).2.1 ≠ (TJ3 b).2.1 := by decide +kernel
theorem tyJ3_ok : ∀ k, k < 0 → parseFieldDescriptor (TJ3 k).2.2.1 = some (tyJ3 k) := by decide +kernel
abbrev cJ3_checkIndex_8e157 : ByteArray := prog_19_method_11_code
def yJ3_checkIndex_8e157 : MethodName := ⟨RJ3, "checkIndex", "(IILjava/util/function/BiFunction;)I"⟩
def RL : String := "SewnUpLaw"
abbrev cL_law : ByteArray := code
def yL_law : MethodName := ⟨RL, "law", "([I)Z"⟩
end
section
theorem dX0_init_0 : decode cX0_init 0 = .ok (.aload_n 0, 1) := by decide +kernel
theorem dX0_init_1 : decode cX0_init 1 = .ok (.invokespecial 1, 3) := by decide +kernel
theorem dX0_init_4 : decode cX0_init 4 = .ok (.aload_n 0, 1) := by decide +kernel
theorem dX0_init_5 : decode cX0_init 5 = .ok (.iconst 0, 1) := by decide +kernel
theorem dX0_init_6 : decode cX0_init 6 = .ok (.putfield 7, 3) := by decide +kernel
theorem dX0_init_9 : decode cX0_init 9 = .ok (.aload_n 0, 1) := by decide +kernel
theorem dX0_init_10 : decode cX0_init 10 = .ok (.iconst 0, 1) := by decide +kernel
theorem dX0_init_11 : decode cX0_init 11 = .ok (.putfield 13, 3) := by decide +kernel
theorem dX0_init_14 : decode cX0_init 14 = .ok (.aload_n 0, 1) := by decide +kernel
theorem dX0_init_15 : decode cX0_init 15 = .ok (.iconst 0, 1) := by decide +kernel
theorem dX0_init_16 : decode cX0_init 16 = .ok (.putfield 16, 3) := by decide +kernel
theorem dX0_init_19 : decode cX0_init 19 = .ok (.aload_n 0, 1) := by decide +kernel
theorem dX0_init_20 : decode cX0_init 20 = .ok (.iconst 0, 1) := by decide +kernel
theorem dX0_init_21 : decode cX0_init 21 = .ok (.putfield 19, 3) := by decide +kernel
theorem dX0_init_24 : decode cX0_init 24 = .ok (.aload_n 0, 1) := by decide +kernel
theorem dX0_init_25 : decode cX0_init 25 = .ok (.iconst 0, 1) := by decide +kernel
theorem dX0_init_26 : decode cX0_init 26 = .ok (.putfield 22, 3) := by decide +kernel
theorem dX0_init_29 : decode cX0_init 29 = .ok (.return_, 1) := by decide +kernel
theorem dX0_become_0 : decode cX0_become 0 = .ok (.aload_n 0, 1) := by decide +kernel
theorem dX0_become_1 : decode cX0_become 1 = .ok (.aload_n 1, 1) := by decide +kernel
theorem dX0_become_2 : decode cX0_become 2 = .ok (.getfield 7, 3) := by decide +kernel
theorem dX0_become_5 : decode cX0_become 5 = .ok (.putfield 7, 3) := by decide +kernel
theorem dX0_become_8 : decode cX0_become 8 = .ok (.aload_n 0, 1) := by decide +kernel
theorem dX0_become_9 : decode cX0_become 9 = .ok (.aload_n 1, 1) := by decide +kernel
theorem dX0_become_10 : decode cX0_become 10 = .ok (.getfield 13, 3) := by decide +kernel
theorem dX0_become_13 : decode cX0_become 13 = .ok (.putfield 13, 3) := by decide +kernel
theorem dX0_become_16 : decode cX0_become 16 = .ok (.aload_n 0, 1) := by decide +kernel
theorem dX0_become_17 : decode cX0_become 17 = .ok (.aload_n 1, 1) := by decide +kernel
theorem dX0_become_18 : decode cX0_become 18 = .ok (.getfield 16, 3) := by decide +kernel
theorem dX0_become_21 : decode cX0_become 21 = .ok (.putfield 16, 3) := by decide +kernel
theorem dX0_become_24 : decode cX0_become 24 = .ok (.aload_n 0, 1) := by decide +kernel
theorem dX0_become_25 : decode cX0_become 25 = .ok (.aload_n 1, 1) := by decide +kernel
theorem dX0_become_26 : decode cX0_become 26 = .ok (.getfield 19, 3) := by decide +kernel
theorem dX0_become_29 : decode cX0_become 29 = .ok (.putfield 19, 3) := by decide +kernel
theorem dX0_become_32 : decode cX0_become 32 = .ok (.aload_n 0, 1) := by decide +kernel
theorem dX0_become_33 : decode cX0_become 33 = .ok (.aload_n 1, 1) := by decide +kernel
theorem dX0_become_34 : decode cX0_become 34 = .ok (.getfield 22, 3) := by decide +kernel
theorem dX0_become_37 : decode cX0_become 37 = .ok (.putfield 22, 3) := by decide +kernel
theorem dX0_become_40 : decode cX0_become 40 = .ok (.return_, 1) := by decide +kernel
theorem dX1_init_0 : decode cX1_init 0 = .ok (.aload_n 0, 1) := by decide +kernel
theorem dX1_init_1 : decode cX1_init 1 = .ok (.invokespecial 3, 3) := by decide +kernel
theorem dX1_init_4 : decode cX1_init 4 = .ok (.aload_n 0, 1) := by decide +kernel
theorem dX1_init_5 : decode cX1_init 5 = .ok (.iconst 0, 1) := by decide +kernel
theorem dX1_init_6 : decode cX1_init 6 = .ok (.putfield 9, 3) := by decide +kernel
theorem dX1_init_9 : decode cX1_init 9 = .ok (.aload_n 0, 1) := by decide +kernel
theorem dX1_init_10 : decode cX1_init 10 = .ok (.bipush 60, 2) := by decide +kernel
theorem dX1_init_12 : decode cX1_init 12 = .ok (.putfield 15, 3) := by decide +kernel
theorem dX1_init_15 : decode cX1_init 15 = .ok (.aload_n 0, 1) := by decide +kernel
theorem dX1_init_16 : decode cX1_init 16 = .ok (.iconst 0, 1) := by decide +kernel
theorem dX1_init_17 : decode cX1_init 17 = .ok (.putfield 18, 3) := by decide +kernel
theorem dX1_init_20 : decode cX1_init 20 = .ok (.aload_n 0, 1) := by decide +kernel
theorem dX1_init_21 : decode cX1_init 21 = .ok (.iconst 0, 1) := by decide +kernel
theorem dX1_init_22 : decode cX1_init 22 = .ok (.putfield 21, 3) := by decide +kernel
theorem dX1_init_25 : decode cX1_init 25 = .ok (.aload_n 0, 1) := by decide +kernel
theorem dX1_init_26 : decode cX1_init 26 = .ok (.bipush 6, 2) := by decide +kernel
theorem dX1_init_28 : decode cX1_init 28 = .ok (.anewarray 24, 3) := by decide +kernel
theorem dX1_init_31 : decode cX1_init 31 = .ok (.putfield 26, 3) := by decide +kernel
theorem dX1_init_34 : decode cX1_init 34 = .ok (.iconst 0, 1) := by decide +kernel
theorem dX1_init_35 : decode cX1_init 35 = .ok (.istore_n 1, 1) := by decide +kernel
theorem dX1_init_36 : decode cX1_init 36 = .ok (.iload_n 1, 1) := by decide +kernel
theorem dX1_init_37 : decode cX1_init 37 = .ok (.bipush 6, 2) := by decide +kernel
theorem dX1_init_39 : decode cX1_init 39 = .ok (.if_icmp .ge 22, 3) := by decide +kernel
theorem dX1_init_42 : decode cX1_init 42 = .ok (.aload_n 0, 1) := by decide +kernel
theorem dX1_init_43 : decode cX1_init 43 = .ok (.getfield 26, 3) := by decide +kernel
theorem dX1_init_46 : decode cX1_init 46 = .ok (.iload_n 1, 1) := by decide +kernel
theorem dX1_init_47 : decode cX1_init 47 = .ok (.new 24, 3) := by decide +kernel
theorem dX1_init_50 : decode cX1_init 50 = .ok (.dup, 1) := by decide +kernel
theorem dX1_init_51 : decode cX1_init 51 = .ok (.invokespecial 30, 3) := by decide +kernel
theorem dX1_init_54 : decode cX1_init 54 = .ok (.aastore, 1) := by decide +kernel
theorem dX1_init_55 : decode cX1_init 55 = .ok (.iinc 1 1, 3) := by decide +kernel
theorem dX1_init_58 : decode cX1_init 58 = .ok (.goto (-22), 3) := by decide +kernel
theorem dX1_init_61 : decode cX1_init 61 = .ok (.return_, 1) := by decide +kernel
theorem dX1_become_0 : decode cX1_become 0 = .ok (.aload_n 0, 1) := by decide +kernel
theorem dX1_become_1 : decode cX1_become 1 = .ok (.aload_n 1, 1) := by decide +kernel
theorem dX1_become_2 : decode cX1_become 2 = .ok (.getfield 9, 3) := by decide +kernel
theorem dX1_become_5 : decode cX1_become 5 = .ok (.putfield 9, 3) := by decide +kernel
theorem dX1_become_8 : decode cX1_become 8 = .ok (.aload_n 0, 1) := by decide +kernel
theorem dX1_become_9 : decode cX1_become 9 = .ok (.aload_n 1, 1) := by decide +kernel
theorem dX1_become_10 : decode cX1_become 10 = .ok (.getfield 15, 3) := by decide +kernel
theorem dX1_become_13 : decode cX1_become 13 = .ok (.putfield 15, 3) := by decide +kernel
theorem dX1_become_16 : decode cX1_become 16 = .ok (.aload_n 0, 1) := by decide +kernel
theorem dX1_become_17 : decode cX1_become 17 = .ok (.aload_n 1, 1) := by decide +kernel
theorem dX1_become_18 : decode cX1_become 18 = .ok (.getfield 18, 3) := by decide +kernel
theorem dX1_become_21 : decode cX1_become 21 = .ok (.putfield 18, 3) := by decide +kernel
theorem dX1_become_24 : decode cX1_become 24 = .ok (.aload_n 0, 1) := by decide +kernel
theorem dX1_become_25 : decode cX1_become 25 = .ok (.aload_n 1, 1) := by decide +kernel
theorem dX1_become_26 : decode cX1_become 26 = .ok (.getfield 21, 3) := by decide +kernel
theorem dX1_become_29 : decode cX1_become 29 = .ok (.putfield 21, 3) := by decide +kernel
theorem dX1_become_32 : decode cX1_become 32 = .ok (.iconst 0, 1) := by decide +kernel
theorem dX1_become_33 : decode cX1_become 33 = .ok (.istore_n 2, 1) := by decide +kernel
theorem dX1_become_34 : decode cX1_become 34 = .ok (.iload_n 2, 1) := by decide +kernel
theorem dX1_become_35 : decode cX1_become 35 = .ok (.aload_n 0, 1) := by decide +kernel
theorem dX1_become_36 : decode cX1_become 36 = .ok (.getfield 21, 3) := by decide +kernel
theorem dX1_become_39 : decode cX1_become 39 = .ok (.if_icmp .ge 24, 3) := by decide +kernel
theorem dX1_become_42 : decode cX1_become 42 = .ok (.aload_n 0, 1) := by decide +kernel
theorem dX1_become_43 : decode cX1_become 43 = .ok (.getfield 26, 3) := by decide +kernel
theorem dX1_become_46 : decode cX1_become 46 = .ok (.iload_n 2, 1) := by decide +kernel
theorem dX1_become_47 : decode cX1_become 47 = .ok (.aaload, 1) := by decide +kernel
theorem dX1_become_48 : decode cX1_become 48 = .ok (.aload_n 1, 1) := by decide +kernel
theorem dX1_become_49 : decode cX1_become 49 = .ok (.getfield 26, 3) := by decide +kernel
theorem dX1_become_52 : decode cX1_become 52 = .ok (.iload_n 2, 1) := by decide +kernel
theorem dX1_become_53 : decode cX1_become 53 = .ok (.aaload, 1) := by decide +kernel
theorem dX1_become_54 : decode cX1_become 54 = .ok (.invokevirtual 31, 3) := by decide +kernel
theorem dX1_become_57 : decode cX1_become 57 = .ok (.iinc 2 1, 3) := by decide +kernel
theorem dX1_become_60 : decode cX1_become 60 = .ok (.goto (-26), 3) := by decide +kernel
theorem dX1_become_63 : decode cX1_become 63 = .ok (.return_, 1) := by decide +kernel
theorem dX1_warm_0 : decode cX1_warm 0 = .ok (.iconst 0, 1) := by decide +kernel
theorem dX1_warm_1 : decode cX1_warm 1 = .ok (.istore_n 1, 1) := by decide +kernel
theorem dX1_warm_2 : decode cX1_warm 2 = .ok (.iconst 0, 1) := by decide +kernel
theorem dX1_warm_3 : decode cX1_warm 3 = .ok (.istore_n 2, 1) := by decide +kernel
theorem dX1_warm_4 : decode cX1_warm 4 = .ok (.iload_n 2, 1) := by decide +kernel
theorem dX1_warm_5 : decode cX1_warm 5 = .ok (.aload_n 0, 1) := by decide +kernel
theorem dX1_warm_6 : decode cX1_warm 6 = .ok (.getfield 21, 3) := by decide +kernel
theorem dX1_warm_9 : decode cX1_warm 9 = .ok (.if_icmp .ge 21, 3) := by decide +kernel
theorem dX1_warm_12 : decode cX1_warm 12 = .ok (.iload_n 1, 1) := by decide +kernel
theorem dX1_warm_13 : decode cX1_warm 13 = .ok (.aload_n 0, 1) := by decide +kernel
theorem dX1_warm_14 : decode cX1_warm 14 = .ok (.getfield 26, 3) := by decide +kernel
theorem dX1_warm_17 : decode cX1_warm 17 = .ok (.iload_n 2, 1) := by decide +kernel
theorem dX1_warm_18 : decode cX1_warm 18 = .ok (.aaload, 1) := by decide +kernel
theorem dX1_warm_19 : decode cX1_warm 19 = .ok (.getfield 35, 3) := by decide +kernel
theorem dX1_warm_22 : decode cX1_warm 22 = .ok (.iadd, 1) := by decide +kernel
theorem dX1_warm_23 : decode cX1_warm 23 = .ok (.istore_n 1, 1) := by decide +kernel
theorem dX1_warm_24 : decode cX1_warm 24 = .ok (.iinc 2 1, 3) := by decide +kernel
theorem dX1_warm_27 : decode cX1_warm 27 = .ok (.goto (-23), 3) := by decide +kernel
theorem dX1_warm_30 : decode cX1_warm 30 = .ok (.iload_n 1, 1) := by decide +kernel
theorem dX1_warm_31 : decode cX1_warm 31 = .ok (.ireturn, 1) := by decide +kernel
theorem dX1_boiling_0 : decode cX1_boiling 0 = .ok (.iconst 0, 1) := by decide +kernel
theorem dX1_boiling_1 : decode cX1_boiling 1 = .ok (.istore_n 1, 1) := by decide +kernel
theorem dX1_boiling_2 : decode cX1_boiling 2 = .ok (.iconst 0, 1) := by decide +kernel
theorem dX1_boiling_3 : decode cX1_boiling 3 = .ok (.istore_n 2, 1) := by decide +kernel
theorem dX1_boiling_4 : decode cX1_boiling 4 = .ok (.iload_n 2, 1) := by decide +kernel
theorem dX1_boiling_5 : decode cX1_boiling 5 = .ok (.aload_n 0, 1) := by decide +kernel
theorem dX1_boiling_6 : decode cX1_boiling 6 = .ok (.getfield 21, 3) := by decide +kernel
theorem dX1_boiling_9 : decode cX1_boiling 9 = .ok (.if_icmp .ge 28, 3) := by decide +kernel
theorem dX1_boiling_12 : decode cX1_boiling 12 = .ok (.aload_n 0, 1) := by decide +kernel
theorem dX1_boiling_13 : decode cX1_boiling 13 = .ok (.getfield 26, 3) := by decide +kernel
theorem dX1_boiling_16 : decode cX1_boiling 16 = .ok (.iload_n 2, 1) := by decide +kernel
theorem dX1_boiling_17 : decode cX1_boiling 17 = .ok (.aaload, 1) := by decide +kernel
theorem dX1_boiling_18 : decode cX1_boiling 18 = .ok (.getfield 35, 3) := by decide +kernel
theorem dX1_boiling_21 : decode cX1_boiling 21 = .ok (.aload_n 0, 1) := by decide +kernel
theorem dX1_boiling_22 : decode cX1_boiling 22 = .ok (.getfield 15, 3) := by decide +kernel
theorem dX1_boiling_25 : decode cX1_boiling 25 = .ok (.if_icmp .lt 6, 3) := by decide +kernel
theorem dX1_boiling_28 : decode cX1_boiling 28 = .ok (.iinc 1 1, 3) := by decide +kernel
theorem dX1_boiling_31 : decode cX1_boiling 31 = .ok (.iinc 2 1, 3) := by decide +kernel
theorem dX1_boiling_34 : decode cX1_boiling 34 = .ok (.goto (-30), 3) := by decide +kernel
theorem dX1_boiling_37 : decode cX1_boiling 37 = .ok (.iload_n 1, 1) := by decide +kernel
theorem dX1_boiling_38 : decode cX1_boiling 38 = .ok (.ireturn, 1) := by decide +kernel
theorem dX2_init_0 : decode cX2_init 0 = .ok (.aload_n 0, 1) := by decide +kernel
theorem dX2_init_1 : decode cX2_init 1 = .ok (.invokespecial 3, 3) := by decide +kernel
theorem dX2_init_4 : decode cX2_init 4 = .ok (.aload_n 0, 1) := by decide +kernel
theorem dX2_init_5 : decode cX2_init 5 = .ok (.iconst 0, 1) := by decide +kernel
theorem dX2_init_6 : decode cX2_init 6 = .ok (.putfield 9, 3) := by decide +kernel
theorem dX2_init_9 : decode cX2_init 9 = .ok (.aload_n 0, 1) := by decide +kernel
theorem dX2_init_10 : decode cX2_init 10 = .ok (.iconst 0, 1) := by decide +kernel
theorem dX2_init_11 : decode cX2_init 11 = .ok (.putfield 15, 3) := by decide +kernel
theorem dX2_init_14 : decode cX2_init 14 = .ok (.aload_n 0, 1) := by decide +kernel
theorem dX2_init_15 : decode cX2_init 15 = .ok (.iconst 0, 1) := by decide +kernel
theorem dX2_init_16 : decode cX2_init 16 = .ok (.putfield 18, 3) := by decide +kernel
theorem dX2_init_19 : decode cX2_init 19 = .ok (.aload_n 0, 1) := by decide +kernel
theorem dX2_init_20 : decode cX2_init 20 = .ok (.iconst 0, 1) := by decide +kernel
theorem dX2_init_21 : decode cX2_init 21 = .ok (.putfield 21, 3) := by decide +kernel
theorem dX2_init_24 : decode cX2_init 24 = .ok (.aload_n 0, 1) := by decide +kernel
theorem dX2_init_25 : decode cX2_init 25 = .ok (.iconst 0, 1) := by decide +kernel
theorem dX2_init_26 : decode cX2_init 26 = .ok (.putfield 24, 3) := by decide +kernel
theorem dX2_init_29 : decode cX2_init 29 = .ok (.aload_n 0, 1) := by decide +kernel
theorem dX2_init_30 : decode cX2_init 30 = .ok (.iconst 0, 1) := by decide +kernel
theorem dX2_init_31 : decode cX2_init 31 = .ok (.putfield 27, 3) := by decide +kernel
theorem dX2_init_34 : decode cX2_init 34 = .ok (.aload_n 0, 1) := by decide +kernel
theorem dX2_init_35 : decode cX2_init 35 = .ok (.iconst 0, 1) := by decide +kernel
theorem dX2_init_36 : decode cX2_init 36 = .ok (.putfield 30, 3) := by decide +kernel
theorem dX2_init_39 : decode cX2_init 39 = .ok (.aload_n 0, 1) := by decide +kernel
theorem dX2_init_40 : decode cX2_init 40 = .ok (.iconst 0, 1) := by decide +kernel
theorem dX2_init_41 : decode cX2_init 41 = .ok (.putfield 33, 3) := by decide +kernel
theorem dX2_init_44 : decode cX2_init 44 = .ok (.aload_n 0, 1) := by decide +kernel
theorem dX2_init_45 : decode cX2_init 45 = .ok (.iconst (-1), 1) := by decide +kernel
theorem dX2_init_46 : decode cX2_init 46 = .ok (.putfield 36, 3) := by decide +kernel
theorem dX2_init_49 : decode cX2_init 49 = .ok (.aload_n 0, 1) := by decide +kernel
theorem dX2_init_50 : decode cX2_init 50 = .ok (.bipush 6, 2) := by decide +kernel
theorem dX2_init_52 : decode cX2_init 52 = .ok (.newarray .int, 2) := by decide +kernel
theorem dX2_init_54 : decode cX2_init 54 = .ok (.putfield 39, 3) := by decide +kernel
theorem dX2_init_57 : decode cX2_init 57 = .ok (.return_, 1) := by decide +kernel
theorem dX2_heats_0 : decode cX2_heats 0 = .ok (.aload_n 0, 1) := by decide +kernel
theorem dX2_heats_1 : decode cX2_heats 1 = .ok (.invokevirtual 43, 3) := by decide +kernel
theorem dX2_heats_4 : decode cX2_heats 4 = .ok (.aload_n 1, 1) := by decide +kernel
theorem dX2_heats_5 : decode cX2_heats 5 = .ok (.iconst 0, 1) := by decide +kernel
theorem dX2_heats_6 : decode cX2_heats 6 = .ok (.aload_n 0, 1) := by decide +kernel
theorem dX2_heats_7 : decode cX2_heats 7 = .ok (.getfield 39, 3) := by decide +kernel
theorem dX2_heats_10 : decode cX2_heats 10 = .ok (.invokevirtual 46, 3) := by decide +kernel
theorem dX2_heats_13 : decode cX2_heats 13 = .ok (.invokestatic 52, 3) := by decide +kernel
theorem dX2_heats_16 : decode cX2_heats 16 = .ok (.istore_n 2, 1) := by decide +kernel
theorem dX2_heats_17 : decode cX2_heats 17 = .ok (.aload_n 0, 1) := by decide +kernel
theorem dX2_heats_18 : decode cX2_heats 18 = .ok (.getfield 9, 3) := by decide +kernel
theorem dX2_heats_21 : decode cX2_heats 21 = .ok (.tableswitch 86 1 5 #[35, 42, 46, 67, 79], 35) := by decide +kernel
theorem dX2_heats_56 : decode cX2_heats 56 = .ok (.iload_n 2, 1) := by decide +kernel
theorem dX2_heats_57 : decode cX2_heats 57 = .ok (.iconst 3, 1) := by decide +kernel
theorem dX2_heats_58 : decode cX2_heats 58 = .ok (.iadd, 1) := by decide +kernel
theorem dX2_heats_59 : decode cX2_heats 59 = .ok (.invokestatic 52, 3) := by decide +kernel
theorem dX2_heats_62 : decode cX2_heats 62 = .ok (.ireturn, 1) := by decide +kernel
theorem dX2_heats_63 : decode cX2_heats 63 = .ok (.iload_n 2, 1) := by decide +kernel
theorem dX2_heats_64 : decode cX2_heats 64 = .ok (.iconst 2, 1) := by decide +kernel
theorem dX2_heats_65 : decode cX2_heats 65 = .ok (.idiv, 1) := by decide +kernel
theorem dX2_heats_66 : decode cX2_heats 66 = .ok (.ireturn, 1) := by decide +kernel
theorem dX2_heats_67 : decode cX2_heats 67 = .ok (.aload_n 0, 1) := by decide +kernel
theorem dX2_heats_68 : decode cX2_heats 68 = .ok (.getfield 24, 3) := by decide +kernel
theorem dX2_heats_71 : decode cX2_heats 71 = .ok (.iconst 4, 1) := by decide +kernel
theorem dX2_heats_72 : decode cX2_heats 72 = .ok (.irem, 1) := by decide +kernel
theorem dX2_heats_73 : decode cX2_heats 73 = .ok (.iconst 1, 1) := by decide +kernel
theorem dX2_heats_74 : decode cX2_heats 74 = .ok (.if_icmp .ne 7, 3) := by decide +kernel
theorem dX2_heats_77 : decode cX2_heats 77 = .ok (.iconst 0, 1) := by decide +kernel
theorem dX2_heats_78 : decode cX2_heats 78 = .ok (.goto 9, 3) := by decide +kernel
theorem dX2_heats_81 : decode cX2_heats 81 = .ok (.iload_n 2, 1) := by decide +kernel
theorem dX2_heats_82 : decode cX2_heats 82 = .ok (.iconst 3, 1) := by decide +kernel
theorem dX2_heats_83 : decode cX2_heats 83 = .ok (.iadd, 1) := by decide +kernel
theorem dX2_heats_84 : decode cX2_heats 84 = .ok (.invokestatic 52, 3) := by decide +kernel
theorem dX2_heats_87 : decode cX2_heats 87 = .ok (.ireturn, 1) := by decide +kernel
theorem dX2_heats_88 : decode cX2_heats 88 = .ok (.iload_n 2, 1) := by decide +kernel
theorem dX2_heats_89 : decode cX2_heats 89 = .ok (.iconst 2, 1) := by decide +kernel
theorem dX2_heats_90 : decode cX2_heats 90 = .ok (.idiv, 1) := by decide +kernel
theorem dX2_heats_91 : decode cX2_heats 91 = .ok (.aload_n 0, 1) := by decide +kernel
theorem dX2_heats_92 : decode cX2_heats 92 = .ok (.getfield 15, 3) := by decide +kernel
theorem dX2_heats_95 : decode cX2_heats 95 = .ok (.isub, 1) := by decide +kernel
theorem dX2_heats_96 : decode cX2_heats 96 = .ok (.invokestatic 52, 3) := by decide +kernel
theorem dX2_heats_99 : decode cX2_heats 99 = .ok (.ireturn, 1) := by decide +kernel
theorem dX2_heats_100 : decode cX2_heats 100 = .ok (.iconst 2, 1) := by decide +kernel
theorem dX2_heats_101 : decode cX2_heats 101 = .ok (.iload_n 2, 1) := by decide +kernel
theorem dX2_heats_102 : decode cX2_heats 102 = .ok (.imul, 1) := by decide +kernel
theorem dX2_heats_103 : decode cX2_heats 103 = .ok (.invokestatic 52, 3) := by decide +kernel
theorem dX2_heats_106 : decode cX2_heats 106 = .ok (.ireturn, 1) := by decide +kernel
theorem dX2_heats_107 : decode cX2_heats 107 = .ok (.iload_n 2, 1) := by decide +kernel
theorem dX2_heats_108 : decode cX2_heats 108 = .ok (.ireturn, 1) := by decide +kernel
theorem dX2_calms_0 : decode cX2_calms 0 = .ok (.aload_n 0, 1) := by decide +kernel
theorem dX2_calms_1 : decode cX2_calms 1 = .ok (.invokevirtual 43, 3) := by decide +kernel
theorem dX2_calms_4 : decode cX2_calms 4 = .ok (.aload_n 1, 1) := by decide +kernel
theorem dX2_calms_5 : decode cX2_calms 5 = .ok (.iconst 1, 1) := by decide +kernel
theorem dX2_calms_6 : decode cX2_calms 6 = .ok (.aload_n 0, 1) := by decide +kernel
theorem dX2_calms_7 : decode cX2_calms 7 = .ok (.getfield 39, 3) := by decide +kernel
theorem dX2_calms_10 : decode cX2_calms 10 = .ok (.invokevirtual 46, 3) := by decide +kernel
theorem dX2_calms_13 : decode cX2_calms 13 = .ok (.invokestatic 52, 3) := by decide +kernel
theorem dX2_calms_16 : decode cX2_calms 16 = .ok (.istore_n 2, 1) := by decide +kernel
theorem dX2_calms_17 : decode cX2_calms 17 = .ok (.aload_n 0, 1) := by decide +kernel
theorem dX2_calms_18 : decode cX2_calms 18 = .ok (.getfield 18, 3) := by decide +kernel
theorem dX2_calms_21 : decode cX2_calms 21 = .ok (.iconst 2, 1) := by decide +kernel
theorem dX2_calms_22 : decode cX2_calms 22 = .ok (.irem, 1) := by decide +kernel
theorem dX2_calms_23 : decode cX2_calms 23 = .ok (.ifCond .ne 7, 3) := by decide +kernel
theorem dX2_calms_26 : decode cX2_calms 26 = .ok (.iload_n 2, 1) := by decide +kernel
theorem dX2_calms_27 : decode cX2_calms 27 = .ok (.goto 6, 3) := by decide +kernel
theorem dX2_calms_30 : decode cX2_calms 30 = .ok (.iload_n 2, 1) := by decide +kernel
theorem dX2_calms_31 : decode cX2_calms 31 = .ok (.iconst 2, 1) := by decide +kernel
theorem dX2_calms_32 : decode cX2_calms 32 = .ok (.idiv, 1) := by decide +kernel
theorem dX2_calms_33 : decode cX2_calms 33 = .ok (.istore_n 3, 1) := by decide +kernel
theorem dX2_calms_34 : decode cX2_calms 34 = .ok (.aload_n 0, 1) := by decide +kernel
theorem dX2_calms_35 : decode cX2_calms 35 = .ok (.getfield 9, 3) := by decide +kernel
theorem dX2_calms_38 : decode cX2_calms 38 = .ok (.tableswitch 87 1 5 #[34, 36, 43, 53, 82], 34) := by decide +kernel
theorem dX2_calms_72 : decode cX2_calms 72 = .ok (.iload_n 3, 1) := by decide +kernel
theorem dX2_calms_73 : decode cX2_calms 73 = .ok (.ireturn, 1) := by decide +kernel
theorem dX2_calms_74 : decode cX2_calms 74 = .ok (.iload_n 2, 1) := by decide +kernel
theorem dX2_calms_75 : decode cX2_calms 75 = .ok (.iconst 2, 1) := by decide +kernel
theorem dX2_calms_76 : decode cX2_calms 76 = .ok (.iadd, 1) := by decide +kernel
theorem dX2_calms_77 : decode cX2_calms 77 = .ok (.invokestatic 52, 3) := by decide +kernel
theorem dX2_calms_80 : decode cX2_calms 80 = .ok (.ireturn, 1) := by decide +kernel
theorem dX2_calms_81 : decode cX2_calms 81 = .ok (.iload_n 3, 1) := by decide +kernel
theorem dX2_calms_82 : decode cX2_calms 82 = .ok (.aload_n 0, 1) := by decide +kernel
theorem dX2_calms_83 : decode cX2_calms 83 = .ok (.getfield 15, 3) := by decide +kernel
theorem dX2_calms_86 : decode cX2_calms 86 = .ok (.iadd, 1) := by decide +kernel
theorem dX2_calms_87 : decode cX2_calms 87 = .ok (.invokestatic 52, 3) := by decide +kernel
theorem dX2_calms_90 : decode cX2_calms 90 = .ok (.ireturn, 1) := by decide +kernel
theorem dX2_calms_91 : decode cX2_calms 91 = .ok (.aload_n 0, 1) := by decide +kernel
theorem dX2_calms_92 : decode cX2_calms 92 = .ok (.getfield 18, 3) := by decide +kernel
theorem dX2_calms_95 : decode cX2_calms 95 = .ok (.bipush 7, 2) := by decide +kernel
theorem dX2_calms_97 : decode cX2_calms 97 = .ok (.if_icmp .eq 12, 3) := by decide +kernel
theorem dX2_calms_100 : decode cX2_calms 100 = .ok (.aload_n 0, 1) := by decide +kernel
theorem dX2_calms_101 : decode cX2_calms 101 = .ok (.getfield 18, 3) := by decide +kernel
theorem dX2_calms_104 : decode cX2_calms 104 = .ok (.bipush 13, 2) := by decide +kernel
theorem dX2_calms_106 : decode cX2_calms 106 = .ok (.if_icmp .ne 7, 3) := by decide +kernel
theorem dX2_calms_109 : decode cX2_calms 109 = .ok (.iconst 0, 1) := by decide +kernel
theorem dX2_calms_110 : decode cX2_calms 110 = .ok (.goto 9, 3) := by decide +kernel
theorem dX2_calms_113 : decode cX2_calms 113 = .ok (.iload_n 2, 1) := by decide +kernel
theorem dX2_calms_114 : decode cX2_calms 114 = .ok (.iconst 2, 1) := by decide +kernel
theorem dX2_calms_115 : decode cX2_calms 115 = .ok (.iadd, 1) := by decide +kernel
theorem dX2_calms_116 : decode cX2_calms 116 = .ok (.invokestatic 52, 3) := by decide +kernel
theorem dX2_calms_119 : decode cX2_calms 119 = .ok (.ireturn, 1) := by decide +kernel
theorem dX2_calms_120 : decode cX2_calms 120 = .ok (.aload_n 0, 1) := by decide +kernel
theorem dX2_calms_121 : decode cX2_calms 121 = .ok (.getfield 18, 3) := by decide +kernel
theorem dX2_calms_124 : decode cX2_calms 124 = .ok (.ireturn, 1) := by decide +kernel
theorem dX2_calms_125 : decode cX2_calms 125 = .ok (.iload_n 2, 1) := by decide +kernel
theorem dX2_calms_126 : decode cX2_calms 126 = .ok (.ireturn, 1) := by decide +kernel
theorem dX2_feels_0 : decode cX2_feels 0 = .ok (.aload_n 0, 1) := by decide +kernel
theorem dX2_feels_1 : decode cX2_feels 1 = .ok (.invokevirtual 56, 3) := by decide +kernel
theorem dX2_feels_4 : decode cX2_feels 4 = .ok (.aload_n 0, 1) := by decide +kernel
theorem dX2_feels_5 : decode cX2_feels 5 = .ok (.getfield 39, 3) := by decide +kernel
theorem dX2_feels_8 : decode cX2_feels 8 = .ok (.iconst 0, 1) := by decide +kernel
theorem dX2_feels_9 : decode cX2_feels 9 = .ok (.aload_n 0, 1) := by decide +kernel
theorem dX2_feels_10 : decode cX2_feels 10 = .ok (.getfield 18, 3) := by decide +kernel
theorem dX2_feels_13 : decode cX2_feels 13 = .ok (.iastore, 1) := by decide +kernel
theorem dX2_feels_14 : decode cX2_feels 14 = .ok (.aload_n 0, 1) := by decide +kernel
theorem dX2_feels_15 : decode cX2_feels 15 = .ok (.getfield 39, 3) := by decide +kernel
theorem dX2_feels_18 : decode cX2_feels 18 = .ok (.iconst 2, 1) := by decide +kernel
theorem dX2_feels_19 : decode cX2_feels 19 = .ok (.aload_n 0, 1) := by decide +kernel
theorem dX2_feels_20 : decode cX2_feels 20 = .ok (.getfield 15, 3) := by decide +kernel
theorem dX2_feels_23 : decode cX2_feels 23 = .ok (.iastore, 1) := by decide +kernel
theorem dX2_feels_24 : decode cX2_feels 24 = .ok (.aload_n 1, 1) := by decide +kernel
theorem dX2_feels_25 : decode cX2_feels 25 = .ok (.iconst 2, 1) := by decide +kernel
theorem dX2_feels_26 : decode cX2_feels 26 = .ok (.aload_n 0, 1) := by decide +kernel
theorem dX2_feels_27 : decode cX2_feels 27 = .ok (.getfield 39, 3) := by decide +kernel
theorem dX2_feels_30 : decode cX2_feels 30 = .ok (.invokevirtual 46, 3) := by decide +kernel
theorem dX2_feels_33 : decode cX2_feels 33 = .ok (.invokestatic 52, 3) := by decide +kernel
theorem dX2_feels_36 : decode cX2_feels 36 = .ok (.istore_n 2, 1) := by decide +kernel
theorem dX2_feels_37 : decode cX2_feels 37 = .ok (.aload_n 0, 1) := by decide +kernel
theorem dX2_feels_38 : decode cX2_feels 38 = .ok (.getfield 9, 3) := by decide +kernel
theorem dX2_feels_41 : decode cX2_feels 41 = .ok (.tableswitch 61 2 5 #[31, 36, 43, 50], 31) := by decide +kernel
theorem dX2_feels_72 : decode cX2_feels 72 = .ok (.iload_n 2, 1) := by decide +kernel
theorem dX2_feels_73 : decode cX2_feels 73 = .ok (.bipush 10, 2) := by decide +kernel
theorem dX2_feels_75 : decode cX2_feels 75 = .ok (.irem, 1) := by decide +kernel
theorem dX2_feels_76 : decode cX2_feels 76 = .ok (.ireturn, 1) := by decide +kernel
theorem dX2_feels_77 : decode cX2_feels 77 = .ok (.iconst 2, 1) := by decide +kernel
theorem dX2_feels_78 : decode cX2_feels 78 = .ok (.iload_n 2, 1) := by decide +kernel
theorem dX2_feels_79 : decode cX2_feels 79 = .ok (.imul, 1) := by decide +kernel
theorem dX2_feels_80 : decode cX2_feels 80 = .ok (.invokestatic 52, 3) := by decide +kernel
theorem dX2_feels_83 : decode cX2_feels 83 = .ok (.ireturn, 1) := by decide +kernel
theorem dX2_feels_84 : decode cX2_feels 84 = .ok (.iload_n 2, 1) := by decide +kernel
theorem dX2_feels_85 : decode cX2_feels 85 = .ok (.bipush 10, 2) := by decide +kernel
theorem dX2_feels_87 : decode cX2_feels 87 = .ok (.irem, 1) := by decide +kernel
theorem dX2_feels_88 : decode cX2_feels 88 = .ok (.iconst 1, 1) := by decide +kernel
theorem dX2_feels_89 : decode cX2_feels 89 = .ok (.iadd, 1) := by decide +kernel
theorem dX2_feels_90 : decode cX2_feels 90 = .ok (.ireturn, 1) := by decide +kernel
theorem dX2_feels_91 : decode cX2_feels 91 = .ok (.iload_n 2, 1) := by decide +kernel
theorem dX2_feels_92 : decode cX2_feels 92 = .ok (.iconst 5, 1) := by decide +kernel
theorem dX2_feels_93 : decode cX2_feels 93 = .ok (.if_icmp .ge 7, 3) := by decide +kernel
theorem dX2_feels_96 : decode cX2_feels 96 = .ok (.iconst 0, 1) := by decide +kernel
theorem dX2_feels_97 : decode cX2_feels 97 = .ok (.goto 4, 3) := by decide +kernel
theorem dX2_feels_100 : decode cX2_feels 100 = .ok (.iload_n 2, 1) := by decide +kernel
theorem dX2_feels_101 : decode cX2_feels 101 = .ok (.ireturn, 1) := by decide +kernel
theorem dX2_feels_102 : decode cX2_feels 102 = .ok (.iload_n 2, 1) := by decide +kernel
theorem dX2_feels_103 : decode cX2_feels 103 = .ok (.ireturn, 1) := by decide +kernel
theorem dX2_boilsInADay_0 : decode cX2_boilsInADay 0 = .ok (.aload_n 0, 1) := by decide +kernel
theorem dX2_boilsInADay_1 : decode cX2_boilsInADay 1 = .ok (.bipush 99, 2) := by decide +kernel
theorem dX2_boilsInADay_3 : decode cX2_boilsInADay 3 = .ok (.aload_n 0, 1) := by decide +kernel
theorem dX2_boilsInADay_4 : decode cX2_boilsInADay 4 = .ok (.getfield 21, 3) := by decide +kernel
theorem dX2_boilsInADay_7 : decode cX2_boilsInADay 7 = .ok (.aload_n 0, 1) := by decide +kernel
theorem dX2_boilsInADay_8 : decode cX2_boilsInADay 8 = .ok (.aload_n 1, 1) := by decide +kernel
theorem dX2_boilsInADay_9 : decode cX2_boilsInADay 9 = .ok (.invokevirtual 59, 3) := by decide +kernel
theorem dX2_boilsInADay_12 : decode cX2_boilsInADay 12 = .ok (.iadd, 1) := by decide +kernel
theorem dX2_boilsInADay_13 : decode cX2_boilsInADay 13 = .ok (.invokestatic 63, 3) := by decide +kernel
theorem dX2_boilsInADay_16 : decode cX2_boilsInADay 16 = .ok (.putfield 21, 3) := by decide +kernel
theorem dX2_boilsInADay_19 : decode cX2_boilsInADay 19 = .ok (.aload_n 0, 1) := by decide +kernel
theorem dX2_boilsInADay_20 : decode cX2_boilsInADay 20 = .ok (.getfield 21, 3) := by decide +kernel
theorem dX2_boilsInADay_23 : decode cX2_boilsInADay 23 = .ok (.iload_n 2, 1) := by decide +kernel
theorem dX2_boilsInADay_24 : decode cX2_boilsInADay 24 = .ok (.if_icmp .lt 7, 3) := by decide +kernel
theorem dX2_boilsInADay_27 : decode cX2_boilsInADay 27 = .ok (.iconst 1, 1) := by decide +kernel
theorem dX2_boilsInADay_28 : decode cX2_boilsInADay 28 = .ok (.goto 4, 3) := by decide +kernel
theorem dX2_boilsInADay_31 : decode cX2_boilsInADay 31 = .ok (.iconst 0, 1) := by decide +kernel
theorem dX2_boilsInADay_32 : decode cX2_boilsInADay 32 = .ok (.istore_n 3, 1) := by decide +kernel
theorem dX2_boilsInADay_33 : decode cX2_boilsInADay 33 = .ok (.aload_n 0, 1) := by decide +kernel
theorem dX2_boilsInADay_34 : decode cX2_boilsInADay 34 = .ok (.iconst 0, 1) := by decide +kernel
theorem dX2_boilsInADay_35 : decode cX2_boilsInADay 35 = .ok (.aload_n 0, 1) := by decide +kernel
theorem dX2_boilsInADay_36 : decode cX2_boilsInADay 36 = .ok (.getfield 21, 3) := by decide +kernel
theorem dX2_boilsInADay_39 : decode cX2_boilsInADay 39 = .ok (.aload_n 0, 1) := by decide +kernel
theorem dX2_boilsInADay_40 : decode cX2_boilsInADay 40 = .ok (.aload_n 1, 1) := by decide +kernel
theorem dX2_boilsInADay_41 : decode cX2_boilsInADay 41 = .ok (.invokevirtual 69, 3) := by decide +kernel
theorem dX2_boilsInADay_44 : decode cX2_boilsInADay 44 = .ok (.isub, 1) := by decide +kernel
theorem dX2_boilsInADay_45 : decode cX2_boilsInADay 45 = .ok (.invokestatic 72, 3) := by decide +kernel
theorem dX2_boilsInADay_48 : decode cX2_boilsInADay 48 = .ok (.putfield 21, 3) := by decide +kernel
theorem dX2_boilsInADay_51 : decode cX2_boilsInADay 51 = .ok (.aload_n 0, 1) := by decide +kernel
theorem dX2_boilsInADay_52 : decode cX2_boilsInADay 52 = .ok (.dup, 1) := by decide +kernel
theorem dX2_boilsInADay_53 : decode cX2_boilsInADay 53 = .ok (.getfield 24, 3) := by decide +kernel
theorem dX2_boilsInADay_56 : decode cX2_boilsInADay 56 = .ok (.iconst 1, 1) := by decide +kernel
theorem dX2_boilsInADay_57 : decode cX2_boilsInADay 57 = .ok (.iadd, 1) := by decide +kernel
theorem dX2_boilsInADay_58 : decode cX2_boilsInADay 58 = .ok (.putfield 24, 3) := by decide +kernel
theorem dX2_boilsInADay_61 : decode cX2_boilsInADay 61 = .ok (.iload_n 3, 1) := by decide +kernel
theorem dX2_boilsInADay_62 : decode cX2_boilsInADay 62 = .ok (.ireturn, 1) := by decide +kernel
theorem dX2_lives_0 : decode cX2_lives 0 = .ok (.aload_n 0, 1) := by decide +kernel
theorem dX2_lives_1 : decode cX2_lives 1 = .ok (.iconst 0, 1) := by decide +kernel
theorem dX2_lives_2 : decode cX2_lives 2 = .ok (.putfield 33, 3) := by decide +kernel
theorem dX2_lives_5 : decode cX2_lives 5 = .ok (.aload_n 0, 1) := by decide +kernel
theorem dX2_lives_6 : decode cX2_lives 6 = .ok (.iconst (-1), 1) := by decide +kernel
theorem dX2_lives_7 : decode cX2_lives 7 = .ok (.putfield 36, 3) := by decide +kernel
theorem dX2_lives_10 : decode cX2_lives 10 = .ok (.iconst 0, 1) := by decide +kernel
theorem dX2_lives_11 : decode cX2_lives 11 = .ok (.istore 4, 2) := by decide +kernel
theorem dX2_lives_13 : decode cX2_lives 13 = .ok (.iload 4, 2) := by decide +kernel
theorem dX2_lives_15 : decode cX2_lives 15 = .ok (.iload_n 3, 1) := by decide +kernel
theorem dX2_lives_16 : decode cX2_lives 16 = .ok (.if_icmp .ge 49, 3) := by decide +kernel
theorem dX2_lives_19 : decode cX2_lives 19 = .ok (.aload_n 0, 1) := by decide +kernel
theorem dX2_lives_20 : decode cX2_lives 20 = .ok (.aload_n 1, 1) := by decide +kernel
theorem dX2_lives_21 : decode cX2_lives 21 = .ok (.iload_n 2, 1) := by decide +kernel
theorem dX2_lives_22 : decode cX2_lives 22 = .ok (.invokevirtual 75, 3) := by decide +kernel
theorem dX2_lives_25 : decode cX2_lives 25 = .ok (.ifCond .eq 34, 3) := by decide +kernel
theorem dX2_lives_28 : decode cX2_lives 28 = .ok (.aload_n 0, 1) := by decide +kernel
theorem dX2_lives_29 : decode cX2_lives 29 = .ok (.dup, 1) := by decide +kernel
theorem dX2_lives_30 : decode cX2_lives 30 = .ok (.getfield 33, 3) := by decide +kernel
theorem dX2_lives_33 : decode cX2_lives 33 = .ok (.iconst 1, 1) := by decide +kernel
theorem dX2_lives_34 : decode cX2_lives 34 = .ok (.iadd, 1) := by decide +kernel
theorem dX2_lives_35 : decode cX2_lives 35 = .ok (.putfield 33, 3) := by decide +kernel
theorem dX2_lives_38 : decode cX2_lives 38 = .ok (.aload_n 0, 1) := by decide +kernel
theorem dX2_lives_39 : decode cX2_lives 39 = .ok (.aload_n 0, 1) := by decide +kernel
theorem dX2_lives_40 : decode cX2_lives 40 = .ok (.getfield 36, 3) := by decide +kernel
theorem dX2_lives_43 : decode cX2_lives 43 = .ok (.iconst (-1), 1) := by decide +kernel
theorem dX2_lives_44 : decode cX2_lives 44 = .ok (.if_icmp .ne 8, 3) := by decide +kernel
theorem dX2_lives_47 : decode cX2_lives 47 = .ok (.iload 4, 2) := by decide +kernel
theorem dX2_lives_49 : decode cX2_lives 49 = .ok (.goto 7, 3) := by decide +kernel
theorem dX2_lives_52 : decode cX2_lives 52 = .ok (.aload_n 0, 1) := by decide +kernel
theorem dX2_lives_53 : decode cX2_lives 53 = .ok (.getfield 36, 3) := by decide +kernel
theorem dX2_lives_56 : decode cX2_lives 56 = .ok (.putfield 36, 3) := by decide +kernel
theorem dX2_lives_59 : decode cX2_lives 59 = .ok (.iinc 4 1, 3) := by decide +kernel
theorem dX2_lives_62 : decode cX2_lives 62 = .ok (.goto (-49), 3) := by decide +kernel
theorem dX2_lives_65 : decode cX2_lives 65 = .ok (.return_, 1) := by decide +kernel
theorem dX2_nameAll_0 : decode cX2_nameAll 0 = .ok (.aload_n 0, 1) := by decide +kernel
theorem dX2_nameAll_1 : decode cX2_nameAll 1 = .ok (.getfield 39, 3) := by decide +kernel
theorem dX2_nameAll_4 : decode cX2_nameAll 4 = .ok (.iconst 0, 1) := by decide +kernel
theorem dX2_nameAll_5 : decode cX2_nameAll 5 = .ok (.aload_n 0, 1) := by decide +kernel
theorem dX2_nameAll_6 : decode cX2_nameAll 6 = .ok (.getfield 18, 3) := by decide +kernel
theorem dX2_nameAll_9 : decode cX2_nameAll 9 = .ok (.iastore, 1) := by decide +kernel
theorem dX2_nameAll_10 : decode cX2_nameAll 10 = .ok (.aload_n 0, 1) := by decide +kernel
theorem dX2_nameAll_11 : decode cX2_nameAll 11 = .ok (.getfield 39, 3) := by decide +kernel
theorem dX2_nameAll_14 : decode cX2_nameAll 14 = .ok (.iconst 1, 1) := by decide +kernel
theorem dX2_nameAll_15 : decode cX2_nameAll 15 = .ok (.aload_n 0, 1) := by decide +kernel
theorem dX2_nameAll_16 : decode cX2_nameAll 16 = .ok (.getfield 21, 3) := by decide +kernel
theorem dX2_nameAll_19 : decode cX2_nameAll 19 = .ok (.iastore, 1) := by decide +kernel
theorem dX2_nameAll_20 : decode cX2_nameAll 20 = .ok (.aload_n 0, 1) := by decide +kernel
theorem dX2_nameAll_21 : decode cX2_nameAll 21 = .ok (.getfield 39, 3) := by decide +kernel
theorem dX2_nameAll_24 : decode cX2_nameAll 24 = .ok (.iconst 2, 1) := by decide +kernel
theorem dX2_nameAll_25 : decode cX2_nameAll 25 = .ok (.aload_n 0, 1) := by decide +kernel
theorem dX2_nameAll_26 : decode cX2_nameAll 26 = .ok (.getfield 15, 3) := by decide +kernel
theorem dX2_nameAll_29 : decode cX2_nameAll 29 = .ok (.iastore, 1) := by decide +kernel
theorem dX2_nameAll_30 : decode cX2_nameAll 30 = .ok (.aload_n 0, 1) := by decide +kernel
theorem dX2_nameAll_31 : decode cX2_nameAll 31 = .ok (.getfield 39, 3) := by decide +kernel
theorem dX2_nameAll_34 : decode cX2_nameAll 34 = .ok (.iconst 3, 1) := by decide +kernel
theorem dX2_nameAll_35 : decode cX2_nameAll 35 = .ok (.aload_n 0, 1) := by decide +kernel
theorem dX2_nameAll_36 : decode cX2_nameAll 36 = .ok (.getfield 24, 3) := by decide +kernel
theorem dX2_nameAll_39 : decode cX2_nameAll 39 = .ok (.iastore, 1) := by decide +kernel
theorem dX2_nameAll_40 : decode cX2_nameAll 40 = .ok (.aload_n 0, 1) := by decide +kernel
theorem dX2_nameAll_41 : decode cX2_nameAll 41 = .ok (.getfield 39, 3) := by decide +kernel
theorem dX2_nameAll_44 : decode cX2_nameAll 44 = .ok (.iconst 4, 1) := by decide +kernel
theorem dX2_nameAll_45 : decode cX2_nameAll 45 = .ok (.aload_n 0, 1) := by decide +kernel
theorem dX2_nameAll_46 : decode cX2_nameAll 46 = .ok (.getfield 27, 3) := by decide +kernel
theorem dX2_nameAll_49 : decode cX2_nameAll 49 = .ok (.iastore, 1) := by decide +kernel
theorem dX2_nameAll_50 : decode cX2_nameAll 50 = .ok (.aload_n 0, 1) := by decide +kernel
theorem dX2_nameAll_51 : decode cX2_nameAll 51 = .ok (.getfield 39, 3) := by decide +kernel
theorem dX2_nameAll_54 : decode cX2_nameAll 54 = .ok (.iconst 5, 1) := by decide +kernel
theorem dX2_nameAll_55 : decode cX2_nameAll 55 = .ok (.aload_n 0, 1) := by decide +kernel
theorem dX2_nameAll_56 : decode cX2_nameAll 56 = .ok (.getfield 30, 3) := by decide +kernel
theorem dX2_nameAll_59 : decode cX2_nameAll 59 = .ok (.iastore, 1) := by decide +kernel
theorem dX2_nameAll_60 : decode cX2_nameAll 60 = .ok (.return_, 1) := by decide +kernel
theorem dX2_nameNone_0 : decode cX2_nameNone 0 = .ok (.iconst 0, 1) := by decide +kernel
theorem dX2_nameNone_1 : decode cX2_nameNone 1 = .ok (.istore_n 1, 1) := by decide +kernel
theorem dX2_nameNone_2 : decode cX2_nameNone 2 = .ok (.iload_n 1, 1) := by decide +kernel
theorem dX2_nameNone_3 : decode cX2_nameNone 3 = .ok (.bipush 6, 2) := by decide +kernel
theorem dX2_nameNone_5 : decode cX2_nameNone 5 = .ok (.if_icmp .ge 16, 3) := by decide +kernel
theorem dX2_nameNone_8 : decode cX2_nameNone 8 = .ok (.aload_n 0, 1) := by decide +kernel
theorem dX2_nameNone_9 : decode cX2_nameNone 9 = .ok (.getfield 39, 3) := by decide +kernel
theorem dX2_nameNone_12 : decode cX2_nameNone 12 = .ok (.iload_n 1, 1) := by decide +kernel
theorem dX2_nameNone_13 : decode cX2_nameNone 13 = .ok (.iconst 0, 1) := by decide +kernel
theorem dX2_nameNone_14 : decode cX2_nameNone 14 = .ok (.iastore, 1) := by decide +kernel
theorem dX2_nameNone_15 : decode cX2_nameNone 15 = .ok (.iinc 1 1, 3) := by decide +kernel
theorem dX2_nameNone_18 : decode cX2_nameNone 18 = .ok (.goto (-16), 3) := by decide +kernel
theorem dX2_nameNone_21 : decode cX2_nameNone 21 = .ok (.return_, 1) := by decide +kernel
theorem dX3_init_0 : decode cX3_init 0 = .ok (.aload_n 0, 1) := by decide +kernel
theorem dX3_init_1 : decode cX3_init 1 = .ok (.invokespecial 3, 3) := by decide +kernel
theorem dX3_init_4 : decode cX3_init 4 = .ok (.aload_n 0, 1) := by decide +kernel
theorem dX3_init_5 : decode cX3_init 5 = .ok (.iconst 0, 1) := by decide +kernel
theorem dX3_init_6 : decode cX3_init 6 = .ok (.putfield 9, 3) := by decide +kernel
theorem dX3_init_9 : decode cX3_init 9 = .ok (.aload_n 0, 1) := by decide +kernel
theorem dX3_init_10 : decode cX3_init 10 = .ok (.bipush 6, 2) := by decide +kernel
theorem dX3_init_12 : decode cX3_init 12 = .ok (.newarray .int, 2) := by decide +kernel
theorem dX3_init_14 : decode cX3_init 14 = .ok (.putfield 15, 3) := by decide +kernel
theorem dX3_init_17 : decode cX3_init 17 = .ok (.aload_n 0, 1) := by decide +kernel
theorem dX3_init_18 : decode cX3_init 18 = .ok (.bipush 6, 2) := by decide +kernel
theorem dX3_init_20 : decode cX3_init 20 = .ok (.newarray .int, 2) := by decide +kernel
theorem dX3_init_22 : decode cX3_init 22 = .ok (.putfield 19, 3) := by decide +kernel
theorem dX3_init_25 : decode cX3_init 25 = .ok (.aload_n 0, 1) := by decide +kernel
theorem dX3_init_26 : decode cX3_init 26 = .ok (.bipush 6, 2) := by decide +kernel
theorem dX3_init_28 : decode cX3_init 28 = .ok (.newarray .int, 2) := by decide +kernel
theorem dX3_init_30 : decode cX3_init 30 = .ok (.putfield 22, 3) := by decide +kernel
theorem dX3_init_33 : decode cX3_init 33 = .ok (.return_, 1) := by decide +kernel
theorem dX3_draw_0 : decode cX3_draw 0 = .ok (.iload_n 1, 1) := by decide +kernel
theorem dX3_draw_1 : decode cX3_draw 1 = .ok (.istore_n 2, 1) := by decide +kernel
theorem dX3_draw_2 : decode cX3_draw 2 = .ok (.iconst 0, 1) := by decide +kernel
theorem dX3_draw_3 : decode cX3_draw 3 = .ok (.istore_n 3, 1) := by decide +kernel
theorem dX3_draw_4 : decode cX3_draw 4 = .ok (.iload_n 3, 1) := by decide +kernel
theorem dX3_draw_5 : decode cX3_draw 5 = .ok (.aload_n 0, 1) := by decide +kernel
theorem dX3_draw_6 : decode cX3_draw 6 = .ok (.getfield 9, 3) := by decide +kernel
theorem dX3_draw_9 : decode cX3_draw 9 = .ok (.if_icmp .ge 31, 3) := by decide +kernel
theorem dX3_draw_12 : decode cX3_draw 12 = .ok (.iload_n 2, 1) := by decide +kernel
theorem dX3_draw_13 : decode cX3_draw 13 = .ok (.ldc 25, 2) := by decide +kernel
theorem dX3_draw_15 : decode cX3_draw 15 = .ok (.imul, 1) := by decide +kernel
theorem dX3_draw_16 : decode cX3_draw 16 = .ok (.sipush 12345, 3) := by decide +kernel
theorem dX3_draw_19 : decode cX3_draw 19 = .ok (.iadd, 1) := by decide +kernel
theorem dX3_draw_20 : decode cX3_draw 20 = .ok (.istore_n 2, 1) := by decide +kernel
theorem dX3_draw_21 : decode cX3_draw 21 = .ok (.aload_n 0, 1) := by decide +kernel
theorem dX3_draw_22 : decode cX3_draw 22 = .ok (.getfield 19, 3) := by decide +kernel
theorem dX3_draw_25 : decode cX3_draw 25 = .ok (.iload_n 3, 1) := by decide +kernel
theorem dX3_draw_26 : decode cX3_draw 26 = .ok (.iload_n 2, 1) := by decide +kernel
theorem dX3_draw_27 : decode cX3_draw 27 = .ok (.bipush 9, 2) := by decide +kernel
theorem dX3_draw_29 : decode cX3_draw 29 = .ok (.iushr, 1) := by decide +kernel
theorem dX3_draw_30 : decode cX3_draw 30 = .ok (.bipush 16, 2) := by decide +kernel
theorem dX3_draw_32 : decode cX3_draw 32 = .ok (.irem, 1) := by decide +kernel
theorem dX3_draw_33 : decode cX3_draw 33 = .ok (.iastore, 1) := by decide +kernel
theorem dX3_draw_34 : decode cX3_draw 34 = .ok (.iinc 3 1, 3) := by decide +kernel
theorem dX3_draw_37 : decode cX3_draw 37 = .ok (.goto (-33), 3) := by decide +kernel
theorem dX3_draw_40 : decode cX3_draw 40 = .ok (.return_, 1) := by decide +kernel
theorem dX3_open_0 : decode cX3_open 0 = .ok (.iconst 0, 1) := by decide +kernel
theorem dX3_open_1 : decode cX3_open 1 = .ok (.istore_n 1, 1) := by decide +kernel
theorem dX3_open_2 : decode cX3_open 2 = .ok (.iload_n 1, 1) := by decide +kernel
theorem dX3_open_3 : decode cX3_open 3 = .ok (.aload_n 0, 1) := by decide +kernel
theorem dX3_open_4 : decode cX3_open 4 = .ok (.getfield 9, 3) := by decide +kernel
theorem dX3_open_7 : decode cX3_open 7 = .ok (.if_icmp .ge 29, 3) := by decide +kernel
theorem dX3_open_10 : decode cX3_open 10 = .ok (.aload_n 0, 1) := by decide +kernel
theorem dX3_open_11 : decode cX3_open 11 = .ok (.getfield 22, 3) := by decide +kernel
theorem dX3_open_14 : decode cX3_open 14 = .ok (.iload_n 1, 1) := by decide +kernel
theorem dX3_open_15 : decode cX3_open 15 = .ok (.iconst 1, 1) := by decide +kernel
theorem dX3_open_16 : decode cX3_open 16 = .ok (.iload_n 1, 1) := by decide +kernel
theorem dX3_open_17 : decode cX3_open 17 = .ok (.ishl, 1) := by decide +kernel
theorem dX3_open_18 : decode cX3_open 18 = .ok (.aload_n 0, 1) := by decide +kernel
theorem dX3_open_19 : decode cX3_open 19 = .ok (.aload_n 0, 1) := by decide +kernel
theorem dX3_open_20 : decode cX3_open 20 = .ok (.getfield 19, 3) := by decide +kernel
theorem dX3_open_23 : decode cX3_open 23 = .ok (.iload_n 1, 1) := by decide +kernel
theorem dX3_open_24 : decode cX3_open 24 = .ok (.iaload, 1) := by decide +kernel
theorem dX3_open_25 : decode cX3_open 25 = .ok (.invokevirtual 26, 3) := by decide +kernel
theorem dX3_open_28 : decode cX3_open 28 = .ok (.ior, 1) := by decide +kernel
theorem dX3_open_29 : decode cX3_open 29 = .ok (.iastore, 1) := by decide +kernel
theorem dX3_open_30 : decode cX3_open 30 = .ok (.iinc 1 1, 3) := by decide +kernel
theorem dX3_open_33 : decode cX3_open 33 = .ok (.goto (-31), 3) := by decide +kernel
theorem dX3_open_36 : decode cX3_open 36 = .ok (.iconst 0, 1) := by decide +kernel
theorem dX3_open_37 : decode cX3_open 37 = .ok (.istore_n 1, 1) := by decide +kernel
theorem dX3_open_38 : decode cX3_open 38 = .ok (.iload_n 1, 1) := by decide +kernel
theorem dX3_open_39 : decode cX3_open 39 = .ok (.aload_n 0, 1) := by decide +kernel
theorem dX3_open_40 : decode cX3_open 40 = .ok (.getfield 9, 3) := by decide +kernel
theorem dX3_open_43 : decode cX3_open 43 = .ok (.if_icmp .ge 41, 3) := by decide +kernel
theorem dX3_open_46 : decode cX3_open 46 = .ok (.iconst 0, 1) := by decide +kernel
theorem dX3_open_47 : decode cX3_open 47 = .ok (.istore_n 2, 1) := by decide +kernel
theorem dX3_open_48 : decode cX3_open 48 = .ok (.iload_n 2, 1) := by decide +kernel
theorem dX3_open_49 : decode cX3_open 49 = .ok (.aload_n 0, 1) := by decide +kernel
theorem dX3_open_50 : decode cX3_open 50 = .ok (.getfield 9, 3) := by decide +kernel
theorem dX3_open_53 : decode cX3_open 53 = .ok (.if_icmp .ge 25, 3) := by decide +kernel
theorem dX3_open_56 : decode cX3_open 56 = .ok (.aload_n 0, 1) := by decide +kernel
theorem dX3_open_57 : decode cX3_open 57 = .ok (.getfield 22, 3) := by decide +kernel
theorem dX3_open_60 : decode cX3_open 60 = .ok (.iload_n 2, 1) := by decide +kernel
theorem dX3_open_61 : decode cX3_open 61 = .ok (.aload_n 0, 1) := by decide +kernel
theorem dX3_open_62 : decode cX3_open 62 = .ok (.aload_n 0, 1) := by decide +kernel
theorem dX3_open_63 : decode cX3_open 63 = .ok (.getfield 22, 3) := by decide +kernel
theorem dX3_open_66 : decode cX3_open 66 = .ok (.iload_n 2, 1) := by decide +kernel
theorem dX3_open_67 : decode cX3_open 67 = .ok (.iaload, 1) := by decide +kernel
theorem dX3_open_68 : decode cX3_open 68 = .ok (.invokevirtual 30, 3) := by decide +kernel
theorem dX3_open_71 : decode cX3_open 71 = .ok (.iastore, 1) := by decide +kernel
theorem dX3_open_72 : decode cX3_open 72 = .ok (.iinc 2 1, 3) := by decide +kernel
theorem dX3_open_75 : decode cX3_open 75 = .ok (.goto (-27), 3) := by decide +kernel
theorem dX3_open_78 : decode cX3_open 78 = .ok (.iinc 1 1, 3) := by decide +kernel
theorem dX3_open_81 : decode cX3_open 81 = .ok (.goto (-43), 3) := by decide +kernel
theorem dX3_open_84 : decode cX3_open 84 = .ok (.return_, 1) := by decide +kernel
theorem dX3_openedBy_0 : decode cX3_openedBy 0 = .ok (.iconst 0, 1) := by decide +kernel
theorem dX3_openedBy_1 : decode cX3_openedBy 1 = .ok (.istore_n 2, 1) := by decide +kernel
theorem dX3_openedBy_2 : decode cX3_openedBy 2 = .ok (.iconst 0, 1) := by decide +kernel
theorem dX3_openedBy_3 : decode cX3_openedBy 3 = .ok (.istore_n 3, 1) := by decide +kernel
theorem dX3_openedBy_4 : decode cX3_openedBy 4 = .ok (.iload_n 3, 1) := by decide +kernel
theorem dX3_openedBy_5 : decode cX3_openedBy 5 = .ok (.aload_n 0, 1) := by decide +kernel
theorem dX3_openedBy_6 : decode cX3_openedBy 6 = .ok (.getfield 9, 3) := by decide +kernel
theorem dX3_openedBy_9 : decode cX3_openedBy 9 = .ok (.if_icmp .ge 37, 3) := by decide +kernel
theorem dX3_openedBy_12 : decode cX3_openedBy 12 = .ok (.iload_n 1, 1) := by decide +kernel
theorem dX3_openedBy_13 : decode cX3_openedBy 13 = .ok (.bipush 8, 2) := by decide +kernel
theorem dX3_openedBy_15 : decode cX3_openedBy 15 = .ok (.if_icmp .lt 25, 3) := by decide +kernel
theorem dX3_openedBy_18 : decode cX3_openedBy 18 = .ok (.iload_n 1, 1) := by decide +kernel
theorem dX3_openedBy_19 : decode cX3_openedBy 19 = .ok (.bipush 8, 2) := by decide +kernel
theorem dX3_openedBy_21 : decode cX3_openedBy 21 = .ok (.irem, 1) := by decide +kernel
theorem dX3_openedBy_22 : decode cX3_openedBy 22 = .ok (.aload_n 0, 1) := by decide +kernel
theorem dX3_openedBy_23 : decode cX3_openedBy 23 = .ok (.getfield 15, 3) := by decide +kernel
theorem dX3_openedBy_26 : decode cX3_openedBy 26 = .ok (.iload_n 3, 1) := by decide +kernel
theorem dX3_openedBy_27 : decode cX3_openedBy 27 = .ok (.iaload, 1) := by decide +kernel
theorem dX3_openedBy_28 : decode cX3_openedBy 28 = .ok (.bipush 8, 2) := by decide +kernel
theorem dX3_openedBy_30 : decode cX3_openedBy 30 = .ok (.irem, 1) := by decide +kernel
theorem dX3_openedBy_31 : decode cX3_openedBy 31 = .ok (.if_icmp .ne 9, 3) := by decide +kernel
theorem dX3_openedBy_34 : decode cX3_openedBy 34 = .ok (.iload_n 2, 1) := by decide +kernel
theorem dX3_openedBy_35 : decode cX3_openedBy 35 = .ok (.iconst 1, 1) := by decide +kernel
theorem dX3_openedBy_36 : decode cX3_openedBy 36 = .ok (.iload_n 3, 1) := by decide +kernel
theorem dX3_openedBy_37 : decode cX3_openedBy 37 = .ok (.ishl, 1) := by decide +kernel
theorem dX3_openedBy_38 : decode cX3_openedBy 38 = .ok (.ior, 1) := by decide +kernel
theorem dX3_openedBy_39 : decode cX3_openedBy 39 = .ok (.istore_n 2, 1) := by decide +kernel
theorem dX3_openedBy_40 : decode cX3_openedBy 40 = .ok (.iinc 3 1, 3) := by decide +kernel
theorem dX3_openedBy_43 : decode cX3_openedBy 43 = .ok (.goto (-39), 3) := by decide +kernel
theorem dX3_openedBy_46 : decode cX3_openedBy 46 = .ok (.iload_n 2, 1) := by decide +kernel
theorem dX3_openedBy_47 : decode cX3_openedBy 47 = .ok (.ireturn, 1) := by decide +kernel
theorem dX3_openedFrom_0 : decode cX3_openedFrom 0 = .ok (.iconst 0, 1) := by decide +kernel
theorem dX3_openedFrom_1 : decode cX3_openedFrom 1 = .ok (.istore_n 2, 1) := by decide +kernel
theorem dX3_openedFrom_2 : decode cX3_openedFrom 2 = .ok (.iconst 0, 1) := by decide +kernel
theorem dX3_openedFrom_3 : decode cX3_openedFrom 3 = .ok (.istore_n 3, 1) := by decide +kernel
theorem dX3_openedFrom_4 : decode cX3_openedFrom 4 = .ok (.iload_n 3, 1) := by decide +kernel
theorem dX3_openedFrom_5 : decode cX3_openedFrom 5 = .ok (.aload_n 0, 1) := by decide +kernel
theorem dX3_openedFrom_6 : decode cX3_openedFrom 6 = .ok (.getfield 9, 3) := by decide +kernel
theorem dX3_openedFrom_9 : decode cX3_openedFrom 9 = .ok (.if_icmp .ge 27, 3) := by decide +kernel
theorem dX3_openedFrom_12 : decode cX3_openedFrom 12 = .ok (.iload_n 1, 1) := by decide +kernel
theorem dX3_openedFrom_13 : decode cX3_openedFrom 13 = .ok (.iload_n 3, 1) := by decide +kernel
theorem dX3_openedFrom_14 : decode cX3_openedFrom 14 = .ok (.ishr, 1) := by decide +kernel
theorem dX3_openedFrom_15 : decode cX3_openedFrom 15 = .ok (.iconst 1, 1) := by decide +kernel
theorem dX3_openedFrom_16 : decode cX3_openedFrom 16 = .ok (.iand, 1) := by decide +kernel
theorem dX3_openedFrom_17 : decode cX3_openedFrom 17 = .ok (.iconst 1, 1) := by decide +kernel
theorem dX3_openedFrom_18 : decode cX3_openedFrom 18 = .ok (.if_icmp .ne 12, 3) := by decide +kernel
theorem dX3_openedFrom_21 : decode cX3_openedFrom 21 = .ok (.iload_n 2, 1) := by decide +kernel
theorem dX3_openedFrom_22 : decode cX3_openedFrom 22 = .ok (.aload_n 0, 1) := by decide +kernel
theorem dX3_openedFrom_23 : decode cX3_openedFrom 23 = .ok (.getfield 22, 3) := by decide +kernel
theorem dX3_openedFrom_26 : decode cX3_openedFrom 26 = .ok (.iload_n 3, 1) := by decide +kernel
theorem dX3_openedFrom_27 : decode cX3_openedFrom 27 = .ok (.iaload, 1) := by decide +kernel
theorem dX3_openedFrom_28 : decode cX3_openedFrom 28 = .ok (.ior, 1) := by decide +kernel
theorem dX3_openedFrom_29 : decode cX3_openedFrom 29 = .ok (.istore_n 2, 1) := by decide +kernel
theorem dX3_openedFrom_30 : decode cX3_openedFrom 30 = .ok (.iinc 3 1, 3) := by decide +kernel
theorem dX3_openedFrom_33 : decode cX3_openedFrom 33 = .ok (.goto (-29), 3) := by decide +kernel
theorem dX3_openedFrom_36 : decode cX3_openedFrom 36 = .ok (.iload_n 2, 1) := by decide +kernel
theorem dX3_openedFrom_37 : decode cX3_openedFrom 37 = .ok (.ireturn, 1) := by decide +kernel
theorem dX3_key_0 : decode cX3_key 0 = .ok (.iconst (-1), 1) := by decide +kernel
theorem dX3_key_1 : decode cX3_key 1 = .ok (.istore_n 1, 1) := by decide +kernel
theorem dX3_key_2 : decode cX3_key 2 = .ok (.iconst 0, 1) := by decide +kernel
theorem dX3_key_3 : decode cX3_key 3 = .ok (.istore_n 2, 1) := by decide +kernel
theorem dX3_key_4 : decode cX3_key 4 = .ok (.iconst 0, 1) := by decide +kernel
theorem dX3_key_5 : decode cX3_key 5 = .ok (.istore_n 3, 1) := by decide +kernel
theorem dX3_key_6 : decode cX3_key 6 = .ok (.iload_n 3, 1) := by decide +kernel
theorem dX3_key_7 : decode cX3_key 7 = .ok (.aload_n 0, 1) := by decide +kernel
theorem dX3_key_8 : decode cX3_key 8 = .ok (.getfield 9, 3) := by decide +kernel
theorem dX3_key_11 : decode cX3_key 11 = .ok (.if_icmp .ge 31, 3) := by decide +kernel
theorem dX3_key_14 : decode cX3_key 14 = .ok (.aload_n 0, 1) := by decide +kernel
theorem dX3_key_15 : decode cX3_key 15 = .ok (.getfield 22, 3) := by decide +kernel
theorem dX3_key_18 : decode cX3_key 18 = .ok (.iload_n 3, 1) := by decide +kernel
theorem dX3_key_19 : decode cX3_key 19 = .ok (.iaload, 1) := by decide +kernel
theorem dX3_key_20 : decode cX3_key 20 = .ok (.invokestatic 33, 3) := by decide +kernel
theorem dX3_key_23 : decode cX3_key 23 = .ok (.istore 4, 2) := by decide +kernel
theorem dX3_key_25 : decode cX3_key 25 = .ok (.iload 4, 2) := by decide +kernel
theorem dX3_key_27 : decode cX3_key 27 = .ok (.iload_n 2, 1) := by decide +kernel
theorem dX3_key_28 : decode cX3_key 28 = .ok (.if_icmp .le 8, 3) := by decide +kernel
theorem dX3_key_31 : decode cX3_key 31 = .ok (.iload 4, 2) := by decide +kernel
theorem dX3_key_33 : decode cX3_key 33 = .ok (.istore_n 2, 1) := by decide +kernel
theorem dX3_key_34 : decode cX3_key 34 = .ok (.iload_n 3, 1) := by decide +kernel
theorem dX3_key_35 : decode cX3_key 35 = .ok (.istore_n 1, 1) := by decide +kernel
theorem dX3_key_36 : decode cX3_key 36 = .ok (.iinc 3 1, 3) := by decide +kernel
theorem dX3_key_39 : decode cX3_key 39 = .ok (.goto (-33), 3) := by decide +kernel
theorem dX3_key_42 : decode cX3_key 42 = .ok (.iload_n 1, 1) := by decide +kernel
theorem dX3_key_43 : decode cX3_key 43 = .ok (.ireturn, 1) := by decide +kernel
theorem dX3_mostOpened_0 : decode cX3_mostOpened 0 = .ok (.iconst 0, 1) := by decide +kernel
theorem dX3_mostOpened_1 : decode cX3_mostOpened 1 = .ok (.istore_n 1, 1) := by decide +kernel
theorem dX3_mostOpened_2 : decode cX3_mostOpened 2 = .ok (.iconst 0, 1) := by decide +kernel
theorem dX3_mostOpened_3 : decode cX3_mostOpened 3 = .ok (.istore_n 2, 1) := by decide +kernel
theorem dX3_mostOpened_4 : decode cX3_mostOpened 4 = .ok (.iload_n 2, 1) := by decide +kernel
theorem dX3_mostOpened_5 : decode cX3_mostOpened 5 = .ok (.aload_n 0, 1) := by decide +kernel
theorem dX3_mostOpened_6 : decode cX3_mostOpened 6 = .ok (.getfield 9, 3) := by decide +kernel
theorem dX3_mostOpened_9 : decode cX3_mostOpened 9 = .ok (.if_icmp .ge 23, 3) := by decide +kernel
theorem dX3_mostOpened_12 : decode cX3_mostOpened 12 = .ok (.iload_n 1, 1) := by decide +kernel
theorem dX3_mostOpened_13 : decode cX3_mostOpened 13 = .ok (.aload_n 0, 1) := by decide +kernel
theorem dX3_mostOpened_14 : decode cX3_mostOpened 14 = .ok (.getfield 22, 3) := by decide +kernel
theorem dX3_mostOpened_17 : decode cX3_mostOpened 17 = .ok (.iload_n 2, 1) := by decide +kernel
theorem dX3_mostOpened_18 : decode cX3_mostOpened 18 = .ok (.iaload, 1) := by decide +kernel
theorem dX3_mostOpened_19 : decode cX3_mostOpened 19 = .ok (.invokestatic 33, 3) := by decide +kernel
theorem dX3_mostOpened_22 : decode cX3_mostOpened 22 = .ok (.invokestatic 38, 3) := by decide +kernel
theorem dX3_mostOpened_25 : decode cX3_mostOpened 25 = .ok (.istore_n 1, 1) := by decide +kernel
theorem dX3_mostOpened_26 : decode cX3_mostOpened 26 = .ok (.iinc 2 1, 3) := by decide +kernel
theorem dX3_mostOpened_29 : decode cX3_mostOpened 29 = .ok (.goto (-25), 3) := by decide +kernel
theorem dX3_mostOpened_32 : decode cX3_mostOpened 32 = .ok (.iload_n 1, 1) := by decide +kernel
theorem dX3_mostOpened_33 : decode cX3_mostOpened 33 = .ok (.ireturn, 1) := by decide +kernel
theorem dX3_areAllFromOne_0 : decode cX3_areAllFromOne 0 = .ok (.aload_n 0, 1) := by decide +kernel
theorem dX3_areAllFromOne_1 : decode cX3_areAllFromOne 1 = .ok (.getfield 9, 3) := by decide +kernel
theorem dX3_areAllFromOne_4 : decode cX3_areAllFromOne 4 = .ok (.ifCond .le 18, 3) := by decide +kernel
theorem dX3_areAllFromOne_7 : decode cX3_areAllFromOne 7 = .ok (.aload_n 0, 1) := by decide +kernel
theorem dX3_areAllFromOne_8 : decode cX3_areAllFromOne 8 = .ok (.invokevirtual 44, 3) := by decide +kernel
theorem dX3_areAllFromOne_11 : decode cX3_areAllFromOne 11 = .ok (.aload_n 0, 1) := by decide +kernel
theorem dX3_areAllFromOne_12 : decode cX3_areAllFromOne 12 = .ok (.getfield 9, 3) := by decide +kernel
theorem dX3_areAllFromOne_15 : decode cX3_areAllFromOne 15 = .ok (.if_icmp .ne 7, 3) := by decide +kernel
theorem dX3_areAllFromOne_18 : decode cX3_areAllFromOne 18 = .ok (.iconst 1, 1) := by decide +kernel
theorem dX3_areAllFromOne_19 : decode cX3_areAllFromOne 19 = .ok (.goto 4, 3) := by decide +kernel
theorem dX3_areAllFromOne_22 : decode cX3_areAllFromOne 22 = .ok (.iconst 0, 1) := by decide +kernel
theorem dX3_areAllFromOne_23 : decode cX3_areAllFromOne 23 = .ok (.ireturn, 1) := by decide +kernel
theorem dX3_fewest_0 : decode cX3_fewest 0 = .ok (.iconst 1, 1) := by decide +kernel
theorem dX3_fewest_1 : decode cX3_fewest 1 = .ok (.aload_n 0, 1) := by decide +kernel
theorem dX3_fewest_2 : decode cX3_fewest 2 = .ok (.getfield 9, 3) := by decide +kernel
theorem dX3_fewest_5 : decode cX3_fewest 5 = .ok (.ishl, 1) := by decide +kernel
theorem dX3_fewest_6 : decode cX3_fewest 6 = .ok (.iconst 1, 1) := by decide +kernel
theorem dX3_fewest_7 : decode cX3_fewest 7 = .ok (.isub, 1) := by decide +kernel
theorem dX3_fewest_8 : decode cX3_fewest 8 = .ok (.istore_n 1, 1) := by decide +kernel
theorem dX3_fewest_9 : decode cX3_fewest 9 = .ok (.iload_n 1, 1) := by decide +kernel
theorem dX3_fewest_10 : decode cX3_fewest 10 = .ok (.istore_n 2, 1) := by decide +kernel
theorem dX3_fewest_11 : decode cX3_fewest 11 = .ok (.iconst 0, 1) := by decide +kernel
theorem dX3_fewest_12 : decode cX3_fewest 12 = .ok (.istore_n 3, 1) := by decide +kernel
theorem dX3_fewest_13 : decode cX3_fewest 13 = .ok (.iload_n 3, 1) := by decide +kernel
theorem dX3_fewest_14 : decode cX3_fewest 14 = .ok (.iload_n 1, 1) := by decide +kernel
theorem dX3_fewest_15 : decode cX3_fewest 15 = .ok (.if_icmp .ge 31, 3) := by decide +kernel
theorem dX3_fewest_18 : decode cX3_fewest 18 = .ok (.iload_n 3, 1) := by decide +kernel
theorem dX3_fewest_19 : decode cX3_fewest 19 = .ok (.invokestatic 33, 3) := by decide +kernel
theorem dX3_fewest_22 : decode cX3_fewest 22 = .ok (.iload_n 2, 1) := by decide +kernel
theorem dX3_fewest_23 : decode cX3_fewest 23 = .ok (.invokestatic 33, 3) := by decide +kernel
theorem dX3_fewest_26 : decode cX3_fewest 26 = .ok (.if_icmp .ge 14, 3) := by decide +kernel
theorem dX3_fewest_29 : decode cX3_fewest 29 = .ok (.aload_n 0, 1) := by decide +kernel
theorem dX3_fewest_30 : decode cX3_fewest 30 = .ok (.iload_n 3, 1) := by decide +kernel
theorem dX3_fewest_31 : decode cX3_fewest 31 = .ok (.invokevirtual 30, 3) := by decide +kernel
theorem dX3_fewest_34 : decode cX3_fewest 34 = .ok (.iload_n 1, 1) := by decide +kernel
theorem dX3_fewest_35 : decode cX3_fewest 35 = .ok (.if_icmp .ne 5, 3) := by decide +kernel
theorem dX3_fewest_38 : decode cX3_fewest 38 = .ok (.iload_n 3, 1) := by decide +kernel
theorem dX3_fewest_39 : decode cX3_fewest 39 = .ok (.istore_n 2, 1) := by decide +kernel
theorem dX3_fewest_40 : decode cX3_fewest 40 = .ok (.iinc 3 1, 3) := by decide +kernel
theorem dX3_fewest_43 : decode cX3_fewest 43 = .ok (.goto (-30), 3) := by decide +kernel
theorem dX3_fewest_46 : decode cX3_fewest 46 = .ok (.iload_n 2, 1) := by decide +kernel
theorem dX3_fewest_47 : decode cX3_fewest 47 = .ok (.ireturn, 1) := by decide +kernel
theorem dX4_init_0 : decode cX4_init 0 = .ok (.aload_n 0, 1) := by decide +kernel
theorem dX4_init_1 : decode cX4_init 1 = .ok (.invokespecial 3, 3) := by decide +kernel
theorem dX4_init_4 : decode cX4_init 4 = .ok (.aload_n 0, 1) := by decide +kernel
theorem dX4_init_5 : decode cX4_init 5 = .ok (.new 9, 3) := by decide +kernel
theorem dX4_init_8 : decode cX4_init 8 = .ok (.dup, 1) := by decide +kernel
theorem dX4_init_9 : decode cX4_init 9 = .ok (.invokespecial 11, 3) := by decide +kernel
theorem dX4_init_12 : decode cX4_init 12 = .ok (.putfield 12, 3) := by decide +kernel
theorem dX4_init_15 : decode cX4_init 15 = .ok (.aload_n 0, 1) := by decide +kernel
theorem dX4_init_16 : decode cX4_init 16 = .ok (.aconst_null, 1) := by decide +kernel
theorem dX4_init_17 : decode cX4_init 17 = .ok (.putfield 18, 3) := by decide +kernel
theorem dX4_init_20 : decode cX4_init 20 = .ok (.aload_n 0, 1) := by decide +kernel
theorem dX4_init_21 : decode cX4_init 21 = .ok (.iconst 0, 1) := by decide +kernel
theorem dX4_init_22 : decode cX4_init 22 = .ok (.putfield 22, 3) := by decide +kernel
theorem dX4_init_25 : decode cX4_init 25 = .ok (.aload_n 0, 1) := by decide +kernel
theorem dX4_init_26 : decode cX4_init 26 = .ok (.iconst 0, 1) := by decide +kernel
theorem dX4_init_27 : decode cX4_init 27 = .ok (.putfield 26, 3) := by decide +kernel
theorem dX4_init_30 : decode cX4_init 30 = .ok (.aload_n 0, 1) := by decide +kernel
theorem dX4_init_31 : decode cX4_init 31 = .ok (.bipush 13, 2) := by decide +kernel
theorem dX4_init_33 : decode cX4_init 33 = .ok (.putfield 29, 3) := by decide +kernel
theorem dX4_init_36 : decode cX4_init 36 = .ok (.return_, 1) := by decide +kernel
theorem dX4_read_0 : decode cX4_read 0 = .ok (.aload_n 0, 1) := by decide +kernel
theorem dX4_read_1 : decode cX4_read 1 = .ok (.aload_n 1, 1) := by decide +kernel
theorem dX4_read_2 : decode cX4_read 2 = .ok (.putfield 18, 3) := by decide +kernel
theorem dX4_read_5 : decode cX4_read 5 = .ok (.aload_n 0, 1) := by decide +kernel
theorem dX4_read_6 : decode cX4_read 6 = .ok (.iconst 0, 1) := by decide +kernel
theorem dX4_read_7 : decode cX4_read 7 = .ok (.putfield 22, 3) := by decide +kernel
theorem dX4_read_10 : decode cX4_read 10 = .ok (.aload_n 0, 1) := by decide +kernel
theorem dX4_read_11 : decode cX4_read 11 = .ok (.iconst 0, 1) := by decide +kernel
theorem dX4_read_12 : decode cX4_read 12 = .ok (.putfield 26, 3) := by decide +kernel
theorem dX4_read_15 : decode cX4_read 15 = .ok (.aload_n 0, 1) := by decide +kernel
theorem dX4_read_16 : decode cX4_read 16 = .ok (.getfield 12, 3) := by decide +kernel
theorem dX4_read_19 : decode cX4_read 19 = .ok (.invokevirtual 32, 3) := by decide +kernel
theorem dX4_read_22 : decode cX4_read 22 = .ok (.aload_n 0, 1) := by decide +kernel
theorem dX4_read_23 : decode cX4_read 23 = .ok (.aload_n 0, 1) := by decide +kernel
theorem dX4_read_24 : decode cX4_read 24 = .ok (.getfield 12, 3) := by decide +kernel
theorem dX4_read_27 : decode cX4_read 27 = .ok (.getfield 35, 3) := by decide +kernel
theorem dX4_read_30 : decode cX4_read 30 = .ok (.iconst 0, 1) := by decide +kernel
theorem dX4_read_31 : decode cX4_read 31 = .ok (.iaload, 1) := by decide +kernel
theorem dX4_read_32 : decode cX4_read 32 = .ok (.putfield 29, 3) := by decide +kernel
theorem dX4_read_35 : decode cX4_read 35 = .ok (.aload_n 0, 1) := by decide +kernel
theorem dX4_read_36 : decode cX4_read 36 = .ok (.invokevirtual 39, 3) := by decide +kernel
theorem dX4_read_39 : decode cX4_read 39 = .ok (.ifCond .eq 16, 3) := by decide +kernel
theorem dX4_read_42 : decode cX4_read 42 = .ok (.aload_n 0, 1) := by decide +kernel
theorem dX4_read_43 : decode cX4_read 43 = .ok (.getfield 29, 3) := by decide +kernel
theorem dX4_read_46 : decode cX4_read 46 = .ok (.bipush 13, 2) := by decide +kernel
theorem dX4_read_48 : decode cX4_read 48 = .ok (.if_icmp .ne 7, 3) := by decide +kernel
theorem dX4_read_51 : decode cX4_read 51 = .ok (.iconst 1, 1) := by decide +kernel
theorem dX4_read_52 : decode cX4_read 52 = .ok (.goto 4, 3) := by decide +kernel
theorem dX4_read_55 : decode cX4_read 55 = .ok (.iconst 0, 1) := by decide +kernel
theorem dX4_read_56 : decode cX4_read 56 = .ok (.istore_n 2, 1) := by decide +kernel
theorem dX4_read_57 : decode cX4_read 57 = .ok (.aload_n 0, 1) := by decide +kernel
theorem dX4_read_58 : decode cX4_read 58 = .ok (.getfield 12, 3) := by decide +kernel
theorem dX4_read_61 : decode cX4_read 61 = .ok (.iconst 0, 1) := by decide +kernel
theorem dX4_read_62 : decode cX4_read 62 = .ok (.putfield 43, 3) := by decide +kernel
theorem dX4_read_65 : decode cX4_read 65 = .ok (.iload_n 2, 1) := by decide +kernel
theorem dX4_read_66 : decode cX4_read 66 = .ok (.ifCond .eq 7, 3) := by decide +kernel
theorem dX4_read_69 : decode cX4_read 69 = .ok (.iconst (-1), 1) := by decide +kernel
theorem dX4_read_70 : decode cX4_read 70 = .ok (.goto 15, 3) := by decide +kernel
theorem dX4_read_73 : decode cX4_read 73 = .ok (.aload_n 0, 1) := by decide +kernel
theorem dX4_read_74 : decode cX4_read 74 = .ok (.getfield 12, 3) := by decide +kernel
theorem dX4_read_77 : decode cX4_read 77 = .ok (.getfield 46, 3) := by decide +kernel
theorem dX4_read_80 : decode cX4_read 80 = .ok (.aload_n 0, 1) := by decide +kernel
theorem dX4_read_81 : decode cX4_read 81 = .ok (.getfield 26, 3) := by decide +kernel
theorem dX4_read_84 : decode cX4_read 84 = .ok (.iaload, 1) := by decide +kernel
theorem dX4_read_85 : decode cX4_read 85 = .ok (.ireturn, 1) := by decide +kernel
theorem dX4_readsParts_0 : decode cX4_readsParts 0 = .ok (.iconst 0, 1) := by decide +kernel
theorem dX4_readsParts_1 : decode cX4_readsParts 1 = .ok (.istore_n 1, 1) := by decide +kernel
theorem dX4_readsParts_2 : decode cX4_readsParts 2 = .ok (.iload_n 1, 1) := by decide +kernel
theorem dX4_readsParts_3 : decode cX4_readsParts 3 = .ok (.iconst 3, 1) := by decide +kernel
theorem dX4_readsParts_4 : decode cX4_readsParts 4 = .ok (.if_icmp .ge 44, 3) := by decide +kernel
theorem dX4_readsParts_7 : decode cX4_readsParts 7 = .ok (.aload_n 0, 1) := by decide +kernel
theorem dX4_readsParts_8 : decode cX4_readsParts 8 = .ok (.iload_n 1, 1) := by decide +kernel
theorem dX4_readsParts_9 : decode cX4_readsParts 9 = .ok (.invokevirtual 49, 3) := by decide +kernel
theorem dX4_readsParts_12 : decode cX4_readsParts 12 = .ok (.aload_n 0, 1) := by decide +kernel
theorem dX4_readsParts_13 : decode cX4_readsParts 13 = .ok (.bipush 6, 2) := by decide +kernel
theorem dX4_readsParts_15 : decode cX4_readsParts 15 = .ok (.iload_n 1, 1) := by decide +kernel
theorem dX4_readsParts_16 : decode cX4_readsParts 16 = .ok (.iadd, 1) := by decide +kernel
theorem dX4_readsParts_17 : decode cX4_readsParts 17 = .ok (.invokevirtual 53, 3) := by decide +kernel
theorem dX4_readsParts_20 : decode cX4_readsParts 20 = .ok (.ifCond .eq 20, 3) := by decide +kernel
theorem dX4_readsParts_23 : decode cX4_readsParts 23 = .ok (.aload_n 0, 1) := by decide +kernel
theorem dX4_readsParts_24 : decode cX4_readsParts 24 = .ok (.iconst 0, 1) := by decide +kernel
theorem dX4_readsParts_25 : decode cX4_readsParts 25 = .ok (.invokevirtual 57, 3) := by decide +kernel
theorem dX4_readsParts_28 : decode cX4_readsParts 28 = .ok (.ifCond .eq 12, 3) := by decide +kernel
theorem dX4_readsParts_31 : decode cX4_readsParts 31 = .ok (.aload_n 0, 1) := by decide +kernel
theorem dX4_readsParts_32 : decode cX4_readsParts 32 = .ok (.bipush 59, 2) := by decide +kernel
theorem dX4_readsParts_34 : decode cX4_readsParts 34 = .ok (.invokevirtual 53, 3) := by decide +kernel
theorem dX4_readsParts_37 : decode cX4_readsParts 37 = .ok (.ifCond .ne 5, 3) := by decide +kernel
theorem dX4_readsParts_40 : decode cX4_readsParts 40 = .ok (.iconst 0, 1) := by decide +kernel
theorem dX4_readsParts_41 : decode cX4_readsParts 41 = .ok (.ireturn, 1) := by decide +kernel
theorem dX4_readsParts_42 : decode cX4_readsParts 42 = .ok (.iinc 1 1, 3) := by decide +kernel
theorem dX4_readsParts_45 : decode cX4_readsParts 45 = .ok (.goto (-43), 3) := by decide +kernel
theorem dX4_readsParts_48 : decode cX4_readsParts 48 = .ok (.aload_n 0, 1) := by decide +kernel
theorem dX4_readsParts_49 : decode cX4_readsParts 49 = .ok (.iconst 3, 1) := by decide +kernel
theorem dX4_readsParts_50 : decode cX4_readsParts 50 = .ok (.invokevirtual 49, 3) := by decide +kernel
theorem dX4_readsParts_53 : decode cX4_readsParts 53 = .ok (.iconst 1, 1) := by decide +kernel
theorem dX4_readsParts_54 : decode cX4_readsParts 54 = .ok (.ireturn, 1) := by decide +kernel
theorem dX4_readsAny_0 : decode cX4_readsAny 0 = .ok (.aload_n 0, 1) := by decide +kernel
theorem dX4_readsAny_1 : decode cX4_readsAny 1 = .ok (.iload_n 1, 1) := by decide +kernel
theorem dX4_readsAny_2 : decode cX4_readsAny 2 = .ok (.invokevirtual 60, 3) := by decide +kernel
theorem dX4_readsAny_5 : decode cX4_readsAny 5 = .ok (.ifCond .ne 5, 3) := by decide +kernel
theorem dX4_readsAny_8 : decode cX4_readsAny 8 = .ok (.iconst 0, 1) := by decide +kernel
theorem dX4_readsAny_9 : decode cX4_readsAny 9 = .ok (.ireturn, 1) := by decide +kernel
theorem dX4_readsAny_10 : decode cX4_readsAny 10 = .ok (.iconst 0, 1) := by decide +kernel
theorem dX4_readsAny_11 : decode cX4_readsAny 11 = .ok (.istore_n 2, 1) := by decide +kernel
theorem dX4_readsAny_12 : decode cX4_readsAny 12 = .ok (.iload_n 2, 1) := by decide +kernel
theorem dX4_readsAny_13 : decode cX4_readsAny 13 = .ok (.sipush 160, 3) := by decide +kernel
theorem dX4_readsAny_16 : decode cX4_readsAny 16 = .ok (.if_icmp .ge 38, 3) := by decide +kernel
theorem dX4_readsAny_19 : decode cX4_readsAny 19 = .ok (.aload_n 0, 1) := by decide +kernel
theorem dX4_readsAny_20 : decode cX4_readsAny 20 = .ok (.getfield 29, 3) := by decide +kernel
theorem dX4_readsAny_23 : decode cX4_readsAny 23 = .ok (.bipush 9, 2) := by decide +kernel
theorem dX4_readsAny_25 : decode cX4_readsAny 25 = .ok (.if_icmp .ne 29, 3) := by decide +kernel
theorem dX4_readsAny_28 : decode cX4_readsAny 28 = .ok (.aload_n 0, 1) := by decide +kernel
theorem dX4_readsAny_29 : decode cX4_readsAny 29 = .ok (.invokevirtual 63, 3) := by decide +kernel
theorem dX4_readsAny_32 : decode cX4_readsAny 32 = .ok (.aload_n 0, 1) := by decide +kernel
theorem dX4_readsAny_33 : decode cX4_readsAny 33 = .ok (.iload_n 1, 1) := by decide +kernel
theorem dX4_readsAny_34 : decode cX4_readsAny 34 = .ok (.invokevirtual 60, 3) := by decide +kernel
theorem dX4_readsAny_37 : decode cX4_readsAny 37 = .ok (.ifCond .ne 5, 3) := by decide +kernel
theorem dX4_readsAny_40 : decode cX4_readsAny 40 = .ok (.iconst 0, 1) := by decide +kernel
theorem dX4_readsAny_41 : decode cX4_readsAny 41 = .ok (.ireturn, 1) := by decide +kernel
theorem dX4_readsAny_42 : decode cX4_readsAny 42 = .ok (.aload_n 0, 1) := by decide +kernel
theorem dX4_readsAny_43 : decode cX4_readsAny 43 = .ok (.bipush (-9), 2) := by decide +kernel
theorem dX4_readsAny_45 : decode cX4_readsAny 45 = .ok (.invokevirtual 66, 3) := by decide +kernel
theorem dX4_readsAny_48 : decode cX4_readsAny 48 = .ok (.iinc 2 1, 3) := by decide +kernel
theorem dX4_readsAny_51 : decode cX4_readsAny 51 = .ok (.goto (-39), 3) := by decide +kernel
theorem dX4_readsAny_54 : decode cX4_readsAny 54 = .ok (.iconst 1, 1) := by decide +kernel
theorem dX4_readsAny_55 : decode cX4_readsAny 55 = .ok (.ireturn, 1) := by decide +kernel
theorem dX4_readsAll_0 : decode cX4_readsAll 0 = .ok (.aload_n 0, 1) := by decide +kernel
theorem dX4_readsAll_1 : decode cX4_readsAll 1 = .ok (.iload_n 1, 1) := by decide +kernel
theorem dX4_readsAll_2 : decode cX4_readsAll 2 = .ok (.invokevirtual 69, 3) := by decide +kernel
theorem dX4_readsAll_5 : decode cX4_readsAll 5 = .ok (.ifCond .ne 5, 3) := by decide +kernel
theorem dX4_readsAll_8 : decode cX4_readsAll 8 = .ok (.iconst 0, 1) := by decide +kernel
theorem dX4_readsAll_9 : decode cX4_readsAll 9 = .ok (.ireturn, 1) := by decide +kernel
theorem dX4_readsAll_10 : decode cX4_readsAll 10 = .ok (.iconst 0, 1) := by decide +kernel
theorem dX4_readsAll_11 : decode cX4_readsAll 11 = .ok (.istore_n 2, 1) := by decide +kernel
theorem dX4_readsAll_12 : decode cX4_readsAll 12 = .ok (.iload_n 2, 1) := by decide +kernel
theorem dX4_readsAll_13 : decode cX4_readsAll 13 = .ok (.sipush 160, 3) := by decide +kernel
theorem dX4_readsAll_16 : decode cX4_readsAll 16 = .ok (.if_icmp .ge 38, 3) := by decide +kernel
theorem dX4_readsAll_19 : decode cX4_readsAll 19 = .ok (.aload_n 0, 1) := by decide +kernel
theorem dX4_readsAll_20 : decode cX4_readsAll 20 = .ok (.getfield 29, 3) := by decide +kernel
theorem dX4_readsAll_23 : decode cX4_readsAll 23 = .ok (.bipush 10, 2) := by decide +kernel
theorem dX4_readsAll_25 : decode cX4_readsAll 25 = .ok (.if_icmp .ne 29, 3) := by decide +kernel
theorem dX4_readsAll_28 : decode cX4_readsAll 28 = .ok (.aload_n 0, 1) := by decide +kernel
theorem dX4_readsAll_29 : decode cX4_readsAll 29 = .ok (.invokevirtual 63, 3) := by decide +kernel
theorem dX4_readsAll_32 : decode cX4_readsAll 32 = .ok (.aload_n 0, 1) := by decide +kernel
theorem dX4_readsAll_33 : decode cX4_readsAll 33 = .ok (.iload_n 1, 1) := by decide +kernel
theorem dX4_readsAll_34 : decode cX4_readsAll 34 = .ok (.invokevirtual 69, 3) := by decide +kernel
theorem dX4_readsAll_37 : decode cX4_readsAll 37 = .ok (.ifCond .ne 5, 3) := by decide +kernel
theorem dX4_readsAll_40 : decode cX4_readsAll 40 = .ok (.iconst 0, 1) := by decide +kernel
theorem dX4_readsAll_41 : decode cX4_readsAll 41 = .ok (.ireturn, 1) := by decide +kernel
theorem dX4_readsAll_42 : decode cX4_readsAll 42 = .ok (.aload_n 0, 1) := by decide +kernel
theorem dX4_readsAll_43 : decode cX4_readsAll 43 = .ok (.bipush (-10), 2) := by decide +kernel
theorem dX4_readsAll_45 : decode cX4_readsAll 45 = .ok (.invokevirtual 66, 3) := by decide +kernel
theorem dX4_readsAll_48 : decode cX4_readsAll 48 = .ok (.iinc 2 1, 3) := by decide +kernel
theorem dX4_readsAll_51 : decode cX4_readsAll 51 = .ok (.goto (-39), 3) := by decide +kernel
theorem dX4_readsAll_54 : decode cX4_readsAll 54 = .ok (.iconst 1, 1) := by decide +kernel
theorem dX4_readsAll_55 : decode cX4_readsAll 55 = .ok (.ireturn, 1) := by decide +kernel
theorem dX4_readsNot_0 : decode cX4_readsNot 0 = .ok (.aload_n 0, 1) := by decide +kernel
theorem dX4_readsNot_1 : decode cX4_readsNot 1 = .ok (.getfield 29, 3) := by decide +kernel
theorem dX4_readsNot_4 : decode cX4_readsNot 4 = .ok (.bipush 11, 2) := by decide +kernel
theorem dX4_readsNot_6 : decode cX4_readsNot 6 = .ok (.if_icmp .eq 9, 3) := by decide +kernel
theorem dX4_readsNot_9 : decode cX4_readsNot 9 = .ok (.aload_n 0, 1) := by decide +kernel
theorem dX4_readsNot_10 : decode cX4_readsNot 10 = .ok (.iload_n 1, 1) := by decide +kernel
theorem dX4_readsNot_11 : decode cX4_readsNot 11 = .ok (.invokevirtual 72, 3) := by decide +kernel
theorem dX4_readsNot_14 : decode cX4_readsNot 14 = .ok (.ireturn, 1) := by decide +kernel
theorem dX4_readsNot_15 : decode cX4_readsNot 15 = .ok (.iload_n 1, 1) := by decide +kernel
theorem dX4_readsNot_16 : decode cX4_readsNot 16 = .ok (.iconst 5, 1) := by decide +kernel
theorem dX4_readsNot_17 : decode cX4_readsNot 17 = .ok (.if_icmp .lt 5, 3) := by decide +kernel
theorem dX4_readsNot_20 : decode cX4_readsNot 20 = .ok (.iconst 0, 1) := by decide +kernel
theorem dX4_readsNot_21 : decode cX4_readsNot 21 = .ok (.ireturn, 1) := by decide +kernel
theorem dX4_readsNot_22 : decode cX4_readsNot 22 = .ok (.aload_n 0, 1) := by decide +kernel
theorem dX4_readsNot_23 : decode cX4_readsNot 23 = .ok (.invokevirtual 63, 3) := by decide +kernel
theorem dX4_readsNot_26 : decode cX4_readsNot 26 = .ok (.aload_n 0, 1) := by decide +kernel
theorem dX4_readsNot_27 : decode cX4_readsNot 27 = .ok (.iload_n 1, 1) := by decide +kernel
theorem dX4_readsNot_28 : decode cX4_readsNot 28 = .ok (.iconst 1, 1) := by decide +kernel
theorem dX4_readsNot_29 : decode cX4_readsNot 29 = .ok (.iadd, 1) := by decide +kernel
theorem dX4_readsNot_30 : decode cX4_readsNot 30 = .ok (.invokevirtual 69, 3) := by decide +kernel
theorem dX4_readsNot_33 : decode cX4_readsNot 33 = .ok (.ifCond .ne 5, 3) := by decide +kernel
theorem dX4_readsNot_36 : decode cX4_readsNot 36 = .ok (.iconst 0, 1) := by decide +kernel
theorem dX4_readsNot_37 : decode cX4_readsNot 37 = .ok (.ireturn, 1) := by decide +kernel
theorem dX4_readsNot_38 : decode cX4_readsNot 38 = .ok (.aload_n 0, 1) := by decide +kernel
theorem dX4_readsNot_39 : decode cX4_readsNot 39 = .ok (.bipush (-11), 2) := by decide +kernel
theorem dX4_readsNot_41 : decode cX4_readsNot 41 = .ok (.invokevirtual 66, 3) := by decide +kernel
theorem dX4_readsNot_44 : decode cX4_readsNot 44 = .ok (.iconst 1, 1) := by decide +kernel
theorem dX4_readsNot_45 : decode cX4_readsNot 45 = .ok (.ireturn, 1) := by decide +kernel
theorem dX4_readsLess_0 : decode cX4_readsLess 0 = .ok (.aload_n 0, 1) := by decide +kernel
theorem dX4_readsLess_1 : decode cX4_readsLess 1 = .ok (.iload_n 1, 1) := by decide +kernel
theorem dX4_readsLess_2 : decode cX4_readsLess 2 = .ok (.invokevirtual 75, 3) := by decide +kernel
theorem dX4_readsLess_5 : decode cX4_readsLess 5 = .ok (.ifCond .ne 5, 3) := by decide +kernel
theorem dX4_readsLess_8 : decode cX4_readsLess 8 = .ok (.iconst 0, 1) := by decide +kernel
theorem dX4_readsLess_9 : decode cX4_readsLess 9 = .ok (.ireturn, 1) := by decide +kernel
theorem dX4_readsLess_10 : decode cX4_readsLess 10 = .ok (.aload_n 0, 1) := by decide +kernel
theorem dX4_readsLess_11 : decode cX4_readsLess 11 = .ok (.getfield 29, 3) := by decide +kernel
theorem dX4_readsLess_14 : decode cX4_readsLess 14 = .ok (.istore_n 2, 1) := by decide +kernel
theorem dX4_readsLess_15 : decode cX4_readsLess 15 = .ok (.iload_n 2, 1) := by decide +kernel
theorem dX4_readsLess_16 : decode cX4_readsLess 16 = .ok (.bipush 60, 2) := by decide +kernel
theorem dX4_readsLess_18 : decode cX4_readsLess 18 = .ok (.if_icmp .eq 11, 3) := by decide +kernel
theorem dX4_readsLess_21 : decode cX4_readsLess 21 = .ok (.iload_n 2, 1) := by decide +kernel
theorem dX4_readsLess_22 : decode cX4_readsLess 22 = .ok (.bipush 61, 2) := by decide +kernel
theorem dX4_readsLess_24 : decode cX4_readsLess 24 = .ok (.if_icmp .eq 5, 3) := by decide +kernel
theorem dX4_readsLess_27 : decode cX4_readsLess 27 = .ok (.iconst 1, 1) := by decide +kernel
theorem dX4_readsLess_28 : decode cX4_readsLess 28 = .ok (.ireturn, 1) := by decide +kernel
theorem dX4_readsLess_29 : decode cX4_readsLess 29 = .ok (.aload_n 0, 1) := by decide +kernel
theorem dX4_readsLess_30 : decode cX4_readsLess 30 = .ok (.invokevirtual 63, 3) := by decide +kernel
theorem dX4_readsLess_33 : decode cX4_readsLess 33 = .ok (.aload_n 0, 1) := by decide +kernel
theorem dX4_readsLess_34 : decode cX4_readsLess 34 = .ok (.iload_n 1, 1) := by decide +kernel
theorem dX4_readsLess_35 : decode cX4_readsLess 35 = .ok (.invokevirtual 75, 3) := by decide +kernel
theorem dX4_readsLess_38 : decode cX4_readsLess 38 = .ok (.ifCond .ne 5, 3) := by decide +kernel
theorem dX4_readsLess_41 : decode cX4_readsLess 41 = .ok (.iconst 0, 1) := by decide +kernel
theorem dX4_readsLess_42 : decode cX4_readsLess 42 = .ok (.ireturn, 1) := by decide +kernel
theorem dX4_readsLess_43 : decode cX4_readsLess 43 = .ok (.aload_n 0, 1) := by decide +kernel
theorem dX4_readsLess_44 : decode cX4_readsLess 44 = .ok (.iload_n 2, 1) := by decide +kernel
theorem dX4_readsLess_45 : decode cX4_readsLess 45 = .ok (.ineg, 1) := by decide +kernel
theorem dX4_readsLess_46 : decode cX4_readsLess 46 = .ok (.invokevirtual 66, 3) := by decide +kernel
theorem dX4_readsLess_49 : decode cX4_readsLess 49 = .ok (.iconst 1, 1) := by decide +kernel
theorem dX4_readsLess_50 : decode cX4_readsLess 50 = .ok (.ireturn, 1) := by decide +kernel
theorem dX4_readsSum_0 : decode cX4_readsSum 0 = .ok (.aload_n 0, 1) := by decide +kernel
theorem dX4_readsSum_1 : decode cX4_readsSum 1 = .ok (.iload_n 1, 1) := by decide +kernel
theorem dX4_readsSum_2 : decode cX4_readsSum 2 = .ok (.invokevirtual 78, 3) := by decide +kernel
theorem dX4_readsSum_5 : decode cX4_readsSum 5 = .ok (.ifCond .ne 5, 3) := by decide +kernel
theorem dX4_readsSum_8 : decode cX4_readsSum 8 = .ok (.iconst 0, 1) := by decide +kernel
theorem dX4_readsSum_9 : decode cX4_readsSum 9 = .ok (.ireturn, 1) := by decide +kernel
theorem dX4_readsSum_10 : decode cX4_readsSum 10 = .ok (.iconst 0, 1) := by decide +kernel
theorem dX4_readsSum_11 : decode cX4_readsSum 11 = .ok (.istore_n 2, 1) := by decide +kernel
theorem dX4_readsSum_12 : decode cX4_readsSum 12 = .ok (.iload_n 2, 1) := by decide +kernel
theorem dX4_readsSum_13 : decode cX4_readsSum 13 = .ok (.sipush 160, 3) := by decide +kernel
theorem dX4_readsSum_16 : decode cX4_readsSum 16 = .ok (.if_icmp .ge 52, 3) := by decide +kernel
theorem dX4_readsSum_19 : decode cX4_readsSum 19 = .ok (.aload_n 0, 1) := by decide +kernel
theorem dX4_readsSum_20 : decode cX4_readsSum 20 = .ok (.getfield 29, 3) := by decide +kernel
theorem dX4_readsSum_23 : decode cX4_readsSum 23 = .ok (.bipush 43, 2) := by decide +kernel
theorem dX4_readsSum_25 : decode cX4_readsSum 25 = .ok (.if_icmp .eq 12, 3) := by decide +kernel
theorem dX4_readsSum_28 : decode cX4_readsSum 28 = .ok (.aload_n 0, 1) := by decide +kernel
theorem dX4_readsSum_29 : decode cX4_readsSum 29 = .ok (.getfield 29, 3) := by decide +kernel
theorem dX4_readsSum_32 : decode cX4_readsSum 32 = .ok (.bipush 45, 2) := by decide +kernel
theorem dX4_readsSum_34 : decode cX4_readsSum 34 = .ok (.if_icmp .ne 34, 3) := by decide +kernel
theorem dX4_readsSum_37 : decode cX4_readsSum 37 = .ok (.aload_n 0, 1) := by decide +kernel
theorem dX4_readsSum_38 : decode cX4_readsSum 38 = .ok (.getfield 29, 3) := by decide +kernel
theorem dX4_readsSum_41 : decode cX4_readsSum 41 = .ok (.istore_n 3, 1) := by decide +kernel
theorem dX4_readsSum_42 : decode cX4_readsSum 42 = .ok (.aload_n 0, 1) := by decide +kernel
theorem dX4_readsSum_43 : decode cX4_readsSum 43 = .ok (.invokevirtual 63, 3) := by decide +kernel
theorem dX4_readsSum_46 : decode cX4_readsSum 46 = .ok (.aload_n 0, 1) := by decide +kernel
theorem dX4_readsSum_47 : decode cX4_readsSum 47 = .ok (.iload_n 1, 1) := by decide +kernel
theorem dX4_readsSum_48 : decode cX4_readsSum 48 = .ok (.invokevirtual 78, 3) := by decide +kernel
theorem dX4_readsSum_51 : decode cX4_readsSum 51 = .ok (.ifCond .ne 5, 3) := by decide +kernel
theorem dX4_readsSum_54 : decode cX4_readsSum 54 = .ok (.iconst 0, 1) := by decide +kernel
theorem dX4_readsSum_55 : decode cX4_readsSum 55 = .ok (.ireturn, 1) := by decide +kernel
theorem dX4_readsSum_56 : decode cX4_readsSum 56 = .ok (.aload_n 0, 1) := by decide +kernel
theorem dX4_readsSum_57 : decode cX4_readsSum 57 = .ok (.iload_n 3, 1) := by decide +kernel
theorem dX4_readsSum_58 : decode cX4_readsSum 58 = .ok (.ineg, 1) := by decide +kernel
theorem dX4_readsSum_59 : decode cX4_readsSum 59 = .ok (.invokevirtual 66, 3) := by decide +kernel
theorem dX4_readsSum_62 : decode cX4_readsSum 62 = .ok (.iinc 2 1, 3) := by decide +kernel
theorem dX4_readsSum_65 : decode cX4_readsSum 65 = .ok (.goto (-53), 3) := by decide +kernel
theorem dX4_readsSum_68 : decode cX4_readsSum 68 = .ok (.iconst 1, 1) := by decide +kernel
theorem dX4_readsSum_69 : decode cX4_readsSum 69 = .ok (.ireturn, 1) := by decide +kernel
theorem dX4_readsTerm_0 : decode cX4_readsTerm 0 = .ok (.aload_n 0, 1) := by decide +kernel
theorem dX4_readsTerm_1 : decode cX4_readsTerm 1 = .ok (.iload_n 1, 1) := by decide +kernel
theorem dX4_readsTerm_2 : decode cX4_readsTerm 2 = .ok (.invokevirtual 81, 3) := by decide +kernel
theorem dX4_readsTerm_5 : decode cX4_readsTerm 5 = .ok (.ifCond .ne 5, 3) := by decide +kernel
theorem dX4_readsTerm_8 : decode cX4_readsTerm 8 = .ok (.iconst 0, 1) := by decide +kernel
theorem dX4_readsTerm_9 : decode cX4_readsTerm 9 = .ok (.ireturn, 1) := by decide +kernel
theorem dX4_readsTerm_10 : decode cX4_readsTerm 10 = .ok (.iconst 0, 1) := by decide +kernel
theorem dX4_readsTerm_11 : decode cX4_readsTerm 11 = .ok (.istore_n 2, 1) := by decide +kernel
theorem dX4_readsTerm_12 : decode cX4_readsTerm 12 = .ok (.iload_n 2, 1) := by decide +kernel
theorem dX4_readsTerm_13 : decode cX4_readsTerm 13 = .ok (.sipush 160, 3) := by decide +kernel
theorem dX4_readsTerm_16 : decode cX4_readsTerm 16 = .ok (.if_icmp .ge 38, 3) := by decide +kernel
theorem dX4_readsTerm_19 : decode cX4_readsTerm 19 = .ok (.aload_n 0, 1) := by decide +kernel
theorem dX4_readsTerm_20 : decode cX4_readsTerm 20 = .ok (.getfield 29, 3) := by decide +kernel
theorem dX4_readsTerm_23 : decode cX4_readsTerm 23 = .ok (.bipush 42, 2) := by decide +kernel
theorem dX4_readsTerm_25 : decode cX4_readsTerm 25 = .ok (.if_icmp .ne 29, 3) := by decide +kernel
theorem dX4_readsTerm_28 : decode cX4_readsTerm 28 = .ok (.aload_n 0, 1) := by decide +kernel
theorem dX4_readsTerm_29 : decode cX4_readsTerm 29 = .ok (.invokevirtual 63, 3) := by decide +kernel
theorem dX4_readsTerm_32 : decode cX4_readsTerm 32 = .ok (.aload_n 0, 1) := by decide +kernel
theorem dX4_readsTerm_33 : decode cX4_readsTerm 33 = .ok (.iload_n 1, 1) := by decide +kernel
theorem dX4_readsTerm_34 : decode cX4_readsTerm 34 = .ok (.invokevirtual 81, 3) := by decide +kernel
theorem dX4_readsTerm_37 : decode cX4_readsTerm 37 = .ok (.ifCond .ne 5, 3) := by decide +kernel
theorem dX4_readsTerm_40 : decode cX4_readsTerm 40 = .ok (.iconst 0, 1) := by decide +kernel
theorem dX4_readsTerm_41 : decode cX4_readsTerm 41 = .ok (.ireturn, 1) := by decide +kernel
theorem dX4_readsTerm_42 : decode cX4_readsTerm 42 = .ok (.aload_n 0, 1) := by decide +kernel
theorem dX4_readsTerm_43 : decode cX4_readsTerm 43 = .ok (.bipush (-42), 2) := by decide +kernel
theorem dX4_readsTerm_45 : decode cX4_readsTerm 45 = .ok (.invokevirtual 66, 3) := by decide +kernel
theorem dX4_readsTerm_48 : decode cX4_readsTerm 48 = .ok (.iinc 2 1, 3) := by decide +kernel
theorem dX4_readsTerm_51 : decode cX4_readsTerm 51 = .ok (.goto (-39), 3) := by decide +kernel
theorem dX4_readsTerm_54 : decode cX4_readsTerm 54 = .ok (.iconst 1, 1) := by decide +kernel
theorem dX4_readsTerm_55 : decode cX4_readsTerm 55 = .ok (.ireturn, 1) := by decide +kernel
theorem dX4_readsOne_0 : decode cX4_readsOne 0 = .ok (.aload_n 0, 1) := by decide +kernel
theorem dX4_readsOne_1 : decode cX4_readsOne 1 = .ok (.getfield 29, 3) := by decide +kernel
theorem dX4_readsOne_4 : decode cX4_readsOne 4 = .ok (.bipush 12, 2) := by decide +kernel
theorem dX4_readsOne_6 : decode cX4_readsOne 6 = .ok (.if_icmp .eq 12, 3) := by decide +kernel
theorem dX4_readsOne_9 : decode cX4_readsOne 9 = .ok (.aload_n 0, 1) := by decide +kernel
theorem dX4_readsOne_10 : decode cX4_readsOne 10 = .ok (.getfield 29, 3) := by decide +kernel
theorem dX4_readsOne_13 : decode cX4_readsOne 13 = .ok (.bipush 6, 2) := by decide +kernel
theorem dX4_readsOne_15 : decode cX4_readsOne 15 = .ok (.if_icmp .ge 43, 3) := by decide +kernel
theorem dX4_readsOne_18 : decode cX4_readsOne 18 = .ok (.aload_n 0, 1) := by decide +kernel
theorem dX4_readsOne_19 : decode cX4_readsOne 19 = .ok (.aload_n 0, 1) := by decide +kernel
theorem dX4_readsOne_20 : decode cX4_readsOne 20 = .ok (.getfield 29, 3) := by decide +kernel
theorem dX4_readsOne_23 : decode cX4_readsOne 23 = .ok (.bipush 12, 2) := by decide +kernel
theorem dX4_readsOne_25 : decode cX4_readsOne 25 = .ok (.if_icmp .ne 18, 3) := by decide +kernel
theorem dX4_readsOne_28 : decode cX4_readsOne 28 = .ok (.aload_n 0, 1) := by decide +kernel
theorem dX4_readsOne_29 : decode cX4_readsOne 29 = .ok (.getfield 12, 3) := by decide +kernel
theorem dX4_readsOne_32 : decode cX4_readsOne 32 = .ok (.getfield 84, 3) := by decide +kernel
theorem dX4_readsOne_35 : decode cX4_readsOne 35 = .ok (.aload_n 0, 1) := by decide +kernel
theorem dX4_readsOne_36 : decode cX4_readsOne 36 = .ok (.getfield 26, 3) := by decide +kernel
theorem dX4_readsOne_39 : decode cX4_readsOne 39 = .ok (.iaload, 1) := by decide +kernel
theorem dX4_readsOne_40 : decode cX4_readsOne 40 = .ok (.goto 9, 3) := by decide +kernel
theorem dX4_readsOne_43 : decode cX4_readsOne 43 = .ok (.iconst (-1), 1) := by decide +kernel
theorem dX4_readsOne_44 : decode cX4_readsOne 44 = .ok (.aload_n 0, 1) := by decide +kernel
theorem dX4_readsOne_45 : decode cX4_readsOne 45 = .ok (.getfield 29, 3) := by decide +kernel
theorem dX4_readsOne_48 : decode cX4_readsOne 48 = .ok (.isub, 1) := by decide +kernel
theorem dX4_readsOne_49 : decode cX4_readsOne 49 = .ok (.invokevirtual 66, 3) := by decide +kernel
theorem dX4_readsOne_52 : decode cX4_readsOne 52 = .ok (.aload_n 0, 1) := by decide +kernel
theorem dX4_readsOne_53 : decode cX4_readsOne 53 = .ok (.invokevirtual 63, 3) := by decide +kernel
theorem dX4_readsOne_56 : decode cX4_readsOne 56 = .ok (.iconst 1, 1) := by decide +kernel
theorem dX4_readsOne_57 : decode cX4_readsOne 57 = .ok (.ireturn, 1) := by decide +kernel
theorem dX4_readsOne_58 : decode cX4_readsOne 58 = .ok (.aload_n 0, 1) := by decide +kernel
theorem dX4_readsOne_59 : decode cX4_readsOne 59 = .ok (.getfield 29, 3) := by decide +kernel
theorem dX4_readsOne_62 : decode cX4_readsOne 62 = .ok (.bipush 45, 2) := by decide +kernel
theorem dX4_readsOne_64 : decode cX4_readsOne 64 = .ok (.if_icmp .eq 12, 3) := by decide +kernel
theorem dX4_readsOne_67 : decode cX4_readsOne 67 = .ok (.aload_n 0, 1) := by decide +kernel
theorem dX4_readsOne_68 : decode cX4_readsOne 68 = .ok (.getfield 29, 3) := by decide +kernel
theorem dX4_readsOne_71 : decode cX4_readsOne 71 = .ok (.bipush 40, 2) := by decide +kernel
theorem dX4_readsOne_73 : decode cX4_readsOne 73 = .ok (.if_icmp .ne 8, 3) := by decide +kernel
theorem dX4_readsOne_76 : decode cX4_readsOne 76 = .ok (.iload_n 1, 1) := by decide +kernel
theorem dX4_readsOne_77 : decode cX4_readsOne 77 = .ok (.iconst 5, 1) := by decide +kernel
theorem dX4_readsOne_78 : decode cX4_readsOne 78 = .ok (.if_icmp .lt 5, 3) := by decide +kernel
theorem dX4_readsOne_81 : decode cX4_readsOne 81 = .ok (.iconst 0, 1) := by decide +kernel
theorem dX4_readsOne_82 : decode cX4_readsOne 82 = .ok (.ireturn, 1) := by decide +kernel
theorem dX4_readsOne_83 : decode cX4_readsOne 83 = .ok (.aload_n 0, 1) := by decide +kernel
theorem dX4_readsOne_84 : decode cX4_readsOne 84 = .ok (.bipush 40, 2) := by decide +kernel
theorem dX4_readsOne_86 : decode cX4_readsOne 86 = .ok (.invokevirtual 53, 3) := by decide +kernel
theorem dX4_readsOne_89 : decode cX4_readsOne 89 = .ok (.ifCond .eq 28, 3) := by decide +kernel
theorem dX4_readsOne_92 : decode cX4_readsOne 92 = .ok (.aload_n 0, 1) := by decide +kernel
theorem dX4_readsOne_93 : decode cX4_readsOne 93 = .ok (.iload_n 1, 1) := by decide +kernel
theorem dX4_readsOne_94 : decode cX4_readsOne 94 = .ok (.iconst 1, 1) := by decide +kernel
theorem dX4_readsOne_95 : decode cX4_readsOne 95 = .ok (.iadd, 1) := by decide +kernel
theorem dX4_readsOne_96 : decode cX4_readsOne 96 = .ok (.invokevirtual 57, 3) := by decide +kernel
theorem dX4_readsOne_99 : decode cX4_readsOne 99 = .ok (.ifCond .eq 16, 3) := by decide +kernel
theorem dX4_readsOne_102 : decode cX4_readsOne 102 = .ok (.aload_n 0, 1) := by decide +kernel
theorem dX4_readsOne_103 : decode cX4_readsOne 103 = .ok (.bipush 41, 2) := by decide +kernel
theorem dX4_readsOne_105 : decode cX4_readsOne 105 = .ok (.invokevirtual 53, 3) := by decide +kernel
theorem dX4_readsOne_108 : decode cX4_readsOne 108 = .ok (.ifCond .eq 7, 3) := by decide +kernel
theorem dX4_readsOne_111 : decode cX4_readsOne 111 = .ok (.iconst 1, 1) := by decide +kernel
theorem dX4_readsOne_112 : decode cX4_readsOne 112 = .ok (.goto 4, 3) := by decide +kernel
theorem dX4_readsOne_115 : decode cX4_readsOne 115 = .ok (.iconst 0, 1) := by decide +kernel
theorem dX4_readsOne_116 : decode cX4_readsOne 116 = .ok (.ireturn, 1) := by decide +kernel
theorem dX4_readsOne_117 : decode cX4_readsOne 117 = .ok (.aload_n 0, 1) := by decide +kernel
theorem dX4_readsOne_118 : decode cX4_readsOne 118 = .ok (.invokevirtual 63, 3) := by decide +kernel
theorem dX4_readsOne_121 : decode cX4_readsOne 121 = .ok (.aload_n 0, 1) := by decide +kernel
theorem dX4_readsOne_122 : decode cX4_readsOne 122 = .ok (.iload_n 1, 1) := by decide +kernel
theorem dX4_readsOne_123 : decode cX4_readsOne 123 = .ok (.iconst 1, 1) := by decide +kernel
theorem dX4_readsOne_124 : decode cX4_readsOne 124 = .ok (.iadd, 1) := by decide +kernel
theorem dX4_readsOne_125 : decode cX4_readsOne 125 = .ok (.invokevirtual 81, 3) := by decide +kernel
theorem dX4_readsOne_128 : decode cX4_readsOne 128 = .ok (.ifCond .ne 5, 3) := by decide +kernel
theorem dX4_readsOne_131 : decode cX4_readsOne 131 = .ok (.iconst 0, 1) := by decide +kernel
theorem dX4_readsOne_132 : decode cX4_readsOne 132 = .ok (.ireturn, 1) := by decide +kernel
theorem dX4_readsOne_133 : decode cX4_readsOne 133 = .ok (.aload_n 0, 1) := by decide +kernel
theorem dX4_readsOne_134 : decode cX4_readsOne 134 = .ok (.bipush (-100), 2) := by decide +kernel
theorem dX4_readsOne_136 : decode cX4_readsOne 136 = .ok (.invokevirtual 66, 3) := by decide +kernel
theorem dX4_readsOne_139 : decode cX4_readsOne 139 = .ok (.iconst 1, 1) := by decide +kernel
theorem dX4_readsOne_140 : decode cX4_readsOne 140 = .ok (.ireturn, 1) := by decide +kernel
theorem dX4_eats_0 : decode cX4_eats 0 = .ok (.aload_n 0, 1) := by decide +kernel
theorem dX4_eats_1 : decode cX4_eats 1 = .ok (.getfield 29, 3) := by decide +kernel
theorem dX4_eats_4 : decode cX4_eats 4 = .ok (.iload_n 1, 1) := by decide +kernel
theorem dX4_eats_5 : decode cX4_eats 5 = .ok (.if_icmp .eq 5, 3) := by decide +kernel
theorem dX4_eats_8 : decode cX4_eats 8 = .ok (.iconst 0, 1) := by decide +kernel
theorem dX4_eats_9 : decode cX4_eats 9 = .ok (.ireturn, 1) := by decide +kernel
theorem dX4_eats_10 : decode cX4_eats 10 = .ok (.aload_n 0, 1) := by decide +kernel
theorem dX4_eats_11 : decode cX4_eats 11 = .ok (.invokevirtual 63, 3) := by decide +kernel
theorem dX4_eats_14 : decode cX4_eats 14 = .ok (.iconst 1, 1) := by decide +kernel
theorem dX4_eats_15 : decode cX4_eats 15 = .ok (.ireturn, 1) := by decide +kernel
theorem dX4_pass_0 : decode cX4_pass 0 = .ok (.aload_n 0, 1) := by decide +kernel
theorem dX4_pass_1 : decode cX4_pass 1 = .ok (.getfield 26, 3) := by decide +kernel
theorem dX4_pass_4 : decode cX4_pass 4 = .ok (.sipush 160, 3) := by decide +kernel
theorem dX4_pass_7 : decode cX4_pass 7 = .ok (.if_icmp .ge 13, 3) := by decide +kernel
theorem dX4_pass_10 : decode cX4_pass 10 = .ok (.aload_n 0, 1) := by decide +kernel
theorem dX4_pass_11 : decode cX4_pass 11 = .ok (.dup, 1) := by decide +kernel
theorem dX4_pass_12 : decode cX4_pass 12 = .ok (.getfield 26, 3) := by decide +kernel
theorem dX4_pass_15 : decode cX4_pass 15 = .ok (.iconst 1, 1) := by decide +kernel
theorem dX4_pass_16 : decode cX4_pass 16 = .ok (.iadd, 1) := by decide +kernel
theorem dX4_pass_17 : decode cX4_pass 17 = .ok (.putfield 26, 3) := by decide +kernel
theorem dX4_pass_20 : decode cX4_pass 20 = .ok (.aload_n 0, 1) := by decide +kernel
theorem dX4_pass_21 : decode cX4_pass 21 = .ok (.aload_n 0, 1) := by decide +kernel
theorem dX4_pass_22 : decode cX4_pass 22 = .ok (.getfield 12, 3) := by decide +kernel
theorem dX4_pass_25 : decode cX4_pass 25 = .ok (.getfield 35, 3) := by decide +kernel
theorem dX4_pass_28 : decode cX4_pass 28 = .ok (.aload_n 0, 1) := by decide +kernel
theorem dX4_pass_29 : decode cX4_pass 29 = .ok (.getfield 26, 3) := by decide +kernel
theorem dX4_pass_32 : decode cX4_pass 32 = .ok (.iaload, 1) := by decide +kernel
theorem dX4_pass_33 : decode cX4_pass 33 = .ok (.putfield 29, 3) := by decide +kernel
theorem dX4_pass_36 : decode cX4_pass 36 = .ok (.return_, 1) := by decide +kernel
theorem dX4_begin_0 : decode cX4_begin 0 = .ok (.aload_n 0, 1) := by decide +kernel
theorem dX4_begin_1 : decode cX4_begin 1 = .ok (.getfield 18, 3) := by decide +kernel
theorem dX4_begin_4 : decode cX4_begin 4 = .ok (.ifnull 16, 3) := by decide +kernel
theorem dX4_begin_7 : decode cX4_begin 7 = .ok (.aload_n 0, 1) := by decide +kernel
theorem dX4_begin_8 : decode cX4_begin 8 = .ok (.getfield 18, 3) := by decide +kernel
theorem dX4_begin_11 : decode cX4_begin 11 = .ok (.getfield 87, 3) := by decide +kernel
theorem dX4_begin_14 : decode cX4_begin 14 = .ok (.iload_n 1, 1) := by decide +kernel
theorem dX4_begin_15 : decode cX4_begin 15 = .ok (.aload_n 0, 1) := by decide +kernel
theorem dX4_begin_16 : decode cX4_begin 16 = .ok (.getfield 22, 3) := by decide +kernel
theorem dX4_begin_19 : decode cX4_begin 19 = .ok (.iastore, 1) := by decide +kernel
theorem dX4_begin_20 : decode cX4_begin 20 = .ok (.return_, 1) := by decide +kernel
theorem dX4_put_0 : decode cX4_put 0 = .ok (.aload_n 0, 1) := by decide +kernel
theorem dX4_put_1 : decode cX4_put 1 = .ok (.getfield 18, 3) := by decide +kernel
theorem dX4_put_4 : decode cX4_put 4 = .ok (.ifnull 36, 3) := by decide +kernel
theorem dX4_put_7 : decode cX4_put 7 = .ok (.aload_n 0, 1) := by decide +kernel
theorem dX4_put_8 : decode cX4_put 8 = .ok (.getfield 22, 3) := by decide +kernel
theorem dX4_put_11 : decode cX4_put 11 = .ok (.sipush 160, 3) := by decide +kernel
theorem dX4_put_14 : decode cX4_put 14 = .ok (.if_icmp .ge 26, 3) := by decide +kernel
theorem dX4_put_17 : decode cX4_put 17 = .ok (.aload_n 0, 1) := by decide +kernel
theorem dX4_put_18 : decode cX4_put 18 = .ok (.getfield 18, 3) := by decide +kernel
theorem dX4_put_21 : decode cX4_put 21 = .ok (.getfield 92, 3) := by decide +kernel
theorem dX4_put_24 : decode cX4_put 24 = .ok (.aload_n 0, 1) := by decide +kernel
theorem dX4_put_25 : decode cX4_put 25 = .ok (.getfield 22, 3) := by decide +kernel
theorem dX4_put_28 : decode cX4_put 28 = .ok (.iload_n 1, 1) := by decide +kernel
theorem dX4_put_29 : decode cX4_put 29 = .ok (.iastore, 1) := by decide +kernel
theorem dX4_put_30 : decode cX4_put 30 = .ok (.aload_n 0, 1) := by decide +kernel
theorem dX4_put_31 : decode cX4_put 31 = .ok (.dup, 1) := by decide +kernel
theorem dX4_put_32 : decode cX4_put 32 = .ok (.getfield 22, 3) := by decide +kernel
theorem dX4_put_35 : decode cX4_put 35 = .ok (.iconst 1, 1) := by decide +kernel
theorem dX4_put_36 : decode cX4_put 36 = .ok (.iadd, 1) := by decide +kernel
theorem dX4_put_37 : decode cX4_put 37 = .ok (.putfield 22, 3) := by decide +kernel
theorem dX4_put_40 : decode cX4_put 40 = .ok (.return_, 1) := by decide +kernel
theorem dX5_init_0 : decode cX5_init 0 = .ok (.aload_n 0, 1) := by decide +kernel
theorem dX5_init_1 : decode cX5_init 1 = .ok (.invokespecial 3, 3) := by decide +kernel
theorem dX5_init_4 : decode cX5_init 4 = .ok (.aload_n 0, 1) := by decide +kernel
theorem dX5_init_5 : decode cX5_init 5 = .ok (.iconst (-1), 1) := by decide +kernel
theorem dX5_init_6 : decode cX5_init 6 = .ok (.putfield 9, 3) := by decide +kernel
theorem dX5_init_9 : decode cX5_init 9 = .ok (.aload_n 0, 1) := by decide +kernel
theorem dX5_init_10 : decode cX5_init 10 = .ok (.iconst 0, 1) := by decide +kernel
theorem dX5_init_11 : decode cX5_init 11 = .ok (.putfield 15, 3) := by decide +kernel
theorem dX5_init_14 : decode cX5_init 14 = .ok (.aload_n 0, 1) := by decide +kernel
theorem dX5_init_15 : decode cX5_init 15 = .ok (.bipush 40, 2) := by decide +kernel
theorem dX5_init_17 : decode cX5_init 17 = .ok (.newarray .int, 2) := by decide +kernel
theorem dX5_init_19 : decode cX5_init 19 = .ok (.putfield 18, 3) := by decide +kernel
theorem dX5_init_22 : decode cX5_init 22 = .ok (.return_, 1) := by decide +kernel
theorem dX5_isMissing_0 : decode cX5_isMissing 0 = .ok (.aload_n 0, 1) := by decide +kernel
theorem dX5_isMissing_1 : decode cX5_isMissing 1 = .ok (.getfield 9, 3) := by decide +kernel
theorem dX5_isMissing_4 : decode cX5_isMissing 4 = .ok (.iconst (-1), 1) := by decide +kernel
theorem dX5_isMissing_5 : decode cX5_isMissing 5 = .ok (.if_icmp .ne 7, 3) := by decide +kernel
theorem dX5_isMissing_8 : decode cX5_isMissing 8 = .ok (.iconst 1, 1) := by decide +kernel
theorem dX5_isMissing_9 : decode cX5_isMissing 9 = .ok (.goto 4, 3) := by decide +kernel
theorem dX5_isMissing_12 : decode cX5_isMissing 12 = .ok (.iconst 0, 1) := by decide +kernel
theorem dX5_isMissing_13 : decode cX5_isMissing 13 = .ok (.ireturn, 1) := by decide +kernel
theorem dX5_become_0 : decode cX5_become 0 = .ok (.aload_n 0, 1) := by decide +kernel
theorem dX5_become_1 : decode cX5_become 1 = .ok (.iload_n 1, 1) := by decide +kernel
theorem dX5_become_2 : decode cX5_become 2 = .ok (.putfield 9, 3) := by decide +kernel
theorem dX5_become_5 : decode cX5_become 5 = .ok (.aload_n 0, 1) := by decide +kernel
theorem dX5_become_6 : decode cX5_become 6 = .ok (.iload_n 2, 1) := by decide +kernel
theorem dX5_become_7 : decode cX5_become 7 = .ok (.putfield 15, 3) := by decide +kernel
theorem dX5_become_10 : decode cX5_become 10 = .ok (.iconst 0, 1) := by decide +kernel
theorem dX5_become_11 : decode cX5_become 11 = .ok (.istore_n 3, 1) := by decide +kernel
theorem dX5_become_12 : decode cX5_become 12 = .ok (.iload_n 3, 1) := by decide +kernel
theorem dX5_become_13 : decode cX5_become 13 = .ok (.aload_n 0, 1) := by decide +kernel
theorem dX5_become_14 : decode cX5_become 14 = .ok (.getfield 15, 3) := by decide +kernel
theorem dX5_become_17 : decode cX5_become 17 = .ok (.if_icmp .ge 16, 3) := by decide +kernel
theorem dX5_become_20 : decode cX5_become 20 = .ok (.aload_n 0, 1) := by decide +kernel
theorem dX5_become_21 : decode cX5_become 21 = .ok (.getfield 18, 3) := by decide +kernel
theorem dX5_become_24 : decode cX5_become 24 = .ok (.iload_n 3, 1) := by decide +kernel
theorem dX5_become_25 : decode cX5_become 25 = .ok (.iconst 0, 1) := by decide +kernel
theorem dX5_become_26 : decode cX5_become 26 = .ok (.iastore, 1) := by decide +kernel
theorem dX5_become_27 : decode cX5_become 27 = .ok (.iinc 3 1, 3) := by decide +kernel
theorem dX5_become_30 : decode cX5_become 30 = .ok (.goto (-18), 3) := by decide +kernel
theorem dX5_become_33 : decode cX5_become 33 = .ok (.return_, 1) := by decide +kernel
theorem dX5_put_0 : decode cX5_put 0 = .ok (.aload_n 0, 1) := by decide +kernel
theorem dX5_put_1 : decode cX5_put 1 = .ok (.getfield 9, 3) := by decide +kernel
theorem dX5_put_4 : decode cX5_put 4 = .ok (.lookupswitch 50 #[(0, 28), (1, 39)], 28) := by decide +kernel
theorem dX5_put_32 : decode cX5_put 32 = .ok (.aload_n 0, 1) := by decide +kernel
theorem dX5_put_33 : decode cX5_put 33 = .ok (.getfield 18, 3) := by decide +kernel
theorem dX5_put_36 : decode cX5_put 36 = .ok (.iload_n 1, 1) := by decide +kernel
theorem dX5_put_37 : decode cX5_put 37 = .ok (.iload_n 2, 1) := by decide +kernel
theorem dX5_put_38 : decode cX5_put 38 = .ok (.i2b, 1) := by decide +kernel
theorem dX5_put_39 : decode cX5_put 39 = .ok (.iastore, 1) := by decide +kernel
theorem dX5_put_40 : decode cX5_put 40 = .ok (.goto 21, 3) := by decide +kernel
theorem dX5_put_43 : decode cX5_put 43 = .ok (.aload_n 0, 1) := by decide +kernel
theorem dX5_put_44 : decode cX5_put 44 = .ok (.getfield 18, 3) := by decide +kernel
theorem dX5_put_47 : decode cX5_put 47 = .ok (.iload_n 1, 1) := by decide +kernel
theorem dX5_put_48 : decode cX5_put 48 = .ok (.iload_n 2, 1) := by decide +kernel
theorem dX5_put_49 : decode cX5_put 49 = .ok (.i2s, 1) := by decide +kernel
theorem dX5_put_50 : decode cX5_put 50 = .ok (.iastore, 1) := by decide +kernel
theorem dX5_put_51 : decode cX5_put 51 = .ok (.goto 10, 3) := by decide +kernel
theorem dX5_put_54 : decode cX5_put 54 = .ok (.aload_n 0, 1) := by decide +kernel
theorem dX5_put_55 : decode cX5_put 55 = .ok (.getfield 18, 3) := by decide +kernel
theorem dX5_put_58 : decode cX5_put 58 = .ok (.iload_n 1, 1) := by decide +kernel
theorem dX5_put_59 : decode cX5_put 59 = .ok (.iload_n 2, 1) := by decide +kernel
theorem dX5_put_60 : decode cX5_put 60 = .ok (.iastore, 1) := by decide +kernel
theorem dX5_put_61 : decode cX5_put 61 = .ok (.return_, 1) := by decide +kernel
theorem dX5_has_0 : decode cX5_has 0 = .ok (.iload_n 2, 1) := by decide +kernel
theorem dX5_has_1 : decode cX5_has 1 = .ok (.ifCond .lt 21, 3) := by decide +kernel
theorem dX5_has_4 : decode cX5_has 4 = .ok (.iload_n 1, 1) := by decide +kernel
theorem dX5_has_5 : decode cX5_has 5 = .ok (.ifCond .lt 17, 3) := by decide +kernel
theorem dX5_has_8 : decode cX5_has 8 = .ok (.iload_n 1, 1) := by decide +kernel
theorem dX5_has_9 : decode cX5_has 9 = .ok (.aload_n 0, 1) := by decide +kernel
theorem dX5_has_10 : decode cX5_has 10 = .ok (.getfield 15, 3) := by decide +kernel
theorem dX5_has_13 : decode cX5_has 13 = .ok (.iload_n 2, 1) := by decide +kernel
theorem dX5_has_14 : decode cX5_has 14 = .ok (.isub, 1) := by decide +kernel
theorem dX5_has_15 : decode cX5_has 15 = .ok (.if_icmp .gt 7, 3) := by decide +kernel
theorem dX5_has_18 : decode cX5_has 18 = .ok (.iconst 1, 1) := by decide +kernel
theorem dX5_has_19 : decode cX5_has 19 = .ok (.goto 4, 3) := by decide +kernel
theorem dX5_has_22 : decode cX5_has 22 = .ok (.iconst 0, 1) := by decide +kernel
theorem dX5_has_23 : decode cX5_has 23 = .ok (.ireturn, 1) := by decide +kernel
theorem dX6_init_0 : decode cX6_init 0 = .ok (.aload_n 0, 1) := by decide +kernel
theorem dX6_init_1 : decode cX6_init 1 = .ok (.invokespecial 3, 3) := by decide +kernel
theorem dX6_init_4 : decode cX6_init 4 = .ok (.aload_n 0, 1) := by decide +kernel
theorem dX6_init_5 : decode cX6_init 5 = .ok (.sipush 160, 3) := by decide +kernel
theorem dX6_init_8 : decode cX6_init 8 = .ok (.newarray .int, 2) := by decide +kernel
theorem dX6_init_10 : decode cX6_init 10 = .ok (.putfield 9, 3) := by decide +kernel
theorem dX6_init_13 : decode cX6_init 13 = .ok (.aload_n 0, 1) := by decide +kernel
theorem dX6_init_14 : decode cX6_init 14 = .ok (.iconst 0, 1) := by decide +kernel
theorem dX6_init_15 : decode cX6_init 15 = .ok (.putfield 15, 3) := by decide +kernel
theorem dX6_init_18 : decode cX6_init 18 = .ok (.aload_n 0, 1) := by decide +kernel
theorem dX6_init_19 : decode cX6_init 19 = .ok (.sipush 161, 3) := by decide +kernel
theorem dX6_init_22 : decode cX6_init 22 = .ok (.newarray .int, 2) := by decide +kernel
theorem dX6_init_24 : decode cX6_init 24 = .ok (.putfield 19, 3) := by decide +kernel
theorem dX6_init_27 : decode cX6_init 27 = .ok (.aload_n 0, 1) := by decide +kernel
theorem dX6_init_28 : decode cX6_init 28 = .ok (.sipush 161, 3) := by decide +kernel
theorem dX6_init_31 : decode cX6_init 31 = .ok (.newarray .int, 2) := by decide +kernel
theorem dX6_init_33 : decode cX6_init 33 = .ok (.putfield 22, 3) := by decide +kernel
theorem dX6_init_36 : decode cX6_init 36 = .ok (.aload_n 0, 1) := by decide +kernel
theorem dX6_init_37 : decode cX6_init 37 = .ok (.sipush 161, 3) := by decide +kernel
theorem dX6_init_40 : decode cX6_init 40 = .ok (.newarray .int, 2) := by decide +kernel
theorem dX6_init_42 : decode cX6_init 42 = .ok (.putfield 25, 3) := by decide +kernel
theorem dX6_init_45 : decode cX6_init 45 = .ok (.aload_n 0, 1) := by decide +kernel
theorem dX6_init_46 : decode cX6_init 46 = .ok (.iconst 0, 1) := by decide +kernel
theorem dX6_init_47 : decode cX6_init 47 = .ok (.putfield 28, 3) := by decide +kernel
theorem dX6_init_50 : decode cX6_init 50 = .ok (.return_, 1) := by decide +kernel
theorem dX6_write_0 : decode cX6_write 0 = .ok (.aload_n 0, 1) := by decide +kernel
theorem dX6_write_1 : decode cX6_write 1 = .ok (.aload_n 1, 1) := by decide +kernel
theorem dX6_write_2 : decode cX6_write 2 = .ok (.invokevirtual 31, 3) := by decide +kernel
theorem dX6_write_5 : decode cX6_write 5 = .ok (.sipush 160, 3) := by decide +kernel
theorem dX6_write_8 : decode cX6_write 8 = .ok (.invokestatic 37, 3) := by decide +kernel
theorem dX6_write_11 : decode cX6_write 11 = .ok (.putfield 15, 3) := by decide +kernel
theorem dX6_write_14 : decode cX6_write 14 = .ok (.iconst 0, 1) := by decide +kernel
theorem dX6_write_15 : decode cX6_write 15 = .ok (.istore_n 2, 1) := by decide +kernel
theorem dX6_write_16 : decode cX6_write 16 = .ok (.iload_n 2, 1) := by decide +kernel
theorem dX6_write_17 : decode cX6_write 17 = .ok (.aload_n 0, 1) := by decide +kernel
theorem dX6_write_18 : decode cX6_write 18 = .ok (.getfield 15, 3) := by decide +kernel
theorem dX6_write_21 : decode cX6_write 21 = .ok (.if_icmp .ge 20, 3) := by decide +kernel
theorem dX6_write_24 : decode cX6_write 24 = .ok (.aload_n 0, 1) := by decide +kernel
theorem dX6_write_25 : decode cX6_write 25 = .ok (.getfield 9, 3) := by decide +kernel
theorem dX6_write_28 : decode cX6_write 28 = .ok (.iload_n 2, 1) := by decide +kernel
theorem dX6_write_29 : decode cX6_write 29 = .ok (.aload_n 1, 1) := by decide +kernel
theorem dX6_write_30 : decode cX6_write 30 = .ok (.iload_n 2, 1) := by decide +kernel
theorem dX6_write_31 : decode cX6_write 31 = .ok (.invokevirtual 43, 3) := by decide +kernel
theorem dX6_write_34 : decode cX6_write 34 = .ok (.iastore, 1) := by decide +kernel
theorem dX6_write_35 : decode cX6_write 35 = .ok (.iinc 2 1, 3) := by decide +kernel
theorem dX6_write_38 : decode cX6_write 38 = .ok (.goto (-22), 3) := by decide +kernel
theorem dX6_write_41 : decode cX6_write 41 = .ok (.return_, 1) := by decide +kernel
theorem dX6_cut_0 : decode cX6_cut 0 = .ok (.aload_n 0, 1) := by decide +kernel
theorem dX6_cut_1 : decode cX6_cut 1 = .ok (.iconst 0, 1) := by decide +kernel
theorem dX6_cut_2 : decode cX6_cut 2 = .ok (.putfield 28, 3) := by decide +kernel
theorem dX6_cut_5 : decode cX6_cut 5 = .ok (.iconst 1, 1) := by decide +kernel
theorem dX6_cut_6 : decode cX6_cut 6 = .ok (.istore_n 1, 1) := by decide +kernel
theorem dX6_cut_7 : decode cX6_cut 7 = .ok (.iconst 0, 1) := by decide +kernel
theorem dX6_cut_8 : decode cX6_cut 8 = .ok (.istore_n 2, 1) := by decide +kernel
theorem dX6_cut_9 : decode cX6_cut 9 = .ok (.iload_n 2, 1) := by decide +kernel
theorem dX6_cut_10 : decode cX6_cut 10 = .ok (.sipush 160, 3) := by decide +kernel
theorem dX6_cut_13 : decode cX6_cut 13 = .ok (.if_icmp .gt 73, 3) := by decide +kernel
theorem dX6_cut_16 : decode cX6_cut 16 = .ok (.iload_n 1, 1) := by decide +kernel
theorem dX6_cut_17 : decode cX6_cut 17 = .ok (.ifCond .eq 69, 3) := by decide +kernel
theorem dX6_cut_20 : decode cX6_cut 20 = .ok (.aload_n 0, 1) := by decide +kernel
theorem dX6_cut_21 : decode cX6_cut 21 = .ok (.invokevirtual 47, 3) := by decide +kernel
theorem dX6_cut_24 : decode cX6_cut 24 = .ok (.aload_n 0, 1) := by decide +kernel
theorem dX6_cut_25 : decode cX6_cut 25 = .ok (.getfield 22, 3) := by decide +kernel
theorem dX6_cut_28 : decode cX6_cut 28 = .ok (.iload_n 2, 1) := by decide +kernel
theorem dX6_cut_29 : decode cX6_cut 29 = .ok (.aload_n 0, 1) := by decide +kernel
theorem dX6_cut_30 : decode cX6_cut 30 = .ok (.getfield 28, 3) := by decide +kernel
theorem dX6_cut_33 : decode cX6_cut 33 = .ok (.iastore, 1) := by decide +kernel
theorem dX6_cut_34 : decode cX6_cut 34 = .ok (.aload_n 0, 1) := by decide +kernel
theorem dX6_cut_35 : decode cX6_cut 35 = .ok (.getfield 25, 3) := by decide +kernel
theorem dX6_cut_38 : decode cX6_cut 38 = .ok (.iload_n 2, 1) := by decide +kernel
theorem dX6_cut_39 : decode cX6_cut 39 = .ok (.iconst 0, 1) := by decide +kernel
theorem dX6_cut_40 : decode cX6_cut 40 = .ok (.iastore, 1) := by decide +kernel
theorem dX6_cut_41 : decode cX6_cut 41 = .ok (.aload_n 0, 1) := by decide +kernel
theorem dX6_cut_42 : decode cX6_cut 42 = .ok (.getfield 19, 3) := by decide +kernel
theorem dX6_cut_45 : decode cX6_cut 45 = .ok (.iload_n 2, 1) := by decide +kernel
theorem dX6_cut_46 : decode cX6_cut 46 = .ok (.aload_n 0, 1) := by decide +kernel
theorem dX6_cut_47 : decode cX6_cut 47 = .ok (.iload_n 2, 1) := by decide +kernel
theorem dX6_cut_48 : decode cX6_cut 48 = .ok (.invokevirtual 50, 3) := by decide +kernel
theorem dX6_cut_51 : decode cX6_cut 51 = .ok (.iastore, 1) := by decide +kernel
theorem dX6_cut_52 : decode cX6_cut 52 = .ok (.aload_n 0, 1) := by decide +kernel
theorem dX6_cut_53 : decode cX6_cut 53 = .ok (.getfield 19, 3) := by decide +kernel
theorem dX6_cut_56 : decode cX6_cut 56 = .ok (.iload_n 2, 1) := by decide +kernel
theorem dX6_cut_57 : decode cX6_cut 57 = .ok (.iaload, 1) := by decide +kernel
theorem dX6_cut_58 : decode cX6_cut 58 = .ok (.bipush 13, 2) := by decide +kernel
theorem dX6_cut_60 : decode cX6_cut 60 = .ok (.if_icmp .eq 18, 3) := by decide +kernel
theorem dX6_cut_63 : decode cX6_cut 63 = .ok (.aload_n 0, 1) := by decide +kernel
theorem dX6_cut_64 : decode cX6_cut 64 = .ok (.getfield 19, 3) := by decide +kernel
theorem dX6_cut_67 : decode cX6_cut 67 = .ok (.iload_n 2, 1) := by decide +kernel
theorem dX6_cut_68 : decode cX6_cut 68 = .ok (.iaload, 1) := by decide +kernel
theorem dX6_cut_69 : decode cX6_cut 69 = .ok (.bipush 14, 2) := by decide +kernel
theorem dX6_cut_71 : decode cX6_cut 71 = .ok (.if_icmp .eq 7, 3) := by decide +kernel
theorem dX6_cut_74 : decode cX6_cut 74 = .ok (.iconst 1, 1) := by decide +kernel
theorem dX6_cut_75 : decode cX6_cut 75 = .ok (.goto 4, 3) := by decide +kernel
theorem dX6_cut_78 : decode cX6_cut 78 = .ok (.iconst 0, 1) := by decide +kernel
theorem dX6_cut_79 : decode cX6_cut 79 = .ok (.istore_n 1, 1) := by decide +kernel
theorem dX6_cut_80 : decode cX6_cut 80 = .ok (.iinc 2 1, 3) := by decide +kernel
theorem dX6_cut_83 : decode cX6_cut 83 = .ok (.goto (-74), 3) := by decide +kernel
theorem dX6_cut_86 : decode cX6_cut 86 = .ok (.return_, 1) := by decide +kernel
theorem dX6_passBlanks_0 : decode cX6_passBlanks 0 = .ok (.aload_n 0, 1) := by decide +kernel
theorem dX6_passBlanks_1 : decode cX6_passBlanks 1 = .ok (.getfield 28, 3) := by decide +kernel
theorem dX6_passBlanks_4 : decode cX6_passBlanks 4 = .ok (.aload_n 0, 1) := by decide +kernel
theorem dX6_passBlanks_5 : decode cX6_passBlanks 5 = .ok (.getfield 15, 3) := by decide +kernel
theorem dX6_passBlanks_8 : decode cX6_passBlanks 8 = .ok (.if_icmp .ge 44, 3) := by decide +kernel
theorem dX6_passBlanks_11 : decode cX6_passBlanks 11 = .ok (.aload_n 0, 1) := by decide +kernel
theorem dX6_passBlanks_12 : decode cX6_passBlanks 12 = .ok (.getfield 9, 3) := by decide +kernel
theorem dX6_passBlanks_15 : decode cX6_passBlanks 15 = .ok (.aload_n 0, 1) := by decide +kernel
theorem dX6_passBlanks_16 : decode cX6_passBlanks 16 = .ok (.getfield 28, 3) := by decide +kernel
theorem dX6_passBlanks_19 : decode cX6_passBlanks 19 = .ok (.iaload, 1) := by decide +kernel
theorem dX6_passBlanks_20 : decode cX6_passBlanks 20 = .ok (.bipush 32, 2) := by decide +kernel
theorem dX6_passBlanks_22 : decode cX6_passBlanks 22 = .ok (.if_icmp .eq 17, 3) := by decide +kernel
theorem dX6_passBlanks_25 : decode cX6_passBlanks 25 = .ok (.aload_n 0, 1) := by decide +kernel
theorem dX6_passBlanks_26 : decode cX6_passBlanks 26 = .ok (.getfield 9, 3) := by decide +kernel
theorem dX6_passBlanks_29 : decode cX6_passBlanks 29 = .ok (.aload_n 0, 1) := by decide +kernel
theorem dX6_passBlanks_30 : decode cX6_passBlanks 30 = .ok (.getfield 28, 3) := by decide +kernel
theorem dX6_passBlanks_33 : decode cX6_passBlanks 33 = .ok (.iaload, 1) := by decide +kernel
theorem dX6_passBlanks_34 : decode cX6_passBlanks 34 = .ok (.bipush 10, 2) := by decide +kernel
theorem dX6_passBlanks_36 : decode cX6_passBlanks 36 = .ok (.if_icmp .ne 16, 3) := by decide +kernel
theorem dX6_passBlanks_39 : decode cX6_passBlanks 39 = .ok (.aload_n 0, 1) := by decide +kernel
theorem dX6_passBlanks_40 : decode cX6_passBlanks 40 = .ok (.dup, 1) := by decide +kernel
theorem dX6_passBlanks_41 : decode cX6_passBlanks 41 = .ok (.getfield 28, 3) := by decide +kernel
theorem dX6_passBlanks_44 : decode cX6_passBlanks 44 = .ok (.iconst 1, 1) := by decide +kernel
theorem dX6_passBlanks_45 : decode cX6_passBlanks 45 = .ok (.iadd, 1) := by decide +kernel
theorem dX6_passBlanks_46 : decode cX6_passBlanks 46 = .ok (.putfield 28, 3) := by decide +kernel
theorem dX6_passBlanks_49 : decode cX6_passBlanks 49 = .ok (.goto (-49), 3) := by decide +kernel
theorem dX6_passBlanks_52 : decode cX6_passBlanks 52 = .ok (.return_, 1) := by decide +kernel
theorem dX6_cutOne_0 : decode cX6_cutOne 0 = .ok (.aload_n 0, 1) := by decide +kernel
theorem dX6_cutOne_1 : decode cX6_cutOne 1 = .ok (.getfield 28, 3) := by decide +kernel
theorem dX6_cutOne_4 : decode cX6_cutOne 4 = .ok (.aload_n 0, 1) := by decide +kernel
theorem dX6_cutOne_5 : decode cX6_cutOne 5 = .ok (.getfield 15, 3) := by decide +kernel
theorem dX6_cutOne_8 : decode cX6_cutOne 8 = .ok (.if_icmp .lt 6, 3) := by decide +kernel
theorem dX6_cutOne_11 : decode cX6_cutOne 11 = .ok (.bipush 13, 2) := by decide +kernel
theorem dX6_cutOne_13 : decode cX6_cutOne 13 = .ok (.ireturn, 1) := by decide +kernel
theorem dX6_cutOne_14 : decode cX6_cutOne 14 = .ok (.aload_n 0, 1) := by decide +kernel
theorem dX6_cutOne_15 : decode cX6_cutOne 15 = .ok (.aload_n 0, 1) := by decide +kernel
theorem dX6_cutOne_16 : decode cX6_cutOne 16 = .ok (.getfield 28, 3) := by decide +kernel
theorem dX6_cutOne_19 : decode cX6_cutOne 19 = .ok (.invokevirtual 54, 3) := by decide +kernel
theorem dX6_cutOne_22 : decode cX6_cutOne 22 = .ok (.ifCond .eq 8, 3) := by decide +kernel
theorem dX6_cutOne_25 : decode cX6_cutOne 25 = .ok (.aload_n 0, 1) := by decide +kernel
theorem dX6_cutOne_26 : decode cX6_cutOne 26 = .ok (.invokevirtual 58, 3) := by decide +kernel
theorem dX6_cutOne_29 : decode cX6_cutOne 29 = .ok (.ireturn, 1) := by decide +kernel
theorem dX6_cutOne_30 : decode cX6_cutOne 30 = .ok (.aload_n 0, 1) := by decide +kernel
theorem dX6_cutOne_31 : decode cX6_cutOne 31 = .ok (.aload_n 0, 1) := by decide +kernel
theorem dX6_cutOne_32 : decode cX6_cutOne 32 = .ok (.getfield 28, 3) := by decide +kernel
theorem dX6_cutOne_35 : decode cX6_cutOne 35 = .ok (.invokevirtual 61, 3) := by decide +kernel
theorem dX6_cutOne_38 : decode cX6_cutOne 38 = .ok (.ifCond .eq 9, 3) := by decide +kernel
theorem dX6_cutOne_41 : decode cX6_cutOne 41 = .ok (.aload_n 0, 1) := by decide +kernel
theorem dX6_cutOne_42 : decode cX6_cutOne 42 = .ok (.iload_n 1, 1) := by decide +kernel
theorem dX6_cutOne_43 : decode cX6_cutOne 43 = .ok (.invokevirtual 64, 3) := by decide +kernel
theorem dX6_cutOne_46 : decode cX6_cutOne 46 = .ok (.ireturn, 1) := by decide +kernel
theorem dX6_cutOne_47 : decode cX6_cutOne 47 = .ok (.aload_n 0, 1) := by decide +kernel
theorem dX6_cutOne_48 : decode cX6_cutOne 48 = .ok (.dup, 1) := by decide +kernel
theorem dX6_cutOne_49 : decode cX6_cutOne 49 = .ok (.getfield 28, 3) := by decide +kernel
theorem dX6_cutOne_52 : decode cX6_cutOne 52 = .ok (.iconst 1, 1) := by decide +kernel
theorem dX6_cutOne_53 : decode cX6_cutOne 53 = .ok (.iadd, 1) := by decide +kernel
theorem dX6_cutOne_54 : decode cX6_cutOne 54 = .ok (.putfield 28, 3) := by decide +kernel
theorem dX6_cutOne_57 : decode cX6_cutOne 57 = .ok (.aload_n 0, 1) := by decide +kernel
theorem dX6_cutOne_58 : decode cX6_cutOne 58 = .ok (.aload_n 0, 1) := by decide +kernel
theorem dX6_cutOne_59 : decode cX6_cutOne 59 = .ok (.getfield 28, 3) := by decide +kernel
theorem dX6_cutOne_62 : decode cX6_cutOne 62 = .ok (.iconst 1, 1) := by decide +kernel
theorem dX6_cutOne_63 : decode cX6_cutOne 63 = .ok (.isub, 1) := by decide +kernel
theorem dX6_cutOne_64 : decode cX6_cutOne 64 = .ok (.invokevirtual 67, 3) := by decide +kernel
theorem dX6_cutOne_67 : decode cX6_cutOne 67 = .ok (.ireturn, 1) := by decide +kernel
theorem dX6_cutWord_0 : decode cX6_cutWord 0 = .ok (.aload_n 0, 1) := by decide +kernel
theorem dX6_cutWord_1 : decode cX6_cutWord 1 = .ok (.getfield 28, 3) := by decide +kernel
theorem dX6_cutWord_4 : decode cX6_cutWord 4 = .ok (.istore_n 1, 1) := by decide +kernel
theorem dX6_cutWord_5 : decode cX6_cutWord 5 = .ok (.aload_n 0, 1) := by decide +kernel
theorem dX6_cutWord_6 : decode cX6_cutWord 6 = .ok (.getfield 28, 3) := by decide +kernel
theorem dX6_cutWord_9 : decode cX6_cutWord 9 = .ok (.aload_n 0, 1) := by decide +kernel
theorem dX6_cutWord_10 : decode cX6_cutWord 10 = .ok (.getfield 15, 3) := by decide +kernel
theorem dX6_cutWord_13 : decode cX6_cutWord 13 = .ok (.if_icmp .ge 27, 3) := by decide +kernel
theorem dX6_cutWord_16 : decode cX6_cutWord 16 = .ok (.aload_n 0, 1) := by decide +kernel
theorem dX6_cutWord_17 : decode cX6_cutWord 17 = .ok (.aload_n 0, 1) := by decide +kernel
theorem dX6_cutWord_18 : decode cX6_cutWord 18 = .ok (.getfield 28, 3) := by decide +kernel
theorem dX6_cutWord_21 : decode cX6_cutWord 21 = .ok (.invokevirtual 54, 3) := by decide +kernel
theorem dX6_cutWord_24 : decode cX6_cutWord 24 = .ok (.ifCond .eq 16, 3) := by decide +kernel
theorem dX6_cutWord_27 : decode cX6_cutWord 27 = .ok (.aload_n 0, 1) := by decide +kernel
theorem dX6_cutWord_28 : decode cX6_cutWord 28 = .ok (.dup, 1) := by decide +kernel
theorem dX6_cutWord_29 : decode cX6_cutWord 29 = .ok (.getfield 28, 3) := by decide +kernel
theorem dX6_cutWord_32 : decode cX6_cutWord 32 = .ok (.iconst 1, 1) := by decide +kernel
theorem dX6_cutWord_33 : decode cX6_cutWord 33 = .ok (.iadd, 1) := by decide +kernel
theorem dX6_cutWord_34 : decode cX6_cutWord 34 = .ok (.putfield 28, 3) := by decide +kernel
theorem dX6_cutWord_37 : decode cX6_cutWord 37 = .ok (.goto (-32), 3) := by decide +kernel
theorem dX6_cutWord_40 : decode cX6_cutWord 40 = .ok (.iconst 0, 1) := by decide +kernel
theorem dX6_cutWord_41 : decode cX6_cutWord 41 = .ok (.istore_n 2, 1) := by decide +kernel
theorem dX6_cutWord_42 : decode cX6_cutWord 42 = .ok (.iload_n 2, 1) := by decide +kernel
theorem dX6_cutWord_43 : decode cX6_cutWord 43 = .ok (.bipush 12, 2) := by decide +kernel
theorem dX6_cutWord_45 : decode cX6_cutWord 45 = .ok (.if_icmp .ge 23, 3) := by decide +kernel
theorem dX6_cutWord_48 : decode cX6_cutWord 48 = .ok (.aload_n 0, 1) := by decide +kernel
theorem dX6_cutWord_49 : decode cX6_cutWord 49 = .ok (.iload_n 1, 1) := by decide +kernel
theorem dX6_cutWord_50 : decode cX6_cutWord 50 = .ok (.iload_n 2, 1) := by decide +kernel
theorem dX6_cutWord_51 : decode cX6_cutWord 51 = .ok (.invokestatic 70, 3) := by decide +kernel
theorem dX6_cutWord_54 : decode cX6_cutWord 54 = .ok (.invokevirtual 74, 3) := by decide +kernel
theorem dX6_cutWord_57 : decode cX6_cutWord 57 = .ok (.ifCond .eq 5, 3) := by decide +kernel
theorem dX6_cutWord_60 : decode cX6_cutWord 60 = .ok (.iload_n 2, 1) := by decide +kernel
theorem dX6_cutWord_61 : decode cX6_cutWord 61 = .ok (.ireturn, 1) := by decide +kernel
theorem dX6_cutWord_62 : decode cX6_cutWord 62 = .ok (.iinc 2 1, 3) := by decide +kernel
theorem dX6_cutWord_65 : decode cX6_cutWord 65 = .ok (.goto (-23), 3) := by decide +kernel
theorem dX6_cutWord_68 : decode cX6_cutWord 68 = .ok (.bipush 14, 2) := by decide +kernel
theorem dX6_cutWord_70 : decode cX6_cutWord 70 = .ok (.ireturn, 1) := by decide +kernel
theorem dX6_isSpelled_0 : decode cX6_isSpelled 0 = .ok (.aload_n 2, 1) := by decide +kernel
theorem dX6_isSpelled_1 : decode cX6_isSpelled 1 = .ok (.invokevirtual 31, 3) := by decide +kernel
theorem dX6_isSpelled_4 : decode cX6_isSpelled 4 = .ok (.aload_n 0, 1) := by decide +kernel
theorem dX6_isSpelled_5 : decode cX6_isSpelled 5 = .ok (.getfield 28, 3) := by decide +kernel
theorem dX6_isSpelled_8 : decode cX6_isSpelled 8 = .ok (.iload_n 1, 1) := by decide +kernel
theorem dX6_isSpelled_9 : decode cX6_isSpelled 9 = .ok (.isub, 1) := by decide +kernel
theorem dX6_isSpelled_10 : decode cX6_isSpelled 10 = .ok (.if_icmp .eq 5, 3) := by decide +kernel
theorem dX6_isSpelled_13 : decode cX6_isSpelled 13 = .ok (.iconst 0, 1) := by decide +kernel
theorem dX6_isSpelled_14 : decode cX6_isSpelled 14 = .ok (.ireturn, 1) := by decide +kernel
theorem dX6_isSpelled_15 : decode cX6_isSpelled 15 = .ok (.iconst 0, 1) := by decide +kernel
theorem dX6_isSpelled_16 : decode cX6_isSpelled 16 = .ok (.istore_n 3, 1) := by decide +kernel
theorem dX6_isSpelled_17 : decode cX6_isSpelled 17 = .ok (.iload_n 3, 1) := by decide +kernel
theorem dX6_isSpelled_18 : decode cX6_isSpelled 18 = .ok (.aload_n 2, 1) := by decide +kernel
theorem dX6_isSpelled_19 : decode cX6_isSpelled 19 = .ok (.invokevirtual 31, 3) := by decide +kernel
theorem dX6_isSpelled_22 : decode cX6_isSpelled 22 = .ok (.if_icmp .ge 27, 3) := by decide +kernel
theorem dX6_isSpelled_25 : decode cX6_isSpelled 25 = .ok (.aload_n 2, 1) := by decide +kernel
theorem dX6_isSpelled_26 : decode cX6_isSpelled 26 = .ok (.iload_n 3, 1) := by decide +kernel
theorem dX6_isSpelled_27 : decode cX6_isSpelled 27 = .ok (.invokevirtual 43, 3) := by decide +kernel
theorem dX6_isSpelled_30 : decode cX6_isSpelled 30 = .ok (.aload_n 0, 1) := by decide +kernel
theorem dX6_isSpelled_31 : decode cX6_isSpelled 31 = .ok (.getfield 9, 3) := by decide +kernel
theorem dX6_isSpelled_34 : decode cX6_isSpelled 34 = .ok (.iload_n 1, 1) := by decide +kernel
theorem dX6_isSpelled_35 : decode cX6_isSpelled 35 = .ok (.iload_n 3, 1) := by decide +kernel
theorem dX6_isSpelled_36 : decode cX6_isSpelled 36 = .ok (.iadd, 1) := by decide +kernel
theorem dX6_isSpelled_37 : decode cX6_isSpelled 37 = .ok (.iaload, 1) := by decide +kernel
theorem dX6_isSpelled_38 : decode cX6_isSpelled 38 = .ok (.if_icmp .eq 5, 3) := by decide +kernel
theorem dX6_isSpelled_41 : decode cX6_isSpelled 41 = .ok (.iconst 0, 1) := by decide +kernel
theorem dX6_isSpelled_42 : decode cX6_isSpelled 42 = .ok (.ireturn, 1) := by decide +kernel
theorem dX6_isSpelled_43 : decode cX6_isSpelled 43 = .ok (.iinc 3 1, 3) := by decide +kernel
theorem dX6_isSpelled_46 : decode cX6_isSpelled 46 = .ok (.goto (-29), 3) := by decide +kernel
theorem dX6_isSpelled_49 : decode cX6_isSpelled 49 = .ok (.iconst 1, 1) := by decide +kernel
theorem dX6_isSpelled_50 : decode cX6_isSpelled 50 = .ok (.ireturn, 1) := by decide +kernel
theorem dX6_cutNumber_0 : decode cX6_cutNumber 0 = .ok (.aload_n 0, 1) := by decide +kernel
theorem dX6_cutNumber_1 : decode cX6_cutNumber 1 = .ok (.getfield 28, 3) := by decide +kernel
theorem dX6_cutNumber_4 : decode cX6_cutNumber 4 = .ok (.istore_n 2, 1) := by decide +kernel
theorem dX6_cutNumber_5 : decode cX6_cutNumber 5 = .ok (.aload_n 0, 1) := by decide +kernel
theorem dX6_cutNumber_6 : decode cX6_cutNumber 6 = .ok (.getfield 28, 3) := by decide +kernel
theorem dX6_cutNumber_9 : decode cX6_cutNumber 9 = .ok (.aload_n 0, 1) := by decide +kernel
theorem dX6_cutNumber_10 : decode cX6_cutNumber 10 = .ok (.getfield 15, 3) := by decide +kernel
theorem dX6_cutNumber_13 : decode cX6_cutNumber 13 = .ok (.if_icmp .ge 55, 3) := by decide +kernel
theorem dX6_cutNumber_16 : decode cX6_cutNumber 16 = .ok (.aload_n 0, 1) := by decide +kernel
theorem dX6_cutNumber_17 : decode cX6_cutNumber 17 = .ok (.aload_n 0, 1) := by decide +kernel
theorem dX6_cutNumber_18 : decode cX6_cutNumber 18 = .ok (.getfield 28, 3) := by decide +kernel
theorem dX6_cutNumber_21 : decode cX6_cutNumber 21 = .ok (.invokevirtual 61, 3) := by decide +kernel
theorem dX6_cutNumber_24 : decode cX6_cutNumber 24 = .ok (.ifCond .eq 44, 3) := by decide +kernel
theorem dX6_cutNumber_27 : decode cX6_cutNumber 27 = .ok (.aload_n 0, 1) := by decide +kernel
theorem dX6_cutNumber_28 : decode cX6_cutNumber 28 = .ok (.getfield 25, 3) := by decide +kernel
theorem dX6_cutNumber_31 : decode cX6_cutNumber 31 = .ok (.iload_n 1, 1) := by decide +kernel
theorem dX6_cutNumber_32 : decode cX6_cutNumber 32 = .ok (.bipush 10, 2) := by decide +kernel
theorem dX6_cutNumber_34 : decode cX6_cutNumber 34 = .ok (.aload_n 0, 1) := by decide +kernel
theorem dX6_cutNumber_35 : decode cX6_cutNumber 35 = .ok (.getfield 25, 3) := by decide +kernel
theorem dX6_cutNumber_38 : decode cX6_cutNumber 38 = .ok (.iload_n 1, 1) := by decide +kernel
theorem dX6_cutNumber_39 : decode cX6_cutNumber 39 = .ok (.iaload, 1) := by decide +kernel
theorem dX6_cutNumber_40 : decode cX6_cutNumber 40 = .ok (.imul, 1) := by decide +kernel
theorem dX6_cutNumber_41 : decode cX6_cutNumber 41 = .ok (.aload_n 0, 1) := by decide +kernel
theorem dX6_cutNumber_42 : decode cX6_cutNumber 42 = .ok (.getfield 9, 3) := by decide +kernel
theorem dX6_cutNumber_45 : decode cX6_cutNumber 45 = .ok (.aload_n 0, 1) := by decide +kernel
theorem dX6_cutNumber_46 : decode cX6_cutNumber 46 = .ok (.getfield 28, 3) := by decide +kernel
theorem dX6_cutNumber_49 : decode cX6_cutNumber 49 = .ok (.iaload, 1) := by decide +kernel
theorem dX6_cutNumber_50 : decode cX6_cutNumber 50 = .ok (.iadd, 1) := by decide +kernel
theorem dX6_cutNumber_51 : decode cX6_cutNumber 51 = .ok (.bipush 48, 2) := by decide +kernel
theorem dX6_cutNumber_53 : decode cX6_cutNumber 53 = .ok (.isub, 1) := by decide +kernel
theorem dX6_cutNumber_54 : decode cX6_cutNumber 54 = .ok (.iastore, 1) := by decide +kernel
theorem dX6_cutNumber_55 : decode cX6_cutNumber 55 = .ok (.aload_n 0, 1) := by decide +kernel
theorem dX6_cutNumber_56 : decode cX6_cutNumber 56 = .ok (.dup, 1) := by decide +kernel
theorem dX6_cutNumber_57 : decode cX6_cutNumber 57 = .ok (.getfield 28, 3) := by decide +kernel
theorem dX6_cutNumber_60 : decode cX6_cutNumber 60 = .ok (.iconst 1, 1) := by decide +kernel
theorem dX6_cutNumber_61 : decode cX6_cutNumber 61 = .ok (.iadd, 1) := by decide +kernel
theorem dX6_cutNumber_62 : decode cX6_cutNumber 62 = .ok (.putfield 28, 3) := by decide +kernel
theorem dX6_cutNumber_65 : decode cX6_cutNumber 65 = .ok (.goto (-60), 3) := by decide +kernel
theorem dX6_cutNumber_68 : decode cX6_cutNumber 68 = .ok (.aload_n 0, 1) := by decide +kernel
theorem dX6_cutNumber_69 : decode cX6_cutNumber 69 = .ok (.getfield 28, 3) := by decide +kernel
theorem dX6_cutNumber_72 : decode cX6_cutNumber 72 = .ok (.iload_n 2, 1) := by decide +kernel
theorem dX6_cutNumber_73 : decode cX6_cutNumber 73 = .ok (.isub, 1) := by decide +kernel
theorem dX6_cutNumber_74 : decode cX6_cutNumber 74 = .ok (.iconst 4, 1) := by decide +kernel
theorem dX6_cutNumber_75 : decode cX6_cutNumber 75 = .ok (.if_icmp .gt 8, 3) := by decide +kernel
theorem dX6_cutNumber_78 : decode cX6_cutNumber 78 = .ok (.bipush 12, 2) := by decide +kernel
theorem dX6_cutNumber_80 : decode cX6_cutNumber 80 = .ok (.goto 5, 3) := by decide +kernel
theorem dX6_cutNumber_83 : decode cX6_cutNumber 83 = .ok (.bipush 14, 2) := by decide +kernel
theorem dX6_cutNumber_85 : decode cX6_cutNumber 85 = .ok (.ireturn, 1) := by decide +kernel
theorem dX6_signAt_0 : decode cX6_signAt 0 = .ok (.aload_n 0, 1) := by decide +kernel
theorem dX6_signAt_1 : decode cX6_signAt 1 = .ok (.getfield 9, 3) := by decide +kernel
theorem dX6_signAt_4 : decode cX6_signAt 4 = .ok (.iload_n 1, 1) := by decide +kernel
theorem dX6_signAt_5 : decode cX6_signAt 5 = .ok (.iaload, 1) := by decide +kernel
theorem dX6_signAt_6 : decode cX6_signAt 6 = .ok (.tableswitch 109 40 61 #[102, 102, 102, 102, 109, 102, 109, 109, 109, 109, 109, 109, 109, 109, 109, 109, 109, 109, 109, 102, 102, 102], 102) := by decide +kernel
theorem dX6_signAt_108 : decode cX6_signAt 108 = .ok (.aload_n 0, 1) := by decide +kernel
theorem dX6_signAt_109 : decode cX6_signAt 109 = .ok (.getfield 9, 3) := by decide +kernel
theorem dX6_signAt_112 : decode cX6_signAt 112 = .ok (.iload_n 1, 1) := by decide +kernel
theorem dX6_signAt_113 : decode cX6_signAt 113 = .ok (.iaload, 1) := by decide +kernel
theorem dX6_signAt_114 : decode cX6_signAt 114 = .ok (.ireturn, 1) := by decide +kernel
theorem dX6_signAt_115 : decode cX6_signAt 115 = .ok (.bipush 14, 2) := by decide +kernel
theorem dX6_signAt_117 : decode cX6_signAt 117 = .ok (.ireturn, 1) := by decide +kernel
theorem dX6_isLetter_0 : decode cX6_isLetter 0 = .ok (.aload_n 0, 1) := by decide +kernel
theorem dX6_isLetter_1 : decode cX6_isLetter 1 = .ok (.getfield 9, 3) := by decide +kernel
theorem dX6_isLetter_4 : decode cX6_isLetter 4 = .ok (.iload_n 1, 1) := by decide +kernel
theorem dX6_isLetter_5 : decode cX6_isLetter 5 = .ok (.iaload, 1) := by decide +kernel
theorem dX6_isLetter_6 : decode cX6_isLetter 6 = .ok (.bipush 97, 2) := by decide +kernel
theorem dX6_isLetter_8 : decode cX6_isLetter 8 = .ok (.if_icmp .lt 18, 3) := by decide +kernel
theorem dX6_isLetter_11 : decode cX6_isLetter 11 = .ok (.aload_n 0, 1) := by decide +kernel
theorem dX6_isLetter_12 : decode cX6_isLetter 12 = .ok (.getfield 9, 3) := by decide +kernel
theorem dX6_isLetter_15 : decode cX6_isLetter 15 = .ok (.iload_n 1, 1) := by decide +kernel
theorem dX6_isLetter_16 : decode cX6_isLetter 16 = .ok (.iaload, 1) := by decide +kernel
theorem dX6_isLetter_17 : decode cX6_isLetter 17 = .ok (.bipush 122, 2) := by decide +kernel
theorem dX6_isLetter_19 : decode cX6_isLetter 19 = .ok (.if_icmp .gt 7, 3) := by decide +kernel
theorem dX6_isLetter_22 : decode cX6_isLetter 22 = .ok (.iconst 1, 1) := by decide +kernel
theorem dX6_isLetter_23 : decode cX6_isLetter 23 = .ok (.goto 4, 3) := by decide +kernel
theorem dX6_isLetter_26 : decode cX6_isLetter 26 = .ok (.iconst 0, 1) := by decide +kernel
theorem dX6_isLetter_27 : decode cX6_isLetter 27 = .ok (.ireturn, 1) := by decide +kernel
theorem dX6_isDigit_0 : decode cX6_isDigit 0 = .ok (.aload_n 0, 1) := by decide +kernel
theorem dX6_isDigit_1 : decode cX6_isDigit 1 = .ok (.getfield 9, 3) := by decide +kernel
theorem dX6_isDigit_4 : decode cX6_isDigit 4 = .ok (.iload_n 1, 1) := by decide +kernel
theorem dX6_isDigit_5 : decode cX6_isDigit 5 = .ok (.iaload, 1) := by decide +kernel
theorem dX6_isDigit_6 : decode cX6_isDigit 6 = .ok (.bipush 48, 2) := by decide +kernel
theorem dX6_isDigit_8 : decode cX6_isDigit 8 = .ok (.if_icmp .lt 18, 3) := by decide +kernel
theorem dX6_isDigit_11 : decode cX6_isDigit 11 = .ok (.aload_n 0, 1) := by decide +kernel
theorem dX6_isDigit_12 : decode cX6_isDigit 12 = .ok (.getfield 9, 3) := by decide +kernel
theorem dX6_isDigit_15 : decode cX6_isDigit 15 = .ok (.iload_n 1, 1) := by decide +kernel
theorem dX6_isDigit_16 : decode cX6_isDigit 16 = .ok (.iaload, 1) := by decide +kernel
theorem dX6_isDigit_17 : decode cX6_isDigit 17 = .ok (.bipush 57, 2) := by decide +kernel
theorem dX6_isDigit_19 : decode cX6_isDigit 19 = .ok (.if_icmp .gt 7, 3) := by decide +kernel
theorem dX6_isDigit_22 : decode cX6_isDigit 22 = .ok (.iconst 1, 1) := by decide +kernel
theorem dX6_isDigit_23 : decode cX6_isDigit 23 = .ok (.goto 4, 3) := by decide +kernel
theorem dX6_isDigit_26 : decode cX6_isDigit 26 = .ok (.iconst 0, 1) := by decide +kernel
theorem dX6_isDigit_27 : decode cX6_isDigit 27 = .ok (.ireturn, 1) := by decide +kernel
theorem dX6_spelling_0 : decode cX6_spelling 0 = .ok (.iload_n 0, 1) := by decide +kernel
theorem dX6_spelling_1 : decode cX6_spelling 1 = .ok (.tableswitch 92 0 10 #[59, 62, 65, 68, 71, 74, 77, 80, 83, 86, 89], 59) := by decide +kernel
theorem dX6_spelling_60 : decode cX6_spelling 60 = .ok (.ldc 78, 2) := by decide +kernel
theorem dX6_spelling_62 : decode cX6_spelling 62 = .ok (.areturn, 1) := by decide +kernel
theorem dX6_spelling_63 : decode cX6_spelling 63 = .ok (.ldc 80, 2) := by decide +kernel
theorem dX6_spelling_65 : decode cX6_spelling 65 = .ok (.areturn, 1) := by decide +kernel
theorem dX6_spelling_66 : decode cX6_spelling 66 = .ok (.ldc 82, 2) := by decide +kernel
theorem dX6_spelling_68 : decode cX6_spelling 68 = .ok (.areturn, 1) := by decide +kernel
theorem dX6_spelling_69 : decode cX6_spelling 69 = .ok (.ldc 84, 2) := by decide +kernel
theorem dX6_spelling_71 : decode cX6_spelling 71 = .ok (.areturn, 1) := by decide +kernel
theorem dX6_spelling_72 : decode cX6_spelling 72 = .ok (.ldc 86, 2) := by decide +kernel
theorem dX6_spelling_74 : decode cX6_spelling 74 = .ok (.areturn, 1) := by decide +kernel
theorem dX6_spelling_75 : decode cX6_spelling 75 = .ok (.ldc 88, 2) := by decide +kernel
theorem dX6_spelling_77 : decode cX6_spelling 77 = .ok (.areturn, 1) := by decide +kernel
theorem dX6_spelling_78 : decode cX6_spelling 78 = .ok (.ldc 90, 2) := by decide +kernel
theorem dX6_spelling_80 : decode cX6_spelling 80 = .ok (.areturn, 1) := by decide +kernel
theorem dX6_spelling_81 : decode cX6_spelling 81 = .ok (.ldc 92, 2) := by decide +kernel
theorem dX6_spelling_83 : decode cX6_spelling 83 = .ok (.areturn, 1) := by decide +kernel
theorem dX6_spelling_84 : decode cX6_spelling 84 = .ok (.ldc 94, 2) := by decide +kernel
theorem dX6_spelling_86 : decode cX6_spelling 86 = .ok (.areturn, 1) := by decide +kernel
theorem dX6_spelling_87 : decode cX6_spelling 87 = .ok (.ldc 96, 2) := by decide +kernel
theorem dX6_spelling_89 : decode cX6_spelling 89 = .ok (.areturn, 1) := by decide +kernel
theorem dX6_spelling_90 : decode cX6_spelling 90 = .ok (.ldc 98, 2) := by decide +kernel
theorem dX6_spelling_92 : decode cX6_spelling 92 = .ok (.areturn, 1) := by decide +kernel
theorem dX6_spelling_93 : decode cX6_spelling 93 = .ok (.ldc 100, 2) := by decide +kernel
theorem dX6_spelling_95 : decode cX6_spelling 95 = .ok (.areturn, 1) := by decide +kernel
theorem dX7_init_0 : decode cX7_init 0 = .ok (.aload_n 0, 1) := by decide +kernel
theorem dX7_init_1 : decode cX7_init 1 = .ok (.invokespecial 3, 3) := by decide +kernel
theorem dX7_init_4 : decode cX7_init 4 = .ok (.aload_n 0, 1) := by decide +kernel
theorem dX7_init_5 : decode cX7_init 5 = .ok (.sipush 160, 3) := by decide +kernel
theorem dX7_init_8 : decode cX7_init 8 = .ok (.newarray .int, 2) := by decide +kernel
theorem dX7_init_10 : decode cX7_init 10 = .ok (.putfield 9, 3) := by decide +kernel
theorem dX7_init_13 : decode cX7_init 13 = .ok (.aload_n 0, 1) := by decide +kernel
theorem dX7_init_14 : decode cX7_init 14 = .ok (.iconst 4, 1) := by decide +kernel
theorem dX7_init_15 : decode cX7_init 15 = .ok (.newarray .int, 2) := by decide +kernel
theorem dX7_init_17 : decode cX7_init 17 = .ok (.putfield 15, 3) := by decide +kernel
theorem dX7_init_20 : decode cX7_init 20 = .ok (.aload_n 0, 1) := by decide +kernel
theorem dX7_init_21 : decode cX7_init 21 = .ok (.sipush 160, 3) := by decide +kernel
theorem dX7_init_24 : decode cX7_init 24 = .ok (.newarray .int, 2) := by decide +kernel
theorem dX7_init_26 : decode cX7_init 26 = .ok (.putfield 18, 3) := by decide +kernel
theorem dX7_init_29 : decode cX7_init 29 = .ok (.return_, 1) := by decide +kernel
theorem dX7_answer_0 : decode cX7_answer 0 = .ok (.iconst 0, 1) := by decide +kernel
theorem dX7_answer_1 : decode cX7_answer 1 = .ok (.istore_n 3, 1) := by decide +kernel
theorem dX7_answer_2 : decode cX7_answer 2 = .ok (.aload_n 0, 1) := by decide +kernel
theorem dX7_answer_3 : decode cX7_answer 3 = .ok (.getfield 15, 3) := by decide +kernel
theorem dX7_answer_6 : decode cX7_answer 6 = .ok (.iload_n 1, 1) := by decide +kernel
theorem dX7_answer_7 : decode cX7_answer 7 = .ok (.iaload, 1) := by decide +kernel
theorem dX7_answer_8 : decode cX7_answer 8 = .ok (.istore 4, 2) := by decide +kernel
theorem dX7_answer_10 : decode cX7_answer 10 = .ok (.iload 4, 2) := by decide +kernel
theorem dX7_answer_12 : decode cX7_answer 12 = .ok (.aload_n 0, 1) := by decide +kernel
theorem dX7_answer_13 : decode cX7_answer 13 = .ok (.getfield 15, 3) := by decide +kernel
theorem dX7_answer_16 : decode cX7_answer 16 = .ok (.iload_n 1, 1) := by decide +kernel
theorem dX7_answer_17 : decode cX7_answer 17 = .ok (.iconst 1, 1) := by decide +kernel
theorem dX7_answer_18 : decode cX7_answer 18 = .ok (.iadd, 1) := by decide +kernel
theorem dX7_answer_19 : decode cX7_answer 19 = .ok (.iaload, 1) := by decide +kernel
theorem dX7_answer_20 : decode cX7_answer 20 = .ok (.if_icmp .ge 169, 3) := by decide +kernel
theorem dX7_answer_23 : decode cX7_answer 23 = .ok (.aload_n 0, 1) := by decide +kernel
theorem dX7_answer_24 : decode cX7_answer 24 = .ok (.getfield 9, 3) := by decide +kernel
theorem dX7_answer_27 : decode cX7_answer 27 = .ok (.iload 4, 2) := by decide +kernel
theorem dX7_answer_29 : decode cX7_answer 29 = .ok (.iaload, 1) := by decide +kernel
theorem dX7_answer_30 : decode cX7_answer 30 = .ok (.istore 5, 2) := by decide +kernel
theorem dX7_answer_32 : decode cX7_answer 32 = .ok (.iload 5, 2) := by decide +kernel
theorem dX7_answer_34 : decode cX7_answer 34 = .ok (.bipush (-6), 2) := by decide +kernel
theorem dX7_answer_36 : decode cX7_answer 36 = .ok (.if_icmp .lt 38, 3) := by decide +kernel
theorem dX7_answer_39 : decode cX7_answer 39 = .ok (.iload_n 3, 1) := by decide +kernel
theorem dX7_answer_40 : decode cX7_answer 40 = .ok (.sipush 160, 3) := by decide +kernel
theorem dX7_answer_43 : decode cX7_answer 43 = .ok (.if_icmp .ge 31, 3) := by decide +kernel
theorem dX7_answer_46 : decode cX7_answer 46 = .ok (.aload_n 0, 1) := by decide +kernel
theorem dX7_answer_47 : decode cX7_answer 47 = .ok (.getfield 18, 3) := by decide +kernel
theorem dX7_answer_50 : decode cX7_answer 50 = .ok (.iload_n 3, 1) := by decide +kernel
theorem dX7_answer_51 : decode cX7_answer 51 = .ok (.iload 5, 2) := by decide +kernel
theorem dX7_answer_53 : decode cX7_answer 53 = .ok (.ifCond .lt 8, 3) := by decide +kernel
theorem dX7_answer_56 : decode cX7_answer 56 = .ok (.iload 5, 2) := by decide +kernel
theorem dX7_answer_58 : decode cX7_answer 58 = .ok (.goto 9, 3) := by decide +kernel
theorem dX7_answer_61 : decode cX7_answer 61 = .ok (.aload_n 2, 1) := by decide +kernel
theorem dX7_answer_62 : decode cX7_answer 62 = .ok (.iconst (-1), 1) := by decide +kernel
theorem dX7_answer_63 : decode cX7_answer 63 = .ok (.iload 5, 2) := by decide +kernel
theorem dX7_answer_65 : decode cX7_answer 65 = .ok (.isub, 1) := by decide +kernel
theorem dX7_answer_66 : decode cX7_answer 66 = .ok (.iaload, 1) := by decide +kernel
theorem dX7_answer_67 : decode cX7_answer 67 = .ok (.iastore, 1) := by decide +kernel
theorem dX7_answer_68 : decode cX7_answer 68 = .ok (.iinc 3 1, 3) := by decide +kernel
theorem dX7_answer_71 : decode cX7_answer 71 = .ok (.goto 112, 3) := by decide +kernel
theorem dX7_answer_74 : decode cX7_answer 74 = .ok (.iload 5, 2) := by decide +kernel
theorem dX7_answer_76 : decode cX7_answer 76 = .ok (.bipush (-100), 2) := by decide +kernel
theorem dX7_answer_78 : decode cX7_answer 78 = .ok (.if_icmp .ne 28, 3) := by decide +kernel
theorem dX7_answer_81 : decode cX7_answer 81 = .ok (.iload_n 3, 1) := by decide +kernel
theorem dX7_answer_82 : decode cX7_answer 82 = .ok (.iconst 1, 1) := by decide +kernel
theorem dX7_answer_83 : decode cX7_answer 83 = .ok (.if_icmp .lt 23, 3) := by decide +kernel
theorem dX7_answer_86 : decode cX7_answer 86 = .ok (.aload_n 0, 1) := by decide +kernel
theorem dX7_answer_87 : decode cX7_answer 87 = .ok (.getfield 18, 3) := by decide +kernel
theorem dX7_answer_90 : decode cX7_answer 90 = .ok (.iload_n 3, 1) := by decide +kernel
theorem dX7_answer_91 : decode cX7_answer 91 = .ok (.iconst 1, 1) := by decide +kernel
theorem dX7_answer_92 : decode cX7_answer 92 = .ok (.isub, 1) := by decide +kernel
theorem dX7_answer_93 : decode cX7_answer 93 = .ok (.aload_n 0, 1) := by decide +kernel
theorem dX7_answer_94 : decode cX7_answer 94 = .ok (.getfield 18, 3) := by decide +kernel
theorem dX7_answer_97 : decode cX7_answer 97 = .ok (.iload_n 3, 1) := by decide +kernel
theorem dX7_answer_98 : decode cX7_answer 98 = .ok (.iconst 1, 1) := by decide +kernel
theorem dX7_answer_99 : decode cX7_answer 99 = .ok (.isub, 1) := by decide +kernel
theorem dX7_answer_100 : decode cX7_answer 100 = .ok (.iaload, 1) := by decide +kernel
theorem dX7_answer_101 : decode cX7_answer 101 = .ok (.ineg, 1) := by decide +kernel
theorem dX7_answer_102 : decode cX7_answer 102 = .ok (.iastore, 1) := by decide +kernel
theorem dX7_answer_103 : decode cX7_answer 103 = .ok (.goto 80, 3) := by decide +kernel
theorem dX7_answer_106 : decode cX7_answer 106 = .ok (.iload 5, 2) := by decide +kernel
theorem dX7_answer_108 : decode cX7_answer 108 = .ok (.bipush (-11), 2) := by decide +kernel
theorem dX7_answer_110 : decode cX7_answer 110 = .ok (.if_icmp .ne 35, 3) := by decide +kernel
theorem dX7_answer_113 : decode cX7_answer 113 = .ok (.iload_n 3, 1) := by decide +kernel
theorem dX7_answer_114 : decode cX7_answer 114 = .ok (.iconst 1, 1) := by decide +kernel
theorem dX7_answer_115 : decode cX7_answer 115 = .ok (.if_icmp .lt 30, 3) := by decide +kernel
theorem dX7_answer_118 : decode cX7_answer 118 = .ok (.aload_n 0, 1) := by decide +kernel
theorem dX7_answer_119 : decode cX7_answer 119 = .ok (.getfield 18, 3) := by decide +kernel
theorem dX7_answer_122 : decode cX7_answer 122 = .ok (.iload_n 3, 1) := by decide +kernel
theorem dX7_answer_123 : decode cX7_answer 123 = .ok (.iconst 1, 1) := by decide +kernel
theorem dX7_answer_124 : decode cX7_answer 124 = .ok (.isub, 1) := by decide +kernel
theorem dX7_answer_125 : decode cX7_answer 125 = .ok (.aload_n 0, 1) := by decide +kernel
theorem dX7_answer_126 : decode cX7_answer 126 = .ok (.getfield 18, 3) := by decide +kernel
theorem dX7_answer_129 : decode cX7_answer 129 = .ok (.iload_n 3, 1) := by decide +kernel
theorem dX7_answer_130 : decode cX7_answer 130 = .ok (.iconst 1, 1) := by decide +kernel
theorem dX7_answer_131 : decode cX7_answer 131 = .ok (.isub, 1) := by decide +kernel
theorem dX7_answer_132 : decode cX7_answer 132 = .ok (.iaload, 1) := by decide +kernel
theorem dX7_answer_133 : decode cX7_answer 133 = .ok (.ifCond .ne 7, 3) := by decide +kernel
theorem dX7_answer_136 : decode cX7_answer 136 = .ok (.iconst 1, 1) := by decide +kernel
theorem dX7_answer_137 : decode cX7_answer 137 = .ok (.goto 4, 3) := by decide +kernel
theorem dX7_answer_140 : decode cX7_answer 140 = .ok (.iconst 0, 1) := by decide +kernel
theorem dX7_answer_141 : decode cX7_answer 141 = .ok (.iastore, 1) := by decide +kernel
theorem dX7_answer_142 : decode cX7_answer 142 = .ok (.goto 41, 3) := by decide +kernel
theorem dX7_answer_145 : decode cX7_answer 145 = .ok (.iload_n 3, 1) := by decide +kernel
theorem dX7_answer_146 : decode cX7_answer 146 = .ok (.iconst 2, 1) := by decide +kernel
theorem dX7_answer_147 : decode cX7_answer 147 = .ok (.if_icmp .lt 36, 3) := by decide +kernel
theorem dX7_answer_150 : decode cX7_answer 150 = .ok (.aload_n 0, 1) := by decide +kernel
theorem dX7_answer_151 : decode cX7_answer 151 = .ok (.getfield 18, 3) := by decide +kernel
theorem dX7_answer_154 : decode cX7_answer 154 = .ok (.iload_n 3, 1) := by decide +kernel
theorem dX7_answer_155 : decode cX7_answer 155 = .ok (.iconst 2, 1) := by decide +kernel
theorem dX7_answer_156 : decode cX7_answer 156 = .ok (.isub, 1) := by decide +kernel
theorem dX7_answer_157 : decode cX7_answer 157 = .ok (.iload 5, 2) := by decide +kernel
theorem dX7_answer_159 : decode cX7_answer 159 = .ok (.ineg, 1) := by decide +kernel
theorem dX7_answer_160 : decode cX7_answer 160 = .ok (.aload_n 0, 1) := by decide +kernel
theorem dX7_answer_161 : decode cX7_answer 161 = .ok (.getfield 18, 3) := by decide +kernel
theorem dX7_answer_164 : decode cX7_answer 164 = .ok (.iload_n 3, 1) := by decide +kernel
theorem dX7_answer_165 : decode cX7_answer 165 = .ok (.iconst 2, 1) := by decide +kernel
theorem dX7_answer_166 : decode cX7_answer 166 = .ok (.isub, 1) := by decide +kernel
theorem dX7_answer_167 : decode cX7_answer 167 = .ok (.iaload, 1) := by decide +kernel
theorem dX7_answer_168 : decode cX7_answer 168 = .ok (.aload_n 0, 1) := by decide +kernel
theorem dX7_answer_169 : decode cX7_answer 169 = .ok (.getfield 18, 3) := by decide +kernel
theorem dX7_answer_172 : decode cX7_answer 172 = .ok (.iload_n 3, 1) := by decide +kernel
theorem dX7_answer_173 : decode cX7_answer 173 = .ok (.iconst 1, 1) := by decide +kernel
theorem dX7_answer_174 : decode cX7_answer 174 = .ok (.isub, 1) := by decide +kernel
theorem dX7_answer_175 : decode cX7_answer 175 = .ok (.iaload, 1) := by decide +kernel
theorem dX7_answer_176 : decode cX7_answer 176 = .ok (.invokestatic 21, 3) := by decide +kernel
theorem dX7_answer_179 : decode cX7_answer 179 = .ok (.iastore, 1) := by decide +kernel
theorem dX7_answer_180 : decode cX7_answer 180 = .ok (.iinc 3 (-1), 3) := by decide +kernel
theorem dX7_answer_183 : decode cX7_answer 183 = .ok (.iinc 4 1, 3) := by decide +kernel
theorem dX7_answer_186 : decode cX7_answer 186 = .ok (.goto (-176), 3) := by decide +kernel
theorem dX7_answer_189 : decode cX7_answer 189 = .ok (.aload_n 0, 1) := by decide +kernel
theorem dX7_answer_190 : decode cX7_answer 190 = .ok (.getfield 18, 3) := by decide +kernel
theorem dX7_answer_193 : decode cX7_answer 193 = .ok (.iconst 0, 1) := by decide +kernel
theorem dX7_answer_194 : decode cX7_answer 194 = .ok (.iaload, 1) := by decide +kernel
theorem dX7_answer_195 : decode cX7_answer 195 = .ok (.ireturn, 1) := by decide +kernel
theorem dX7_joined_0 : decode cX7_joined 0 = .ok (.iload_n 0, 1) := by decide +kernel
theorem dX7_joined_1 : decode cX7_joined 1 = .ok (.lookupswitch 107 #[(9, 93), (42, 67), (43, 59), (45, 63), (60, 71), (61, 82)], 59) := by decide +kernel
theorem dX7_joined_60 : decode cX7_joined 60 = .ok (.iload_n 1, 1) := by decide +kernel
theorem dX7_joined_61 : decode cX7_joined 61 = .ok (.iload_n 2, 1) := by decide +kernel
theorem dX7_joined_62 : decode cX7_joined 62 = .ok (.iadd, 1) := by decide +kernel
theorem dX7_joined_63 : decode cX7_joined 63 = .ok (.ireturn, 1) := by decide +kernel
theorem dX7_joined_64 : decode cX7_joined 64 = .ok (.iload_n 1, 1) := by decide +kernel
theorem dX7_joined_65 : decode cX7_joined 65 = .ok (.iload_n 2, 1) := by decide +kernel
theorem dX7_joined_66 : decode cX7_joined 66 = .ok (.isub, 1) := by decide +kernel
theorem dX7_joined_67 : decode cX7_joined 67 = .ok (.ireturn, 1) := by decide +kernel
theorem dX7_joined_68 : decode cX7_joined 68 = .ok (.iload_n 1, 1) := by decide +kernel
theorem dX7_joined_69 : decode cX7_joined 69 = .ok (.iload_n 2, 1) := by decide +kernel
theorem dX7_joined_70 : decode cX7_joined 70 = .ok (.imul, 1) := by decide +kernel
theorem dX7_joined_71 : decode cX7_joined 71 = .ok (.ireturn, 1) := by decide +kernel
theorem dX7_joined_72 : decode cX7_joined 72 = .ok (.iload_n 1, 1) := by decide +kernel
theorem dX7_joined_73 : decode cX7_joined 73 = .ok (.iload_n 2, 1) := by decide +kernel
theorem dX7_joined_74 : decode cX7_joined 74 = .ok (.if_icmp .ge 7, 3) := by decide +kernel
theorem dX7_joined_77 : decode cX7_joined 77 = .ok (.iconst 1, 1) := by decide +kernel
theorem dX7_joined_78 : decode cX7_joined 78 = .ok (.goto 4, 3) := by decide +kernel
theorem dX7_joined_81 : decode cX7_joined 81 = .ok (.iconst 0, 1) := by decide +kernel
theorem dX7_joined_82 : decode cX7_joined 82 = .ok (.ireturn, 1) := by decide +kernel
theorem dX7_joined_83 : decode cX7_joined 83 = .ok (.iload_n 1, 1) := by decide +kernel
theorem dX7_joined_84 : decode cX7_joined 84 = .ok (.iload_n 2, 1) := by decide +kernel
theorem dX7_joined_85 : decode cX7_joined 85 = .ok (.if_icmp .ne 7, 3) := by decide +kernel
theorem dX7_joined_88 : decode cX7_joined 88 = .ok (.iconst 1, 1) := by decide +kernel
theorem dX7_joined_89 : decode cX7_joined 89 = .ok (.goto 4, 3) := by decide +kernel
theorem dX7_joined_92 : decode cX7_joined 92 = .ok (.iconst 0, 1) := by decide +kernel
theorem dX7_joined_93 : decode cX7_joined 93 = .ok (.ireturn, 1) := by decide +kernel
theorem dX7_joined_94 : decode cX7_joined 94 = .ok (.iload_n 1, 1) := by decide +kernel
theorem dX7_joined_95 : decode cX7_joined 95 = .ok (.ifCond .ne 7, 3) := by decide +kernel
theorem dX7_joined_98 : decode cX7_joined 98 = .ok (.iload_n 2, 1) := by decide +kernel
theorem dX7_joined_99 : decode cX7_joined 99 = .ok (.ifCond .eq 7, 3) := by decide +kernel
theorem dX7_joined_102 : decode cX7_joined 102 = .ok (.iconst 1, 1) := by decide +kernel
theorem dX7_joined_103 : decode cX7_joined 103 = .ok (.goto 4, 3) := by decide +kernel
theorem dX7_joined_106 : decode cX7_joined 106 = .ok (.iconst 0, 1) := by decide +kernel
theorem dX7_joined_107 : decode cX7_joined 107 = .ok (.ireturn, 1) := by decide +kernel
theorem dX7_joined_108 : decode cX7_joined 108 = .ok (.iload_n 1, 1) := by decide +kernel
theorem dX7_joined_109 : decode cX7_joined 109 = .ok (.ifCond .eq 11, 3) := by decide +kernel
theorem dX7_joined_112 : decode cX7_joined 112 = .ok (.iload_n 2, 1) := by decide +kernel
theorem dX7_joined_113 : decode cX7_joined 113 = .ok (.ifCond .eq 7, 3) := by decide +kernel
theorem dX7_joined_116 : decode cX7_joined 116 = .ok (.iconst 1, 1) := by decide +kernel
theorem dX7_joined_117 : decode cX7_joined 117 = .ok (.goto 4, 3) := by decide +kernel
theorem dX7_joined_120 : decode cX7_joined 120 = .ok (.iconst 0, 1) := by decide +kernel
theorem dX7_joined_121 : decode cX7_joined 121 = .ok (.ireturn, 1) := by decide +kernel
theorem dX8_init_0 : decode cX8_init 0 = .ok (.aload_n 0, 1) := by decide +kernel
theorem dX8_init_1 : decode cX8_init 1 = .ok (.invokespecial 3, 3) := by decide +kernel
theorem dX8_init_4 : decode cX8_init 4 = .ok (.aload_n 0, 1) := by decide +kernel
theorem dX8_init_5 : decode cX8_init 5 = .ok (.iconst 0, 1) := by decide +kernel
theorem dX8_init_6 : decode cX8_init 6 = .ok (.putfield 9, 3) := by decide +kernel
theorem dX8_init_9 : decode cX8_init 9 = .ok (.aload_n 0, 1) := by decide +kernel
theorem dX8_init_10 : decode cX8_init 10 = .ok (.iconst 1, 1) := by decide +kernel
theorem dX8_init_11 : decode cX8_init 11 = .ok (.putfield 15, 3) := by decide +kernel
theorem dX8_init_14 : decode cX8_init 14 = .ok (.aload_n 0, 1) := by decide +kernel
theorem dX8_init_15 : decode cX8_init 15 = .ok (.bipush 6, 2) := by decide +kernel
theorem dX8_init_17 : decode cX8_init 17 = .ok (.newarray .int, 2) := by decide +kernel
theorem dX8_init_19 : decode cX8_init 19 = .ok (.putfield 18, 3) := by decide +kernel
theorem dX8_init_22 : decode cX8_init 22 = .ok (.aload_n 0, 1) := by decide +kernel
theorem dX8_init_23 : decode cX8_init 23 = .ok (.bipush 6, 2) := by decide +kernel
theorem dX8_init_25 : decode cX8_init 25 = .ok (.newarray .int, 2) := by decide +kernel
theorem dX8_init_27 : decode cX8_init 27 = .ok (.putfield 22, 3) := by decide +kernel
theorem dX8_init_30 : decode cX8_init 30 = .ok (.return_, 1) := by decide +kernel
theorem dX8_begin_0 : decode cX8_begin 0 = .ok (.aload_n 0, 1) := by decide +kernel
theorem dX8_begin_1 : decode cX8_begin 1 = .ok (.iload_n 1, 1) := by decide +kernel
theorem dX8_begin_2 : decode cX8_begin 2 = .ok (.putfield 9, 3) := by decide +kernel
theorem dX8_begin_5 : decode cX8_begin 5 = .ok (.aload_n 0, 1) := by decide +kernel
theorem dX8_begin_6 : decode cX8_begin 6 = .ok (.iconst 1, 1) := by decide +kernel
theorem dX8_begin_7 : decode cX8_begin 7 = .ok (.putfield 15, 3) := by decide +kernel
theorem dX8_begin_10 : decode cX8_begin 10 = .ok (.iconst 0, 1) := by decide +kernel
theorem dX8_begin_11 : decode cX8_begin 11 = .ok (.istore_n 2, 1) := by decide +kernel
theorem dX8_begin_12 : decode cX8_begin 12 = .ok (.iload_n 2, 1) := by decide +kernel
theorem dX8_begin_13 : decode cX8_begin 13 = .ok (.aload_n 0, 1) := by decide +kernel
theorem dX8_begin_14 : decode cX8_begin 14 = .ok (.getfield 9, 3) := by decide +kernel
theorem dX8_begin_17 : decode cX8_begin 17 = .ok (.if_icmp .ge 28, 3) := by decide +kernel
theorem dX8_begin_20 : decode cX8_begin 20 = .ok (.aload_n 0, 1) := by decide +kernel
theorem dX8_begin_21 : decode cX8_begin 21 = .ok (.getfield 18, 3) := by decide +kernel
theorem dX8_begin_24 : decode cX8_begin 24 = .ok (.iload_n 2, 1) := by decide +kernel
theorem dX8_begin_25 : decode cX8_begin 25 = .ok (.iload_n 2, 1) := by decide +kernel
theorem dX8_begin_26 : decode cX8_begin 26 = .ok (.iastore, 1) := by decide +kernel
theorem dX8_begin_27 : decode cX8_begin 27 = .ok (.aload_n 0, 1) := by decide +kernel
theorem dX8_begin_28 : decode cX8_begin 28 = .ok (.dup, 1) := by decide +kernel
theorem dX8_begin_29 : decode cX8_begin 29 = .ok (.getfield 15, 3) := by decide +kernel
theorem dX8_begin_32 : decode cX8_begin 32 = .ok (.iload_n 2, 1) := by decide +kernel
theorem dX8_begin_33 : decode cX8_begin 33 = .ok (.iconst 1, 1) := by decide +kernel
theorem dX8_begin_34 : decode cX8_begin 34 = .ok (.iadd, 1) := by decide +kernel
theorem dX8_begin_35 : decode cX8_begin 35 = .ok (.imul, 1) := by decide +kernel
theorem dX8_begin_36 : decode cX8_begin 36 = .ok (.putfield 15, 3) := by decide +kernel
theorem dX8_begin_39 : decode cX8_begin 39 = .ok (.iinc 2 1, 3) := by decide +kernel
theorem dX8_begin_42 : decode cX8_begin 42 = .ok (.goto (-30), 3) := by decide +kernel
theorem dX8_begin_45 : decode cX8_begin 45 = .ok (.return_, 1) := by decide +kernel
theorem dX8_step_0 : decode cX8_step 0 = .ok (.aload_n 0, 1) := by decide +kernel
theorem dX8_step_1 : decode cX8_step 1 = .ok (.getfield 9, 3) := by decide +kernel
theorem dX8_step_4 : decode cX8_step 4 = .ok (.iconst 2, 1) := by decide +kernel
theorem dX8_step_5 : decode cX8_step 5 = .ok (.isub, 1) := by decide +kernel
theorem dX8_step_6 : decode cX8_step 6 = .ok (.istore_n 1, 1) := by decide +kernel
theorem dX8_step_7 : decode cX8_step 7 = .ok (.iload_n 1, 1) := by decide +kernel
theorem dX8_step_8 : decode cX8_step 8 = .ok (.ifCond .lt 26, 3) := by decide +kernel
theorem dX8_step_11 : decode cX8_step 11 = .ok (.aload_n 0, 1) := by decide +kernel
theorem dX8_step_12 : decode cX8_step 12 = .ok (.getfield 18, 3) := by decide +kernel
theorem dX8_step_15 : decode cX8_step 15 = .ok (.iload_n 1, 1) := by decide +kernel
theorem dX8_step_16 : decode cX8_step 16 = .ok (.iaload, 1) := by decide +kernel
theorem dX8_step_17 : decode cX8_step 17 = .ok (.aload_n 0, 1) := by decide +kernel
theorem dX8_step_18 : decode cX8_step 18 = .ok (.getfield 18, 3) := by decide +kernel
theorem dX8_step_21 : decode cX8_step 21 = .ok (.iload_n 1, 1) := by decide +kernel
theorem dX8_step_22 : decode cX8_step 22 = .ok (.iconst 1, 1) := by decide +kernel
theorem dX8_step_23 : decode cX8_step 23 = .ok (.iadd, 1) := by decide +kernel
theorem dX8_step_24 : decode cX8_step 24 = .ok (.iaload, 1) := by decide +kernel
theorem dX8_step_25 : decode cX8_step 25 = .ok (.if_icmp .le 9, 3) := by decide +kernel
theorem dX8_step_28 : decode cX8_step 28 = .ok (.iinc 1 (-1), 3) := by decide +kernel
theorem dX8_step_31 : decode cX8_step 31 = .ok (.goto (-24), 3) := by decide +kernel
theorem dX8_step_34 : decode cX8_step 34 = .ok (.iload_n 1, 1) := by decide +kernel
theorem dX8_step_35 : decode cX8_step 35 = .ok (.ifCond .ge 4, 3) := by decide +kernel
theorem dX8_step_38 : decode cX8_step 38 = .ok (.return_, 1) := by decide +kernel
theorem dX8_step_39 : decode cX8_step 39 = .ok (.aload_n 0, 1) := by decide +kernel
theorem dX8_step_40 : decode cX8_step 40 = .ok (.getfield 9, 3) := by decide +kernel
theorem dX8_step_43 : decode cX8_step 43 = .ok (.iconst 1, 1) := by decide +kernel
theorem dX8_step_44 : decode cX8_step 44 = .ok (.isub, 1) := by decide +kernel
theorem dX8_step_45 : decode cX8_step 45 = .ok (.istore_n 2, 1) := by decide +kernel
theorem dX8_step_46 : decode cX8_step 46 = .ok (.iload_n 2, 1) := by decide +kernel
theorem dX8_step_47 : decode cX8_step 47 = .ok (.iload_n 1, 1) := by decide +kernel
theorem dX8_step_48 : decode cX8_step 48 = .ok (.if_icmp .le 24, 3) := by decide +kernel
theorem dX8_step_51 : decode cX8_step 51 = .ok (.aload_n 0, 1) := by decide +kernel
theorem dX8_step_52 : decode cX8_step 52 = .ok (.getfield 18, 3) := by decide +kernel
theorem dX8_step_55 : decode cX8_step 55 = .ok (.iload_n 2, 1) := by decide +kernel
theorem dX8_step_56 : decode cX8_step 56 = .ok (.iaload, 1) := by decide +kernel
theorem dX8_step_57 : decode cX8_step 57 = .ok (.aload_n 0, 1) := by decide +kernel
theorem dX8_step_58 : decode cX8_step 58 = .ok (.getfield 18, 3) := by decide +kernel
theorem dX8_step_61 : decode cX8_step 61 = .ok (.iload_n 1, 1) := by decide +kernel
theorem dX8_step_62 : decode cX8_step 62 = .ok (.iaload, 1) := by decide +kernel
theorem dX8_step_63 : decode cX8_step 63 = .ok (.if_icmp .ge 9, 3) := by decide +kernel
theorem dX8_step_66 : decode cX8_step 66 = .ok (.iinc 2 (-1), 3) := by decide +kernel
theorem dX8_step_69 : decode cX8_step 69 = .ok (.goto (-23), 3) := by decide +kernel
theorem dX8_step_72 : decode cX8_step 72 = .ok (.aload_n 0, 1) := by decide +kernel
theorem dX8_step_73 : decode cX8_step 73 = .ok (.iload_n 1, 1) := by decide +kernel
theorem dX8_step_74 : decode cX8_step 74 = .ok (.iload_n 2, 1) := by decide +kernel
theorem dX8_step_75 : decode cX8_step 75 = .ok (.invokevirtual 25, 3) := by decide +kernel
theorem dX8_step_78 : decode cX8_step 78 = .ok (.iload_n 1, 1) := by decide +kernel
theorem dX8_step_79 : decode cX8_step 79 = .ok (.iconst 1, 1) := by decide +kernel
theorem dX8_step_80 : decode cX8_step 80 = .ok (.iadd, 1) := by decide +kernel
theorem dX8_step_81 : decode cX8_step 81 = .ok (.istore_n 3, 1) := by decide +kernel
theorem dX8_step_82 : decode cX8_step 82 = .ok (.aload_n 0, 1) := by decide +kernel
theorem dX8_step_83 : decode cX8_step 83 = .ok (.getfield 9, 3) := by decide +kernel
theorem dX8_step_86 : decode cX8_step 86 = .ok (.iconst 1, 1) := by decide +kernel
theorem dX8_step_87 : decode cX8_step 87 = .ok (.isub, 1) := by decide +kernel
theorem dX8_step_88 : decode cX8_step 88 = .ok (.istore 4, 2) := by decide +kernel
theorem dX8_step_90 : decode cX8_step 90 = .ok (.iload_n 3, 1) := by decide +kernel
theorem dX8_step_91 : decode cX8_step 91 = .ok (.iload 4, 2) := by decide +kernel
theorem dX8_step_93 : decode cX8_step 93 = .ok (.if_icmp .ge 19, 3) := by decide +kernel
theorem dX8_step_96 : decode cX8_step 96 = .ok (.aload_n 0, 1) := by decide +kernel
theorem dX8_step_97 : decode cX8_step 97 = .ok (.iload_n 3, 1) := by decide +kernel
theorem dX8_step_98 : decode cX8_step 98 = .ok (.iload 4, 2) := by decide +kernel
theorem dX8_step_100 : decode cX8_step 100 = .ok (.invokevirtual 25, 3) := by decide +kernel
theorem dX8_step_103 : decode cX8_step 103 = .ok (.iinc 3 1, 3) := by decide +kernel
theorem dX8_step_106 : decode cX8_step 106 = .ok (.iinc 4 (-1), 3) := by decide +kernel
theorem dX8_step_109 : decode cX8_step 109 = .ok (.goto (-19), 3) := by decide +kernel
theorem dX8_step_112 : decode cX8_step 112 = .ok (.return_, 1) := by decide +kernel
theorem dX8_swap_0 : decode cX8_swap 0 = .ok (.aload_n 0, 1) := by decide +kernel
theorem dX8_swap_1 : decode cX8_swap 1 = .ok (.getfield 18, 3) := by decide +kernel
theorem dX8_swap_4 : decode cX8_swap 4 = .ok (.iload_n 1, 1) := by decide +kernel
theorem dX8_swap_5 : decode cX8_swap 5 = .ok (.iaload, 1) := by decide +kernel
theorem dX8_swap_6 : decode cX8_swap 6 = .ok (.istore_n 3, 1) := by decide +kernel
theorem dX8_swap_7 : decode cX8_swap 7 = .ok (.aload_n 0, 1) := by decide +kernel
theorem dX8_swap_8 : decode cX8_swap 8 = .ok (.getfield 18, 3) := by decide +kernel
theorem dX8_swap_11 : decode cX8_swap 11 = .ok (.iload_n 1, 1) := by decide +kernel
theorem dX8_swap_12 : decode cX8_swap 12 = .ok (.aload_n 0, 1) := by decide +kernel
theorem dX8_swap_13 : decode cX8_swap 13 = .ok (.getfield 18, 3) := by decide +kernel
theorem dX8_swap_16 : decode cX8_swap 16 = .ok (.iload_n 2, 1) := by decide +kernel
theorem dX8_swap_17 : decode cX8_swap 17 = .ok (.iaload, 1) := by decide +kernel
theorem dX8_swap_18 : decode cX8_swap 18 = .ok (.iastore, 1) := by decide +kernel
theorem dX8_swap_19 : decode cX8_swap 19 = .ok (.aload_n 0, 1) := by decide +kernel
theorem dX8_swap_20 : decode cX8_swap 20 = .ok (.getfield 18, 3) := by decide +kernel
theorem dX8_swap_23 : decode cX8_swap 23 = .ok (.iload_n 2, 1) := by decide +kernel
theorem dX8_swap_24 : decode cX8_swap 24 = .ok (.iload_n 3, 1) := by decide +kernel
theorem dX8_swap_25 : decode cX8_swap 25 = .ok (.iastore, 1) := by decide +kernel
theorem dX8_swap_26 : decode cX8_swap 26 = .ok (.return_, 1) := by decide +kernel
theorem dX8_digits_0 : decode cX8_digits 0 = .ok (.iconst 0, 1) := by decide +kernel
theorem dX8_digits_1 : decode cX8_digits 1 = .ok (.istore_n 1, 1) := by decide +kernel
theorem dX8_digits_2 : decode cX8_digits 2 = .ok (.iconst 0, 1) := by decide +kernel
theorem dX8_digits_3 : decode cX8_digits 3 = .ok (.istore_n 2, 1) := by decide +kernel
theorem dX8_digits_4 : decode cX8_digits 4 = .ok (.iload_n 2, 1) := by decide +kernel
theorem dX8_digits_5 : decode cX8_digits 5 = .ok (.aload_n 0, 1) := by decide +kernel
theorem dX8_digits_6 : decode cX8_digits 6 = .ok (.getfield 9, 3) := by decide +kernel
theorem dX8_digits_9 : decode cX8_digits 9 = .ok (.if_icmp .ge 23, 3) := by decide +kernel
theorem dX8_digits_12 : decode cX8_digits 12 = .ok (.bipush 10, 2) := by decide +kernel
theorem dX8_digits_14 : decode cX8_digits 14 = .ok (.iload_n 1, 1) := by decide +kernel
theorem dX8_digits_15 : decode cX8_digits 15 = .ok (.imul, 1) := by decide +kernel
theorem dX8_digits_16 : decode cX8_digits 16 = .ok (.aload_n 0, 1) := by decide +kernel
theorem dX8_digits_17 : decode cX8_digits 17 = .ok (.getfield 18, 3) := by decide +kernel
theorem dX8_digits_20 : decode cX8_digits 20 = .ok (.iload_n 2, 1) := by decide +kernel
theorem dX8_digits_21 : decode cX8_digits 21 = .ok (.iaload, 1) := by decide +kernel
theorem dX8_digits_22 : decode cX8_digits 22 = .ok (.iadd, 1) := by decide +kernel
theorem dX8_digits_23 : decode cX8_digits 23 = .ok (.iconst 1, 1) := by decide +kernel
theorem dX8_digits_24 : decode cX8_digits 24 = .ok (.iadd, 1) := by decide +kernel
theorem dX8_digits_25 : decode cX8_digits 25 = .ok (.istore_n 1, 1) := by decide +kernel
theorem dX8_digits_26 : decode cX8_digits 26 = .ok (.iinc 2 1, 3) := by decide +kernel
theorem dX8_digits_29 : decode cX8_digits 29 = .ok (.goto (-25), 3) := by decide +kernel
theorem dX8_digits_32 : decode cX8_digits 32 = .ok (.iload_n 1, 1) := by decide +kernel
theorem dX8_digits_33 : decode cX8_digits 33 = .ok (.ireturn, 1) := by decide +kernel
theorem dX8_isAmong_0 : decode cX8_isAmong 0 = .ok (.iconst 0, 1) := by decide +kernel
theorem dX8_isAmong_1 : decode cX8_isAmong 1 = .ok (.istore_n 2, 1) := by decide +kernel
theorem dX8_isAmong_2 : decode cX8_isAmong 2 = .ok (.iload_n 2, 1) := by decide +kernel
theorem dX8_isAmong_3 : decode cX8_isAmong 3 = .ok (.aload_n 0, 1) := by decide +kernel
theorem dX8_isAmong_4 : decode cX8_isAmong 4 = .ok (.getfield 9, 3) := by decide +kernel
theorem dX8_isAmong_7 : decode cX8_isAmong 7 = .ok (.if_icmp .ge 26, 3) := by decide +kernel
theorem dX8_isAmong_10 : decode cX8_isAmong 10 = .ok (.aload_n 1, 1) := by decide +kernel
theorem dX8_isAmong_11 : decode cX8_isAmong 11 = .ok (.iload_n 2, 1) := by decide +kernel
theorem dX8_isAmong_12 : decode cX8_isAmong 12 = .ok (.iaload, 1) := by decide +kernel
theorem dX8_isAmong_13 : decode cX8_isAmong 13 = .ok (.aload_n 0, 1) := by decide +kernel
theorem dX8_isAmong_14 : decode cX8_isAmong 14 = .ok (.getfield 18, 3) := by decide +kernel
theorem dX8_isAmong_17 : decode cX8_isAmong 17 = .ok (.iload_n 2, 1) := by decide +kernel
theorem dX8_isAmong_18 : decode cX8_isAmong 18 = .ok (.iaload, 1) := by decide +kernel
theorem dX8_isAmong_19 : decode cX8_isAmong 19 = .ok (.ishr, 1) := by decide +kernel
theorem dX8_isAmong_20 : decode cX8_isAmong 20 = .ok (.iconst 1, 1) := by decide +kernel
theorem dX8_isAmong_21 : decode cX8_isAmong 21 = .ok (.iand, 1) := by decide +kernel
theorem dX8_isAmong_22 : decode cX8_isAmong 22 = .ok (.ifCond .ne 5, 3) := by decide +kernel
theorem dX8_isAmong_25 : decode cX8_isAmong 25 = .ok (.iconst 0, 1) := by decide +kernel
theorem dX8_isAmong_26 : decode cX8_isAmong 26 = .ok (.ireturn, 1) := by decide +kernel
theorem dX8_isAmong_27 : decode cX8_isAmong 27 = .ok (.iinc 2 1, 3) := by decide +kernel
theorem dX8_isAmong_30 : decode cX8_isAmong 30 = .ok (.goto (-28), 3) := by decide +kernel
theorem dX8_isAmong_33 : decode cX8_isAmong 33 = .ok (.iconst 1, 1) := by decide +kernel
theorem dX8_isAmong_34 : decode cX8_isAmong 34 = .ok (.ireturn, 1) := by decide +kernel
theorem dX8_mark_0 : decode cX8_mark 0 = .ok (.iconst 0, 1) := by decide +kernel
theorem dX8_mark_1 : decode cX8_mark 1 = .ok (.istore_n 1, 1) := by decide +kernel
theorem dX8_mark_2 : decode cX8_mark 2 = .ok (.iload_n 1, 1) := by decide +kernel
theorem dX8_mark_3 : decode cX8_mark 3 = .ok (.aload_n 0, 1) := by decide +kernel
theorem dX8_mark_4 : decode cX8_mark 4 = .ok (.getfield 9, 3) := by decide +kernel
theorem dX8_mark_7 : decode cX8_mark 7 = .ok (.if_icmp .ge 21, 3) := by decide +kernel
theorem dX8_mark_10 : decode cX8_mark 10 = .ok (.aload_n 0, 1) := by decide +kernel
theorem dX8_mark_11 : decode cX8_mark 11 = .ok (.getfield 22, 3) := by decide +kernel
theorem dX8_mark_14 : decode cX8_mark 14 = .ok (.iload_n 1, 1) := by decide +kernel
theorem dX8_mark_15 : decode cX8_mark 15 = .ok (.aload_n 0, 1) := by decide +kernel
theorem dX8_mark_16 : decode cX8_mark 16 = .ok (.getfield 18, 3) := by decide +kernel
theorem dX8_mark_19 : decode cX8_mark 19 = .ok (.iload_n 1, 1) := by decide +kernel
theorem dX8_mark_20 : decode cX8_mark 20 = .ok (.iaload, 1) := by decide +kernel
theorem dX8_mark_21 : decode cX8_mark 21 = .ok (.iastore, 1) := by decide +kernel
theorem dX8_mark_22 : decode cX8_mark 22 = .ok (.iinc 1 1, 3) := by decide +kernel
theorem dX8_mark_25 : decode cX8_mark 25 = .ok (.goto (-23), 3) := by decide +kernel
theorem dX8_mark_28 : decode cX8_mark 28 = .ok (.return_, 1) := by decide +kernel
theorem dX8_asMarked_0 : decode cX8_asMarked 0 = .ok (.iconst 0, 1) := by decide +kernel
theorem dX8_asMarked_1 : decode cX8_asMarked 1 = .ok (.istore_n 1, 1) := by decide +kernel
theorem dX8_asMarked_2 : decode cX8_asMarked 2 = .ok (.iconst 0, 1) := by decide +kernel
theorem dX8_asMarked_3 : decode cX8_asMarked 3 = .ok (.istore_n 2, 1) := by decide +kernel
theorem dX8_asMarked_4 : decode cX8_asMarked 4 = .ok (.iload_n 2, 1) := by decide +kernel
theorem dX8_asMarked_5 : decode cX8_asMarked 5 = .ok (.aload_n 0, 1) := by decide +kernel
theorem dX8_asMarked_6 : decode cX8_asMarked 6 = .ok (.getfield 9, 3) := by decide +kernel
theorem dX8_asMarked_9 : decode cX8_asMarked 9 = .ok (.if_icmp .ge 30, 3) := by decide +kernel
theorem dX8_asMarked_12 : decode cX8_asMarked 12 = .ok (.aload_n 0, 1) := by decide +kernel
theorem dX8_asMarked_13 : decode cX8_asMarked 13 = .ok (.getfield 18, 3) := by decide +kernel
theorem dX8_asMarked_16 : decode cX8_asMarked 16 = .ok (.iload_n 2, 1) := by decide +kernel
theorem dX8_asMarked_17 : decode cX8_asMarked 17 = .ok (.iaload, 1) := by decide +kernel
theorem dX8_asMarked_18 : decode cX8_asMarked 18 = .ok (.aload_n 0, 1) := by decide +kernel
theorem dX8_asMarked_19 : decode cX8_asMarked 19 = .ok (.getfield 22, 3) := by decide +kernel
theorem dX8_asMarked_22 : decode cX8_asMarked 22 = .ok (.iload_n 2, 1) := by decide +kernel
theorem dX8_asMarked_23 : decode cX8_asMarked 23 = .ok (.iaload, 1) := by decide +kernel
theorem dX8_asMarked_24 : decode cX8_asMarked 24 = .ok (.if_icmp .ne 9, 3) := by decide +kernel
theorem dX8_asMarked_27 : decode cX8_asMarked 27 = .ok (.iload_n 1, 1) := by decide +kernel
theorem dX8_asMarked_28 : decode cX8_asMarked 28 = .ok (.iconst 1, 1) := by decide +kernel
theorem dX8_asMarked_29 : decode cX8_asMarked 29 = .ok (.iload_n 2, 1) := by decide +kernel
theorem dX8_asMarked_30 : decode cX8_asMarked 30 = .ok (.ishl, 1) := by decide +kernel
theorem dX8_asMarked_31 : decode cX8_asMarked 31 = .ok (.ior, 1) := by decide +kernel
theorem dX8_asMarked_32 : decode cX8_asMarked 32 = .ok (.istore_n 1, 1) := by decide +kernel
theorem dX8_asMarked_33 : decode cX8_asMarked 33 = .ok (.iinc 2 1, 3) := by decide +kernel
theorem dX8_asMarked_36 : decode cX8_asMarked 36 = .ok (.goto (-32), 3) := by decide +kernel
theorem dX8_asMarked_39 : decode cX8_asMarked 39 = .ok (.iload_n 1, 1) := by decide +kernel
theorem dX8_asMarked_40 : decode cX8_asMarked 40 = .ok (.ireturn, 1) := by decide +kernel
theorem dJ6_bitCount_0f7a4_0 : decode cJ6_bitCount_0f7a4 0 = .ok (.iload_n 0, 1) := by decide +kernel
theorem dJ6_bitCount_0f7a4_1 : decode cJ6_bitCount_0f7a4 1 = .ok (.iload_n 0, 1) := by decide +kernel
theorem dJ6_bitCount_0f7a4_2 : decode cJ6_bitCount_0f7a4 2 = .ok (.iconst 1, 1) := by decide +kernel
theorem dJ6_bitCount_0f7a4_3 : decode cJ6_bitCount_0f7a4 3 = .ok (.iushr, 1) := by decide +kernel
theorem dJ6_bitCount_0f7a4_4 : decode cJ6_bitCount_0f7a4 4 = .ok (.ldc_w 265, 3) := by decide +kernel
theorem dJ6_bitCount_0f7a4_7 : decode cJ6_bitCount_0f7a4 7 = .ok (.iand, 1) := by decide +kernel
theorem dJ6_bitCount_0f7a4_8 : decode cJ6_bitCount_0f7a4 8 = .ok (.isub, 1) := by decide +kernel
theorem dJ6_bitCount_0f7a4_9 : decode cJ6_bitCount_0f7a4 9 = .ok (.istore_n 0, 1) := by decide +kernel
theorem dJ6_bitCount_0f7a4_10 : decode cJ6_bitCount_0f7a4 10 = .ok (.iload_n 0, 1) := by decide +kernel
theorem dJ6_bitCount_0f7a4_11 : decode cJ6_bitCount_0f7a4 11 = .ok (.ldc_w 266, 3) := by decide +kernel
theorem dJ6_bitCount_0f7a4_14 : decode cJ6_bitCount_0f7a4 14 = .ok (.iand, 1) := by decide +kernel
theorem dJ6_bitCount_0f7a4_15 : decode cJ6_bitCount_0f7a4 15 = .ok (.iload_n 0, 1) := by decide +kernel
theorem dJ6_bitCount_0f7a4_16 : decode cJ6_bitCount_0f7a4 16 = .ok (.iconst 2, 1) := by decide +kernel
theorem dJ6_bitCount_0f7a4_17 : decode cJ6_bitCount_0f7a4 17 = .ok (.iushr, 1) := by decide +kernel
theorem dJ6_bitCount_0f7a4_18 : decode cJ6_bitCount_0f7a4 18 = .ok (.ldc_w 266, 3) := by decide +kernel
theorem dJ6_bitCount_0f7a4_21 : decode cJ6_bitCount_0f7a4 21 = .ok (.iand, 1) := by decide +kernel
theorem dJ6_bitCount_0f7a4_22 : decode cJ6_bitCount_0f7a4 22 = .ok (.iadd, 1) := by decide +kernel
theorem dJ6_bitCount_0f7a4_23 : decode cJ6_bitCount_0f7a4 23 = .ok (.istore_n 0, 1) := by decide +kernel
theorem dJ6_bitCount_0f7a4_24 : decode cJ6_bitCount_0f7a4 24 = .ok (.iload_n 0, 1) := by decide +kernel
theorem dJ6_bitCount_0f7a4_25 : decode cJ6_bitCount_0f7a4 25 = .ok (.iload_n 0, 1) := by decide +kernel
theorem dJ6_bitCount_0f7a4_26 : decode cJ6_bitCount_0f7a4 26 = .ok (.iconst 4, 1) := by decide +kernel
theorem dJ6_bitCount_0f7a4_27 : decode cJ6_bitCount_0f7a4 27 = .ok (.iushr, 1) := by decide +kernel
theorem dJ6_bitCount_0f7a4_28 : decode cJ6_bitCount_0f7a4 28 = .ok (.iadd, 1) := by decide +kernel
theorem dJ6_bitCount_0f7a4_29 : decode cJ6_bitCount_0f7a4 29 = .ok (.ldc_w 267, 3) := by decide +kernel
theorem dJ6_bitCount_0f7a4_32 : decode cJ6_bitCount_0f7a4 32 = .ok (.iand, 1) := by decide +kernel
theorem dJ6_bitCount_0f7a4_33 : decode cJ6_bitCount_0f7a4 33 = .ok (.istore_n 0, 1) := by decide +kernel
theorem dJ6_bitCount_0f7a4_34 : decode cJ6_bitCount_0f7a4 34 = .ok (.iload_n 0, 1) := by decide +kernel
theorem dJ6_bitCount_0f7a4_35 : decode cJ6_bitCount_0f7a4 35 = .ok (.iload_n 0, 1) := by decide +kernel
theorem dJ6_bitCount_0f7a4_36 : decode cJ6_bitCount_0f7a4 36 = .ok (.bipush 8, 2) := by decide +kernel
theorem dJ6_bitCount_0f7a4_38 : decode cJ6_bitCount_0f7a4 38 = .ok (.iushr, 1) := by decide +kernel
theorem dJ6_bitCount_0f7a4_39 : decode cJ6_bitCount_0f7a4 39 = .ok (.iadd, 1) := by decide +kernel
theorem dJ6_bitCount_0f7a4_40 : decode cJ6_bitCount_0f7a4 40 = .ok (.istore_n 0, 1) := by decide +kernel
theorem dJ6_bitCount_0f7a4_41 : decode cJ6_bitCount_0f7a4 41 = .ok (.iload_n 0, 1) := by decide +kernel
theorem dJ6_bitCount_0f7a4_42 : decode cJ6_bitCount_0f7a4 42 = .ok (.iload_n 0, 1) := by decide +kernel
theorem dJ6_bitCount_0f7a4_43 : decode cJ6_bitCount_0f7a4 43 = .ok (.bipush 16, 2) := by decide +kernel
theorem dJ6_bitCount_0f7a4_45 : decode cJ6_bitCount_0f7a4 45 = .ok (.iushr, 1) := by decide +kernel
theorem dJ6_bitCount_0f7a4_46 : decode cJ6_bitCount_0f7a4 46 = .ok (.iadd, 1) := by decide +kernel
theorem dJ6_bitCount_0f7a4_47 : decode cJ6_bitCount_0f7a4 47 = .ok (.istore_n 0, 1) := by decide +kernel
theorem dJ6_bitCount_0f7a4_48 : decode cJ6_bitCount_0f7a4 48 = .ok (.iload_n 0, 1) := by decide +kernel
theorem dJ6_bitCount_0f7a4_49 : decode cJ6_bitCount_0f7a4 49 = .ok (.bipush 63, 2) := by decide +kernel
theorem dJ6_bitCount_0f7a4_51 : decode cJ6_bitCount_0f7a4 51 = .ok (.iand, 1) := by decide +kernel
theorem dJ6_bitCount_0f7a4_52 : decode cJ6_bitCount_0f7a4 52 = .ok (.ireturn, 1) := by decide +kernel
theorem dJ9_max_7cf53_0 : decode cJ9_max_7cf53 0 = .ok (.iload_n 0, 1) := by decide +kernel
theorem dJ9_max_7cf53_1 : decode cJ9_max_7cf53 1 = .ok (.iload_n 1, 1) := by decide +kernel
theorem dJ9_max_7cf53_2 : decode cJ9_max_7cf53 2 = .ok (.if_icmp .lt 7, 3) := by decide +kernel
theorem dJ9_max_7cf53_5 : decode cJ9_max_7cf53 5 = .ok (.iload_n 0, 1) := by decide +kernel
theorem dJ9_max_7cf53_6 : decode cJ9_max_7cf53 6 = .ok (.goto 4, 3) := by decide +kernel
theorem dJ9_max_7cf53_9 : decode cJ9_max_7cf53 9 = .ok (.iload_n 1, 1) := by decide +kernel
theorem dJ9_max_7cf53_10 : decode cJ9_max_7cf53 10 = .ok (.ireturn, 1) := by decide +kernel
theorem dJ9_min_7cf53_0 : decode cJ9_min_7cf53 0 = .ok (.iload_n 0, 1) := by decide +kernel
theorem dJ9_min_7cf53_1 : decode cJ9_min_7cf53 1 = .ok (.iload_n 1, 1) := by decide +kernel
theorem dJ9_min_7cf53_2 : decode cJ9_min_7cf53 2 = .ok (.if_icmp .gt 7, 3) := by decide +kernel
theorem dJ9_min_7cf53_5 : decode cJ9_min_7cf53 5 = .ok (.iload_n 0, 1) := by decide +kernel
theorem dJ9_min_7cf53_6 : decode cJ9_min_7cf53 6 = .ok (.goto 4, 3) := by decide +kernel
theorem dJ9_min_7cf53_9 : decode cJ9_min_7cf53 9 = .ok (.iload_n 1, 1) := by decide +kernel
theorem dJ9_min_7cf53_10 : decode cJ9_min_7cf53 10 = .ok (.ireturn, 1) := by decide +kernel
theorem dJ0_length_8abf5_0 : decode cJ0_length_8abf5 0 = .ok (.aload_n 0, 1) := by decide +kernel
theorem dJ0_length_8abf5_1 : decode cJ0_length_8abf5 1 = .ok (.getfield 9, 3) := by decide +kernel
theorem dJ0_length_8abf5_4 : decode cJ0_length_8abf5 4 = .ok (.arraylength, 1) := by decide +kernel
theorem dJ0_length_8abf5_5 : decode cJ0_length_8abf5 5 = .ok (.aload_n 0, 1) := by decide +kernel
theorem dJ0_length_8abf5_6 : decode cJ0_length_8abf5 6 = .ok (.invokevirtual 335, 3) := by decide +kernel
theorem dJ0_length_8abf5_9 : decode cJ0_length_8abf5 9 = .ok (.ishr, 1) := by decide +kernel
theorem dJ0_length_8abf5_10 : decode cJ0_length_8abf5 10 = .ok (.ireturn, 1) := by decide +kernel
theorem dJ0_charAt_5068e_0 : decode cJ0_charAt_5068e 0 = .ok (.aload_n 0, 1) := by decide +kernel
theorem dJ0_charAt_5068e_1 : decode cJ0_charAt_5068e 1 = .ok (.invokevirtual 492, 3) := by decide +kernel
theorem dJ0_charAt_5068e_4 : decode cJ0_charAt_5068e 4 = .ok (.ifCond .eq 12, 3) := by decide +kernel
theorem dJ0_charAt_5068e_7 : decode cJ0_charAt_5068e 7 = .ok (.aload_n 0, 1) := by decide +kernel
theorem dJ0_charAt_5068e_8 : decode cJ0_charAt_5068e 8 = .ok (.getfield 9, 3) := by decide +kernel
theorem dJ0_charAt_5068e_11 : decode cJ0_charAt_5068e 11 = .ok (.iload_n 1, 1) := by decide +kernel
theorem dJ0_charAt_5068e_12 : decode cJ0_charAt_5068e 12 = .ok (.invokestatic 495, 3) := by decide +kernel
theorem dJ0_charAt_5068e_15 : decode cJ0_charAt_5068e 15 = .ok (.ireturn, 1) := by decide +kernel
theorem dJ0_charAt_5068e_16 : decode cJ0_charAt_5068e 16 = .ok (.aload_n 0, 1) := by decide +kernel
theorem dJ0_charAt_5068e_17 : decode cJ0_charAt_5068e 17 = .ok (.getfield 9, 3) := by decide +kernel
theorem dJ0_charAt_5068e_20 : decode cJ0_charAt_5068e 20 = .ok (.iload_n 1, 1) := by decide +kernel
theorem dJ0_charAt_5068e_21 : decode cJ0_charAt_5068e 21 = .ok (.invokestatic 498, 3) := by decide +kernel
theorem dJ0_charAt_5068e_24 : decode cJ0_charAt_5068e 24 = .ok (.ireturn, 1) := by decide +kernel
theorem dJ0_coder_7d493_0 : decode cJ0_coder_7d493 0 = .ok (.getstatic 38, 3) := by decide +kernel
theorem dJ0_coder_7d493_3 : decode cJ0_coder_7d493 3 = .ok (.ifCond .eq 10, 3) := by decide +kernel
theorem dJ0_coder_7d493_6 : decode cJ0_coder_7d493 6 = .ok (.aload_n 0, 1) := by decide +kernel
theorem dJ0_coder_7d493_7 : decode cJ0_coder_7d493 7 = .ok (.getfield 15, 3) := by decide +kernel
theorem dJ0_coder_7d493_10 : decode cJ0_coder_7d493 10 = .ok (.goto 4, 3) := by decide +kernel
theorem dJ0_coder_7d493_13 : decode cJ0_coder_7d493 13 = .ok (.iconst 1, 1) := by decide +kernel
theorem dJ0_coder_7d493_14 : decode cJ0_coder_7d493 14 = .ok (.ireturn, 1) := by decide +kernel
theorem dJ0_isLatin1_aae02_0 : decode cJ0_isLatin1_aae02 0 = .ok (.getstatic 38, 3) := by decide +kernel
theorem dJ0_isLatin1_aae02_3 : decode cJ0_isLatin1_aae02 3 = .ok (.ifCond .eq 14, 3) := by decide +kernel
theorem dJ0_isLatin1_aae02_6 : decode cJ0_isLatin1_aae02 6 = .ok (.aload_n 0, 1) := by decide +kernel
theorem dJ0_isLatin1_aae02_7 : decode cJ0_isLatin1_aae02 7 = .ok (.getfield 15, 3) := by decide +kernel
theorem dJ0_isLatin1_aae02_10 : decode cJ0_isLatin1_aae02 10 = .ok (.ifCond .ne 7, 3) := by decide +kernel
theorem dJ0_isLatin1_aae02_13 : decode cJ0_isLatin1_aae02 13 = .ok (.iconst 1, 1) := by decide +kernel
theorem dJ0_isLatin1_aae02_14 : decode cJ0_isLatin1_aae02 14 = .ok (.goto 4, 3) := by decide +kernel
theorem dJ0_isLatin1_aae02_17 : decode cJ0_isLatin1_aae02 17 = .ok (.iconst 0, 1) := by decide +kernel
theorem dJ0_isLatin1_aae02_18 : decode cJ0_isLatin1_aae02 18 = .ok (.ireturn, 1) := by decide +kernel
theorem dJ0_checkIndex_df160_0 : decode cJ0_checkIndex_df160 0 = .ok (.iload_n 0, 1) := by decide +kernel
theorem dJ0_checkIndex_df160_1 : decode cJ0_checkIndex_df160 1 = .ok (.iload_n 1, 1) := by decide +kernel
theorem dJ0_checkIndex_df160_2 : decode cJ0_checkIndex_df160 2 = .ok (.getstatic 1053, 3) := by decide +kernel
theorem dJ0_checkIndex_df160_5 : decode cJ0_checkIndex_df160 5 = .ok (.invokestatic 1059, 3) := by decide +kernel
theorem dJ0_checkIndex_df160_8 : decode cJ0_checkIndex_df160 8 = .ok (.pop, 1) := by decide +kernel
theorem dJ0_checkIndex_df160_9 : decode cJ0_checkIndex_df160 9 = .ok (.return_, 1) := by decide +kernel
theorem dJ1_charAt_3b067_0 : decode cJ1_charAt_3b067 0 = .ok (.iload_n 1, 1) := by decide +kernel
theorem dJ1_charAt_3b067_1 : decode cJ1_charAt_3b067 1 = .ok (.aload_n 0, 1) := by decide +kernel
theorem dJ1_charAt_3b067_2 : decode cJ1_charAt_3b067 2 = .ok (.arraylength, 1) := by decide +kernel
theorem dJ1_charAt_3b067_3 : decode cJ1_charAt_3b067 3 = .ok (.invokestatic 9, 3) := by decide +kernel
theorem dJ1_charAt_3b067_6 : decode cJ1_charAt_3b067 6 = .ok (.aload_n 0, 1) := by decide +kernel
theorem dJ1_charAt_3b067_7 : decode cJ1_charAt_3b067 7 = .ok (.iload_n 1, 1) := by decide +kernel
theorem dJ1_charAt_3b067_8 : decode cJ1_charAt_3b067 8 = .ok (.baload, 1) := by decide +kernel
theorem dJ1_charAt_3b067_9 : decode cJ1_charAt_3b067 9 = .ok (.sipush 255, 3) := by decide +kernel
theorem dJ1_charAt_3b067_12 : decode cJ1_charAt_3b067 12 = .ok (.iand, 1) := by decide +kernel
theorem dJ1_charAt_3b067_13 : decode cJ1_charAt_3b067 13 = .ok (.i2c, 1) := by decide +kernel
theorem dJ1_charAt_3b067_14 : decode cJ1_charAt_3b067 14 = .ok (.ireturn, 1) := by decide +kernel
theorem dJ2_getChar_3b067_0 : decode cJ2_getChar_3b067 0 = .ok (.getstatic 44, 3) := by decide +kernel
theorem dJ2_getChar_3b067_3 : decode cJ2_getChar_3b067 3 = .ok (.ifCond .ne 25, 3) := by decide +kernel
theorem dJ2_getChar_3b067_6 : decode cJ2_getChar_3b067 6 = .ok (.iload_n 1, 1) := by decide +kernel
theorem dJ2_getChar_3b067_7 : decode cJ2_getChar_3b067 7 = .ok (.ifCond .lt 11, 3) := by decide +kernel
theorem dJ2_getChar_3b067_10 : decode cJ2_getChar_3b067 10 = .ok (.iload_n 1, 1) := by decide +kernel
theorem dJ2_getChar_3b067_11 : decode cJ2_getChar_3b067 11 = .ok (.aload_n 0, 1) := by decide +kernel
theorem dJ2_getChar_3b067_12 : decode cJ2_getChar_3b067 12 = .ok (.invokestatic 48, 3) := by decide +kernel
theorem dJ2_getChar_3b067_15 : decode cJ2_getChar_3b067 15 = .ok (.if_icmp .lt 13, 3) := by decide +kernel
theorem dJ2_getChar_3b067_18 : decode cJ2_getChar_3b067 18 = .ok (.new 52, 3) := by decide +kernel
theorem dJ2_getChar_3b067_21 : decode cJ2_getChar_3b067 21 = .ok (.dup, 1) := by decide +kernel
theorem dJ2_getChar_3b067_22 : decode cJ2_getChar_3b067 22 = .ok (.ldc 54, 2) := by decide +kernel
theorem dJ2_getChar_3b067_24 : decode cJ2_getChar_3b067 24 = .ok (.invokespecial 56, 3) := by decide +kernel
theorem dJ2_getChar_3b067_27 : decode cJ2_getChar_3b067 27 = .ok (.athrow, 1) := by decide +kernel
theorem dJ2_getChar_3b067_28 : decode cJ2_getChar_3b067 28 = .ok (.iload_n 1, 1) := by decide +kernel
theorem dJ2_getChar_3b067_29 : decode cJ2_getChar_3b067 29 = .ok (.iconst 1, 1) := by decide +kernel
theorem dJ2_getChar_3b067_30 : decode cJ2_getChar_3b067 30 = .ok (.ishl, 1) := by decide +kernel
theorem dJ2_getChar_3b067_31 : decode cJ2_getChar_3b067 31 = .ok (.istore_n 1, 1) := by decide +kernel
theorem dJ2_getChar_3b067_32 : decode cJ2_getChar_3b067 32 = .ok (.aload_n 0, 1) := by decide +kernel
theorem dJ2_getChar_3b067_33 : decode cJ2_getChar_3b067 33 = .ok (.iload_n 1, 1) := by decide +kernel
theorem dJ2_getChar_3b067_34 : decode cJ2_getChar_3b067 34 = .ok (.iinc 1 1, 3) := by decide +kernel
theorem dJ2_getChar_3b067_37 : decode cJ2_getChar_3b067 37 = .ok (.baload, 1) := by decide +kernel
theorem dJ2_getChar_3b067_38 : decode cJ2_getChar_3b067 38 = .ok (.sipush 255, 3) := by decide +kernel
theorem dJ2_getChar_3b067_41 : decode cJ2_getChar_3b067 41 = .ok (.iand, 1) := by decide +kernel
theorem dJ2_getChar_3b067_42 : decode cJ2_getChar_3b067 42 = .ok (.getstatic 59, 3) := by decide +kernel
theorem dJ2_getChar_3b067_45 : decode cJ2_getChar_3b067 45 = .ok (.ishl, 1) := by decide +kernel
theorem dJ2_getChar_3b067_46 : decode cJ2_getChar_3b067 46 = .ok (.aload_n 0, 1) := by decide +kernel
theorem dJ2_getChar_3b067_47 : decode cJ2_getChar_3b067 47 = .ok (.iload_n 1, 1) := by decide +kernel
theorem dJ2_getChar_3b067_48 : decode cJ2_getChar_3b067 48 = .ok (.baload, 1) := by decide +kernel
theorem dJ2_getChar_3b067_49 : decode cJ2_getChar_3b067 49 = .ok (.sipush 255, 3) := by decide +kernel
theorem dJ2_getChar_3b067_52 : decode cJ2_getChar_3b067 52 = .ok (.iand, 1) := by decide +kernel
theorem dJ2_getChar_3b067_53 : decode cJ2_getChar_3b067 53 = .ok (.getstatic 63, 3) := by decide +kernel
theorem dJ2_getChar_3b067_56 : decode cJ2_getChar_3b067 56 = .ok (.ishl, 1) := by decide +kernel
theorem dJ2_getChar_3b067_57 : decode cJ2_getChar_3b067 57 = .ok (.ior, 1) := by decide +kernel
theorem dJ2_getChar_3b067_58 : decode cJ2_getChar_3b067 58 = .ok (.i2c, 1) := by decide +kernel
theorem dJ2_getChar_3b067_59 : decode cJ2_getChar_3b067 59 = .ok (.ireturn, 1) := by decide +kernel
theorem dJ2_length_9d52b_0 : decode cJ2_length_9d52b 0 = .ok (.aload_n 0, 1) := by decide +kernel
theorem dJ2_length_9d52b_1 : decode cJ2_length_9d52b 1 = .ok (.arraylength, 1) := by decide +kernel
theorem dJ2_length_9d52b_2 : decode cJ2_length_9d52b 2 = .ok (.iconst 1, 1) := by decide +kernel
theorem dJ2_length_9d52b_3 : decode cJ2_length_9d52b 3 = .ok (.ishr, 1) := by decide +kernel
theorem dJ2_length_9d52b_4 : decode cJ2_length_9d52b 4 = .ok (.ireturn, 1) := by decide +kernel
theorem dJ2_charAt_3b067_0 : decode cJ2_charAt_3b067 0 = .ok (.iload_n 1, 1) := by decide +kernel
theorem dJ2_charAt_3b067_1 : decode cJ2_charAt_3b067 1 = .ok (.aload_n 0, 1) := by decide +kernel
theorem dJ2_charAt_3b067_2 : decode cJ2_charAt_3b067 2 = .ok (.invokestatic 67, 3) := by decide +kernel
theorem dJ2_charAt_3b067_5 : decode cJ2_charAt_3b067 5 = .ok (.aload_n 0, 1) := by decide +kernel
theorem dJ2_charAt_3b067_6 : decode cJ2_charAt_3b067 6 = .ok (.iload_n 1, 1) := by decide +kernel
theorem dJ2_charAt_3b067_7 : decode cJ2_charAt_3b067 7 = .ok (.invokestatic 71, 3) := by decide +kernel
theorem dJ2_charAt_3b067_10 : decode cJ2_charAt_3b067 10 = .ok (.ireturn, 1) := by decide +kernel
theorem dJ2_checkIndex_2214a_0 : decode cJ2_checkIndex_2214a 0 = .ok (.iload_n 0, 1) := by decide +kernel
theorem dJ2_checkIndex_2214a_1 : decode cJ2_checkIndex_2214a 1 = .ok (.aload_n 1, 1) := by decide +kernel
theorem dJ2_checkIndex_2214a_2 : decode cJ2_checkIndex_2214a 2 = .ok (.invokestatic 48, 3) := by decide +kernel
theorem dJ2_checkIndex_2214a_5 : decode cJ2_checkIndex_2214a 5 = .ok (.invokestatic 414, 3) := by decide +kernel
theorem dJ2_checkIndex_2214a_8 : decode cJ2_checkIndex_2214a 8 = .ok (.return_, 1) := by decide +kernel
theorem dJ3_checkIndex_8e157_0 : decode cJ3_checkIndex_8e157 0 = .ok (.iload_n 0, 1) := by decide +kernel
theorem dJ3_checkIndex_8e157_1 : decode cJ3_checkIndex_8e157 1 = .ok (.ifCond .lt 8, 3) := by decide +kernel
theorem dJ3_checkIndex_8e157_4 : decode cJ3_checkIndex_8e157 4 = .ok (.iload_n 0, 1) := by decide +kernel
theorem dJ3_checkIndex_8e157_5 : decode cJ3_checkIndex_8e157 5 = .ok (.iload_n 1, 1) := by decide +kernel
theorem dJ3_checkIndex_8e157_6 : decode cJ3_checkIndex_8e157 6 = .ok (.if_icmp .lt 10, 3) := by decide +kernel
theorem dJ3_checkIndex_8e157_9 : decode cJ3_checkIndex_8e157 9 = .ok (.aload_n 2, 1) := by decide +kernel
theorem dJ3_checkIndex_8e157_10 : decode cJ3_checkIndex_8e157 10 = .ok (.iload_n 0, 1) := by decide +kernel
theorem dJ3_checkIndex_8e157_11 : decode cJ3_checkIndex_8e157 11 = .ok (.iload_n 1, 1) := by decide +kernel
theorem dJ3_checkIndex_8e157_12 : decode cJ3_checkIndex_8e157 12 = .ok (.invokestatic 95, 3) := by decide +kernel
theorem dJ3_checkIndex_8e157_15 : decode cJ3_checkIndex_8e157 15 = .ok (.athrow, 1) := by decide +kernel
theorem dJ3_checkIndex_8e157_16 : decode cJ3_checkIndex_8e157 16 = .ok (.iload_n 0, 1) := by decide +kernel
theorem dJ3_checkIndex_8e157_17 : decode cJ3_checkIndex_8e157 17 = .ok (.ireturn, 1) := by decide +kernel
theorem dL_law_0 : decode cL_law 0 = .ok (.new 7, 3) := by decide +kernel
theorem dL_law_3 : decode cL_law 3 = .ok (.dup, 1) := by decide +kernel
theorem dL_law_4 : decode cL_law 4 = .ok (.invokespecial 9, 3) := by decide +kernel
theorem dL_law_7 : decode cL_law 7 = .ok (.astore_n 1, 1) := by decide +kernel
theorem dL_law_8 : decode cL_law 8 = .ok (.new 10, 3) := by decide +kernel
theorem dL_law_11 : decode cL_law 11 = .ok (.dup, 1) := by decide +kernel
theorem dL_law_12 : decode cL_law 12 = .ok (.invokespecial 12, 3) := by decide +kernel
theorem dL_law_15 : decode cL_law 15 = .ok (.astore_n 2, 1) := by decide +kernel
theorem dL_law_16 : decode cL_law 16 = .ok (.iconst 0, 1) := by decide +kernel
theorem dL_law_17 : decode cL_law 17 = .ok (.istore_n 3, 1) := by decide +kernel
theorem dL_law_18 : decode cL_law 18 = .ok (.iload_n 3, 1) := by decide +kernel
theorem dL_law_19 : decode cL_law 19 = .ok (.aload_n 0, 1) := by decide +kernel
theorem dL_law_20 : decode cL_law 20 = .ok (.arraylength, 1) := by decide +kernel
theorem dL_law_21 : decode cL_law 21 = .ok (.bipush 6, 2) := by decide +kernel
theorem dL_law_23 : decode cL_law 23 = .ok (.isub, 1) := by decide +kernel
theorem dL_law_24 : decode cL_law 24 = .ok (.if_icmp .gt 970, 3) := by decide +kernel
theorem dL_law_27 : decode cL_law 27 = .ok (.aload_n 0, 1) := by decide +kernel
theorem dL_law_28 : decode cL_law 28 = .ok (.iload_n 3, 1) := by decide +kernel
theorem dL_law_29 : decode cL_law 29 = .ok (.iaload, 1) := by decide +kernel
theorem dL_law_30 : decode cL_law 30 = .ok (.bipush 31, 2) := by decide +kernel
theorem dL_law_32 : decode cL_law 32 = .ok (.iand, 1) := by decide +kernel
theorem dL_law_33 : decode cL_law 33 = .ok (.tableswitch 955 0 26 #[123, 166, 209, 242, 275, 298, 311, 334, 347, 380, 403, 426, 459, 492, 515, 538, 571, 594, 627, 671, 684, 697, 720, 763, 806, 869, 922], 123) := by decide +kernel
theorem dL_law_156 : decode cL_law 156 = .ok (.aload_n 1, 1) := by decide +kernel
theorem dL_law_157 : decode cL_law 157 = .ok (.aload_n 0, 1) := by decide +kernel
theorem dL_law_158 : decode cL_law 158 = .ok (.iload_n 3, 1) := by decide +kernel
theorem dL_law_159 : decode cL_law 159 = .ok (.iconst 1, 1) := by decide +kernel
theorem dL_law_160 : decode cL_law 160 = .ok (.iadd, 1) := by decide +kernel
theorem dL_law_161 : decode cL_law 161 = .ok (.iaload, 1) := by decide +kernel
theorem dL_law_162 : decode cL_law 162 = .ok (.aload_n 0, 1) := by decide +kernel
theorem dL_law_163 : decode cL_law 163 = .ok (.iload_n 3, 1) := by decide +kernel
theorem dL_law_164 : decode cL_law 164 = .ok (.iconst 2, 1) := by decide +kernel
theorem dL_law_165 : decode cL_law 165 = .ok (.iadd, 1) := by decide +kernel
theorem dL_law_166 : decode cL_law 166 = .ok (.iaload, 1) := by decide +kernel
theorem dL_law_167 : decode cL_law 167 = .ok (.aload_n 0, 1) := by decide +kernel
theorem dL_law_168 : decode cL_law 168 = .ok (.iload_n 3, 1) := by decide +kernel
theorem dL_law_169 : decode cL_law 169 = .ok (.iconst 3, 1) := by decide +kernel
theorem dL_law_170 : decode cL_law 170 = .ok (.iadd, 1) := by decide +kernel
theorem dL_law_171 : decode cL_law 171 = .ok (.iaload, 1) := by decide +kernel
theorem dL_law_172 : decode cL_law 172 = .ok (.invokevirtual 13, 3) := by decide +kernel
theorem dL_law_175 : decode cL_law 175 = .ok (.aload_n 2, 1) := by decide +kernel
theorem dL_law_176 : decode cL_law 176 = .ok (.aload_n 0, 1) := by decide +kernel
theorem dL_law_177 : decode cL_law 177 = .ok (.iload_n 3, 1) := by decide +kernel
theorem dL_law_178 : decode cL_law 178 = .ok (.iconst 1, 1) := by decide +kernel
theorem dL_law_179 : decode cL_law 179 = .ok (.iadd, 1) := by decide +kernel
theorem dL_law_180 : decode cL_law 180 = .ok (.iaload, 1) := by decide +kernel
theorem dL_law_181 : decode cL_law 181 = .ok (.aload_n 0, 1) := by decide +kernel
theorem dL_law_182 : decode cL_law 182 = .ok (.iload_n 3, 1) := by decide +kernel
theorem dL_law_183 : decode cL_law 183 = .ok (.iconst 2, 1) := by decide +kernel
theorem dL_law_184 : decode cL_law 184 = .ok (.iadd, 1) := by decide +kernel
theorem dL_law_185 : decode cL_law 185 = .ok (.iaload, 1) := by decide +kernel
theorem dL_law_186 : decode cL_law 186 = .ok (.aload_n 0, 1) := by decide +kernel
theorem dL_law_187 : decode cL_law 187 = .ok (.iload_n 3, 1) := by decide +kernel
theorem dL_law_188 : decode cL_law 188 = .ok (.iconst 3, 1) := by decide +kernel
theorem dL_law_189 : decode cL_law 189 = .ok (.iadd, 1) := by decide +kernel
theorem dL_law_190 : decode cL_law 190 = .ok (.iaload, 1) := by decide +kernel
theorem dL_law_191 : decode cL_law 191 = .ok (.invokevirtual 17, 3) := by decide +kernel
theorem dL_law_194 : decode cL_law 194 = .ok (.if_icmp .eq 794, 3) := by decide +kernel
theorem dL_law_197 : decode cL_law 197 = .ok (.iconst 0, 1) := by decide +kernel
theorem dL_law_198 : decode cL_law 198 = .ok (.ireturn, 1) := by decide +kernel
theorem dL_law_199 : decode cL_law 199 = .ok (.aload_n 1, 1) := by decide +kernel
theorem dL_law_200 : decode cL_law 200 = .ok (.aload_n 0, 1) := by decide +kernel
theorem dL_law_201 : decode cL_law 201 = .ok (.iload_n 3, 1) := by decide +kernel
theorem dL_law_202 : decode cL_law 202 = .ok (.iconst 1, 1) := by decide +kernel
theorem dL_law_203 : decode cL_law 203 = .ok (.iadd, 1) := by decide +kernel
theorem dL_law_204 : decode cL_law 204 = .ok (.iaload, 1) := by decide +kernel
theorem dL_law_205 : decode cL_law 205 = .ok (.aload_n 0, 1) := by decide +kernel
theorem dL_law_206 : decode cL_law 206 = .ok (.iload_n 3, 1) := by decide +kernel
theorem dL_law_207 : decode cL_law 207 = .ok (.iconst 2, 1) := by decide +kernel
theorem dL_law_208 : decode cL_law 208 = .ok (.iadd, 1) := by decide +kernel
theorem dL_law_209 : decode cL_law 209 = .ok (.iaload, 1) := by decide +kernel
theorem dL_law_210 : decode cL_law 210 = .ok (.aload_n 0, 1) := by decide +kernel
theorem dL_law_211 : decode cL_law 211 = .ok (.iload_n 3, 1) := by decide +kernel
theorem dL_law_212 : decode cL_law 212 = .ok (.iconst 3, 1) := by decide +kernel
theorem dL_law_213 : decode cL_law 213 = .ok (.iadd, 1) := by decide +kernel
theorem dL_law_214 : decode cL_law 214 = .ok (.iaload, 1) := by decide +kernel
theorem dL_law_215 : decode cL_law 215 = .ok (.invokevirtual 18, 3) := by decide +kernel
theorem dL_law_218 : decode cL_law 218 = .ok (.aload_n 2, 1) := by decide +kernel
theorem dL_law_219 : decode cL_law 219 = .ok (.aload_n 0, 1) := by decide +kernel
theorem dL_law_220 : decode cL_law 220 = .ok (.iload_n 3, 1) := by decide +kernel
theorem dL_law_221 : decode cL_law 221 = .ok (.iconst 1, 1) := by decide +kernel
theorem dL_law_222 : decode cL_law 222 = .ok (.iadd, 1) := by decide +kernel
theorem dL_law_223 : decode cL_law 223 = .ok (.iaload, 1) := by decide +kernel
theorem dL_law_224 : decode cL_law 224 = .ok (.aload_n 0, 1) := by decide +kernel
theorem dL_law_225 : decode cL_law 225 = .ok (.iload_n 3, 1) := by decide +kernel
theorem dL_law_226 : decode cL_law 226 = .ok (.iconst 2, 1) := by decide +kernel
theorem dL_law_227 : decode cL_law 227 = .ok (.iadd, 1) := by decide +kernel
theorem dL_law_228 : decode cL_law 228 = .ok (.iaload, 1) := by decide +kernel
theorem dL_law_229 : decode cL_law 229 = .ok (.aload_n 0, 1) := by decide +kernel
theorem dL_law_230 : decode cL_law 230 = .ok (.iload_n 3, 1) := by decide +kernel
theorem dL_law_231 : decode cL_law 231 = .ok (.iconst 3, 1) := by decide +kernel
theorem dL_law_232 : decode cL_law 232 = .ok (.iadd, 1) := by decide +kernel
theorem dL_law_233 : decode cL_law 233 = .ok (.iaload, 1) := by decide +kernel
theorem dL_law_234 : decode cL_law 234 = .ok (.invokevirtual 21, 3) := by decide +kernel
theorem dL_law_237 : decode cL_law 237 = .ok (.if_icmp .eq 751, 3) := by decide +kernel
theorem dL_law_240 : decode cL_law 240 = .ok (.iconst 0, 1) := by decide +kernel
theorem dL_law_241 : decode cL_law 241 = .ok (.ireturn, 1) := by decide +kernel
theorem dL_law_242 : decode cL_law 242 = .ok (.aload_n 1, 1) := by decide +kernel
theorem dL_law_243 : decode cL_law 243 = .ok (.aload_n 0, 1) := by decide +kernel
theorem dL_law_244 : decode cL_law 244 = .ok (.iload_n 3, 1) := by decide +kernel
theorem dL_law_245 : decode cL_law 245 = .ok (.iconst 1, 1) := by decide +kernel
theorem dL_law_246 : decode cL_law 246 = .ok (.iadd, 1) := by decide +kernel
theorem dL_law_247 : decode cL_law 247 = .ok (.iaload, 1) := by decide +kernel
theorem dL_law_248 : decode cL_law 248 = .ok (.aload_n 0, 1) := by decide +kernel
theorem dL_law_249 : decode cL_law 249 = .ok (.iload_n 3, 1) := by decide +kernel
theorem dL_law_250 : decode cL_law 250 = .ok (.iconst 2, 1) := by decide +kernel
theorem dL_law_251 : decode cL_law 251 = .ok (.iadd, 1) := by decide +kernel
theorem dL_law_252 : decode cL_law 252 = .ok (.iaload, 1) := by decide +kernel
theorem dL_law_253 : decode cL_law 253 = .ok (.invokevirtual 22, 3) := by decide +kernel
theorem dL_law_256 : decode cL_law 256 = .ok (.aload_n 2, 1) := by decide +kernel
theorem dL_law_257 : decode cL_law 257 = .ok (.aload_n 0, 1) := by decide +kernel
theorem dL_law_258 : decode cL_law 258 = .ok (.iload_n 3, 1) := by decide +kernel
theorem dL_law_259 : decode cL_law 259 = .ok (.iconst 1, 1) := by decide +kernel
theorem dL_law_260 : decode cL_law 260 = .ok (.iadd, 1) := by decide +kernel
theorem dL_law_261 : decode cL_law 261 = .ok (.iaload, 1) := by decide +kernel
theorem dL_law_262 : decode cL_law 262 = .ok (.aload_n 0, 1) := by decide +kernel
theorem dL_law_263 : decode cL_law 263 = .ok (.iload_n 3, 1) := by decide +kernel
theorem dL_law_264 : decode cL_law 264 = .ok (.iconst 2, 1) := by decide +kernel
theorem dL_law_265 : decode cL_law 265 = .ok (.iadd, 1) := by decide +kernel
theorem dL_law_266 : decode cL_law 266 = .ok (.iaload, 1) := by decide +kernel
theorem dL_law_267 : decode cL_law 267 = .ok (.invokevirtual 26, 3) := by decide +kernel
theorem dL_law_270 : decode cL_law 270 = .ok (.if_icmp .eq 718, 3) := by decide +kernel
theorem dL_law_273 : decode cL_law 273 = .ok (.iconst 0, 1) := by decide +kernel
theorem dL_law_274 : decode cL_law 274 = .ok (.ireturn, 1) := by decide +kernel
theorem dL_law_275 : decode cL_law 275 = .ok (.aload_n 1, 1) := by decide +kernel
theorem dL_law_276 : decode cL_law 276 = .ok (.aload_n 0, 1) := by decide +kernel
theorem dL_law_277 : decode cL_law 277 = .ok (.iload_n 3, 1) := by decide +kernel
theorem dL_law_278 : decode cL_law 278 = .ok (.iconst 1, 1) := by decide +kernel
theorem dL_law_279 : decode cL_law 279 = .ok (.iadd, 1) := by decide +kernel
theorem dL_law_280 : decode cL_law 280 = .ok (.iaload, 1) := by decide +kernel
theorem dL_law_281 : decode cL_law 281 = .ok (.aload_n 0, 1) := by decide +kernel
theorem dL_law_282 : decode cL_law 282 = .ok (.iload_n 3, 1) := by decide +kernel
theorem dL_law_283 : decode cL_law 283 = .ok (.iconst 2, 1) := by decide +kernel
theorem dL_law_284 : decode cL_law 284 = .ok (.iadd, 1) := by decide +kernel
theorem dL_law_285 : decode cL_law 285 = .ok (.iaload, 1) := by decide +kernel
theorem dL_law_286 : decode cL_law 286 = .ok (.invokevirtual 27, 3) := by decide +kernel
theorem dL_law_289 : decode cL_law 289 = .ok (.aload_n 2, 1) := by decide +kernel
theorem dL_law_290 : decode cL_law 290 = .ok (.aload_n 0, 1) := by decide +kernel
theorem dL_law_291 : decode cL_law 291 = .ok (.iload_n 3, 1) := by decide +kernel
theorem dL_law_292 : decode cL_law 292 = .ok (.iconst 1, 1) := by decide +kernel
theorem dL_law_293 : decode cL_law 293 = .ok (.iadd, 1) := by decide +kernel
theorem dL_law_294 : decode cL_law 294 = .ok (.iaload, 1) := by decide +kernel
theorem dL_law_295 : decode cL_law 295 = .ok (.aload_n 0, 1) := by decide +kernel
theorem dL_law_296 : decode cL_law 296 = .ok (.iload_n 3, 1) := by decide +kernel
theorem dL_law_297 : decode cL_law 297 = .ok (.iconst 2, 1) := by decide +kernel
theorem dL_law_298 : decode cL_law 298 = .ok (.iadd, 1) := by decide +kernel
theorem dL_law_299 : decode cL_law 299 = .ok (.iaload, 1) := by decide +kernel
theorem dL_law_300 : decode cL_law 300 = .ok (.invokevirtual 30, 3) := by decide +kernel
theorem dL_law_303 : decode cL_law 303 = .ok (.if_icmp .eq 685, 3) := by decide +kernel
theorem dL_law_306 : decode cL_law 306 = .ok (.iconst 0, 1) := by decide +kernel
theorem dL_law_307 : decode cL_law 307 = .ok (.ireturn, 1) := by decide +kernel
theorem dL_law_308 : decode cL_law 308 = .ok (.aload_n 1, 1) := by decide +kernel
theorem dL_law_309 : decode cL_law 309 = .ok (.aload_n 0, 1) := by decide +kernel
theorem dL_law_310 : decode cL_law 310 = .ok (.iload_n 3, 1) := by decide +kernel
theorem dL_law_311 : decode cL_law 311 = .ok (.iconst 1, 1) := by decide +kernel
theorem dL_law_312 : decode cL_law 312 = .ok (.iadd, 1) := by decide +kernel
theorem dL_law_313 : decode cL_law 313 = .ok (.iaload, 1) := by decide +kernel
theorem dL_law_314 : decode cL_law 314 = .ok (.invokevirtual 31, 3) := by decide +kernel
theorem dL_law_317 : decode cL_law 317 = .ok (.aload_n 2, 1) := by decide +kernel
theorem dL_law_318 : decode cL_law 318 = .ok (.aload_n 0, 1) := by decide +kernel
theorem dL_law_319 : decode cL_law 319 = .ok (.iload_n 3, 1) := by decide +kernel
theorem dL_law_320 : decode cL_law 320 = .ok (.iconst 1, 1) := by decide +kernel
theorem dL_law_321 : decode cL_law 321 = .ok (.iadd, 1) := by decide +kernel
theorem dL_law_322 : decode cL_law 322 = .ok (.iaload, 1) := by decide +kernel
theorem dL_law_323 : decode cL_law 323 = .ok (.invokevirtual 35, 3) := by decide +kernel
theorem dL_law_326 : decode cL_law 326 = .ok (.if_icmp .eq 662, 3) := by decide +kernel
theorem dL_law_329 : decode cL_law 329 = .ok (.iconst 0, 1) := by decide +kernel
theorem dL_law_330 : decode cL_law 330 = .ok (.ireturn, 1) := by decide +kernel
theorem dL_law_331 : decode cL_law 331 = .ok (.aload_n 1, 1) := by decide +kernel
theorem dL_law_332 : decode cL_law 332 = .ok (.invokevirtual 36, 3) := by decide +kernel
theorem dL_law_335 : decode cL_law 335 = .ok (.aload_n 2, 1) := by decide +kernel
theorem dL_law_336 : decode cL_law 336 = .ok (.invokevirtual 40, 3) := by decide +kernel
theorem dL_law_339 : decode cL_law 339 = .ok (.if_icmp .eq 649, 3) := by decide +kernel
theorem dL_law_342 : decode cL_law 342 = .ok (.iconst 0, 1) := by decide +kernel
theorem dL_law_343 : decode cL_law 343 = .ok (.ireturn, 1) := by decide +kernel
theorem dL_law_344 : decode cL_law 344 = .ok (.aload_n 1, 1) := by decide +kernel
theorem dL_law_345 : decode cL_law 345 = .ok (.aload_n 0, 1) := by decide +kernel
theorem dL_law_346 : decode cL_law 346 = .ok (.iload_n 3, 1) := by decide +kernel
theorem dL_law_347 : decode cL_law 347 = .ok (.iconst 1, 1) := by decide +kernel
theorem dL_law_348 : decode cL_law 348 = .ok (.iadd, 1) := by decide +kernel
theorem dL_law_349 : decode cL_law 349 = .ok (.iaload, 1) := by decide +kernel
theorem dL_law_350 : decode cL_law 350 = .ok (.invokevirtual 41, 3) := by decide +kernel
theorem dL_law_353 : decode cL_law 353 = .ok (.aload_n 2, 1) := by decide +kernel
theorem dL_law_354 : decode cL_law 354 = .ok (.aload_n 0, 1) := by decide +kernel
theorem dL_law_355 : decode cL_law 355 = .ok (.iload_n 3, 1) := by decide +kernel
theorem dL_law_356 : decode cL_law 356 = .ok (.iconst 1, 1) := by decide +kernel
theorem dL_law_357 : decode cL_law 357 = .ok (.iadd, 1) := by decide +kernel
theorem dL_law_358 : decode cL_law 358 = .ok (.iaload, 1) := by decide +kernel
theorem dL_law_359 : decode cL_law 359 = .ok (.invokevirtual 44, 3) := by decide +kernel
theorem dL_law_362 : decode cL_law 362 = .ok (.if_icmp .eq 626, 3) := by decide +kernel
theorem dL_law_365 : decode cL_law 365 = .ok (.iconst 0, 1) := by decide +kernel
theorem dL_law_366 : decode cL_law 366 = .ok (.ireturn, 1) := by decide +kernel
theorem dL_law_367 : decode cL_law 367 = .ok (.aload_n 1, 1) := by decide +kernel
theorem dL_law_368 : decode cL_law 368 = .ok (.invokevirtual 45, 3) := by decide +kernel
theorem dL_law_371 : decode cL_law 371 = .ok (.aload_n 2, 1) := by decide +kernel
theorem dL_law_372 : decode cL_law 372 = .ok (.invokevirtual 48, 3) := by decide +kernel
theorem dL_law_375 : decode cL_law 375 = .ok (.if_icmp .eq 613, 3) := by decide +kernel
theorem dL_law_378 : decode cL_law 378 = .ok (.iconst 0, 1) := by decide +kernel
theorem dL_law_379 : decode cL_law 379 = .ok (.ireturn, 1) := by decide +kernel
theorem dL_law_380 : decode cL_law 380 = .ok (.aload_n 1, 1) := by decide +kernel
theorem dL_law_381 : decode cL_law 381 = .ok (.aload_n 0, 1) := by decide +kernel
theorem dL_law_382 : decode cL_law 382 = .ok (.iload_n 3, 1) := by decide +kernel
theorem dL_law_383 : decode cL_law 383 = .ok (.iconst 1, 1) := by decide +kernel
theorem dL_law_384 : decode cL_law 384 = .ok (.iadd, 1) := by decide +kernel
theorem dL_law_385 : decode cL_law 385 = .ok (.iaload, 1) := by decide +kernel
theorem dL_law_386 : decode cL_law 386 = .ok (.aload_n 0, 1) := by decide +kernel
theorem dL_law_387 : decode cL_law 387 = .ok (.iload_n 3, 1) := by decide +kernel
theorem dL_law_388 : decode cL_law 388 = .ok (.iconst 2, 1) := by decide +kernel
theorem dL_law_389 : decode cL_law 389 = .ok (.iadd, 1) := by decide +kernel
theorem dL_law_390 : decode cL_law 390 = .ok (.iaload, 1) := by decide +kernel
theorem dL_law_391 : decode cL_law 391 = .ok (.invokevirtual 49, 3) := by decide +kernel
theorem dL_law_394 : decode cL_law 394 = .ok (.aload_n 2, 1) := by decide +kernel
theorem dL_law_395 : decode cL_law 395 = .ok (.aload_n 0, 1) := by decide +kernel
theorem dL_law_396 : decode cL_law 396 = .ok (.iload_n 3, 1) := by decide +kernel
theorem dL_law_397 : decode cL_law 397 = .ok (.iconst 1, 1) := by decide +kernel
theorem dL_law_398 : decode cL_law 398 = .ok (.iadd, 1) := by decide +kernel
theorem dL_law_399 : decode cL_law 399 = .ok (.iaload, 1) := by decide +kernel
theorem dL_law_400 : decode cL_law 400 = .ok (.aload_n 0, 1) := by decide +kernel
theorem dL_law_401 : decode cL_law 401 = .ok (.iload_n 3, 1) := by decide +kernel
theorem dL_law_402 : decode cL_law 402 = .ok (.iconst 2, 1) := by decide +kernel
theorem dL_law_403 : decode cL_law 403 = .ok (.iadd, 1) := by decide +kernel
theorem dL_law_404 : decode cL_law 404 = .ok (.iaload, 1) := by decide +kernel
theorem dL_law_405 : decode cL_law 405 = .ok (.invokevirtual 52, 3) := by decide +kernel
theorem dL_law_408 : decode cL_law 408 = .ok (.if_icmp .eq 580, 3) := by decide +kernel
theorem dL_law_411 : decode cL_law 411 = .ok (.iconst 0, 1) := by decide +kernel
theorem dL_law_412 : decode cL_law 412 = .ok (.ireturn, 1) := by decide +kernel
theorem dL_law_413 : decode cL_law 413 = .ok (.aload_n 1, 1) := by decide +kernel
theorem dL_law_414 : decode cL_law 414 = .ok (.aload_n 0, 1) := by decide +kernel
theorem dL_law_415 : decode cL_law 415 = .ok (.iload_n 3, 1) := by decide +kernel
theorem dL_law_416 : decode cL_law 416 = .ok (.iconst 1, 1) := by decide +kernel
theorem dL_law_417 : decode cL_law 417 = .ok (.iadd, 1) := by decide +kernel
theorem dL_law_418 : decode cL_law 418 = .ok (.iaload, 1) := by decide +kernel
theorem dL_law_419 : decode cL_law 419 = .ok (.invokevirtual 53, 3) := by decide +kernel
theorem dL_law_422 : decode cL_law 422 = .ok (.aload_n 2, 1) := by decide +kernel
theorem dL_law_423 : decode cL_law 423 = .ok (.aload_n 0, 1) := by decide +kernel
theorem dL_law_424 : decode cL_law 424 = .ok (.iload_n 3, 1) := by decide +kernel
theorem dL_law_425 : decode cL_law 425 = .ok (.iconst 1, 1) := by decide +kernel
theorem dL_law_426 : decode cL_law 426 = .ok (.iadd, 1) := by decide +kernel
theorem dL_law_427 : decode cL_law 427 = .ok (.iaload, 1) := by decide +kernel
theorem dL_law_428 : decode cL_law 428 = .ok (.invokevirtual 56, 3) := by decide +kernel
theorem dL_law_431 : decode cL_law 431 = .ok (.if_icmp .eq 557, 3) := by decide +kernel
theorem dL_law_434 : decode cL_law 434 = .ok (.iconst 0, 1) := by decide +kernel
theorem dL_law_435 : decode cL_law 435 = .ok (.ireturn, 1) := by decide +kernel
theorem dL_law_436 : decode cL_law 436 = .ok (.aload_n 1, 1) := by decide +kernel
theorem dL_law_437 : decode cL_law 437 = .ok (.aload_n 0, 1) := by decide +kernel
theorem dL_law_438 : decode cL_law 438 = .ok (.iload_n 3, 1) := by decide +kernel
theorem dL_law_439 : decode cL_law 439 = .ok (.iconst 1, 1) := by decide +kernel
theorem dL_law_440 : decode cL_law 440 = .ok (.iadd, 1) := by decide +kernel
theorem dL_law_441 : decode cL_law 441 = .ok (.iaload, 1) := by decide +kernel
theorem dL_law_442 : decode cL_law 442 = .ok (.invokevirtual 57, 3) := by decide +kernel
theorem dL_law_445 : decode cL_law 445 = .ok (.aload_n 2, 1) := by decide +kernel
theorem dL_law_446 : decode cL_law 446 = .ok (.aload_n 0, 1) := by decide +kernel
theorem dL_law_447 : decode cL_law 447 = .ok (.iload_n 3, 1) := by decide +kernel
theorem dL_law_448 : decode cL_law 448 = .ok (.iconst 1, 1) := by decide +kernel
theorem dL_law_449 : decode cL_law 449 = .ok (.iadd, 1) := by decide +kernel
theorem dL_law_450 : decode cL_law 450 = .ok (.iaload, 1) := by decide +kernel
theorem dL_law_451 : decode cL_law 451 = .ok (.invokevirtual 60, 3) := by decide +kernel
theorem dL_law_454 : decode cL_law 454 = .ok (.if_icmp .eq 534, 3) := by decide +kernel
theorem dL_law_457 : decode cL_law 457 = .ok (.iconst 0, 1) := by decide +kernel
theorem dL_law_458 : decode cL_law 458 = .ok (.ireturn, 1) := by decide +kernel
theorem dL_law_459 : decode cL_law 459 = .ok (.aload_n 1, 1) := by decide +kernel
theorem dL_law_460 : decode cL_law 460 = .ok (.aload_n 0, 1) := by decide +kernel
theorem dL_law_461 : decode cL_law 461 = .ok (.iload_n 3, 1) := by decide +kernel
theorem dL_law_462 : decode cL_law 462 = .ok (.iconst 1, 1) := by decide +kernel
theorem dL_law_463 : decode cL_law 463 = .ok (.iadd, 1) := by decide +kernel
theorem dL_law_464 : decode cL_law 464 = .ok (.iaload, 1) := by decide +kernel
theorem dL_law_465 : decode cL_law 465 = .ok (.aload_n 0, 1) := by decide +kernel
theorem dL_law_466 : decode cL_law 466 = .ok (.iload_n 3, 1) := by decide +kernel
theorem dL_law_467 : decode cL_law 467 = .ok (.iconst 2, 1) := by decide +kernel
theorem dL_law_468 : decode cL_law 468 = .ok (.iadd, 1) := by decide +kernel
theorem dL_law_469 : decode cL_law 469 = .ok (.iaload, 1) := by decide +kernel
theorem dL_law_470 : decode cL_law 470 = .ok (.invokevirtual 61, 3) := by decide +kernel
theorem dL_law_473 : decode cL_law 473 = .ok (.aload_n 2, 1) := by decide +kernel
theorem dL_law_474 : decode cL_law 474 = .ok (.aload_n 0, 1) := by decide +kernel
theorem dL_law_475 : decode cL_law 475 = .ok (.iload_n 3, 1) := by decide +kernel
theorem dL_law_476 : decode cL_law 476 = .ok (.iconst 1, 1) := by decide +kernel
theorem dL_law_477 : decode cL_law 477 = .ok (.iadd, 1) := by decide +kernel
theorem dL_law_478 : decode cL_law 478 = .ok (.iaload, 1) := by decide +kernel
theorem dL_law_479 : decode cL_law 479 = .ok (.aload_n 0, 1) := by decide +kernel
theorem dL_law_480 : decode cL_law 480 = .ok (.iload_n 3, 1) := by decide +kernel
theorem dL_law_481 : decode cL_law 481 = .ok (.iconst 2, 1) := by decide +kernel
theorem dL_law_482 : decode cL_law 482 = .ok (.iadd, 1) := by decide +kernel
theorem dL_law_483 : decode cL_law 483 = .ok (.iaload, 1) := by decide +kernel
theorem dL_law_484 : decode cL_law 484 = .ok (.invokevirtual 64, 3) := by decide +kernel
theorem dL_law_487 : decode cL_law 487 = .ok (.if_icmp .eq 501, 3) := by decide +kernel
theorem dL_law_490 : decode cL_law 490 = .ok (.iconst 0, 1) := by decide +kernel
theorem dL_law_491 : decode cL_law 491 = .ok (.ireturn, 1) := by decide +kernel
theorem dL_law_492 : decode cL_law 492 = .ok (.aload_n 1, 1) := by decide +kernel
theorem dL_law_493 : decode cL_law 493 = .ok (.aload_n 0, 1) := by decide +kernel
theorem dL_law_494 : decode cL_law 494 = .ok (.iload_n 3, 1) := by decide +kernel
theorem dL_law_495 : decode cL_law 495 = .ok (.iconst 1, 1) := by decide +kernel
theorem dL_law_496 : decode cL_law 496 = .ok (.iadd, 1) := by decide +kernel
theorem dL_law_497 : decode cL_law 497 = .ok (.iaload, 1) := by decide +kernel
theorem dL_law_498 : decode cL_law 498 = .ok (.aload_n 0, 1) := by decide +kernel
theorem dL_law_499 : decode cL_law 499 = .ok (.iload_n 3, 1) := by decide +kernel
theorem dL_law_500 : decode cL_law 500 = .ok (.iconst 2, 1) := by decide +kernel
theorem dL_law_501 : decode cL_law 501 = .ok (.iadd, 1) := by decide +kernel
theorem dL_law_502 : decode cL_law 502 = .ok (.iaload, 1) := by decide +kernel
theorem dL_law_503 : decode cL_law 503 = .ok (.invokevirtual 65, 3) := by decide +kernel
theorem dL_law_506 : decode cL_law 506 = .ok (.aload_n 2, 1) := by decide +kernel
theorem dL_law_507 : decode cL_law 507 = .ok (.aload_n 0, 1) := by decide +kernel
theorem dL_law_508 : decode cL_law 508 = .ok (.iload_n 3, 1) := by decide +kernel
theorem dL_law_509 : decode cL_law 509 = .ok (.iconst 1, 1) := by decide +kernel
theorem dL_law_510 : decode cL_law 510 = .ok (.iadd, 1) := by decide +kernel
theorem dL_law_511 : decode cL_law 511 = .ok (.iaload, 1) := by decide +kernel
theorem dL_law_512 : decode cL_law 512 = .ok (.aload_n 0, 1) := by decide +kernel
theorem dL_law_513 : decode cL_law 513 = .ok (.iload_n 3, 1) := by decide +kernel
theorem dL_law_514 : decode cL_law 514 = .ok (.iconst 2, 1) := by decide +kernel
theorem dL_law_515 : decode cL_law 515 = .ok (.iadd, 1) := by decide +kernel
theorem dL_law_516 : decode cL_law 516 = .ok (.iaload, 1) := by decide +kernel
theorem dL_law_517 : decode cL_law 517 = .ok (.invokevirtual 68, 3) := by decide +kernel
theorem dL_law_520 : decode cL_law 520 = .ok (.if_icmp .eq 468, 3) := by decide +kernel
theorem dL_law_523 : decode cL_law 523 = .ok (.iconst 0, 1) := by decide +kernel
theorem dL_law_524 : decode cL_law 524 = .ok (.ireturn, 1) := by decide +kernel
theorem dL_law_525 : decode cL_law 525 = .ok (.aload_n 1, 1) := by decide +kernel
theorem dL_law_526 : decode cL_law 526 = .ok (.aload_n 0, 1) := by decide +kernel
theorem dL_law_527 : decode cL_law 527 = .ok (.iload_n 3, 1) := by decide +kernel
theorem dL_law_528 : decode cL_law 528 = .ok (.iconst 1, 1) := by decide +kernel
theorem dL_law_529 : decode cL_law 529 = .ok (.iadd, 1) := by decide +kernel
theorem dL_law_530 : decode cL_law 530 = .ok (.iaload, 1) := by decide +kernel
theorem dL_law_531 : decode cL_law 531 = .ok (.invokevirtual 69, 3) := by decide +kernel
theorem dL_law_534 : decode cL_law 534 = .ok (.aload_n 2, 1) := by decide +kernel
theorem dL_law_535 : decode cL_law 535 = .ok (.aload_n 0, 1) := by decide +kernel
theorem dL_law_536 : decode cL_law 536 = .ok (.iload_n 3, 1) := by decide +kernel
theorem dL_law_537 : decode cL_law 537 = .ok (.iconst 1, 1) := by decide +kernel
theorem dL_law_538 : decode cL_law 538 = .ok (.iadd, 1) := by decide +kernel
theorem dL_law_539 : decode cL_law 539 = .ok (.iaload, 1) := by decide +kernel
theorem dL_law_540 : decode cL_law 540 = .ok (.invokevirtual 72, 3) := by decide +kernel
theorem dL_law_543 : decode cL_law 543 = .ok (.if_icmp .eq 445, 3) := by decide +kernel
theorem dL_law_546 : decode cL_law 546 = .ok (.iconst 0, 1) := by decide +kernel
theorem dL_law_547 : decode cL_law 547 = .ok (.ireturn, 1) := by decide +kernel
theorem dL_law_548 : decode cL_law 548 = .ok (.aload_n 1, 1) := by decide +kernel
theorem dL_law_549 : decode cL_law 549 = .ok (.aload_n 0, 1) := by decide +kernel
theorem dL_law_550 : decode cL_law 550 = .ok (.iload_n 3, 1) := by decide +kernel
theorem dL_law_551 : decode cL_law 551 = .ok (.iconst 1, 1) := by decide +kernel
theorem dL_law_552 : decode cL_law 552 = .ok (.iadd, 1) := by decide +kernel
theorem dL_law_553 : decode cL_law 553 = .ok (.iaload, 1) := by decide +kernel
theorem dL_law_554 : decode cL_law 554 = .ok (.invokevirtual 73, 3) := by decide +kernel
theorem dL_law_557 : decode cL_law 557 = .ok (.aload_n 2, 1) := by decide +kernel
theorem dL_law_558 : decode cL_law 558 = .ok (.aload_n 0, 1) := by decide +kernel
theorem dL_law_559 : decode cL_law 559 = .ok (.iload_n 3, 1) := by decide +kernel
theorem dL_law_560 : decode cL_law 560 = .ok (.iconst 1, 1) := by decide +kernel
theorem dL_law_561 : decode cL_law 561 = .ok (.iadd, 1) := by decide +kernel
theorem dL_law_562 : decode cL_law 562 = .ok (.iaload, 1) := by decide +kernel
theorem dL_law_563 : decode cL_law 563 = .ok (.invokevirtual 76, 3) := by decide +kernel
theorem dL_law_566 : decode cL_law 566 = .ok (.if_icmp .eq 422, 3) := by decide +kernel
theorem dL_law_569 : decode cL_law 569 = .ok (.iconst 0, 1) := by decide +kernel
theorem dL_law_570 : decode cL_law 570 = .ok (.ireturn, 1) := by decide +kernel
theorem dL_law_571 : decode cL_law 571 = .ok (.aload_n 1, 1) := by decide +kernel
theorem dL_law_572 : decode cL_law 572 = .ok (.aload_n 0, 1) := by decide +kernel
theorem dL_law_573 : decode cL_law 573 = .ok (.iload_n 3, 1) := by decide +kernel
theorem dL_law_574 : decode cL_law 574 = .ok (.iconst 1, 1) := by decide +kernel
theorem dL_law_575 : decode cL_law 575 = .ok (.iadd, 1) := by decide +kernel
theorem dL_law_576 : decode cL_law 576 = .ok (.iaload, 1) := by decide +kernel
theorem dL_law_577 : decode cL_law 577 = .ok (.aload_n 0, 1) := by decide +kernel
theorem dL_law_578 : decode cL_law 578 = .ok (.iload_n 3, 1) := by decide +kernel
theorem dL_law_579 : decode cL_law 579 = .ok (.iconst 2, 1) := by decide +kernel
theorem dL_law_580 : decode cL_law 580 = .ok (.iadd, 1) := by decide +kernel
theorem dL_law_581 : decode cL_law 581 = .ok (.iaload, 1) := by decide +kernel
theorem dL_law_582 : decode cL_law 582 = .ok (.invokevirtual 77, 3) := by decide +kernel
theorem dL_law_585 : decode cL_law 585 = .ok (.aload_n 2, 1) := by decide +kernel
theorem dL_law_586 : decode cL_law 586 = .ok (.aload_n 0, 1) := by decide +kernel
theorem dL_law_587 : decode cL_law 587 = .ok (.iload_n 3, 1) := by decide +kernel
theorem dL_law_588 : decode cL_law 588 = .ok (.iconst 1, 1) := by decide +kernel
theorem dL_law_589 : decode cL_law 589 = .ok (.iadd, 1) := by decide +kernel
theorem dL_law_590 : decode cL_law 590 = .ok (.iaload, 1) := by decide +kernel
theorem dL_law_591 : decode cL_law 591 = .ok (.aload_n 0, 1) := by decide +kernel
theorem dL_law_592 : decode cL_law 592 = .ok (.iload_n 3, 1) := by decide +kernel
theorem dL_law_593 : decode cL_law 593 = .ok (.iconst 2, 1) := by decide +kernel
theorem dL_law_594 : decode cL_law 594 = .ok (.iadd, 1) := by decide +kernel
theorem dL_law_595 : decode cL_law 595 = .ok (.iaload, 1) := by decide +kernel
theorem dL_law_596 : decode cL_law 596 = .ok (.invokevirtual 80, 3) := by decide +kernel
theorem dL_law_599 : decode cL_law 599 = .ok (.if_icmp .eq 389, 3) := by decide +kernel
theorem dL_law_602 : decode cL_law 602 = .ok (.iconst 0, 1) := by decide +kernel
theorem dL_law_603 : decode cL_law 603 = .ok (.ireturn, 1) := by decide +kernel
theorem dL_law_604 : decode cL_law 604 = .ok (.aload_n 1, 1) := by decide +kernel
theorem dL_law_605 : decode cL_law 605 = .ok (.aload_n 0, 1) := by decide +kernel
theorem dL_law_606 : decode cL_law 606 = .ok (.iload_n 3, 1) := by decide +kernel
theorem dL_law_607 : decode cL_law 607 = .ok (.iconst 1, 1) := by decide +kernel
theorem dL_law_608 : decode cL_law 608 = .ok (.iadd, 1) := by decide +kernel
theorem dL_law_609 : decode cL_law 609 = .ok (.iaload, 1) := by decide +kernel
theorem dL_law_610 : decode cL_law 610 = .ok (.invokevirtual 81, 3) := by decide +kernel
theorem dL_law_613 : decode cL_law 613 = .ok (.aload_n 2, 1) := by decide +kernel
theorem dL_law_614 : decode cL_law 614 = .ok (.aload_n 0, 1) := by decide +kernel
theorem dL_law_615 : decode cL_law 615 = .ok (.iload_n 3, 1) := by decide +kernel
theorem dL_law_616 : decode cL_law 616 = .ok (.iconst 1, 1) := by decide +kernel
theorem dL_law_617 : decode cL_law 617 = .ok (.iadd, 1) := by decide +kernel
theorem dL_law_618 : decode cL_law 618 = .ok (.iaload, 1) := by decide +kernel
theorem dL_law_619 : decode cL_law 619 = .ok (.invokevirtual 84, 3) := by decide +kernel
theorem dL_law_622 : decode cL_law 622 = .ok (.if_icmp .eq 366, 3) := by decide +kernel
theorem dL_law_625 : decode cL_law 625 = .ok (.iconst 0, 1) := by decide +kernel
theorem dL_law_626 : decode cL_law 626 = .ok (.ireturn, 1) := by decide +kernel
theorem dL_law_627 : decode cL_law 627 = .ok (.aload_n 1, 1) := by decide +kernel
theorem dL_law_628 : decode cL_law 628 = .ok (.aload_n 0, 1) := by decide +kernel
theorem dL_law_629 : decode cL_law 629 = .ok (.iload_n 3, 1) := by decide +kernel
theorem dL_law_630 : decode cL_law 630 = .ok (.iconst 1, 1) := by decide +kernel
theorem dL_law_631 : decode cL_law 631 = .ok (.iadd, 1) := by decide +kernel
theorem dL_law_632 : decode cL_law 632 = .ok (.iaload, 1) := by decide +kernel
theorem dL_law_633 : decode cL_law 633 = .ok (.aload_n 0, 1) := by decide +kernel
theorem dL_law_634 : decode cL_law 634 = .ok (.iload_n 3, 1) := by decide +kernel
theorem dL_law_635 : decode cL_law 635 = .ok (.iconst 2, 1) := by decide +kernel
theorem dL_law_636 : decode cL_law 636 = .ok (.iadd, 1) := by decide +kernel
theorem dL_law_637 : decode cL_law 637 = .ok (.iaload, 1) := by decide +kernel
theorem dL_law_638 : decode cL_law 638 = .ok (.invokevirtual 85, 3) := by decide +kernel
theorem dL_law_641 : decode cL_law 641 = .ok (.aload_n 2, 1) := by decide +kernel
theorem dL_law_642 : decode cL_law 642 = .ok (.aload_n 0, 1) := by decide +kernel
theorem dL_law_643 : decode cL_law 643 = .ok (.iload_n 3, 1) := by decide +kernel
theorem dL_law_644 : decode cL_law 644 = .ok (.iconst 1, 1) := by decide +kernel
theorem dL_law_645 : decode cL_law 645 = .ok (.iadd, 1) := by decide +kernel
theorem dL_law_646 : decode cL_law 646 = .ok (.iaload, 1) := by decide +kernel
theorem dL_law_647 : decode cL_law 647 = .ok (.aload_n 0, 1) := by decide +kernel
theorem dL_law_648 : decode cL_law 648 = .ok (.iload_n 3, 1) := by decide +kernel
theorem dL_law_649 : decode cL_law 649 = .ok (.iconst 2, 1) := by decide +kernel
theorem dL_law_650 : decode cL_law 650 = .ok (.iadd, 1) := by decide +kernel
theorem dL_law_651 : decode cL_law 651 = .ok (.iaload, 1) := by decide +kernel
theorem dL_law_652 : decode cL_law 652 = .ok (.invokevirtual 88, 3) := by decide +kernel
theorem dL_law_655 : decode cL_law 655 = .ok (.if_icmp .eq 333, 3) := by decide +kernel
theorem dL_law_658 : decode cL_law 658 = .ok (.iconst 0, 1) := by decide +kernel
theorem dL_law_659 : decode cL_law 659 = .ok (.ireturn, 1) := by decide +kernel
theorem dL_law_660 : decode cL_law 660 = .ok (.aload_n 1, 1) := by decide +kernel
theorem dL_law_661 : decode cL_law 661 = .ok (.aload_n 0, 1) := by decide +kernel
theorem dL_law_662 : decode cL_law 662 = .ok (.iload_n 3, 1) := by decide +kernel
theorem dL_law_663 : decode cL_law 663 = .ok (.iconst 1, 1) := by decide +kernel
theorem dL_law_664 : decode cL_law 664 = .ok (.iadd, 1) := by decide +kernel
theorem dL_law_665 : decode cL_law 665 = .ok (.iaload, 1) := by decide +kernel
theorem dL_law_666 : decode cL_law 666 = .ok (.aload_n 0, 1) := by decide +kernel
theorem dL_law_667 : decode cL_law 667 = .ok (.iload_n 3, 1) := by decide +kernel
theorem dL_law_668 : decode cL_law 668 = .ok (.iconst 2, 1) := by decide +kernel
theorem dL_law_669 : decode cL_law 669 = .ok (.iadd, 1) := by decide +kernel
theorem dL_law_670 : decode cL_law 670 = .ok (.iaload, 1) := by decide +kernel
theorem dL_law_671 : decode cL_law 671 = .ok (.aload_n 0, 1) := by decide +kernel
theorem dL_law_672 : decode cL_law 672 = .ok (.iload_n 3, 1) := by decide +kernel
theorem dL_law_673 : decode cL_law 673 = .ok (.iconst 3, 1) := by decide +kernel
theorem dL_law_674 : decode cL_law 674 = .ok (.iadd, 1) := by decide +kernel
theorem dL_law_675 : decode cL_law 675 = .ok (.iaload, 1) := by decide +kernel
theorem dL_law_676 : decode cL_law 676 = .ok (.invokevirtual 89, 3) := by decide +kernel
theorem dL_law_679 : decode cL_law 679 = .ok (.aload_n 2, 1) := by decide +kernel
theorem dL_law_680 : decode cL_law 680 = .ok (.aload_n 0, 1) := by decide +kernel
theorem dL_law_681 : decode cL_law 681 = .ok (.iload_n 3, 1) := by decide +kernel
theorem dL_law_682 : decode cL_law 682 = .ok (.iconst 1, 1) := by decide +kernel
theorem dL_law_683 : decode cL_law 683 = .ok (.iadd, 1) := by decide +kernel
theorem dL_law_684 : decode cL_law 684 = .ok (.iaload, 1) := by decide +kernel
theorem dL_law_685 : decode cL_law 685 = .ok (.aload_n 0, 1) := by decide +kernel
theorem dL_law_686 : decode cL_law 686 = .ok (.iload_n 3, 1) := by decide +kernel
theorem dL_law_687 : decode cL_law 687 = .ok (.iconst 2, 1) := by decide +kernel
theorem dL_law_688 : decode cL_law 688 = .ok (.iadd, 1) := by decide +kernel
theorem dL_law_689 : decode cL_law 689 = .ok (.iaload, 1) := by decide +kernel
theorem dL_law_690 : decode cL_law 690 = .ok (.aload_n 0, 1) := by decide +kernel
theorem dL_law_691 : decode cL_law 691 = .ok (.iload_n 3, 1) := by decide +kernel
theorem dL_law_692 : decode cL_law 692 = .ok (.iconst 3, 1) := by decide +kernel
theorem dL_law_693 : decode cL_law 693 = .ok (.iadd, 1) := by decide +kernel
theorem dL_law_694 : decode cL_law 694 = .ok (.iaload, 1) := by decide +kernel
theorem dL_law_695 : decode cL_law 695 = .ok (.invokevirtual 93, 3) := by decide +kernel
theorem dL_law_698 : decode cL_law 698 = .ok (.lcmp, 1) := by decide +kernel
theorem dL_law_699 : decode cL_law 699 = .ok (.ifCond .eq 289, 3) := by decide +kernel
theorem dL_law_702 : decode cL_law 702 = .ok (.iconst 0, 1) := by decide +kernel
theorem dL_law_703 : decode cL_law 703 = .ok (.ireturn, 1) := by decide +kernel
theorem dL_law_704 : decode cL_law 704 = .ok (.aload_n 1, 1) := by decide +kernel
theorem dL_law_705 : decode cL_law 705 = .ok (.invokevirtual 94, 3) := by decide +kernel
theorem dL_law_708 : decode cL_law 708 = .ok (.aload_n 2, 1) := by decide +kernel
theorem dL_law_709 : decode cL_law 709 = .ok (.invokevirtual 97, 3) := by decide +kernel
theorem dL_law_712 : decode cL_law 712 = .ok (.if_icmp .eq 276, 3) := by decide +kernel
theorem dL_law_715 : decode cL_law 715 = .ok (.iconst 0, 1) := by decide +kernel
theorem dL_law_716 : decode cL_law 716 = .ok (.ireturn, 1) := by decide +kernel
theorem dL_law_717 : decode cL_law 717 = .ok (.aload_n 1, 1) := by decide +kernel
theorem dL_law_718 : decode cL_law 718 = .ok (.invokevirtual 98, 3) := by decide +kernel
theorem dL_law_721 : decode cL_law 721 = .ok (.aload_n 2, 1) := by decide +kernel
theorem dL_law_722 : decode cL_law 722 = .ok (.invokevirtual 101, 3) := by decide +kernel
theorem dL_law_725 : decode cL_law 725 = .ok (.if_icmp .eq 263, 3) := by decide +kernel
theorem dL_law_728 : decode cL_law 728 = .ok (.iconst 0, 1) := by decide +kernel
theorem dL_law_729 : decode cL_law 729 = .ok (.ireturn, 1) := by decide +kernel
theorem dL_law_730 : decode cL_law 730 = .ok (.aload_n 1, 1) := by decide +kernel
theorem dL_law_731 : decode cL_law 731 = .ok (.aload_n 0, 1) := by decide +kernel
theorem dL_law_732 : decode cL_law 732 = .ok (.iload_n 3, 1) := by decide +kernel
theorem dL_law_733 : decode cL_law 733 = .ok (.iconst 1, 1) := by decide +kernel
theorem dL_law_734 : decode cL_law 734 = .ok (.iadd, 1) := by decide +kernel
theorem dL_law_735 : decode cL_law 735 = .ok (.iaload, 1) := by decide +kernel
theorem dL_law_736 : decode cL_law 736 = .ok (.invokevirtual 102, 3) := by decide +kernel
theorem dL_law_739 : decode cL_law 739 = .ok (.aload_n 2, 1) := by decide +kernel
theorem dL_law_740 : decode cL_law 740 = .ok (.aload_n 0, 1) := by decide +kernel
theorem dL_law_741 : decode cL_law 741 = .ok (.iload_n 3, 1) := by decide +kernel
theorem dL_law_742 : decode cL_law 742 = .ok (.iconst 1, 1) := by decide +kernel
theorem dL_law_743 : decode cL_law 743 = .ok (.iadd, 1) := by decide +kernel
theorem dL_law_744 : decode cL_law 744 = .ok (.iaload, 1) := by decide +kernel
theorem dL_law_745 : decode cL_law 745 = .ok (.invokevirtual 105, 3) := by decide +kernel
theorem dL_law_748 : decode cL_law 748 = .ok (.if_icmp .eq 240, 3) := by decide +kernel
theorem dL_law_751 : decode cL_law 751 = .ok (.iconst 0, 1) := by decide +kernel
theorem dL_law_752 : decode cL_law 752 = .ok (.ireturn, 1) := by decide +kernel
theorem dL_law_753 : decode cL_law 753 = .ok (.aload_n 1, 1) := by decide +kernel
theorem dL_law_754 : decode cL_law 754 = .ok (.aload_n 0, 1) := by decide +kernel
theorem dL_law_755 : decode cL_law 755 = .ok (.iload_n 3, 1) := by decide +kernel
theorem dL_law_756 : decode cL_law 756 = .ok (.iconst 1, 1) := by decide +kernel
theorem dL_law_757 : decode cL_law 757 = .ok (.iadd, 1) := by decide +kernel
theorem dL_law_758 : decode cL_law 758 = .ok (.iaload, 1) := by decide +kernel
theorem dL_law_759 : decode cL_law 759 = .ok (.aload_n 0, 1) := by decide +kernel
theorem dL_law_760 : decode cL_law 760 = .ok (.iload_n 3, 1) := by decide +kernel
theorem dL_law_761 : decode cL_law 761 = .ok (.iconst 2, 1) := by decide +kernel
theorem dL_law_762 : decode cL_law 762 = .ok (.iadd, 1) := by decide +kernel
theorem dL_law_763 : decode cL_law 763 = .ok (.iaload, 1) := by decide +kernel
theorem dL_law_764 : decode cL_law 764 = .ok (.aload_n 0, 1) := by decide +kernel
theorem dL_law_765 : decode cL_law 765 = .ok (.iload_n 3, 1) := by decide +kernel
theorem dL_law_766 : decode cL_law 766 = .ok (.iconst 3, 1) := by decide +kernel
theorem dL_law_767 : decode cL_law 767 = .ok (.iadd, 1) := by decide +kernel
theorem dL_law_768 : decode cL_law 768 = .ok (.iaload, 1) := by decide +kernel
theorem dL_law_769 : decode cL_law 769 = .ok (.invokevirtual 106, 3) := by decide +kernel
theorem dL_law_772 : decode cL_law 772 = .ok (.aload_n 2, 1) := by decide +kernel
theorem dL_law_773 : decode cL_law 773 = .ok (.aload_n 0, 1) := by decide +kernel
theorem dL_law_774 : decode cL_law 774 = .ok (.iload_n 3, 1) := by decide +kernel
theorem dL_law_775 : decode cL_law 775 = .ok (.iconst 1, 1) := by decide +kernel
theorem dL_law_776 : decode cL_law 776 = .ok (.iadd, 1) := by decide +kernel
theorem dL_law_777 : decode cL_law 777 = .ok (.iaload, 1) := by decide +kernel
theorem dL_law_778 : decode cL_law 778 = .ok (.aload_n 0, 1) := by decide +kernel
theorem dL_law_779 : decode cL_law 779 = .ok (.iload_n 3, 1) := by decide +kernel
theorem dL_law_780 : decode cL_law 780 = .ok (.iconst 2, 1) := by decide +kernel
theorem dL_law_781 : decode cL_law 781 = .ok (.iadd, 1) := by decide +kernel
theorem dL_law_782 : decode cL_law 782 = .ok (.iaload, 1) := by decide +kernel
theorem dL_law_783 : decode cL_law 783 = .ok (.aload_n 0, 1) := by decide +kernel
theorem dL_law_784 : decode cL_law 784 = .ok (.iload_n 3, 1) := by decide +kernel
theorem dL_law_785 : decode cL_law 785 = .ok (.iconst 3, 1) := by decide +kernel
theorem dL_law_786 : decode cL_law 786 = .ok (.iadd, 1) := by decide +kernel
theorem dL_law_787 : decode cL_law 787 = .ok (.iaload, 1) := by decide +kernel
theorem dL_law_788 : decode cL_law 788 = .ok (.invokevirtual 109, 3) := by decide +kernel
theorem dL_law_791 : decode cL_law 791 = .ok (.if_icmp .eq 197, 3) := by decide +kernel
theorem dL_law_794 : decode cL_law 794 = .ok (.iconst 0, 1) := by decide +kernel
theorem dL_law_795 : decode cL_law 795 = .ok (.ireturn, 1) := by decide +kernel
theorem dL_law_796 : decode cL_law 796 = .ok (.aload_n 1, 1) := by decide +kernel
theorem dL_law_797 : decode cL_law 797 = .ok (.aload_n 0, 1) := by decide +kernel
theorem dL_law_798 : decode cL_law 798 = .ok (.iload_n 3, 1) := by decide +kernel
theorem dL_law_799 : decode cL_law 799 = .ok (.iconst 1, 1) := by decide +kernel
theorem dL_law_800 : decode cL_law 800 = .ok (.iadd, 1) := by decide +kernel
theorem dL_law_801 : decode cL_law 801 = .ok (.iaload, 1) := by decide +kernel
theorem dL_law_802 : decode cL_law 802 = .ok (.aload_n 0, 1) := by decide +kernel
theorem dL_law_803 : decode cL_law 803 = .ok (.iload_n 3, 1) := by decide +kernel
theorem dL_law_804 : decode cL_law 804 = .ok (.iconst 2, 1) := by decide +kernel
theorem dL_law_805 : decode cL_law 805 = .ok (.iadd, 1) := by decide +kernel
theorem dL_law_806 : decode cL_law 806 = .ok (.iaload, 1) := by decide +kernel
theorem dL_law_807 : decode cL_law 807 = .ok (.aload_n 0, 1) := by decide +kernel
theorem dL_law_808 : decode cL_law 808 = .ok (.iload_n 3, 1) := by decide +kernel
theorem dL_law_809 : decode cL_law 809 = .ok (.iconst 3, 1) := by decide +kernel
theorem dL_law_810 : decode cL_law 810 = .ok (.iadd, 1) := by decide +kernel
theorem dL_law_811 : decode cL_law 811 = .ok (.iaload, 1) := by decide +kernel
theorem dL_law_812 : decode cL_law 812 = .ok (.invokevirtual 110, 3) := by decide +kernel
theorem dL_law_815 : decode cL_law 815 = .ok (.aload_n 2, 1) := by decide +kernel
theorem dL_law_816 : decode cL_law 816 = .ok (.aload_n 0, 1) := by decide +kernel
theorem dL_law_817 : decode cL_law 817 = .ok (.iload_n 3, 1) := by decide +kernel
theorem dL_law_818 : decode cL_law 818 = .ok (.iconst 1, 1) := by decide +kernel
theorem dL_law_819 : decode cL_law 819 = .ok (.iadd, 1) := by decide +kernel
theorem dL_law_820 : decode cL_law 820 = .ok (.iaload, 1) := by decide +kernel
theorem dL_law_821 : decode cL_law 821 = .ok (.aload_n 0, 1) := by decide +kernel
theorem dL_law_822 : decode cL_law 822 = .ok (.iload_n 3, 1) := by decide +kernel
theorem dL_law_823 : decode cL_law 823 = .ok (.iconst 2, 1) := by decide +kernel
theorem dL_law_824 : decode cL_law 824 = .ok (.iadd, 1) := by decide +kernel
theorem dL_law_825 : decode cL_law 825 = .ok (.iaload, 1) := by decide +kernel
theorem dL_law_826 : decode cL_law 826 = .ok (.aload_n 0, 1) := by decide +kernel
theorem dL_law_827 : decode cL_law 827 = .ok (.iload_n 3, 1) := by decide +kernel
theorem dL_law_828 : decode cL_law 828 = .ok (.iconst 3, 1) := by decide +kernel
theorem dL_law_829 : decode cL_law 829 = .ok (.iadd, 1) := by decide +kernel
theorem dL_law_830 : decode cL_law 830 = .ok (.iaload, 1) := by decide +kernel
theorem dL_law_831 : decode cL_law 831 = .ok (.invokevirtual 113, 3) := by decide +kernel
theorem dL_law_834 : decode cL_law 834 = .ok (.if_icmp .eq 154, 3) := by decide +kernel
theorem dL_law_837 : decode cL_law 837 = .ok (.iconst 0, 1) := by decide +kernel
theorem dL_law_838 : decode cL_law 838 = .ok (.ireturn, 1) := by decide +kernel
theorem dL_law_839 : decode cL_law 839 = .ok (.aload_n 1, 1) := by decide +kernel
theorem dL_law_840 : decode cL_law 840 = .ok (.aload_n 0, 1) := by decide +kernel
theorem dL_law_841 : decode cL_law 841 = .ok (.iload_n 3, 1) := by decide +kernel
theorem dL_law_842 : decode cL_law 842 = .ok (.iconst 1, 1) := by decide +kernel
theorem dL_law_843 : decode cL_law 843 = .ok (.iadd, 1) := by decide +kernel
theorem dL_law_844 : decode cL_law 844 = .ok (.iaload, 1) := by decide +kernel
theorem dL_law_845 : decode cL_law 845 = .ok (.aload_n 0, 1) := by decide +kernel
theorem dL_law_846 : decode cL_law 846 = .ok (.iload_n 3, 1) := by decide +kernel
theorem dL_law_847 : decode cL_law 847 = .ok (.iconst 2, 1) := by decide +kernel
theorem dL_law_848 : decode cL_law 848 = .ok (.iadd, 1) := by decide +kernel
theorem dL_law_849 : decode cL_law 849 = .ok (.iaload, 1) := by decide +kernel
theorem dL_law_850 : decode cL_law 850 = .ok (.aload_n 0, 1) := by decide +kernel
theorem dL_law_851 : decode cL_law 851 = .ok (.iload_n 3, 1) := by decide +kernel
theorem dL_law_852 : decode cL_law 852 = .ok (.iconst 3, 1) := by decide +kernel
theorem dL_law_853 : decode cL_law 853 = .ok (.iadd, 1) := by decide +kernel
theorem dL_law_854 : decode cL_law 854 = .ok (.iaload, 1) := by decide +kernel
theorem dL_law_855 : decode cL_law 855 = .ok (.aload_n 0, 1) := by decide +kernel
theorem dL_law_856 : decode cL_law 856 = .ok (.iload_n 3, 1) := by decide +kernel
theorem dL_law_857 : decode cL_law 857 = .ok (.iconst 4, 1) := by decide +kernel
theorem dL_law_858 : decode cL_law 858 = .ok (.iadd, 1) := by decide +kernel
theorem dL_law_859 : decode cL_law 859 = .ok (.iaload, 1) := by decide +kernel
theorem dL_law_860 : decode cL_law 860 = .ok (.aload_n 0, 1) := by decide +kernel
theorem dL_law_861 : decode cL_law 861 = .ok (.iload_n 3, 1) := by decide +kernel
theorem dL_law_862 : decode cL_law 862 = .ok (.iconst 5, 1) := by decide +kernel
theorem dL_law_863 : decode cL_law 863 = .ok (.iadd, 1) := by decide +kernel
theorem dL_law_864 : decode cL_law 864 = .ok (.iaload, 1) := by decide +kernel
theorem dL_law_865 : decode cL_law 865 = .ok (.invokevirtual 114, 3) := by decide +kernel
theorem dL_law_868 : decode cL_law 868 = .ok (.aload_n 2, 1) := by decide +kernel
theorem dL_law_869 : decode cL_law 869 = .ok (.aload_n 0, 1) := by decide +kernel
theorem dL_law_870 : decode cL_law 870 = .ok (.iload_n 3, 1) := by decide +kernel
theorem dL_law_871 : decode cL_law 871 = .ok (.iconst 1, 1) := by decide +kernel
theorem dL_law_872 : decode cL_law 872 = .ok (.iadd, 1) := by decide +kernel
theorem dL_law_873 : decode cL_law 873 = .ok (.iaload, 1) := by decide +kernel
theorem dL_law_874 : decode cL_law 874 = .ok (.aload_n 0, 1) := by decide +kernel
theorem dL_law_875 : decode cL_law 875 = .ok (.iload_n 3, 1) := by decide +kernel
theorem dL_law_876 : decode cL_law 876 = .ok (.iconst 2, 1) := by decide +kernel
theorem dL_law_877 : decode cL_law 877 = .ok (.iadd, 1) := by decide +kernel
theorem dL_law_878 : decode cL_law 878 = .ok (.iaload, 1) := by decide +kernel
theorem dL_law_879 : decode cL_law 879 = .ok (.aload_n 0, 1) := by decide +kernel
theorem dL_law_880 : decode cL_law 880 = .ok (.iload_n 3, 1) := by decide +kernel
theorem dL_law_881 : decode cL_law 881 = .ok (.iconst 3, 1) := by decide +kernel
theorem dL_law_882 : decode cL_law 882 = .ok (.iadd, 1) := by decide +kernel
theorem dL_law_883 : decode cL_law 883 = .ok (.iaload, 1) := by decide +kernel
theorem dL_law_884 : decode cL_law 884 = .ok (.aload_n 0, 1) := by decide +kernel
theorem dL_law_885 : decode cL_law 885 = .ok (.iload_n 3, 1) := by decide +kernel
theorem dL_law_886 : decode cL_law 886 = .ok (.iconst 4, 1) := by decide +kernel
theorem dL_law_887 : decode cL_law 887 = .ok (.iadd, 1) := by decide +kernel
theorem dL_law_888 : decode cL_law 888 = .ok (.iaload, 1) := by decide +kernel
theorem dL_law_889 : decode cL_law 889 = .ok (.aload_n 0, 1) := by decide +kernel
theorem dL_law_890 : decode cL_law 890 = .ok (.iload_n 3, 1) := by decide +kernel
theorem dL_law_891 : decode cL_law 891 = .ok (.iconst 5, 1) := by decide +kernel
theorem dL_law_892 : decode cL_law 892 = .ok (.iadd, 1) := by decide +kernel
theorem dL_law_893 : decode cL_law 893 = .ok (.iaload, 1) := by decide +kernel
theorem dL_law_894 : decode cL_law 894 = .ok (.invokevirtual 118, 3) := by decide +kernel
theorem dL_law_897 : decode cL_law 897 = .ok (.if_icmp .eq 91, 3) := by decide +kernel
theorem dL_law_900 : decode cL_law 900 = .ok (.iconst 0, 1) := by decide +kernel
theorem dL_law_901 : decode cL_law 901 = .ok (.ireturn, 1) := by decide +kernel
theorem dL_law_902 : decode cL_law 902 = .ok (.aload_n 1, 1) := by decide +kernel
theorem dL_law_903 : decode cL_law 903 = .ok (.aload_n 0, 1) := by decide +kernel
theorem dL_law_904 : decode cL_law 904 = .ok (.iload_n 3, 1) := by decide +kernel
theorem dL_law_905 : decode cL_law 905 = .ok (.iconst 1, 1) := by decide +kernel
theorem dL_law_906 : decode cL_law 906 = .ok (.iadd, 1) := by decide +kernel
theorem dL_law_907 : decode cL_law 907 = .ok (.iaload, 1) := by decide +kernel
theorem dL_law_908 : decode cL_law 908 = .ok (.aload_n 0, 1) := by decide +kernel
theorem dL_law_909 : decode cL_law 909 = .ok (.iload_n 3, 1) := by decide +kernel
theorem dL_law_910 : decode cL_law 910 = .ok (.iconst 2, 1) := by decide +kernel
theorem dL_law_911 : decode cL_law 911 = .ok (.iadd, 1) := by decide +kernel
theorem dL_law_912 : decode cL_law 912 = .ok (.iaload, 1) := by decide +kernel
theorem dL_law_913 : decode cL_law 913 = .ok (.aload_n 0, 1) := by decide +kernel
theorem dL_law_914 : decode cL_law 914 = .ok (.iload_n 3, 1) := by decide +kernel
theorem dL_law_915 : decode cL_law 915 = .ok (.iconst 3, 1) := by decide +kernel
theorem dL_law_916 : decode cL_law 916 = .ok (.iadd, 1) := by decide +kernel
theorem dL_law_917 : decode cL_law 917 = .ok (.iaload, 1) := by decide +kernel
theorem dL_law_918 : decode cL_law 918 = .ok (.aload_n 0, 1) := by decide +kernel
theorem dL_law_919 : decode cL_law 919 = .ok (.iload_n 3, 1) := by decide +kernel
theorem dL_law_920 : decode cL_law 920 = .ok (.iconst 4, 1) := by decide +kernel
theorem dL_law_921 : decode cL_law 921 = .ok (.iadd, 1) := by decide +kernel
theorem dL_law_922 : decode cL_law 922 = .ok (.iaload, 1) := by decide +kernel
theorem dL_law_923 : decode cL_law 923 = .ok (.invokevirtual 119, 3) := by decide +kernel
theorem dL_law_926 : decode cL_law 926 = .ok (.aload_n 2, 1) := by decide +kernel
theorem dL_law_927 : decode cL_law 927 = .ok (.aload_n 0, 1) := by decide +kernel
theorem dL_law_928 : decode cL_law 928 = .ok (.iload_n 3, 1) := by decide +kernel
theorem dL_law_929 : decode cL_law 929 = .ok (.iconst 1, 1) := by decide +kernel
theorem dL_law_930 : decode cL_law 930 = .ok (.iadd, 1) := by decide +kernel
theorem dL_law_931 : decode cL_law 931 = .ok (.iaload, 1) := by decide +kernel
theorem dL_law_932 : decode cL_law 932 = .ok (.aload_n 0, 1) := by decide +kernel
theorem dL_law_933 : decode cL_law 933 = .ok (.iload_n 3, 1) := by decide +kernel
theorem dL_law_934 : decode cL_law 934 = .ok (.iconst 2, 1) := by decide +kernel
theorem dL_law_935 : decode cL_law 935 = .ok (.iadd, 1) := by decide +kernel
theorem dL_law_936 : decode cL_law 936 = .ok (.iaload, 1) := by decide +kernel
theorem dL_law_937 : decode cL_law 937 = .ok (.aload_n 0, 1) := by decide +kernel
theorem dL_law_938 : decode cL_law 938 = .ok (.iload_n 3, 1) := by decide +kernel
theorem dL_law_939 : decode cL_law 939 = .ok (.iconst 3, 1) := by decide +kernel
theorem dL_law_940 : decode cL_law 940 = .ok (.iadd, 1) := by decide +kernel
theorem dL_law_941 : decode cL_law 941 = .ok (.iaload, 1) := by decide +kernel
theorem dL_law_942 : decode cL_law 942 = .ok (.aload_n 0, 1) := by decide +kernel
theorem dL_law_943 : decode cL_law 943 = .ok (.iload_n 3, 1) := by decide +kernel
theorem dL_law_944 : decode cL_law 944 = .ok (.iconst 4, 1) := by decide +kernel
theorem dL_law_945 : decode cL_law 945 = .ok (.iadd, 1) := by decide +kernel
theorem dL_law_946 : decode cL_law 946 = .ok (.iaload, 1) := by decide +kernel
theorem dL_law_947 : decode cL_law 947 = .ok (.invokevirtual 123, 3) := by decide +kernel
theorem dL_law_950 : decode cL_law 950 = .ok (.if_icmp .eq 38, 3) := by decide +kernel
theorem dL_law_953 : decode cL_law 953 = .ok (.iconst 0, 1) := by decide +kernel
theorem dL_law_954 : decode cL_law 954 = .ok (.ireturn, 1) := by decide +kernel
theorem dL_law_955 : decode cL_law 955 = .ok (.aload_n 1, 1) := by decide +kernel
theorem dL_law_956 : decode cL_law 956 = .ok (.aload_n 0, 1) := by decide +kernel
theorem dL_law_957 : decode cL_law 957 = .ok (.iload_n 3, 1) := by decide +kernel
theorem dL_law_958 : decode cL_law 958 = .ok (.iconst 1, 1) := by decide +kernel
theorem dL_law_959 : decode cL_law 959 = .ok (.iadd, 1) := by decide +kernel
theorem dL_law_960 : decode cL_law 960 = .ok (.iaload, 1) := by decide +kernel
theorem dL_law_961 : decode cL_law 961 = .ok (.aload_n 0, 1) := by decide +kernel
theorem dL_law_962 : decode cL_law 962 = .ok (.iload_n 3, 1) := by decide +kernel
theorem dL_law_963 : decode cL_law 963 = .ok (.iconst 2, 1) := by decide +kernel
theorem dL_law_964 : decode cL_law 964 = .ok (.iadd, 1) := by decide +kernel
theorem dL_law_965 : decode cL_law 965 = .ok (.iaload, 1) := by decide +kernel
theorem dL_law_966 : decode cL_law 966 = .ok (.invokevirtual 124, 3) := by decide +kernel
theorem dL_law_969 : decode cL_law 969 = .ok (.aload_n 2, 1) := by decide +kernel
theorem dL_law_970 : decode cL_law 970 = .ok (.aload_n 0, 1) := by decide +kernel
theorem dL_law_971 : decode cL_law 971 = .ok (.iload_n 3, 1) := by decide +kernel
theorem dL_law_972 : decode cL_law 972 = .ok (.iconst 1, 1) := by decide +kernel
theorem dL_law_973 : decode cL_law 973 = .ok (.iadd, 1) := by decide +kernel
theorem dL_law_974 : decode cL_law 974 = .ok (.iaload, 1) := by decide +kernel
theorem dL_law_975 : decode cL_law 975 = .ok (.aload_n 0, 1) := by decide +kernel
theorem dL_law_976 : decode cL_law 976 = .ok (.iload_n 3, 1) := by decide +kernel
theorem dL_law_977 : decode cL_law 977 = .ok (.iconst 2, 1) := by decide +kernel
theorem dL_law_978 : decode cL_law 978 = .ok (.iadd, 1) := by decide +kernel
theorem dL_law_979 : decode cL_law 979 = .ok (.iaload, 1) := by decide +kernel
theorem dL_law_980 : decode cL_law 980 = .ok (.invokevirtual 127, 3) := by decide +kernel
theorem dL_law_983 : decode cL_law 983 = .ok (.if_icmp .eq 5, 3) := by decide +kernel
theorem dL_law_986 : decode cL_law 986 = .ok (.iconst 0, 1) := by decide +kernel
theorem dL_law_987 : decode cL_law 987 = .ok (.ireturn, 1) := by decide +kernel
theorem dL_law_988 : decode cL_law 988 = .ok (.iinc 3 6, 3) := by decide +kernel
theorem dL_law_991 : decode cL_law 991 = .ok (.goto (-973), 3) := by decide +kernel
theorem dL_law_994 : decode cL_law 994 = .ok (.iconst 1, 1) := by decide +kernel
theorem dL_law_995 : decode cL_law 995 = .ok (.ireturn, 1) := by decide +kernel
end
section
theorem dX9_init_0 : decode cX9_init 0 = .ok (.aload_n 0, 1) := by decide +kernel
theorem dX9_init_1 : decode cX9_init 1 = .ok (.invokespecial 1, 3) := by decide +kernel
theorem dX9_init_4 : decode cX9_init 4 = .ok (.aload_n 0, 1) := by decide +kernel
theorem dX9_init_5 : decode cX9_init 5 = .ok (.new 7, 3) := by decide +kernel
theorem dX9_init_8 : decode cX9_init 8 = .ok (.dup, 1) := by decide +kernel
theorem dX9_init_9 : decode cX9_init 9 = .ok (.invokespecial 9, 3) := by decide +kernel
theorem dX9_init_12 : decode cX9_init 12 = .ok (.putfield 10, 3) := by decide +kernel
theorem dX9_init_15 : decode cX9_init 15 = .ok (.aload_n 0, 1) := by decide +kernel
theorem dX9_init_16 : decode cX9_init 16 = .ok (.new 7, 3) := by decide +kernel
theorem dX9_init_19 : decode cX9_init 19 = .ok (.dup, 1) := by decide +kernel
theorem dX9_init_20 : decode cX9_init 20 = .ok (.invokespecial 9, 3) := by decide +kernel
theorem dX9_init_23 : decode cX9_init 23 = .ok (.putfield 16, 3) := by decide +kernel
theorem dX9_init_26 : decode cX9_init 26 = .ok (.aload_n 0, 1) := by decide +kernel
theorem dX9_init_27 : decode cX9_init 27 = .ok (.iconst 0, 1) := by decide +kernel
theorem dX9_init_28 : decode cX9_init 28 = .ok (.putfield 19, 3) := by decide +kernel
theorem dX9_init_31 : decode cX9_init 31 = .ok (.aload_n 0, 1) := by decide +kernel
theorem dX9_init_32 : decode cX9_init 32 = .ok (.bipush 6, 2) := by decide +kernel
theorem dX9_init_34 : decode cX9_init 34 = .ok (.anewarray 23, 3) := by decide +kernel
theorem dX9_init_37 : decode cX9_init 37 = .ok (.putfield 25, 3) := by decide +kernel
theorem dX9_init_40 : decode cX9_init 40 = .ok (.aload_n 0, 1) := by decide +kernel
theorem dX9_init_41 : decode cX9_init 41 = .ok (.iconst 0, 1) := by decide +kernel
theorem dX9_init_42 : decode cX9_init 42 = .ok (.putfield 29, 3) := by decide +kernel
theorem dX9_init_45 : decode cX9_init 45 = .ok (.aload_n 0, 1) := by decide +kernel
theorem dX9_init_46 : decode cX9_init 46 = .ok (.new 33, 3) := by decide +kernel
theorem dX9_init_49 : decode cX9_init 49 = .ok (.dup, 1) := by decide +kernel
theorem dX9_init_50 : decode cX9_init 50 = .ok (.invokespecial 35, 3) := by decide +kernel
theorem dX9_init_53 : decode cX9_init 53 = .ok (.putfield 36, 3) := by decide +kernel
theorem dX9_init_56 : decode cX9_init 56 = .ok (.aload_n 0, 1) := by decide +kernel
theorem dX9_init_57 : decode cX9_init 57 = .ok (.iconst 4, 1) := by decide +kernel
theorem dX9_init_58 : decode cX9_init 58 = .ok (.anewarray 40, 3) := by decide +kernel
theorem dX9_init_61 : decode cX9_init 61 = .ok (.putfield 42, 3) := by decide +kernel
theorem dX9_init_64 : decode cX9_init 64 = .ok (.aload_n 0, 1) := by decide +kernel
theorem dX9_init_65 : decode cX9_init 65 = .ok (.new 46, 3) := by decide +kernel
theorem dX9_init_68 : decode cX9_init 68 = .ok (.dup, 1) := by decide +kernel
theorem dX9_init_69 : decode cX9_init 69 = .ok (.invokespecial 48, 3) := by decide +kernel
theorem dX9_init_72 : decode cX9_init 72 = .ok (.putfield 49, 3) := by decide +kernel
theorem dX9_init_75 : decode cX9_init 75 = .ok (.aload_n 0, 1) := by decide +kernel
theorem dX9_init_76 : decode cX9_init 76 = .ok (.new 53, 3) := by decide +kernel
theorem dX9_init_79 : decode cX9_init 79 = .ok (.dup, 1) := by decide +kernel
theorem dX9_init_80 : decode cX9_init 80 = .ok (.invokespecial 55, 3) := by decide +kernel
theorem dX9_init_83 : decode cX9_init 83 = .ok (.putfield 56, 3) := by decide +kernel
theorem dX9_init_86 : decode cX9_init 86 = .ok (.aload_n 0, 1) := by decide +kernel
theorem dX9_init_87 : decode cX9_init 87 = .ok (.new 60, 3) := by decide +kernel
theorem dX9_init_90 : decode cX9_init 90 = .ok (.dup, 1) := by decide +kernel
theorem dX9_init_91 : decode cX9_init 91 = .ok (.invokespecial 62, 3) := by decide +kernel
theorem dX9_init_94 : decode cX9_init 94 = .ok (.putfield 63, 3) := by decide +kernel
theorem dX9_init_97 : decode cX9_init 97 = .ok (.aload_n 0, 1) := by decide +kernel
theorem dX9_init_98 : decode cX9_init 98 = .ok (.bipush 6, 2) := by decide +kernel
theorem dX9_init_100 : decode cX9_init 100 = .ok (.bipush 6, 2) := by decide +kernel
theorem dX9_init_102 : decode cX9_init 102 = .ok (.multianewarray 67 2, 4) := by decide +kernel
theorem dX9_init_106 : decode cX9_init 106 = .ok (.putfield 69, 3) := by decide +kernel
theorem dX9_init_109 : decode cX9_init 109 = .ok (.aload_n 0, 1) := by decide +kernel
theorem dX9_init_110 : decode cX9_init 110 = .ok (.bipush 6, 2) := by decide +kernel
theorem dX9_init_112 : decode cX9_init 112 = .ok (.newarray .int, 2) := by decide +kernel
theorem dX9_init_114 : decode cX9_init 114 = .ok (.putfield 72, 3) := by decide +kernel
theorem dX9_init_117 : decode cX9_init 117 = .ok (.iconst 0, 1) := by decide +kernel
theorem dX9_init_118 : decode cX9_init 118 = .ok (.istore_n 1, 1) := by decide +kernel
theorem dX9_init_119 : decode cX9_init 119 = .ok (.iload_n 1, 1) := by decide +kernel
theorem dX9_init_120 : decode cX9_init 120 = .ok (.bipush 6, 2) := by decide +kernel
theorem dX9_init_122 : decode cX9_init 122 = .ok (.if_icmp .ge 22, 3) := by decide +kernel
theorem dX9_init_125 : decode cX9_init 125 = .ok (.aload_n 0, 1) := by decide +kernel
theorem dX9_init_126 : decode cX9_init 126 = .ok (.getfield 25, 3) := by decide +kernel
theorem dX9_init_129 : decode cX9_init 129 = .ok (.iload_n 1, 1) := by decide +kernel
theorem dX9_init_130 : decode cX9_init 130 = .ok (.new 23, 3) := by decide +kernel
theorem dX9_init_133 : decode cX9_init 133 = .ok (.dup, 1) := by decide +kernel
theorem dX9_init_134 : decode cX9_init 134 = .ok (.invokespecial 76, 3) := by decide +kernel
theorem dX9_init_137 : decode cX9_init 137 = .ok (.aastore, 1) := by decide +kernel
theorem dX9_init_138 : decode cX9_init 138 = .ok (.iinc 1 1, 3) := by decide +kernel
theorem dX9_init_141 : decode cX9_init 141 = .ok (.goto (-22), 3) := by decide +kernel
theorem dX9_init_144 : decode cX9_init 144 = .ok (.iconst 0, 1) := by decide +kernel
theorem dX9_init_145 : decode cX9_init 145 = .ok (.istore_n 1, 1) := by decide +kernel
theorem dX9_init_146 : decode cX9_init 146 = .ok (.iload_n 1, 1) := by decide +kernel
theorem dX9_init_147 : decode cX9_init 147 = .ok (.iconst 4, 1) := by decide +kernel
theorem dX9_init_148 : decode cX9_init 148 = .ok (.if_icmp .ge 22, 3) := by decide +kernel
theorem dX9_init_151 : decode cX9_init 151 = .ok (.aload_n 0, 1) := by decide +kernel
theorem dX9_init_152 : decode cX9_init 152 = .ok (.getfield 42, 3) := by decide +kernel
theorem dX9_init_155 : decode cX9_init 155 = .ok (.iload_n 1, 1) := by decide +kernel
theorem dX9_init_156 : decode cX9_init 156 = .ok (.new 40, 3) := by decide +kernel
theorem dX9_init_159 : decode cX9_init 159 = .ok (.dup, 1) := by decide +kernel
theorem dX9_init_160 : decode cX9_init 160 = .ok (.invokespecial 77, 3) := by decide +kernel
theorem dX9_init_163 : decode cX9_init 163 = .ok (.aastore, 1) := by decide +kernel
theorem dX9_init_164 : decode cX9_init 164 = .ok (.iinc 1 1, 3) := by decide +kernel
theorem dX9_init_167 : decode cX9_init 167 = .ok (.goto (-21), 3) := by decide +kernel
theorem dX9_init_170 : decode cX9_init 170 = .ok (.aload_n 0, 1) := by decide +kernel
theorem dX9_init_171 : decode cX9_init 171 = .ok (.getfield 36, 3) := by decide +kernel
theorem dX9_init_174 : decode cX9_init 174 = .ok (.getfield 78, 3) := by decide +kernel
theorem dX9_init_177 : decode cX9_init 177 = .ok (.ldc 82, 2) := by decide +kernel
theorem dX9_init_179 : decode cX9_init 179 = .ok (.invokevirtual 84, 3) := by decide +kernel
theorem dX9_init_182 : decode cX9_init 182 = .ok (.aload_n 0, 1) := by decide +kernel
theorem dX9_init_183 : decode cX9_init 183 = .ok (.getfield 36, 3) := by decide +kernel
theorem dX9_init_186 : decode cX9_init 186 = .ok (.aload_n 0, 1) := by decide +kernel
theorem dX9_init_187 : decode cX9_init 187 = .ok (.getfield 25, 3) := by decide +kernel
theorem dX9_init_190 : decode cX9_init 190 = .ok (.iconst 0, 1) := by decide +kernel
theorem dX9_init_191 : decode cX9_init 191 = .ok (.aaload, 1) := by decide +kernel
theorem dX9_init_192 : decode cX9_init 192 = .ok (.invokevirtual 90, 3) := by decide +kernel
theorem dX9_init_195 : decode cX9_init 195 = .ok (.pop, 1) := by decide +kernel
theorem dX9_init_196 : decode cX9_init 196 = .ok (.aload_n 0, 1) := by decide +kernel
theorem dX9_init_197 : decode cX9_init 197 = .ok (.iconst 1, 1) := by decide +kernel
theorem dX9_init_198 : decode cX9_init 198 = .ok (.putfield 29, 3) := by decide +kernel
theorem dX9_init_201 : decode cX9_init 201 = .ok (.return_, 1) := by decide +kernel
theorem dX9_set_0 : decode cX9_set 0 = .ok (.aload_n 0, 1) := by decide +kernel
theorem dX9_set_1 : decode cX9_set 1 = .ok (.iload_n 1, 1) := by decide +kernel
theorem dX9_set_2 : decode cX9_set 2 = .ok (.iload_n 2, 1) := by decide +kernel
theorem dX9_set_3 : decode cX9_set 3 = .ok (.invokevirtual 94, 3) := by decide +kernel
theorem dX9_set_6 : decode cX9_set 6 = .ok (.ifCond .eq 15, 3) := by decide +kernel
theorem dX9_set_9 : decode cX9_set 9 = .ok (.iload_n 3, 1) := by decide +kernel
theorem dX9_set_10 : decode cX9_set 10 = .ok (.ifCond .lt 11, 3) := by decide +kernel
theorem dX9_set_13 : decode cX9_set 13 = .ok (.iload_n 3, 1) := by decide +kernel
theorem dX9_set_14 : decode cX9_set 14 = .ok (.iload_n 1, 1) := by decide +kernel
theorem dX9_set_15 : decode cX9_set 15 = .ok (.invokestatic 98, 3) := by decide +kernel
theorem dX9_set_18 : decode cX9_set 18 = .ok (.if_icmp .le 6, 3) := by decide +kernel
theorem dX9_set_21 : decode cX9_set 21 = .ok (.bipush (-2), 2) := by decide +kernel
theorem dX9_set_23 : decode cX9_set 23 = .ok (.ireturn, 1) := by decide +kernel
theorem dX9_set_24 : decode cX9_set 24 = .ok (.aload_n 0, 1) := by decide +kernel
theorem dX9_set_25 : decode cX9_set 25 = .ok (.iload_n 1, 1) := by decide +kernel
theorem dX9_set_26 : decode cX9_set 26 = .ok (.iload_n 2, 1) := by decide +kernel
theorem dX9_set_27 : decode cX9_set 27 = .ok (.invokevirtual 102, 3) := by decide +kernel
theorem dX9_set_30 : decode cX9_set 30 = .ok (.istore 4, 2) := by decide +kernel
theorem dX9_set_32 : decode cX9_set 32 = .ok (.iload_n 1, 1) := by decide +kernel
theorem dX9_set_33 : decode cX9_set 33 = .ok (.tableswitch 85 0 3 #[31, 42, 53, 69], 31) := by decide +kernel
theorem dX9_set_64 : decode cX9_set 64 = .ok (.aload_n 0, 1) := by decide +kernel
theorem dX9_set_65 : decode cX9_set 65 = .ok (.getfield 10, 3) := by decide +kernel
theorem dX9_set_68 : decode cX9_set 68 = .ok (.iload_n 3, 1) := by decide +kernel
theorem dX9_set_69 : decode cX9_set 69 = .ok (.putfield 106, 3) := by decide +kernel
theorem dX9_set_72 : decode cX9_set 72 = .ok (.goto 59, 3) := by decide +kernel
theorem dX9_set_75 : decode cX9_set 75 = .ok (.aload_n 0, 1) := by decide +kernel
theorem dX9_set_76 : decode cX9_set 76 = .ok (.getfield 10, 3) := by decide +kernel
theorem dX9_set_79 : decode cX9_set 79 = .ok (.iload_n 3, 1) := by decide +kernel
theorem dX9_set_80 : decode cX9_set 80 = .ok (.putfield 109, 3) := by decide +kernel
theorem dX9_set_83 : decode cX9_set 83 = .ok (.goto 48, 3) := by decide +kernel
theorem dX9_set_86 : decode cX9_set 86 = .ok (.aload_n 0, 1) := by decide +kernel
theorem dX9_set_87 : decode cX9_set 87 = .ok (.getfield 10, 3) := by decide +kernel
theorem dX9_set_90 : decode cX9_set 90 = .ok (.getfield 112, 3) := by decide +kernel
theorem dX9_set_93 : decode cX9_set 93 = .ok (.iload_n 2, 1) := by decide +kernel
theorem dX9_set_94 : decode cX9_set 94 = .ok (.aaload, 1) := by decide +kernel
theorem dX9_set_95 : decode cX9_set 95 = .ok (.iload_n 3, 1) := by decide +kernel
theorem dX9_set_96 : decode cX9_set 96 = .ok (.putfield 116, 3) := by decide +kernel
theorem dX9_set_99 : decode cX9_set 99 = .ok (.goto 32, 3) := by decide +kernel
theorem dX9_set_102 : decode cX9_set 102 = .ok (.aload_n 0, 1) := by decide +kernel
theorem dX9_set_103 : decode cX9_set 103 = .ok (.getfield 10, 3) := by decide +kernel
theorem dX9_set_106 : decode cX9_set 106 = .ok (.getfield 112, 3) := by decide +kernel
theorem dX9_set_109 : decode cX9_set 109 = .ok (.iload_n 2, 1) := by decide +kernel
theorem dX9_set_110 : decode cX9_set 110 = .ok (.aaload, 1) := by decide +kernel
theorem dX9_set_111 : decode cX9_set 111 = .ok (.iload_n 3, 1) := by decide +kernel
theorem dX9_set_112 : decode cX9_set 112 = .ok (.putfield 121, 3) := by decide +kernel
theorem dX9_set_115 : decode cX9_set 115 = .ok (.goto 16, 3) := by decide +kernel
theorem dX9_set_118 : decode cX9_set 118 = .ok (.aload_n 0, 1) := by decide +kernel
theorem dX9_set_119 : decode cX9_set 119 = .ok (.getfield 10, 3) := by decide +kernel
theorem dX9_set_122 : decode cX9_set 122 = .ok (.getfield 112, 3) := by decide +kernel
theorem dX9_set_125 : decode cX9_set 125 = .ok (.iload_n 2, 1) := by decide +kernel
theorem dX9_set_126 : decode cX9_set 126 = .ok (.aaload, 1) := by decide +kernel
theorem dX9_set_127 : decode cX9_set 127 = .ok (.iload_n 3, 1) := by decide +kernel
theorem dX9_set_128 : decode cX9_set 128 = .ok (.putfield 124, 3) := by decide +kernel
theorem dX9_set_131 : decode cX9_set 131 = .ok (.iload 4, 2) := by decide +kernel
theorem dX9_set_133 : decode cX9_set 133 = .ok (.ireturn, 1) := by decide +kernel
theorem dX9_groom_0 : decode cX9_groom 0 = .ok (.iload_n 1, 1) := by decide +kernel
theorem dX9_groom_1 : decode cX9_groom 1 = .ok (.invokestatic 127, 3) := by decide +kernel
theorem dX9_groom_4 : decode cX9_groom 4 = .ok (.ifCond .eq 23, 3) := by decide +kernel
theorem dX9_groom_7 : decode cX9_groom 7 = .ok (.iload_n 2, 1) := by decide +kernel
theorem dX9_groom_8 : decode cX9_groom 8 = .ok (.ifCond .lt 19, 3) := by decide +kernel
theorem dX9_groom_11 : decode cX9_groom 11 = .ok (.iload_n 2, 1) := by decide +kernel
theorem dX9_groom_12 : decode cX9_groom 12 = .ok (.bipush 9, 2) := by decide +kernel
theorem dX9_groom_14 : decode cX9_groom 14 = .ok (.if_icmp .gt 13, 3) := by decide +kernel
theorem dX9_groom_17 : decode cX9_groom 17 = .ok (.iload_n 3, 1) := by decide +kernel
theorem dX9_groom_18 : decode cX9_groom 18 = .ok (.ifCond .lt 9, 3) := by decide +kernel
theorem dX9_groom_21 : decode cX9_groom 21 = .ok (.iload_n 3, 1) := by decide +kernel
theorem dX9_groom_22 : decode cX9_groom 22 = .ok (.bipush 15, 2) := by decide +kernel
theorem dX9_groom_24 : decode cX9_groom 24 = .ok (.if_icmp .le 6, 3) := by decide +kernel
theorem dX9_groom_27 : decode cX9_groom 27 = .ok (.bipush (-2), 2) := by decide +kernel
theorem dX9_groom_29 : decode cX9_groom 29 = .ok (.ireturn, 1) := by decide +kernel
theorem dX9_groom_30 : decode cX9_groom 30 = .ok (.aload_n 0, 1) := by decide +kernel
theorem dX9_groom_31 : decode cX9_groom 31 = .ok (.getfield 10, 3) := by decide +kernel
theorem dX9_groom_34 : decode cX9_groom 34 = .ok (.getfield 131, 3) := by decide +kernel
theorem dX9_groom_37 : decode cX9_groom 37 = .ok (.bipush 6, 2) := by decide +kernel
theorem dX9_groom_39 : decode cX9_groom 39 = .ok (.if_icmp .lt 6, 3) := by decide +kernel
theorem dX9_groom_42 : decode cX9_groom 42 = .ok (.bipush (-4), 2) := by decide +kernel
theorem dX9_groom_44 : decode cX9_groom 44 = .ok (.ireturn, 1) := by decide +kernel
theorem dX9_groom_45 : decode cX9_groom 45 = .ok (.aload_n 0, 1) := by decide +kernel
theorem dX9_groom_46 : decode cX9_groom 46 = .ok (.getfield 10, 3) := by decide +kernel
theorem dX9_groom_49 : decode cX9_groom 49 = .ok (.getfield 112, 3) := by decide +kernel
theorem dX9_groom_52 : decode cX9_groom 52 = .ok (.aload_n 0, 1) := by decide +kernel
theorem dX9_groom_53 : decode cX9_groom 53 = .ok (.getfield 10, 3) := by decide +kernel
theorem dX9_groom_56 : decode cX9_groom 56 = .ok (.getfield 131, 3) := by decide +kernel
theorem dX9_groom_59 : decode cX9_groom 59 = .ok (.aaload, 1) := by decide +kernel
theorem dX9_groom_60 : decode cX9_groom 60 = .ok (.astore 4, 2) := by decide +kernel
theorem dX9_groom_62 : decode cX9_groom 62 = .ok (.aload 4, 2) := by decide +kernel
theorem dX9_groom_64 : decode cX9_groom 64 = .ok (.iload_n 1, 1) := by decide +kernel
theorem dX9_groom_65 : decode cX9_groom 65 = .ok (.putfield 134, 3) := by decide +kernel
theorem dX9_groom_68 : decode cX9_groom 68 = .ok (.aload 4, 2) := by decide +kernel
theorem dX9_groom_70 : decode cX9_groom 70 = .ok (.iload_n 2, 1) := by decide +kernel
theorem dX9_groom_71 : decode cX9_groom 71 = .ok (.putfield 116, 3) := by decide +kernel
theorem dX9_groom_74 : decode cX9_groom 74 = .ok (.aload 4, 2) := by decide +kernel
theorem dX9_groom_76 : decode cX9_groom 76 = .ok (.iload_n 3, 1) := by decide +kernel
theorem dX9_groom_77 : decode cX9_groom 77 = .ok (.putfield 121, 3) := by decide +kernel
theorem dX9_groom_80 : decode cX9_groom 80 = .ok (.aload 4, 2) := by decide +kernel
theorem dX9_groom_82 : decode cX9_groom 82 = .ok (.bipush 20, 2) := by decide +kernel
theorem dX9_groom_84 : decode cX9_groom 84 = .ok (.putfield 124, 3) := by decide +kernel
theorem dX9_groom_87 : decode cX9_groom 87 = .ok (.aload 4, 2) := by decide +kernel
theorem dX9_groom_89 : decode cX9_groom 89 = .ok (.aload_n 0, 1) := by decide +kernel
theorem dX9_groom_90 : decode cX9_groom 90 = .ok (.getfield 10, 3) := by decide +kernel
theorem dX9_groom_93 : decode cX9_groom 93 = .ok (.getfield 131, 3) := by decide +kernel
theorem dX9_groom_96 : decode cX9_groom 96 = .ok (.putfield 137, 3) := by decide +kernel
theorem dX9_groom_99 : decode cX9_groom 99 = .ok (.aload_n 0, 1) := by decide +kernel
theorem dX9_groom_100 : decode cX9_groom 100 = .ok (.getfield 10, 3) := by decide +kernel
theorem dX9_groom_103 : decode cX9_groom 103 = .ok (.dup, 1) := by decide +kernel
theorem dX9_groom_104 : decode cX9_groom 104 = .ok (.getfield 131, 3) := by decide +kernel
theorem dX9_groom_107 : decode cX9_groom 107 = .ok (.iconst 1, 1) := by decide +kernel
theorem dX9_groom_108 : decode cX9_groom 108 = .ok (.iadd, 1) := by decide +kernel
theorem dX9_groom_109 : decode cX9_groom 109 = .ok (.putfield 131, 3) := by decide +kernel
theorem dX9_groom_112 : decode cX9_groom 112 = .ok (.aload_n 0, 1) := by decide +kernel
theorem dX9_groom_113 : decode cX9_groom 113 = .ok (.getfield 10, 3) := by decide +kernel
theorem dX9_groom_116 : decode cX9_groom 116 = .ok (.getfield 131, 3) := by decide +kernel
theorem dX9_groom_119 : decode cX9_groom 119 = .ok (.iconst 1, 1) := by decide +kernel
theorem dX9_groom_120 : decode cX9_groom 120 = .ok (.isub, 1) := by decide +kernel
theorem dX9_groom_121 : decode cX9_groom 121 = .ok (.ireturn, 1) := by decide +kernel
theorem dX9_change_0 : decode cX9_change 0 = .ok (.aload_n 0, 1) := by decide +kernel
theorem dX9_change_1 : decode cX9_change 1 = .ok (.iload_n 1, 1) := by decide +kernel
theorem dX9_change_2 : decode cX9_change 2 = .ok (.invokevirtual 140, 3) := by decide +kernel
theorem dX9_change_5 : decode cX9_change 5 = .ok (.ifCond .eq 16, 3) := by decide +kernel
theorem dX9_change_8 : decode cX9_change 8 = .ok (.aload_n 0, 1) := by decide +kernel
theorem dX9_change_9 : decode cX9_change 9 = .ok (.iload_n 2, 1) := by decide +kernel
theorem dX9_change_10 : decode cX9_change 10 = .ok (.invokevirtual 140, 3) := by decide +kernel
theorem dX9_change_13 : decode cX9_change 13 = .ok (.ifCond .eq 8, 3) := by decide +kernel
theorem dX9_change_16 : decode cX9_change 16 = .ok (.iload_n 1, 1) := by decide +kernel
theorem dX9_change_17 : decode cX9_change 17 = .ok (.iload_n 2, 1) := by decide +kernel
theorem dX9_change_18 : decode cX9_change 18 = .ok (.if_icmp .ne 6, 3) := by decide +kernel
theorem dX9_change_21 : decode cX9_change 21 = .ok (.bipush (-2), 2) := by decide +kernel
theorem dX9_change_23 : decode cX9_change 23 = .ok (.ireturn, 1) := by decide +kernel
theorem dX9_change_24 : decode cX9_change 24 = .ok (.aload_n 0, 1) := by decide +kernel
theorem dX9_change_25 : decode cX9_change 25 = .ok (.getfield 10, 3) := by decide +kernel
theorem dX9_change_28 : decode cX9_change 28 = .ok (.getfield 112, 3) := by decide +kernel
theorem dX9_change_31 : decode cX9_change 31 = .ok (.iload_n 1, 1) := by decide +kernel
theorem dX9_change_32 : decode cX9_change 32 = .ok (.aaload, 1) := by decide +kernel
theorem dX9_change_33 : decode cX9_change 33 = .ok (.getfield 137, 3) := by decide +kernel
theorem dX9_change_36 : decode cX9_change 36 = .ok (.istore_n 3, 1) := by decide +kernel
theorem dX9_change_37 : decode cX9_change 37 = .ok (.aload_n 0, 1) := by decide +kernel
theorem dX9_change_38 : decode cX9_change 38 = .ok (.getfield 10, 3) := by decide +kernel
theorem dX9_change_41 : decode cX9_change 41 = .ok (.getfield 112, 3) := by decide +kernel
theorem dX9_change_44 : decode cX9_change 44 = .ok (.iload_n 1, 1) := by decide +kernel
theorem dX9_change_45 : decode cX9_change 45 = .ok (.aaload, 1) := by decide +kernel
theorem dX9_change_46 : decode cX9_change 46 = .ok (.aload_n 0, 1) := by decide +kernel
theorem dX9_change_47 : decode cX9_change 47 = .ok (.getfield 10, 3) := by decide +kernel
theorem dX9_change_50 : decode cX9_change 50 = .ok (.getfield 112, 3) := by decide +kernel
theorem dX9_change_53 : decode cX9_change 53 = .ok (.iload_n 2, 1) := by decide +kernel
theorem dX9_change_54 : decode cX9_change 54 = .ok (.aaload, 1) := by decide +kernel
theorem dX9_change_55 : decode cX9_change 55 = .ok (.getfield 137, 3) := by decide +kernel
theorem dX9_change_58 : decode cX9_change 58 = .ok (.putfield 137, 3) := by decide +kernel
theorem dX9_change_61 : decode cX9_change 61 = .ok (.aload_n 0, 1) := by decide +kernel
theorem dX9_change_62 : decode cX9_change 62 = .ok (.getfield 10, 3) := by decide +kernel
theorem dX9_change_65 : decode cX9_change 65 = .ok (.getfield 112, 3) := by decide +kernel
theorem dX9_change_68 : decode cX9_change 68 = .ok (.iload_n 2, 1) := by decide +kernel
theorem dX9_change_69 : decode cX9_change 69 = .ok (.aaload, 1) := by decide +kernel
theorem dX9_change_70 : decode cX9_change 70 = .ok (.iload_n 3, 1) := by decide +kernel
theorem dX9_change_71 : decode cX9_change 71 = .ok (.putfield 137, 3) := by decide +kernel
theorem dX9_change_74 : decode cX9_change 74 = .ok (.aload_n 0, 1) := by decide +kernel
theorem dX9_change_75 : decode cX9_change 75 = .ok (.getfield 10, 3) := by decide +kernel
theorem dX9_change_78 : decode cX9_change 78 = .ok (.getfield 112, 3) := by decide +kernel
theorem dX9_change_81 : decode cX9_change 81 = .ok (.iload_n 1, 1) := by decide +kernel
theorem dX9_change_82 : decode cX9_change 82 = .ok (.aaload, 1) := by decide +kernel
theorem dX9_change_83 : decode cX9_change 83 = .ok (.getfield 137, 3) := by decide +kernel
theorem dX9_change_86 : decode cX9_change 86 = .ok (.ireturn, 1) := by decide +kernel
theorem dX9_told_0 : decode cX9_told 0 = .ok (.aload_n 0, 1) := by decide +kernel
theorem dX9_told_1 : decode cX9_told 1 = .ok (.iload_n 2, 1) := by decide +kernel
theorem dX9_told_2 : decode cX9_told 2 = .ok (.iload_n 1, 1) := by decide +kernel
theorem dX9_told_3 : decode cX9_told 3 = .ok (.invokevirtual 94, 3) := by decide +kernel
theorem dX9_told_6 : decode cX9_told 6 = .ok (.ifCond .eq 10, 3) := by decide +kernel
theorem dX9_told_9 : decode cX9_told 9 = .ok (.aload_n 0, 1) := by decide +kernel
theorem dX9_told_10 : decode cX9_told 10 = .ok (.iload_n 2, 1) := by decide +kernel
theorem dX9_told_11 : decode cX9_told 11 = .ok (.iload_n 1, 1) := by decide +kernel
theorem dX9_told_12 : decode cX9_told 12 = .ok (.invokevirtual 102, 3) := by decide +kernel
theorem dX9_told_15 : decode cX9_told 15 = .ok (.ireturn, 1) := by decide +kernel
theorem dX9_told_16 : decode cX9_told 16 = .ok (.aload_n 0, 1) := by decide +kernel
theorem dX9_told_17 : decode cX9_told 17 = .ok (.iload_n 1, 1) := by decide +kernel
theorem dX9_told_18 : decode cX9_told 18 = .ok (.invokevirtual 140, 3) := by decide +kernel
theorem dX9_told_21 : decode cX9_told 21 = .ok (.ifCond .eq 14, 3) := by decide +kernel
theorem dX9_told_24 : decode cX9_told 24 = .ok (.iload_n 2, 1) := by decide +kernel
theorem dX9_told_25 : decode cX9_told 25 = .ok (.iconst 5, 1) := by decide +kernel
theorem dX9_told_26 : decode cX9_told 26 = .ok (.if_icmp .lt 9, 3) := by decide +kernel
theorem dX9_told_29 : decode cX9_told 29 = .ok (.iload_n 2, 1) := by decide +kernel
theorem dX9_told_30 : decode cX9_told 30 = .ok (.bipush 10, 2) := by decide +kernel
theorem dX9_told_32 : decode cX9_told 32 = .ok (.if_icmp .le 6, 3) := by decide +kernel
theorem dX9_told_35 : decode cX9_told 35 = .ok (.bipush (-2), 2) := by decide +kernel
theorem dX9_told_37 : decode cX9_told 37 = .ok (.ireturn, 1) := by decide +kernel
theorem dX9_told_38 : decode cX9_told 38 = .ok (.aload_n 0, 1) := by decide +kernel
theorem dX9_told_39 : decode cX9_told 39 = .ok (.iload_n 1, 1) := by decide +kernel
theorem dX9_told_40 : decode cX9_told 40 = .ok (.invokevirtual 143, 3) := by decide +kernel
theorem dX9_told_43 : decode cX9_told 43 = .ok (.iload_n 2, 1) := by decide +kernel
theorem dX9_told_44 : decode cX9_told 44 = .ok (.tableswitch 84 5 9 #[36, 44, 52, 60, 72], 36) := by decide +kernel
theorem dX9_told_80 : decode cX9_told 80 = .ok (.aload_n 0, 1) := by decide +kernel
theorem dX9_told_81 : decode cX9_told 81 = .ok (.getfield 49, 3) := by decide +kernel
theorem dX9_told_84 : decode cX9_told 84 = .ok (.getfield 147, 3) := by decide +kernel
theorem dX9_told_87 : decode cX9_told 87 = .ok (.ireturn, 1) := by decide +kernel
theorem dX9_told_88 : decode cX9_told 88 = .ok (.aload_n 0, 1) := by decide +kernel
theorem dX9_told_89 : decode cX9_told 89 = .ok (.getfield 49, 3) := by decide +kernel
theorem dX9_told_92 : decode cX9_told 92 = .ok (.getfield 148, 3) := by decide +kernel
theorem dX9_told_95 : decode cX9_told 95 = .ok (.ireturn, 1) := by decide +kernel
theorem dX9_told_96 : decode cX9_told 96 = .ok (.aload_n 0, 1) := by decide +kernel
theorem dX9_told_97 : decode cX9_told 97 = .ok (.getfield 49, 3) := by decide +kernel
theorem dX9_told_100 : decode cX9_told 100 = .ok (.getfield 151, 3) := by decide +kernel
theorem dX9_told_103 : decode cX9_told 103 = .ok (.ireturn, 1) := by decide +kernel
theorem dX9_told_104 : decode cX9_told 104 = .ok (.aload_n 0, 1) := by decide +kernel
theorem dX9_told_105 : decode cX9_told 105 = .ok (.getfield 49, 3) := by decide +kernel
theorem dX9_told_108 : decode cX9_told 108 = .ok (.aload_n 0, 1) := by decide +kernel
theorem dX9_told_109 : decode cX9_told 109 = .ok (.invokevirtual 154, 3) := by decide +kernel
theorem dX9_told_112 : decode cX9_told 112 = .ok (.invokevirtual 158, 3) := by decide +kernel
theorem dX9_told_115 : decode cX9_told 115 = .ok (.ireturn, 1) := by decide +kernel
theorem dX9_told_116 : decode cX9_told 116 = .ok (.aload_n 0, 1) := by decide +kernel
theorem dX9_told_117 : decode cX9_told 117 = .ok (.getfield 49, 3) := by decide +kernel
theorem dX9_told_120 : decode cX9_told 120 = .ok (.aload_n 0, 1) := by decide +kernel
theorem dX9_told_121 : decode cX9_told 121 = .ok (.invokevirtual 154, 3) := by decide +kernel
theorem dX9_told_124 : decode cX9_told 124 = .ok (.invokevirtual 161, 3) := by decide +kernel
theorem dX9_told_127 : decode cX9_told 127 = .ok (.ireturn, 1) := by decide +kernel
theorem dX9_told_128 : decode cX9_told 128 = .ok (.aload_n 0, 1) := by decide +kernel
theorem dX9_told_129 : decode cX9_told 129 = .ok (.getfield 49, 3) := by decide +kernel
theorem dX9_told_132 : decode cX9_told 132 = .ok (.aload_n 0, 1) := by decide +kernel
theorem dX9_told_133 : decode cX9_told 133 = .ok (.invokevirtual 154, 3) := by decide +kernel
theorem dX9_told_136 : decode cX9_told 136 = .ok (.invokevirtual 164, 3) := by decide +kernel
theorem dX9_told_139 : decode cX9_told 139 = .ok (.ireturn, 1) := by decide +kernel
theorem dX9_isSettable_0 : decode cX9_isSettable 0 = .ok (.iload_n 1, 1) := by decide +kernel
theorem dX9_isSettable_1 : decode cX9_isSettable 1 = .ok (.ifCond .eq 26, 3) := by decide +kernel
theorem dX9_isSettable_4 : decode cX9_isSettable 4 = .ok (.iload_n 1, 1) := by decide +kernel
theorem dX9_isSettable_5 : decode cX9_isSettable 5 = .ok (.iconst 1, 1) := by decide +kernel
theorem dX9_isSettable_6 : decode cX9_isSettable 6 = .ok (.if_icmp .eq 21, 3) := by decide +kernel
theorem dX9_isSettable_9 : decode cX9_isSettable 9 = .ok (.iload_n 1, 1) := by decide +kernel
theorem dX9_isSettable_10 : decode cX9_isSettable 10 = .ok (.iconst 2, 1) := by decide +kernel
theorem dX9_isSettable_11 : decode cX9_isSettable 11 = .ok (.if_icmp .lt 20, 3) := by decide +kernel
theorem dX9_isSettable_14 : decode cX9_isSettable 14 = .ok (.iload_n 1, 1) := by decide +kernel
theorem dX9_isSettable_15 : decode cX9_isSettable 15 = .ok (.iconst 4, 1) := by decide +kernel
theorem dX9_isSettable_16 : decode cX9_isSettable 16 = .ok (.if_icmp .gt 15, 3) := by decide +kernel
theorem dX9_isSettable_19 : decode cX9_isSettable 19 = .ok (.aload_n 0, 1) := by decide +kernel
theorem dX9_isSettable_20 : decode cX9_isSettable 20 = .ok (.iload_n 2, 1) := by decide +kernel
theorem dX9_isSettable_21 : decode cX9_isSettable 21 = .ok (.invokevirtual 140, 3) := by decide +kernel
theorem dX9_isSettable_24 : decode cX9_isSettable 24 = .ok (.ifCond .eq 7, 3) := by decide +kernel
theorem dX9_isSettable_27 : decode cX9_isSettable 27 = .ok (.iconst 1, 1) := by decide +kernel
theorem dX9_isSettable_28 : decode cX9_isSettable 28 = .ok (.goto 4, 3) := by decide +kernel
theorem dX9_isSettable_31 : decode cX9_isSettable 31 = .ok (.iconst 0, 1) := by decide +kernel
theorem dX9_isSettable_32 : decode cX9_isSettable 32 = .ok (.ireturn, 1) := by decide +kernel
theorem dX9_settable_0 : decode cX9_settable 0 = .ok (.iload_n 1, 1) := by decide +kernel
theorem dX9_settable_1 : decode cX9_settable 1 = .ok (.tableswitch 73 0 3 #[31, 39, 47, 60], 31) := by decide +kernel
theorem dX9_settable_32 : decode cX9_settable 32 = .ok (.aload_n 0, 1) := by decide +kernel
theorem dX9_settable_33 : decode cX9_settable 33 = .ok (.getfield 10, 3) := by decide +kernel
theorem dX9_settable_36 : decode cX9_settable 36 = .ok (.getfield 106, 3) := by decide +kernel
theorem dX9_settable_39 : decode cX9_settable 39 = .ok (.ireturn, 1) := by decide +kernel
theorem dX9_settable_40 : decode cX9_settable 40 = .ok (.aload_n 0, 1) := by decide +kernel
theorem dX9_settable_41 : decode cX9_settable 41 = .ok (.getfield 10, 3) := by decide +kernel
theorem dX9_settable_44 : decode cX9_settable 44 = .ok (.getfield 109, 3) := by decide +kernel
theorem dX9_settable_47 : decode cX9_settable 47 = .ok (.ireturn, 1) := by decide +kernel
theorem dX9_settable_48 : decode cX9_settable 48 = .ok (.aload_n 0, 1) := by decide +kernel
theorem dX9_settable_49 : decode cX9_settable 49 = .ok (.getfield 10, 3) := by decide +kernel
theorem dX9_settable_52 : decode cX9_settable 52 = .ok (.getfield 112, 3) := by decide +kernel
theorem dX9_settable_55 : decode cX9_settable 55 = .ok (.iload_n 2, 1) := by decide +kernel
theorem dX9_settable_56 : decode cX9_settable 56 = .ok (.aaload, 1) := by decide +kernel
theorem dX9_settable_57 : decode cX9_settable 57 = .ok (.getfield 116, 3) := by decide +kernel
theorem dX9_settable_60 : decode cX9_settable 60 = .ok (.ireturn, 1) := by decide +kernel
theorem dX9_settable_61 : decode cX9_settable 61 = .ok (.aload_n 0, 1) := by decide +kernel
theorem dX9_settable_62 : decode cX9_settable 62 = .ok (.getfield 10, 3) := by decide +kernel
theorem dX9_settable_65 : decode cX9_settable 65 = .ok (.getfield 112, 3) := by decide +kernel
theorem dX9_settable_68 : decode cX9_settable 68 = .ok (.iload_n 2, 1) := by decide +kernel
theorem dX9_settable_69 : decode cX9_settable 69 = .ok (.aaload, 1) := by decide +kernel
theorem dX9_settable_70 : decode cX9_settable 70 = .ok (.getfield 121, 3) := by decide +kernel
theorem dX9_settable_73 : decode cX9_settable 73 = .ok (.ireturn, 1) := by decide +kernel
theorem dX9_settable_74 : decode cX9_settable 74 = .ok (.aload_n 0, 1) := by decide +kernel
theorem dX9_settable_75 : decode cX9_settable 75 = .ok (.getfield 10, 3) := by decide +kernel
theorem dX9_settable_78 : decode cX9_settable 78 = .ok (.getfield 112, 3) := by decide +kernel
theorem dX9_settable_81 : decode cX9_settable 81 = .ok (.iload_n 2, 1) := by decide +kernel
theorem dX9_settable_82 : decode cX9_settable 82 = .ok (.aaload, 1) := by decide +kernel
theorem dX9_settable_83 : decode cX9_settable 83 = .ok (.getfield 124, 3) := by decide +kernel
theorem dX9_settable_86 : decode cX9_settable 86 = .ok (.ireturn, 1) := by decide +kernel
theorem dX9_lastOf_0 : decode cX9_lastOf 0 = .ok (.iload_n 0, 1) := by decide +kernel
theorem dX9_lastOf_1 : decode cX9_lastOf 1 = .ok (.tableswitch 41 0 3 #[31, 41, 35, 38], 31) := by decide +kernel
theorem dX9_lastOf_32 : decode cX9_lastOf 32 = .ok (.sipush 999, 3) := by decide +kernel
theorem dX9_lastOf_35 : decode cX9_lastOf 35 = .ok (.ireturn, 1) := by decide +kernel
theorem dX9_lastOf_36 : decode cX9_lastOf 36 = .ok (.bipush 9, 2) := by decide +kernel
theorem dX9_lastOf_38 : decode cX9_lastOf 38 = .ok (.ireturn, 1) := by decide +kernel
theorem dX9_lastOf_39 : decode cX9_lastOf 39 = .ok (.bipush 15, 2) := by decide +kernel
theorem dX9_lastOf_41 : decode cX9_lastOf 41 = .ok (.ireturn, 1) := by decide +kernel
theorem dX9_lastOf_42 : decode cX9_lastOf 42 = .ok (.bipush 99, 2) := by decide +kernel
theorem dX9_lastOf_44 : decode cX9_lastOf 44 = .ok (.ireturn, 1) := by decide +kernel
theorem dX9_isGroom_0 : decode cX9_isGroom 0 = .ok (.iload_n 1, 1) := by decide +kernel
theorem dX9_isGroom_1 : decode cX9_isGroom 1 = .ok (.ifCond .lt 18, 3) := by decide +kernel
theorem dX9_isGroom_4 : decode cX9_isGroom 4 = .ok (.iload_n 1, 1) := by decide +kernel
theorem dX9_isGroom_5 : decode cX9_isGroom 5 = .ok (.aload_n 0, 1) := by decide +kernel
theorem dX9_isGroom_6 : decode cX9_isGroom 6 = .ok (.getfield 10, 3) := by decide +kernel
theorem dX9_isGroom_9 : decode cX9_isGroom 9 = .ok (.getfield 131, 3) := by decide +kernel
theorem dX9_isGroom_12 : decode cX9_isGroom 12 = .ok (.if_icmp .ge 7, 3) := by decide +kernel
theorem dX9_isGroom_15 : decode cX9_isGroom 15 = .ok (.iconst 1, 1) := by decide +kernel
theorem dX9_isGroom_16 : decode cX9_isGroom 16 = .ok (.goto 4, 3) := by decide +kernel
theorem dX9_isGroom_19 : decode cX9_isGroom 19 = .ok (.iconst 0, 1) := by decide +kernel
theorem dX9_isGroom_20 : decode cX9_isGroom 20 = .ok (.ireturn, 1) := by decide +kernel
theorem dX9_isKind_0 : decode cX9_isKind 0 = .ok (.iload_n 0, 1) := by decide +kernel
theorem dX9_isKind_1 : decode cX9_isKind 1 = .ok (.ifCond .lt 13, 3) := by decide +kernel
theorem dX9_isKind_4 : decode cX9_isKind 4 = .ok (.iload_n 0, 1) := by decide +kernel
theorem dX9_isKind_5 : decode cX9_isKind 5 = .ok (.bipush 6, 2) := by decide +kernel
theorem dX9_isKind_7 : decode cX9_isKind 7 = .ok (.if_icmp .ge 7, 3) := by decide +kernel
theorem dX9_isKind_10 : decode cX9_isKind 10 = .ok (.iconst 1, 1) := by decide +kernel
theorem dX9_isKind_11 : decode cX9_isKind 11 = .ok (.goto 4, 3) := by decide +kernel
theorem dX9_isKind_14 : decode cX9_isKind 14 = .ok (.iconst 0, 1) := by decide +kernel
theorem dX9_isKind_15 : decode cX9_isKind 15 = .ok (.ireturn, 1) := by decide +kernel
theorem dX9_rule_0 : decode cX9_rule 0 = .ok (.aload_n 0, 1) := by decide +kernel
theorem dX9_rule_1 : decode cX9_rule 1 = .ok (.getfield 25, 3) := by decide +kernel
theorem dX9_rule_4 : decode cX9_rule 4 = .ok (.aload_n 0, 1) := by decide +kernel
theorem dX9_rule_5 : decode cX9_rule 5 = .ok (.getfield 10, 3) := by decide +kernel
theorem dX9_rule_8 : decode cX9_rule 8 = .ok (.getfield 167, 3) := by decide +kernel
theorem dX9_rule_11 : decode cX9_rule 11 = .ok (.aaload, 1) := by decide +kernel
theorem dX9_rule_12 : decode cX9_rule 12 = .ok (.areturn, 1) := by decide +kernel
theorem dX9_see_0 : decode cX9_see 0 = .ok (.aload_n 0, 1) := by decide +kernel
theorem dX9_see_1 : decode cX9_see 1 = .ok (.getfield 10, 3) := by decide +kernel
theorem dX9_see_4 : decode cX9_see 4 = .ok (.getfield 112, 3) := by decide +kernel
theorem dX9_see_7 : decode cX9_see 7 = .ok (.iload_n 1, 1) := by decide +kernel
theorem dX9_see_8 : decode cX9_see 8 = .ok (.aaload, 1) := by decide +kernel
theorem dX9_see_9 : decode cX9_see 9 = .ok (.astore 4, 2) := by decide +kernel
theorem dX9_see_11 : decode cX9_see 11 = .ok (.aload_n 0, 1) := by decide +kernel
theorem dX9_see_12 : decode cX9_see 12 = .ok (.getfield 49, 3) := by decide +kernel
theorem dX9_see_15 : decode cX9_see 15 = .ok (.aload 4, 2) := by decide +kernel
theorem dX9_see_17 : decode cX9_see 17 = .ok (.getfield 134, 3) := by decide +kernel
theorem dX9_see_20 : decode cX9_see 20 = .ok (.putfield 147, 3) := by decide +kernel
theorem dX9_see_23 : decode cX9_see 23 = .ok (.aload_n 0, 1) := by decide +kernel
theorem dX9_see_24 : decode cX9_see 24 = .ok (.getfield 49, 3) := by decide +kernel
theorem dX9_see_27 : decode cX9_see 27 = .ok (.aload 4, 2) := by decide +kernel
theorem dX9_see_29 : decode cX9_see 29 = .ok (.getfield 116, 3) := by decide +kernel
theorem dX9_see_32 : decode cX9_see 32 = .ok (.putfield 169, 3) := by decide +kernel
theorem dX9_see_35 : decode cX9_see 35 = .ok (.aload_n 0, 1) := by decide +kernel
theorem dX9_see_36 : decode cX9_see 36 = .ok (.getfield 49, 3) := by decide +kernel
theorem dX9_see_39 : decode cX9_see 39 = .ok (.aload 4, 2) := by decide +kernel
theorem dX9_see_41 : decode cX9_see 41 = .ok (.getfield 124, 3) := by decide +kernel
theorem dX9_see_44 : decode cX9_see 44 = .ok (.putfield 170, 3) := by decide +kernel
theorem dX9_see_47 : decode cX9_see 47 = .ok (.aload_n 0, 1) := by decide +kernel
theorem dX9_see_48 : decode cX9_see 48 = .ok (.getfield 49, 3) := by decide +kernel
theorem dX9_see_51 : decode cX9_see 51 = .ok (.aload_n 0, 1) := by decide +kernel
theorem dX9_see_52 : decode cX9_see 52 = .ok (.getfield 10, 3) := by decide +kernel
theorem dX9_see_55 : decode cX9_see 55 = .ok (.getfield 106, 3) := by decide +kernel
theorem dX9_see_58 : decode cX9_see 58 = .ok (.putfield 171, 3) := by decide +kernel
theorem dX9_see_61 : decode cX9_see 61 = .ok (.aload_n 0, 1) := by decide +kernel
theorem dX9_see_62 : decode cX9_see 62 = .ok (.getfield 49, 3) := by decide +kernel
theorem dX9_see_65 : decode cX9_see 65 = .ok (.iload_n 2, 1) := by decide +kernel
theorem dX9_see_66 : decode cX9_see 66 = .ok (.putfield 148, 3) := by decide +kernel
theorem dX9_see_69 : decode cX9_see 69 = .ok (.aload_n 0, 1) := by decide +kernel
theorem dX9_see_70 : decode cX9_see 70 = .ok (.getfield 49, 3) := by decide +kernel
theorem dX9_see_73 : decode cX9_see 73 = .ok (.iload_n 2, 1) := by decide +kernel
theorem dX9_see_74 : decode cX9_see 74 = .ok (.iload_n 1, 1) := by decide +kernel
theorem dX9_see_75 : decode cX9_see 75 = .ok (.if_icmp .ne 7, 3) := by decide +kernel
theorem dX9_see_78 : decode cX9_see 78 = .ok (.iconst 1, 1) := by decide +kernel
theorem dX9_see_79 : decode cX9_see 79 = .ok (.goto 4, 3) := by decide +kernel
theorem dX9_see_82 : decode cX9_see 82 = .ok (.iconst 0, 1) := by decide +kernel
theorem dX9_see_83 : decode cX9_see 83 = .ok (.putfield 172, 3) := by decide +kernel
theorem dX9_see_86 : decode cX9_see 86 = .ok (.aload_n 0, 1) := by decide +kernel
theorem dX9_see_87 : decode cX9_see 87 = .ok (.getfield 49, 3) := by decide +kernel
theorem dX9_see_90 : decode cX9_see 90 = .ok (.iload_n 3, 1) := by decide +kernel
theorem dX9_see_91 : decode cX9_see 91 = .ok (.putfield 151, 3) := by decide +kernel
theorem dX9_see_94 : decode cX9_see 94 = .ok (.return_, 1) := by decide +kernel
theorem dX9_seeIn_0 : decode cX9_seeIn 0 = .ok (.aload_n 0, 1) := by decide +kernel
theorem dX9_seeIn_1 : decode cX9_seeIn 1 = .ok (.iload_n 1, 1) := by decide +kernel
theorem dX9_seeIn_2 : decode cX9_seeIn 2 = .ok (.iload_n 2, 1) := by decide +kernel
theorem dX9_seeIn_3 : decode cX9_seeIn 3 = .ok (.aload_n 0, 1) := by decide +kernel
theorem dX9_seeIn_4 : decode cX9_seeIn 4 = .ok (.getfield 10, 3) := by decide +kernel
theorem dX9_seeIn_7 : decode cX9_seeIn 7 = .ok (.getfield 112, 3) := by decide +kernel
theorem dX9_seeIn_10 : decode cX9_seeIn 10 = .ok (.iload_n 2, 1) := by decide +kernel
theorem dX9_seeIn_11 : decode cX9_seeIn 11 = .ok (.aaload, 1) := by decide +kernel
theorem dX9_seeIn_12 : decode cX9_seeIn 12 = .ok (.getfield 121, 3) := by decide +kernel
theorem dX9_seeIn_15 : decode cX9_seeIn 15 = .ok (.invokevirtual 175, 3) := by decide +kernel
theorem dX9_seeIn_18 : decode cX9_seeIn 18 = .ok (.return_, 1) := by decide +kernel
theorem dX9_seeAsIs_0 : decode cX9_seeAsIs 0 = .ok (.aload_n 0, 1) := by decide +kernel
theorem dX9_seeAsIs_1 : decode cX9_seeAsIs 1 = .ok (.iload_n 1, 1) := by decide +kernel
theorem dX9_seeAsIs_2 : decode cX9_seeAsIs 2 = .ok (.aload_n 0, 1) := by decide +kernel
theorem dX9_seeAsIs_3 : decode cX9_seeAsIs 3 = .ok (.getfield 10, 3) := by decide +kernel
theorem dX9_seeAsIs_6 : decode cX9_seeAsIs 6 = .ok (.getfield 112, 3) := by decide +kernel
theorem dX9_seeAsIs_9 : decode cX9_seeAsIs 9 = .ok (.iload_n 1, 1) := by decide +kernel
theorem dX9_seeAsIs_10 : decode cX9_seeAsIs 10 = .ok (.aaload, 1) := by decide +kernel
theorem dX9_seeAsIs_11 : decode cX9_seeAsIs 11 = .ok (.getfield 137, 3) := by decide +kernel
theorem dX9_seeAsIs_14 : decode cX9_seeAsIs 14 = .ok (.invokevirtual 179, 3) := by decide +kernel
theorem dX9_seeAsIs_17 : decode cX9_seeAsIs 17 = .ok (.return_, 1) := by decide +kernel
theorem dX9_feed_0 : decode cX9_feed 0 = .ok (.iload_n 1, 1) := by decide +kernel
theorem dX9_feed_1 : decode cX9_feed 1 = .ok (.ifCond .lt 10, 3) := by decide +kernel
theorem dX9_feed_4 : decode cX9_feed 4 = .ok (.iload_n 1, 1) := by decide +kernel
theorem dX9_feed_5 : decode cX9_feed 5 = .ok (.sipush 255, 3) := by decide +kernel
theorem dX9_feed_8 : decode cX9_feed 8 = .ok (.if_icmp .le 6, 3) := by decide +kernel
theorem dX9_feed_11 : decode cX9_feed 11 = .ok (.bipush (-2), 2) := by decide +kernel
theorem dX9_feed_13 : decode cX9_feed 13 = .ok (.ireturn, 1) := by decide +kernel
theorem dX9_feed_14 : decode cX9_feed 14 = .ok (.aload_n 0, 1) := by decide +kernel
theorem dX9_feed_15 : decode cX9_feed 15 = .ok (.getfield 36, 3) := by decide +kernel
theorem dX9_feed_18 : decode cX9_feed 18 = .ok (.getfield 78, 3) := by decide +kernel
theorem dX9_feed_21 : decode cX9_feed 21 = .ok (.astore_n 2, 1) := by decide +kernel
theorem dX9_feed_22 : decode cX9_feed 22 = .ok (.aload_n 2, 1) := by decide +kernel
theorem dX9_feed_23 : decode cX9_feed 23 = .ok (.getfield 183, 3) := by decide +kernel
theorem dX9_feed_26 : decode cX9_feed 26 = .ok (.sipush 160, 3) := by decide +kernel
theorem dX9_feed_29 : decode cX9_feed 29 = .ok (.if_icmp .lt 6, 3) := by decide +kernel
theorem dX9_feed_32 : decode cX9_feed 32 = .ok (.bipush (-4), 2) := by decide +kernel
theorem dX9_feed_34 : decode cX9_feed 34 = .ok (.ireturn, 1) := by decide +kernel
theorem dX9_feed_35 : decode cX9_feed 35 = .ok (.aload_n 2, 1) := by decide +kernel
theorem dX9_feed_36 : decode cX9_feed 36 = .ok (.getfield 184, 3) := by decide +kernel
theorem dX9_feed_39 : decode cX9_feed 39 = .ok (.aload_n 2, 1) := by decide +kernel
theorem dX9_feed_40 : decode cX9_feed 40 = .ok (.getfield 183, 3) := by decide +kernel
theorem dX9_feed_43 : decode cX9_feed 43 = .ok (.iload_n 1, 1) := by decide +kernel
theorem dX9_feed_44 : decode cX9_feed 44 = .ok (.iastore, 1) := by decide +kernel
theorem dX9_feed_45 : decode cX9_feed 45 = .ok (.aload_n 2, 1) := by decide +kernel
theorem dX9_feed_46 : decode cX9_feed 46 = .ok (.dup, 1) := by decide +kernel
theorem dX9_feed_47 : decode cX9_feed 47 = .ok (.getfield 183, 3) := by decide +kernel
theorem dX9_feed_50 : decode cX9_feed 50 = .ok (.iconst 1, 1) := by decide +kernel
theorem dX9_feed_51 : decode cX9_feed 51 = .ok (.iadd, 1) := by decide +kernel
theorem dX9_feed_52 : decode cX9_feed 52 = .ok (.putfield 183, 3) := by decide +kernel
theorem dX9_feed_55 : decode cX9_feed 55 = .ok (.aload_n 2, 1) := by decide +kernel
theorem dX9_feed_56 : decode cX9_feed 56 = .ok (.getfield 183, 3) := by decide +kernel
theorem dX9_feed_59 : decode cX9_feed 59 = .ok (.ireturn, 1) := by decide +kernel
theorem dX9_text_0 : decode cX9_text 0 = .ok (.aload_n 0, 1) := by decide +kernel
theorem dX9_text_1 : decode cX9_text 1 = .ok (.getfield 29, 3) := by decide +kernel
theorem dX9_text_4 : decode cX9_text 4 = .ok (.bipush 6, 2) := by decide +kernel
theorem dX9_text_6 : decode cX9_text 6 = .ok (.if_icmp .lt 6, 3) := by decide +kernel
theorem dX9_text_9 : decode cX9_text 9 = .ok (.bipush (-4), 2) := by decide +kernel
theorem dX9_text_11 : decode cX9_text 11 = .ok (.ireturn, 1) := by decide +kernel
theorem dX9_text_12 : decode cX9_text 12 = .ok (.aload_n 0, 1) := by decide +kernel
theorem dX9_text_13 : decode cX9_text 13 = .ok (.getfield 36, 3) := by decide +kernel
theorem dX9_text_16 : decode cX9_text 16 = .ok (.aload_n 0, 1) := by decide +kernel
theorem dX9_text_17 : decode cX9_text 17 = .ok (.getfield 25, 3) := by decide +kernel
theorem dX9_text_20 : decode cX9_text 20 = .ok (.aload_n 0, 1) := by decide +kernel
theorem dX9_text_21 : decode cX9_text 21 = .ok (.getfield 29, 3) := by decide +kernel
theorem dX9_text_24 : decode cX9_text 24 = .ok (.aaload, 1) := by decide +kernel
theorem dX9_text_25 : decode cX9_text 25 = .ok (.invokevirtual 90, 3) := by decide +kernel
theorem dX9_text_28 : decode cX9_text 28 = .ok (.istore_n 1, 1) := by decide +kernel
theorem dX9_text_29 : decode cX9_text 29 = .ok (.iload_n 1, 1) := by decide +kernel
theorem dX9_text_30 : decode cX9_text 30 = .ok (.iconst (-1), 1) := by decide +kernel
theorem dX9_text_31 : decode cX9_text 31 = .ok (.if_icmp .eq 8, 3) := by decide +kernel
theorem dX9_text_34 : decode cX9_text 34 = .ok (.bipush (-100), 2) := by decide +kernel
theorem dX9_text_36 : decode cX9_text 36 = .ok (.iload_n 1, 1) := by decide +kernel
theorem dX9_text_37 : decode cX9_text 37 = .ok (.isub, 1) := by decide +kernel
theorem dX9_text_38 : decode cX9_text 38 = .ok (.ireturn, 1) := by decide +kernel
theorem dX9_text_39 : decode cX9_text 39 = .ok (.aload_n 0, 1) := by decide +kernel
theorem dX9_text_40 : decode cX9_text 40 = .ok (.dup, 1) := by decide +kernel
theorem dX9_text_41 : decode cX9_text 41 = .ok (.getfield 29, 3) := by decide +kernel
theorem dX9_text_44 : decode cX9_text 44 = .ok (.iconst 1, 1) := by decide +kernel
theorem dX9_text_45 : decode cX9_text 45 = .ok (.iadd, 1) := by decide +kernel
theorem dX9_text_46 : decode cX9_text 46 = .ok (.putfield 29, 3) := by decide +kernel
theorem dX9_text_49 : decode cX9_text 49 = .ok (.aload_n 0, 1) := by decide +kernel
theorem dX9_text_50 : decode cX9_text 50 = .ok (.getfield 29, 3) := by decide +kernel
theorem dX9_text_53 : decode cX9_text 53 = .ok (.iconst 1, 1) := by decide +kernel
theorem dX9_text_54 : decode cX9_text 54 = .ok (.isub, 1) := by decide +kernel
theorem dX9_text_55 : decode cX9_text 55 = .ok (.ireturn, 1) := by decide +kernel
theorem dX9_force_0 : decode cX9_force 0 = .ok (.iload_n 1, 1) := by decide +kernel
theorem dX9_force_1 : decode cX9_force 1 = .ok (.ifCond .lt 11, 3) := by decide +kernel
theorem dX9_force_4 : decode cX9_force 4 = .ok (.iload_n 1, 1) := by decide +kernel
theorem dX9_force_5 : decode cX9_force 5 = .ok (.aload_n 0, 1) := by decide +kernel
theorem dX9_force_6 : decode cX9_force 6 = .ok (.getfield 29, 3) := by decide +kernel
theorem dX9_force_9 : decode cX9_force 9 = .ok (.if_icmp .lt 6, 3) := by decide +kernel
theorem dX9_force_12 : decode cX9_force 12 = .ok (.bipush (-2), 2) := by decide +kernel
theorem dX9_force_14 : decode cX9_force 14 = .ok (.ireturn, 1) := by decide +kernel
theorem dX9_force_15 : decode cX9_force 15 = .ok (.aload_n 0, 1) := by decide +kernel
theorem dX9_force_16 : decode cX9_force 16 = .ok (.getfield 10, 3) := by decide +kernel
theorem dX9_force_19 : decode cX9_force 19 = .ok (.getfield 167, 3) := by decide +kernel
theorem dX9_force_22 : decode cX9_force 22 = .ok (.istore_n 2, 1) := by decide +kernel
theorem dX9_force_23 : decode cX9_force 23 = .ok (.aload_n 0, 1) := by decide +kernel
theorem dX9_force_24 : decode cX9_force 24 = .ok (.getfield 10, 3) := by decide +kernel
theorem dX9_force_27 : decode cX9_force 27 = .ok (.iload_n 1, 1) := by decide +kernel
theorem dX9_force_28 : decode cX9_force 28 = .ok (.putfield 167, 3) := by decide +kernel
theorem dX9_force_31 : decode cX9_force 31 = .ok (.iload_n 2, 1) := by decide +kernel
theorem dX9_force_32 : decode cX9_force 32 = .ok (.ireturn, 1) := by decide +kernel
theorem dX9_day_0 : decode cX9_day 0 = .ok (.aload_n 0, 1) := by decide +kernel
theorem dX9_day_1 : decode cX9_day 1 = .ok (.getfield 10, 3) := by decide +kernel
theorem dX9_day_4 : decode cX9_day 4 = .ok (.getfield 106, 3) := by decide +kernel
theorem dX9_day_7 : decode cX9_day 7 = .ok (.sipush 999, 3) := by decide +kernel
theorem dX9_day_10 : decode cX9_day 10 = .ok (.if_icmp .lt 6, 3) := by decide +kernel
theorem dX9_day_13 : decode cX9_day 13 = .ok (.bipush (-3), 2) := by decide +kernel
theorem dX9_day_15 : decode cX9_day 15 = .ok (.ireturn, 1) := by decide +kernel
theorem dX9_day_16 : decode cX9_day 16 = .ok (.iconst 0, 1) := by decide +kernel
theorem dX9_day_17 : decode cX9_day 17 = .ok (.istore_n 1, 1) := by decide +kernel
theorem dX9_day_18 : decode cX9_day 18 = .ok (.iconst 0, 1) := by decide +kernel
theorem dX9_day_19 : decode cX9_day 19 = .ok (.istore_n 2, 1) := by decide +kernel
theorem dX9_day_20 : decode cX9_day 20 = .ok (.iload_n 2, 1) := by decide +kernel
theorem dX9_day_21 : decode cX9_day 21 = .ok (.aload_n 0, 1) := by decide +kernel
theorem dX9_day_22 : decode cX9_day 22 = .ok (.getfield 10, 3) := by decide +kernel
theorem dX9_day_25 : decode cX9_day 25 = .ok (.getfield 131, 3) := by decide +kernel
theorem dX9_day_28 : decode cX9_day 28 = .ok (.if_icmp .ge 57, 3) := by decide +kernel
theorem dX9_day_31 : decode cX9_day 31 = .ok (.aload_n 0, 1) := by decide +kernel
theorem dX9_day_32 : decode cX9_day 32 = .ok (.iload_n 2, 1) := by decide +kernel
theorem dX9_day_33 : decode cX9_day 33 = .ok (.invokevirtual 143, 3) := by decide +kernel
theorem dX9_day_36 : decode cX9_day 36 = .ok (.aload_n 0, 1) := by decide +kernel
theorem dX9_day_37 : decode cX9_day 37 = .ok (.getfield 49, 3) := by decide +kernel
theorem dX9_day_40 : decode cX9_day 40 = .ok (.aload_n 0, 1) := by decide +kernel
theorem dX9_day_41 : decode cX9_day 41 = .ok (.invokevirtual 154, 3) := by decide +kernel
theorem dX9_day_44 : decode cX9_day 44 = .ok (.aload_n 0, 1) := by decide +kernel
theorem dX9_day_45 : decode cX9_day 45 = .ok (.getfield 10, 3) := by decide +kernel
theorem dX9_day_48 : decode cX9_day 48 = .ok (.getfield 109, 3) := by decide +kernel
theorem dX9_day_51 : decode cX9_day 51 = .ok (.invokevirtual 187, 3) := by decide +kernel
theorem dX9_day_54 : decode cX9_day 54 = .ok (.ifCond .eq 6, 3) := by decide +kernel
theorem dX9_day_57 : decode cX9_day 57 = .ok (.iinc 1 1, 3) := by decide +kernel
theorem dX9_day_60 : decode cX9_day 60 = .ok (.aload_n 0, 1) := by decide +kernel
theorem dX9_day_61 : decode cX9_day 61 = .ok (.getfield 10, 3) := by decide +kernel
theorem dX9_day_64 : decode cX9_day 64 = .ok (.getfield 112, 3) := by decide +kernel
theorem dX9_day_67 : decode cX9_day 67 = .ok (.iload_n 2, 1) := by decide +kernel
theorem dX9_day_68 : decode cX9_day 68 = .ok (.aaload, 1) := by decide +kernel
theorem dX9_day_69 : decode cX9_day 69 = .ok (.aload_n 0, 1) := by decide +kernel
theorem dX9_day_70 : decode cX9_day 70 = .ok (.getfield 49, 3) := by decide +kernel
theorem dX9_day_73 : decode cX9_day 73 = .ok (.getfield 170, 3) := by decide +kernel
theorem dX9_day_76 : decode cX9_day 76 = .ok (.putfield 124, 3) := by decide +kernel
theorem dX9_day_79 : decode cX9_day 79 = .ok (.iinc 2 1, 3) := by decide +kernel
theorem dX9_day_82 : decode cX9_day 82 = .ok (.goto (-62), 3) := by decide +kernel
theorem dX9_day_85 : decode cX9_day 85 = .ok (.aload_n 0, 1) := by decide +kernel
theorem dX9_day_86 : decode cX9_day 86 = .ok (.getfield 10, 3) := by decide +kernel
theorem dX9_day_89 : decode cX9_day 89 = .ok (.dup, 1) := by decide +kernel
theorem dX9_day_90 : decode cX9_day 90 = .ok (.getfield 106, 3) := by decide +kernel
theorem dX9_day_93 : decode cX9_day 93 = .ok (.iconst 1, 1) := by decide +kernel
theorem dX9_day_94 : decode cX9_day 94 = .ok (.iadd, 1) := by decide +kernel
theorem dX9_day_95 : decode cX9_day 95 = .ok (.putfield 106, 3) := by decide +kernel
theorem dX9_day_98 : decode cX9_day 98 = .ok (.iload_n 1, 1) := by decide +kernel
theorem dX9_day_99 : decode cX9_day 99 = .ok (.ireturn, 1) := by decide +kernel
theorem dX9_run_0 : decode cX9_run 0 = .ok (.iload_n 2, 1) := by decide +kernel
theorem dX9_run_1 : decode cX9_run 1 = .ok (.bipush 10, 2) := by decide +kernel
theorem dX9_run_3 : decode cX9_run 3 = .ok (.if_icmp .lt 24, 3) := by decide +kernel
theorem dX9_run_6 : decode cX9_run 6 = .ok (.iload_n 2, 1) := by decide +kernel
theorem dX9_run_7 : decode cX9_run 7 = .ok (.bipush 30, 2) := by decide +kernel
theorem dX9_run_9 : decode cX9_run 9 = .ok (.if_icmp .ge 18, 3) := by decide +kernel
theorem dX9_run_12 : decode cX9_run 12 = .ok (.aload_n 0, 1) := by decide +kernel
theorem dX9_run_13 : decode cX9_run 13 = .ok (.iload_n 2, 1) := by decide +kernel
theorem dX9_run_14 : decode cX9_run 14 = .ok (.bipush 10, 2) := by decide +kernel
theorem dX9_run_16 : decode cX9_run 16 = .ok (.irem, 1) := by decide +kernel
theorem dX9_run_17 : decode cX9_run 17 = .ok (.invokevirtual 140, 3) := by decide +kernel
theorem dX9_run_20 : decode cX9_run 20 = .ok (.ifCond .eq 7, 3) := by decide +kernel
theorem dX9_run_23 : decode cX9_run 23 = .ok (.iconst 1, 1) := by decide +kernel
theorem dX9_run_24 : decode cX9_run 24 = .ok (.goto 4, 3) := by decide +kernel
theorem dX9_run_27 : decode cX9_run 27 = .ok (.iconst 0, 1) := by decide +kernel
theorem dX9_run_28 : decode cX9_run 28 = .ok (.istore_n 3, 1) := by decide +kernel
theorem dX9_run_29 : decode cX9_run 29 = .ok (.iload_n 1, 1) := by decide +kernel
theorem dX9_run_30 : decode cX9_run 30 = .ok (.bipush 40, 2) := by decide +kernel
theorem dX9_run_32 : decode cX9_run 32 = .ok (.invokestatic 191, 3) := by decide +kernel
theorem dX9_run_35 : decode cX9_run 35 = .ok (.ifCond .eq 16, 3) := by decide +kernel
theorem dX9_run_38 : decode cX9_run 38 = .ok (.iload_n 2, 1) := by decide +kernel
theorem dX9_run_39 : decode cX9_run 39 = .ok (.ifCond .eq 15, 3) := by decide +kernel
theorem dX9_run_42 : decode cX9_run 42 = .ok (.iload_n 2, 1) := by decide +kernel
theorem dX9_run_43 : decode cX9_run 43 = .ok (.iconst 1, 1) := by decide +kernel
theorem dX9_run_44 : decode cX9_run 44 = .ok (.if_icmp .eq 10, 3) := by decide +kernel
theorem dX9_run_47 : decode cX9_run 47 = .ok (.iload_n 3, 1) := by decide +kernel
theorem dX9_run_48 : decode cX9_run 48 = .ok (.ifCond .ne 6, 3) := by decide +kernel
theorem dX9_run_51 : decode cX9_run 51 = .ok (.bipush (-2), 2) := by decide +kernel
theorem dX9_run_53 : decode cX9_run 53 = .ok (.ireturn, 1) := by decide +kernel
theorem dX9_run_54 : decode cX9_run 54 = .ok (.iload_n 3, 1) := by decide +kernel
theorem dX9_run_55 : decode cX9_run 55 = .ok (.ifCond .eq 54, 3) := by decide +kernel
theorem dX9_run_58 : decode cX9_run 58 = .ok (.aload_n 0, 1) := by decide +kernel
theorem dX9_run_59 : decode cX9_run 59 = .ok (.iload_n 2, 1) := by decide +kernel
theorem dX9_run_60 : decode cX9_run 60 = .ok (.bipush 10, 2) := by decide +kernel
theorem dX9_run_62 : decode cX9_run 62 = .ok (.irem, 1) := by decide +kernel
theorem dX9_run_63 : decode cX9_run 63 = .ok (.invokevirtual 143, 3) := by decide +kernel
theorem dX9_run_66 : decode cX9_run 66 = .ok (.aload_n 0, 1) := by decide +kernel
theorem dX9_run_67 : decode cX9_run 67 = .ok (.getfield 49, 3) := by decide +kernel
theorem dX9_run_70 : decode cX9_run 70 = .ok (.aload_n 0, 1) := by decide +kernel
theorem dX9_run_71 : decode cX9_run 71 = .ok (.invokevirtual 154, 3) := by decide +kernel
theorem dX9_run_74 : decode cX9_run 74 = .ok (.aload_n 0, 1) := by decide +kernel
theorem dX9_run_75 : decode cX9_run 75 = .ok (.getfield 10, 3) := by decide +kernel
theorem dX9_run_78 : decode cX9_run 78 = .ok (.getfield 109, 3) := by decide +kernel
theorem dX9_run_81 : decode cX9_run 81 = .ok (.iload_n 1, 1) := by decide +kernel
theorem dX9_run_82 : decode cX9_run 82 = .ok (.invokevirtual 194, 3) := by decide +kernel
theorem dX9_run_85 : decode cX9_run 85 = .ok (.iload_n 2, 1) := by decide +kernel
theorem dX9_run_86 : decode cX9_run 86 = .ok (.bipush 20, 2) := by decide +kernel
theorem dX9_run_88 : decode cX9_run 88 = .ok (.if_icmp .ge 13, 3) := by decide +kernel
theorem dX9_run_91 : decode cX9_run 91 = .ok (.aload_n 0, 1) := by decide +kernel
theorem dX9_run_92 : decode cX9_run 92 = .ok (.getfield 49, 3) := by decide +kernel
theorem dX9_run_95 : decode cX9_run 95 = .ok (.getfield 170, 3) := by decide +kernel
theorem dX9_run_98 : decode cX9_run 98 = .ok (.goto 10, 3) := by decide +kernel
theorem dX9_run_101 : decode cX9_run 101 = .ok (.aload_n 0, 1) := by decide +kernel
theorem dX9_run_102 : decode cX9_run 102 = .ok (.getfield 49, 3) := by decide +kernel
theorem dX9_run_105 : decode cX9_run 105 = .ok (.getfield 198, 3) := by decide +kernel
theorem dX9_run_108 : decode cX9_run 108 = .ok (.ireturn, 1) := by decide +kernel
theorem dX9_run_109 : decode cX9_run 109 = .ok (.iconst 0, 1) := by decide +kernel
theorem dX9_run_110 : decode cX9_run 110 = .ok (.istore 4, 2) := by decide +kernel
theorem dX9_run_112 : decode cX9_run 112 = .ok (.iconst 0, 1) := by decide +kernel
theorem dX9_run_113 : decode cX9_run 113 = .ok (.istore 5, 2) := by decide +kernel
theorem dX9_run_115 : decode cX9_run 115 = .ok (.iconst 0, 1) := by decide +kernel
theorem dX9_run_116 : decode cX9_run 116 = .ok (.istore 6, 2) := by decide +kernel
theorem dX9_run_118 : decode cX9_run 118 = .ok (.iload 6, 2) := by decide +kernel
theorem dX9_run_120 : decode cX9_run 120 = .ok (.aload_n 0, 1) := by decide +kernel
theorem dX9_run_121 : decode cX9_run 121 = .ok (.getfield 10, 3) := by decide +kernel
theorem dX9_run_124 : decode cX9_run 124 = .ok (.getfield 131, 3) := by decide +kernel
theorem dX9_run_127 : decode cX9_run 127 = .ok (.if_icmp .ge 58, 3) := by decide +kernel
theorem dX9_run_130 : decode cX9_run 130 = .ok (.aload_n 0, 1) := by decide +kernel
theorem dX9_run_131 : decode cX9_run 131 = .ok (.iload 6, 2) := by decide +kernel
theorem dX9_run_133 : decode cX9_run 133 = .ok (.invokevirtual 143, 3) := by decide +kernel
theorem dX9_run_136 : decode cX9_run 136 = .ok (.aload_n 0, 1) := by decide +kernel
theorem dX9_run_137 : decode cX9_run 137 = .ok (.getfield 49, 3) := by decide +kernel
theorem dX9_run_140 : decode cX9_run 140 = .ok (.aload_n 0, 1) := by decide +kernel
theorem dX9_run_141 : decode cX9_run 141 = .ok (.invokevirtual 154, 3) := by decide +kernel
theorem dX9_run_144 : decode cX9_run 144 = .ok (.aload_n 0, 1) := by decide +kernel
theorem dX9_run_145 : decode cX9_run 145 = .ok (.getfield 10, 3) := by decide +kernel
theorem dX9_run_148 : decode cX9_run 148 = .ok (.getfield 109, 3) := by decide +kernel
theorem dX9_run_151 : decode cX9_run 151 = .ok (.iload_n 1, 1) := by decide +kernel
theorem dX9_run_152 : decode cX9_run 152 = .ok (.invokevirtual 194, 3) := by decide +kernel
theorem dX9_run_155 : decode cX9_run 155 = .ok (.iload 4, 2) := by decide +kernel
theorem dX9_run_157 : decode cX9_run 157 = .ok (.aload_n 0, 1) := by decide +kernel
theorem dX9_run_158 : decode cX9_run 158 = .ok (.getfield 49, 3) := by decide +kernel
theorem dX9_run_161 : decode cX9_run 161 = .ok (.getfield 170, 3) := by decide +kernel
theorem dX9_run_164 : decode cX9_run 164 = .ok (.iadd, 1) := by decide +kernel
theorem dX9_run_165 : decode cX9_run 165 = .ok (.istore 4, 2) := by decide +kernel
theorem dX9_run_167 : decode cX9_run 167 = .ok (.iload 5, 2) := by decide +kernel
theorem dX9_run_169 : decode cX9_run 169 = .ok (.aload_n 0, 1) := by decide +kernel
theorem dX9_run_170 : decode cX9_run 170 = .ok (.getfield 49, 3) := by decide +kernel
theorem dX9_run_173 : decode cX9_run 173 = .ok (.getfield 201, 3) := by decide +kernel
theorem dX9_run_176 : decode cX9_run 176 = .ok (.iadd, 1) := by decide +kernel
theorem dX9_run_177 : decode cX9_run 177 = .ok (.istore 5, 2) := by decide +kernel
theorem dX9_run_179 : decode cX9_run 179 = .ok (.iinc 6 1, 3) := by decide +kernel
theorem dX9_run_182 : decode cX9_run 182 = .ok (.goto (-64), 3) := by decide +kernel
theorem dX9_run_185 : decode cX9_run 185 = .ok (.iload_n 2, 1) := by decide +kernel
theorem dX9_run_186 : decode cX9_run 186 = .ok (.ifCond .ne 8, 3) := by decide +kernel
theorem dX9_run_189 : decode cX9_run 189 = .ok (.iload 4, 2) := by decide +kernel
theorem dX9_run_191 : decode cX9_run 191 = .ok (.goto 5, 3) := by decide +kernel
theorem dX9_run_194 : decode cX9_run 194 = .ok (.iload 5, 2) := by decide +kernel
theorem dX9_run_196 : decode cX9_run 196 = .ok (.ireturn, 1) := by decide +kernel
theorem dX9_isDays_0 : decode cX9_isDays 0 = .ok (.iload_n 0, 1) := by decide +kernel
theorem dX9_isDays_1 : decode cX9_isDays 1 = .ok (.ifCond .lt 12, 3) := by decide +kernel
theorem dX9_isDays_4 : decode cX9_isDays 4 = .ok (.iload_n 0, 1) := by decide +kernel
theorem dX9_isDays_5 : decode cX9_isDays 5 = .ok (.iload_n 1, 1) := by decide +kernel
theorem dX9_isDays_6 : decode cX9_isDays 6 = .ok (.if_icmp .gt 7, 3) := by decide +kernel
theorem dX9_isDays_9 : decode cX9_isDays 9 = .ok (.iconst 1, 1) := by decide +kernel
theorem dX9_isDays_10 : decode cX9_isDays 10 = .ok (.goto 4, 3) := by decide +kernel
theorem dX9_isDays_13 : decode cX9_isDays 13 = .ok (.iconst 0, 1) := by decide +kernel
theorem dX9_isDays_14 : decode cX9_isDays 14 = .ok (.ireturn, 1) := by decide +kernel
theorem dX9_rings_0 : decode cX9_rings 0 = .ok (.iload_n 1, 1) := by decide +kernel
theorem dX9_rings_1 : decode cX9_rings 1 = .ok (.tableswitch 68 0 4 #[35, 40, 45, 58, 63], 35) := by decide +kernel
theorem dX9_rings_36 : decode cX9_rings 36 = .ok (.aload_n 0, 1) := by decide +kernel
theorem dX9_rings_37 : decode cX9_rings 37 = .ok (.invokevirtual 204, 3) := by decide +kernel
theorem dX9_rings_40 : decode cX9_rings 40 = .ok (.ireturn, 1) := by decide +kernel
theorem dX9_rings_41 : decode cX9_rings 41 = .ok (.aload_n 0, 1) := by decide +kernel
theorem dX9_rings_42 : decode cX9_rings 42 = .ok (.invokevirtual 208, 3) := by decide +kernel
theorem dX9_rings_45 : decode cX9_rings 45 = .ok (.ireturn, 1) := by decide +kernel
theorem dX9_rings_46 : decode cX9_rings 46 = .ok (.aload_n 0, 1) := by decide +kernel
theorem dX9_rings_47 : decode cX9_rings 47 = .ok (.getfield 10, 3) := by decide +kernel
theorem dX9_rings_50 : decode cX9_rings 50 = .ok (.getfield 131, 3) := by decide +kernel
theorem dX9_rings_53 : decode cX9_rings 53 = .ok (.aload_n 0, 1) := by decide +kernel
theorem dX9_rings_54 : decode cX9_rings 54 = .ok (.invokevirtual 204, 3) := by decide +kernel
theorem dX9_rings_57 : decode cX9_rings 57 = .ok (.isub, 1) := by decide +kernel
theorem dX9_rings_58 : decode cX9_rings 58 = .ok (.ireturn, 1) := by decide +kernel
theorem dX9_rings_59 : decode cX9_rings 59 = .ok (.aload_n 0, 1) := by decide +kernel
theorem dX9_rings_60 : decode cX9_rings 60 = .ok (.invokevirtual 211, 3) := by decide +kernel
theorem dX9_rings_63 : decode cX9_rings 63 = .ok (.ireturn, 1) := by decide +kernel
theorem dX9_rings_64 : decode cX9_rings 64 = .ok (.aload_n 0, 1) := by decide +kernel
theorem dX9_rings_65 : decode cX9_rings 65 = .ok (.invokevirtual 214, 3) := by decide +kernel
theorem dX9_rings_68 : decode cX9_rings 68 = .ok (.ireturn, 1) := by decide +kernel
theorem dX9_rings_69 : decode cX9_rings 69 = .ok (.bipush (-2), 2) := by decide +kernel
theorem dX9_rings_71 : decode cX9_rings 71 = .ok (.ireturn, 1) := by decide +kernel
theorem dX9_ring_0 : decode cX9_ring 0 = .ok (.aload_n 0, 1) := by decide +kernel
theorem dX9_ring_1 : decode cX9_ring 1 = .ok (.iload_n 1, 1) := by decide +kernel
theorem dX9_ring_2 : decode cX9_ring 2 = .ok (.invokevirtual 140, 3) := by decide +kernel
theorem dX9_ring_5 : decode cX9_ring 5 = .ok (.ifCond .eq 11, 3) := by decide +kernel
theorem dX9_ring_8 : decode cX9_ring 8 = .ok (.aload_n 0, 1) := by decide +kernel
theorem dX9_ring_9 : decode cX9_ring 9 = .ok (.iload_n 1, 1) := by decide +kernel
theorem dX9_ring_10 : decode cX9_ring 10 = .ok (.invokevirtual 217, 3) := by decide +kernel
theorem dX9_ring_13 : decode cX9_ring 13 = .ok (.goto 5, 3) := by decide +kernel
theorem dX9_ring_16 : decode cX9_ring 16 = .ok (.bipush (-2), 2) := by decide +kernel
theorem dX9_ring_18 : decode cX9_ring 18 = .ok (.ireturn, 1) := by decide +kernel
theorem dX9_ringOf_0 : decode cX9_ringOf 0 = .ok (.iconst 0, 1) := by decide +kernel
theorem dX9_ringOf_1 : decode cX9_ringOf 1 = .ok (.istore_n 2, 1) := by decide +kernel
theorem dX9_ringOf_2 : decode cX9_ringOf 2 = .ok (.iload_n 1, 1) := by decide +kernel
theorem dX9_ringOf_3 : decode cX9_ringOf 3 = .ok (.istore_n 3, 1) := by decide +kernel
theorem dX9_ringOf_4 : decode cX9_ringOf 4 = .ok (.iconst 0, 1) := by decide +kernel
theorem dX9_ringOf_5 : decode cX9_ringOf 5 = .ok (.istore 4, 2) := by decide +kernel
theorem dX9_ringOf_7 : decode cX9_ringOf 7 = .ok (.iload 4, 2) := by decide +kernel
theorem dX9_ringOf_9 : decode cX9_ringOf 9 = .ok (.aload_n 0, 1) := by decide +kernel
theorem dX9_ringOf_10 : decode cX9_ringOf 10 = .ok (.getfield 10, 3) := by decide +kernel
theorem dX9_ringOf_13 : decode cX9_ringOf 13 = .ok (.getfield 131, 3) := by decide +kernel
theorem dX9_ringOf_16 : decode cX9_ringOf 16 = .ok (.if_icmp .ge 28, 3) := by decide +kernel
theorem dX9_ringOf_19 : decode cX9_ringOf 19 = .ok (.iload_n 2, 1) := by decide +kernel
theorem dX9_ringOf_20 : decode cX9_ringOf 20 = .ok (.iconst 1, 1) := by decide +kernel
theorem dX9_ringOf_21 : decode cX9_ringOf 21 = .ok (.iload_n 3, 1) := by decide +kernel
theorem dX9_ringOf_22 : decode cX9_ringOf 22 = .ok (.ishl, 1) := by decide +kernel
theorem dX9_ringOf_23 : decode cX9_ringOf 23 = .ok (.ior, 1) := by decide +kernel
theorem dX9_ringOf_24 : decode cX9_ringOf 24 = .ok (.istore_n 2, 1) := by decide +kernel
theorem dX9_ringOf_25 : decode cX9_ringOf 25 = .ok (.aload_n 0, 1) := by decide +kernel
theorem dX9_ringOf_26 : decode cX9_ringOf 26 = .ok (.getfield 10, 3) := by decide +kernel
theorem dX9_ringOf_29 : decode cX9_ringOf 29 = .ok (.getfield 112, 3) := by decide +kernel
theorem dX9_ringOf_32 : decode cX9_ringOf 32 = .ok (.iload_n 3, 1) := by decide +kernel
theorem dX9_ringOf_33 : decode cX9_ringOf 33 = .ok (.aaload, 1) := by decide +kernel
theorem dX9_ringOf_34 : decode cX9_ringOf 34 = .ok (.getfield 137, 3) := by decide +kernel
theorem dX9_ringOf_37 : decode cX9_ringOf 37 = .ok (.istore_n 3, 1) := by decide +kernel
theorem dX9_ringOf_38 : decode cX9_ringOf 38 = .ok (.iinc 4 1, 3) := by decide +kernel
theorem dX9_ringOf_41 : decode cX9_ringOf 41 = .ok (.goto (-34), 3) := by decide +kernel
theorem dX9_ringOf_44 : decode cX9_ringOf 44 = .ok (.iload_n 2, 1) := by decide +kernel
theorem dX9_ringOf_45 : decode cX9_ringOf 45 = .ok (.ireturn, 1) := by decide +kernel
theorem dX9_ringCount_0 : decode cX9_ringCount 0 = .ok (.iconst 0, 1) := by decide +kernel
theorem dX9_ringCount_1 : decode cX9_ringCount 1 = .ok (.istore_n 1, 1) := by decide +kernel
theorem dX9_ringCount_2 : decode cX9_ringCount 2 = .ok (.iconst 0, 1) := by decide +kernel
theorem dX9_ringCount_3 : decode cX9_ringCount 3 = .ok (.istore_n 2, 1) := by decide +kernel
theorem dX9_ringCount_4 : decode cX9_ringCount 4 = .ok (.iload_n 2, 1) := by decide +kernel
theorem dX9_ringCount_5 : decode cX9_ringCount 5 = .ok (.aload_n 0, 1) := by decide +kernel
theorem dX9_ringCount_6 : decode cX9_ringCount 6 = .ok (.getfield 10, 3) := by decide +kernel
theorem dX9_ringCount_9 : decode cX9_ringCount 9 = .ok (.getfield 131, 3) := by decide +kernel
theorem dX9_ringCount_12 : decode cX9_ringCount 12 = .ok (.if_icmp .ge 36, 3) := by decide +kernel
theorem dX9_ringCount_15 : decode cX9_ringCount 15 = .ok (.aload_n 0, 1) := by decide +kernel
theorem dX9_ringCount_16 : decode cX9_ringCount 16 = .ok (.iload_n 2, 1) := by decide +kernel
theorem dX9_ringCount_17 : decode cX9_ringCount 17 = .ok (.invokevirtual 217, 3) := by decide +kernel
theorem dX9_ringCount_20 : decode cX9_ringCount 20 = .ok (.iconst 1, 1) := by decide +kernel
theorem dX9_ringCount_21 : decode cX9_ringCount 21 = .ok (.iload_n 2, 1) := by decide +kernel
theorem dX9_ringCount_22 : decode cX9_ringCount 22 = .ok (.ishl, 1) := by decide +kernel
theorem dX9_ringCount_23 : decode cX9_ringCount 23 = .ok (.iconst 1, 1) := by decide +kernel
theorem dX9_ringCount_24 : decode cX9_ringCount 24 = .ok (.isub, 1) := by decide +kernel
theorem dX9_ringCount_25 : decode cX9_ringCount 25 = .ok (.iand, 1) := by decide +kernel
theorem dX9_ringCount_26 : decode cX9_ringCount 26 = .ok (.ifCond .ne 7, 3) := by decide +kernel
theorem dX9_ringCount_29 : decode cX9_ringCount 29 = .ok (.iconst 1, 1) := by decide +kernel
theorem dX9_ringCount_30 : decode cX9_ringCount 30 = .ok (.goto 4, 3) := by decide +kernel
theorem dX9_ringCount_33 : decode cX9_ringCount 33 = .ok (.iconst 0, 1) := by decide +kernel
theorem dX9_ringCount_34 : decode cX9_ringCount 34 = .ok (.istore_n 3, 1) := by decide +kernel
theorem dX9_ringCount_35 : decode cX9_ringCount 35 = .ok (.iload_n 3, 1) := by decide +kernel
theorem dX9_ringCount_36 : decode cX9_ringCount 36 = .ok (.ifCond .eq 6, 3) := by decide +kernel
theorem dX9_ringCount_39 : decode cX9_ringCount 39 = .ok (.iinc 1 1, 3) := by decide +kernel
theorem dX9_ringCount_42 : decode cX9_ringCount 42 = .ok (.iinc 2 1, 3) := by decide +kernel
theorem dX9_ringCount_45 : decode cX9_ringCount 45 = .ok (.goto (-41), 3) := by decide +kernel
theorem dX9_ringCount_48 : decode cX9_ringCount 48 = .ok (.iload_n 1, 1) := by decide +kernel
theorem dX9_ringCount_49 : decode cX9_ringCount 49 = .ok (.ireturn, 1) := by decide +kernel
theorem dX9_longestRing_0 : decode cX9_longestRing 0 = .ok (.iconst 0, 1) := by decide +kernel
theorem dX9_longestRing_1 : decode cX9_longestRing 1 = .ok (.istore_n 1, 1) := by decide +kernel
theorem dX9_longestRing_2 : decode cX9_longestRing 2 = .ok (.iconst 0, 1) := by decide +kernel
theorem dX9_longestRing_3 : decode cX9_longestRing 3 = .ok (.istore_n 2, 1) := by decide +kernel
theorem dX9_longestRing_4 : decode cX9_longestRing 4 = .ok (.iload_n 2, 1) := by decide +kernel
theorem dX9_longestRing_5 : decode cX9_longestRing 5 = .ok (.aload_n 0, 1) := by decide +kernel
theorem dX9_longestRing_6 : decode cX9_longestRing 6 = .ok (.getfield 10, 3) := by decide +kernel
theorem dX9_longestRing_9 : decode cX9_longestRing 9 = .ok (.getfield 131, 3) := by decide +kernel
theorem dX9_longestRing_12 : decode cX9_longestRing 12 = .ok (.if_icmp .ge 22, 3) := by decide +kernel
theorem dX9_longestRing_15 : decode cX9_longestRing 15 = .ok (.iload_n 1, 1) := by decide +kernel
theorem dX9_longestRing_16 : decode cX9_longestRing 16 = .ok (.aload_n 0, 1) := by decide +kernel
theorem dX9_longestRing_17 : decode cX9_longestRing 17 = .ok (.iload_n 2, 1) := by decide +kernel
theorem dX9_longestRing_18 : decode cX9_longestRing 18 = .ok (.invokevirtual 217, 3) := by decide +kernel
theorem dX9_longestRing_21 : decode cX9_longestRing 21 = .ok (.invokestatic 220, 3) := by decide +kernel
theorem dX9_longestRing_24 : decode cX9_longestRing 24 = .ok (.invokestatic 225, 3) := by decide +kernel
theorem dX9_longestRing_27 : decode cX9_longestRing 27 = .ok (.istore_n 1, 1) := by decide +kernel
theorem dX9_longestRing_28 : decode cX9_longestRing 28 = .ok (.iinc 2 1, 3) := by decide +kernel
theorem dX9_longestRing_31 : decode cX9_longestRing 31 = .ok (.goto (-27), 3) := by decide +kernel
theorem dX9_longestRing_34 : decode cX9_longestRing 34 = .ok (.iload_n 1, 1) := by decide +kernel
theorem dX9_longestRing_35 : decode cX9_longestRing 35 = .ok (.ireturn, 1) := by decide +kernel
theorem dX9_firstChange_0 : decode cX9_firstChange 0 = .ok (.iconst 0, 1) := by decide +kernel
theorem dX9_firstChange_1 : decode cX9_firstChange 1 = .ok (.istore_n 1, 1) := by decide +kernel
theorem dX9_firstChange_2 : decode cX9_firstChange 2 = .ok (.iload_n 1, 1) := by decide +kernel
theorem dX9_firstChange_3 : decode cX9_firstChange 3 = .ok (.aload_n 0, 1) := by decide +kernel
theorem dX9_firstChange_4 : decode cX9_firstChange 4 = .ok (.getfield 10, 3) := by decide +kernel
theorem dX9_firstChange_7 : decode cX9_firstChange 7 = .ok (.getfield 131, 3) := by decide +kernel
theorem dX9_firstChange_10 : decode cX9_firstChange 10 = .ok (.if_icmp .ge 52, 3) := by decide +kernel
theorem dX9_firstChange_13 : decode cX9_firstChange 13 = .ok (.aload_n 0, 1) := by decide +kernel
theorem dX9_firstChange_14 : decode cX9_firstChange 14 = .ok (.iload_n 1, 1) := by decide +kernel
theorem dX9_firstChange_15 : decode cX9_firstChange 15 = .ok (.invokevirtual 217, 3) := by decide +kernel
theorem dX9_firstChange_18 : decode cX9_firstChange 18 = .ok (.istore_n 2, 1) := by decide +kernel
theorem dX9_firstChange_19 : decode cX9_firstChange 19 = .ok (.iload_n 1, 1) := by decide +kernel
theorem dX9_firstChange_20 : decode cX9_firstChange 20 = .ok (.iconst 1, 1) := by decide +kernel
theorem dX9_firstChange_21 : decode cX9_firstChange 21 = .ok (.iadd, 1) := by decide +kernel
theorem dX9_firstChange_22 : decode cX9_firstChange 22 = .ok (.istore_n 3, 1) := by decide +kernel
theorem dX9_firstChange_23 : decode cX9_firstChange 23 = .ok (.iload_n 3, 1) := by decide +kernel
theorem dX9_firstChange_24 : decode cX9_firstChange 24 = .ok (.aload_n 0, 1) := by decide +kernel
theorem dX9_firstChange_25 : decode cX9_firstChange 25 = .ok (.getfield 10, 3) := by decide +kernel
theorem dX9_firstChange_28 : decode cX9_firstChange 28 = .ok (.getfield 131, 3) := by decide +kernel
theorem dX9_firstChange_31 : decode cX9_firstChange 31 = .ok (.if_icmp .ge 25, 3) := by decide +kernel
theorem dX9_firstChange_34 : decode cX9_firstChange 34 = .ok (.iload_n 2, 1) := by decide +kernel
theorem dX9_firstChange_35 : decode cX9_firstChange 35 = .ok (.iload_n 3, 1) := by decide +kernel
theorem dX9_firstChange_36 : decode cX9_firstChange 36 = .ok (.ishr, 1) := by decide +kernel
theorem dX9_firstChange_37 : decode cX9_firstChange 37 = .ok (.iconst 1, 1) := by decide +kernel
theorem dX9_firstChange_38 : decode cX9_firstChange 38 = .ok (.iand, 1) := by decide +kernel
theorem dX9_firstChange_39 : decode cX9_firstChange 39 = .ok (.iconst 1, 1) := by decide +kernel
theorem dX9_firstChange_40 : decode cX9_firstChange 40 = .ok (.if_icmp .ne 10, 3) := by decide +kernel
theorem dX9_firstChange_43 : decode cX9_firstChange 43 = .ok (.bipush 10, 2) := by decide +kernel
theorem dX9_firstChange_45 : decode cX9_firstChange 45 = .ok (.iload_n 1, 1) := by decide +kernel
theorem dX9_firstChange_46 : decode cX9_firstChange 46 = .ok (.imul, 1) := by decide +kernel
theorem dX9_firstChange_47 : decode cX9_firstChange 47 = .ok (.iload_n 3, 1) := by decide +kernel
theorem dX9_firstChange_48 : decode cX9_firstChange 48 = .ok (.iadd, 1) := by decide +kernel
theorem dX9_firstChange_49 : decode cX9_firstChange 49 = .ok (.ireturn, 1) := by decide +kernel
theorem dX9_firstChange_50 : decode cX9_firstChange 50 = .ok (.iinc 3 1, 3) := by decide +kernel
theorem dX9_firstChange_53 : decode cX9_firstChange 53 = .ok (.goto (-30), 3) := by decide +kernel
theorem dX9_firstChange_56 : decode cX9_firstChange 56 = .ok (.iinc 1 1, 3) := by decide +kernel
theorem dX9_firstChange_59 : decode cX9_firstChange 59 = .ok (.goto (-57), 3) := by decide +kernel
theorem dX9_firstChange_62 : decode cX9_firstChange 62 = .ok (.iconst (-1), 1) := by decide +kernel
theorem dX9_firstChange_63 : decode cX9_firstChange 63 = .ok (.ireturn, 1) := by decide +kernel
theorem dX9_inOwn_0 : decode cX9_inOwn 0 = .ok (.iconst 0, 1) := by decide +kernel
theorem dX9_inOwn_1 : decode cX9_inOwn 1 = .ok (.istore_n 1, 1) := by decide +kernel
theorem dX9_inOwn_2 : decode cX9_inOwn 2 = .ok (.iconst 0, 1) := by decide +kernel
theorem dX9_inOwn_3 : decode cX9_inOwn 3 = .ok (.istore_n 2, 1) := by decide +kernel
theorem dX9_inOwn_4 : decode cX9_inOwn 4 = .ok (.iload_n 2, 1) := by decide +kernel
theorem dX9_inOwn_5 : decode cX9_inOwn 5 = .ok (.aload_n 0, 1) := by decide +kernel
theorem dX9_inOwn_6 : decode cX9_inOwn 6 = .ok (.getfield 10, 3) := by decide +kernel
theorem dX9_inOwn_9 : decode cX9_inOwn 9 = .ok (.getfield 131, 3) := by decide +kernel
theorem dX9_inOwn_12 : decode cX9_inOwn 12 = .ok (.if_icmp .ge 31, 3) := by decide +kernel
theorem dX9_inOwn_15 : decode cX9_inOwn 15 = .ok (.aload_n 0, 1) := by decide +kernel
theorem dX9_inOwn_16 : decode cX9_inOwn 16 = .ok (.getfield 10, 3) := by decide +kernel
theorem dX9_inOwn_19 : decode cX9_inOwn 19 = .ok (.getfield 112, 3) := by decide +kernel
theorem dX9_inOwn_22 : decode cX9_inOwn 22 = .ok (.iload_n 2, 1) := by decide +kernel
theorem dX9_inOwn_23 : decode cX9_inOwn 23 = .ok (.aaload, 1) := by decide +kernel
theorem dX9_inOwn_24 : decode cX9_inOwn 24 = .ok (.getfield 137, 3) := by decide +kernel
theorem dX9_inOwn_27 : decode cX9_inOwn 27 = .ok (.iload_n 2, 1) := by decide +kernel
theorem dX9_inOwn_28 : decode cX9_inOwn 28 = .ok (.if_icmp .ne 9, 3) := by decide +kernel
theorem dX9_inOwn_31 : decode cX9_inOwn 31 = .ok (.iload_n 1, 1) := by decide +kernel
theorem dX9_inOwn_32 : decode cX9_inOwn 32 = .ok (.iconst 1, 1) := by decide +kernel
theorem dX9_inOwn_33 : decode cX9_inOwn 33 = .ok (.iload_n 2, 1) := by decide +kernel
theorem dX9_inOwn_34 : decode cX9_inOwn 34 = .ok (.ishl, 1) := by decide +kernel
theorem dX9_inOwn_35 : decode cX9_inOwn 35 = .ok (.ior, 1) := by decide +kernel
theorem dX9_inOwn_36 : decode cX9_inOwn 36 = .ok (.istore_n 1, 1) := by decide +kernel
theorem dX9_inOwn_37 : decode cX9_inOwn 37 = .ok (.iinc 2 1, 3) := by decide +kernel
theorem dX9_inOwn_40 : decode cX9_inOwn 40 = .ok (.goto (-36), 3) := by decide +kernel
theorem dX9_inOwn_43 : decode cX9_inOwn 43 = .ok (.iload_n 1, 1) := by decide +kernel
theorem dX9_inOwn_44 : decode cX9_inOwn 44 = .ok (.ireturn, 1) := by decide +kernel
theorem dX9_better_0 : decode cX9_better 0 = .ok (.iload_n 1, 1) := by decide +kernel
theorem dX9_better_1 : decode cX9_better 1 = .ok (.bipush 40, 2) := by decide +kernel
theorem dX9_better_3 : decode cX9_better 3 = .ok (.invokestatic 191, 3) := by decide +kernel
theorem dX9_better_6 : decode cX9_better 6 = .ok (.ifCond .eq 12, 3) := by decide +kernel
theorem dX9_better_9 : decode cX9_better 9 = .ok (.iload_n 2, 1) := by decide +kernel
theorem dX9_better_10 : decode cX9_better 10 = .ok (.ifCond .eq 11, 3) := by decide +kernel
theorem dX9_better_13 : decode cX9_better 13 = .ok (.iload_n 2, 1) := by decide +kernel
theorem dX9_better_14 : decode cX9_better 14 = .ok (.iconst 1, 1) := by decide +kernel
theorem dX9_better_15 : decode cX9_better 15 = .ok (.if_icmp .eq 6, 3) := by decide +kernel
theorem dX9_better_18 : decode cX9_better 18 = .ok (.bipush (-2), 2) := by decide +kernel
theorem dX9_better_20 : decode cX9_better 20 = .ok (.ireturn, 1) := by decide +kernel
theorem dX9_better_21 : decode cX9_better 21 = .ok (.aload_n 0, 1) := by decide +kernel
theorem dX9_better_22 : decode cX9_better 22 = .ok (.iload_n 1, 1) := by decide +kernel
theorem dX9_better_23 : decode cX9_better 23 = .ok (.invokevirtual 230, 3) := by decide +kernel
theorem dX9_better_26 : decode cX9_better 26 = .ok (.iconst 0, 1) := by decide +kernel
theorem dX9_better_27 : decode cX9_better 27 = .ok (.istore_n 3, 1) := by decide +kernel
theorem dX9_better_28 : decode cX9_better 28 = .ok (.iconst 0, 1) := by decide +kernel
theorem dX9_better_29 : decode cX9_better 29 = .ok (.istore 4, 2) := by decide +kernel
theorem dX9_better_31 : decode cX9_better 31 = .ok (.iload 4, 2) := by decide +kernel
theorem dX9_better_33 : decode cX9_better 33 = .ok (.aload_n 0, 1) := by decide +kernel
theorem dX9_better_34 : decode cX9_better 34 = .ok (.getfield 10, 3) := by decide +kernel
theorem dX9_better_37 : decode cX9_better 37 = .ok (.getfield 131, 3) := by decide +kernel
theorem dX9_better_40 : decode cX9_better 40 = .ok (.if_icmp .ge 33, 3) := by decide +kernel
theorem dX9_better_43 : decode cX9_better 43 = .ok (.iload_n 3, 1) := by decide +kernel
theorem dX9_better_44 : decode cX9_better 44 = .ok (.aload_n 0, 1) := by decide +kernel
theorem dX9_better_45 : decode cX9_better 45 = .ok (.getfield 69, 3) := by decide +kernel
theorem dX9_better_48 : decode cX9_better 48 = .ok (.iload 4, 2) := by decide +kernel
theorem dX9_better_50 : decode cX9_better 50 = .ok (.aaload, 1) := by decide +kernel
theorem dX9_better_51 : decode cX9_better 51 = .ok (.aload_n 0, 1) := by decide +kernel
theorem dX9_better_52 : decode cX9_better 52 = .ok (.getfield 10, 3) := by decide +kernel
theorem dX9_better_55 : decode cX9_better 55 = .ok (.getfield 112, 3) := by decide +kernel
theorem dX9_better_58 : decode cX9_better 58 = .ok (.iload 4, 2) := by decide +kernel
theorem dX9_better_60 : decode cX9_better 60 = .ok (.aaload, 1) := by decide +kernel
theorem dX9_better_61 : decode cX9_better 61 = .ok (.getfield 137, 3) := by decide +kernel
theorem dX9_better_64 : decode cX9_better 64 = .ok (.iaload, 1) := by decide +kernel
theorem dX9_better_65 : decode cX9_better 65 = .ok (.iadd, 1) := by decide +kernel
theorem dX9_better_66 : decode cX9_better 66 = .ok (.istore_n 3, 1) := by decide +kernel
theorem dX9_better_67 : decode cX9_better 67 = .ok (.iinc 4 1, 3) := by decide +kernel
theorem dX9_better_70 : decode cX9_better 70 = .ok (.goto (-39), 3) := by decide +kernel
theorem dX9_better_73 : decode cX9_better 73 = .ok (.iload_n 3, 1) := by decide +kernel
theorem dX9_better_74 : decode cX9_better 74 = .ok (.istore 4, 2) := by decide +kernel
theorem dX9_better_76 : decode cX9_better 76 = .ok (.iconst (-1), 1) := by decide +kernel
theorem dX9_better_77 : decode cX9_better 77 = .ok (.istore 5, 2) := by decide +kernel
theorem dX9_better_79 : decode cX9_better 79 = .ok (.iconst 0, 1) := by decide +kernel
theorem dX9_better_80 : decode cX9_better 80 = .ok (.istore 6, 2) := by decide +kernel
theorem dX9_better_82 : decode cX9_better 82 = .ok (.iload 6, 2) := by decide +kernel
theorem dX9_better_84 : decode cX9_better 84 = .ok (.aload_n 0, 1) := by decide +kernel
theorem dX9_better_85 : decode cX9_better 85 = .ok (.getfield 10, 3) := by decide +kernel
theorem dX9_better_88 : decode cX9_better 88 = .ok (.getfield 131, 3) := by decide +kernel
theorem dX9_better_91 : decode cX9_better 91 = .ok (.if_icmp .ge 66, 3) := by decide +kernel
theorem dX9_better_94 : decode cX9_better 94 = .ok (.iload 6, 2) := by decide +kernel
theorem dX9_better_96 : decode cX9_better 96 = .ok (.iconst 1, 1) := by decide +kernel
theorem dX9_better_97 : decode cX9_better 97 = .ok (.iadd, 1) := by decide +kernel
theorem dX9_better_98 : decode cX9_better 98 = .ok (.istore 7, 2) := by decide +kernel
theorem dX9_better_100 : decode cX9_better 100 = .ok (.iload 7, 2) := by decide +kernel
theorem dX9_better_102 : decode cX9_better 102 = .ok (.aload_n 0, 1) := by decide +kernel
theorem dX9_better_103 : decode cX9_better 103 = .ok (.getfield 10, 3) := by decide +kernel
theorem dX9_better_106 : decode cX9_better 106 = .ok (.getfield 131, 3) := by decide +kernel
theorem dX9_better_109 : decode cX9_better 109 = .ok (.if_icmp .ge 42, 3) := by decide +kernel
theorem dX9_better_112 : decode cX9_better 112 = .ok (.iload_n 3, 1) := by decide +kernel
theorem dX9_better_113 : decode cX9_better 113 = .ok (.aload_n 0, 1) := by decide +kernel
theorem dX9_better_114 : decode cX9_better 114 = .ok (.iload 6, 2) := by decide +kernel
theorem dX9_better_116 : decode cX9_better 116 = .ok (.iload 7, 2) := by decide +kernel
theorem dX9_better_118 : decode cX9_better 118 = .ok (.invokevirtual 233, 3) := by decide +kernel
theorem dX9_better_121 : decode cX9_better 121 = .ok (.iadd, 1) := by decide +kernel
theorem dX9_better_122 : decode cX9_better 122 = .ok (.istore 8, 2) := by decide +kernel
theorem dX9_better_124 : decode cX9_better 124 = .ok (.iload 8, 2) := by decide +kernel
theorem dX9_better_126 : decode cX9_better 126 = .ok (.iload 4, 2) := by decide +kernel
theorem dX9_better_128 : decode cX9_better 128 = .ok (.if_icmp .ge 17, 3) := by decide +kernel
theorem dX9_better_131 : decode cX9_better 131 = .ok (.iload 8, 2) := by decide +kernel
theorem dX9_better_133 : decode cX9_better 133 = .ok (.istore 4, 2) := by decide +kernel
theorem dX9_better_135 : decode cX9_better 135 = .ok (.bipush 10, 2) := by decide +kernel
theorem dX9_better_137 : decode cX9_better 137 = .ok (.iload 6, 2) := by decide +kernel
theorem dX9_better_139 : decode cX9_better 139 = .ok (.imul, 1) := by decide +kernel
theorem dX9_better_140 : decode cX9_better 140 = .ok (.iload 7, 2) := by decide +kernel
theorem dX9_better_142 : decode cX9_better 142 = .ok (.iadd, 1) := by decide +kernel
theorem dX9_better_143 : decode cX9_better 143 = .ok (.istore 5, 2) := by decide +kernel
theorem dX9_better_145 : decode cX9_better 145 = .ok (.iinc 7 1, 3) := by decide +kernel
theorem dX9_better_148 : decode cX9_better 148 = .ok (.goto (-48), 3) := by decide +kernel
theorem dX9_better_151 : decode cX9_better 151 = .ok (.iinc 6 1, 3) := by decide +kernel
theorem dX9_better_154 : decode cX9_better 154 = .ok (.goto (-72), 3) := by decide +kernel
theorem dX9_better_157 : decode cX9_better 157 = .ok (.iload_n 2, 1) := by decide +kernel
theorem dX9_better_158 : decode cX9_better 158 = .ok (.ifCond .ne 8, 3) := by decide +kernel
theorem dX9_better_161 : decode cX9_better 161 = .ok (.iload 5, 2) := by decide +kernel
theorem dX9_better_163 : decode cX9_better 163 = .ok (.goto 5, 3) := by decide +kernel
theorem dX9_better_166 : decode cX9_better 166 = .ok (.iload 4, 2) := by decide +kernel
theorem dX9_better_168 : decode cX9_better 168 = .ok (.ireturn, 1) := by decide +kernel
theorem dX9_best_0 : decode cX9_best 0 = .ok (.iload_n 1, 1) := by decide +kernel
theorem dX9_best_1 : decode cX9_best 1 = .ok (.bipush 10, 2) := by decide +kernel
theorem dX9_best_3 : decode cX9_best 3 = .ok (.invokestatic 191, 3) := by decide +kernel
theorem dX9_best_6 : decode cX9_best 6 = .ok (.ifCond .eq 12, 3) := by decide +kernel
theorem dX9_best_9 : decode cX9_best 9 = .ok (.iload_n 2, 1) := by decide +kernel
theorem dX9_best_10 : decode cX9_best 10 = .ok (.ifCond .eq 11, 3) := by decide +kernel
theorem dX9_best_13 : decode cX9_best 13 = .ok (.iload_n 2, 1) := by decide +kernel
theorem dX9_best_14 : decode cX9_best 14 = .ok (.iconst 1, 1) := by decide +kernel
theorem dX9_best_15 : decode cX9_best 15 = .ok (.if_icmp .eq 6, 3) := by decide +kernel
theorem dX9_best_18 : decode cX9_best 18 = .ok (.bipush (-2), 2) := by decide +kernel
theorem dX9_best_20 : decode cX9_best 20 = .ok (.ireturn, 1) := by decide +kernel
theorem dX9_best_21 : decode cX9_best 21 = .ok (.aload_n 0, 1) := by decide +kernel
theorem dX9_best_22 : decode cX9_best 22 = .ok (.iload_n 1, 1) := by decide +kernel
theorem dX9_best_23 : decode cX9_best 23 = .ok (.invokevirtual 230, 3) := by decide +kernel
theorem dX9_best_26 : decode cX9_best 26 = .ok (.aload_n 0, 1) := by decide +kernel
theorem dX9_best_27 : decode cX9_best 27 = .ok (.getfield 56, 3) := by decide +kernel
theorem dX9_best_30 : decode cX9_best 30 = .ok (.aload_n 0, 1) := by decide +kernel
theorem dX9_best_31 : decode cX9_best 31 = .ok (.getfield 10, 3) := by decide +kernel
theorem dX9_best_34 : decode cX9_best 34 = .ok (.getfield 131, 3) := by decide +kernel
theorem dX9_best_37 : decode cX9_best 37 = .ok (.invokevirtual 236, 3) := by decide +kernel
theorem dX9_best_40 : decode cX9_best 40 = .ok (.iconst 0, 1) := by decide +kernel
theorem dX9_best_41 : decode cX9_best 41 = .ok (.istore_n 3, 1) := by decide +kernel
theorem dX9_best_42 : decode cX9_best 42 = .ok (.iconst 0, 1) := by decide +kernel
theorem dX9_best_43 : decode cX9_best 43 = .ok (.istore 4, 2) := by decide +kernel
theorem dX9_best_45 : decode cX9_best 45 = .ok (.iconst 0, 1) := by decide +kernel
theorem dX9_best_46 : decode cX9_best 46 = .ok (.istore 5, 2) := by decide +kernel
theorem dX9_best_48 : decode cX9_best 48 = .ok (.iload 5, 2) := by decide +kernel
theorem dX9_best_50 : decode cX9_best 50 = .ok (.aload_n 0, 1) := by decide +kernel
theorem dX9_best_51 : decode cX9_best 51 = .ok (.getfield 56, 3) := by decide +kernel
theorem dX9_best_54 : decode cX9_best 54 = .ok (.getfield 239, 3) := by decide +kernel
theorem dX9_best_57 : decode cX9_best 57 = .ok (.if_icmp .ge 86, 3) := by decide +kernel
theorem dX9_best_60 : decode cX9_best 60 = .ok (.iconst 0, 1) := by decide +kernel
theorem dX9_best_61 : decode cX9_best 61 = .ok (.istore 6, 2) := by decide +kernel
theorem dX9_best_63 : decode cX9_best 63 = .ok (.iconst 0, 1) := by decide +kernel
theorem dX9_best_64 : decode cX9_best 64 = .ok (.istore 7, 2) := by decide +kernel
theorem dX9_best_66 : decode cX9_best 66 = .ok (.iload 7, 2) := by decide +kernel
theorem dX9_best_68 : decode cX9_best 68 = .ok (.aload_n 0, 1) := by decide +kernel
theorem dX9_best_69 : decode cX9_best 69 = .ok (.getfield 10, 3) := by decide +kernel
theorem dX9_best_72 : decode cX9_best 72 = .ok (.getfield 131, 3) := by decide +kernel
theorem dX9_best_75 : decode cX9_best 75 = .ok (.if_icmp .ge 32, 3) := by decide +kernel
theorem dX9_best_78 : decode cX9_best 78 = .ok (.iload 6, 2) := by decide +kernel
theorem dX9_best_80 : decode cX9_best 80 = .ok (.aload_n 0, 1) := by decide +kernel
theorem dX9_best_81 : decode cX9_best 81 = .ok (.getfield 69, 3) := by decide +kernel
theorem dX9_best_84 : decode cX9_best 84 = .ok (.iload 7, 2) := by decide +kernel
theorem dX9_best_86 : decode cX9_best 86 = .ok (.aaload, 1) := by decide +kernel
theorem dX9_best_87 : decode cX9_best 87 = .ok (.aload_n 0, 1) := by decide +kernel
theorem dX9_best_88 : decode cX9_best 88 = .ok (.getfield 56, 3) := by decide +kernel
theorem dX9_best_91 : decode cX9_best 91 = .ok (.getfield 242, 3) := by decide +kernel
theorem dX9_best_94 : decode cX9_best 94 = .ok (.iload 7, 2) := by decide +kernel
theorem dX9_best_96 : decode cX9_best 96 = .ok (.iaload, 1) := by decide +kernel
theorem dX9_best_97 : decode cX9_best 97 = .ok (.iaload, 1) := by decide +kernel
theorem dX9_best_98 : decode cX9_best 98 = .ok (.iadd, 1) := by decide +kernel
theorem dX9_best_99 : decode cX9_best 99 = .ok (.istore 6, 2) := by decide +kernel
theorem dX9_best_101 : decode cX9_best 101 = .ok (.iinc 7 1, 3) := by decide +kernel
theorem dX9_best_104 : decode cX9_best 104 = .ok (.goto (-38), 3) := by decide +kernel
theorem dX9_best_107 : decode cX9_best 107 = .ok (.iload 5, 2) := by decide +kernel
theorem dX9_best_109 : decode cX9_best 109 = .ok (.ifCond .eq 9, 3) := by decide +kernel
theorem dX9_best_112 : decode cX9_best 112 = .ok (.iload 6, 2) := by decide +kernel
theorem dX9_best_114 : decode cX9_best 114 = .ok (.iload_n 3, 1) := by decide +kernel
theorem dX9_best_115 : decode cX9_best 115 = .ok (.if_icmp .ge 15, 3) := by decide +kernel
theorem dX9_best_118 : decode cX9_best 118 = .ok (.iload 6, 2) := by decide +kernel
theorem dX9_best_120 : decode cX9_best 120 = .ok (.istore_n 3, 1) := by decide +kernel
theorem dX9_best_121 : decode cX9_best 121 = .ok (.aload_n 0, 1) := by decide +kernel
theorem dX9_best_122 : decode cX9_best 122 = .ok (.getfield 56, 3) := by decide +kernel
theorem dX9_best_125 : decode cX9_best 125 = .ok (.invokevirtual 245, 3) := by decide +kernel
theorem dX9_best_128 : decode cX9_best 128 = .ok (.istore 4, 2) := by decide +kernel
theorem dX9_best_130 : decode cX9_best 130 = .ok (.aload_n 0, 1) := by decide +kernel
theorem dX9_best_131 : decode cX9_best 131 = .ok (.getfield 56, 3) := by decide +kernel
theorem dX9_best_134 : decode cX9_best 134 = .ok (.invokevirtual 248, 3) := by decide +kernel
theorem dX9_best_137 : decode cX9_best 137 = .ok (.iinc 5 1, 3) := by decide +kernel
theorem dX9_best_140 : decode cX9_best 140 = .ok (.goto (-92), 3) := by decide +kernel
theorem dX9_best_143 : decode cX9_best 143 = .ok (.iload_n 2, 1) := by decide +kernel
theorem dX9_best_144 : decode cX9_best 144 = .ok (.ifCond .ne 8, 3) := by decide +kernel
theorem dX9_best_147 : decode cX9_best 147 = .ok (.iload 4, 2) := by decide +kernel
theorem dX9_best_149 : decode cX9_best 149 = .ok (.goto 4, 3) := by decide +kernel
theorem dX9_best_152 : decode cX9_best 152 = .ok (.iload_n 3, 1) := by decide +kernel
theorem dX9_best_153 : decode cX9_best 153 = .ok (.ireturn, 1) := by decide +kernel
theorem dX9_foreseeTempers_0 : decode cX9_foreseeTempers 0 = .ok (.iconst 0, 1) := by decide +kernel
theorem dX9_foreseeTempers_1 : decode cX9_foreseeTempers 1 = .ok (.istore_n 2, 1) := by decide +kernel
theorem dX9_foreseeTempers_2 : decode cX9_foreseeTempers 2 = .ok (.iload_n 2, 1) := by decide +kernel
theorem dX9_foreseeTempers_3 : decode cX9_foreseeTempers 3 = .ok (.aload_n 0, 1) := by decide +kernel
theorem dX9_foreseeTempers_4 : decode cX9_foreseeTempers 4 = .ok (.getfield 10, 3) := by decide +kernel
theorem dX9_foreseeTempers_7 : decode cX9_foreseeTempers 7 = .ok (.getfield 131, 3) := by decide +kernel
theorem dX9_foreseeTempers_10 : decode cX9_foreseeTempers 10 = .ok (.if_icmp .ge 68, 3) := by decide +kernel
theorem dX9_foreseeTempers_13 : decode cX9_foreseeTempers 13 = .ok (.iconst 0, 1) := by decide +kernel
theorem dX9_foreseeTempers_14 : decode cX9_foreseeTempers 14 = .ok (.istore_n 3, 1) := by decide +kernel
theorem dX9_foreseeTempers_15 : decode cX9_foreseeTempers 15 = .ok (.iload_n 3, 1) := by decide +kernel
theorem dX9_foreseeTempers_16 : decode cX9_foreseeTempers 16 = .ok (.aload_n 0, 1) := by decide +kernel
theorem dX9_foreseeTempers_17 : decode cX9_foreseeTempers 17 = .ok (.getfield 10, 3) := by decide +kernel
theorem dX9_foreseeTempers_20 : decode cX9_foreseeTempers 20 = .ok (.getfield 131, 3) := by decide +kernel
theorem dX9_foreseeTempers_23 : decode cX9_foreseeTempers 23 = .ok (.if_icmp .ge 49, 3) := by decide +kernel
theorem dX9_foreseeTempers_26 : decode cX9_foreseeTempers 26 = .ok (.aload_n 0, 1) := by decide +kernel
theorem dX9_foreseeTempers_27 : decode cX9_foreseeTempers 27 = .ok (.iload_n 2, 1) := by decide +kernel
theorem dX9_foreseeTempers_28 : decode cX9_foreseeTempers 28 = .ok (.iload_n 3, 1) := by decide +kernel
theorem dX9_foreseeTempers_29 : decode cX9_foreseeTempers 29 = .ok (.invokevirtual 179, 3) := by decide +kernel
theorem dX9_foreseeTempers_32 : decode cX9_foreseeTempers 32 = .ok (.aload_n 0, 1) := by decide +kernel
theorem dX9_foreseeTempers_33 : decode cX9_foreseeTempers 33 = .ok (.getfield 49, 3) := by decide +kernel
theorem dX9_foreseeTempers_36 : decode cX9_foreseeTempers 36 = .ok (.aload_n 0, 1) := by decide +kernel
theorem dX9_foreseeTempers_37 : decode cX9_foreseeTempers 37 = .ok (.invokevirtual 154, 3) := by decide +kernel
theorem dX9_foreseeTempers_40 : decode cX9_foreseeTempers 40 = .ok (.aload_n 0, 1) := by decide +kernel
theorem dX9_foreseeTempers_41 : decode cX9_foreseeTempers 41 = .ok (.getfield 10, 3) := by decide +kernel
theorem dX9_foreseeTempers_44 : decode cX9_foreseeTempers 44 = .ok (.getfield 109, 3) := by decide +kernel
theorem dX9_foreseeTempers_47 : decode cX9_foreseeTempers 47 = .ok (.iload_n 1, 1) := by decide +kernel
theorem dX9_foreseeTempers_48 : decode cX9_foreseeTempers 48 = .ok (.invokevirtual 194, 3) := by decide +kernel
theorem dX9_foreseeTempers_51 : decode cX9_foreseeTempers 51 = .ok (.aload_n 0, 1) := by decide +kernel
theorem dX9_foreseeTempers_52 : decode cX9_foreseeTempers 52 = .ok (.getfield 69, 3) := by decide +kernel
theorem dX9_foreseeTempers_55 : decode cX9_foreseeTempers 55 = .ok (.iload_n 2, 1) := by decide +kernel
theorem dX9_foreseeTempers_56 : decode cX9_foreseeTempers 56 = .ok (.aaload, 1) := by decide +kernel
theorem dX9_foreseeTempers_57 : decode cX9_foreseeTempers 57 = .ok (.iload_n 3, 1) := by decide +kernel
theorem dX9_foreseeTempers_58 : decode cX9_foreseeTempers 58 = .ok (.aload_n 0, 1) := by decide +kernel
theorem dX9_foreseeTempers_59 : decode cX9_foreseeTempers 59 = .ok (.getfield 49, 3) := by decide +kernel
theorem dX9_foreseeTempers_62 : decode cX9_foreseeTempers 62 = .ok (.getfield 170, 3) := by decide +kernel
theorem dX9_foreseeTempers_65 : decode cX9_foreseeTempers 65 = .ok (.iastore, 1) := by decide +kernel
theorem dX9_foreseeTempers_66 : decode cX9_foreseeTempers 66 = .ok (.iinc 3 1, 3) := by decide +kernel
theorem dX9_foreseeTempers_69 : decode cX9_foreseeTempers 69 = .ok (.goto (-54), 3) := by decide +kernel
theorem dX9_foreseeTempers_72 : decode cX9_foreseeTempers 72 = .ok (.iinc 2 1, 3) := by decide +kernel
theorem dX9_foreseeTempers_75 : decode cX9_foreseeTempers 75 = .ok (.goto (-73), 3) := by decide +kernel
theorem dX9_foreseeTempers_78 : decode cX9_foreseeTempers 78 = .ok (.return_, 1) := by decide +kernel
theorem dX9_warmerBy_0 : decode cX9_warmerBy 0 = .ok (.aload_n 0, 1) := by decide +kernel
theorem dX9_warmerBy_1 : decode cX9_warmerBy 1 = .ok (.getfield 10, 3) := by decide +kernel
theorem dX9_warmerBy_4 : decode cX9_warmerBy 4 = .ok (.getfield 112, 3) := by decide +kernel
theorem dX9_warmerBy_7 : decode cX9_warmerBy 7 = .ok (.iload_n 1, 1) := by decide +kernel
theorem dX9_warmerBy_8 : decode cX9_warmerBy 8 = .ok (.aaload, 1) := by decide +kernel
theorem dX9_warmerBy_9 : decode cX9_warmerBy 9 = .ok (.getfield 137, 3) := by decide +kernel
theorem dX9_warmerBy_12 : decode cX9_warmerBy 12 = .ok (.istore_n 3, 1) := by decide +kernel
theorem dX9_warmerBy_13 : decode cX9_warmerBy 13 = .ok (.aload_n 0, 1) := by decide +kernel
theorem dX9_warmerBy_14 : decode cX9_warmerBy 14 = .ok (.getfield 10, 3) := by decide +kernel
theorem dX9_warmerBy_17 : decode cX9_warmerBy 17 = .ok (.getfield 112, 3) := by decide +kernel
theorem dX9_warmerBy_20 : decode cX9_warmerBy 20 = .ok (.iload_n 2, 1) := by decide +kernel
theorem dX9_warmerBy_21 : decode cX9_warmerBy 21 = .ok (.aaload, 1) := by decide +kernel
theorem dX9_warmerBy_22 : decode cX9_warmerBy 22 = .ok (.getfield 137, 3) := by decide +kernel
theorem dX9_warmerBy_25 : decode cX9_warmerBy 25 = .ok (.istore 4, 2) := by decide +kernel
theorem dX9_warmerBy_27 : decode cX9_warmerBy 27 = .ok (.aload_n 0, 1) := by decide +kernel
theorem dX9_warmerBy_28 : decode cX9_warmerBy 28 = .ok (.getfield 69, 3) := by decide +kernel
theorem dX9_warmerBy_31 : decode cX9_warmerBy 31 = .ok (.iload_n 1, 1) := by decide +kernel
theorem dX9_warmerBy_32 : decode cX9_warmerBy 32 = .ok (.aaload, 1) := by decide +kernel
theorem dX9_warmerBy_33 : decode cX9_warmerBy 33 = .ok (.iload 4, 2) := by decide +kernel
theorem dX9_warmerBy_35 : decode cX9_warmerBy 35 = .ok (.iaload, 1) := by decide +kernel
theorem dX9_warmerBy_36 : decode cX9_warmerBy 36 = .ok (.aload_n 0, 1) := by decide +kernel
theorem dX9_warmerBy_37 : decode cX9_warmerBy 37 = .ok (.getfield 69, 3) := by decide +kernel
theorem dX9_warmerBy_40 : decode cX9_warmerBy 40 = .ok (.iload_n 2, 1) := by decide +kernel
theorem dX9_warmerBy_41 : decode cX9_warmerBy 41 = .ok (.aaload, 1) := by decide +kernel
theorem dX9_warmerBy_42 : decode cX9_warmerBy 42 = .ok (.iload_n 3, 1) := by decide +kernel
theorem dX9_warmerBy_43 : decode cX9_warmerBy 43 = .ok (.iaload, 1) := by decide +kernel
theorem dX9_warmerBy_44 : decode cX9_warmerBy 44 = .ok (.iadd, 1) := by decide +kernel
theorem dX9_warmerBy_45 : decode cX9_warmerBy 45 = .ok (.aload_n 0, 1) := by decide +kernel
theorem dX9_warmerBy_46 : decode cX9_warmerBy 46 = .ok (.getfield 69, 3) := by decide +kernel
theorem dX9_warmerBy_49 : decode cX9_warmerBy 49 = .ok (.iload_n 1, 1) := by decide +kernel
theorem dX9_warmerBy_50 : decode cX9_warmerBy 50 = .ok (.aaload, 1) := by decide +kernel
theorem dX9_warmerBy_51 : decode cX9_warmerBy 51 = .ok (.iload_n 3, 1) := by decide +kernel
theorem dX9_warmerBy_52 : decode cX9_warmerBy 52 = .ok (.iaload, 1) := by decide +kernel
theorem dX9_warmerBy_53 : decode cX9_warmerBy 53 = .ok (.isub, 1) := by decide +kernel
theorem dX9_warmerBy_54 : decode cX9_warmerBy 54 = .ok (.aload_n 0, 1) := by decide +kernel
theorem dX9_warmerBy_55 : decode cX9_warmerBy 55 = .ok (.getfield 69, 3) := by decide +kernel
theorem dX9_warmerBy_58 : decode cX9_warmerBy 58 = .ok (.iload_n 2, 1) := by decide +kernel
theorem dX9_warmerBy_59 : decode cX9_warmerBy 59 = .ok (.aaload, 1) := by decide +kernel
theorem dX9_warmerBy_60 : decode cX9_warmerBy 60 = .ok (.iload 4, 2) := by decide +kernel
theorem dX9_warmerBy_62 : decode cX9_warmerBy 62 = .ok (.iaload, 1) := by decide +kernel
theorem dX9_warmerBy_63 : decode cX9_warmerBy 63 = .ok (.isub, 1) := by decide +kernel
theorem dX9_warmerBy_64 : decode cX9_warmerBy 64 = .ok (.ireturn, 1) := by decide +kernel
theorem dX9_from_0 : decode cX9_from 0 = .ok (.aload_n 0, 1) := by decide +kernel
theorem dX9_from_1 : decode cX9_from 1 = .ok (.iload_n 1, 1) := by decide +kernel
theorem dX9_from_2 : decode cX9_from 2 = .ok (.invokevirtual 140, 3) := by decide +kernel
theorem dX9_from_5 : decode cX9_from 5 = .ok (.ifCond .ne 6, 3) := by decide +kernel
theorem dX9_from_8 : decode cX9_from 8 = .ok (.bipush (-2), 2) := by decide +kernel
theorem dX9_from_10 : decode cX9_from 10 = .ok (.ireturn, 1) := by decide +kernel
theorem dX9_from_11 : decode cX9_from 11 = .ok (.aload_n 0, 1) := by decide +kernel
theorem dX9_from_12 : decode cX9_from 12 = .ok (.invokevirtual 251, 3) := by decide +kernel
theorem dX9_from_15 : decode cX9_from 15 = .ok (.aload_n 0, 1) := by decide +kernel
theorem dX9_from_16 : decode cX9_from 16 = .ok (.getfield 63, 3) := by decide +kernel
theorem dX9_from_19 : decode cX9_from 19 = .ok (.invokevirtual 254, 3) := by decide +kernel
theorem dX9_from_22 : decode cX9_from 22 = .ok (.aload_n 0, 1) := by decide +kernel
theorem dX9_from_23 : decode cX9_from 23 = .ok (.getfield 63, 3) := by decide +kernel
theorem dX9_from_26 : decode cX9_from 26 = .ok (.getfield 257, 3) := by decide +kernel
theorem dX9_from_29 : decode cX9_from 29 = .ok (.iload_n 1, 1) := by decide +kernel
theorem dX9_from_30 : decode cX9_from 30 = .ok (.iaload, 1) := by decide +kernel
theorem dX9_from_31 : decode cX9_from 31 = .ok (.ireturn, 1) := by decide +kernel
theorem dX9_keys_0 : decode cX9_keys 0 = .ok (.aload_n 0, 1) := by decide +kernel
theorem dX9_keys_1 : decode cX9_keys 1 = .ok (.invokevirtual 251, 3) := by decide +kernel
theorem dX9_keys_4 : decode cX9_keys 4 = .ok (.aload_n 0, 1) := by decide +kernel
theorem dX9_keys_5 : decode cX9_keys 5 = .ok (.getfield 63, 3) := by decide +kernel
theorem dX9_keys_8 : decode cX9_keys 8 = .ok (.invokevirtual 254, 3) := by decide +kernel
theorem dX9_keys_11 : decode cX9_keys 11 = .ok (.iload_n 1, 1) := by decide +kernel
theorem dX9_keys_12 : decode cX9_keys 12 = .ok (.tableswitch 67 0 3 #[32, 40, 48, 56], 32) := by decide +kernel
theorem dX9_keys_44 : decode cX9_keys 44 = .ok (.aload_n 0, 1) := by decide +kernel
theorem dX9_keys_45 : decode cX9_keys 45 = .ok (.getfield 63, 3) := by decide +kernel
theorem dX9_keys_48 : decode cX9_keys 48 = .ok (.invokevirtual 260, 3) := by decide +kernel
theorem dX9_keys_51 : decode cX9_keys 51 = .ok (.ireturn, 1) := by decide +kernel
theorem dX9_keys_52 : decode cX9_keys 52 = .ok (.aload_n 0, 1) := by decide +kernel
theorem dX9_keys_53 : decode cX9_keys 53 = .ok (.getfield 63, 3) := by decide +kernel
theorem dX9_keys_56 : decode cX9_keys 56 = .ok (.invokevirtual 263, 3) := by decide +kernel
theorem dX9_keys_59 : decode cX9_keys 59 = .ok (.ireturn, 1) := by decide +kernel
theorem dX9_keys_60 : decode cX9_keys 60 = .ok (.aload_n 0, 1) := by decide +kernel
theorem dX9_keys_61 : decode cX9_keys 61 = .ok (.getfield 63, 3) := by decide +kernel
theorem dX9_keys_64 : decode cX9_keys 64 = .ok (.invokevirtual 266, 3) := by decide +kernel
theorem dX9_keys_67 : decode cX9_keys 67 = .ok (.ireturn, 1) := by decide +kernel
theorem dX9_keys_68 : decode cX9_keys 68 = .ok (.aload_n 0, 1) := by decide +kernel
theorem dX9_keys_69 : decode cX9_keys 69 = .ok (.getfield 63, 3) := by decide +kernel
theorem dX9_keys_72 : decode cX9_keys 72 = .ok (.invokevirtual 266, 3) := by decide +kernel
theorem dX9_keys_75 : decode cX9_keys 75 = .ok (.invokestatic 220, 3) := by decide +kernel
theorem dX9_keys_78 : decode cX9_keys 78 = .ok (.ireturn, 1) := by decide +kernel
theorem dX9_keys_79 : decode cX9_keys 79 = .ok (.bipush (-2), 2) := by decide +kernel
theorem dX9_keys_81 : decode cX9_keys 81 = .ok (.ireturn, 1) := by decide +kernel
theorem dX9_fillPockets_0 : decode cX9_fillPockets 0 = .ok (.aload_n 0, 1) := by decide +kernel
theorem dX9_fillPockets_1 : decode cX9_fillPockets 1 = .ok (.getfield 63, 3) := by decide +kernel
theorem dX9_fillPockets_4 : decode cX9_fillPockets 4 = .ok (.aload_n 0, 1) := by decide +kernel
theorem dX9_fillPockets_5 : decode cX9_fillPockets 5 = .ok (.getfield 10, 3) := by decide +kernel
theorem dX9_fillPockets_8 : decode cX9_fillPockets 8 = .ok (.getfield 131, 3) := by decide +kernel
theorem dX9_fillPockets_11 : decode cX9_fillPockets 11 = .ok (.putfield 269, 3) := by decide +kernel
theorem dX9_fillPockets_14 : decode cX9_fillPockets 14 = .ok (.iconst 0, 1) := by decide +kernel
theorem dX9_fillPockets_15 : decode cX9_fillPockets 15 = .ok (.istore_n 1, 1) := by decide +kernel
theorem dX9_fillPockets_16 : decode cX9_fillPockets 16 = .ok (.iload_n 1, 1) := by decide +kernel
theorem dX9_fillPockets_17 : decode cX9_fillPockets 17 = .ok (.aload_n 0, 1) := by decide +kernel
theorem dX9_fillPockets_18 : decode cX9_fillPockets 18 = .ok (.getfield 10, 3) := by decide +kernel
theorem dX9_fillPockets_21 : decode cX9_fillPockets 21 = .ok (.getfield 131, 3) := by decide +kernel
theorem dX9_fillPockets_24 : decode cX9_fillPockets 24 = .ok (.if_icmp .ge 51, 3) := by decide +kernel
theorem dX9_fillPockets_27 : decode cX9_fillPockets 27 = .ok (.aload_n 0, 1) := by decide +kernel
theorem dX9_fillPockets_28 : decode cX9_fillPockets 28 = .ok (.getfield 63, 3) := by decide +kernel
theorem dX9_fillPockets_31 : decode cX9_fillPockets 31 = .ok (.getfield 270, 3) := by decide +kernel
theorem dX9_fillPockets_34 : decode cX9_fillPockets 34 = .ok (.iload_n 1, 1) := by decide +kernel
theorem dX9_fillPockets_35 : decode cX9_fillPockets 35 = .ok (.aload_n 0, 1) := by decide +kernel
theorem dX9_fillPockets_36 : decode cX9_fillPockets 36 = .ok (.getfield 10, 3) := by decide +kernel
theorem dX9_fillPockets_39 : decode cX9_fillPockets 39 = .ok (.getfield 112, 3) := by decide +kernel
theorem dX9_fillPockets_42 : decode cX9_fillPockets 42 = .ok (.iload_n 1, 1) := by decide +kernel
theorem dX9_fillPockets_43 : decode cX9_fillPockets 43 = .ok (.aaload, 1) := by decide +kernel
theorem dX9_fillPockets_44 : decode cX9_fillPockets 44 = .ok (.getfield 116, 3) := by decide +kernel
theorem dX9_fillPockets_47 : decode cX9_fillPockets 47 = .ok (.iastore, 1) := by decide +kernel
theorem dX9_fillPockets_48 : decode cX9_fillPockets 48 = .ok (.aload_n 0, 1) := by decide +kernel
theorem dX9_fillPockets_49 : decode cX9_fillPockets 49 = .ok (.getfield 63, 3) := by decide +kernel
theorem dX9_fillPockets_52 : decode cX9_fillPockets 52 = .ok (.getfield 273, 3) := by decide +kernel
theorem dX9_fillPockets_55 : decode cX9_fillPockets 55 = .ok (.iload_n 1, 1) := by decide +kernel
theorem dX9_fillPockets_56 : decode cX9_fillPockets 56 = .ok (.aload_n 0, 1) := by decide +kernel
theorem dX9_fillPockets_57 : decode cX9_fillPockets 57 = .ok (.getfield 10, 3) := by decide +kernel
theorem dX9_fillPockets_60 : decode cX9_fillPockets 60 = .ok (.getfield 112, 3) := by decide +kernel
theorem dX9_fillPockets_63 : decode cX9_fillPockets 63 = .ok (.iload_n 1, 1) := by decide +kernel
theorem dX9_fillPockets_64 : decode cX9_fillPockets 64 = .ok (.aaload, 1) := by decide +kernel
theorem dX9_fillPockets_65 : decode cX9_fillPockets 65 = .ok (.getfield 121, 3) := by decide +kernel
theorem dX9_fillPockets_68 : decode cX9_fillPockets 68 = .ok (.iastore, 1) := by decide +kernel
theorem dX9_fillPockets_69 : decode cX9_fillPockets 69 = .ok (.iinc 1 1, 3) := by decide +kernel
theorem dX9_fillPockets_72 : decode cX9_fillPockets 72 = .ok (.goto (-56), 3) := by decide +kernel
theorem dX9_fillPockets_75 : decode cX9_fillPockets 75 = .ok (.return_, 1) := by decide +kernel
theorem dX9_tells_0 : decode cX9_tells 0 = .ok (.iload_n 2, 1) := by decide +kernel
theorem dX9_tells_1 : decode cX9_tells 1 = .ok (.bipush 10, 2) := by decide +kernel
theorem dX9_tells_3 : decode cX9_tells 3 = .ok (.if_icmp .lt 24, 3) := by decide +kernel
theorem dX9_tells_6 : decode cX9_tells 6 = .ok (.iload_n 2, 1) := by decide +kernel
theorem dX9_tells_7 : decode cX9_tells 7 = .ok (.bipush 40, 2) := by decide +kernel
theorem dX9_tells_9 : decode cX9_tells 9 = .ok (.if_icmp .ge 18, 3) := by decide +kernel
theorem dX9_tells_12 : decode cX9_tells 12 = .ok (.aload_n 0, 1) := by decide +kernel
theorem dX9_tells_13 : decode cX9_tells 13 = .ok (.iload_n 2, 1) := by decide +kernel
theorem dX9_tells_14 : decode cX9_tells 14 = .ok (.bipush 10, 2) := by decide +kernel
theorem dX9_tells_16 : decode cX9_tells 16 = .ok (.irem, 1) := by decide +kernel
theorem dX9_tells_17 : decode cX9_tells 17 = .ok (.invokevirtual 140, 3) := by decide +kernel
theorem dX9_tells_20 : decode cX9_tells 20 = .ok (.ifCond .eq 7, 3) := by decide +kernel
theorem dX9_tells_23 : decode cX9_tells 23 = .ok (.iconst 1, 1) := by decide +kernel
theorem dX9_tells_24 : decode cX9_tells 24 = .ok (.goto 4, 3) := by decide +kernel
theorem dX9_tells_27 : decode cX9_tells 27 = .ok (.iconst 0, 1) := by decide +kernel
theorem dX9_tells_28 : decode cX9_tells 28 = .ok (.istore_n 3, 1) := by decide +kernel
theorem dX9_tells_29 : decode cX9_tells 29 = .ok (.iload_n 1, 1) := by decide +kernel
theorem dX9_tells_30 : decode cX9_tells 30 = .ok (.invokestatic 276, 3) := by decide +kernel
theorem dX9_tells_33 : decode cX9_tells 33 = .ok (.ifCond .eq 16, 3) := by decide +kernel
theorem dX9_tells_36 : decode cX9_tells 36 = .ok (.iload_n 2, 1) := by decide +kernel
theorem dX9_tells_37 : decode cX9_tells 37 = .ok (.ifCond .lt 8, 3) := by decide +kernel
theorem dX9_tells_40 : decode cX9_tells 40 = .ok (.iload_n 2, 1) := by decide +kernel
theorem dX9_tells_41 : decode cX9_tells 41 = .ok (.iconst 4, 1) := by decide +kernel
theorem dX9_tells_42 : decode cX9_tells 42 = .ok (.if_icmp .le 10, 3) := by decide +kernel
theorem dX9_tells_45 : decode cX9_tells 45 = .ok (.iload_n 3, 1) := by decide +kernel
theorem dX9_tells_46 : decode cX9_tells 46 = .ok (.ifCond .ne 6, 3) := by decide +kernel
theorem dX9_tells_49 : decode cX9_tells 49 = .ok (.bipush (-2), 2) := by decide +kernel
theorem dX9_tells_51 : decode cX9_tells 51 = .ok (.ireturn, 1) := by decide +kernel
theorem dX9_tells_52 : decode cX9_tells 52 = .ok (.aload_n 0, 1) := by decide +kernel
theorem dX9_tells_53 : decode cX9_tells 53 = .ok (.getfield 42, 3) := by decide +kernel
theorem dX9_tells_56 : decode cX9_tells 56 = .ok (.iload_n 1, 1) := by decide +kernel
theorem dX9_tells_57 : decode cX9_tells 57 = .ok (.aaload, 1) := by decide +kernel
theorem dX9_tells_58 : decode cX9_tells 58 = .ok (.astore 4, 2) := by decide +kernel
theorem dX9_tells_60 : decode cX9_tells 60 = .ok (.aload 4, 2) := by decide +kernel
theorem dX9_tells_62 : decode cX9_tells 62 = .ok (.invokevirtual 279, 3) := by decide +kernel
theorem dX9_tells_65 : decode cX9_tells 65 = .ok (.ifCond .eq 6, 3) := by decide +kernel
theorem dX9_tells_68 : decode cX9_tells 68 = .ok (.bipush (-11), 2) := by decide +kernel
theorem dX9_tells_70 : decode cX9_tells 70 = .ok (.ireturn, 1) := by decide +kernel
theorem dX9_tells_71 : decode cX9_tells 71 = .ok (.aload 4, 2) := by decide +kernel
theorem dX9_tells_73 : decode cX9_tells 73 = .ok (.getfield 283, 3) := by decide +kernel
theorem dX9_tells_76 : decode cX9_tells 76 = .ok (.aload_n 0, 1) := by decide +kernel
theorem dX9_tells_77 : decode cX9_tells 77 = .ok (.getfield 10, 3) := by decide +kernel
theorem dX9_tells_80 : decode cX9_tells 80 = .ok (.getfield 131, 3) := by decide +kernel
theorem dX9_tells_83 : decode cX9_tells 83 = .ok (.if_icmp .eq 6, 3) := by decide +kernel
theorem dX9_tells_86 : decode cX9_tells 86 = .ok (.bipush (-2), 2) := by decide +kernel
theorem dX9_tells_88 : decode cX9_tells 88 = .ok (.ireturn, 1) := by decide +kernel
theorem dX9_tells_89 : decode cX9_tells 89 = .ok (.iload_n 3, 1) := by decide +kernel
theorem dX9_tells_90 : decode cX9_tells 90 = .ok (.ifCond .eq 18, 3) := by decide +kernel
theorem dX9_tells_93 : decode cX9_tells 93 = .ok (.aload_n 0, 1) := by decide +kernel
theorem dX9_tells_94 : decode cX9_tells 94 = .ok (.aload 4, 2) := by decide +kernel
theorem dX9_tells_96 : decode cX9_tells 96 = .ok (.iload_n 2, 1) := by decide +kernel
theorem dX9_tells_97 : decode cX9_tells 97 = .ok (.bipush 10, 2) := by decide +kernel
theorem dX9_tells_99 : decode cX9_tells 99 = .ok (.idiv, 1) := by decide +kernel
theorem dX9_tells_100 : decode cX9_tells 100 = .ok (.iload_n 2, 1) := by decide +kernel
theorem dX9_tells_101 : decode cX9_tells 101 = .ok (.bipush 10, 2) := by decide +kernel
theorem dX9_tells_103 : decode cX9_tells 103 = .ok (.irem, 1) := by decide +kernel
theorem dX9_tells_104 : decode cX9_tells 104 = .ok (.invokevirtual 284, 3) := by decide +kernel
theorem dX9_tells_107 : decode cX9_tells 107 = .ok (.ireturn, 1) := by decide +kernel
theorem dX9_tells_108 : decode cX9_tells 108 = .ok (.iload_n 2, 1) := by decide +kernel
theorem dX9_tells_109 : decode cX9_tells 109 = .ok (.lookupswitch 45 #[(0, 27), (4, 38)], 27) := by decide +kernel
theorem dX9_tells_136 : decode cX9_tells 136 = .ok (.aload_n 0, 1) := by decide +kernel
theorem dX9_tells_137 : decode cX9_tells 137 = .ok (.aload 4, 2) := by decide +kernel
theorem dX9_tells_139 : decode cX9_tells 139 = .ok (.aload_n 0, 1) := by decide +kernel
theorem dX9_tells_140 : decode cX9_tells 140 = .ok (.invokevirtual 154, 3) := by decide +kernel
theorem dX9_tells_143 : decode cX9_tells 143 = .ok (.invokevirtual 288, 3) := by decide +kernel
theorem dX9_tells_146 : decode cX9_tells 146 = .ok (.ireturn, 1) := by decide +kernel
theorem dX9_tells_147 : decode cX9_tells 147 = .ok (.aload_n 0, 1) := by decide +kernel
theorem dX9_tells_148 : decode cX9_tells 148 = .ok (.aload 4, 2) := by decide +kernel
theorem dX9_tells_150 : decode cX9_tells 150 = .ok (.invokevirtual 292, 3) := by decide +kernel
theorem dX9_tells_153 : decode cX9_tells 153 = .ok (.ireturn, 1) := by decide +kernel
theorem dX9_tells_154 : decode cX9_tells 154 = .ok (.aload_n 0, 1) := by decide +kernel
theorem dX9_tells_155 : decode cX9_tells 155 = .ok (.aload 4, 2) := by decide +kernel
theorem dX9_tells_157 : decode cX9_tells 157 = .ok (.iload_n 2, 1) := by decide +kernel
theorem dX9_tells_158 : decode cX9_tells 158 = .ok (.invokevirtual 296, 3) := by decide +kernel
theorem dX9_tells_161 : decode cX9_tells 161 = .ok (.ireturn, 1) := by decide +kernel
theorem dX9_otherwise_0 : decode cX9_otherwise 0 = .ok (.iconst 0, 1) := by decide +kernel
theorem dX9_otherwise_1 : decode cX9_otherwise 1 = .ok (.istore_n 3, 1) := by decide +kernel
theorem dX9_otherwise_2 : decode cX9_otherwise 2 = .ok (.iconst 0, 1) := by decide +kernel
theorem dX9_otherwise_3 : decode cX9_otherwise 3 = .ok (.istore 4, 2) := by decide +kernel
theorem dX9_otherwise_5 : decode cX9_otherwise 5 = .ok (.iload 4, 2) := by decide +kernel
theorem dX9_otherwise_7 : decode cX9_otherwise 7 = .ok (.aload_n 0, 1) := by decide +kernel
theorem dX9_otherwise_8 : decode cX9_otherwise 8 = .ok (.getfield 10, 3) := by decide +kernel
theorem dX9_otherwise_11 : decode cX9_otherwise 11 = .ok (.getfield 131, 3) := by decide +kernel
theorem dX9_otherwise_14 : decode cX9_otherwise 14 = .ok (.if_icmp .ge 40, 3) := by decide +kernel
theorem dX9_otherwise_17 : decode cX9_otherwise 17 = .ok (.aload_n 0, 1) := by decide +kernel
theorem dX9_otherwise_18 : decode cX9_otherwise 18 = .ok (.iload 4, 2) := by decide +kernel
theorem dX9_otherwise_20 : decode cX9_otherwise 20 = .ok (.invokevirtual 143, 3) := by decide +kernel
theorem dX9_otherwise_23 : decode cX9_otherwise 23 = .ok (.aload_n 0, 1) := by decide +kernel
theorem dX9_otherwise_24 : decode cX9_otherwise 24 = .ok (.getfield 49, 3) := by decide +kernel
theorem dX9_otherwise_27 : decode cX9_otherwise 27 = .ok (.aload_n 2, 1) := by decide +kernel
theorem dX9_otherwise_28 : decode cX9_otherwise 28 = .ok (.invokevirtual 164, 3) := by decide +kernel
theorem dX9_otherwise_31 : decode cX9_otherwise 31 = .ok (.aload_n 1, 1) := by decide +kernel
theorem dX9_otherwise_32 : decode cX9_otherwise 32 = .ok (.getfield 300, 3) := by decide +kernel
theorem dX9_otherwise_35 : decode cX9_otherwise 35 = .ok (.iload 4, 2) := by decide +kernel
theorem dX9_otherwise_37 : decode cX9_otherwise 37 = .ok (.iaload, 1) := by decide +kernel
theorem dX9_otherwise_38 : decode cX9_otherwise 38 = .ok (.if_icmp .eq 10, 3) := by decide +kernel
theorem dX9_otherwise_41 : decode cX9_otherwise 41 = .ok (.iload_n 3, 1) := by decide +kernel
theorem dX9_otherwise_42 : decode cX9_otherwise 42 = .ok (.iconst 1, 1) := by decide +kernel
theorem dX9_otherwise_43 : decode cX9_otherwise 43 = .ok (.iload 4, 2) := by decide +kernel
theorem dX9_otherwise_45 : decode cX9_otherwise 45 = .ok (.ishl, 1) := by decide +kernel
theorem dX9_otherwise_46 : decode cX9_otherwise 46 = .ok (.ior, 1) := by decide +kernel
theorem dX9_otherwise_47 : decode cX9_otherwise 47 = .ok (.istore_n 3, 1) := by decide +kernel
theorem dX9_otherwise_48 : decode cX9_otherwise 48 = .ok (.iinc 4 1, 3) := by decide +kernel
theorem dX9_otherwise_51 : decode cX9_otherwise 51 = .ok (.goto (-46), 3) := by decide +kernel
theorem dX9_otherwise_54 : decode cX9_otherwise 54 = .ok (.iload_n 3, 1) := by decide +kernel
theorem dX9_otherwise_55 : decode cX9_otherwise 55 = .ok (.ireturn, 1) := by decide +kernel
theorem dX9_textsBy_0 : decode cX9_textsBy 0 = .ok (.iconst 0, 1) := by decide +kernel
theorem dX9_textsBy_1 : decode cX9_textsBy 1 = .ok (.istore_n 2, 1) := by decide +kernel
theorem dX9_textsBy_2 : decode cX9_textsBy 2 = .ok (.iconst 0, 1) := by decide +kernel
theorem dX9_textsBy_3 : decode cX9_textsBy 3 = .ok (.istore_n 3, 1) := by decide +kernel
theorem dX9_textsBy_4 : decode cX9_textsBy 4 = .ok (.iload_n 3, 1) := by decide +kernel
theorem dX9_textsBy_5 : decode cX9_textsBy 5 = .ok (.aload_n 0, 1) := by decide +kernel
theorem dX9_textsBy_6 : decode cX9_textsBy 6 = .ok (.getfield 29, 3) := by decide +kernel
theorem dX9_textsBy_9 : decode cX9_textsBy 9 = .ok (.if_icmp .ge 29, 3) := by decide +kernel
theorem dX9_textsBy_12 : decode cX9_textsBy 12 = .ok (.aload_n 0, 1) := by decide +kernel
theorem dX9_textsBy_13 : decode cX9_textsBy 13 = .ok (.aload_n 1, 1) := by decide +kernel
theorem dX9_textsBy_14 : decode cX9_textsBy 14 = .ok (.aload_n 0, 1) := by decide +kernel
theorem dX9_textsBy_15 : decode cX9_textsBy 15 = .ok (.getfield 25, 3) := by decide +kernel
theorem dX9_textsBy_18 : decode cX9_textsBy 18 = .ok (.iload_n 3, 1) := by decide +kernel
theorem dX9_textsBy_19 : decode cX9_textsBy 19 = .ok (.aaload, 1) := by decide +kernel
theorem dX9_textsBy_20 : decode cX9_textsBy 20 = .ok (.invokevirtual 288, 3) := by decide +kernel
theorem dX9_textsBy_23 : decode cX9_textsBy 23 = .ok (.ifCond .ne 9, 3) := by decide +kernel
theorem dX9_textsBy_26 : decode cX9_textsBy 26 = .ok (.iload_n 2, 1) := by decide +kernel
theorem dX9_textsBy_27 : decode cX9_textsBy 27 = .ok (.iconst 1, 1) := by decide +kernel
theorem dX9_textsBy_28 : decode cX9_textsBy 28 = .ok (.iload_n 3, 1) := by decide +kernel
theorem dX9_textsBy_29 : decode cX9_textsBy 29 = .ok (.ishl, 1) := by decide +kernel
theorem dX9_textsBy_30 : decode cX9_textsBy 30 = .ok (.ior, 1) := by decide +kernel
theorem dX9_textsBy_31 : decode cX9_textsBy 31 = .ok (.istore_n 2, 1) := by decide +kernel
theorem dX9_textsBy_32 : decode cX9_textsBy 32 = .ok (.iinc 3 1, 3) := by decide +kernel
theorem dX9_textsBy_35 : decode cX9_textsBy 35 = .ok (.goto (-31), 3) := by decide +kernel
theorem dX9_textsBy_38 : decode cX9_textsBy 38 = .ok (.iload_n 2, 1) := by decide +kernel
theorem dX9_textsBy_39 : decode cX9_textsBy 39 = .ok (.ireturn, 1) := by decide +kernel
theorem dX9_wouldBeSo_0 : decode cX9_wouldBeSo 0 = .ok (.iload_n 2, 1) := by decide +kernel
theorem dX9_wouldBeSo_1 : decode cX9_wouldBeSo 1 = .ok (.iconst 3, 1) := by decide +kernel
theorem dX9_wouldBeSo_2 : decode cX9_wouldBeSo 2 = .ok (.if_icmp .ne 11, 3) := by decide +kernel
theorem dX9_wouldBeSo_5 : decode cX9_wouldBeSo 5 = .ok (.aload_n 0, 1) := by decide +kernel
theorem dX9_wouldBeSo_6 : decode cX9_wouldBeSo 6 = .ok (.iload_n 3, 1) := by decide +kernel
theorem dX9_wouldBeSo_7 : decode cX9_wouldBeSo 7 = .ok (.invokevirtual 303, 3) := by decide +kernel
theorem dX9_wouldBeSo_10 : decode cX9_wouldBeSo 10 = .ok (.goto 4, 3) := by decide +kernel
theorem dX9_wouldBeSo_13 : decode cX9_wouldBeSo 13 = .ok (.iload_n 3, 1) := by decide +kernel
theorem dX9_wouldBeSo_14 : decode cX9_wouldBeSo 14 = .ok (.istore 4, 2) := by decide +kernel
theorem dX9_wouldBeSo_16 : decode cX9_wouldBeSo 16 = .ok (.aload_n 0, 1) := by decide +kernel
theorem dX9_wouldBeSo_17 : decode cX9_wouldBeSo 17 = .ok (.aload_n 1, 1) := by decide +kernel
theorem dX9_wouldBeSo_18 : decode cX9_wouldBeSo 18 = .ok (.aload_n 0, 1) := by decide +kernel
theorem dX9_wouldBeSo_19 : decode cX9_wouldBeSo 19 = .ok (.invokevirtual 154, 3) := by decide +kernel
theorem dX9_wouldBeSo_22 : decode cX9_wouldBeSo 22 = .ok (.invokevirtual 288, 3) := by decide +kernel
theorem dX9_wouldBeSo_25 : decode cX9_wouldBeSo 25 = .ok (.iconst 1, 1) := by decide +kernel
theorem dX9_wouldBeSo_26 : decode cX9_wouldBeSo 26 = .ok (.iload 4, 2) := by decide +kernel
theorem dX9_wouldBeSo_28 : decode cX9_wouldBeSo 28 = .ok (.ishl, 1) := by decide +kernel
theorem dX9_wouldBeSo_29 : decode cX9_wouldBeSo 29 = .ok (.iconst (-1), 1) := by decide +kernel
theorem dX9_wouldBeSo_30 : decode cX9_wouldBeSo 30 = .ok (.ixor, 1) := by decide +kernel
theorem dX9_wouldBeSo_31 : decode cX9_wouldBeSo 31 = .ok (.iand, 1) := by decide +kernel
theorem dX9_wouldBeSo_32 : decode cX9_wouldBeSo 32 = .ok (.istore 5, 2) := by decide +kernel
theorem dX9_wouldBeSo_34 : decode cX9_wouldBeSo 34 = .ok (.iload 5, 2) := by decide +kernel
theorem dX9_wouldBeSo_36 : decode cX9_wouldBeSo 36 = .ok (.ifCond .eq 5, 3) := by decide +kernel
theorem dX9_wouldBeSo_39 : decode cX9_wouldBeSo 39 = .ok (.iconst 0, 1) := by decide +kernel
theorem dX9_wouldBeSo_40 : decode cX9_wouldBeSo 40 = .ok (.ireturn, 1) := by decide +kernel
theorem dX9_wouldBeSo_41 : decode cX9_wouldBeSo 41 = .ok (.iconst 0, 1) := by decide +kernel
theorem dX9_wouldBeSo_42 : decode cX9_wouldBeSo 42 = .ok (.istore 6, 2) := by decide +kernel
theorem dX9_wouldBeSo_44 : decode cX9_wouldBeSo 44 = .ok (.iload_n 2, 1) := by decide +kernel
theorem dX9_wouldBeSo_45 : decode cX9_wouldBeSo 45 = .ok (.iconst 1, 1) := by decide +kernel
theorem dX9_wouldBeSo_46 : decode cX9_wouldBeSo 46 = .ok (.if_icmp .ne 7, 3) := by decide +kernel
theorem dX9_wouldBeSo_49 : decode cX9_wouldBeSo 49 = .ok (.iconst 5, 1) := by decide +kernel
theorem dX9_wouldBeSo_50 : decode cX9_wouldBeSo 50 = .ok (.goto 15, 3) := by decide +kernel
theorem dX9_wouldBeSo_53 : decode cX9_wouldBeSo 53 = .ok (.iload_n 2, 1) := by decide +kernel
theorem dX9_wouldBeSo_54 : decode cX9_wouldBeSo 54 = .ok (.iconst 2, 1) := by decide +kernel
theorem dX9_wouldBeSo_55 : decode cX9_wouldBeSo 55 = .ok (.if_icmp .ne 8, 3) := by decide +kernel
theorem dX9_wouldBeSo_58 : decode cX9_wouldBeSo 58 = .ok (.bipush 9, 2) := by decide +kernel
theorem dX9_wouldBeSo_60 : decode cX9_wouldBeSo 60 = .ok (.goto 5, 3) := by decide +kernel
theorem dX9_wouldBeSo_63 : decode cX9_wouldBeSo 63 = .ok (.bipush 15, 2) := by decide +kernel
theorem dX9_wouldBeSo_65 : decode cX9_wouldBeSo 65 = .ok (.istore 7, 2) := by decide +kernel
theorem dX9_wouldBeSo_67 : decode cX9_wouldBeSo 67 = .ok (.aload_n 0, 1) := by decide +kernel
theorem dX9_wouldBeSo_68 : decode cX9_wouldBeSo 68 = .ok (.iload 4, 2) := by decide +kernel
theorem dX9_wouldBeSo_70 : decode cX9_wouldBeSo 70 = .ok (.invokevirtual 143, 3) := by decide +kernel
theorem dX9_wouldBeSo_73 : decode cX9_wouldBeSo 73 = .ok (.iconst 0, 1) := by decide +kernel
theorem dX9_wouldBeSo_74 : decode cX9_wouldBeSo 74 = .ok (.istore 8, 2) := by decide +kernel
theorem dX9_wouldBeSo_76 : decode cX9_wouldBeSo 76 = .ok (.iload 8, 2) := by decide +kernel
theorem dX9_wouldBeSo_78 : decode cX9_wouldBeSo 78 = .ok (.iload 7, 2) := by decide +kernel
theorem dX9_wouldBeSo_80 : decode cX9_wouldBeSo 80 = .ok (.if_icmp .gt 101, 3) := by decide +kernel
theorem dX9_wouldBeSo_83 : decode cX9_wouldBeSo 83 = .ok (.iload_n 2, 1) := by decide +kernel
theorem dX9_wouldBeSo_84 : decode cX9_wouldBeSo 84 = .ok (.lookupswitch 52 #[(1, 28), (2, 40)], 28) := by decide +kernel
theorem dX9_wouldBeSo_112 : decode cX9_wouldBeSo 112 = .ok (.aload_n 0, 1) := by decide +kernel
theorem dX9_wouldBeSo_113 : decode cX9_wouldBeSo 113 = .ok (.getfield 49, 3) := by decide +kernel
theorem dX9_wouldBeSo_116 : decode cX9_wouldBeSo 116 = .ok (.iload 8, 2) := by decide +kernel
theorem dX9_wouldBeSo_118 : decode cX9_wouldBeSo 118 = .ok (.putfield 147, 3) := by decide +kernel
theorem dX9_wouldBeSo_121 : decode cX9_wouldBeSo 121 = .ok (.goto 24, 3) := by decide +kernel
theorem dX9_wouldBeSo_124 : decode cX9_wouldBeSo 124 = .ok (.aload_n 0, 1) := by decide +kernel
theorem dX9_wouldBeSo_125 : decode cX9_wouldBeSo 125 = .ok (.getfield 49, 3) := by decide +kernel
theorem dX9_wouldBeSo_128 : decode cX9_wouldBeSo 128 = .ok (.iload 8, 2) := by decide +kernel
theorem dX9_wouldBeSo_130 : decode cX9_wouldBeSo 130 = .ok (.putfield 169, 3) := by decide +kernel
theorem dX9_wouldBeSo_133 : decode cX9_wouldBeSo 133 = .ok (.goto 12, 3) := by decide +kernel
theorem dX9_wouldBeSo_136 : decode cX9_wouldBeSo 136 = .ok (.aload_n 0, 1) := by decide +kernel
theorem dX9_wouldBeSo_137 : decode cX9_wouldBeSo 137 = .ok (.getfield 49, 3) := by decide +kernel
theorem dX9_wouldBeSo_140 : decode cX9_wouldBeSo 140 = .ok (.iload 8, 2) := by decide +kernel
theorem dX9_wouldBeSo_142 : decode cX9_wouldBeSo 142 = .ok (.putfield 151, 3) := by decide +kernel
theorem dX9_wouldBeSo_145 : decode cX9_wouldBeSo 145 = .ok (.aload_n 0, 1) := by decide +kernel
theorem dX9_wouldBeSo_146 : decode cX9_wouldBeSo 146 = .ok (.getfield 49, 3) := by decide +kernel
theorem dX9_wouldBeSo_149 : decode cX9_wouldBeSo 149 = .ok (.aload_n 0, 1) := by decide +kernel
theorem dX9_wouldBeSo_150 : decode cX9_wouldBeSo 150 = .ok (.invokevirtual 154, 3) := by decide +kernel
theorem dX9_wouldBeSo_153 : decode cX9_wouldBeSo 153 = .ok (.invokevirtual 164, 3) := by decide +kernel
theorem dX9_wouldBeSo_156 : decode cX9_wouldBeSo 156 = .ok (.aload_n 1, 1) := by decide +kernel
theorem dX9_wouldBeSo_157 : decode cX9_wouldBeSo 157 = .ok (.getfield 300, 3) := by decide +kernel
theorem dX9_wouldBeSo_160 : decode cX9_wouldBeSo 160 = .ok (.iload 4, 2) := by decide +kernel
theorem dX9_wouldBeSo_162 : decode cX9_wouldBeSo 162 = .ok (.iaload, 1) := by decide +kernel
theorem dX9_wouldBeSo_163 : decode cX9_wouldBeSo 163 = .ok (.if_icmp .ne 12, 3) := by decide +kernel
theorem dX9_wouldBeSo_166 : decode cX9_wouldBeSo 166 = .ok (.iload 6, 2) := by decide +kernel
theorem dX9_wouldBeSo_168 : decode cX9_wouldBeSo 168 = .ok (.iconst 1, 1) := by decide +kernel
theorem dX9_wouldBeSo_169 : decode cX9_wouldBeSo 169 = .ok (.iload 8, 2) := by decide +kernel
theorem dX9_wouldBeSo_171 : decode cX9_wouldBeSo 171 = .ok (.ishl, 1) := by decide +kernel
theorem dX9_wouldBeSo_172 : decode cX9_wouldBeSo 172 = .ok (.ior, 1) := by decide +kernel
theorem dX9_wouldBeSo_173 : decode cX9_wouldBeSo 173 = .ok (.istore 6, 2) := by decide +kernel
theorem dX9_wouldBeSo_175 : decode cX9_wouldBeSo 175 = .ok (.iinc 8 1, 3) := by decide +kernel
theorem dX9_wouldBeSo_178 : decode cX9_wouldBeSo 178 = .ok (.goto (-102), 3) := by decide +kernel
theorem dX9_wouldBeSo_181 : decode cX9_wouldBeSo 181 = .ok (.iload 6, 2) := by decide +kernel
theorem dX9_wouldBeSo_183 : decode cX9_wouldBeSo 183 = .ok (.ireturn, 1) := by decide +kernel
theorem dX9_wearerOf_0 : decode cX9_wearerOf 0 = .ok (.iconst 0, 1) := by decide +kernel
theorem dX9_wearerOf_1 : decode cX9_wearerOf 1 = .ok (.istore_n 2, 1) := by decide +kernel
theorem dX9_wearerOf_2 : decode cX9_wearerOf 2 = .ok (.iload_n 2, 1) := by decide +kernel
theorem dX9_wearerOf_3 : decode cX9_wearerOf 3 = .ok (.aload_n 0, 1) := by decide +kernel
theorem dX9_wearerOf_4 : decode cX9_wearerOf 4 = .ok (.getfield 10, 3) := by decide +kernel
theorem dX9_wearerOf_7 : decode cX9_wearerOf 7 = .ok (.getfield 131, 3) := by decide +kernel
theorem dX9_wearerOf_10 : decode cX9_wearerOf 10 = .ok (.if_icmp .ge 27, 3) := by decide +kernel
theorem dX9_wearerOf_13 : decode cX9_wearerOf 13 = .ok (.aload_n 0, 1) := by decide +kernel
theorem dX9_wearerOf_14 : decode cX9_wearerOf 14 = .ok (.getfield 10, 3) := by decide +kernel
theorem dX9_wearerOf_17 : decode cX9_wearerOf 17 = .ok (.getfield 112, 3) := by decide +kernel
theorem dX9_wearerOf_20 : decode cX9_wearerOf 20 = .ok (.iload_n 2, 1) := by decide +kernel
theorem dX9_wearerOf_21 : decode cX9_wearerOf 21 = .ok (.aaload, 1) := by decide +kernel
theorem dX9_wearerOf_22 : decode cX9_wearerOf 22 = .ok (.getfield 137, 3) := by decide +kernel
theorem dX9_wearerOf_25 : decode cX9_wearerOf 25 = .ok (.iload_n 1, 1) := by decide +kernel
theorem dX9_wearerOf_26 : decode cX9_wearerOf 26 = .ok (.if_icmp .ne 5, 3) := by decide +kernel
theorem dX9_wearerOf_29 : decode cX9_wearerOf 29 = .ok (.iload_n 2, 1) := by decide +kernel
theorem dX9_wearerOf_30 : decode cX9_wearerOf 30 = .ok (.ireturn, 1) := by decide +kernel
theorem dX9_wearerOf_31 : decode cX9_wearerOf 31 = .ok (.iinc 2 1, 3) := by decide +kernel
theorem dX9_wearerOf_34 : decode cX9_wearerOf 34 = .ok (.goto (-32), 3) := by decide +kernel
theorem dX9_wearerOf_37 : decode cX9_wearerOf 37 = .ok (.iload_n 1, 1) := by decide +kernel
theorem dX9_wearerOf_38 : decode cX9_wearerOf 38 = .ok (.ireturn, 1) := by decide +kernel
theorem dX9_waysBy_0 : decode cX9_waysBy 0 = .ok (.aload_n 0, 1) := by decide +kernel
theorem dX9_waysBy_1 : decode cX9_waysBy 1 = .ok (.aload_n 1, 1) := by decide +kernel
theorem dX9_waysBy_2 : decode cX9_waysBy 2 = .ok (.invokevirtual 306, 3) := by decide +kernel
theorem dX9_waysBy_5 : decode cX9_waysBy 5 = .ok (.aload_n 0, 1) := by decide +kernel
theorem dX9_waysBy_6 : decode cX9_waysBy 6 = .ok (.getfield 56, 3) := by decide +kernel
theorem dX9_waysBy_9 : decode cX9_waysBy 9 = .ok (.aload_n 0, 1) := by decide +kernel
theorem dX9_waysBy_10 : decode cX9_waysBy 10 = .ok (.getfield 10, 3) := by decide +kernel
theorem dX9_waysBy_13 : decode cX9_waysBy 13 = .ok (.getfield 131, 3) := by decide +kernel
theorem dX9_waysBy_16 : decode cX9_waysBy 16 = .ok (.invokevirtual 236, 3) := by decide +kernel
theorem dX9_waysBy_19 : decode cX9_waysBy 19 = .ok (.iconst 0, 1) := by decide +kernel
theorem dX9_waysBy_20 : decode cX9_waysBy 20 = .ok (.istore_n 3, 1) := by decide +kernel
theorem dX9_waysBy_21 : decode cX9_waysBy 21 = .ok (.iconst 0, 1) := by decide +kernel
theorem dX9_waysBy_22 : decode cX9_waysBy 22 = .ok (.istore 4, 2) := by decide +kernel
theorem dX9_waysBy_24 : decode cX9_waysBy 24 = .ok (.iconst 1, 1) := by decide +kernel
theorem dX9_waysBy_25 : decode cX9_waysBy 25 = .ok (.aload_n 0, 1) := by decide +kernel
theorem dX9_waysBy_26 : decode cX9_waysBy 26 = .ok (.getfield 10, 3) := by decide +kernel
theorem dX9_waysBy_29 : decode cX9_waysBy 29 = .ok (.getfield 131, 3) := by decide +kernel
theorem dX9_waysBy_32 : decode cX9_waysBy 32 = .ok (.ishl, 1) := by decide +kernel
theorem dX9_waysBy_33 : decode cX9_waysBy 33 = .ok (.iconst 1, 1) := by decide +kernel
theorem dX9_waysBy_34 : decode cX9_waysBy 34 = .ok (.isub, 1) := by decide +kernel
theorem dX9_waysBy_35 : decode cX9_waysBy 35 = .ok (.istore 5, 2) := by decide +kernel
theorem dX9_waysBy_37 : decode cX9_waysBy 37 = .ok (.iconst 0, 1) := by decide +kernel
theorem dX9_waysBy_38 : decode cX9_waysBy 38 = .ok (.istore 6, 2) := by decide +kernel
theorem dX9_waysBy_40 : decode cX9_waysBy 40 = .ok (.iload 6, 2) := by decide +kernel
theorem dX9_waysBy_42 : decode cX9_waysBy 42 = .ok (.aload_n 0, 1) := by decide +kernel
theorem dX9_waysBy_43 : decode cX9_waysBy 43 = .ok (.getfield 56, 3) := by decide +kernel
theorem dX9_waysBy_46 : decode cX9_waysBy 46 = .ok (.getfield 239, 3) := by decide +kernel
theorem dX9_waysBy_49 : decode cX9_waysBy 49 = .ok (.if_icmp .ge 66, 3) := by decide +kernel
theorem dX9_waysBy_52 : decode cX9_waysBy 52 = .ok (.aload_n 0, 1) := by decide +kernel
theorem dX9_waysBy_53 : decode cX9_waysBy 53 = .ok (.getfield 56, 3) := by decide +kernel
theorem dX9_waysBy_56 : decode cX9_waysBy 56 = .ok (.aload_n 0, 1) := by decide +kernel
theorem dX9_waysBy_57 : decode cX9_waysBy 57 = .ok (.getfield 72, 3) := by decide +kernel
theorem dX9_waysBy_60 : decode cX9_waysBy 60 = .ok (.invokevirtual 310, 3) := by decide +kernel
theorem dX9_waysBy_63 : decode cX9_waysBy 63 = .ok (.ifCond .eq 39, 3) := by decide +kernel
theorem dX9_waysBy_66 : decode cX9_waysBy 66 = .ok (.iinc 3 1, 3) := by decide +kernel
theorem dX9_waysBy_69 : decode cX9_waysBy 69 = .ok (.iload_n 3, 1) := by decide +kernel
theorem dX9_waysBy_70 : decode cX9_waysBy 70 = .ok (.iconst 1, 1) := by decide +kernel
theorem dX9_waysBy_71 : decode cX9_waysBy 71 = .ok (.if_icmp .ne 19, 3) := by decide +kernel
theorem dX9_waysBy_74 : decode cX9_waysBy 74 = .ok (.aload_n 0, 1) := by decide +kernel
theorem dX9_waysBy_75 : decode cX9_waysBy 75 = .ok (.getfield 56, 3) := by decide +kernel
theorem dX9_waysBy_78 : decode cX9_waysBy 78 = .ok (.invokevirtual 245, 3) := by decide +kernel
theorem dX9_waysBy_81 : decode cX9_waysBy 81 = .ok (.istore 4, 2) := by decide +kernel
theorem dX9_waysBy_83 : decode cX9_waysBy 83 = .ok (.aload_n 0, 1) := by decide +kernel
theorem dX9_waysBy_84 : decode cX9_waysBy 84 = .ok (.getfield 56, 3) := by decide +kernel
theorem dX9_waysBy_87 : decode cX9_waysBy 87 = .ok (.invokevirtual 314, 3) := by decide +kernel
theorem dX9_waysBy_90 : decode cX9_waysBy 90 = .ok (.iload 5, 2) := by decide +kernel
theorem dX9_waysBy_92 : decode cX9_waysBy 92 = .ok (.aload_n 0, 1) := by decide +kernel
theorem dX9_waysBy_93 : decode cX9_waysBy 93 = .ok (.getfield 56, 3) := by decide +kernel
theorem dX9_waysBy_96 : decode cX9_waysBy 96 = .ok (.invokevirtual 317, 3) := by decide +kernel
theorem dX9_waysBy_99 : decode cX9_waysBy 99 = .ok (.iand, 1) := by decide +kernel
theorem dX9_waysBy_100 : decode cX9_waysBy 100 = .ok (.istore 5, 2) := by decide +kernel
theorem dX9_waysBy_102 : decode cX9_waysBy 102 = .ok (.aload_n 0, 1) := by decide +kernel
theorem dX9_waysBy_103 : decode cX9_waysBy 103 = .ok (.getfield 56, 3) := by decide +kernel
theorem dX9_waysBy_106 : decode cX9_waysBy 106 = .ok (.invokevirtual 248, 3) := by decide +kernel
theorem dX9_waysBy_109 : decode cX9_waysBy 109 = .ok (.iinc 6 1, 3) := by decide +kernel
theorem dX9_waysBy_112 : decode cX9_waysBy 112 = .ok (.goto (-72), 3) := by decide +kernel
theorem dX9_waysBy_115 : decode cX9_waysBy 115 = .ok (.iload_n 2, 1) := by decide +kernel
theorem dX9_waysBy_116 : decode cX9_waysBy 116 = .ok (.lookupswitch 33 #[(1, 28), (2, 30)], 28) := by decide +kernel
theorem dX9_waysBy_144 : decode cX9_waysBy 144 = .ok (.iload_n 3, 1) := by decide +kernel
theorem dX9_waysBy_145 : decode cX9_waysBy 145 = .ok (.ireturn, 1) := by decide +kernel
theorem dX9_waysBy_146 : decode cX9_waysBy 146 = .ok (.iload 4, 2) := by decide +kernel
theorem dX9_waysBy_148 : decode cX9_waysBy 148 = .ok (.ireturn, 1) := by decide +kernel
theorem dX9_waysBy_149 : decode cX9_waysBy 149 = .ok (.iload_n 3, 1) := by decide +kernel
theorem dX9_waysBy_150 : decode cX9_waysBy 150 = .ok (.ifCond .ne 7, 3) := by decide +kernel
theorem dX9_waysBy_153 : decode cX9_waysBy 153 = .ok (.iconst 0, 1) := by decide +kernel
theorem dX9_waysBy_154 : decode cX9_waysBy 154 = .ok (.goto 5, 3) := by decide +kernel
theorem dX9_waysBy_157 : decode cX9_waysBy 157 = .ok (.iload 5, 2) := by decide +kernel
theorem dX9_waysBy_159 : decode cX9_waysBy 159 = .ok (.ireturn, 1) := by decide +kernel
theorem dX9_fitCoats_0 : decode cX9_fitCoats 0 = .ok (.iconst 0, 1) := by decide +kernel
theorem dX9_fitCoats_1 : decode cX9_fitCoats 1 = .ok (.istore_n 2, 1) := by decide +kernel
theorem dX9_fitCoats_2 : decode cX9_fitCoats 2 = .ok (.iload_n 2, 1) := by decide +kernel
theorem dX9_fitCoats_3 : decode cX9_fitCoats 3 = .ok (.aload_n 0, 1) := by decide +kernel
theorem dX9_fitCoats_4 : decode cX9_fitCoats 4 = .ok (.getfield 10, 3) := by decide +kernel
theorem dX9_fitCoats_7 : decode cX9_fitCoats 7 = .ok (.getfield 131, 3) := by decide +kernel
theorem dX9_fitCoats_10 : decode cX9_fitCoats 10 = .ok (.if_icmp .ge 73, 3) := by decide +kernel
theorem dX9_fitCoats_13 : decode cX9_fitCoats 13 = .ok (.aload_n 0, 1) := by decide +kernel
theorem dX9_fitCoats_14 : decode cX9_fitCoats 14 = .ok (.getfield 72, 3) := by decide +kernel
theorem dX9_fitCoats_17 : decode cX9_fitCoats 17 = .ok (.iload_n 2, 1) := by decide +kernel
theorem dX9_fitCoats_18 : decode cX9_fitCoats 18 = .ok (.iconst 0, 1) := by decide +kernel
theorem dX9_fitCoats_19 : decode cX9_fitCoats 19 = .ok (.iastore, 1) := by decide +kernel
theorem dX9_fitCoats_20 : decode cX9_fitCoats 20 = .ok (.iconst 0, 1) := by decide +kernel
theorem dX9_fitCoats_21 : decode cX9_fitCoats 21 = .ok (.istore_n 3, 1) := by decide +kernel
theorem dX9_fitCoats_22 : decode cX9_fitCoats 22 = .ok (.iload_n 3, 1) := by decide +kernel
theorem dX9_fitCoats_23 : decode cX9_fitCoats 23 = .ok (.aload_n 0, 1) := by decide +kernel
theorem dX9_fitCoats_24 : decode cX9_fitCoats 24 = .ok (.getfield 10, 3) := by decide +kernel
theorem dX9_fitCoats_27 : decode cX9_fitCoats 27 = .ok (.getfield 131, 3) := by decide +kernel
theorem dX9_fitCoats_30 : decode cX9_fitCoats 30 = .ok (.if_icmp .ge 47, 3) := by decide +kernel
theorem dX9_fitCoats_33 : decode cX9_fitCoats 33 = .ok (.aload_n 0, 1) := by decide +kernel
theorem dX9_fitCoats_34 : decode cX9_fitCoats 34 = .ok (.iload_n 2, 1) := by decide +kernel
theorem dX9_fitCoats_35 : decode cX9_fitCoats 35 = .ok (.iload_n 3, 1) := by decide +kernel
theorem dX9_fitCoats_36 : decode cX9_fitCoats 36 = .ok (.invokevirtual 179, 3) := by decide +kernel
theorem dX9_fitCoats_39 : decode cX9_fitCoats 39 = .ok (.aload_n 0, 1) := by decide +kernel
theorem dX9_fitCoats_40 : decode cX9_fitCoats 40 = .ok (.getfield 49, 3) := by decide +kernel
theorem dX9_fitCoats_43 : decode cX9_fitCoats 43 = .ok (.aload_n 0, 1) := by decide +kernel
theorem dX9_fitCoats_44 : decode cX9_fitCoats 44 = .ok (.invokevirtual 154, 3) := by decide +kernel
theorem dX9_fitCoats_47 : decode cX9_fitCoats 47 = .ok (.invokevirtual 164, 3) := by decide +kernel
theorem dX9_fitCoats_50 : decode cX9_fitCoats 50 = .ok (.aload_n 1, 1) := by decide +kernel
theorem dX9_fitCoats_51 : decode cX9_fitCoats 51 = .ok (.getfield 300, 3) := by decide +kernel
theorem dX9_fitCoats_54 : decode cX9_fitCoats 54 = .ok (.iload_n 2, 1) := by decide +kernel
theorem dX9_fitCoats_55 : decode cX9_fitCoats 55 = .ok (.iaload, 1) := by decide +kernel
theorem dX9_fitCoats_56 : decode cX9_fitCoats 56 = .ok (.if_icmp .ne 15, 3) := by decide +kernel
theorem dX9_fitCoats_59 : decode cX9_fitCoats 59 = .ok (.aload_n 0, 1) := by decide +kernel
theorem dX9_fitCoats_60 : decode cX9_fitCoats 60 = .ok (.getfield 72, 3) := by decide +kernel
theorem dX9_fitCoats_63 : decode cX9_fitCoats 63 = .ok (.iload_n 2, 1) := by decide +kernel
theorem dX9_fitCoats_64 : decode cX9_fitCoats 64 = .ok (.dup2, 1) := by decide +kernel
theorem dX9_fitCoats_65 : decode cX9_fitCoats 65 = .ok (.iaload, 1) := by decide +kernel
theorem dX9_fitCoats_66 : decode cX9_fitCoats 66 = .ok (.iconst 1, 1) := by decide +kernel
theorem dX9_fitCoats_67 : decode cX9_fitCoats 67 = .ok (.iload_n 3, 1) := by decide +kernel
theorem dX9_fitCoats_68 : decode cX9_fitCoats 68 = .ok (.ishl, 1) := by decide +kernel
theorem dX9_fitCoats_69 : decode cX9_fitCoats 69 = .ok (.ior, 1) := by decide +kernel
theorem dX9_fitCoats_70 : decode cX9_fitCoats 70 = .ok (.iastore, 1) := by decide +kernel
theorem dX9_fitCoats_71 : decode cX9_fitCoats 71 = .ok (.iinc 3 1, 3) := by decide +kernel
theorem dX9_fitCoats_74 : decode cX9_fitCoats 74 = .ok (.goto (-52), 3) := by decide +kernel
theorem dX9_fitCoats_77 : decode cX9_fitCoats 77 = .ok (.iinc 2 1, 3) := by decide +kernel
theorem dX9_fitCoats_80 : decode cX9_fitCoats 80 = .ok (.goto (-78), 3) := by decide +kernel
theorem dX9_fitCoats_83 : decode cX9_fitCoats 83 = .ok (.return_, 1) := by decide +kernel
theorem dX9_film_0 : decode cX9_film 0 = .ok (.iload_n 1, 1) := by decide +kernel
theorem dX9_film_1 : decode cX9_film 1 = .ok (.invokestatic 276, 3) := by decide +kernel
theorem dX9_film_4 : decode cX9_film 4 = .ok (.ifCond .ne 6, 3) := by decide +kernel
theorem dX9_film_7 : decode cX9_film 7 = .ok (.bipush (-2), 2) := by decide +kernel
theorem dX9_film_9 : decode cX9_film 9 = .ok (.ireturn, 1) := by decide +kernel
theorem dX9_film_10 : decode cX9_film 10 = .ok (.aload_n 0, 1) := by decide +kernel
theorem dX9_film_11 : decode cX9_film 11 = .ok (.getfield 42, 3) := by decide +kernel
theorem dX9_film_14 : decode cX9_film 14 = .ok (.iload_n 1, 1) := by decide +kernel
theorem dX9_film_15 : decode cX9_film 15 = .ok (.aaload, 1) := by decide +kernel
theorem dX9_film_16 : decode cX9_film 16 = .ok (.astore_n 2, 1) := by decide +kernel
theorem dX9_film_17 : decode cX9_film 17 = .ok (.aload_n 2, 1) := by decide +kernel
theorem dX9_film_18 : decode cX9_film 18 = .ok (.iconst 0, 1) := by decide +kernel
theorem dX9_film_19 : decode cX9_film 19 = .ok (.aload_n 0, 1) := by decide +kernel
theorem dX9_film_20 : decode cX9_film 20 = .ok (.getfield 10, 3) := by decide +kernel
theorem dX9_film_23 : decode cX9_film 23 = .ok (.getfield 131, 3) := by decide +kernel
theorem dX9_film_26 : decode cX9_film 26 = .ok (.invokevirtual 320, 3) := by decide +kernel
theorem dX9_film_29 : decode cX9_film 29 = .ok (.iconst 0, 1) := by decide +kernel
theorem dX9_film_30 : decode cX9_film 30 = .ok (.istore_n 3, 1) := by decide +kernel
theorem dX9_film_31 : decode cX9_film 31 = .ok (.iload_n 3, 1) := by decide +kernel
theorem dX9_film_32 : decode cX9_film 32 = .ok (.aload_n 0, 1) := by decide +kernel
theorem dX9_film_33 : decode cX9_film 33 = .ok (.getfield 10, 3) := by decide +kernel
theorem dX9_film_36 : decode cX9_film 36 = .ok (.getfield 131, 3) := by decide +kernel
theorem dX9_film_39 : decode cX9_film 39 = .ok (.if_icmp .ge 30, 3) := by decide +kernel
theorem dX9_film_42 : decode cX9_film 42 = .ok (.aload_n 0, 1) := by decide +kernel
theorem dX9_film_43 : decode cX9_film 43 = .ok (.iload_n 3, 1) := by decide +kernel
theorem dX9_film_44 : decode cX9_film 44 = .ok (.invokevirtual 143, 3) := by decide +kernel
theorem dX9_film_47 : decode cX9_film 47 = .ok (.aload_n 2, 1) := by decide +kernel
theorem dX9_film_48 : decode cX9_film 48 = .ok (.iload_n 3, 1) := by decide +kernel
theorem dX9_film_49 : decode cX9_film 49 = .ok (.aload_n 0, 1) := by decide +kernel
theorem dX9_film_50 : decode cX9_film 50 = .ok (.getfield 49, 3) := by decide +kernel
theorem dX9_film_53 : decode cX9_film 53 = .ok (.aload_n 0, 1) := by decide +kernel
theorem dX9_film_54 : decode cX9_film 54 = .ok (.invokevirtual 154, 3) := by decide +kernel
theorem dX9_film_57 : decode cX9_film 57 = .ok (.invokevirtual 164, 3) := by decide +kernel
theorem dX9_film_60 : decode cX9_film 60 = .ok (.invokevirtual 323, 3) := by decide +kernel
theorem dX9_film_63 : decode cX9_film 63 = .ok (.iinc 3 1, 3) := by decide +kernel
theorem dX9_film_66 : decode cX9_film 66 = .ok (.goto (-35), 3) := by decide +kernel
theorem dX9_film_69 : decode cX9_film 69 = .ok (.aload_n 0, 1) := by decide +kernel
theorem dX9_film_70 : decode cX9_film 70 = .ok (.getfield 10, 3) := by decide +kernel
theorem dX9_film_73 : decode cX9_film 73 = .ok (.getfield 131, 3) := by decide +kernel
theorem dX9_film_76 : decode cX9_film 76 = .ok (.ireturn, 1) := by decide +kernel
theorem dX9_drawn_0 : decode cX9_drawn 0 = .ok (.iload_n 2, 1) := by decide +kernel
theorem dX9_drawn_1 : decode cX9_drawn 1 = .ok (.bipush 40, 2) := by decide +kernel
theorem dX9_drawn_3 : decode cX9_drawn 3 = .ok (.invokestatic 191, 3) := by decide +kernel
theorem dX9_drawn_6 : decode cX9_drawn 6 = .ok (.ifCond .ne 6, 3) := by decide +kernel
theorem dX9_drawn_9 : decode cX9_drawn 9 = .ok (.bipush (-2), 2) := by decide +kernel
theorem dX9_drawn_11 : decode cX9_drawn 11 = .ok (.ireturn, 1) := by decide +kernel
theorem dX9_drawn_12 : decode cX9_drawn 12 = .ok (.aload_n 0, 1) := by decide +kernel
theorem dX9_drawn_13 : decode cX9_drawn 13 = .ok (.invokevirtual 251, 3) := by decide +kernel
theorem dX9_drawn_16 : decode cX9_drawn 16 = .ok (.aload_n 0, 1) := by decide +kernel
theorem dX9_drawn_17 : decode cX9_drawn 17 = .ok (.getfield 63, 3) := by decide +kernel
theorem dX9_drawn_20 : decode cX9_drawn 20 = .ok (.iload_n 1, 1) := by decide +kernel
theorem dX9_drawn_21 : decode cX9_drawn 21 = .ok (.invokevirtual 326, 3) := by decide +kernel
theorem dX9_drawn_24 : decode cX9_drawn 24 = .ok (.iconst 0, 1) := by decide +kernel
theorem dX9_drawn_25 : decode cX9_drawn 25 = .ok (.istore_n 3, 1) := by decide +kernel
theorem dX9_drawn_26 : decode cX9_drawn 26 = .ok (.iconst 0, 1) := by decide +kernel
theorem dX9_drawn_27 : decode cX9_drawn 27 = .ok (.istore 4, 2) := by decide +kernel
theorem dX9_drawn_29 : decode cX9_drawn 29 = .ok (.iload 4, 2) := by decide +kernel
theorem dX9_drawn_31 : decode cX9_drawn 31 = .ok (.aload_n 0, 1) := by decide +kernel
theorem dX9_drawn_32 : decode cX9_drawn 32 = .ok (.getfield 10, 3) := by decide +kernel
theorem dX9_drawn_35 : decode cX9_drawn 35 = .ok (.getfield 131, 3) := by decide +kernel
theorem dX9_drawn_38 : decode cX9_drawn 38 = .ok (.if_icmp .ge 71, 3) := by decide +kernel
theorem dX9_drawn_41 : decode cX9_drawn 41 = .ok (.aload_n 0, 1) := by decide +kernel
theorem dX9_drawn_42 : decode cX9_drawn 42 = .ok (.getfield 10, 3) := by decide +kernel
theorem dX9_drawn_45 : decode cX9_drawn 45 = .ok (.getfield 112, 3) := by decide +kernel
theorem dX9_drawn_48 : decode cX9_drawn 48 = .ok (.iload 4, 2) := by decide +kernel
theorem dX9_drawn_50 : decode cX9_drawn 50 = .ok (.aaload, 1) := by decide +kernel
theorem dX9_drawn_51 : decode cX9_drawn 51 = .ok (.getfield 137, 3) := by decide +kernel
theorem dX9_drawn_54 : decode cX9_drawn 54 = .ok (.istore 5, 2) := by decide +kernel
theorem dX9_drawn_56 : decode cX9_drawn 56 = .ok (.aload_n 0, 1) := by decide +kernel
theorem dX9_drawn_57 : decode cX9_drawn 57 = .ok (.iload 4, 2) := by decide +kernel
theorem dX9_drawn_59 : decode cX9_drawn 59 = .ok (.iload 5, 2) := by decide +kernel
theorem dX9_drawn_61 : decode cX9_drawn 61 = .ok (.aload_n 0, 1) := by decide +kernel
theorem dX9_drawn_62 : decode cX9_drawn 62 = .ok (.getfield 63, 3) := by decide +kernel
theorem dX9_drawn_65 : decode cX9_drawn 65 = .ok (.getfield 273, 3) := by decide +kernel
theorem dX9_drawn_68 : decode cX9_drawn 68 = .ok (.iload 5, 2) := by decide +kernel
theorem dX9_drawn_70 : decode cX9_drawn 70 = .ok (.iaload, 1) := by decide +kernel
theorem dX9_drawn_71 : decode cX9_drawn 71 = .ok (.invokevirtual 175, 3) := by decide +kernel
theorem dX9_drawn_74 : decode cX9_drawn 74 = .ok (.aload_n 0, 1) := by decide +kernel
theorem dX9_drawn_75 : decode cX9_drawn 75 = .ok (.getfield 49, 3) := by decide +kernel
theorem dX9_drawn_78 : decode cX9_drawn 78 = .ok (.aload_n 0, 1) := by decide +kernel
theorem dX9_drawn_79 : decode cX9_drawn 79 = .ok (.invokevirtual 154, 3) := by decide +kernel
theorem dX9_drawn_82 : decode cX9_drawn 82 = .ok (.aload_n 0, 1) := by decide +kernel
theorem dX9_drawn_83 : decode cX9_drawn 83 = .ok (.getfield 10, 3) := by decide +kernel
theorem dX9_drawn_86 : decode cX9_drawn 86 = .ok (.getfield 109, 3) := by decide +kernel
theorem dX9_drawn_89 : decode cX9_drawn 89 = .ok (.iload_n 2, 1) := by decide +kernel
theorem dX9_drawn_90 : decode cX9_drawn 90 = .ok (.invokevirtual 194, 3) := by decide +kernel
theorem dX9_drawn_93 : decode cX9_drawn 93 = .ok (.iload_n 3, 1) := by decide +kernel
theorem dX9_drawn_94 : decode cX9_drawn 94 = .ok (.aload_n 0, 1) := by decide +kernel
theorem dX9_drawn_95 : decode cX9_drawn 95 = .ok (.getfield 49, 3) := by decide +kernel
theorem dX9_drawn_98 : decode cX9_drawn 98 = .ok (.getfield 170, 3) := by decide +kernel
theorem dX9_drawn_101 : decode cX9_drawn 101 = .ok (.iadd, 1) := by decide +kernel
theorem dX9_drawn_102 : decode cX9_drawn 102 = .ok (.istore_n 3, 1) := by decide +kernel
theorem dX9_drawn_103 : decode cX9_drawn 103 = .ok (.iinc 4 1, 3) := by decide +kernel
theorem dX9_drawn_106 : decode cX9_drawn 106 = .ok (.goto (-77), 3) := by decide +kernel
theorem dX9_drawn_109 : decode cX9_drawn 109 = .ok (.iload_n 3, 1) := by decide +kernel
theorem dX9_drawn_110 : decode cX9_drawn 110 = .ok (.ireturn, 1) := by decide +kernel
theorem dX9_chance_0 : decode cX9_chance 0 = .ok (.iload_n 2, 1) := by decide +kernel
theorem dX9_chance_1 : decode cX9_chance 1 = .ok (.iconst 1, 1) := by decide +kernel
theorem dX9_chance_2 : decode cX9_chance 2 = .ok (.if_icmp .lt 18, 3) := by decide +kernel
theorem dX9_chance_5 : decode cX9_chance 5 = .ok (.iload_n 2, 1) := by decide +kernel
theorem dX9_chance_6 : decode cX9_chance 6 = .ok (.bipush 20, 2) := by decide +kernel
theorem dX9_chance_8 : decode cX9_chance 8 = .ok (.if_icmp .gt 12, 3) := by decide +kernel
theorem dX9_chance_11 : decode cX9_chance 11 = .ok (.iload_n 3, 1) := by decide +kernel
theorem dX9_chance_12 : decode cX9_chance 12 = .ok (.ifCond .eq 12, 3) := by decide +kernel
theorem dX9_chance_15 : decode cX9_chance 15 = .ok (.iload_n 3, 1) := by decide +kernel
theorem dX9_chance_16 : decode cX9_chance 16 = .ok (.iconst 1, 1) := by decide +kernel
theorem dX9_chance_17 : decode cX9_chance 17 = .ok (.if_icmp .eq 7, 3) := by decide +kernel
theorem dX9_chance_20 : decode cX9_chance 20 = .ok (.ldc2_w 329, 3) := by decide +kernel
theorem dX9_chance_23 : decode cX9_chance 23 = .ok (.lreturn, 1) := by decide +kernel
theorem dX9_chance_24 : decode cX9_chance 24 = .ok (.aload_n 0, 1) := by decide +kernel
theorem dX9_chance_25 : decode cX9_chance 25 = .ok (.invokevirtual 251, 3) := by decide +kernel
theorem dX9_chance_28 : decode cX9_chance 28 = .ok (.iconst 0, 1) := by decide +kernel
theorem dX9_chance_29 : decode cX9_chance 29 = .ok (.istore 4, 2) := by decide +kernel
theorem dX9_chance_31 : decode cX9_chance 31 = .ok (.iconst 0, 1) := by decide +kernel
theorem dX9_chance_32 : decode cX9_chance 32 = .ok (.istore 5, 2) := by decide +kernel
theorem dX9_chance_34 : decode cX9_chance 34 = .ok (.iload 5, 2) := by decide +kernel
theorem dX9_chance_36 : decode cX9_chance 36 = .ok (.iload_n 2, 1) := by decide +kernel
theorem dX9_chance_37 : decode cX9_chance 37 = .ok (.if_icmp .ge 40, 3) := by decide +kernel
theorem dX9_chance_40 : decode cX9_chance 40 = .ok (.aload_n 0, 1) := by decide +kernel
theorem dX9_chance_41 : decode cX9_chance 41 = .ok (.getfield 63, 3) := by decide +kernel
theorem dX9_chance_44 : decode cX9_chance 44 = .ok (.iload_n 1, 1) := by decide +kernel
theorem dX9_chance_45 : decode cX9_chance 45 = .ok (.iload 5, 2) := by decide +kernel
theorem dX9_chance_47 : decode cX9_chance 47 = .ok (.iadd, 1) := by decide +kernel
theorem dX9_chance_48 : decode cX9_chance 48 = .ok (.invokevirtual 326, 3) := by decide +kernel
theorem dX9_chance_51 : decode cX9_chance 51 = .ok (.aload_n 0, 1) := by decide +kernel
theorem dX9_chance_52 : decode cX9_chance 52 = .ok (.getfield 63, 3) := by decide +kernel
theorem dX9_chance_55 : decode cX9_chance 55 = .ok (.invokevirtual 254, 3) := by decide +kernel
theorem dX9_chance_58 : decode cX9_chance 58 = .ok (.aload_n 0, 1) := by decide +kernel
theorem dX9_chance_59 : decode cX9_chance 59 = .ok (.getfield 63, 3) := by decide +kernel
theorem dX9_chance_62 : decode cX9_chance 62 = .ok (.invokevirtual 331, 3) := by decide +kernel
theorem dX9_chance_65 : decode cX9_chance 65 = .ok (.ifCond .eq 6, 3) := by decide +kernel
theorem dX9_chance_68 : decode cX9_chance 68 = .ok (.iinc 4 1, 3) := by decide +kernel
theorem dX9_chance_71 : decode cX9_chance 71 = .ok (.iinc 5 1, 3) := by decide +kernel
theorem dX9_chance_74 : decode cX9_chance 74 = .ok (.goto (-40), 3) := by decide +kernel
theorem dX9_chance_77 : decode cX9_chance 77 = .ok (.iload 4, 2) := by decide +kernel
theorem dX9_chance_79 : decode cX9_chance 79 = .ok (.iload_n 2, 1) := by decide +kernel
theorem dX9_chance_80 : decode cX9_chance 80 = .ok (.invokestatic 334, 3) := by decide +kernel
theorem dX9_chance_83 : decode cX9_chance 83 = .ok (.istore 5, 2) := by decide +kernel
theorem dX9_chance_85 : decode cX9_chance 85 = .ok (.iload_n 3, 1) := by decide +kernel
theorem dX9_chance_86 : decode cX9_chance 86 = .ok (.ifCond .ne 12, 3) := by decide +kernel
theorem dX9_chance_89 : decode cX9_chance 89 = .ok (.iload 4, 2) := by decide +kernel
theorem dX9_chance_91 : decode cX9_chance 91 = .ok (.iload 5, 2) := by decide +kernel
theorem dX9_chance_93 : decode cX9_chance 93 = .ok (.idiv, 1) := by decide +kernel
theorem dX9_chance_94 : decode cX9_chance 94 = .ok (.i2l, 1) := by decide +kernel
theorem dX9_chance_95 : decode cX9_chance 95 = .ok (.goto 8, 3) := by decide +kernel
theorem dX9_chance_98 : decode cX9_chance 98 = .ok (.iload_n 2, 1) := by decide +kernel
theorem dX9_chance_99 : decode cX9_chance 99 = .ok (.iload 5, 2) := by decide +kernel
theorem dX9_chance_101 : decode cX9_chance 101 = .ok (.idiv, 1) := by decide +kernel
theorem dX9_chance_102 : decode cX9_chance 102 = .ok (.i2l, 1) := by decide +kernel
theorem dX9_chance_103 : decode cX9_chance 103 = .ok (.lreturn, 1) := by decide +kernel
theorem dX9_commonOf_0 : decode cX9_commonOf 0 = .ok (.iload_n 1, 1) := by decide +kernel
theorem dX9_commonOf_1 : decode cX9_commonOf 1 = .ok (.istore_n 2, 1) := by decide +kernel
theorem dX9_commonOf_2 : decode cX9_commonOf 2 = .ok (.iload_n 2, 1) := by decide +kernel
theorem dX9_commonOf_3 : decode cX9_commonOf 3 = .ok (.iconst 1, 1) := by decide +kernel
theorem dX9_commonOf_4 : decode cX9_commonOf 4 = .ok (.if_icmp .le 23, 3) := by decide +kernel
theorem dX9_commonOf_7 : decode cX9_commonOf 7 = .ok (.iload_n 0, 1) := by decide +kernel
theorem dX9_commonOf_8 : decode cX9_commonOf 8 = .ok (.iload_n 2, 1) := by decide +kernel
theorem dX9_commonOf_9 : decode cX9_commonOf 9 = .ok (.irem, 1) := by decide +kernel
theorem dX9_commonOf_10 : decode cX9_commonOf 10 = .ok (.ifCond .ne 11, 3) := by decide +kernel
theorem dX9_commonOf_13 : decode cX9_commonOf 13 = .ok (.iload_n 1, 1) := by decide +kernel
theorem dX9_commonOf_14 : decode cX9_commonOf 14 = .ok (.iload_n 2, 1) := by decide +kernel
theorem dX9_commonOf_15 : decode cX9_commonOf 15 = .ok (.irem, 1) := by decide +kernel
theorem dX9_commonOf_16 : decode cX9_commonOf 16 = .ok (.ifCond .ne 5, 3) := by decide +kernel
theorem dX9_commonOf_19 : decode cX9_commonOf 19 = .ok (.iload_n 2, 1) := by decide +kernel
theorem dX9_commonOf_20 : decode cX9_commonOf 20 = .ok (.ireturn, 1) := by decide +kernel
theorem dX9_commonOf_21 : decode cX9_commonOf 21 = .ok (.iinc 2 (-1), 3) := by decide +kernel
theorem dX9_commonOf_24 : decode cX9_commonOf 24 = .ok (.goto (-22), 3) := by decide +kernel
theorem dX9_commonOf_27 : decode cX9_commonOf 27 = .ok (.iconst 1, 1) := by decide +kernel
theorem dX9_commonOf_28 : decode cX9_commonOf 28 = .ok (.ireturn, 1) := by decide +kernel
theorem dX9_image_0 : decode cX9_image 0 = .ok (.aload_n 0, 1) := by decide +kernel
theorem dX9_image_1 : decode cX9_image 1 = .ok (.getfield 16, 3) := by decide +kernel
theorem dX9_image_4 : decode cX9_image 4 = .ok (.aload_n 0, 1) := by decide +kernel
theorem dX9_image_5 : decode cX9_image 5 = .ok (.getfield 10, 3) := by decide +kernel
theorem dX9_image_8 : decode cX9_image 8 = .ok (.invokevirtual 337, 3) := by decide +kernel
theorem dX9_image_11 : decode cX9_image 11 = .ok (.aload_n 0, 1) := by decide +kernel
theorem dX9_image_12 : decode cX9_image 12 = .ok (.iconst 1, 1) := by decide +kernel
theorem dX9_image_13 : decode cX9_image 13 = .ok (.putfield 19, 3) := by decide +kernel
theorem dX9_image_16 : decode cX9_image 16 = .ok (.aload_n 0, 1) := by decide +kernel
theorem dX9_image_17 : decode cX9_image 17 = .ok (.getfield 10, 3) := by decide +kernel
theorem dX9_image_20 : decode cX9_image 20 = .ok (.getfield 131, 3) := by decide +kernel
theorem dX9_image_23 : decode cX9_image 23 = .ok (.ireturn, 1) := by decide +kernel
theorem dX9_back_0 : decode cX9_back 0 = .ok (.aload_n 0, 1) := by decide +kernel
theorem dX9_back_1 : decode cX9_back 1 = .ok (.getfield 19, 3) := by decide +kernel
theorem dX9_back_4 : decode cX9_back 4 = .ok (.ifCond .ne 6, 3) := by decide +kernel
theorem dX9_back_7 : decode cX9_back 7 = .ok (.bipush (-3), 2) := by decide +kernel
theorem dX9_back_9 : decode cX9_back 9 = .ok (.ireturn, 1) := by decide +kernel
theorem dX9_back_10 : decode cX9_back 10 = .ok (.aload_n 0, 1) := by decide +kernel
theorem dX9_back_11 : decode cX9_back 11 = .ok (.getfield 10, 3) := by decide +kernel
theorem dX9_back_14 : decode cX9_back 14 = .ok (.aload_n 0, 1) := by decide +kernel
theorem dX9_back_15 : decode cX9_back 15 = .ok (.getfield 16, 3) := by decide +kernel
theorem dX9_back_18 : decode cX9_back 18 = .ok (.invokevirtual 337, 3) := by decide +kernel
theorem dX9_back_21 : decode cX9_back 21 = .ok (.aload_n 0, 1) := by decide +kernel
theorem dX9_back_22 : decode cX9_back 22 = .ok (.getfield 10, 3) := by decide +kernel
theorem dX9_back_25 : decode cX9_back 25 = .ok (.getfield 131, 3) := by decide +kernel
theorem dX9_back_28 : decode cX9_back 28 = .ok (.ireturn, 1) := by decide +kernel
theorem dX9_count_0 : decode cX9_count 0 = .ok (.iload_n 1, 1) := by decide +kernel
theorem dX9_count_1 : decode cX9_count 1 = .ok (.tableswitch 87 0 5 #[39, 47, 55, 63, 68, 79], 39) := by decide +kernel
theorem dX9_count_40 : decode cX9_count 40 = .ok (.aload_n 0, 1) := by decide +kernel
theorem dX9_count_41 : decode cX9_count 41 = .ok (.getfield 10, 3) := by decide +kernel
theorem dX9_count_44 : decode cX9_count 44 = .ok (.getfield 131, 3) := by decide +kernel
theorem dX9_count_47 : decode cX9_count 47 = .ok (.ireturn, 1) := by decide +kernel
theorem dX9_count_48 : decode cX9_count 48 = .ok (.aload_n 0, 1) := by decide +kernel
theorem dX9_count_49 : decode cX9_count 49 = .ok (.getfield 10, 3) := by decide +kernel
theorem dX9_count_52 : decode cX9_count 52 = .ok (.invokevirtual 340, 3) := by decide +kernel
theorem dX9_count_55 : decode cX9_count 55 = .ok (.ireturn, 1) := by decide +kernel
theorem dX9_count_56 : decode cX9_count 56 = .ok (.aload_n 0, 1) := by decide +kernel
theorem dX9_count_57 : decode cX9_count 57 = .ok (.getfield 10, 3) := by decide +kernel
theorem dX9_count_60 : decode cX9_count 60 = .ok (.invokevirtual 343, 3) := by decide +kernel
theorem dX9_count_63 : decode cX9_count 63 = .ok (.ireturn, 1) := by decide +kernel
theorem dX9_count_64 : decode cX9_count 64 = .ok (.aload_n 0, 1) := by decide +kernel
theorem dX9_count_65 : decode cX9_count 65 = .ok (.getfield 29, 3) := by decide +kernel
theorem dX9_count_68 : decode cX9_count 68 = .ok (.ireturn, 1) := by decide +kernel
theorem dX9_count_69 : decode cX9_count 69 = .ok (.aload_n 0, 1) := by decide +kernel
theorem dX9_count_70 : decode cX9_count 70 = .ok (.getfield 36, 3) := by decide +kernel
theorem dX9_count_73 : decode cX9_count 73 = .ok (.getfield 78, 3) := by decide +kernel
theorem dX9_count_76 : decode cX9_count 76 = .ok (.getfield 183, 3) := by decide +kernel
theorem dX9_count_79 : decode cX9_count 79 = .ok (.ireturn, 1) := by decide +kernel
theorem dX9_count_80 : decode cX9_count 80 = .ok (.aload_n 0, 1) := by decide +kernel
theorem dX9_count_81 : decode cX9_count 81 = .ok (.getfield 10, 3) := by decide +kernel
theorem dX9_count_84 : decode cX9_count 84 = .ok (.getfield 167, 3) := by decide +kernel
theorem dX9_count_87 : decode cX9_count 87 = .ok (.ireturn, 1) := by decide +kernel
theorem dX9_count_88 : decode cX9_count 88 = .ok (.bipush (-2), 2) := by decide +kernel
theorem dX9_count_90 : decode cX9_count 90 = .ok (.ireturn, 1) := by decide +kernel
theorem dX9_sheet_0 : decode cX9_sheet 0 = .ok (.iload_n 1, 1) := by decide +kernel
theorem dX9_sheet_1 : decode cX9_sheet 1 = .ok (.invokestatic 276, 3) := by decide +kernel
theorem dX9_sheet_4 : decode cX9_sheet 4 = .ok (.ifCond .eq 15, 3) := by decide +kernel
theorem dX9_sheet_7 : decode cX9_sheet 7 = .ok (.iload_n 2, 1) := by decide +kernel
theorem dX9_sheet_8 : decode cX9_sheet 8 = .ok (.iconst (-1), 1) := by decide +kernel
theorem dX9_sheet_9 : decode cX9_sheet 9 = .ok (.if_icmp .eq 13, 3) := by decide +kernel
theorem dX9_sheet_12 : decode cX9_sheet 12 = .ok (.iload_n 2, 1) := by decide +kernel
theorem dX9_sheet_13 : decode cX9_sheet 13 = .ok (.invokestatic 346, 3) := by decide +kernel
theorem dX9_sheet_16 : decode cX9_sheet 16 = .ok (.ifCond .ne 6, 3) := by decide +kernel
theorem dX9_sheet_19 : decode cX9_sheet 19 = .ok (.bipush (-2), 2) := by decide +kernel
theorem dX9_sheet_21 : decode cX9_sheet 21 = .ok (.ireturn, 1) := by decide +kernel
theorem dX9_sheet_22 : decode cX9_sheet 22 = .ok (.iload_n 2, 1) := by decide +kernel
theorem dX9_sheet_23 : decode cX9_sheet 23 = .ok (.iconst (-1), 1) := by decide +kernel
theorem dX9_sheet_24 : decode cX9_sheet 24 = .ok (.if_icmp .ne 16, 3) := by decide +kernel
theorem dX9_sheet_27 : decode cX9_sheet 27 = .ok (.aload_n 0, 1) := by decide +kernel
theorem dX9_sheet_28 : decode cX9_sheet 28 = .ok (.getfield 42, 3) := by decide +kernel
theorem dX9_sheet_31 : decode cX9_sheet 31 = .ok (.iload_n 1, 1) := by decide +kernel
theorem dX9_sheet_32 : decode cX9_sheet 32 = .ok (.aaload, 1) := by decide +kernel
theorem dX9_sheet_33 : decode cX9_sheet 33 = .ok (.iconst (-1), 1) := by decide +kernel
theorem dX9_sheet_34 : decode cX9_sheet 34 = .ok (.iconst 0, 1) := by decide +kernel
theorem dX9_sheet_35 : decode cX9_sheet 35 = .ok (.invokevirtual 320, 3) := by decide +kernel
theorem dX9_sheet_38 : decode cX9_sheet 38 = .ok (.iconst 1, 1) := by decide +kernel
theorem dX9_sheet_39 : decode cX9_sheet 39 = .ok (.ireturn, 1) := by decide +kernel
theorem dX9_sheet_40 : decode cX9_sheet 40 = .ok (.iload_n 3, 1) := by decide +kernel
theorem dX9_sheet_41 : decode cX9_sheet 41 = .ok (.bipush 40, 2) := by decide +kernel
theorem dX9_sheet_43 : decode cX9_sheet 43 = .ok (.if_icmp .le 6, 3) := by decide +kernel
theorem dX9_sheet_46 : decode cX9_sheet 46 = .ok (.bipush (-2), 2) := by decide +kernel
theorem dX9_sheet_48 : decode cX9_sheet 48 = .ok (.ireturn, 1) := by decide +kernel
theorem dX9_sheet_49 : decode cX9_sheet 49 = .ok (.iload_n 3, 1) := by decide +kernel
theorem dX9_sheet_50 : decode cX9_sheet 50 = .ok (.ifCond .ge 6, 3) := by decide +kernel
theorem dX9_sheet_53 : decode cX9_sheet 53 = .ok (.bipush (-14), 2) := by decide +kernel
theorem dX9_sheet_55 : decode cX9_sheet 55 = .ok (.ireturn, 1) := by decide +kernel
theorem dX9_sheet_56 : decode cX9_sheet 56 = .ok (.aload_n 0, 1) := by decide +kernel
theorem dX9_sheet_57 : decode cX9_sheet 57 = .ok (.getfield 42, 3) := by decide +kernel
theorem dX9_sheet_60 : decode cX9_sheet 60 = .ok (.iload_n 1, 1) := by decide +kernel
theorem dX9_sheet_61 : decode cX9_sheet 61 = .ok (.aaload, 1) := by decide +kernel
theorem dX9_sheet_62 : decode cX9_sheet 62 = .ok (.iload_n 2, 1) := by decide +kernel
theorem dX9_sheet_63 : decode cX9_sheet 63 = .ok (.iload_n 3, 1) := by decide +kernel
theorem dX9_sheet_64 : decode cX9_sheet 64 = .ok (.invokevirtual 320, 3) := by decide +kernel
theorem dX9_sheet_67 : decode cX9_sheet 67 = .ok (.iconst 1, 1) := by decide +kernel
theorem dX9_sheet_68 : decode cX9_sheet 68 = .ok (.ireturn, 1) := by decide +kernel
theorem dX9_cell_0 : decode cX9_cell 0 = .ok (.iload_n 1, 1) := by decide +kernel
theorem dX9_cell_1 : decode cX9_cell 1 = .ok (.invokestatic 276, 3) := by decide +kernel
theorem dX9_cell_4 : decode cX9_cell 4 = .ok (.ifCond .ne 6, 3) := by decide +kernel
theorem dX9_cell_7 : decode cX9_cell 7 = .ok (.bipush (-2), 2) := by decide +kernel
theorem dX9_cell_9 : decode cX9_cell 9 = .ok (.ireturn, 1) := by decide +kernel
theorem dX9_cell_10 : decode cX9_cell 10 = .ok (.aload_n 0, 1) := by decide +kernel
theorem dX9_cell_11 : decode cX9_cell 11 = .ok (.getfield 42, 3) := by decide +kernel
theorem dX9_cell_14 : decode cX9_cell 14 = .ok (.iload_n 1, 1) := by decide +kernel
theorem dX9_cell_15 : decode cX9_cell 15 = .ok (.aaload, 1) := by decide +kernel
theorem dX9_cell_16 : decode cX9_cell 16 = .ok (.astore 4, 2) := by decide +kernel
theorem dX9_cell_18 : decode cX9_cell 18 = .ok (.aload 4, 2) := by decide +kernel
theorem dX9_cell_20 : decode cX9_cell 20 = .ok (.invokevirtual 279, 3) := by decide +kernel
theorem dX9_cell_23 : decode cX9_cell 23 = .ok (.ifCond .eq 6, 3) := by decide +kernel
theorem dX9_cell_26 : decode cX9_cell 26 = .ok (.bipush (-11), 2) := by decide +kernel
theorem dX9_cell_28 : decode cX9_cell 28 = .ok (.ireturn, 1) := by decide +kernel
theorem dX9_cell_29 : decode cX9_cell 29 = .ok (.iload_n 2, 1) := by decide +kernel
theorem dX9_cell_30 : decode cX9_cell 30 = .ok (.ifCond .lt 12, 3) := by decide +kernel
theorem dX9_cell_33 : decode cX9_cell 33 = .ok (.iload_n 2, 1) := by decide +kernel
theorem dX9_cell_34 : decode cX9_cell 34 = .ok (.aload 4, 2) := by decide +kernel
theorem dX9_cell_36 : decode cX9_cell 36 = .ok (.getfield 283, 3) := by decide +kernel
theorem dX9_cell_39 : decode cX9_cell 39 = .ok (.if_icmp .lt 6, 3) := by decide +kernel
theorem dX9_cell_42 : decode cX9_cell 42 = .ok (.bipush (-12), 2) := by decide +kernel
theorem dX9_cell_44 : decode cX9_cell 44 = .ok (.ireturn, 1) := by decide +kernel
theorem dX9_cell_45 : decode cX9_cell 45 = .ok (.aload 4, 2) := by decide +kernel
theorem dX9_cell_47 : decode cX9_cell 47 = .ok (.iload_n 2, 1) := by decide +kernel
theorem dX9_cell_48 : decode cX9_cell 48 = .ok (.iload_n 3, 1) := by decide +kernel
theorem dX9_cell_49 : decode cX9_cell 49 = .ok (.invokevirtual 323, 3) := by decide +kernel
theorem dX9_cell_52 : decode cX9_cell 52 = .ok (.iconst 1, 1) := by decide +kernel
theorem dX9_cell_53 : decode cX9_cell 53 = .ok (.ireturn, 1) := by decide +kernel
theorem dX9_copy_0 : decode cX9_copy 0 = .ok (.iload_n 1, 1) := by decide +kernel
theorem dX9_copy_1 : decode cX9_copy 1 = .ok (.invokestatic 276, 3) := by decide +kernel
theorem dX9_copy_4 : decode cX9_copy 4 = .ok (.ifCond .eq 10, 3) := by decide +kernel
theorem dX9_copy_7 : decode cX9_copy 7 = .ok (.iload_n 3, 1) := by decide +kernel
theorem dX9_copy_8 : decode cX9_copy 8 = .ok (.invokestatic 276, 3) := by decide +kernel
theorem dX9_copy_11 : decode cX9_copy 11 = .ok (.ifCond .ne 6, 3) := by decide +kernel
theorem dX9_copy_14 : decode cX9_copy 14 = .ok (.bipush (-2), 2) := by decide +kernel
theorem dX9_copy_16 : decode cX9_copy 16 = .ok (.ireturn, 1) := by decide +kernel
theorem dX9_copy_17 : decode cX9_copy 17 = .ok (.aload_n 0, 1) := by decide +kernel
theorem dX9_copy_18 : decode cX9_copy 18 = .ok (.getfield 42, 3) := by decide +kernel
theorem dX9_copy_21 : decode cX9_copy 21 = .ok (.iload_n 1, 1) := by decide +kernel
theorem dX9_copy_22 : decode cX9_copy 22 = .ok (.aaload, 1) := by decide +kernel
theorem dX9_copy_23 : decode cX9_copy 23 = .ok (.astore 6, 2) := by decide +kernel
theorem dX9_copy_25 : decode cX9_copy 25 = .ok (.aload_n 0, 1) := by decide +kernel
theorem dX9_copy_26 : decode cX9_copy 26 = .ok (.getfield 42, 3) := by decide +kernel
theorem dX9_copy_29 : decode cX9_copy 29 = .ok (.iload_n 3, 1) := by decide +kernel
theorem dX9_copy_30 : decode cX9_copy 30 = .ok (.aaload, 1) := by decide +kernel
theorem dX9_copy_31 : decode cX9_copy 31 = .ok (.astore 7, 2) := by decide +kernel
theorem dX9_copy_33 : decode cX9_copy 33 = .ok (.aload 6, 2) := by decide +kernel
theorem dX9_copy_35 : decode cX9_copy 35 = .ok (.invokevirtual 279, 3) := by decide +kernel
theorem dX9_copy_38 : decode cX9_copy 38 = .ok (.ifCond .ne 11, 3) := by decide +kernel
theorem dX9_copy_41 : decode cX9_copy 41 = .ok (.aload 7, 2) := by decide +kernel
theorem dX9_copy_43 : decode cX9_copy 43 = .ok (.invokevirtual 279, 3) := by decide +kernel
theorem dX9_copy_46 : decode cX9_copy 46 = .ok (.ifCond .eq 6, 3) := by decide +kernel
theorem dX9_copy_49 : decode cX9_copy 49 = .ok (.bipush (-11), 2) := by decide +kernel
theorem dX9_copy_51 : decode cX9_copy 51 = .ok (.ireturn, 1) := by decide +kernel
theorem dX9_copy_52 : decode cX9_copy 52 = .ok (.aload 6, 2) := by decide +kernel
theorem dX9_copy_54 : decode cX9_copy 54 = .ok (.getfield 349, 3) := by decide +kernel
theorem dX9_copy_57 : decode cX9_copy 57 = .ok (.aload 7, 2) := by decide +kernel
theorem dX9_copy_59 : decode cX9_copy 59 = .ok (.getfield 349, 3) := by decide +kernel
theorem dX9_copy_62 : decode cX9_copy 62 = .ok (.if_icmp .eq 6, 3) := by decide +kernel
theorem dX9_copy_65 : decode cX9_copy 65 = .ok (.bipush (-13), 2) := by decide +kernel
theorem dX9_copy_67 : decode cX9_copy 67 = .ok (.ireturn, 1) := by decide +kernel
theorem dX9_copy_68 : decode cX9_copy 68 = .ok (.aload 6, 2) := by decide +kernel
theorem dX9_copy_70 : decode cX9_copy 70 = .ok (.iload_n 2, 1) := by decide +kernel
theorem dX9_copy_71 : decode cX9_copy 71 = .ok (.iload 5, 2) := by decide +kernel
theorem dX9_copy_73 : decode cX9_copy 73 = .ok (.invokevirtual 352, 3) := by decide +kernel
theorem dX9_copy_76 : decode cX9_copy 76 = .ok (.ifCond .eq 15, 3) := by decide +kernel
theorem dX9_copy_79 : decode cX9_copy 79 = .ok (.aload 7, 2) := by decide +kernel
theorem dX9_copy_81 : decode cX9_copy 81 = .ok (.iload 4, 2) := by decide +kernel
theorem dX9_copy_83 : decode cX9_copy 83 = .ok (.iload 5, 2) := by decide +kernel
theorem dX9_copy_85 : decode cX9_copy 85 = .ok (.invokevirtual 352, 3) := by decide +kernel
theorem dX9_copy_88 : decode cX9_copy 88 = .ok (.ifCond .ne 6, 3) := by decide +kernel
theorem dX9_copy_91 : decode cX9_copy 91 = .ok (.bipush (-12), 2) := by decide +kernel
theorem dX9_copy_93 : decode cX9_copy 93 = .ok (.ireturn, 1) := by decide +kernel
theorem dX9_copy_94 : decode cX9_copy 94 = .ok (.aload 6, 2) := by decide +kernel
theorem dX9_copy_96 : decode cX9_copy 96 = .ok (.getfield 300, 3) := by decide +kernel
theorem dX9_copy_99 : decode cX9_copy 99 = .ok (.iload_n 2, 1) := by decide +kernel
theorem dX9_copy_100 : decode cX9_copy 100 = .ok (.aload 7, 2) := by decide +kernel
theorem dX9_copy_102 : decode cX9_copy 102 = .ok (.getfield 300, 3) := by decide +kernel
theorem dX9_copy_105 : decode cX9_copy 105 = .ok (.iload 4, 2) := by decide +kernel
theorem dX9_copy_107 : decode cX9_copy 107 = .ok (.iload 5, 2) := by decide +kernel
theorem dX9_copy_109 : decode cX9_copy 109 = .ok (.invokestatic 354, 3) := by decide +kernel
theorem dX9_copy_112 : decode cX9_copy 112 = .ok (.iload 5, 2) := by decide +kernel
theorem dX9_copy_114 : decode cX9_copy 114 = .ok (.ireturn, 1) := by decide +kernel
theorem dX9_grooms_0 : decode cX9_grooms 0 = .ok (.iload_n 1, 1) := by decide +kernel
theorem dX9_grooms_1 : decode cX9_grooms 1 = .ok (.invokestatic 276, 3) := by decide +kernel
theorem dX9_grooms_4 : decode cX9_grooms 4 = .ok (.ifCond .eq 22, 3) := by decide +kernel
theorem dX9_grooms_7 : decode cX9_grooms 7 = .ok (.iload_n 2, 1) := by decide +kernel
theorem dX9_grooms_8 : decode cX9_grooms 8 = .ok (.invokestatic 346, 3) := by decide +kernel
theorem dX9_grooms_11 : decode cX9_grooms 11 = .ok (.ifCond .eq 15, 3) := by decide +kernel
theorem dX9_grooms_14 : decode cX9_grooms 14 = .ok (.iload 4, 2) := by decide +kernel
theorem dX9_grooms_16 : decode cX9_grooms 16 = .ok (.ifCond .lt 10, 3) := by decide +kernel
theorem dX9_grooms_19 : decode cX9_grooms 19 = .ok (.iload 4, 2) := by decide +kernel
theorem dX9_grooms_21 : decode cX9_grooms 21 = .ok (.bipush 6, 2) := by decide +kernel
theorem dX9_grooms_23 : decode cX9_grooms 23 = .ok (.if_icmp .le 6, 3) := by decide +kernel
theorem dX9_grooms_26 : decode cX9_grooms 26 = .ok (.bipush (-2), 2) := by decide +kernel
theorem dX9_grooms_28 : decode cX9_grooms 28 = .ok (.ireturn, 1) := by decide +kernel
theorem dX9_grooms_29 : decode cX9_grooms 29 = .ok (.aload_n 0, 1) := by decide +kernel
theorem dX9_grooms_30 : decode cX9_grooms 30 = .ok (.getfield 42, 3) := by decide +kernel
theorem dX9_grooms_33 : decode cX9_grooms 33 = .ok (.iload_n 1, 1) := by decide +kernel
theorem dX9_grooms_34 : decode cX9_grooms 34 = .ok (.aaload, 1) := by decide +kernel
theorem dX9_grooms_35 : decode cX9_grooms 35 = .ok (.astore 5, 2) := by decide +kernel
theorem dX9_grooms_37 : decode cX9_grooms 37 = .ok (.aload 5, 2) := by decide +kernel
theorem dX9_grooms_39 : decode cX9_grooms 39 = .ok (.invokevirtual 279, 3) := by decide +kernel
theorem dX9_grooms_42 : decode cX9_grooms 42 = .ok (.ifCond .eq 6, 3) := by decide +kernel
theorem dX9_grooms_45 : decode cX9_grooms 45 = .ok (.bipush (-11), 2) := by decide +kernel
theorem dX9_grooms_47 : decode cX9_grooms 47 = .ok (.ireturn, 1) := by decide +kernel
theorem dX9_grooms_48 : decode cX9_grooms 48 = .ok (.aload 5, 2) := by decide +kernel
theorem dX9_grooms_50 : decode cX9_grooms 50 = .ok (.getfield 349, 3) := by decide +kernel
theorem dX9_grooms_53 : decode cX9_grooms 53 = .ok (.iload_n 2, 1) := by decide +kernel
theorem dX9_grooms_54 : decode cX9_grooms 54 = .ok (.if_icmp .eq 6, 3) := by decide +kernel
theorem dX9_grooms_57 : decode cX9_grooms 57 = .ok (.bipush (-13), 2) := by decide +kernel
theorem dX9_grooms_59 : decode cX9_grooms 59 = .ok (.ireturn, 1) := by decide +kernel
theorem dX9_grooms_60 : decode cX9_grooms 60 = .ok (.iconst 0, 1) := by decide +kernel
theorem dX9_grooms_61 : decode cX9_grooms 61 = .ok (.istore 6, 2) := by decide +kernel
theorem dX9_grooms_63 : decode cX9_grooms 63 = .ok (.iconst 0, 1) := by decide +kernel
theorem dX9_grooms_64 : decode cX9_grooms 64 = .ok (.istore 7, 2) := by decide +kernel
theorem dX9_grooms_66 : decode cX9_grooms 66 = .ok (.iload 7, 2) := by decide +kernel
theorem dX9_grooms_68 : decode cX9_grooms 68 = .ok (.iload 4, 2) := by decide +kernel
theorem dX9_grooms_70 : decode cX9_grooms 70 = .ok (.if_icmp .ge 73, 3) := by decide +kernel
theorem dX9_grooms_73 : decode cX9_grooms 73 = .ok (.aload 5, 2) := by decide +kernel
theorem dX9_grooms_75 : decode cX9_grooms 75 = .ok (.iload_n 3, 1) := by decide +kernel
theorem dX9_grooms_76 : decode cX9_grooms 76 = .ok (.iconst 3, 1) := by decide +kernel
theorem dX9_grooms_77 : decode cX9_grooms 77 = .ok (.iload 7, 2) := by decide +kernel
theorem dX9_grooms_79 : decode cX9_grooms 79 = .ok (.imul, 1) := by decide +kernel
theorem dX9_grooms_80 : decode cX9_grooms 80 = .ok (.iconst 3, 1) := by decide +kernel
theorem dX9_grooms_81 : decode cX9_grooms 81 = .ok (.iadd, 1) := by decide +kernel
theorem dX9_grooms_82 : decode cX9_grooms 82 = .ok (.invokevirtual 352, 3) := by decide +kernel
theorem dX9_grooms_85 : decode cX9_grooms 85 = .ok (.ifCond .ne 6, 3) := by decide +kernel
theorem dX9_grooms_88 : decode cX9_grooms 88 = .ok (.bipush (-12), 2) := by decide +kernel
theorem dX9_grooms_90 : decode cX9_grooms 90 = .ok (.ireturn, 1) := by decide +kernel
theorem dX9_grooms_91 : decode cX9_grooms 91 = .ok (.iload_n 3, 1) := by decide +kernel
theorem dX9_grooms_92 : decode cX9_grooms 92 = .ok (.iconst 3, 1) := by decide +kernel
theorem dX9_grooms_93 : decode cX9_grooms 93 = .ok (.iload 7, 2) := by decide +kernel
theorem dX9_grooms_95 : decode cX9_grooms 95 = .ok (.imul, 1) := by decide +kernel
theorem dX9_grooms_96 : decode cX9_grooms 96 = .ok (.iadd, 1) := by decide +kernel
theorem dX9_grooms_97 : decode cX9_grooms 97 = .ok (.istore 8, 2) := by decide +kernel
theorem dX9_grooms_99 : decode cX9_grooms 99 = .ok (.aload_n 0, 1) := by decide +kernel
theorem dX9_grooms_100 : decode cX9_grooms 100 = .ok (.aload 5, 2) := by decide +kernel
theorem dX9_grooms_102 : decode cX9_grooms 102 = .ok (.getfield 300, 3) := by decide +kernel
theorem dX9_grooms_105 : decode cX9_grooms 105 = .ok (.iload 8, 2) := by decide +kernel
theorem dX9_grooms_107 : decode cX9_grooms 107 = .ok (.iaload, 1) := by decide +kernel
theorem dX9_grooms_108 : decode cX9_grooms 108 = .ok (.aload 5, 2) := by decide +kernel
theorem dX9_grooms_110 : decode cX9_grooms 110 = .ok (.getfield 300, 3) := by decide +kernel
theorem dX9_grooms_113 : decode cX9_grooms 113 = .ok (.iload 8, 2) := by decide +kernel
theorem dX9_grooms_115 : decode cX9_grooms 115 = .ok (.iconst 1, 1) := by decide +kernel
theorem dX9_grooms_116 : decode cX9_grooms 116 = .ok (.iadd, 1) := by decide +kernel
theorem dX9_grooms_117 : decode cX9_grooms 117 = .ok (.iaload, 1) := by decide +kernel
theorem dX9_grooms_118 : decode cX9_grooms 118 = .ok (.aload 5, 2) := by decide +kernel
theorem dX9_grooms_120 : decode cX9_grooms 120 = .ok (.getfield 300, 3) := by decide +kernel
theorem dX9_grooms_123 : decode cX9_grooms 123 = .ok (.iload 8, 2) := by decide +kernel
theorem dX9_grooms_125 : decode cX9_grooms 125 = .ok (.iconst 2, 1) := by decide +kernel
theorem dX9_grooms_126 : decode cX9_grooms 126 = .ok (.iadd, 1) := by decide +kernel
theorem dX9_grooms_127 : decode cX9_grooms 127 = .ok (.iaload, 1) := by decide +kernel
theorem dX9_grooms_128 : decode cX9_grooms 128 = .ok (.invokevirtual 360, 3) := by decide +kernel
theorem dX9_grooms_131 : decode cX9_grooms 131 = .ok (.ifCond .lt 6, 3) := by decide +kernel
theorem dX9_grooms_134 : decode cX9_grooms 134 = .ok (.iinc 6 1, 3) := by decide +kernel
theorem dX9_grooms_137 : decode cX9_grooms 137 = .ok (.iinc 7 1, 3) := by decide +kernel
theorem dX9_grooms_140 : decode cX9_grooms 140 = .ok (.goto (-74), 3) := by decide +kernel
theorem dX9_grooms_143 : decode cX9_grooms 143 = .ok (.iload 6, 2) := by decide +kernel
theorem dX9_grooms_145 : decode cX9_grooms 145 = .ok (.ireturn, 1) := by decide +kernel
theorem dX9_taken_0 : decode cX9_taken 0 = .ok (.iload_n 2, 1) := by decide +kernel
theorem dX9_taken_1 : decode cX9_taken 1 = .ok (.invokestatic 127, 3) := by decide +kernel
theorem dX9_taken_4 : decode cX9_taken 4 = .ok (.ifCond .ne 6, 3) := by decide +kernel
theorem dX9_taken_7 : decode cX9_taken 7 = .ok (.bipush (-2), 2) := by decide +kernel
theorem dX9_taken_9 : decode cX9_taken 9 = .ok (.ireturn, 1) := by decide +kernel
theorem dX9_taken_10 : decode cX9_taken 10 = .ok (.aload_n 0, 1) := by decide +kernel
theorem dX9_taken_11 : decode cX9_taken 11 = .ok (.iload_n 1, 1) := by decide +kernel
theorem dX9_taken_12 : decode cX9_taken 12 = .ok (.invokevirtual 140, 3) := by decide +kernel
theorem dX9_taken_15 : decode cX9_taken 15 = .ok (.ifCond .ne 6, 3) := by decide +kernel
theorem dX9_taken_18 : decode cX9_taken 18 = .ok (.bipush (-11), 2) := by decide +kernel
theorem dX9_taken_20 : decode cX9_taken 20 = .ok (.ireturn, 1) := by decide +kernel
theorem dX9_taken_21 : decode cX9_taken 21 = .ok (.aload_n 0, 1) := by decide +kernel
theorem dX9_taken_22 : decode cX9_taken 22 = .ok (.getfield 10, 3) := by decide +kernel
theorem dX9_taken_25 : decode cX9_taken 25 = .ok (.getfield 112, 3) := by decide +kernel
theorem dX9_taken_28 : decode cX9_taken 28 = .ok (.iload_n 1, 1) := by decide +kernel
theorem dX9_taken_29 : decode cX9_taken 29 = .ok (.aaload, 1) := by decide +kernel
theorem dX9_taken_30 : decode cX9_taken 30 = .ok (.getfield 134, 3) := by decide +kernel
theorem dX9_taken_33 : decode cX9_taken 33 = .ok (.iload_n 2, 1) := by decide +kernel
theorem dX9_taken_34 : decode cX9_taken 34 = .ok (.invokestatic 364, 3) := by decide +kernel
theorem dX9_taken_37 : decode cX9_taken 37 = .ok (.ifCond .eq 18, 3) := by decide +kernel
theorem dX9_taken_40 : decode cX9_taken 40 = .ok (.aload_n 0, 1) := by decide +kernel
theorem dX9_taken_41 : decode cX9_taken 41 = .ok (.getfield 10, 3) := by decide +kernel
theorem dX9_taken_44 : decode cX9_taken 44 = .ok (.getfield 112, 3) := by decide +kernel
theorem dX9_taken_47 : decode cX9_taken 47 = .ok (.iload_n 1, 1) := by decide +kernel
theorem dX9_taken_48 : decode cX9_taken 48 = .ok (.aaload, 1) := by decide +kernel
theorem dX9_taken_49 : decode cX9_taken 49 = .ok (.getfield 116, 3) := by decide +kernel
theorem dX9_taken_52 : decode cX9_taken 52 = .ok (.goto 5, 3) := by decide +kernel
theorem dX9_taken_55 : decode cX9_taken 55 = .ok (.bipush (-13), 2) := by decide +kernel
theorem dX9_taken_57 : decode cX9_taken 57 = .ok (.ireturn, 1) := by decide +kernel
theorem dX9_isUnder_0 : decode cX9_isUnder 0 = .ok (.iload_n 0, 1) := by decide +kernel
theorem dX9_isUnder_1 : decode cX9_isUnder 1 = .ok (.istore_n 2, 1) := by decide +kernel
theorem dX9_isUnder_2 : decode cX9_isUnder 2 = .ok (.iconst 0, 1) := by decide +kernel
theorem dX9_isUnder_3 : decode cX9_isUnder 3 = .ok (.istore_n 3, 1) := by decide +kernel
theorem dX9_isUnder_4 : decode cX9_isUnder 4 = .ok (.iload_n 3, 1) := by decide +kernel
theorem dX9_isUnder_5 : decode cX9_isUnder 5 = .ok (.bipush 6, 2) := by decide +kernel
theorem dX9_isUnder_7 : decode cX9_isUnder 7 = .ok (.if_icmp .ge 29, 3) := by decide +kernel
theorem dX9_isUnder_10 : decode cX9_isUnder 10 = .ok (.iload_n 2, 1) := by decide +kernel
theorem dX9_isUnder_11 : decode cX9_isUnder 11 = .ok (.invokestatic 127, 3) := by decide +kernel
theorem dX9_isUnder_14 : decode cX9_isUnder 14 = .ok (.ifCond .eq 22, 3) := by decide +kernel
theorem dX9_isUnder_17 : decode cX9_isUnder 17 = .ok (.iload_n 2, 1) := by decide +kernel
theorem dX9_isUnder_18 : decode cX9_isUnder 18 = .ok (.iload_n 1, 1) := by decide +kernel
theorem dX9_isUnder_19 : decode cX9_isUnder 19 = .ok (.if_icmp .ne 5, 3) := by decide +kernel
theorem dX9_isUnder_22 : decode cX9_isUnder 22 = .ok (.iconst 1, 1) := by decide +kernel
theorem dX9_isUnder_23 : decode cX9_isUnder 23 = .ok (.ireturn, 1) := by decide +kernel
theorem dX9_isUnder_24 : decode cX9_isUnder 24 = .ok (.getstatic 367, 3) := by decide +kernel
theorem dX9_isUnder_27 : decode cX9_isUnder 27 = .ok (.iload_n 2, 1) := by decide +kernel
theorem dX9_isUnder_28 : decode cX9_isUnder 28 = .ok (.iaload, 1) := by decide +kernel
theorem dX9_isUnder_29 : decode cX9_isUnder 29 = .ok (.istore_n 2, 1) := by decide +kernel
theorem dX9_isUnder_30 : decode cX9_isUnder 30 = .ok (.iinc 3 1, 3) := by decide +kernel
theorem dX9_isUnder_33 : decode cX9_isUnder 33 = .ok (.goto (-29), 3) := by decide +kernel
theorem dX9_isUnder_36 : decode cX9_isUnder 36 = .ok (.iconst 0, 1) := by decide +kernel
theorem dX9_isUnder_37 : decode cX9_isUnder 37 = .ok (.ireturn, 1) := by decide +kernel
theorem dX9_isSheet_0 : decode cX9_isSheet 0 = .ok (.iload_n 0, 1) := by decide +kernel
theorem dX9_isSheet_1 : decode cX9_isSheet 1 = .ok (.ifCond .lt 12, 3) := by decide +kernel
theorem dX9_isSheet_4 : decode cX9_isSheet 4 = .ok (.iload_n 0, 1) := by decide +kernel
theorem dX9_isSheet_5 : decode cX9_isSheet 5 = .ok (.iconst 4, 1) := by decide +kernel
theorem dX9_isSheet_6 : decode cX9_isSheet 6 = .ok (.if_icmp .ge 7, 3) := by decide +kernel
theorem dX9_isSheet_9 : decode cX9_isSheet 9 = .ok (.iconst 1, 1) := by decide +kernel
theorem dX9_isSheet_10 : decode cX9_isSheet 10 = .ok (.goto 4, 3) := by decide +kernel
theorem dX9_isSheet_13 : decode cX9_isSheet 13 = .ok (.iconst 0, 1) := by decide +kernel
theorem dX9_isSheet_14 : decode cX9_isSheet 14 = .ok (.ireturn, 1) := by decide +kernel
theorem dX9_isSort_0 : decode cX9_isSort 0 = .ok (.iload_n 0, 1) := by decide +kernel
theorem dX9_isSort_1 : decode cX9_isSort 1 = .ok (.ifCond .lt 12, 3) := by decide +kernel
theorem dX9_isSort_4 : decode cX9_isSort 4 = .ok (.iload_n 0, 1) := by decide +kernel
theorem dX9_isSort_5 : decode cX9_isSort 5 = .ok (.iconst 2, 1) := by decide +kernel
theorem dX9_isSort_6 : decode cX9_isSort 6 = .ok (.if_icmp .gt 7, 3) := by decide +kernel
theorem dX9_isSort_9 : decode cX9_isSort 9 = .ok (.iconst 1, 1) := by decide +kernel
theorem dX9_isSort_10 : decode cX9_isSort 10 = .ok (.goto 4, 3) := by decide +kernel
theorem dX9_isSort_13 : decode cX9_isSort 13 = .ok (.iconst 0, 1) := by decide +kernel
theorem dX9_isSort_14 : decode cX9_isSort 14 = .ok (.ireturn, 1) := by decide +kernel
theorem dX9_within_0 : decode cX9_within 0 = .ok (.iload_n 0, 1) := by decide +kernel
theorem dX9_within_1 : decode cX9_within 1 = .ok (.ifCond .ge 7, 3) := by decide +kernel
theorem dX9_within_4 : decode cX9_within 4 = .ok (.iconst 0, 1) := by decide +kernel
theorem dX9_within_5 : decode cX9_within 5 = .ok (.goto 15, 3) := by decide +kernel
theorem dX9_within_8 : decode cX9_within 8 = .ok (.iload_n 0, 1) := by decide +kernel
theorem dX9_within_9 : decode cX9_within 9 = .ok (.bipush 99, 2) := by decide +kernel
theorem dX9_within_11 : decode cX9_within 11 = .ok (.if_icmp .le 8, 3) := by decide +kernel
theorem dX9_within_14 : decode cX9_within 14 = .ok (.bipush 99, 2) := by decide +kernel
theorem dX9_within_16 : decode cX9_within 16 = .ok (.goto 4, 3) := by decide +kernel
theorem dX9_within_19 : decode cX9_within 19 = .ok (.iload_n 0, 1) := by decide +kernel
theorem dX9_within_20 : decode cX9_within 20 = .ok (.ireturn, 1) := by decide +kernel
end
section
theorem dX10_in_0 : decode cX10_in 0 = .ok (.lload_n 0, 1) := by decide +kernel
theorem dX10_in_1 : decode cX10_in 1 = .ok (.lload_n 2, 1) := by decide +kernel
theorem dX10_in_2 : decode cX10_in 2 = .ok (.lcmp, 1) := by decide +kernel
theorem dX10_in_3 : decode cX10_in 3 = .ok (.ifCond .lt 14, 3) := by decide +kernel
theorem dX10_in_6 : decode cX10_in 6 = .ok (.lload_n 0, 1) := by decide +kernel
theorem dX10_in_7 : decode cX10_in 7 = .ok (.lload 4, 2) := by decide +kernel
theorem dX10_in_9 : decode cX10_in 9 = .ok (.lcmp, 1) := by decide +kernel
theorem dX10_in_10 : decode cX10_in 10 = .ok (.ifCond .gt 7, 3) := by decide +kernel
theorem dX10_in_13 : decode cX10_in 13 = .ok (.iconst 1, 1) := by decide +kernel
theorem dX10_in_14 : decode cX10_in 14 = .ok (.goto 4, 3) := by decide +kernel
theorem dX10_in_17 : decode cX10_in 17 = .ok (.iconst 0, 1) := by decide +kernel
theorem dX10_in_18 : decode cX10_in 18 = .ok (.ireturn, 1) := by decide +kernel
theorem dX10_within_0 : decode cX10_within 0 = .ok (.iload_n 0, 1) := by decide +kernel
theorem dX10_within_1 : decode cX10_within 1 = .ok (.iload_n 1, 1) := by decide +kernel
theorem dX10_within_2 : decode cX10_within 2 = .ok (.if_icmp .ge 7, 3) := by decide +kernel
theorem dX10_within_5 : decode cX10_within 5 = .ok (.iload_n 1, 1) := by decide +kernel
theorem dX10_within_6 : decode cX10_within 6 = .ok (.goto 13, 3) := by decide +kernel
theorem dX10_within_9 : decode cX10_within 9 = .ok (.iload_n 0, 1) := by decide +kernel
theorem dX10_within_10 : decode cX10_within 10 = .ok (.iload_n 2, 1) := by decide +kernel
theorem dX10_within_11 : decode cX10_within 11 = .ok (.if_icmp .le 7, 3) := by decide +kernel
theorem dX10_within_14 : decode cX10_within 14 = .ok (.iload_n 2, 1) := by decide +kernel
theorem dX10_within_15 : decode cX10_within 15 = .ok (.goto 4, 3) := by decide +kernel
theorem dX10_within_18 : decode cX10_within 18 = .ok (.iload_n 0, 1) := by decide +kernel
theorem dX10_within_19 : decode cX10_within 19 = .ok (.ireturn, 1) := by decide +kernel
theorem dX10_init_0 : decode cX10_init 0 = .ok (.aload_n 0, 1) := by decide +kernel
theorem dX10_init_1 : decode cX10_init 1 = .ok (.invokespecial 7, 3) := by decide +kernel
theorem dX10_init_4 : decode cX10_init 4 = .ok (.aload_n 0, 1) := by decide +kernel
theorem dX10_init_5 : decode cX10_init 5 = .ok (.sipush 960, 3) := by decide +kernel
theorem dX10_init_8 : decode cX10_init 8 = .ok (.newarray .int, 2) := by decide +kernel
theorem dX10_init_10 : decode cX10_init 10 = .ok (.putfield 13, 3) := by decide +kernel
theorem dX10_init_13 : decode cX10_init 13 = .ok (.aload_n 0, 1) := by decide +kernel
theorem dX10_init_14 : decode cX10_init 14 = .ok (.bipush 6, 2) := by decide +kernel
theorem dX10_init_16 : decode cX10_init 16 = .ok (.newarray .int, 2) := by decide +kernel
theorem dX10_init_18 : decode cX10_init 18 = .ok (.putfield 17, 3) := by decide +kernel
theorem dX10_init_21 : decode cX10_init 21 = .ok (.aload_n 0, 1) := by decide +kernel
theorem dX10_init_22 : decode cX10_init 22 = .ok (.sipush 160, 3) := by decide +kernel
theorem dX10_init_25 : decode cX10_init 25 = .ok (.newarray .int, 2) := by decide +kernel
theorem dX10_init_27 : decode cX10_init 27 = .ok (.putfield 20, 3) := by decide +kernel
theorem dX10_init_30 : decode cX10_init 30 = .ok (.aload_n 0, 1) := by decide +kernel
theorem dX10_init_31 : decode cX10_init 31 = .ok (.bipush 60, 2) := by decide +kernel
theorem dX10_init_33 : decode cX10_init 33 = .ok (.putfield 23, 3) := by decide +kernel
theorem dX10_init_36 : decode cX10_init 36 = .ok (.aload_n 0, 1) := by decide +kernel
theorem dX10_init_37 : decode cX10_init 37 = .ok (.bipush 6, 2) := by decide +kernel
theorem dX10_init_39 : decode cX10_init 39 = .ok (.newarray .int, 2) := by decide +kernel
theorem dX10_init_41 : decode cX10_init 41 = .ok (.putfield 26, 3) := by decide +kernel
theorem dX10_init_44 : decode cX10_init 44 = .ok (.aload_n 0, 1) := by decide +kernel
theorem dX10_init_45 : decode cX10_init 45 = .ok (.bipush 18, 2) := by decide +kernel
theorem dX10_init_47 : decode cX10_init 47 = .ok (.newarray .int, 2) := by decide +kernel
theorem dX10_init_49 : decode cX10_init 49 = .ok (.putfield 29, 3) := by decide +kernel
theorem dX10_init_52 : decode cX10_init 52 = .ok (.aload_n 0, 1) := by decide +kernel
theorem dX10_init_53 : decode cX10_init 53 = .ok (.bipush 6, 2) := by decide +kernel
theorem dX10_init_55 : decode cX10_init 55 = .ok (.newarray .int, 2) := by decide +kernel
theorem dX10_init_57 : decode cX10_init 57 = .ok (.putfield 32, 3) := by decide +kernel
theorem dX10_init_60 : decode cX10_init 60 = .ok (.aload_n 0, 1) := by decide +kernel
theorem dX10_init_61 : decode cX10_init 61 = .ok (.bipush 36, 2) := by decide +kernel
theorem dX10_init_63 : decode cX10_init 63 = .ok (.newarray .int, 2) := by decide +kernel
theorem dX10_init_65 : decode cX10_init 65 = .ok (.putfield 35, 3) := by decide +kernel
theorem dX10_init_68 : decode cX10_init 68 = .ok (.aload_n 0, 1) := by decide +kernel
theorem dX10_init_69 : decode cX10_init 69 = .ok (.bipush 6, 2) := by decide +kernel
theorem dX10_init_71 : decode cX10_init 71 = .ok (.newarray .int, 2) := by decide +kernel
theorem dX10_init_73 : decode cX10_init 73 = .ok (.putfield 38, 3) := by decide +kernel
theorem dX10_init_76 : decode cX10_init 76 = .ok (.aload_n 0, 1) := by decide +kernel
theorem dX10_init_77 : decode cX10_init 77 = .ok (.bipush 6, 2) := by decide +kernel
theorem dX10_init_79 : decode cX10_init 79 = .ok (.newarray .int, 2) := by decide +kernel
theorem dX10_init_81 : decode cX10_init 81 = .ok (.putfield 41, 3) := by decide +kernel
theorem dX10_init_84 : decode cX10_init 84 = .ok (.aload_n 0, 1) := by decide +kernel
theorem dX10_init_85 : decode cX10_init 85 = .ok (.bipush 6, 2) := by decide +kernel
theorem dX10_init_87 : decode cX10_init 87 = .ok (.newarray .int, 2) := by decide +kernel
theorem dX10_init_89 : decode cX10_init 89 = .ok (.putfield 44, 3) := by decide +kernel
theorem dX10_init_92 : decode cX10_init 92 = .ok (.aload_n 0, 1) := by decide +kernel
theorem dX10_init_93 : decode cX10_init 93 = .ok (.bipush 18, 2) := by decide +kernel
theorem dX10_init_95 : decode cX10_init 95 = .ok (.newarray .int, 2) := by decide +kernel
theorem dX10_init_97 : decode cX10_init 97 = .ok (.putfield 47, 3) := by decide +kernel
theorem dX10_init_100 : decode cX10_init 100 = .ok (.aload_n 0, 1) := by decide +kernel
theorem dX10_init_101 : decode cX10_init 101 = .ok (.bipush 6, 2) := by decide +kernel
theorem dX10_init_103 : decode cX10_init 103 = .ok (.newarray .int, 2) := by decide +kernel
theorem dX10_init_105 : decode cX10_init 105 = .ok (.putfield 50, 3) := by decide +kernel
theorem dX10_init_108 : decode cX10_init 108 = .ok (.aload_n 0, 1) := by decide +kernel
theorem dX10_init_109 : decode cX10_init 109 = .ok (.iconst (-1), 1) := by decide +kernel
theorem dX10_init_110 : decode cX10_init 110 = .ok (.putfield 53, 3) := by decide +kernel
theorem dX10_init_113 : decode cX10_init 113 = .ok (.aload_n 0, 1) := by decide +kernel
theorem dX10_init_114 : decode cX10_init 114 = .ok (.iconst 4, 1) := by decide +kernel
theorem dX10_init_115 : decode cX10_init 115 = .ok (.newarray .boolean, 2) := by decide +kernel
theorem dX10_init_117 : decode cX10_init 117 = .ok (.putfield 56, 3) := by decide +kernel
theorem dX10_init_120 : decode cX10_init 120 = .ok (.aload_n 0, 1) := by decide +kernel
theorem dX10_init_121 : decode cX10_init 121 = .ok (.iconst 4, 1) := by decide +kernel
theorem dX10_init_122 : decode cX10_init 122 = .ok (.newarray .int, 2) := by decide +kernel
theorem dX10_init_124 : decode cX10_init 124 = .ok (.putfield 60, 3) := by decide +kernel
theorem dX10_init_127 : decode cX10_init 127 = .ok (.aload_n 0, 1) := by decide +kernel
theorem dX10_init_128 : decode cX10_init 128 = .ok (.iconst 4, 1) := by decide +kernel
theorem dX10_init_129 : decode cX10_init 129 = .ok (.newarray .int, 2) := by decide +kernel
theorem dX10_init_131 : decode cX10_init 131 = .ok (.putfield 63, 3) := by decide +kernel
theorem dX10_init_134 : decode cX10_init 134 = .ok (.aload_n 0, 1) := by decide +kernel
theorem dX10_init_135 : decode cX10_init 135 = .ok (.sipush 160, 3) := by decide +kernel
theorem dX10_init_138 : decode cX10_init 138 = .ok (.newarray .int, 2) := by decide +kernel
theorem dX10_init_140 : decode cX10_init 140 = .ok (.putfield 66, 3) := by decide +kernel
theorem dX10_init_143 : decode cX10_init 143 = .ok (.aload_n 0, 1) := by decide +kernel
theorem dX10_init_144 : decode cX10_init 144 = .ok (.iconst 0, 1) := by decide +kernel
theorem dX10_init_145 : decode cX10_init 145 = .ok (.bipush 104, 2) := by decide +kernel
theorem dX10_init_147 : decode cX10_init 147 = .ok (.bipush 101, 2) := by decide +kernel
theorem dX10_init_149 : decode cX10_init 149 = .ok (.bipush 97, 2) := by decide +kernel
theorem dX10_init_151 : decode cX10_init 151 = .ok (.bipush 116, 2) := by decide +kernel
theorem dX10_init_153 : decode cX10_init 153 = .ok (.bipush 115, 2) := by decide +kernel
theorem dX10_init_155 : decode cX10_init 155 = .ok (.bipush 32, 2) := by decide +kernel
theorem dX10_init_157 : decode cX10_init 157 = .ok (.bipush 55, 2) := by decide +kernel
theorem dX10_init_159 : decode cX10_init 159 = .ok (.bipush 32, 2) := by decide +kernel
theorem dX10_init_161 : decode cX10_init 161 = .ok (.invokevirtual 69, 3) := by decide +kernel
theorem dX10_init_164 : decode cX10_init 164 = .ok (.aload_n 0, 1) := by decide +kernel
theorem dX10_init_165 : decode cX10_init 165 = .ok (.bipush 8, 2) := by decide +kernel
theorem dX10_init_167 : decode cX10_init 167 = .ok (.bipush 59, 2) := by decide +kernel
theorem dX10_init_169 : decode cX10_init 169 = .ok (.bipush 32, 2) := by decide +kernel
theorem dX10_init_171 : decode cX10_init 171 = .ok (.bipush 99, 2) := by decide +kernel
theorem dX10_init_173 : decode cX10_init 173 = .ok (.bipush 97, 2) := by decide +kernel
theorem dX10_init_175 : decode cX10_init 175 = .ok (.bipush 108, 2) := by decide +kernel
theorem dX10_init_177 : decode cX10_init 177 = .ok (.bipush 109, 2) := by decide +kernel
theorem dX10_init_179 : decode cX10_init 179 = .ok (.bipush 115, 2) := by decide +kernel
theorem dX10_init_181 : decode cX10_init 181 = .ok (.bipush 32, 2) := by decide +kernel
theorem dX10_init_183 : decode cX10_init 183 = .ok (.invokevirtual 69, 3) := by decide +kernel
theorem dX10_init_186 : decode cX10_init 186 = .ok (.aload_n 0, 1) := by decide +kernel
theorem dX10_init_187 : decode cX10_init 187 = .ok (.bipush 16, 2) := by decide +kernel
theorem dX10_init_189 : decode cX10_init 189 = .ok (.bipush 116, 2) := by decide +kernel
theorem dX10_init_191 : decode cX10_init 191 = .ok (.bipush 104, 2) := by decide +kernel
theorem dX10_init_193 : decode cX10_init 193 = .ok (.bipush 105, 2) := by decide +kernel
theorem dX10_init_195 : decode cX10_init 195 = .ok (.bipush 110, 2) := by decide +kernel
theorem dX10_init_197 : decode cX10_init 197 = .ok (.bipush 103, 2) := by decide +kernel
theorem dX10_init_199 : decode cX10_init 199 = .ok (.bipush 32, 2) := by decide +kernel
theorem dX10_init_201 : decode cX10_init 201 = .ok (.bipush 59, 2) := by decide +kernel
theorem dX10_init_203 : decode cX10_init 203 = .ok (.bipush 32, 2) := by decide +kernel
theorem dX10_init_205 : decode cX10_init 205 = .ok (.invokevirtual 69, 3) := by decide +kernel
theorem dX10_init_208 : decode cX10_init 208 = .ok (.aload_n 0, 1) := by decide +kernel
theorem dX10_init_209 : decode cX10_init 209 = .ok (.bipush 24, 2) := by decide +kernel
theorem dX10_init_211 : decode cX10_init 211 = .ok (.bipush 102, 2) := by decide +kernel
theorem dX10_init_213 : decode cX10_init 213 = .ok (.bipush 101, 2) := by decide +kernel
theorem dX10_init_215 : decode cX10_init 215 = .ok (.bipush 101, 2) := by decide +kernel
theorem dX10_init_217 : decode cX10_init 217 = .ok (.bipush 108, 2) := by decide +kernel
theorem dX10_init_219 : decode cX10_init 219 = .ok (.bipush 115, 2) := by decide +kernel
theorem dX10_init_221 : decode cX10_init 221 = .ok (.bipush 32, 2) := by decide +kernel
theorem dX10_init_223 : decode cX10_init 223 = .ok (.bipush 116, 2) := by decide +kernel
theorem dX10_init_225 : decode cX10_init 225 = .ok (.bipush 104, 2) := by decide +kernel
theorem dX10_init_227 : decode cX10_init 227 = .ok (.invokevirtual 69, 3) := by decide +kernel
theorem dX10_init_230 : decode cX10_init 230 = .ok (.aload_n 0, 1) := by decide +kernel
theorem dX10_init_231 : decode cX10_init 231 = .ok (.bipush 32, 2) := by decide +kernel
theorem dX10_init_233 : decode cX10_init 233 = .ok (.bipush 105, 2) := by decide +kernel
theorem dX10_init_235 : decode cX10_init 235 = .ok (.bipush 110, 2) := by decide +kernel
theorem dX10_init_237 : decode cX10_init 237 = .ok (.bipush 103, 2) := by decide +kernel
theorem dX10_init_239 : decode cX10_init 239 = .ok (.bipush 32, 2) := by decide +kernel
theorem dX10_init_241 : decode cX10_init 241 = .ok (.bipush 42, 2) := by decide +kernel
theorem dX10_init_243 : decode cX10_init 243 = .ok (.bipush 32, 2) := by decide +kernel
theorem dX10_init_245 : decode cX10_init 245 = .ok (.bipush 51, 2) := by decide +kernel
theorem dX10_init_247 : decode cX10_init 247 = .ok (.bipush 32, 2) := by decide +kernel
theorem dX10_init_249 : decode cX10_init 249 = .ok (.invokevirtual 69, 3) := by decide +kernel
theorem dX10_init_252 : decode cX10_init 252 = .ok (.aload_n 0, 1) := by decide +kernel
theorem dX10_init_253 : decode cX10_init 253 = .ok (.bipush 40, 2) := by decide +kernel
theorem dX10_init_255 : decode cX10_init 255 = .ok (.bipush 59, 2) := by decide +kernel
theorem dX10_init_257 : decode cX10_init 257 = .ok (.bipush 32, 2) := by decide +kernel
theorem dX10_init_259 : decode cX10_init 259 = .ok (.bipush 32, 2) := by decide +kernel
theorem dX10_init_261 : decode cX10_init 261 = .ok (.bipush 32, 2) := by decide +kernel
theorem dX10_init_263 : decode cX10_init 263 = .ok (.bipush 32, 2) := by decide +kernel
theorem dX10_init_265 : decode cX10_init 265 = .ok (.bipush 32, 2) := by decide +kernel
theorem dX10_init_267 : decode cX10_init 267 = .ok (.bipush 32, 2) := by decide +kernel
theorem dX10_init_269 : decode cX10_init 269 = .ok (.bipush 32, 2) := by decide +kernel
theorem dX10_init_271 : decode cX10_init 271 = .ok (.invokevirtual 69, 3) := by decide +kernel
theorem dX10_init_274 : decode cX10_init 274 = .ok (.aload_n 0, 1) := by decide +kernel
theorem dX10_init_275 : decode cX10_init 275 = .ok (.getfield 17, 3) := by decide +kernel
theorem dX10_init_278 : decode cX10_init 278 = .ok (.iconst 0, 1) := by decide +kernel
theorem dX10_init_279 : decode cX10_init 279 = .ok (.bipush 48, 2) := by decide +kernel
theorem dX10_init_281 : decode cX10_init 281 = .ok (.iastore, 1) := by decide +kernel
theorem dX10_init_282 : decode cX10_init 282 = .ok (.aload_n 0, 1) := by decide +kernel
theorem dX10_init_283 : decode cX10_init 283 = .ok (.iconst 1, 1) := by decide +kernel
theorem dX10_init_284 : decode cX10_init 284 = .ok (.putfield 73, 3) := by decide +kernel
theorem dX10_init_287 : decode cX10_init 287 = .ok (.return_, 1) := by decide +kernel
theorem dX10_spell_0 : decode cX10_spell 0 = .ok (.aload_n 0, 1) := by decide +kernel
theorem dX10_spell_1 : decode cX10_spell 1 = .ok (.getfield 13, 3) := by decide +kernel
theorem dX10_spell_4 : decode cX10_spell 4 = .ok (.iload_n 1, 1) := by decide +kernel
theorem dX10_spell_5 : decode cX10_spell 5 = .ok (.iload_n 2, 1) := by decide +kernel
theorem dX10_spell_6 : decode cX10_spell 6 = .ok (.iastore, 1) := by decide +kernel
theorem dX10_spell_7 : decode cX10_spell 7 = .ok (.aload_n 0, 1) := by decide +kernel
theorem dX10_spell_8 : decode cX10_spell 8 = .ok (.getfield 13, 3) := by decide +kernel
theorem dX10_spell_11 : decode cX10_spell 11 = .ok (.iload_n 1, 1) := by decide +kernel
theorem dX10_spell_12 : decode cX10_spell 12 = .ok (.iconst 1, 1) := by decide +kernel
theorem dX10_spell_13 : decode cX10_spell 13 = .ok (.iadd, 1) := by decide +kernel
theorem dX10_spell_14 : decode cX10_spell 14 = .ok (.iload_n 3, 1) := by decide +kernel
theorem dX10_spell_15 : decode cX10_spell 15 = .ok (.iastore, 1) := by decide +kernel
theorem dX10_spell_16 : decode cX10_spell 16 = .ok (.aload_n 0, 1) := by decide +kernel
theorem dX10_spell_17 : decode cX10_spell 17 = .ok (.getfield 13, 3) := by decide +kernel
theorem dX10_spell_20 : decode cX10_spell 20 = .ok (.iload_n 1, 1) := by decide +kernel
theorem dX10_spell_21 : decode cX10_spell 21 = .ok (.iconst 2, 1) := by decide +kernel
theorem dX10_spell_22 : decode cX10_spell 22 = .ok (.iadd, 1) := by decide +kernel
theorem dX10_spell_23 : decode cX10_spell 23 = .ok (.iload 4, 2) := by decide +kernel
theorem dX10_spell_25 : decode cX10_spell 25 = .ok (.iastore, 1) := by decide +kernel
theorem dX10_spell_26 : decode cX10_spell 26 = .ok (.aload_n 0, 1) := by decide +kernel
theorem dX10_spell_27 : decode cX10_spell 27 = .ok (.getfield 13, 3) := by decide +kernel
theorem dX10_spell_30 : decode cX10_spell 30 = .ok (.iload_n 1, 1) := by decide +kernel
theorem dX10_spell_31 : decode cX10_spell 31 = .ok (.iconst 3, 1) := by decide +kernel
theorem dX10_spell_32 : decode cX10_spell 32 = .ok (.iadd, 1) := by decide +kernel
theorem dX10_spell_33 : decode cX10_spell 33 = .ok (.iload 5, 2) := by decide +kernel
theorem dX10_spell_35 : decode cX10_spell 35 = .ok (.iastore, 1) := by decide +kernel
theorem dX10_spell_36 : decode cX10_spell 36 = .ok (.aload_n 0, 1) := by decide +kernel
theorem dX10_spell_37 : decode cX10_spell 37 = .ok (.getfield 13, 3) := by decide +kernel
theorem dX10_spell_40 : decode cX10_spell 40 = .ok (.iload_n 1, 1) := by decide +kernel
theorem dX10_spell_41 : decode cX10_spell 41 = .ok (.iconst 4, 1) := by decide +kernel
theorem dX10_spell_42 : decode cX10_spell 42 = .ok (.iadd, 1) := by decide +kernel
theorem dX10_spell_43 : decode cX10_spell 43 = .ok (.iload 6, 2) := by decide +kernel
theorem dX10_spell_45 : decode cX10_spell 45 = .ok (.iastore, 1) := by decide +kernel
theorem dX10_spell_46 : decode cX10_spell 46 = .ok (.aload_n 0, 1) := by decide +kernel
theorem dX10_spell_47 : decode cX10_spell 47 = .ok (.getfield 13, 3) := by decide +kernel
theorem dX10_spell_50 : decode cX10_spell 50 = .ok (.iload_n 1, 1) := by decide +kernel
theorem dX10_spell_51 : decode cX10_spell 51 = .ok (.iconst 5, 1) := by decide +kernel
theorem dX10_spell_52 : decode cX10_spell 52 = .ok (.iadd, 1) := by decide +kernel
theorem dX10_spell_53 : decode cX10_spell 53 = .ok (.iload 7, 2) := by decide +kernel
theorem dX10_spell_55 : decode cX10_spell 55 = .ok (.iastore, 1) := by decide +kernel
theorem dX10_spell_56 : decode cX10_spell 56 = .ok (.aload_n 0, 1) := by decide +kernel
theorem dX10_spell_57 : decode cX10_spell 57 = .ok (.getfield 13, 3) := by decide +kernel
theorem dX10_spell_60 : decode cX10_spell 60 = .ok (.iload_n 1, 1) := by decide +kernel
theorem dX10_spell_61 : decode cX10_spell 61 = .ok (.bipush 6, 2) := by decide +kernel
theorem dX10_spell_63 : decode cX10_spell 63 = .ok (.iadd, 1) := by decide +kernel
theorem dX10_spell_64 : decode cX10_spell 64 = .ok (.iload 8, 2) := by decide +kernel
theorem dX10_spell_66 : decode cX10_spell 66 = .ok (.iastore, 1) := by decide +kernel
theorem dX10_spell_67 : decode cX10_spell 67 = .ok (.aload_n 0, 1) := by decide +kernel
theorem dX10_spell_68 : decode cX10_spell 68 = .ok (.getfield 13, 3) := by decide +kernel
theorem dX10_spell_71 : decode cX10_spell 71 = .ok (.iload_n 1, 1) := by decide +kernel
theorem dX10_spell_72 : decode cX10_spell 72 = .ok (.bipush 7, 2) := by decide +kernel
theorem dX10_spell_74 : decode cX10_spell 74 = .ok (.iadd, 1) := by decide +kernel
theorem dX10_spell_75 : decode cX10_spell 75 = .ok (.iload 9, 2) := by decide +kernel
theorem dX10_spell_77 : decode cX10_spell 77 = .ok (.iastore, 1) := by decide +kernel
theorem dX10_spell_78 : decode cX10_spell 78 = .ok (.return_, 1) := by decide +kernel
theorem dX10_isOne_0 : decode cX10_isOne 0 = .ok (.iload_n 1, 1) := by decide +kernel
theorem dX10_isOne_1 : decode cX10_isOne 1 = .ok (.i2l, 1) := by decide +kernel
theorem dX10_isOne_2 : decode cX10_isOne 2 = .ok (.lconst 0, 1) := by decide +kernel
theorem dX10_isOne_3 : decode cX10_isOne 3 = .ok (.aload_n 0, 1) := by decide +kernel
theorem dX10_isOne_4 : decode cX10_isOne 4 = .ok (.getfield 76, 3) := by decide +kernel
theorem dX10_isOne_7 : decode cX10_isOne 7 = .ok (.iconst 1, 1) := by decide +kernel
theorem dX10_isOne_8 : decode cX10_isOne 8 = .ok (.isub, 1) := by decide +kernel
theorem dX10_isOne_9 : decode cX10_isOne 9 = .ok (.i2l, 1) := by decide +kernel
theorem dX10_isOne_10 : decode cX10_isOne 10 = .ok (.invokestatic 79, 3) := by decide +kernel
theorem dX10_isOne_13 : decode cX10_isOne 13 = .ok (.ireturn, 1) := by decide +kernel
theorem dX10_mostOf_0 : decode cX10_mostOf 0 = .ok (.iload_n 0, 1) := by decide +kernel
theorem dX10_mostOf_1 : decode cX10_mostOf 1 = .ok (.ifCond .ne 9, 3) := by decide +kernel
theorem dX10_mostOf_4 : decode cX10_mostOf 4 = .ok (.sipush 999, 3) := by decide +kernel
theorem dX10_mostOf_7 : decode cX10_mostOf 7 = .ok (.goto 25, 3) := by decide +kernel
theorem dX10_mostOf_10 : decode cX10_mostOf 10 = .ok (.iload_n 0, 1) := by decide +kernel
theorem dX10_mostOf_11 : decode cX10_mostOf 11 = .ok (.iconst 2, 1) := by decide +kernel
theorem dX10_mostOf_12 : decode cX10_mostOf 12 = .ok (.if_icmp .ne 8, 3) := by decide +kernel
theorem dX10_mostOf_15 : decode cX10_mostOf 15 = .ok (.bipush 9, 2) := by decide +kernel
theorem dX10_mostOf_17 : decode cX10_mostOf 17 = .ok (.goto 15, 3) := by decide +kernel
theorem dX10_mostOf_20 : decode cX10_mostOf 20 = .ok (.iload_n 0, 1) := by decide +kernel
theorem dX10_mostOf_21 : decode cX10_mostOf 21 = .ok (.iconst 3, 1) := by decide +kernel
theorem dX10_mostOf_22 : decode cX10_mostOf 22 = .ok (.if_icmp .ne 8, 3) := by decide +kernel
theorem dX10_mostOf_25 : decode cX10_mostOf 25 = .ok (.bipush 15, 2) := by decide +kernel
theorem dX10_mostOf_27 : decode cX10_mostOf 27 = .ok (.goto 5, 3) := by decide +kernel
theorem dX10_mostOf_30 : decode cX10_mostOf 30 = .ok (.bipush 99, 2) := by decide +kernel
theorem dX10_mostOf_32 : decode cX10_mostOf 32 = .ok (.ireturn, 1) := by decide +kernel
theorem dX10_set_0 : decode cX10_set 0 = .ok (.iload_n 1, 1) := by decide +kernel
theorem dX10_set_1 : decode cX10_set 1 = .ok (.i2l, 1) := by decide +kernel
theorem dX10_set_2 : decode cX10_set 2 = .ok (.lconst 0, 1) := by decide +kernel
theorem dX10_set_3 : decode cX10_set 3 = .ok (.ldc2_w 83, 3) := by decide +kernel
theorem dX10_set_6 : decode cX10_set 6 = .ok (.invokestatic 79, 3) := by decide +kernel
theorem dX10_set_9 : decode cX10_set 9 = .ok (.ifCond .eq 30, 3) := by decide +kernel
theorem dX10_set_12 : decode cX10_set 12 = .ok (.iload_n 1, 1) := by decide +kernel
theorem dX10_set_13 : decode cX10_set 13 = .ok (.iconst 1, 1) := by decide +kernel
theorem dX10_set_14 : decode cX10_set 14 = .ok (.if_icmp .le 11, 3) := by decide +kernel
theorem dX10_set_17 : decode cX10_set 17 = .ok (.aload_n 0, 1) := by decide +kernel
theorem dX10_set_18 : decode cX10_set 18 = .ok (.iload_n 2, 1) := by decide +kernel
theorem dX10_set_19 : decode cX10_set 19 = .ok (.invokevirtual 85, 3) := by decide +kernel
theorem dX10_set_22 : decode cX10_set 22 = .ok (.ifCond .eq 17, 3) := by decide +kernel
theorem dX10_set_25 : decode cX10_set 25 = .ok (.iload_n 3, 1) := by decide +kernel
theorem dX10_set_26 : decode cX10_set 26 = .ok (.i2l, 1) := by decide +kernel
theorem dX10_set_27 : decode cX10_set 27 = .ok (.lconst 0, 1) := by decide +kernel
theorem dX10_set_28 : decode cX10_set 28 = .ok (.iload_n 1, 1) := by decide +kernel
theorem dX10_set_29 : decode cX10_set 29 = .ok (.invokestatic 89, 3) := by decide +kernel
theorem dX10_set_32 : decode cX10_set 32 = .ok (.i2l, 1) := by decide +kernel
theorem dX10_set_33 : decode cX10_set 33 = .ok (.invokestatic 79, 3) := by decide +kernel
theorem dX10_set_36 : decode cX10_set 36 = .ok (.ifCond .ne 6, 3) := by decide +kernel
theorem dX10_set_39 : decode cX10_set 39 = .ok (.bipush (-2), 2) := by decide +kernel
theorem dX10_set_41 : decode cX10_set 41 = .ok (.ireturn, 1) := by decide +kernel
theorem dX10_set_42 : decode cX10_set 42 = .ok (.aload_n 0, 1) := by decide +kernel
theorem dX10_set_43 : decode cX10_set 43 = .ok (.iload_n 2, 1) := by decide +kernel
theorem dX10_set_44 : decode cX10_set 44 = .ok (.iload_n 1, 1) := by decide +kernel
theorem dX10_set_45 : decode cX10_set 45 = .ok (.invokevirtual 93, 3) := by decide +kernel
theorem dX10_set_48 : decode cX10_set 48 = .ok (.istore 4, 2) := by decide +kernel
theorem dX10_set_50 : decode cX10_set 50 = .ok (.aload_n 0, 1) := by decide +kernel
theorem dX10_set_51 : decode cX10_set 51 = .ok (.iload_n 1, 1) := by decide +kernel
theorem dX10_set_52 : decode cX10_set 52 = .ok (.iload_n 2, 1) := by decide +kernel
theorem dX10_set_53 : decode cX10_set 53 = .ok (.iload_n 3, 1) := by decide +kernel
theorem dX10_set_54 : decode cX10_set 54 = .ok (.invokevirtual 97, 3) := by decide +kernel
theorem dX10_set_57 : decode cX10_set 57 = .ok (.iload 4, 2) := by decide +kernel
theorem dX10_set_59 : decode cX10_set 59 = .ok (.ireturn, 1) := by decide +kernel
theorem dX10_lays_0 : decode cX10_lays 0 = .ok (.iload_n 1, 1) := by decide +kernel
theorem dX10_lays_1 : decode cX10_lays 1 = .ok (.ifCond .ne 11, 3) := by decide +kernel
theorem dX10_lays_4 : decode cX10_lays 4 = .ok (.aload_n 0, 1) := by decide +kernel
theorem dX10_lays_5 : decode cX10_lays 5 = .ok (.iload_n 3, 1) := by decide +kernel
theorem dX10_lays_6 : decode cX10_lays 6 = .ok (.putfield 101, 3) := by decide +kernel
theorem dX10_lays_9 : decode cX10_lays 9 = .ok (.goto 57, 3) := by decide +kernel
theorem dX10_lays_12 : decode cX10_lays 12 = .ok (.iload_n 1, 1) := by decide +kernel
theorem dX10_lays_13 : decode cX10_lays 13 = .ok (.iconst 1, 1) := by decide +kernel
theorem dX10_lays_14 : decode cX10_lays 14 = .ok (.if_icmp .ne 11, 3) := by decide +kernel
theorem dX10_lays_17 : decode cX10_lays 17 = .ok (.aload_n 0, 1) := by decide +kernel
theorem dX10_lays_18 : decode cX10_lays 18 = .ok (.iload_n 3, 1) := by decide +kernel
theorem dX10_lays_19 : decode cX10_lays 19 = .ok (.putfield 23, 3) := by decide +kernel
theorem dX10_lays_22 : decode cX10_lays 22 = .ok (.goto 44, 3) := by decide +kernel
theorem dX10_lays_25 : decode cX10_lays 25 = .ok (.iload_n 1, 1) := by decide +kernel
theorem dX10_lays_26 : decode cX10_lays 26 = .ok (.iconst 5, 1) := by decide +kernel
theorem dX10_lays_27 : decode cX10_lays 27 = .ok (.if_icmp .ge 19, 3) := by decide +kernel
theorem dX10_lays_30 : decode cX10_lays 30 = .ok (.aload_n 0, 1) := by decide +kernel
theorem dX10_lays_31 : decode cX10_lays 31 = .ok (.getfield 29, 3) := by decide +kernel
theorem dX10_lays_34 : decode cX10_lays 34 = .ok (.iconst 3, 1) := by decide +kernel
theorem dX10_lays_35 : decode cX10_lays 35 = .ok (.iload_n 2, 1) := by decide +kernel
theorem dX10_lays_36 : decode cX10_lays 36 = .ok (.imul, 1) := by decide +kernel
theorem dX10_lays_37 : decode cX10_lays 37 = .ok (.iload_n 1, 1) := by decide +kernel
theorem dX10_lays_38 : decode cX10_lays 38 = .ok (.iadd, 1) := by decide +kernel
theorem dX10_lays_39 : decode cX10_lays 39 = .ok (.iconst 2, 1) := by decide +kernel
theorem dX10_lays_40 : decode cX10_lays 40 = .ok (.isub, 1) := by decide +kernel
theorem dX10_lays_41 : decode cX10_lays 41 = .ok (.iload_n 3, 1) := by decide +kernel
theorem dX10_lays_42 : decode cX10_lays 42 = .ok (.iastore, 1) := by decide +kernel
theorem dX10_lays_43 : decode cX10_lays 43 = .ok (.goto 23, 3) := by decide +kernel
theorem dX10_lays_46 : decode cX10_lays 46 = .ok (.iload_n 1, 1) := by decide +kernel
theorem dX10_lays_47 : decode cX10_lays 47 = .ok (.iconst 5, 1) := by decide +kernel
theorem dX10_lays_48 : decode cX10_lays 48 = .ok (.if_icmp .ne 13, 3) := by decide +kernel
theorem dX10_lays_51 : decode cX10_lays 51 = .ok (.aload_n 0, 1) := by decide +kernel
theorem dX10_lays_52 : decode cX10_lays 52 = .ok (.getfield 26, 3) := by decide +kernel
theorem dX10_lays_55 : decode cX10_lays 55 = .ok (.iload_n 2, 1) := by decide +kernel
theorem dX10_lays_56 : decode cX10_lays 56 = .ok (.iload_n 3, 1) := by decide +kernel
theorem dX10_lays_57 : decode cX10_lays 57 = .ok (.iastore, 1) := by decide +kernel
theorem dX10_lays_58 : decode cX10_lays 58 = .ok (.goto 8, 3) := by decide +kernel
theorem dX10_lays_61 : decode cX10_lays 61 = .ok (.aload_n 0, 1) := by decide +kernel
theorem dX10_lays_62 : decode cX10_lays 62 = .ok (.iload_n 3, 1) := by decide +kernel
theorem dX10_lays_63 : decode cX10_lays 63 = .ok (.putfield 104, 3) := by decide +kernel
theorem dX10_lays_66 : decode cX10_lays 66 = .ok (.return_, 1) := by decide +kernel
theorem dX10_groom_0 : decode cX10_groom 0 = .ok (.iload_n 1, 1) := by decide +kernel
theorem dX10_groom_1 : decode cX10_groom 1 = .ok (.i2l, 1) := by decide +kernel
theorem dX10_groom_2 : decode cX10_groom 2 = .ok (.lconst 0, 1) := by decide +kernel
theorem dX10_groom_3 : decode cX10_groom 3 = .ok (.ldc2_w 107, 3) := by decide +kernel
theorem dX10_groom_6 : decode cX10_groom 6 = .ok (.invokestatic 79, 3) := by decide +kernel
theorem dX10_groom_9 : decode cX10_groom 9 = .ok (.ifCond .eq 27, 3) := by decide +kernel
theorem dX10_groom_12 : decode cX10_groom 12 = .ok (.iload_n 2, 1) := by decide +kernel
theorem dX10_groom_13 : decode cX10_groom 13 = .ok (.i2l, 1) := by decide +kernel
theorem dX10_groom_14 : decode cX10_groom 14 = .ok (.lconst 0, 1) := by decide +kernel
theorem dX10_groom_15 : decode cX10_groom 15 = .ok (.ldc2_w 109, 3) := by decide +kernel
theorem dX10_groom_18 : decode cX10_groom 18 = .ok (.invokestatic 79, 3) := by decide +kernel
theorem dX10_groom_21 : decode cX10_groom 21 = .ok (.ifCond .eq 15, 3) := by decide +kernel
theorem dX10_groom_24 : decode cX10_groom 24 = .ok (.iload_n 3, 1) := by decide +kernel
theorem dX10_groom_25 : decode cX10_groom 25 = .ok (.i2l, 1) := by decide +kernel
theorem dX10_groom_26 : decode cX10_groom 26 = .ok (.lconst 0, 1) := by decide +kernel
theorem dX10_groom_27 : decode cX10_groom 27 = .ok (.ldc2_w 111, 3) := by decide +kernel
theorem dX10_groom_30 : decode cX10_groom 30 = .ok (.invokestatic 79, 3) := by decide +kernel
theorem dX10_groom_33 : decode cX10_groom 33 = .ok (.ifCond .ne 6, 3) := by decide +kernel
theorem dX10_groom_36 : decode cX10_groom 36 = .ok (.bipush (-2), 2) := by decide +kernel
theorem dX10_groom_38 : decode cX10_groom 38 = .ok (.ireturn, 1) := by decide +kernel
theorem dX10_groom_39 : decode cX10_groom 39 = .ok (.aload_n 0, 1) := by decide +kernel
theorem dX10_groom_40 : decode cX10_groom 40 = .ok (.getfield 76, 3) := by decide +kernel
theorem dX10_groom_43 : decode cX10_groom 43 = .ok (.bipush 6, 2) := by decide +kernel
theorem dX10_groom_45 : decode cX10_groom 45 = .ok (.if_icmp .ne 6, 3) := by decide +kernel
theorem dX10_groom_48 : decode cX10_groom 48 = .ok (.bipush (-4), 2) := by decide +kernel
theorem dX10_groom_50 : decode cX10_groom 50 = .ok (.ireturn, 1) := by decide +kernel
theorem dX10_groom_51 : decode cX10_groom 51 = .ok (.aload_n 0, 1) := by decide +kernel
theorem dX10_groom_52 : decode cX10_groom 52 = .ok (.getfield 26, 3) := by decide +kernel
theorem dX10_groom_55 : decode cX10_groom 55 = .ok (.aload_n 0, 1) := by decide +kernel
theorem dX10_groom_56 : decode cX10_groom 56 = .ok (.getfield 76, 3) := by decide +kernel
theorem dX10_groom_59 : decode cX10_groom 59 = .ok (.iload_n 1, 1) := by decide +kernel
theorem dX10_groom_60 : decode cX10_groom 60 = .ok (.iastore, 1) := by decide +kernel
theorem dX10_groom_61 : decode cX10_groom 61 = .ok (.aload_n 0, 1) := by decide +kernel
theorem dX10_groom_62 : decode cX10_groom 62 = .ok (.getfield 29, 3) := by decide +kernel
theorem dX10_groom_65 : decode cX10_groom 65 = .ok (.iconst 3, 1) := by decide +kernel
theorem dX10_groom_66 : decode cX10_groom 66 = .ok (.aload_n 0, 1) := by decide +kernel
theorem dX10_groom_67 : decode cX10_groom 67 = .ok (.getfield 76, 3) := by decide +kernel
theorem dX10_groom_70 : decode cX10_groom 70 = .ok (.imul, 1) := by decide +kernel
theorem dX10_groom_71 : decode cX10_groom 71 = .ok (.iload_n 2, 1) := by decide +kernel
theorem dX10_groom_72 : decode cX10_groom 72 = .ok (.iastore, 1) := by decide +kernel
theorem dX10_groom_73 : decode cX10_groom 73 = .ok (.aload_n 0, 1) := by decide +kernel
theorem dX10_groom_74 : decode cX10_groom 74 = .ok (.getfield 29, 3) := by decide +kernel
theorem dX10_groom_77 : decode cX10_groom 77 = .ok (.iconst 3, 1) := by decide +kernel
theorem dX10_groom_78 : decode cX10_groom 78 = .ok (.aload_n 0, 1) := by decide +kernel
theorem dX10_groom_79 : decode cX10_groom 79 = .ok (.getfield 76, 3) := by decide +kernel
theorem dX10_groom_82 : decode cX10_groom 82 = .ok (.imul, 1) := by decide +kernel
theorem dX10_groom_83 : decode cX10_groom 83 = .ok (.iconst 1, 1) := by decide +kernel
theorem dX10_groom_84 : decode cX10_groom 84 = .ok (.iadd, 1) := by decide +kernel
theorem dX10_groom_85 : decode cX10_groom 85 = .ok (.iload_n 3, 1) := by decide +kernel
theorem dX10_groom_86 : decode cX10_groom 86 = .ok (.iastore, 1) := by decide +kernel
theorem dX10_groom_87 : decode cX10_groom 87 = .ok (.aload_n 0, 1) := by decide +kernel
theorem dX10_groom_88 : decode cX10_groom 88 = .ok (.getfield 29, 3) := by decide +kernel
theorem dX10_groom_91 : decode cX10_groom 91 = .ok (.iconst 3, 1) := by decide +kernel
theorem dX10_groom_92 : decode cX10_groom 92 = .ok (.aload_n 0, 1) := by decide +kernel
theorem dX10_groom_93 : decode cX10_groom 93 = .ok (.getfield 76, 3) := by decide +kernel
theorem dX10_groom_96 : decode cX10_groom 96 = .ok (.imul, 1) := by decide +kernel
theorem dX10_groom_97 : decode cX10_groom 97 = .ok (.iconst 2, 1) := by decide +kernel
theorem dX10_groom_98 : decode cX10_groom 98 = .ok (.iadd, 1) := by decide +kernel
theorem dX10_groom_99 : decode cX10_groom 99 = .ok (.bipush 20, 2) := by decide +kernel
theorem dX10_groom_101 : decode cX10_groom 101 = .ok (.iastore, 1) := by decide +kernel
theorem dX10_groom_102 : decode cX10_groom 102 = .ok (.aload_n 0, 1) := by decide +kernel
theorem dX10_groom_103 : decode cX10_groom 103 = .ok (.getfield 32, 3) := by decide +kernel
theorem dX10_groom_106 : decode cX10_groom 106 = .ok (.aload_n 0, 1) := by decide +kernel
theorem dX10_groom_107 : decode cX10_groom 107 = .ok (.getfield 76, 3) := by decide +kernel
theorem dX10_groom_110 : decode cX10_groom 110 = .ok (.aload_n 0, 1) := by decide +kernel
theorem dX10_groom_111 : decode cX10_groom 111 = .ok (.getfield 76, 3) := by decide +kernel
theorem dX10_groom_114 : decode cX10_groom 114 = .ok (.iastore, 1) := by decide +kernel
theorem dX10_groom_115 : decode cX10_groom 115 = .ok (.aload_n 0, 1) := by decide +kernel
theorem dX10_groom_116 : decode cX10_groom 116 = .ok (.dup, 1) := by decide +kernel
theorem dX10_groom_117 : decode cX10_groom 117 = .ok (.getfield 76, 3) := by decide +kernel
theorem dX10_groom_120 : decode cX10_groom 120 = .ok (.iconst 1, 1) := by decide +kernel
theorem dX10_groom_121 : decode cX10_groom 121 = .ok (.iadd, 1) := by decide +kernel
theorem dX10_groom_122 : decode cX10_groom 122 = .ok (.putfield 76, 3) := by decide +kernel
theorem dX10_groom_125 : decode cX10_groom 125 = .ok (.aload_n 0, 1) := by decide +kernel
theorem dX10_groom_126 : decode cX10_groom 126 = .ok (.getfield 76, 3) := by decide +kernel
theorem dX10_groom_129 : decode cX10_groom 129 = .ok (.iconst 1, 1) := by decide +kernel
theorem dX10_groom_130 : decode cX10_groom 130 = .ok (.isub, 1) := by decide +kernel
theorem dX10_groom_131 : decode cX10_groom 131 = .ok (.ireturn, 1) := by decide +kernel
theorem dX10_swaps_0 : decode cX10_swaps 0 = .ok (.aload_n 0, 1) := by decide +kernel
theorem dX10_swaps_1 : decode cX10_swaps 1 = .ok (.getfield 32, 3) := by decide +kernel
theorem dX10_swaps_4 : decode cX10_swaps 4 = .ok (.iload_n 1, 1) := by decide +kernel
theorem dX10_swaps_5 : decode cX10_swaps 5 = .ok (.iaload, 1) := by decide +kernel
theorem dX10_swaps_6 : decode cX10_swaps 6 = .ok (.istore_n 3, 1) := by decide +kernel
theorem dX10_swaps_7 : decode cX10_swaps 7 = .ok (.aload_n 0, 1) := by decide +kernel
theorem dX10_swaps_8 : decode cX10_swaps 8 = .ok (.getfield 32, 3) := by decide +kernel
theorem dX10_swaps_11 : decode cX10_swaps 11 = .ok (.iload_n 1, 1) := by decide +kernel
theorem dX10_swaps_12 : decode cX10_swaps 12 = .ok (.aload_n 0, 1) := by decide +kernel
theorem dX10_swaps_13 : decode cX10_swaps 13 = .ok (.getfield 32, 3) := by decide +kernel
theorem dX10_swaps_16 : decode cX10_swaps 16 = .ok (.iload_n 2, 1) := by decide +kernel
theorem dX10_swaps_17 : decode cX10_swaps 17 = .ok (.iaload, 1) := by decide +kernel
theorem dX10_swaps_18 : decode cX10_swaps 18 = .ok (.iastore, 1) := by decide +kernel
theorem dX10_swaps_19 : decode cX10_swaps 19 = .ok (.aload_n 0, 1) := by decide +kernel
theorem dX10_swaps_20 : decode cX10_swaps 20 = .ok (.getfield 32, 3) := by decide +kernel
theorem dX10_swaps_23 : decode cX10_swaps 23 = .ok (.iload_n 2, 1) := by decide +kernel
theorem dX10_swaps_24 : decode cX10_swaps 24 = .ok (.iload_n 3, 1) := by decide +kernel
theorem dX10_swaps_25 : decode cX10_swaps 25 = .ok (.iastore, 1) := by decide +kernel
theorem dX10_swaps_26 : decode cX10_swaps 26 = .ok (.return_, 1) := by decide +kernel
theorem dX10_change_0 : decode cX10_change 0 = .ok (.aload_n 0, 1) := by decide +kernel
theorem dX10_change_1 : decode cX10_change 1 = .ok (.iload_n 1, 1) := by decide +kernel
theorem dX10_change_2 : decode cX10_change 2 = .ok (.invokevirtual 85, 3) := by decide +kernel
theorem dX10_change_5 : decode cX10_change 5 = .ok (.ifCond .eq 16, 3) := by decide +kernel
theorem dX10_change_8 : decode cX10_change 8 = .ok (.aload_n 0, 1) := by decide +kernel
theorem dX10_change_9 : decode cX10_change 9 = .ok (.iload_n 2, 1) := by decide +kernel
theorem dX10_change_10 : decode cX10_change 10 = .ok (.invokevirtual 85, 3) := by decide +kernel
theorem dX10_change_13 : decode cX10_change 13 = .ok (.ifCond .eq 8, 3) := by decide +kernel
theorem dX10_change_16 : decode cX10_change 16 = .ok (.iload_n 1, 1) := by decide +kernel
theorem dX10_change_17 : decode cX10_change 17 = .ok (.iload_n 2, 1) := by decide +kernel
theorem dX10_change_18 : decode cX10_change 18 = .ok (.if_icmp .ne 6, 3) := by decide +kernel
theorem dX10_change_21 : decode cX10_change 21 = .ok (.bipush (-2), 2) := by decide +kernel
theorem dX10_change_23 : decode cX10_change 23 = .ok (.ireturn, 1) := by decide +kernel
theorem dX10_change_24 : decode cX10_change 24 = .ok (.aload_n 0, 1) := by decide +kernel
theorem dX10_change_25 : decode cX10_change 25 = .ok (.iload_n 1, 1) := by decide +kernel
theorem dX10_change_26 : decode cX10_change 26 = .ok (.iload_n 2, 1) := by decide +kernel
theorem dX10_change_27 : decode cX10_change 27 = .ok (.invokevirtual 113, 3) := by decide +kernel
theorem dX10_change_30 : decode cX10_change 30 = .ok (.aload_n 0, 1) := by decide +kernel
theorem dX10_change_31 : decode cX10_change 31 = .ok (.getfield 32, 3) := by decide +kernel
theorem dX10_change_34 : decode cX10_change 34 = .ok (.iload_n 1, 1) := by decide +kernel
theorem dX10_change_35 : decode cX10_change 35 = .ok (.iaload, 1) := by decide +kernel
theorem dX10_change_36 : decode cX10_change 36 = .ok (.ireturn, 1) := by decide +kernel
theorem dX10_told_0 : decode cX10_told 0 = .ok (.iload_n 2, 1) := by decide +kernel
theorem dX10_told_1 : decode cX10_told 1 = .ok (.i2l, 1) := by decide +kernel
theorem dX10_told_2 : decode cX10_told 2 = .ok (.lconst 0, 1) := by decide +kernel
theorem dX10_told_3 : decode cX10_told 3 = .ok (.ldc2_w 117, 3) := by decide +kernel
theorem dX10_told_6 : decode cX10_told 6 = .ok (.invokestatic 79, 3) := by decide +kernel
theorem dX10_told_9 : decode cX10_told 9 = .ok (.ifCond .eq 16, 3) := by decide +kernel
theorem dX10_told_12 : decode cX10_told 12 = .ok (.iload_n 2, 1) := by decide +kernel
theorem dX10_told_13 : decode cX10_told 13 = .ok (.iconst 1, 1) := by decide +kernel
theorem dX10_told_14 : decode cX10_told 14 = .ok (.if_icmp .le 14, 3) := by decide +kernel
theorem dX10_told_17 : decode cX10_told 17 = .ok (.aload_n 0, 1) := by decide +kernel
theorem dX10_told_18 : decode cX10_told 18 = .ok (.iload_n 1, 1) := by decide +kernel
theorem dX10_told_19 : decode cX10_told 19 = .ok (.invokevirtual 85, 3) := by decide +kernel
theorem dX10_told_22 : decode cX10_told 22 = .ok (.ifCond .ne 6, 3) := by decide +kernel
theorem dX10_told_25 : decode cX10_told 25 = .ok (.bipush (-2), 2) := by decide +kernel
theorem dX10_told_27 : decode cX10_told 27 = .ok (.ireturn, 1) := by decide +kernel
theorem dX10_told_28 : decode cX10_told 28 = .ok (.iload_n 2, 1) := by decide +kernel
theorem dX10_told_29 : decode cX10_told 29 = .ok (.iconst 5, 1) := by decide +kernel
theorem dX10_told_30 : decode cX10_told 30 = .ok (.if_icmp .ge 39, 3) := by decide +kernel
theorem dX10_told_33 : decode cX10_told 33 = .ok (.iload_n 2, 1) := by decide +kernel
theorem dX10_told_34 : decode cX10_told 34 = .ok (.ifCond .ne 10, 3) := by decide +kernel
theorem dX10_told_37 : decode cX10_told 37 = .ok (.aload_n 0, 1) := by decide +kernel
theorem dX10_told_38 : decode cX10_told 38 = .ok (.getfield 101, 3) := by decide +kernel
theorem dX10_told_41 : decode cX10_told 41 = .ok (.goto 27, 3) := by decide +kernel
theorem dX10_told_44 : decode cX10_told 44 = .ok (.iload_n 2, 1) := by decide +kernel
theorem dX10_told_45 : decode cX10_told 45 = .ok (.iconst 1, 1) := by decide +kernel
theorem dX10_told_46 : decode cX10_told 46 = .ok (.if_icmp .ne 10, 3) := by decide +kernel
theorem dX10_told_49 : decode cX10_told 49 = .ok (.aload_n 0, 1) := by decide +kernel
theorem dX10_told_50 : decode cX10_told 50 = .ok (.getfield 23, 3) := by decide +kernel
theorem dX10_told_53 : decode cX10_told 53 = .ok (.goto 15, 3) := by decide +kernel
theorem dX10_told_56 : decode cX10_told 56 = .ok (.aload_n 0, 1) := by decide +kernel
theorem dX10_told_57 : decode cX10_told 57 = .ok (.getfield 29, 3) := by decide +kernel
theorem dX10_told_60 : decode cX10_told 60 = .ok (.iconst 3, 1) := by decide +kernel
theorem dX10_told_61 : decode cX10_told 61 = .ok (.iload_n 1, 1) := by decide +kernel
theorem dX10_told_62 : decode cX10_told 62 = .ok (.imul, 1) := by decide +kernel
theorem dX10_told_63 : decode cX10_told 63 = .ok (.iload_n 2, 1) := by decide +kernel
theorem dX10_told_64 : decode cX10_told 64 = .ok (.iadd, 1) := by decide +kernel
theorem dX10_told_65 : decode cX10_told 65 = .ok (.iconst 2, 1) := by decide +kernel
theorem dX10_told_66 : decode cX10_told 66 = .ok (.isub, 1) := by decide +kernel
theorem dX10_told_67 : decode cX10_told 67 = .ok (.iaload, 1) := by decide +kernel
theorem dX10_told_68 : decode cX10_told 68 = .ok (.ireturn, 1) := by decide +kernel
theorem dX10_told_69 : decode cX10_told 69 = .ok (.iload_n 2, 1) := by decide +kernel
theorem dX10_told_70 : decode cX10_told 70 = .ok (.bipush 8, 2) := by decide +kernel
theorem dX10_told_72 : decode cX10_told 72 = .ok (.if_icmp .ge 43, 3) := by decide +kernel
theorem dX10_told_75 : decode cX10_told 75 = .ok (.iload_n 2, 1) := by decide +kernel
theorem dX10_told_76 : decode cX10_told 76 = .ok (.iconst 5, 1) := by decide +kernel
theorem dX10_told_77 : decode cX10_told 77 = .ok (.if_icmp .ne 12, 3) := by decide +kernel
theorem dX10_told_80 : decode cX10_told 80 = .ok (.aload_n 0, 1) := by decide +kernel
theorem dX10_told_81 : decode cX10_told 81 = .ok (.getfield 26, 3) := by decide +kernel
theorem dX10_told_84 : decode cX10_told 84 = .ok (.iload_n 1, 1) := by decide +kernel
theorem dX10_told_85 : decode cX10_told 85 = .ok (.iaload, 1) := by decide +kernel
theorem dX10_told_86 : decode cX10_told 86 = .ok (.goto 28, 3) := by decide +kernel
theorem dX10_told_89 : decode cX10_told 89 = .ok (.iload_n 2, 1) := by decide +kernel
theorem dX10_told_90 : decode cX10_told 90 = .ok (.bipush 6, 2) := by decide +kernel
theorem dX10_told_92 : decode cX10_told 92 = .ok (.if_icmp .ne 12, 3) := by decide +kernel
theorem dX10_told_95 : decode cX10_told 95 = .ok (.aload_n 0, 1) := by decide +kernel
theorem dX10_told_96 : decode cX10_told 96 = .ok (.getfield 32, 3) := by decide +kernel
theorem dX10_told_99 : decode cX10_told 99 = .ok (.iload_n 1, 1) := by decide +kernel
theorem dX10_told_100 : decode cX10_told 100 = .ok (.iaload, 1) := by decide +kernel
theorem dX10_told_101 : decode cX10_told 101 = .ok (.goto 13, 3) := by decide +kernel
theorem dX10_told_104 : decode cX10_told 104 = .ok (.aload_n 0, 1) := by decide +kernel
theorem dX10_told_105 : decode cX10_told 105 = .ok (.aload_n 0, 1) := by decide +kernel
theorem dX10_told_106 : decode cX10_told 106 = .ok (.getfield 32, 3) := by decide +kernel
theorem dX10_told_109 : decode cX10_told 109 = .ok (.iload_n 1, 1) := by decide +kernel
theorem dX10_told_110 : decode cX10_told 110 = .ok (.iaload, 1) := by decide +kernel
theorem dX10_told_111 : decode cX10_told 111 = .ok (.invokevirtual 119, 3) := by decide +kernel
theorem dX10_told_114 : decode cX10_told 114 = .ok (.ireturn, 1) := by decide +kernel
theorem dX10_told_115 : decode cX10_told 115 = .ok (.aload_n 0, 1) := by decide +kernel
theorem dX10_told_116 : decode cX10_told 116 = .ok (.getfield 32, 3) := by decide +kernel
theorem dX10_told_119 : decode cX10_told 119 = .ok (.iload_n 1, 1) := by decide +kernel
theorem dX10_told_120 : decode cX10_told 120 = .ok (.iaload, 1) := by decide +kernel
theorem dX10_told_121 : decode cX10_told 121 = .ok (.istore_n 3, 1) := by decide +kernel
theorem dX10_told_122 : decode cX10_told 122 = .ok (.iload_n 2, 1) := by decide +kernel
theorem dX10_told_123 : decode cX10_told 123 = .ok (.bipush 8, 2) := by decide +kernel
theorem dX10_told_125 : decode cX10_told 125 = .ok (.if_icmp .ne 22, 3) := by decide +kernel
theorem dX10_told_128 : decode cX10_told 128 = .ok (.aload_n 0, 1) := by decide +kernel
theorem dX10_told_129 : decode cX10_told 129 = .ok (.iload_n 1, 1) := by decide +kernel
theorem dX10_told_130 : decode cX10_told 130 = .ok (.iload_n 3, 1) := by decide +kernel
theorem dX10_told_131 : decode cX10_told 131 = .ok (.aload_n 0, 1) := by decide +kernel
theorem dX10_told_132 : decode cX10_told 132 = .ok (.getfield 29, 3) := by decide +kernel
theorem dX10_told_135 : decode cX10_told 135 = .ok (.iconst 3, 1) := by decide +kernel
theorem dX10_told_136 : decode cX10_told 136 = .ok (.iload_n 1, 1) := by decide +kernel
theorem dX10_told_137 : decode cX10_told 137 = .ok (.imul, 1) := by decide +kernel
theorem dX10_told_138 : decode cX10_told 138 = .ok (.iconst 2, 1) := by decide +kernel
theorem dX10_told_139 : decode cX10_told 139 = .ok (.iadd, 1) := by decide +kernel
theorem dX10_told_140 : decode cX10_told 140 = .ok (.iaload, 1) := by decide +kernel
theorem dX10_told_141 : decode cX10_told 141 = .ok (.invokevirtual 122, 3) := by decide +kernel
theorem dX10_told_144 : decode cX10_told 144 = .ok (.goto 34, 3) := by decide +kernel
theorem dX10_told_147 : decode cX10_told 147 = .ok (.iload_n 2, 1) := by decide +kernel
theorem dX10_told_148 : decode cX10_told 148 = .ok (.bipush 9, 2) := by decide +kernel
theorem dX10_told_150 : decode cX10_told 150 = .ok (.if_icmp .ne 22, 3) := by decide +kernel
theorem dX10_told_153 : decode cX10_told 153 = .ok (.aload_n 0, 1) := by decide +kernel
theorem dX10_told_154 : decode cX10_told 154 = .ok (.iload_n 1, 1) := by decide +kernel
theorem dX10_told_155 : decode cX10_told 155 = .ok (.iload_n 3, 1) := by decide +kernel
theorem dX10_told_156 : decode cX10_told 156 = .ok (.aload_n 0, 1) := by decide +kernel
theorem dX10_told_157 : decode cX10_told 157 = .ok (.getfield 29, 3) := by decide +kernel
theorem dX10_told_160 : decode cX10_told 160 = .ok (.iconst 3, 1) := by decide +kernel
theorem dX10_told_161 : decode cX10_told 161 = .ok (.iload_n 1, 1) := by decide +kernel
theorem dX10_told_162 : decode cX10_told 162 = .ok (.imul, 1) := by decide +kernel
theorem dX10_told_163 : decode cX10_told 163 = .ok (.iconst 2, 1) := by decide +kernel
theorem dX10_told_164 : decode cX10_told 164 = .ok (.iadd, 1) := by decide +kernel
theorem dX10_told_165 : decode cX10_told 165 = .ok (.iaload, 1) := by decide +kernel
theorem dX10_told_166 : decode cX10_told 166 = .ok (.invokevirtual 126, 3) := by decide +kernel
theorem dX10_told_169 : decode cX10_told 169 = .ok (.goto 9, 3) := by decide +kernel
theorem dX10_told_172 : decode cX10_told 172 = .ok (.aload_n 0, 1) := by decide +kernel
theorem dX10_told_173 : decode cX10_told 173 = .ok (.iload_n 1, 1) := by decide +kernel
theorem dX10_told_174 : decode cX10_told 174 = .ok (.iload_n 3, 1) := by decide +kernel
theorem dX10_told_175 : decode cX10_told 175 = .ok (.invokevirtual 129, 3) := by decide +kernel
theorem dX10_told_178 : decode cX10_told 178 = .ok (.ireturn, 1) := by decide +kernel
theorem dX10_thingOf_0 : decode cX10_thingOf 0 = .ok (.aload_n 0, 1) := by decide +kernel
theorem dX10_thingOf_1 : decode cX10_thingOf 1 = .ok (.getfield 29, 3) := by decide +kernel
theorem dX10_thingOf_4 : decode cX10_thingOf 4 = .ok (.iconst 3, 1) := by decide +kernel
theorem dX10_thingOf_5 : decode cX10_thingOf 5 = .ok (.iload_n 1, 1) := by decide +kernel
theorem dX10_thingOf_6 : decode cX10_thingOf 6 = .ok (.imul, 1) := by decide +kernel
theorem dX10_thingOf_7 : decode cX10_thingOf 7 = .ok (.iconst 1, 1) := by decide +kernel
theorem dX10_thingOf_8 : decode cX10_thingOf 8 = .ok (.iadd, 1) := by decide +kernel
theorem dX10_thingOf_9 : decode cX10_thingOf 9 = .ok (.iaload, 1) := by decide +kernel
theorem dX10_thingOf_10 : decode cX10_thingOf 10 = .ok (.ireturn, 1) := by decide +kernel
theorem dX10_feed_0 : decode cX10_feed 0 = .ok (.iload_n 1, 1) := by decide +kernel
theorem dX10_feed_1 : decode cX10_feed 1 = .ok (.i2l, 1) := by decide +kernel
theorem dX10_feed_2 : decode cX10_feed 2 = .ok (.lconst 0, 1) := by decide +kernel
theorem dX10_feed_3 : decode cX10_feed 3 = .ok (.ldc2_w 132, 3) := by decide +kernel
theorem dX10_feed_6 : decode cX10_feed 6 = .ok (.invokestatic 79, 3) := by decide +kernel
theorem dX10_feed_9 : decode cX10_feed 9 = .ok (.ifCond .ne 6, 3) := by decide +kernel
theorem dX10_feed_12 : decode cX10_feed 12 = .ok (.bipush (-2), 2) := by decide +kernel
theorem dX10_feed_14 : decode cX10_feed 14 = .ok (.ireturn, 1) := by decide +kernel
theorem dX10_feed_15 : decode cX10_feed 15 = .ok (.aload_n 0, 1) := by decide +kernel
theorem dX10_feed_16 : decode cX10_feed 16 = .ok (.getfield 134, 3) := by decide +kernel
theorem dX10_feed_19 : decode cX10_feed 19 = .ok (.sipush 160, 3) := by decide +kernel
theorem dX10_feed_22 : decode cX10_feed 22 = .ok (.if_icmp .ne 6, 3) := by decide +kernel
theorem dX10_feed_25 : decode cX10_feed 25 = .ok (.bipush (-4), 2) := by decide +kernel
theorem dX10_feed_27 : decode cX10_feed 27 = .ok (.ireturn, 1) := by decide +kernel
theorem dX10_feed_28 : decode cX10_feed 28 = .ok (.aload_n 0, 1) := by decide +kernel
theorem dX10_feed_29 : decode cX10_feed 29 = .ok (.getfield 20, 3) := by decide +kernel
theorem dX10_feed_32 : decode cX10_feed 32 = .ok (.aload_n 0, 1) := by decide +kernel
theorem dX10_feed_33 : decode cX10_feed 33 = .ok (.getfield 134, 3) := by decide +kernel
theorem dX10_feed_36 : decode cX10_feed 36 = .ok (.iload_n 1, 1) := by decide +kernel
theorem dX10_feed_37 : decode cX10_feed 37 = .ok (.iastore, 1) := by decide +kernel
theorem dX10_feed_38 : decode cX10_feed 38 = .ok (.aload_n 0, 1) := by decide +kernel
theorem dX10_feed_39 : decode cX10_feed 39 = .ok (.dup, 1) := by decide +kernel
theorem dX10_feed_40 : decode cX10_feed 40 = .ok (.getfield 134, 3) := by decide +kernel
theorem dX10_feed_43 : decode cX10_feed 43 = .ok (.iconst 1, 1) := by decide +kernel
theorem dX10_feed_44 : decode cX10_feed 44 = .ok (.iadd, 1) := by decide +kernel
theorem dX10_feed_45 : decode cX10_feed 45 = .ok (.putfield 134, 3) := by decide +kernel
theorem dX10_feed_48 : decode cX10_feed 48 = .ok (.aload_n 0, 1) := by decide +kernel
theorem dX10_feed_49 : decode cX10_feed 49 = .ok (.getfield 134, 3) := by decide +kernel
theorem dX10_feed_52 : decode cX10_feed 52 = .ok (.ireturn, 1) := by decide +kernel
theorem dX10_byteAt_0 : decode cX10_byteAt 0 = .ok (.iload_n 1, 1) := by decide +kernel
theorem dX10_byteAt_1 : decode cX10_byteAt 1 = .ok (.aload_n 0, 1) := by decide +kernel
theorem dX10_byteAt_2 : decode cX10_byteAt 2 = .ok (.getfield 137, 3) := by decide +kernel
theorem dX10_byteAt_5 : decode cX10_byteAt 5 = .ok (.if_icmp .ge 17, 3) := by decide +kernel
theorem dX10_byteAt_8 : decode cX10_byteAt 8 = .ok (.aload_n 0, 1) := by decide +kernel
theorem dX10_byteAt_9 : decode cX10_byteAt 9 = .ok (.getfield 13, 3) := by decide +kernel
theorem dX10_byteAt_12 : decode cX10_byteAt 12 = .ok (.aload_n 0, 1) := by decide +kernel
theorem dX10_byteAt_13 : decode cX10_byteAt 13 = .ok (.getfield 140, 3) := by decide +kernel
theorem dX10_byteAt_16 : decode cX10_byteAt 16 = .ok (.iload_n 1, 1) := by decide +kernel
theorem dX10_byteAt_17 : decode cX10_byteAt 17 = .ok (.iadd, 1) := by decide +kernel
theorem dX10_byteAt_18 : decode cX10_byteAt 18 = .ok (.iaload, 1) := by decide +kernel
theorem dX10_byteAt_19 : decode cX10_byteAt 19 = .ok (.goto 4, 3) := by decide +kernel
theorem dX10_byteAt_22 : decode cX10_byteAt 22 = .ok (.iconst (-1), 1) := by decide +kernel
theorem dX10_byteAt_23 : decode cX10_byteAt 23 = .ok (.ireturn, 1) := by decide +kernel
theorem dX10_next_0 : decode cX10_next 0 = .ok (.aload_n 0, 1) := by decide +kernel
theorem dX10_next_1 : decode cX10_next 1 = .ok (.aload_n 0, 1) := by decide +kernel
theorem dX10_next_2 : decode cX10_next 2 = .ok (.getfield 143, 3) := by decide +kernel
theorem dX10_next_5 : decode cX10_next 5 = .ok (.invokevirtual 146, 3) := by decide +kernel
theorem dX10_next_8 : decode cX10_next 8 = .ok (.bipush 32, 2) := by decide +kernel
theorem dX10_next_10 : decode cX10_next 10 = .ok (.if_icmp .eq 16, 3) := by decide +kernel
theorem dX10_next_13 : decode cX10_next 13 = .ok (.aload_n 0, 1) := by decide +kernel
theorem dX10_next_14 : decode cX10_next 14 = .ok (.aload_n 0, 1) := by decide +kernel
theorem dX10_next_15 : decode cX10_next 15 = .ok (.getfield 143, 3) := by decide +kernel
theorem dX10_next_18 : decode cX10_next 18 = .ok (.invokevirtual 146, 3) := by decide +kernel
theorem dX10_next_21 : decode cX10_next 21 = .ok (.bipush 10, 2) := by decide +kernel
theorem dX10_next_23 : decode cX10_next 23 = .ok (.if_icmp .ne 16, 3) := by decide +kernel
theorem dX10_next_26 : decode cX10_next 26 = .ok (.aload_n 0, 1) := by decide +kernel
theorem dX10_next_27 : decode cX10_next 27 = .ok (.dup, 1) := by decide +kernel
theorem dX10_next_28 : decode cX10_next 28 = .ok (.getfield 143, 3) := by decide +kernel
theorem dX10_next_31 : decode cX10_next 31 = .ok (.iconst 1, 1) := by decide +kernel
theorem dX10_next_32 : decode cX10_next 32 = .ok (.iadd, 1) := by decide +kernel
theorem dX10_next_33 : decode cX10_next 33 = .ok (.putfield 143, 3) := by decide +kernel
theorem dX10_next_36 : decode cX10_next 36 = .ok (.goto (-36), 3) := by decide +kernel
theorem dX10_next_39 : decode cX10_next 39 = .ok (.aload_n 0, 1) := by decide +kernel
theorem dX10_next_40 : decode cX10_next 40 = .ok (.aload_n 0, 1) := by decide +kernel
theorem dX10_next_41 : decode cX10_next 41 = .ok (.getfield 143, 3) := by decide +kernel
theorem dX10_next_44 : decode cX10_next 44 = .ok (.putfield 149, 3) := by decide +kernel
theorem dX10_next_47 : decode cX10_next 47 = .ok (.aload_n 0, 1) := by decide +kernel
theorem dX10_next_48 : decode cX10_next 48 = .ok (.aload_n 0, 1) := by decide +kernel
theorem dX10_next_49 : decode cX10_next 49 = .ok (.getfield 143, 3) := by decide +kernel
theorem dX10_next_52 : decode cX10_next 52 = .ok (.invokevirtual 146, 3) := by decide +kernel
theorem dX10_next_55 : decode cX10_next 55 = .ok (.istore_n 1, 1) := by decide +kernel
theorem dX10_next_56 : decode cX10_next 56 = .ok (.aload_n 0, 1) := by decide +kernel
theorem dX10_next_57 : decode cX10_next 57 = .ok (.iconst 4, 1) := by decide +kernel
theorem dX10_next_58 : decode cX10_next 58 = .ok (.putfield 152, 3) := by decide +kernel
theorem dX10_next_61 : decode cX10_next 61 = .ok (.iload_n 1, 1) := by decide +kernel
theorem dX10_next_62 : decode cX10_next 62 = .ok (.ifCond .ge 19, 3) := by decide +kernel
theorem dX10_next_65 : decode cX10_next 65 = .ok (.aload_n 0, 1) := by decide +kernel
theorem dX10_next_66 : decode cX10_next 66 = .ok (.iconst 0, 1) := by decide +kernel
theorem dX10_next_67 : decode cX10_next 67 = .ok (.putfield 152, 3) := by decide +kernel
theorem dX10_next_70 : decode cX10_next 70 = .ok (.aload_n 0, 1) := by decide +kernel
theorem dX10_next_71 : decode cX10_next 71 = .ok (.aload_n 0, 1) := by decide +kernel
theorem dX10_next_72 : decode cX10_next 72 = .ok (.getfield 137, 3) := by decide +kernel
theorem dX10_next_75 : decode cX10_next 75 = .ok (.putfield 149, 3) := by decide +kernel
theorem dX10_next_78 : decode cX10_next 78 = .ok (.goto 243, 3) := by decide +kernel
theorem dX10_next_81 : decode cX10_next 81 = .ok (.iload_n 1, 1) := by decide +kernel
theorem dX10_next_82 : decode cX10_next 82 = .ok (.i2l, 1) := by decide +kernel
theorem dX10_next_83 : decode cX10_next 83 = .ok (.ldc2_w 155, 3) := by decide +kernel
theorem dX10_next_86 : decode cX10_next 86 = .ok (.ldc2_w 157, 3) := by decide +kernel
theorem dX10_next_89 : decode cX10_next 89 = .ok (.invokestatic 79, 3) := by decide +kernel
theorem dX10_next_92 : decode cX10_next 92 = .ok (.ifCond .eq 42, 3) := by decide +kernel
theorem dX10_next_95 : decode cX10_next 95 = .ok (.aload_n 0, 1) := by decide +kernel
theorem dX10_next_96 : decode cX10_next 96 = .ok (.iconst 1, 1) := by decide +kernel
theorem dX10_next_97 : decode cX10_next 97 = .ok (.putfield 152, 3) := by decide +kernel
theorem dX10_next_100 : decode cX10_next 100 = .ok (.aload_n 0, 1) := by decide +kernel
theorem dX10_next_101 : decode cX10_next 101 = .ok (.aload_n 0, 1) := by decide +kernel
theorem dX10_next_102 : decode cX10_next 102 = .ok (.getfield 143, 3) := by decide +kernel
theorem dX10_next_105 : decode cX10_next 105 = .ok (.invokevirtual 146, 3) := by decide +kernel
theorem dX10_next_108 : decode cX10_next 108 = .ok (.i2l, 1) := by decide +kernel
theorem dX10_next_109 : decode cX10_next 109 = .ok (.ldc2_w 155, 3) := by decide +kernel
theorem dX10_next_112 : decode cX10_next 112 = .ok (.ldc2_w 157, 3) := by decide +kernel
theorem dX10_next_115 : decode cX10_next 115 = .ok (.invokestatic 79, 3) := by decide +kernel
theorem dX10_next_118 : decode cX10_next 118 = .ok (.ifCond .eq 203, 3) := by decide +kernel
theorem dX10_next_121 : decode cX10_next 121 = .ok (.aload_n 0, 1) := by decide +kernel
theorem dX10_next_122 : decode cX10_next 122 = .ok (.dup, 1) := by decide +kernel
theorem dX10_next_123 : decode cX10_next 123 = .ok (.getfield 143, 3) := by decide +kernel
theorem dX10_next_126 : decode cX10_next 126 = .ok (.iconst 1, 1) := by decide +kernel
theorem dX10_next_127 : decode cX10_next 127 = .ok (.iadd, 1) := by decide +kernel
theorem dX10_next_128 : decode cX10_next 128 = .ok (.putfield 143, 3) := by decide +kernel
theorem dX10_next_131 : decode cX10_next 131 = .ok (.goto (-31), 3) := by decide +kernel
theorem dX10_next_134 : decode cX10_next 134 = .ok (.iload_n 1, 1) := by decide +kernel
theorem dX10_next_135 : decode cX10_next 135 = .ok (.i2l, 1) := by decide +kernel
theorem dX10_next_136 : decode cX10_next 136 = .ok (.ldc2_w 159, 3) := by decide +kernel
theorem dX10_next_139 : decode cX10_next 139 = .ok (.ldc2_w 161, 3) := by decide +kernel
theorem dX10_next_142 : decode cX10_next 142 = .ok (.invokestatic 79, 3) := by decide +kernel
theorem dX10_next_145 : decode cX10_next 145 = .ok (.ifCond .eq 107, 3) := by decide +kernel
theorem dX10_next_148 : decode cX10_next 148 = .ok (.aload_n 0, 1) := by decide +kernel
theorem dX10_next_149 : decode cX10_next 149 = .ok (.iconst 2, 1) := by decide +kernel
theorem dX10_next_150 : decode cX10_next 150 = .ok (.putfield 152, 3) := by decide +kernel
theorem dX10_next_153 : decode cX10_next 153 = .ok (.aload_n 0, 1) := by decide +kernel
theorem dX10_next_154 : decode cX10_next 154 = .ok (.lconst 0, 1) := by decide +kernel
theorem dX10_next_155 : decode cX10_next 155 = .ok (.putfield 163, 3) := by decide +kernel
theorem dX10_next_158 : decode cX10_next 158 = .ok (.iconst 0, 1) := by decide +kernel
theorem dX10_next_159 : decode cX10_next 159 = .ok (.istore_n 2, 1) := by decide +kernel
theorem dX10_next_160 : decode cX10_next 160 = .ok (.aload_n 0, 1) := by decide +kernel
theorem dX10_next_161 : decode cX10_next 161 = .ok (.aload_n 0, 1) := by decide +kernel
theorem dX10_next_162 : decode cX10_next 162 = .ok (.getfield 143, 3) := by decide +kernel
theorem dX10_next_165 : decode cX10_next 165 = .ok (.invokevirtual 146, 3) := by decide +kernel
theorem dX10_next_168 : decode cX10_next 168 = .ok (.i2l, 1) := by decide +kernel
theorem dX10_next_169 : decode cX10_next 169 = .ok (.ldc2_w 159, 3) := by decide +kernel
theorem dX10_next_172 : decode cX10_next 172 = .ok (.ldc2_w 161, 3) := by decide +kernel
theorem dX10_next_175 : decode cX10_next 175 = .ok (.invokestatic 79, 3) := by decide +kernel
theorem dX10_next_178 : decode cX10_next 178 = .ok (.ifCond .eq 57, 3) := by decide +kernel
theorem dX10_next_181 : decode cX10_next 181 = .ok (.aload_n 0, 1) := by decide +kernel
theorem dX10_next_182 : decode cX10_next 182 = .ok (.iload_n 2, 1) := by decide +kernel
theorem dX10_next_183 : decode cX10_next 183 = .ok (.iconst 4, 1) := by decide +kernel
theorem dX10_next_184 : decode cX10_next 184 = .ok (.if_icmp .ge 28, 3) := by decide +kernel
theorem dX10_next_187 : decode cX10_next 187 = .ok (.ldc2_w 117, 3) := by decide +kernel
theorem dX10_next_190 : decode cX10_next 190 = .ok (.aload_n 0, 1) := by decide +kernel
theorem dX10_next_191 : decode cX10_next 191 = .ok (.getfield 163, 3) := by decide +kernel
theorem dX10_next_194 : decode cX10_next 194 = .ok (.lmul, 1) := by decide +kernel
theorem dX10_next_195 : decode cX10_next 195 = .ok (.aload_n 0, 1) := by decide +kernel
theorem dX10_next_196 : decode cX10_next 196 = .ok (.aload_n 0, 1) := by decide +kernel
theorem dX10_next_197 : decode cX10_next 197 = .ok (.getfield 143, 3) := by decide +kernel
theorem dX10_next_200 : decode cX10_next 200 = .ok (.invokevirtual 146, 3) := by decide +kernel
theorem dX10_next_203 : decode cX10_next 203 = .ok (.i2l, 1) := by decide +kernel
theorem dX10_next_204 : decode cX10_next 204 = .ok (.ladd, 1) := by decide +kernel
theorem dX10_next_205 : decode cX10_next 205 = .ok (.ldc2_w 159, 3) := by decide +kernel
theorem dX10_next_208 : decode cX10_next 208 = .ok (.lsub, 1) := by decide +kernel
theorem dX10_next_209 : decode cX10_next 209 = .ok (.goto 7, 3) := by decide +kernel
theorem dX10_next_212 : decode cX10_next 212 = .ok (.aload_n 0, 1) := by decide +kernel
theorem dX10_next_213 : decode cX10_next 213 = .ok (.getfield 163, 3) := by decide +kernel
theorem dX10_next_216 : decode cX10_next 216 = .ok (.putfield 163, 3) := by decide +kernel
theorem dX10_next_219 : decode cX10_next 219 = .ok (.iinc 2 1, 3) := by decide +kernel
theorem dX10_next_222 : decode cX10_next 222 = .ok (.aload_n 0, 1) := by decide +kernel
theorem dX10_next_223 : decode cX10_next 223 = .ok (.dup, 1) := by decide +kernel
theorem dX10_next_224 : decode cX10_next 224 = .ok (.getfield 143, 3) := by decide +kernel
theorem dX10_next_227 : decode cX10_next 227 = .ok (.iconst 1, 1) := by decide +kernel
theorem dX10_next_228 : decode cX10_next 228 = .ok (.iadd, 1) := by decide +kernel
theorem dX10_next_229 : decode cX10_next 229 = .ok (.putfield 143, 3) := by decide +kernel
theorem dX10_next_232 : decode cX10_next 232 = .ok (.goto (-72), 3) := by decide +kernel
theorem dX10_next_235 : decode cX10_next 235 = .ok (.aload_n 0, 1) := by decide +kernel
theorem dX10_next_236 : decode cX10_next 236 = .ok (.iload_n 2, 1) := by decide +kernel
theorem dX10_next_237 : decode cX10_next 237 = .ok (.iconst 4, 1) := by decide +kernel
theorem dX10_next_238 : decode cX10_next 238 = .ok (.if_icmp .le 7, 3) := by decide +kernel
theorem dX10_next_241 : decode cX10_next 241 = .ok (.iconst 4, 1) := by decide +kernel
theorem dX10_next_242 : decode cX10_next 242 = .ok (.goto 4, 3) := by decide +kernel
theorem dX10_next_245 : decode cX10_next 245 = .ok (.iconst 2, 1) := by decide +kernel
theorem dX10_next_246 : decode cX10_next 246 = .ok (.putfield 152, 3) := by decide +kernel
theorem dX10_next_249 : decode cX10_next 249 = .ok (.goto 72, 3) := by decide +kernel
theorem dX10_next_252 : decode cX10_next 252 = .ok (.iload_n 1, 1) := by decide +kernel
theorem dX10_next_253 : decode cX10_next 253 = .ok (.bipush 40, 2) := by decide +kernel
theorem dX10_next_255 : decode cX10_next 255 = .ok (.if_icmp .eq 45, 3) := by decide +kernel
theorem dX10_next_258 : decode cX10_next 258 = .ok (.iload_n 1, 1) := by decide +kernel
theorem dX10_next_259 : decode cX10_next 259 = .ok (.bipush 41, 2) := by decide +kernel
theorem dX10_next_261 : decode cX10_next 261 = .ok (.if_icmp .eq 39, 3) := by decide +kernel
theorem dX10_next_264 : decode cX10_next 264 = .ok (.iload_n 1, 1) := by decide +kernel
theorem dX10_next_265 : decode cX10_next 265 = .ok (.bipush 59, 2) := by decide +kernel
theorem dX10_next_267 : decode cX10_next 267 = .ok (.if_icmp .eq 33, 3) := by decide +kernel
theorem dX10_next_270 : decode cX10_next 270 = .ok (.iload_n 1, 1) := by decide +kernel
theorem dX10_next_271 : decode cX10_next 271 = .ok (.bipush 43, 2) := by decide +kernel
theorem dX10_next_273 : decode cX10_next 273 = .ok (.if_icmp .eq 27, 3) := by decide +kernel
theorem dX10_next_276 : decode cX10_next 276 = .ok (.iload_n 1, 1) := by decide +kernel
theorem dX10_next_277 : decode cX10_next 277 = .ok (.bipush 45, 2) := by decide +kernel
theorem dX10_next_279 : decode cX10_next 279 = .ok (.if_icmp .eq 21, 3) := by decide +kernel
theorem dX10_next_282 : decode cX10_next 282 = .ok (.iload_n 1, 1) := by decide +kernel
theorem dX10_next_283 : decode cX10_next 283 = .ok (.bipush 42, 2) := by decide +kernel
theorem dX10_next_285 : decode cX10_next 285 = .ok (.if_icmp .eq 15, 3) := by decide +kernel
theorem dX10_next_288 : decode cX10_next 288 = .ok (.iload_n 1, 1) := by decide +kernel
theorem dX10_next_289 : decode cX10_next 289 = .ok (.bipush 60, 2) := by decide +kernel
theorem dX10_next_291 : decode cX10_next 291 = .ok (.if_icmp .eq 9, 3) := by decide +kernel
theorem dX10_next_294 : decode cX10_next 294 = .ok (.iload_n 1, 1) := by decide +kernel
theorem dX10_next_295 : decode cX10_next 295 = .ok (.bipush 61, 2) := by decide +kernel
theorem dX10_next_297 : decode cX10_next 297 = .ok (.if_icmp .ne 24, 3) := by decide +kernel
theorem dX10_next_300 : decode cX10_next 300 = .ok (.aload_n 0, 1) := by decide +kernel
theorem dX10_next_301 : decode cX10_next 301 = .ok (.iconst 3, 1) := by decide +kernel
theorem dX10_next_302 : decode cX10_next 302 = .ok (.putfield 152, 3) := by decide +kernel
theorem dX10_next_305 : decode cX10_next 305 = .ok (.aload_n 0, 1) := by decide +kernel
theorem dX10_next_306 : decode cX10_next 306 = .ok (.iload_n 1, 1) := by decide +kernel
theorem dX10_next_307 : decode cX10_next 307 = .ok (.i2l, 1) := by decide +kernel
theorem dX10_next_308 : decode cX10_next 308 = .ok (.putfield 163, 3) := by decide +kernel
theorem dX10_next_311 : decode cX10_next 311 = .ok (.aload_n 0, 1) := by decide +kernel
theorem dX10_next_312 : decode cX10_next 312 = .ok (.dup, 1) := by decide +kernel
theorem dX10_next_313 : decode cX10_next 313 = .ok (.getfield 143, 3) := by decide +kernel
theorem dX10_next_316 : decode cX10_next 316 = .ok (.iconst 1, 1) := by decide +kernel
theorem dX10_next_317 : decode cX10_next 317 = .ok (.iadd, 1) := by decide +kernel
theorem dX10_next_318 : decode cX10_next 318 = .ok (.putfield 143, 3) := by decide +kernel
theorem dX10_next_321 : decode cX10_next 321 = .ok (.return_, 1) := by decide +kernel
theorem dX10_fail_0 : decode cX10_fail 0 = .ok (.aload_n 0, 1) := by decide +kernel
theorem dX10_fail_1 : decode cX10_fail 1 = .ok (.getfield 167, 3) := by decide +kernel
theorem dX10_fail_4 : decode cX10_fail 4 = .ok (.ifCond .ne 16, 3) := by decide +kernel
theorem dX10_fail_7 : decode cX10_fail 7 = .ok (.aload_n 0, 1) := by decide +kernel
theorem dX10_fail_8 : decode cX10_fail 8 = .ok (.iconst 1, 1) := by decide +kernel
theorem dX10_fail_9 : decode cX10_fail 9 = .ok (.putfield 167, 3) := by decide +kernel
theorem dX10_fail_12 : decode cX10_fail 12 = .ok (.aload_n 0, 1) := by decide +kernel
theorem dX10_fail_13 : decode cX10_fail 13 = .ok (.aload_n 0, 1) := by decide +kernel
theorem dX10_fail_14 : decode cX10_fail 14 = .ok (.getfield 149, 3) := by decide +kernel
theorem dX10_fail_17 : decode cX10_fail 17 = .ok (.putfield 171, 3) := by decide +kernel
theorem dX10_fail_20 : decode cX10_fail 20 = .ok (.return_, 1) := by decide +kernel
theorem dX10_isLetter_0 : decode cX10_isLetter 0 = .ok (.aload_n 0, 1) := by decide +kernel
theorem dX10_isLetter_1 : decode cX10_isLetter 1 = .ok (.getfield 149, 3) := by decide +kernel
theorem dX10_isLetter_4 : decode cX10_isLetter 4 = .ok (.iload_n 1, 1) := by decide +kernel
theorem dX10_isLetter_5 : decode cX10_isLetter 5 = .ok (.iadd, 1) := by decide +kernel
theorem dX10_isLetter_6 : decode cX10_isLetter 6 = .ok (.aload_n 0, 1) := by decide +kernel
theorem dX10_isLetter_7 : decode cX10_isLetter 7 = .ok (.getfield 143, 3) := by decide +kernel
theorem dX10_isLetter_10 : decode cX10_isLetter 10 = .ok (.if_icmp .ge 25, 3) := by decide +kernel
theorem dX10_isLetter_13 : decode cX10_isLetter 13 = .ok (.aload_n 0, 1) := by decide +kernel
theorem dX10_isLetter_14 : decode cX10_isLetter 14 = .ok (.aload_n 0, 1) := by decide +kernel
theorem dX10_isLetter_15 : decode cX10_isLetter 15 = .ok (.getfield 149, 3) := by decide +kernel
theorem dX10_isLetter_18 : decode cX10_isLetter 18 = .ok (.iload_n 1, 1) := by decide +kernel
theorem dX10_isLetter_19 : decode cX10_isLetter 19 = .ok (.iadd, 1) := by decide +kernel
theorem dX10_isLetter_20 : decode cX10_isLetter 20 = .ok (.invokevirtual 146, 3) := by decide +kernel
theorem dX10_isLetter_23 : decode cX10_isLetter 23 = .ok (.iload_n 2, 1) := by decide +kernel
theorem dX10_isLetter_24 : decode cX10_isLetter 24 = .ok (.if_icmp .ne 7, 3) := by decide +kernel
theorem dX10_isLetter_27 : decode cX10_isLetter 27 = .ok (.iconst 1, 1) := by decide +kernel
theorem dX10_isLetter_28 : decode cX10_isLetter 28 = .ok (.goto 16, 3) := by decide +kernel
theorem dX10_isLetter_31 : decode cX10_isLetter 31 = .ok (.iconst 0, 1) := by decide +kernel
theorem dX10_isLetter_32 : decode cX10_isLetter 32 = .ok (.goto 12, 3) := by decide +kernel
theorem dX10_isLetter_35 : decode cX10_isLetter 35 = .ok (.iload_n 2, 1) := by decide +kernel
theorem dX10_isLetter_36 : decode cX10_isLetter 36 = .ok (.ifCond .ne 7, 3) := by decide +kernel
theorem dX10_isLetter_39 : decode cX10_isLetter 39 = .ok (.iconst 1, 1) := by decide +kernel
theorem dX10_isLetter_40 : decode cX10_isLetter 40 = .ok (.goto 4, 3) := by decide +kernel
theorem dX10_isLetter_43 : decode cX10_isLetter 43 = .ok (.iconst 0, 1) := by decide +kernel
theorem dX10_isLetter_44 : decode cX10_isLetter 44 = .ok (.ireturn, 1) := by decide +kernel
theorem dX10_isWord_0 : decode cX10_isWord 0 = .ok (.aload_n 0, 1) := by decide +kernel
theorem dX10_isWord_1 : decode cX10_isWord 1 = .ok (.getfield 167, 3) := by decide +kernel
theorem dX10_isWord_4 : decode cX10_isWord 4 = .ok (.ifCond .ne 108, 3) := by decide +kernel
theorem dX10_isWord_7 : decode cX10_isWord 7 = .ok (.aload_n 0, 1) := by decide +kernel
theorem dX10_isWord_8 : decode cX10_isWord 8 = .ok (.getfield 152, 3) := by decide +kernel
theorem dX10_isWord_11 : decode cX10_isWord 11 = .ok (.iconst 1, 1) := by decide +kernel
theorem dX10_isWord_12 : decode cX10_isWord 12 = .ok (.if_icmp .ne 100, 3) := by decide +kernel
theorem dX10_isWord_15 : decode cX10_isWord 15 = .ok (.aload_n 0, 1) := by decide +kernel
theorem dX10_isWord_16 : decode cX10_isWord 16 = .ok (.getfield 143, 3) := by decide +kernel
theorem dX10_isWord_19 : decode cX10_isWord 19 = .ok (.aload_n 0, 1) := by decide +kernel
theorem dX10_isWord_20 : decode cX10_isWord 20 = .ok (.getfield 149, 3) := by decide +kernel
theorem dX10_isWord_23 : decode cX10_isWord 23 = .ok (.bipush 8, 2) := by decide +kernel
theorem dX10_isWord_25 : decode cX10_isWord 25 = .ok (.iadd, 1) := by decide +kernel
theorem dX10_isWord_26 : decode cX10_isWord 26 = .ok (.if_icmp .gt 86, 3) := by decide +kernel
theorem dX10_isWord_29 : decode cX10_isWord 29 = .ok (.aload_n 0, 1) := by decide +kernel
theorem dX10_isWord_30 : decode cX10_isWord 30 = .ok (.iconst 0, 1) := by decide +kernel
theorem dX10_isWord_31 : decode cX10_isWord 31 = .ok (.iload_n 1, 1) := by decide +kernel
theorem dX10_isWord_32 : decode cX10_isWord 32 = .ok (.invokevirtual 174, 3) := by decide +kernel
theorem dX10_isWord_35 : decode cX10_isWord 35 = .ok (.ifCond .eq 77, 3) := by decide +kernel
theorem dX10_isWord_38 : decode cX10_isWord 38 = .ok (.aload_n 0, 1) := by decide +kernel
theorem dX10_isWord_39 : decode cX10_isWord 39 = .ok (.iconst 1, 1) := by decide +kernel
theorem dX10_isWord_40 : decode cX10_isWord 40 = .ok (.iload_n 2, 1) := by decide +kernel
theorem dX10_isWord_41 : decode cX10_isWord 41 = .ok (.invokevirtual 174, 3) := by decide +kernel
theorem dX10_isWord_44 : decode cX10_isWord 44 = .ok (.ifCond .eq 68, 3) := by decide +kernel
theorem dX10_isWord_47 : decode cX10_isWord 47 = .ok (.aload_n 0, 1) := by decide +kernel
theorem dX10_isWord_48 : decode cX10_isWord 48 = .ok (.iconst 2, 1) := by decide +kernel
theorem dX10_isWord_49 : decode cX10_isWord 49 = .ok (.iload_n 3, 1) := by decide +kernel
theorem dX10_isWord_50 : decode cX10_isWord 50 = .ok (.invokevirtual 174, 3) := by decide +kernel
theorem dX10_isWord_53 : decode cX10_isWord 53 = .ok (.ifCond .eq 59, 3) := by decide +kernel
theorem dX10_isWord_56 : decode cX10_isWord 56 = .ok (.aload_n 0, 1) := by decide +kernel
theorem dX10_isWord_57 : decode cX10_isWord 57 = .ok (.iconst 3, 1) := by decide +kernel
theorem dX10_isWord_58 : decode cX10_isWord 58 = .ok (.iload 4, 2) := by decide +kernel
theorem dX10_isWord_60 : decode cX10_isWord 60 = .ok (.invokevirtual 174, 3) := by decide +kernel
theorem dX10_isWord_63 : decode cX10_isWord 63 = .ok (.ifCond .eq 49, 3) := by decide +kernel
theorem dX10_isWord_66 : decode cX10_isWord 66 = .ok (.aload_n 0, 1) := by decide +kernel
theorem dX10_isWord_67 : decode cX10_isWord 67 = .ok (.iconst 4, 1) := by decide +kernel
theorem dX10_isWord_68 : decode cX10_isWord 68 = .ok (.iload 5, 2) := by decide +kernel
theorem dX10_isWord_70 : decode cX10_isWord 70 = .ok (.invokevirtual 174, 3) := by decide +kernel
theorem dX10_isWord_73 : decode cX10_isWord 73 = .ok (.ifCond .eq 39, 3) := by decide +kernel
theorem dX10_isWord_76 : decode cX10_isWord 76 = .ok (.aload_n 0, 1) := by decide +kernel
theorem dX10_isWord_77 : decode cX10_isWord 77 = .ok (.iconst 5, 1) := by decide +kernel
theorem dX10_isWord_78 : decode cX10_isWord 78 = .ok (.iload 6, 2) := by decide +kernel
theorem dX10_isWord_80 : decode cX10_isWord 80 = .ok (.invokevirtual 174, 3) := by decide +kernel
theorem dX10_isWord_83 : decode cX10_isWord 83 = .ok (.ifCond .eq 29, 3) := by decide +kernel
theorem dX10_isWord_86 : decode cX10_isWord 86 = .ok (.aload_n 0, 1) := by decide +kernel
theorem dX10_isWord_87 : decode cX10_isWord 87 = .ok (.bipush 6, 2) := by decide +kernel
theorem dX10_isWord_89 : decode cX10_isWord 89 = .ok (.iload 7, 2) := by decide +kernel
theorem dX10_isWord_91 : decode cX10_isWord 91 = .ok (.invokevirtual 174, 3) := by decide +kernel
theorem dX10_isWord_94 : decode cX10_isWord 94 = .ok (.ifCond .eq 18, 3) := by decide +kernel
theorem dX10_isWord_97 : decode cX10_isWord 97 = .ok (.aload_n 0, 1) := by decide +kernel
theorem dX10_isWord_98 : decode cX10_isWord 98 = .ok (.bipush 7, 2) := by decide +kernel
theorem dX10_isWord_100 : decode cX10_isWord 100 = .ok (.iload 8, 2) := by decide +kernel
theorem dX10_isWord_102 : decode cX10_isWord 102 = .ok (.invokevirtual 174, 3) := by decide +kernel
theorem dX10_isWord_105 : decode cX10_isWord 105 = .ok (.ifCond .eq 7, 3) := by decide +kernel
theorem dX10_isWord_108 : decode cX10_isWord 108 = .ok (.iconst 1, 1) := by decide +kernel
theorem dX10_isWord_109 : decode cX10_isWord 109 = .ok (.goto 4, 3) := by decide +kernel
theorem dX10_isWord_112 : decode cX10_isWord 112 = .ok (.iconst 0, 1) := by decide +kernel
theorem dX10_isWord_113 : decode cX10_isWord 113 = .ok (.ireturn, 1) := by decide +kernel
theorem dX10_isSign_0 : decode cX10_isSign 0 = .ok (.aload_n 0, 1) := by decide +kernel
theorem dX10_isSign_1 : decode cX10_isSign 1 = .ok (.getfield 167, 3) := by decide +kernel
theorem dX10_isSign_4 : decode cX10_isSign 4 = .ok (.ifCond .ne 25, 3) := by decide +kernel
theorem dX10_isSign_7 : decode cX10_isSign 7 = .ok (.aload_n 0, 1) := by decide +kernel
theorem dX10_isSign_8 : decode cX10_isSign 8 = .ok (.getfield 152, 3) := by decide +kernel
theorem dX10_isSign_11 : decode cX10_isSign 11 = .ok (.iconst 3, 1) := by decide +kernel
theorem dX10_isSign_12 : decode cX10_isSign 12 = .ok (.if_icmp .ne 17, 3) := by decide +kernel
theorem dX10_isSign_15 : decode cX10_isSign 15 = .ok (.aload_n 0, 1) := by decide +kernel
theorem dX10_isSign_16 : decode cX10_isSign 16 = .ok (.getfield 163, 3) := by decide +kernel
theorem dX10_isSign_19 : decode cX10_isSign 19 = .ok (.iload_n 1, 1) := by decide +kernel
theorem dX10_isSign_20 : decode cX10_isSign 20 = .ok (.i2l, 1) := by decide +kernel
theorem dX10_isSign_21 : decode cX10_isSign 21 = .ok (.lcmp, 1) := by decide +kernel
theorem dX10_isSign_22 : decode cX10_isSign 22 = .ok (.ifCond .ne 7, 3) := by decide +kernel
theorem dX10_isSign_25 : decode cX10_isSign 25 = .ok (.iconst 1, 1) := by decide +kernel
theorem dX10_isSign_26 : decode cX10_isSign 26 = .ok (.goto 4, 3) := by decide +kernel
theorem dX10_isSign_29 : decode cX10_isSign 29 = .ok (.iconst 0, 1) := by decide +kernel
theorem dX10_isSign_30 : decode cX10_isSign 30 = .ok (.ireturn, 1) := by decide +kernel
theorem dX10_opens_0 : decode cX10_opens 0 = .ok (.aload_n 0, 1) := by decide +kernel
theorem dX10_opens_1 : decode cX10_opens 1 = .ok (.getfield 178, 3) := by decide +kernel
theorem dX10_opens_4 : decode cX10_opens 4 = .ok (.iconst 5, 1) := by decide +kernel
theorem dX10_opens_5 : decode cX10_opens 5 = .ok (.if_icmp .ne 9, 3) := by decide +kernel
theorem dX10_opens_8 : decode cX10_opens 8 = .ok (.aload_n 0, 1) := by decide +kernel
theorem dX10_opens_9 : decode cX10_opens 9 = .ok (.invokevirtual 181, 3) := by decide +kernel
theorem dX10_opens_12 : decode cX10_opens 12 = .ok (.iconst 0, 1) := by decide +kernel
theorem dX10_opens_13 : decode cX10_opens 13 = .ok (.ireturn, 1) := by decide +kernel
theorem dX10_opens_14 : decode cX10_opens 14 = .ok (.aload_n 0, 1) := by decide +kernel
theorem dX10_opens_15 : decode cX10_opens 15 = .ok (.dup, 1) := by decide +kernel
theorem dX10_opens_16 : decode cX10_opens 16 = .ok (.getfield 178, 3) := by decide +kernel
theorem dX10_opens_19 : decode cX10_opens 19 = .ok (.iconst 1, 1) := by decide +kernel
theorem dX10_opens_20 : decode cX10_opens 20 = .ok (.iadd, 1) := by decide +kernel
theorem dX10_opens_21 : decode cX10_opens 21 = .ok (.putfield 178, 3) := by decide +kernel
theorem dX10_opens_24 : decode cX10_opens 24 = .ok (.aload_n 0, 1) := by decide +kernel
theorem dX10_opens_25 : decode cX10_opens 25 = .ok (.invokevirtual 184, 3) := by decide +kernel
theorem dX10_opens_28 : decode cX10_opens 28 = .ok (.iconst 1, 1) := by decide +kernel
theorem dX10_opens_29 : decode cX10_opens 29 = .ok (.ireturn, 1) := by decide +kernel
theorem dX10_name_0 : decode cX10_name 0 = .ok (.aload_n 0, 1) := by decide +kernel
theorem dX10_name_1 : decode cX10_name 1 = .ok (.bipush 116, 2) := by decide +kernel
theorem dX10_name_3 : decode cX10_name 3 = .ok (.bipush 104, 2) := by decide +kernel
theorem dX10_name_5 : decode cX10_name 5 = .ok (.bipush 105, 2) := by decide +kernel
theorem dX10_name_7 : decode cX10_name 7 = .ok (.bipush 110, 2) := by decide +kernel
theorem dX10_name_9 : decode cX10_name 9 = .ok (.bipush 103, 2) := by decide +kernel
theorem dX10_name_11 : decode cX10_name 11 = .ok (.iconst 0, 1) := by decide +kernel
theorem dX10_name_12 : decode cX10_name 12 = .ok (.iconst 0, 1) := by decide +kernel
theorem dX10_name_13 : decode cX10_name 13 = .ok (.iconst 0, 1) := by decide +kernel
theorem dX10_name_14 : decode cX10_name 14 = .ok (.invokevirtual 187, 3) := by decide +kernel
theorem dX10_name_17 : decode cX10_name 17 = .ok (.ifCond .eq 8, 3) := by decide +kernel
theorem dX10_name_20 : decode cX10_name 20 = .ok (.aload_n 0, 1) := by decide +kernel
theorem dX10_name_21 : decode cX10_name 21 = .ok (.getfield 191, 3) := by decide +kernel
theorem dX10_name_24 : decode cX10_name 24 = .ok (.ireturn, 1) := by decide +kernel
theorem dX10_name_25 : decode cX10_name 25 = .ok (.aload_n 0, 1) := by decide +kernel
theorem dX10_name_26 : decode cX10_name 26 = .ok (.bipush 116, 2) := by decide +kernel
theorem dX10_name_28 : decode cX10_name 28 = .ok (.bipush 101, 2) := by decide +kernel
theorem dX10_name_30 : decode cX10_name 30 = .ok (.bipush 109, 2) := by decide +kernel
theorem dX10_name_32 : decode cX10_name 32 = .ok (.bipush 112, 2) := by decide +kernel
theorem dX10_name_34 : decode cX10_name 34 = .ok (.bipush 101, 2) := by decide +kernel
theorem dX10_name_36 : decode cX10_name 36 = .ok (.bipush 114, 2) := by decide +kernel
theorem dX10_name_38 : decode cX10_name 38 = .ok (.iconst 0, 1) := by decide +kernel
theorem dX10_name_39 : decode cX10_name 39 = .ok (.iconst 0, 1) := by decide +kernel
theorem dX10_name_40 : decode cX10_name 40 = .ok (.invokevirtual 187, 3) := by decide +kernel
theorem dX10_name_43 : decode cX10_name 43 = .ok (.ifCond .eq 8, 3) := by decide +kernel
theorem dX10_name_46 : decode cX10_name 46 = .ok (.aload_n 0, 1) := by decide +kernel
theorem dX10_name_47 : decode cX10_name 47 = .ok (.getfield 194, 3) := by decide +kernel
theorem dX10_name_50 : decode cX10_name 50 = .ok (.ireturn, 1) := by decide +kernel
theorem dX10_name_51 : decode cX10_name 51 = .ok (.aload_n 0, 1) := by decide +kernel
theorem dX10_name_52 : decode cX10_name 52 = .ok (.bipush 110, 2) := by decide +kernel
theorem dX10_name_54 : decode cX10_name 54 = .ok (.bipush 117, 2) := by decide +kernel
theorem dX10_name_56 : decode cX10_name 56 = .ok (.bipush 109, 2) := by decide +kernel
theorem dX10_name_58 : decode cX10_name 58 = .ok (.bipush 98, 2) := by decide +kernel
theorem dX10_name_60 : decode cX10_name 60 = .ok (.bipush 101, 2) := by decide +kernel
theorem dX10_name_62 : decode cX10_name 62 = .ok (.bipush 114, 2) := by decide +kernel
theorem dX10_name_64 : decode cX10_name 64 = .ok (.iconst 0, 1) := by decide +kernel
theorem dX10_name_65 : decode cX10_name 65 = .ok (.iconst 0, 1) := by decide +kernel
theorem dX10_name_66 : decode cX10_name 66 = .ok (.invokevirtual 187, 3) := by decide +kernel
theorem dX10_name_69 : decode cX10_name 69 = .ok (.ifCond .eq 8, 3) := by decide +kernel
theorem dX10_name_72 : decode cX10_name 72 = .ok (.aload_n 0, 1) := by decide +kernel
theorem dX10_name_73 : decode cX10_name 73 = .ok (.getfield 197, 3) := by decide +kernel
theorem dX10_name_76 : decode cX10_name 76 = .ok (.ireturn, 1) := by decide +kernel
theorem dX10_name_77 : decode cX10_name 77 = .ok (.aload_n 0, 1) := by decide +kernel
theorem dX10_name_78 : decode cX10_name 78 = .ok (.bipush 100, 2) := by decide +kernel
theorem dX10_name_80 : decode cX10_name 80 = .ok (.bipush 97, 2) := by decide +kernel
theorem dX10_name_82 : decode cX10_name 82 = .ok (.bipush 121, 2) := by decide +kernel
theorem dX10_name_84 : decode cX10_name 84 = .ok (.iconst 0, 1) := by decide +kernel
theorem dX10_name_85 : decode cX10_name 85 = .ok (.iconst 0, 1) := by decide +kernel
theorem dX10_name_86 : decode cX10_name 86 = .ok (.iconst 0, 1) := by decide +kernel
theorem dX10_name_87 : decode cX10_name 87 = .ok (.iconst 0, 1) := by decide +kernel
theorem dX10_name_88 : decode cX10_name 88 = .ok (.iconst 0, 1) := by decide +kernel
theorem dX10_name_89 : decode cX10_name 89 = .ok (.invokevirtual 187, 3) := by decide +kernel
theorem dX10_name_92 : decode cX10_name 92 = .ok (.ifCond .eq 8, 3) := by decide +kernel
theorem dX10_name_95 : decode cX10_name 95 = .ok (.aload_n 0, 1) := by decide +kernel
theorem dX10_name_96 : decode cX10_name 96 = .ok (.getfield 200, 3) := by decide +kernel
theorem dX10_name_99 : decode cX10_name 99 = .ok (.ireturn, 1) := by decide +kernel
theorem dX10_name_100 : decode cX10_name 100 = .ok (.aload_n 0, 1) := by decide +kernel
theorem dX10_name_101 : decode cX10_name 101 = .ok (.bipush 99, 2) := by decide +kernel
theorem dX10_name_103 : decode cX10_name 103 = .ok (.bipush 111, 2) := by decide +kernel
theorem dX10_name_105 : decode cX10_name 105 = .ok (.bipush 97, 2) := by decide +kernel
theorem dX10_name_107 : decode cX10_name 107 = .ok (.bipush 116, 2) := by decide +kernel
theorem dX10_name_109 : decode cX10_name 109 = .ok (.iconst 0, 1) := by decide +kernel
theorem dX10_name_110 : decode cX10_name 110 = .ok (.iconst 0, 1) := by decide +kernel
theorem dX10_name_111 : decode cX10_name 111 = .ok (.iconst 0, 1) := by decide +kernel
theorem dX10_name_112 : decode cX10_name 112 = .ok (.iconst 0, 1) := by decide +kernel
theorem dX10_name_113 : decode cX10_name 113 = .ok (.invokevirtual 187, 3) := by decide +kernel
theorem dX10_name_116 : decode cX10_name 116 = .ok (.ifCond .eq 8, 3) := by decide +kernel
theorem dX10_name_119 : decode cX10_name 119 = .ok (.aload_n 0, 1) := by decide +kernel
theorem dX10_name_120 : decode cX10_name 120 = .ok (.getfield 203, 3) := by decide +kernel
theorem dX10_name_123 : decode cX10_name 123 = .ok (.ireturn, 1) := by decide +kernel
theorem dX10_name_124 : decode cX10_name 124 = .ok (.aload_n 0, 1) := by decide +kernel
theorem dX10_name_125 : decode cX10_name 125 = .ok (.bipush 111, 2) := by decide +kernel
theorem dX10_name_127 : decode cX10_name 127 = .ok (.bipush 119, 2) := by decide +kernel
theorem dX10_name_129 : decode cX10_name 129 = .ok (.bipush 110, 2) := by decide +kernel
theorem dX10_name_131 : decode cX10_name 131 = .ok (.iconst 0, 1) := by decide +kernel
theorem dX10_name_132 : decode cX10_name 132 = .ok (.iconst 0, 1) := by decide +kernel
theorem dX10_name_133 : decode cX10_name 133 = .ok (.iconst 0, 1) := by decide +kernel
theorem dX10_name_134 : decode cX10_name 134 = .ok (.iconst 0, 1) := by decide +kernel
theorem dX10_name_135 : decode cX10_name 135 = .ok (.iconst 0, 1) := by decide +kernel
theorem dX10_name_136 : decode cX10_name 136 = .ok (.invokevirtual 187, 3) := by decide +kernel
theorem dX10_name_139 : decode cX10_name 139 = .ok (.ifCond .eq 8, 3) := by decide +kernel
theorem dX10_name_142 : decode cX10_name 142 = .ok (.aload_n 0, 1) := by decide +kernel
theorem dX10_name_143 : decode cX10_name 143 = .ok (.getfield 206, 3) := by decide +kernel
theorem dX10_name_146 : decode cX10_name 146 = .ok (.ireturn, 1) := by decide +kernel
theorem dX10_name_147 : decode cX10_name 147 = .ok (.aload_n 0, 1) := by decide +kernel
theorem dX10_name_148 : decode cX10_name 148 = .ok (.invokevirtual 181, 3) := by decide +kernel
theorem dX10_name_151 : decode cX10_name 151 = .ok (.iconst 0, 1) := by decide +kernel
theorem dX10_name_152 : decode cX10_name 152 = .ok (.ireturn, 1) := by decide +kernel
theorem dX10_atom_0 : decode cX10_atom 0 = .ok (.iconst 0, 1) := by decide +kernel
theorem dX10_atom_1 : decode cX10_atom 1 = .ok (.istore_n 1, 1) := by decide +kernel
theorem dX10_atom_2 : decode cX10_atom 2 = .ok (.aload_n 0, 1) := by decide +kernel
theorem dX10_atom_3 : decode cX10_atom 3 = .ok (.bipush 45, 2) := by decide +kernel
theorem dX10_atom_5 : decode cX10_atom 5 = .ok (.invokevirtual 209, 3) := by decide +kernel
theorem dX10_atom_8 : decode cX10_atom 8 = .ok (.ifCond .eq 29, 3) := by decide +kernel
theorem dX10_atom_11 : decode cX10_atom 11 = .ok (.aload_n 0, 1) := by decide +kernel
theorem dX10_atom_12 : decode cX10_atom 12 = .ok (.invokevirtual 212, 3) := by decide +kernel
theorem dX10_atom_15 : decode cX10_atom 15 = .ok (.ifCond .eq 146, 3) := by decide +kernel
theorem dX10_atom_18 : decode cX10_atom 18 = .ok (.aload_n 0, 1) := by decide +kernel
theorem dX10_atom_19 : decode cX10_atom 19 = .ok (.invokevirtual 216, 3) := by decide +kernel
theorem dX10_atom_22 : decode cX10_atom 22 = .ok (.ineg, 1) := by decide +kernel
theorem dX10_atom_23 : decode cX10_atom 23 = .ok (.istore_n 1, 1) := by decide +kernel
theorem dX10_atom_24 : decode cX10_atom 24 = .ok (.aload_n 0, 1) := by decide +kernel
theorem dX10_atom_25 : decode cX10_atom 25 = .ok (.dup, 1) := by decide +kernel
theorem dX10_atom_26 : decode cX10_atom 26 = .ok (.getfield 178, 3) := by decide +kernel
theorem dX10_atom_29 : decode cX10_atom 29 = .ok (.iconst 1, 1) := by decide +kernel
theorem dX10_atom_30 : decode cX10_atom 30 = .ok (.isub, 1) := by decide +kernel
theorem dX10_atom_31 : decode cX10_atom 31 = .ok (.putfield 178, 3) := by decide +kernel
theorem dX10_atom_34 : decode cX10_atom 34 = .ok (.goto 127, 3) := by decide +kernel
theorem dX10_atom_37 : decode cX10_atom 37 = .ok (.aload_n 0, 1) := by decide +kernel
theorem dX10_atom_38 : decode cX10_atom 38 = .ok (.bipush 40, 2) := by decide +kernel
theorem dX10_atom_40 : decode cX10_atom 40 = .ok (.invokevirtual 209, 3) := by decide +kernel
theorem dX10_atom_43 : decode cX10_atom 43 = .ok (.ifCond .eq 52, 3) := by decide +kernel
theorem dX10_atom_46 : decode cX10_atom 46 = .ok (.aload_n 0, 1) := by decide +kernel
theorem dX10_atom_47 : decode cX10_atom 47 = .ok (.invokevirtual 212, 3) := by decide +kernel
theorem dX10_atom_50 : decode cX10_atom 50 = .ok (.ifCond .eq 111, 3) := by decide +kernel
theorem dX10_atom_53 : decode cX10_atom 53 = .ok (.aload_n 0, 1) := by decide +kernel
theorem dX10_atom_54 : decode cX10_atom 54 = .ok (.invokevirtual 220, 3) := by decide +kernel
theorem dX10_atom_57 : decode cX10_atom 57 = .ok (.istore_n 1, 1) := by decide +kernel
theorem dX10_atom_58 : decode cX10_atom 58 = .ok (.aload_n 0, 1) := by decide +kernel
theorem dX10_atom_59 : decode cX10_atom 59 = .ok (.bipush 41, 2) := by decide +kernel
theorem dX10_atom_61 : decode cX10_atom 61 = .ok (.invokevirtual 209, 3) := by decide +kernel
theorem dX10_atom_64 : decode cX10_atom 64 = .ok (.ifCond .ne 7, 3) := by decide +kernel
theorem dX10_atom_67 : decode cX10_atom 67 = .ok (.aload_n 0, 1) := by decide +kernel
theorem dX10_atom_68 : decode cX10_atom 68 = .ok (.invokevirtual 181, 3) := by decide +kernel
theorem dX10_atom_71 : decode cX10_atom 71 = .ok (.aload_n 0, 1) := by decide +kernel
theorem dX10_atom_72 : decode cX10_atom 72 = .ok (.dup, 1) := by decide +kernel
theorem dX10_atom_73 : decode cX10_atom 73 = .ok (.getfield 178, 3) := by decide +kernel
theorem dX10_atom_76 : decode cX10_atom 76 = .ok (.iconst 1, 1) := by decide +kernel
theorem dX10_atom_77 : decode cX10_atom 77 = .ok (.isub, 1) := by decide +kernel
theorem dX10_atom_78 : decode cX10_atom 78 = .ok (.putfield 178, 3) := by decide +kernel
theorem dX10_atom_81 : decode cX10_atom 81 = .ok (.aload_n 0, 1) := by decide +kernel
theorem dX10_atom_82 : decode cX10_atom 82 = .ok (.getfield 167, 3) := by decide +kernel
theorem dX10_atom_85 : decode cX10_atom 85 = .ok (.ifCond .ne 76, 3) := by decide +kernel
theorem dX10_atom_88 : decode cX10_atom 88 = .ok (.aload_n 0, 1) := by decide +kernel
theorem dX10_atom_89 : decode cX10_atom 89 = .ok (.invokevirtual 184, 3) := by decide +kernel
theorem dX10_atom_92 : decode cX10_atom 92 = .ok (.goto 69, 3) := by decide +kernel
theorem dX10_atom_95 : decode cX10_atom 95 = .ok (.aload_n 0, 1) := by decide +kernel
theorem dX10_atom_96 : decode cX10_atom 96 = .ok (.getfield 167, 3) := by decide +kernel
theorem dX10_atom_99 : decode cX10_atom 99 = .ok (.ifCond .ne 24, 3) := by decide +kernel
theorem dX10_atom_102 : decode cX10_atom 102 = .ok (.aload_n 0, 1) := by decide +kernel
theorem dX10_atom_103 : decode cX10_atom 103 = .ok (.getfield 152, 3) := by decide +kernel
theorem dX10_atom_106 : decode cX10_atom 106 = .ok (.iconst 2, 1) := by decide +kernel
theorem dX10_atom_107 : decode cX10_atom 107 = .ok (.if_icmp .ne 16, 3) := by decide +kernel
theorem dX10_atom_110 : decode cX10_atom 110 = .ok (.aload_n 0, 1) := by decide +kernel
theorem dX10_atom_111 : decode cX10_atom 111 = .ok (.getfield 163, 3) := by decide +kernel
theorem dX10_atom_114 : decode cX10_atom 114 = .ok (.l2i, 1) := by decide +kernel
theorem dX10_atom_115 : decode cX10_atom 115 = .ok (.istore_n 1, 1) := by decide +kernel
theorem dX10_atom_116 : decode cX10_atom 116 = .ok (.aload_n 0, 1) := by decide +kernel
theorem dX10_atom_117 : decode cX10_atom 117 = .ok (.invokevirtual 184, 3) := by decide +kernel
theorem dX10_atom_120 : decode cX10_atom 120 = .ok (.goto 41, 3) := by decide +kernel
theorem dX10_atom_123 : decode cX10_atom 123 = .ok (.aload_n 0, 1) := by decide +kernel
theorem dX10_atom_124 : decode cX10_atom 124 = .ok (.getfield 167, 3) := by decide +kernel
theorem dX10_atom_127 : decode cX10_atom 127 = .ok (.ifCond .ne 30, 3) := by decide +kernel
theorem dX10_atom_130 : decode cX10_atom 130 = .ok (.aload_n 0, 1) := by decide +kernel
theorem dX10_atom_131 : decode cX10_atom 131 = .ok (.getfield 152, 3) := by decide +kernel
theorem dX10_atom_134 : decode cX10_atom 134 = .ok (.iconst 1, 1) := by decide +kernel
theorem dX10_atom_135 : decode cX10_atom 135 = .ok (.if_icmp .ne 22, 3) := by decide +kernel
theorem dX10_atom_138 : decode cX10_atom 138 = .ok (.aload_n 0, 1) := by decide +kernel
theorem dX10_atom_139 : decode cX10_atom 139 = .ok (.invokevirtual 223, 3) := by decide +kernel
theorem dX10_atom_142 : decode cX10_atom 142 = .ok (.istore_n 1, 1) := by decide +kernel
theorem dX10_atom_143 : decode cX10_atom 143 = .ok (.aload_n 0, 1) := by decide +kernel
theorem dX10_atom_144 : decode cX10_atom 144 = .ok (.getfield 167, 3) := by decide +kernel
theorem dX10_atom_147 : decode cX10_atom 147 = .ok (.ifCond .ne 14, 3) := by decide +kernel
theorem dX10_atom_150 : decode cX10_atom 150 = .ok (.aload_n 0, 1) := by decide +kernel
theorem dX10_atom_151 : decode cX10_atom 151 = .ok (.invokevirtual 184, 3) := by decide +kernel
theorem dX10_atom_154 : decode cX10_atom 154 = .ok (.goto 7, 3) := by decide +kernel
theorem dX10_atom_157 : decode cX10_atom 157 = .ok (.aload_n 0, 1) := by decide +kernel
theorem dX10_atom_158 : decode cX10_atom 158 = .ok (.invokevirtual 181, 3) := by decide +kernel
theorem dX10_atom_161 : decode cX10_atom 161 = .ok (.iload_n 1, 1) := by decide +kernel
theorem dX10_atom_162 : decode cX10_atom 162 = .ok (.ireturn, 1) := by decide +kernel
theorem dX10_term_0 : decode cX10_term 0 = .ok (.aload_n 0, 1) := by decide +kernel
theorem dX10_term_1 : decode cX10_term 1 = .ok (.invokevirtual 216, 3) := by decide +kernel
theorem dX10_term_4 : decode cX10_term 4 = .ok (.istore_n 1, 1) := by decide +kernel
theorem dX10_term_5 : decode cX10_term 5 = .ok (.aload_n 0, 1) := by decide +kernel
theorem dX10_term_6 : decode cX10_term 6 = .ok (.bipush 42, 2) := by decide +kernel
theorem dX10_term_8 : decode cX10_term 8 = .ok (.invokevirtual 209, 3) := by decide +kernel
theorem dX10_term_11 : decode cX10_term 11 = .ok (.ifCond .eq 17, 3) := by decide +kernel
theorem dX10_term_14 : decode cX10_term 14 = .ok (.aload_n 0, 1) := by decide +kernel
theorem dX10_term_15 : decode cX10_term 15 = .ok (.invokevirtual 184, 3) := by decide +kernel
theorem dX10_term_18 : decode cX10_term 18 = .ok (.iload_n 1, 1) := by decide +kernel
theorem dX10_term_19 : decode cX10_term 19 = .ok (.aload_n 0, 1) := by decide +kernel
theorem dX10_term_20 : decode cX10_term 20 = .ok (.invokevirtual 216, 3) := by decide +kernel
theorem dX10_term_23 : decode cX10_term 23 = .ok (.imul, 1) := by decide +kernel
theorem dX10_term_24 : decode cX10_term 24 = .ok (.istore_n 1, 1) := by decide +kernel
theorem dX10_term_25 : decode cX10_term 25 = .ok (.goto (-20), 3) := by decide +kernel
theorem dX10_term_28 : decode cX10_term 28 = .ok (.iload_n 1, 1) := by decide +kernel
theorem dX10_term_29 : decode cX10_term 29 = .ok (.ireturn, 1) := by decide +kernel
theorem dX10_added_0 : decode cX10_added 0 = .ok (.aload_n 0, 1) := by decide +kernel
theorem dX10_added_1 : decode cX10_added 1 = .ok (.invokevirtual 226, 3) := by decide +kernel
theorem dX10_added_4 : decode cX10_added 4 = .ok (.istore_n 1, 1) := by decide +kernel
theorem dX10_added_5 : decode cX10_added 5 = .ok (.aload_n 0, 1) := by decide +kernel
theorem dX10_added_6 : decode cX10_added 6 = .ok (.bipush 43, 2) := by decide +kernel
theorem dX10_added_8 : decode cX10_added 8 = .ok (.invokevirtual 209, 3) := by decide +kernel
theorem dX10_added_11 : decode cX10_added 11 = .ok (.ifCond .ne 12, 3) := by decide +kernel
theorem dX10_added_14 : decode cX10_added 14 = .ok (.aload_n 0, 1) := by decide +kernel
theorem dX10_added_15 : decode cX10_added 15 = .ok (.bipush 45, 2) := by decide +kernel
theorem dX10_added_17 : decode cX10_added 17 = .ok (.invokevirtual 209, 3) := by decide +kernel
theorem dX10_added_20 : decode cX10_added 20 = .ok (.ifCond .eq 46, 3) := by decide +kernel
theorem dX10_added_23 : decode cX10_added 23 = .ok (.aload_n 0, 1) := by decide +kernel
theorem dX10_added_24 : decode cX10_added 24 = .ok (.getfield 163, 3) := by decide +kernel
theorem dX10_added_27 : decode cX10_added 27 = .ok (.ldc2_w 229, 3) := by decide +kernel
theorem dX10_added_30 : decode cX10_added 30 = .ok (.lcmp, 1) := by decide +kernel
theorem dX10_added_31 : decode cX10_added 31 = .ok (.ifCond .ne 7, 3) := by decide +kernel
theorem dX10_added_34 : decode cX10_added 34 = .ok (.iconst 1, 1) := by decide +kernel
theorem dX10_added_35 : decode cX10_added 35 = .ok (.goto 4, 3) := by decide +kernel
theorem dX10_added_38 : decode cX10_added 38 = .ok (.iconst 0, 1) := by decide +kernel
theorem dX10_added_39 : decode cX10_added 39 = .ok (.istore_n 2, 1) := by decide +kernel
theorem dX10_added_40 : decode cX10_added 40 = .ok (.aload_n 0, 1) := by decide +kernel
theorem dX10_added_41 : decode cX10_added 41 = .ok (.invokevirtual 184, 3) := by decide +kernel
theorem dX10_added_44 : decode cX10_added 44 = .ok (.aload_n 0, 1) := by decide +kernel
theorem dX10_added_45 : decode cX10_added 45 = .ok (.invokevirtual 226, 3) := by decide +kernel
theorem dX10_added_48 : decode cX10_added 48 = .ok (.istore_n 3, 1) := by decide +kernel
theorem dX10_added_49 : decode cX10_added 49 = .ok (.iload_n 2, 1) := by decide +kernel
theorem dX10_added_50 : decode cX10_added 50 = .ok (.ifCond .eq 9, 3) := by decide +kernel
theorem dX10_added_53 : decode cX10_added 53 = .ok (.iload_n 1, 1) := by decide +kernel
theorem dX10_added_54 : decode cX10_added 54 = .ok (.iload_n 3, 1) := by decide +kernel
theorem dX10_added_55 : decode cX10_added 55 = .ok (.iadd, 1) := by decide +kernel
theorem dX10_added_56 : decode cX10_added 56 = .ok (.goto 6, 3) := by decide +kernel
theorem dX10_added_59 : decode cX10_added 59 = .ok (.iload_n 1, 1) := by decide +kernel
theorem dX10_added_60 : decode cX10_added 60 = .ok (.iload_n 3, 1) := by decide +kernel
theorem dX10_added_61 : decode cX10_added 61 = .ok (.isub, 1) := by decide +kernel
theorem dX10_added_62 : decode cX10_added 62 = .ok (.istore_n 1, 1) := by decide +kernel
theorem dX10_added_63 : decode cX10_added 63 = .ok (.goto (-58), 3) := by decide +kernel
theorem dX10_added_66 : decode cX10_added 66 = .ok (.iload_n 1, 1) := by decide +kernel
theorem dX10_added_67 : decode cX10_added 67 = .ok (.ireturn, 1) := by decide +kernel
theorem dX10_not_0 : decode cX10_not 0 = .ok (.aload_n 0, 1) := by decide +kernel
theorem dX10_not_1 : decode cX10_not 1 = .ok (.bipush 110, 2) := by decide +kernel
theorem dX10_not_3 : decode cX10_not 3 = .ok (.bipush 111, 2) := by decide +kernel
theorem dX10_not_5 : decode cX10_not 5 = .ok (.bipush 116, 2) := by decide +kernel
theorem dX10_not_7 : decode cX10_not 7 = .ok (.iconst 0, 1) := by decide +kernel
theorem dX10_not_8 : decode cX10_not 8 = .ok (.iconst 0, 1) := by decide +kernel
theorem dX10_not_9 : decode cX10_not 9 = .ok (.iconst 0, 1) := by decide +kernel
theorem dX10_not_10 : decode cX10_not 10 = .ok (.iconst 0, 1) := by decide +kernel
theorem dX10_not_11 : decode cX10_not 11 = .ok (.iconst 0, 1) := by decide +kernel
theorem dX10_not_12 : decode cX10_not 12 = .ok (.invokevirtual 187, 3) := by decide +kernel
theorem dX10_not_15 : decode cX10_not 15 = .ok (.ifCond .eq 37, 3) := by decide +kernel
theorem dX10_not_18 : decode cX10_not 18 = .ok (.aload_n 0, 1) := by decide +kernel
theorem dX10_not_19 : decode cX10_not 19 = .ok (.invokevirtual 212, 3) := by decide +kernel
theorem dX10_not_22 : decode cX10_not 22 = .ok (.ifCond .ne 5, 3) := by decide +kernel
theorem dX10_not_25 : decode cX10_not 25 = .ok (.iconst 0, 1) := by decide +kernel
theorem dX10_not_26 : decode cX10_not 26 = .ok (.ireturn, 1) := by decide +kernel
theorem dX10_not_27 : decode cX10_not 27 = .ok (.aload_n 0, 1) := by decide +kernel
theorem dX10_not_28 : decode cX10_not 28 = .ok (.invokevirtual 231, 3) := by decide +kernel
theorem dX10_not_31 : decode cX10_not 31 = .ok (.istore_n 1, 1) := by decide +kernel
theorem dX10_not_32 : decode cX10_not 32 = .ok (.aload_n 0, 1) := by decide +kernel
theorem dX10_not_33 : decode cX10_not 33 = .ok (.dup, 1) := by decide +kernel
theorem dX10_not_34 : decode cX10_not 34 = .ok (.getfield 178, 3) := by decide +kernel
theorem dX10_not_37 : decode cX10_not 37 = .ok (.iconst 1, 1) := by decide +kernel
theorem dX10_not_38 : decode cX10_not 38 = .ok (.isub, 1) := by decide +kernel
theorem dX10_not_39 : decode cX10_not 39 = .ok (.putfield 178, 3) := by decide +kernel
theorem dX10_not_42 : decode cX10_not 42 = .ok (.iload_n 1, 1) := by decide +kernel
theorem dX10_not_43 : decode cX10_not 43 = .ok (.ifCond .ne 7, 3) := by decide +kernel
theorem dX10_not_46 : decode cX10_not 46 = .ok (.iconst 1, 1) := by decide +kernel
theorem dX10_not_47 : decode cX10_not 47 = .ok (.goto 4, 3) := by decide +kernel
theorem dX10_not_50 : decode cX10_not 50 = .ok (.iconst 0, 1) := by decide +kernel
theorem dX10_not_51 : decode cX10_not 51 = .ok (.ireturn, 1) := by decide +kernel
theorem dX10_not_52 : decode cX10_not 52 = .ok (.aload_n 0, 1) := by decide +kernel
theorem dX10_not_53 : decode cX10_not 53 = .ok (.invokevirtual 234, 3) := by decide +kernel
theorem dX10_not_56 : decode cX10_not 56 = .ok (.istore_n 1, 1) := by decide +kernel
theorem dX10_not_57 : decode cX10_not 57 = .ok (.aload_n 0, 1) := by decide +kernel
theorem dX10_not_58 : decode cX10_not 58 = .ok (.bipush 60, 2) := by decide +kernel
theorem dX10_not_60 : decode cX10_not 60 = .ok (.invokevirtual 209, 3) := by decide +kernel
theorem dX10_not_63 : decode cX10_not 63 = .ok (.ifCond .ne 14, 3) := by decide +kernel
theorem dX10_not_66 : decode cX10_not 66 = .ok (.aload_n 0, 1) := by decide +kernel
theorem dX10_not_67 : decode cX10_not 67 = .ok (.bipush 61, 2) := by decide +kernel
theorem dX10_not_69 : decode cX10_not 69 = .ok (.invokevirtual 209, 3) := by decide +kernel
theorem dX10_not_72 : decode cX10_not 72 = .ok (.ifCond .ne 5, 3) := by decide +kernel
theorem dX10_not_75 : decode cX10_not 75 = .ok (.iload_n 1, 1) := by decide +kernel
theorem dX10_not_76 : decode cX10_not 76 = .ok (.ireturn, 1) := by decide +kernel
theorem dX10_not_77 : decode cX10_not 77 = .ok (.aload_n 0, 1) := by decide +kernel
theorem dX10_not_78 : decode cX10_not 78 = .ok (.getfield 163, 3) := by decide +kernel
theorem dX10_not_81 : decode cX10_not 81 = .ok (.ldc2_w 237, 3) := by decide +kernel
theorem dX10_not_84 : decode cX10_not 84 = .ok (.lcmp, 1) := by decide +kernel
theorem dX10_not_85 : decode cX10_not 85 = .ok (.ifCond .ne 7, 3) := by decide +kernel
theorem dX10_not_88 : decode cX10_not 88 = .ok (.iconst 1, 1) := by decide +kernel
theorem dX10_not_89 : decode cX10_not 89 = .ok (.goto 4, 3) := by decide +kernel
theorem dX10_not_92 : decode cX10_not 92 = .ok (.iconst 0, 1) := by decide +kernel
theorem dX10_not_93 : decode cX10_not 93 = .ok (.istore_n 2, 1) := by decide +kernel
theorem dX10_not_94 : decode cX10_not 94 = .ok (.aload_n 0, 1) := by decide +kernel
theorem dX10_not_95 : decode cX10_not 95 = .ok (.invokevirtual 184, 3) := by decide +kernel
theorem dX10_not_98 : decode cX10_not 98 = .ok (.aload_n 0, 1) := by decide +kernel
theorem dX10_not_99 : decode cX10_not 99 = .ok (.invokevirtual 234, 3) := by decide +kernel
theorem dX10_not_102 : decode cX10_not 102 = .ok (.istore_n 3, 1) := by decide +kernel
theorem dX10_not_103 : decode cX10_not 103 = .ok (.iload_n 2, 1) := by decide +kernel
theorem dX10_not_104 : decode cX10_not 104 = .ok (.ifCond .eq 11, 3) := by decide +kernel
theorem dX10_not_107 : decode cX10_not 107 = .ok (.iload_n 1, 1) := by decide +kernel
theorem dX10_not_108 : decode cX10_not 108 = .ok (.iload_n 3, 1) := by decide +kernel
theorem dX10_not_109 : decode cX10_not 109 = .ok (.if_icmp .ge 15, 3) := by decide +kernel
theorem dX10_not_112 : decode cX10_not 112 = .ok (.goto 8, 3) := by decide +kernel
theorem dX10_not_115 : decode cX10_not 115 = .ok (.iload_n 1, 1) := by decide +kernel
theorem dX10_not_116 : decode cX10_not 116 = .ok (.iload_n 3, 1) := by decide +kernel
theorem dX10_not_117 : decode cX10_not 117 = .ok (.if_icmp .ne 7, 3) := by decide +kernel
theorem dX10_not_120 : decode cX10_not 120 = .ok (.iconst 1, 1) := by decide +kernel
theorem dX10_not_121 : decode cX10_not 121 = .ok (.goto 4, 3) := by decide +kernel
theorem dX10_not_124 : decode cX10_not 124 = .ok (.iconst 0, 1) := by decide +kernel
theorem dX10_not_125 : decode cX10_not 125 = .ok (.ireturn, 1) := by decide +kernel
theorem dX10_both_0 : decode cX10_both 0 = .ok (.aload_n 0, 1) := by decide +kernel
theorem dX10_both_1 : decode cX10_both 1 = .ok (.invokevirtual 231, 3) := by decide +kernel
theorem dX10_both_4 : decode cX10_both 4 = .ok (.istore_n 1, 1) := by decide +kernel
theorem dX10_both_5 : decode cX10_both 5 = .ok (.aload_n 0, 1) := by decide +kernel
theorem dX10_both_6 : decode cX10_both 6 = .ok (.bipush 97, 2) := by decide +kernel
theorem dX10_both_8 : decode cX10_both 8 = .ok (.bipush 110, 2) := by decide +kernel
theorem dX10_both_10 : decode cX10_both 10 = .ok (.bipush 100, 2) := by decide +kernel
theorem dX10_both_12 : decode cX10_both 12 = .ok (.iconst 0, 1) := by decide +kernel
theorem dX10_both_13 : decode cX10_both 13 = .ok (.iconst 0, 1) := by decide +kernel
theorem dX10_both_14 : decode cX10_both 14 = .ok (.iconst 0, 1) := by decide +kernel
theorem dX10_both_15 : decode cX10_both 15 = .ok (.iconst 0, 1) := by decide +kernel
theorem dX10_both_16 : decode cX10_both 16 = .ok (.iconst 0, 1) := by decide +kernel
theorem dX10_both_17 : decode cX10_both 17 = .ok (.invokevirtual 187, 3) := by decide +kernel
theorem dX10_both_20 : decode cX10_both 20 = .ok (.ifCond .eq 29, 3) := by decide +kernel
theorem dX10_both_23 : decode cX10_both 23 = .ok (.aload_n 0, 1) := by decide +kernel
theorem dX10_both_24 : decode cX10_both 24 = .ok (.invokevirtual 184, 3) := by decide +kernel
theorem dX10_both_27 : decode cX10_both 27 = .ok (.aload_n 0, 1) := by decide +kernel
theorem dX10_both_28 : decode cX10_both 28 = .ok (.invokevirtual 231, 3) := by decide +kernel
theorem dX10_both_31 : decode cX10_both 31 = .ok (.istore_n 2, 1) := by decide +kernel
theorem dX10_both_32 : decode cX10_both 32 = .ok (.iload_n 1, 1) := by decide +kernel
theorem dX10_both_33 : decode cX10_both 33 = .ok (.ifCond .eq 11, 3) := by decide +kernel
theorem dX10_both_36 : decode cX10_both 36 = .ok (.iload_n 2, 1) := by decide +kernel
theorem dX10_both_37 : decode cX10_both 37 = .ok (.ifCond .eq 7, 3) := by decide +kernel
theorem dX10_both_40 : decode cX10_both 40 = .ok (.iconst 1, 1) := by decide +kernel
theorem dX10_both_41 : decode cX10_both 41 = .ok (.goto 4, 3) := by decide +kernel
theorem dX10_both_44 : decode cX10_both 44 = .ok (.iconst 0, 1) := by decide +kernel
theorem dX10_both_45 : decode cX10_both 45 = .ok (.istore_n 1, 1) := by decide +kernel
theorem dX10_both_46 : decode cX10_both 46 = .ok (.goto (-41), 3) := by decide +kernel
theorem dX10_both_49 : decode cX10_both 49 = .ok (.iload_n 1, 1) := by decide +kernel
theorem dX10_both_50 : decode cX10_both 50 = .ok (.ireturn, 1) := by decide +kernel
theorem dX10_either_0 : decode cX10_either 0 = .ok (.aload_n 0, 1) := by decide +kernel
theorem dX10_either_1 : decode cX10_either 1 = .ok (.invokevirtual 239, 3) := by decide +kernel
theorem dX10_either_4 : decode cX10_either 4 = .ok (.istore_n 1, 1) := by decide +kernel
theorem dX10_either_5 : decode cX10_either 5 = .ok (.aload_n 0, 1) := by decide +kernel
theorem dX10_either_6 : decode cX10_either 6 = .ok (.bipush 111, 2) := by decide +kernel
theorem dX10_either_8 : decode cX10_either 8 = .ok (.bipush 114, 2) := by decide +kernel
theorem dX10_either_10 : decode cX10_either 10 = .ok (.iconst 0, 1) := by decide +kernel
theorem dX10_either_11 : decode cX10_either 11 = .ok (.iconst 0, 1) := by decide +kernel
theorem dX10_either_12 : decode cX10_either 12 = .ok (.iconst 0, 1) := by decide +kernel
theorem dX10_either_13 : decode cX10_either 13 = .ok (.iconst 0, 1) := by decide +kernel
theorem dX10_either_14 : decode cX10_either 14 = .ok (.iconst 0, 1) := by decide +kernel
theorem dX10_either_15 : decode cX10_either 15 = .ok (.iconst 0, 1) := by decide +kernel
theorem dX10_either_16 : decode cX10_either 16 = .ok (.invokevirtual 187, 3) := by decide +kernel
theorem dX10_either_19 : decode cX10_either 19 = .ok (.ifCond .eq 29, 3) := by decide +kernel
theorem dX10_either_22 : decode cX10_either 22 = .ok (.aload_n 0, 1) := by decide +kernel
theorem dX10_either_23 : decode cX10_either 23 = .ok (.invokevirtual 184, 3) := by decide +kernel
theorem dX10_either_26 : decode cX10_either 26 = .ok (.aload_n 0, 1) := by decide +kernel
theorem dX10_either_27 : decode cX10_either 27 = .ok (.invokevirtual 239, 3) := by decide +kernel
theorem dX10_either_30 : decode cX10_either 30 = .ok (.istore_n 2, 1) := by decide +kernel
theorem dX10_either_31 : decode cX10_either 31 = .ok (.iload_n 1, 1) := by decide +kernel
theorem dX10_either_32 : decode cX10_either 32 = .ok (.ifCond .ne 7, 3) := by decide +kernel
theorem dX10_either_35 : decode cX10_either 35 = .ok (.iload_n 2, 1) := by decide +kernel
theorem dX10_either_36 : decode cX10_either 36 = .ok (.ifCond .eq 7, 3) := by decide +kernel
theorem dX10_either_39 : decode cX10_either 39 = .ok (.iconst 1, 1) := by decide +kernel
theorem dX10_either_40 : decode cX10_either 40 = .ok (.goto 4, 3) := by decide +kernel
theorem dX10_either_43 : decode cX10_either 43 = .ok (.iconst 0, 1) := by decide +kernel
theorem dX10_either_44 : decode cX10_either 44 = .ok (.istore_n 1, 1) := by decide +kernel
theorem dX10_either_45 : decode cX10_either 45 = .ok (.goto (-40), 3) := by decide +kernel
theorem dX10_either_48 : decode cX10_either 48 = .ok (.iload_n 1, 1) := by decide +kernel
theorem dX10_either_49 : decode cX10_either 49 = .ok (.ireturn, 1) := by decide +kernel
theorem dX10_part_0 : decode cX10_part 0 = .ok (.iload_n 1, 1) := by decide +kernel
theorem dX10_part_1 : decode cX10_part 1 = .ok (.ifCond .ne 7, 3) := by decide +kernel
theorem dX10_part_4 : decode cX10_part 4 = .ok (.aload_n 0, 1) := by decide +kernel
theorem dX10_part_5 : decode cX10_part 5 = .ok (.invokevirtual 181, 3) := by decide +kernel
theorem dX10_part_8 : decode cX10_part 8 = .ok (.aload_n 0, 1) := by decide +kernel
theorem dX10_part_9 : decode cX10_part 9 = .ok (.getfield 167, 3) := by decide +kernel
theorem dX10_part_12 : decode cX10_part 12 = .ok (.ifCond .ne 7, 3) := by decide +kernel
theorem dX10_part_15 : decode cX10_part 15 = .ok (.aload_n 0, 1) := by decide +kernel
theorem dX10_part_16 : decode cX10_part 16 = .ok (.invokevirtual 184, 3) := by decide +kernel
theorem dX10_part_19 : decode cX10_part 19 = .ok (.aload_n 0, 1) := by decide +kernel
theorem dX10_part_20 : decode cX10_part 20 = .ok (.getfield 167, 3) := by decide +kernel
theorem dX10_part_23 : decode cX10_part 23 = .ok (.ifCond .eq 7, 3) := by decide +kernel
theorem dX10_part_26 : decode cX10_part 26 = .ok (.iconst 0, 1) := by decide +kernel
theorem dX10_part_27 : decode cX10_part 27 = .ok (.goto 7, 3) := by decide +kernel
theorem dX10_part_30 : decode cX10_part 30 = .ok (.aload_n 0, 1) := by decide +kernel
theorem dX10_part_31 : decode cX10_part 31 = .ok (.invokevirtual 220, 3) := by decide +kernel
theorem dX10_part_34 : decode cX10_part 34 = .ok (.istore_n 2, 1) := by decide +kernel
theorem dX10_part_35 : decode cX10_part 35 = .ok (.aload_n 0, 1) := by decide +kernel
theorem dX10_part_36 : decode cX10_part 36 = .ok (.bipush 59, 2) := by decide +kernel
theorem dX10_part_38 : decode cX10_part 38 = .ok (.invokevirtual 209, 3) := by decide +kernel
theorem dX10_part_41 : decode cX10_part 41 = .ok (.ifCond .ne 7, 3) := by decide +kernel
theorem dX10_part_44 : decode cX10_part 44 = .ok (.aload_n 0, 1) := by decide +kernel
theorem dX10_part_45 : decode cX10_part 45 = .ok (.invokevirtual 181, 3) := by decide +kernel
theorem dX10_part_48 : decode cX10_part 48 = .ok (.aload_n 0, 1) := by decide +kernel
theorem dX10_part_49 : decode cX10_part 49 = .ok (.getfield 167, 3) := by decide +kernel
theorem dX10_part_52 : decode cX10_part 52 = .ok (.ifCond .ne 7, 3) := by decide +kernel
theorem dX10_part_55 : decode cX10_part 55 = .ok (.aload_n 0, 1) := by decide +kernel
theorem dX10_part_56 : decode cX10_part 56 = .ok (.invokevirtual 184, 3) := by decide +kernel
theorem dX10_part_59 : decode cX10_part 59 = .ok (.iload_n 2, 1) := by decide +kernel
theorem dX10_part_60 : decode cX10_part 60 = .ok (.ireturn, 1) := by decide +kernel
theorem dX10_read_0 : decode cX10_read 0 = .ok (.aload_n 0, 1) := by decide +kernel
theorem dX10_read_1 : decode cX10_read 1 = .ok (.sipush 160, 3) := by decide +kernel
theorem dX10_read_4 : decode cX10_read 4 = .ok (.iload_n 1, 1) := by decide +kernel
theorem dX10_read_5 : decode cX10_read 5 = .ok (.imul, 1) := by decide +kernel
theorem dX10_read_6 : decode cX10_read 6 = .ok (.putfield 140, 3) := by decide +kernel
theorem dX10_read_9 : decode cX10_read 9 = .ok (.aload_n 0, 1) := by decide +kernel
theorem dX10_read_10 : decode cX10_read 10 = .ok (.aload_n 0, 1) := by decide +kernel
theorem dX10_read_11 : decode cX10_read 11 = .ok (.getfield 17, 3) := by decide +kernel
theorem dX10_read_14 : decode cX10_read 14 = .ok (.iload_n 1, 1) := by decide +kernel
theorem dX10_read_15 : decode cX10_read 15 = .ok (.iaload, 1) := by decide +kernel
theorem dX10_read_16 : decode cX10_read 16 = .ok (.putfield 137, 3) := by decide +kernel
theorem dX10_read_19 : decode cX10_read 19 = .ok (.aload_n 0, 1) := by decide +kernel
theorem dX10_read_20 : decode cX10_read 20 = .ok (.iconst 0, 1) := by decide +kernel
theorem dX10_read_21 : decode cX10_read 21 = .ok (.putfield 143, 3) := by decide +kernel
theorem dX10_read_24 : decode cX10_read 24 = .ok (.aload_n 0, 1) := by decide +kernel
theorem dX10_read_25 : decode cX10_read 25 = .ok (.iconst 0, 1) := by decide +kernel
theorem dX10_read_26 : decode cX10_read 26 = .ok (.putfield 178, 3) := by decide +kernel
theorem dX10_read_29 : decode cX10_read 29 = .ok (.aload_n 0, 1) := by decide +kernel
theorem dX10_read_30 : decode cX10_read 30 = .ok (.iconst 0, 1) := by decide +kernel
theorem dX10_read_31 : decode cX10_read 31 = .ok (.putfield 167, 3) := by decide +kernel
theorem dX10_read_34 : decode cX10_read 34 = .ok (.aload_n 0, 1) := by decide +kernel
theorem dX10_read_35 : decode cX10_read 35 = .ok (.invokevirtual 184, 3) := by decide +kernel
theorem dX10_read_38 : decode cX10_read 38 = .ok (.aload_n 0, 1) := by decide +kernel
theorem dX10_read_39 : decode cX10_read 39 = .ok (.aload_n 0, 1) := by decide +kernel
theorem dX10_read_40 : decode cX10_read 40 = .ok (.bipush 104, 2) := by decide +kernel
theorem dX10_read_42 : decode cX10_read 42 = .ok (.bipush 101, 2) := by decide +kernel
theorem dX10_read_44 : decode cX10_read 44 = .ok (.bipush 97, 2) := by decide +kernel
theorem dX10_read_46 : decode cX10_read 46 = .ok (.bipush 116, 2) := by decide +kernel
theorem dX10_read_48 : decode cX10_read 48 = .ok (.bipush 115, 2) := by decide +kernel
theorem dX10_read_50 : decode cX10_read 50 = .ok (.iconst 0, 1) := by decide +kernel
theorem dX10_read_51 : decode cX10_read 51 = .ok (.iconst 0, 1) := by decide +kernel
theorem dX10_read_52 : decode cX10_read 52 = .ok (.iconst 0, 1) := by decide +kernel
theorem dX10_read_53 : decode cX10_read 53 = .ok (.invokevirtual 187, 3) := by decide +kernel
theorem dX10_read_56 : decode cX10_read 56 = .ok (.invokevirtual 242, 3) := by decide +kernel
theorem dX10_read_59 : decode cX10_read 59 = .ok (.istore_n 3, 1) := by decide +kernel
theorem dX10_read_60 : decode cX10_read 60 = .ok (.aload_n 0, 1) := by decide +kernel
theorem dX10_read_61 : decode cX10_read 61 = .ok (.getfield 167, 3) := by decide +kernel
theorem dX10_read_64 : decode cX10_read 64 = .ok (.ifCond .eq 7, 3) := by decide +kernel
theorem dX10_read_67 : decode cX10_read 67 = .ok (.iconst 0, 1) := by decide +kernel
theorem dX10_read_68 : decode cX10_read 68 = .ok (.goto 24, 3) := by decide +kernel
theorem dX10_read_71 : decode cX10_read 71 = .ok (.aload_n 0, 1) := by decide +kernel
theorem dX10_read_72 : decode cX10_read 72 = .ok (.aload_n 0, 1) := by decide +kernel
theorem dX10_read_73 : decode cX10_read 73 = .ok (.bipush 99, 2) := by decide +kernel
theorem dX10_read_75 : decode cX10_read 75 = .ok (.bipush 97, 2) := by decide +kernel
theorem dX10_read_77 : decode cX10_read 77 = .ok (.bipush 108, 2) := by decide +kernel
theorem dX10_read_79 : decode cX10_read 79 = .ok (.bipush 109, 2) := by decide +kernel
theorem dX10_read_81 : decode cX10_read 81 = .ok (.bipush 115, 2) := by decide +kernel
theorem dX10_read_83 : decode cX10_read 83 = .ok (.iconst 0, 1) := by decide +kernel
theorem dX10_read_84 : decode cX10_read 84 = .ok (.iconst 0, 1) := by decide +kernel
theorem dX10_read_85 : decode cX10_read 85 = .ok (.iconst 0, 1) := by decide +kernel
theorem dX10_read_86 : decode cX10_read 86 = .ok (.invokevirtual 187, 3) := by decide +kernel
theorem dX10_read_89 : decode cX10_read 89 = .ok (.invokevirtual 242, 3) := by decide +kernel
theorem dX10_read_92 : decode cX10_read 92 = .ok (.istore 4, 2) := by decide +kernel
theorem dX10_read_94 : decode cX10_read 94 = .ok (.aload_n 0, 1) := by decide +kernel
theorem dX10_read_95 : decode cX10_read 95 = .ok (.getfield 167, 3) := by decide +kernel
theorem dX10_read_98 : decode cX10_read 98 = .ok (.ifCond .eq 7, 3) := by decide +kernel
theorem dX10_read_101 : decode cX10_read 101 = .ok (.iconst 0, 1) := by decide +kernel
theorem dX10_read_102 : decode cX10_read 102 = .ok (.goto 24, 3) := by decide +kernel
theorem dX10_read_105 : decode cX10_read 105 = .ok (.aload_n 0, 1) := by decide +kernel
theorem dX10_read_106 : decode cX10_read 106 = .ok (.aload_n 0, 1) := by decide +kernel
theorem dX10_read_107 : decode cX10_read 107 = .ok (.bipush 102, 2) := by decide +kernel
theorem dX10_read_109 : decode cX10_read 109 = .ok (.bipush 101, 2) := by decide +kernel
theorem dX10_read_111 : decode cX10_read 111 = .ok (.bipush 101, 2) := by decide +kernel
theorem dX10_read_113 : decode cX10_read 113 = .ok (.bipush 108, 2) := by decide +kernel
theorem dX10_read_115 : decode cX10_read 115 = .ok (.bipush 115, 2) := by decide +kernel
theorem dX10_read_117 : decode cX10_read 117 = .ok (.iconst 0, 1) := by decide +kernel
theorem dX10_read_118 : decode cX10_read 118 = .ok (.iconst 0, 1) := by decide +kernel
theorem dX10_read_119 : decode cX10_read 119 = .ok (.iconst 0, 1) := by decide +kernel
theorem dX10_read_120 : decode cX10_read 120 = .ok (.invokevirtual 187, 3) := by decide +kernel
theorem dX10_read_123 : decode cX10_read 123 = .ok (.invokevirtual 242, 3) := by decide +kernel
theorem dX10_read_126 : decode cX10_read 126 = .ok (.istore 5, 2) := by decide +kernel
theorem dX10_read_128 : decode cX10_read 128 = .ok (.aload_n 0, 1) := by decide +kernel
theorem dX10_read_129 : decode cX10_read 129 = .ok (.getfield 167, 3) := by decide +kernel
theorem dX10_read_132 : decode cX10_read 132 = .ok (.ifCond .ne 14, 3) := by decide +kernel
theorem dX10_read_135 : decode cX10_read 135 = .ok (.aload_n 0, 1) := by decide +kernel
theorem dX10_read_136 : decode cX10_read 136 = .ok (.getfield 152, 3) := by decide +kernel
theorem dX10_read_139 : decode cX10_read 139 = .ok (.ifCond .eq 7, 3) := by decide +kernel
theorem dX10_read_142 : decode cX10_read 142 = .ok (.aload_n 0, 1) := by decide +kernel
theorem dX10_read_143 : decode cX10_read 143 = .ok (.invokevirtual 181, 3) := by decide +kernel
theorem dX10_read_146 : decode cX10_read 146 = .ok (.iload_n 2, 1) := by decide +kernel
theorem dX10_read_147 : decode cX10_read 147 = .ok (.ifCond .ne 7, 3) := by decide +kernel
theorem dX10_read_150 : decode cX10_read 150 = .ok (.iload_n 3, 1) := by decide +kernel
theorem dX10_read_151 : decode cX10_read 151 = .ok (.goto 15, 3) := by decide +kernel
theorem dX10_read_154 : decode cX10_read 154 = .ok (.iload_n 2, 1) := by decide +kernel
theorem dX10_read_155 : decode cX10_read 155 = .ok (.iconst 1, 1) := by decide +kernel
theorem dX10_read_156 : decode cX10_read 156 = .ok (.if_icmp .ne 8, 3) := by decide +kernel
theorem dX10_read_159 : decode cX10_read 159 = .ok (.iload 4, 2) := by decide +kernel
theorem dX10_read_161 : decode cX10_read 161 = .ok (.goto 5, 3) := by decide +kernel
theorem dX10_read_164 : decode cX10_read 164 = .ok (.iload 5, 2) := by decide +kernel
theorem dX10_read_166 : decode cX10_read 166 = .ok (.ireturn, 1) := by decide +kernel
theorem dX10_text_0 : decode cX10_text 0 = .ok (.aload_n 0, 1) := by decide +kernel
theorem dX10_text_1 : decode cX10_text 1 = .ok (.getfield 73, 3) := by decide +kernel
theorem dX10_text_4 : decode cX10_text 4 = .ok (.bipush 6, 2) := by decide +kernel
theorem dX10_text_6 : decode cX10_text 6 = .ok (.if_icmp .ne 6, 3) := by decide +kernel
theorem dX10_text_9 : decode cX10_text 9 = .ok (.bipush (-4), 2) := by decide +kernel
theorem dX10_text_11 : decode cX10_text 11 = .ok (.ireturn, 1) := by decide +kernel
theorem dX10_text_12 : decode cX10_text 12 = .ok (.iconst 0, 1) := by decide +kernel
theorem dX10_text_13 : decode cX10_text 13 = .ok (.istore_n 1, 1) := by decide +kernel
theorem dX10_text_14 : decode cX10_text 14 = .ok (.iload_n 1, 1) := by decide +kernel
theorem dX10_text_15 : decode cX10_text 15 = .ok (.aload_n 0, 1) := by decide +kernel
theorem dX10_text_16 : decode cX10_text 16 = .ok (.getfield 134, 3) := by decide +kernel
theorem dX10_text_19 : decode cX10_text 19 = .ok (.if_icmp .ge 30, 3) := by decide +kernel
theorem dX10_text_22 : decode cX10_text 22 = .ok (.aload_n 0, 1) := by decide +kernel
theorem dX10_text_23 : decode cX10_text 23 = .ok (.getfield 13, 3) := by decide +kernel
theorem dX10_text_26 : decode cX10_text 26 = .ok (.sipush 160, 3) := by decide +kernel
theorem dX10_text_29 : decode cX10_text 29 = .ok (.aload_n 0, 1) := by decide +kernel
theorem dX10_text_30 : decode cX10_text 30 = .ok (.getfield 73, 3) := by decide +kernel
theorem dX10_text_33 : decode cX10_text 33 = .ok (.imul, 1) := by decide +kernel
theorem dX10_text_34 : decode cX10_text 34 = .ok (.iload_n 1, 1) := by decide +kernel
theorem dX10_text_35 : decode cX10_text 35 = .ok (.iadd, 1) := by decide +kernel
theorem dX10_text_36 : decode cX10_text 36 = .ok (.aload_n 0, 1) := by decide +kernel
theorem dX10_text_37 : decode cX10_text 37 = .ok (.getfield 20, 3) := by decide +kernel
theorem dX10_text_40 : decode cX10_text 40 = .ok (.iload_n 1, 1) := by decide +kernel
theorem dX10_text_41 : decode cX10_text 41 = .ok (.iaload, 1) := by decide +kernel
theorem dX10_text_42 : decode cX10_text 42 = .ok (.iastore, 1) := by decide +kernel
theorem dX10_text_43 : decode cX10_text 43 = .ok (.iinc 1 1, 3) := by decide +kernel
theorem dX10_text_46 : decode cX10_text 46 = .ok (.goto (-32), 3) := by decide +kernel
theorem dX10_text_49 : decode cX10_text 49 = .ok (.aload_n 0, 1) := by decide +kernel
theorem dX10_text_50 : decode cX10_text 50 = .ok (.getfield 17, 3) := by decide +kernel
theorem dX10_text_53 : decode cX10_text 53 = .ok (.aload_n 0, 1) := by decide +kernel
theorem dX10_text_54 : decode cX10_text 54 = .ok (.getfield 73, 3) := by decide +kernel
theorem dX10_text_57 : decode cX10_text 57 = .ok (.aload_n 0, 1) := by decide +kernel
theorem dX10_text_58 : decode cX10_text 58 = .ok (.getfield 134, 3) := by decide +kernel
theorem dX10_text_61 : decode cX10_text 61 = .ok (.iastore, 1) := by decide +kernel
theorem dX10_text_62 : decode cX10_text 62 = .ok (.aload_n 0, 1) := by decide +kernel
theorem dX10_text_63 : decode cX10_text 63 = .ok (.iconst 0, 1) := by decide +kernel
theorem dX10_text_64 : decode cX10_text 64 = .ok (.putfield 134, 3) := by decide +kernel
theorem dX10_text_67 : decode cX10_text 67 = .ok (.aload_n 0, 1) := by decide +kernel
theorem dX10_text_68 : decode cX10_text 68 = .ok (.aload_n 0, 1) := by decide +kernel
theorem dX10_text_69 : decode cX10_text 69 = .ok (.getfield 73, 3) := by decide +kernel
theorem dX10_text_72 : decode cX10_text 72 = .ok (.iconst 0, 1) := by decide +kernel
theorem dX10_text_73 : decode cX10_text 73 = .ok (.invokevirtual 246, 3) := by decide +kernel
theorem dX10_text_76 : decode cX10_text 76 = .ok (.istore_n 1, 1) := by decide +kernel
theorem dX10_text_77 : decode cX10_text 77 = .ok (.aload_n 0, 1) := by decide +kernel
theorem dX10_text_78 : decode cX10_text 78 = .ok (.getfield 167, 3) := by decide +kernel
theorem dX10_text_81 : decode cX10_text 81 = .ok (.ifCond .eq 11, 3) := by decide +kernel
theorem dX10_text_84 : decode cX10_text 84 = .ok (.bipush (-100), 2) := by decide +kernel
theorem dX10_text_86 : decode cX10_text 86 = .ok (.aload_n 0, 1) := by decide +kernel
theorem dX10_text_87 : decode cX10_text 87 = .ok (.getfield 171, 3) := by decide +kernel
theorem dX10_text_90 : decode cX10_text 90 = .ok (.isub, 1) := by decide +kernel
theorem dX10_text_91 : decode cX10_text 91 = .ok (.ireturn, 1) := by decide +kernel
theorem dX10_text_92 : decode cX10_text 92 = .ok (.aload_n 0, 1) := by decide +kernel
theorem dX10_text_93 : decode cX10_text 93 = .ok (.dup, 1) := by decide +kernel
theorem dX10_text_94 : decode cX10_text 94 = .ok (.getfield 73, 3) := by decide +kernel
theorem dX10_text_97 : decode cX10_text 97 = .ok (.iconst 1, 1) := by decide +kernel
theorem dX10_text_98 : decode cX10_text 98 = .ok (.iadd, 1) := by decide +kernel
theorem dX10_text_99 : decode cX10_text 99 = .ok (.putfield 73, 3) := by decide +kernel
theorem dX10_text_102 : decode cX10_text 102 = .ok (.aload_n 0, 1) := by decide +kernel
theorem dX10_text_103 : decode cX10_text 103 = .ok (.getfield 73, 3) := by decide +kernel
theorem dX10_text_106 : decode cX10_text 106 = .ok (.iconst 1, 1) := by decide +kernel
theorem dX10_text_107 : decode cX10_text 107 = .ok (.isub, 1) := by decide +kernel
theorem dX10_text_108 : decode cX10_text 108 = .ok (.ireturn, 1) := by decide +kernel
theorem dX10_force_0 : decode cX10_force 0 = .ok (.iload_n 1, 1) := by decide +kernel
theorem dX10_force_1 : decode cX10_force 1 = .ok (.i2l, 1) := by decide +kernel
theorem dX10_force_2 : decode cX10_force 2 = .ok (.lconst 0, 1) := by decide +kernel
theorem dX10_force_3 : decode cX10_force 3 = .ok (.aload_n 0, 1) := by decide +kernel
theorem dX10_force_4 : decode cX10_force 4 = .ok (.getfield 73, 3) := by decide +kernel
theorem dX10_force_7 : decode cX10_force 7 = .ok (.iconst 1, 1) := by decide +kernel
theorem dX10_force_8 : decode cX10_force 8 = .ok (.isub, 1) := by decide +kernel
theorem dX10_force_9 : decode cX10_force 9 = .ok (.i2l, 1) := by decide +kernel
theorem dX10_force_10 : decode cX10_force 10 = .ok (.invokestatic 79, 3) := by decide +kernel
theorem dX10_force_13 : decode cX10_force 13 = .ok (.ifCond .ne 6, 3) := by decide +kernel
theorem dX10_force_16 : decode cX10_force 16 = .ok (.bipush (-2), 2) := by decide +kernel
theorem dX10_force_18 : decode cX10_force 18 = .ok (.ireturn, 1) := by decide +kernel
theorem dX10_force_19 : decode cX10_force 19 = .ok (.aload_n 0, 1) := by decide +kernel
theorem dX10_force_20 : decode cX10_force 20 = .ok (.getfield 104, 3) := by decide +kernel
theorem dX10_force_23 : decode cX10_force 23 = .ok (.istore_n 2, 1) := by decide +kernel
theorem dX10_force_24 : decode cX10_force 24 = .ok (.aload_n 0, 1) := by decide +kernel
theorem dX10_force_25 : decode cX10_force 25 = .ok (.iload_n 1, 1) := by decide +kernel
theorem dX10_force_26 : decode cX10_force 26 = .ok (.putfield 104, 3) := by decide +kernel
theorem dX10_force_29 : decode cX10_force 29 = .ok (.iload_n 2, 1) := by decide +kernel
theorem dX10_force_30 : decode cX10_force 30 = .ok (.ireturn, 1) := by decide +kernel
theorem dX10_says_0 : decode cX10_says 0 = .ok (.aload_n 0, 1) := by decide +kernel
theorem dX10_says_1 : decode cX10_says 1 = .ok (.aload_n 0, 1) := by decide +kernel
theorem dX10_says_2 : decode cX10_says 2 = .ok (.iload_n 3, 1) := by decide +kernel
theorem dX10_says_3 : decode cX10_says 3 = .ok (.invokevirtual 119, 3) := by decide +kernel
theorem dX10_says_6 : decode cX10_says 6 = .ok (.putfield 191, 3) := by decide +kernel
theorem dX10_says_9 : decode cX10_says 9 = .ok (.aload_n 0, 1) := by decide +kernel
theorem dX10_says_10 : decode cX10_says 10 = .ok (.iload_n 1, 1) := by decide +kernel
theorem dX10_says_11 : decode cX10_says 11 = .ok (.iconst 2, 1) := by decide +kernel
theorem dX10_says_12 : decode cX10_says 12 = .ok (.if_icmp .ne 7, 3) := by decide +kernel
theorem dX10_says_15 : decode cX10_says 15 = .ok (.iconst 0, 1) := by decide +kernel
theorem dX10_says_16 : decode cX10_says 16 = .ok (.goto 5, 3) := by decide +kernel
theorem dX10_says_19 : decode cX10_says 19 = .ok (.iload 4, 2) := by decide +kernel
theorem dX10_says_21 : decode cX10_says 21 = .ok (.putfield 194, 3) := by decide +kernel
theorem dX10_says_24 : decode cX10_says 24 = .ok (.aload_n 0, 1) := by decide +kernel
theorem dX10_says_25 : decode cX10_says 25 = .ok (.aload_n 0, 1) := by decide +kernel
theorem dX10_says_26 : decode cX10_says 26 = .ok (.getfield 29, 3) := by decide +kernel
theorem dX10_says_29 : decode cX10_says 29 = .ok (.iconst 3, 1) := by decide +kernel
theorem dX10_says_30 : decode cX10_says 30 = .ok (.iload_n 2, 1) := by decide +kernel
theorem dX10_says_31 : decode cX10_says 31 = .ok (.imul, 1) := by decide +kernel
theorem dX10_says_32 : decode cX10_says 32 = .ok (.iaload, 1) := by decide +kernel
theorem dX10_says_33 : decode cX10_says 33 = .ok (.putfield 197, 3) := by decide +kernel
theorem dX10_says_36 : decode cX10_says 36 = .ok (.aload_n 0, 1) := by decide +kernel
theorem dX10_says_37 : decode cX10_says 37 = .ok (.iload_n 1, 1) := by decide +kernel
theorem dX10_says_38 : decode cX10_says 38 = .ok (.iconst 2, 1) := by decide +kernel
theorem dX10_says_39 : decode cX10_says 39 = .ok (.if_icmp .ne 7, 3) := by decide +kernel
theorem dX10_says_42 : decode cX10_says 42 = .ok (.iconst 0, 1) := by decide +kernel
theorem dX10_says_43 : decode cX10_says 43 = .ok (.goto 7, 3) := by decide +kernel
theorem dX10_says_46 : decode cX10_says 46 = .ok (.aload_n 0, 1) := by decide +kernel
theorem dX10_says_47 : decode cX10_says 47 = .ok (.getfield 101, 3) := by decide +kernel
theorem dX10_says_50 : decode cX10_says 50 = .ok (.putfield 200, 3) := by decide +kernel
theorem dX10_says_53 : decode cX10_says 53 = .ok (.aload_n 0, 1) := by decide +kernel
theorem dX10_says_54 : decode cX10_says 54 = .ok (.iload_n 1, 1) := by decide +kernel
theorem dX10_says_55 : decode cX10_says 55 = .ok (.iconst 2, 1) := by decide +kernel
theorem dX10_says_56 : decode cX10_says 56 = .ok (.if_icmp .ne 7, 3) := by decide +kernel
theorem dX10_says_59 : decode cX10_says 59 = .ok (.iconst 0, 1) := by decide +kernel
theorem dX10_says_60 : decode cX10_says 60 = .ok (.goto 4, 3) := by decide +kernel
theorem dX10_says_63 : decode cX10_says 63 = .ok (.iload_n 3, 1) := by decide +kernel
theorem dX10_says_64 : decode cX10_says 64 = .ok (.putfield 203, 3) := by decide +kernel
theorem dX10_says_67 : decode cX10_says 67 = .ok (.aload_n 0, 1) := by decide +kernel
theorem dX10_says_68 : decode cX10_says 68 = .ok (.iload_n 1, 1) := by decide +kernel
theorem dX10_says_69 : decode cX10_says 69 = .ok (.iconst 2, 1) := by decide +kernel
theorem dX10_says_70 : decode cX10_says 70 = .ok (.if_icmp .eq 12, 3) := by decide +kernel
theorem dX10_says_73 : decode cX10_says 73 = .ok (.iload_n 3, 1) := by decide +kernel
theorem dX10_says_74 : decode cX10_says 74 = .ok (.iload_n 2, 1) := by decide +kernel
theorem dX10_says_75 : decode cX10_says 75 = .ok (.if_icmp .ne 7, 3) := by decide +kernel
theorem dX10_says_78 : decode cX10_says 78 = .ok (.iconst 1, 1) := by decide +kernel
theorem dX10_says_79 : decode cX10_says 79 = .ok (.goto 4, 3) := by decide +kernel
theorem dX10_says_82 : decode cX10_says 82 = .ok (.iconst 0, 1) := by decide +kernel
theorem dX10_says_83 : decode cX10_says 83 = .ok (.putfield 206, 3) := by decide +kernel
theorem dX10_says_86 : decode cX10_says 86 = .ok (.aload_n 0, 1) := by decide +kernel
theorem dX10_says_87 : decode cX10_says 87 = .ok (.aload_n 0, 1) := by decide +kernel
theorem dX10_says_88 : decode cX10_says 88 = .ok (.getfield 104, 3) := by decide +kernel
theorem dX10_says_91 : decode cX10_says 91 = .ok (.iload_n 1, 1) := by decide +kernel
theorem dX10_says_92 : decode cX10_says 92 = .ok (.invokevirtual 246, 3) := by decide +kernel
theorem dX10_says_95 : decode cX10_says 95 = .ok (.iconst 0, 1) := by decide +kernel
theorem dX10_says_96 : decode cX10_says 96 = .ok (.bipush 99, 2) := by decide +kernel
theorem dX10_says_98 : decode cX10_says 98 = .ok (.invokestatic 249, 3) := by decide +kernel
theorem dX10_says_101 : decode cX10_says 101 = .ok (.ireturn, 1) := by decide +kernel
theorem dX10_heatsOf_0 : decode cX10_heatsOf 0 = .ok (.aload_n 0, 1) := by decide +kernel
theorem dX10_heatsOf_1 : decode cX10_heatsOf 1 = .ok (.getfield 26, 3) := by decide +kernel
theorem dX10_heatsOf_4 : decode cX10_heatsOf 4 = .ok (.iload_n 1, 1) := by decide +kernel
theorem dX10_heatsOf_5 : decode cX10_heatsOf 5 = .ok (.iaload, 1) := by decide +kernel
theorem dX10_heatsOf_6 : decode cX10_heatsOf 6 = .ok (.istore 4, 2) := by decide +kernel
theorem dX10_heatsOf_8 : decode cX10_heatsOf 8 = .ok (.aload_n 0, 1) := by decide +kernel
theorem dX10_heatsOf_9 : decode cX10_heatsOf 9 = .ok (.iconst 0, 1) := by decide +kernel
theorem dX10_heatsOf_10 : decode cX10_heatsOf 10 = .ok (.iload_n 1, 1) := by decide +kernel
theorem dX10_heatsOf_11 : decode cX10_heatsOf 11 = .ok (.iload_n 2, 1) := by decide +kernel
theorem dX10_heatsOf_12 : decode cX10_heatsOf 12 = .ok (.iload_n 3, 1) := by decide +kernel
theorem dX10_heatsOf_13 : decode cX10_heatsOf 13 = .ok (.invokevirtual 252, 3) := by decide +kernel
theorem dX10_heatsOf_16 : decode cX10_heatsOf 16 = .ok (.istore 5, 2) := by decide +kernel
theorem dX10_heatsOf_18 : decode cX10_heatsOf 18 = .ok (.iload 4, 2) := by decide +kernel
theorem dX10_heatsOf_20 : decode cX10_heatsOf 20 = .ok (.iconst 1, 1) := by decide +kernel
theorem dX10_heatsOf_21 : decode cX10_heatsOf 21 = .ok (.if_icmp .ne 10, 3) := by decide +kernel
theorem dX10_heatsOf_24 : decode cX10_heatsOf 24 = .ok (.iload 5, 2) := by decide +kernel
theorem dX10_heatsOf_26 : decode cX10_heatsOf 26 = .ok (.iconst 3, 1) := by decide +kernel
theorem dX10_heatsOf_27 : decode cX10_heatsOf 27 = .ok (.iadd, 1) := by decide +kernel
theorem dX10_heatsOf_28 : decode cX10_heatsOf 28 = .ok (.goto 80, 3) := by decide +kernel
theorem dX10_heatsOf_31 : decode cX10_heatsOf 31 = .ok (.iload 4, 2) := by decide +kernel
theorem dX10_heatsOf_33 : decode cX10_heatsOf 33 = .ok (.iconst 3, 1) := by decide +kernel
theorem dX10_heatsOf_34 : decode cX10_heatsOf 34 = .ok (.if_icmp .ne 24, 3) := by decide +kernel
theorem dX10_heatsOf_37 : decode cX10_heatsOf 37 = .ok (.aload_n 0, 1) := by decide +kernel
theorem dX10_heatsOf_38 : decode cX10_heatsOf 38 = .ok (.getfield 101, 3) := by decide +kernel
theorem dX10_heatsOf_41 : decode cX10_heatsOf 41 = .ok (.iconst 4, 1) := by decide +kernel
theorem dX10_heatsOf_42 : decode cX10_heatsOf 42 = .ok (.irem, 1) := by decide +kernel
theorem dX10_heatsOf_43 : decode cX10_heatsOf 43 = .ok (.iconst 1, 1) := by decide +kernel
theorem dX10_heatsOf_44 : decode cX10_heatsOf 44 = .ok (.if_icmp .ne 7, 3) := by decide +kernel
theorem dX10_heatsOf_47 : decode cX10_heatsOf 47 = .ok (.iconst 0, 1) := by decide +kernel
theorem dX10_heatsOf_48 : decode cX10_heatsOf 48 = .ok (.goto 60, 3) := by decide +kernel
theorem dX10_heatsOf_51 : decode cX10_heatsOf 51 = .ok (.iload 5, 2) := by decide +kernel
theorem dX10_heatsOf_53 : decode cX10_heatsOf 53 = .ok (.iconst 3, 1) := by decide +kernel
theorem dX10_heatsOf_54 : decode cX10_heatsOf 54 = .ok (.iadd, 1) := by decide +kernel
theorem dX10_heatsOf_55 : decode cX10_heatsOf 55 = .ok (.goto 53, 3) := by decide +kernel
theorem dX10_heatsOf_58 : decode cX10_heatsOf 58 = .ok (.iload 4, 2) := by decide +kernel
theorem dX10_heatsOf_60 : decode cX10_heatsOf 60 = .ok (.iconst 2, 1) := by decide +kernel
theorem dX10_heatsOf_61 : decode cX10_heatsOf 61 = .ok (.if_icmp .ne 10, 3) := by decide +kernel
theorem dX10_heatsOf_64 : decode cX10_heatsOf 64 = .ok (.iload 5, 2) := by decide +kernel
theorem dX10_heatsOf_66 : decode cX10_heatsOf 66 = .ok (.iconst 2, 1) := by decide +kernel
theorem dX10_heatsOf_67 : decode cX10_heatsOf 67 = .ok (.idiv, 1) := by decide +kernel
theorem dX10_heatsOf_68 : decode cX10_heatsOf 68 = .ok (.goto 40, 3) := by decide +kernel
theorem dX10_heatsOf_71 : decode cX10_heatsOf 71 = .ok (.iload 4, 2) := by decide +kernel
theorem dX10_heatsOf_73 : decode cX10_heatsOf 73 = .ok (.iconst 4, 1) := by decide +kernel
theorem dX10_heatsOf_74 : decode cX10_heatsOf 74 = .ok (.if_icmp .ne 19, 3) := by decide +kernel
theorem dX10_heatsOf_77 : decode cX10_heatsOf 77 = .ok (.iload 5, 2) := by decide +kernel
theorem dX10_heatsOf_79 : decode cX10_heatsOf 79 = .ok (.iconst 2, 1) := by decide +kernel
theorem dX10_heatsOf_80 : decode cX10_heatsOf 80 = .ok (.idiv, 1) := by decide +kernel
theorem dX10_heatsOf_81 : decode cX10_heatsOf 81 = .ok (.aload_n 0, 1) := by decide +kernel
theorem dX10_heatsOf_82 : decode cX10_heatsOf 82 = .ok (.getfield 29, 3) := by decide +kernel
theorem dX10_heatsOf_85 : decode cX10_heatsOf 85 = .ok (.iconst 3, 1) := by decide +kernel
theorem dX10_heatsOf_86 : decode cX10_heatsOf 86 = .ok (.iload_n 1, 1) := by decide +kernel
theorem dX10_heatsOf_87 : decode cX10_heatsOf 87 = .ok (.imul, 1) := by decide +kernel
theorem dX10_heatsOf_88 : decode cX10_heatsOf 88 = .ok (.iaload, 1) := by decide +kernel
theorem dX10_heatsOf_89 : decode cX10_heatsOf 89 = .ok (.isub, 1) := by decide +kernel
theorem dX10_heatsOf_90 : decode cX10_heatsOf 90 = .ok (.goto 18, 3) := by decide +kernel
theorem dX10_heatsOf_93 : decode cX10_heatsOf 93 = .ok (.iload 4, 2) := by decide +kernel
theorem dX10_heatsOf_95 : decode cX10_heatsOf 95 = .ok (.iconst 5, 1) := by decide +kernel
theorem dX10_heatsOf_96 : decode cX10_heatsOf 96 = .ok (.if_icmp .ne 10, 3) := by decide +kernel
theorem dX10_heatsOf_99 : decode cX10_heatsOf 99 = .ok (.iconst 2, 1) := by decide +kernel
theorem dX10_heatsOf_100 : decode cX10_heatsOf 100 = .ok (.iload 5, 2) := by decide +kernel
theorem dX10_heatsOf_102 : decode cX10_heatsOf 102 = .ok (.imul, 1) := by decide +kernel
theorem dX10_heatsOf_103 : decode cX10_heatsOf 103 = .ok (.goto 5, 3) := by decide +kernel
theorem dX10_heatsOf_106 : decode cX10_heatsOf 106 = .ok (.iload 5, 2) := by decide +kernel
theorem dX10_heatsOf_108 : decode cX10_heatsOf 108 = .ok (.istore 6, 2) := by decide +kernel
theorem dX10_heatsOf_110 : decode cX10_heatsOf 110 = .ok (.iload 6, 2) := by decide +kernel
theorem dX10_heatsOf_112 : decode cX10_heatsOf 112 = .ok (.iconst 0, 1) := by decide +kernel
theorem dX10_heatsOf_113 : decode cX10_heatsOf 113 = .ok (.bipush 99, 2) := by decide +kernel
theorem dX10_heatsOf_115 : decode cX10_heatsOf 115 = .ok (.invokestatic 249, 3) := by decide +kernel
theorem dX10_heatsOf_118 : decode cX10_heatsOf 118 = .ok (.ireturn, 1) := by decide +kernel
theorem dX10_calmsOf_0 : decode cX10_calmsOf 0 = .ok (.aload_n 0, 1) := by decide +kernel
theorem dX10_calmsOf_1 : decode cX10_calmsOf 1 = .ok (.getfield 26, 3) := by decide +kernel
theorem dX10_calmsOf_4 : decode cX10_calmsOf 4 = .ok (.iload_n 1, 1) := by decide +kernel
theorem dX10_calmsOf_5 : decode cX10_calmsOf 5 = .ok (.iaload, 1) := by decide +kernel
theorem dX10_calmsOf_6 : decode cX10_calmsOf 6 = .ok (.istore 4, 2) := by decide +kernel
theorem dX10_calmsOf_8 : decode cX10_calmsOf 8 = .ok (.aload_n 0, 1) := by decide +kernel
theorem dX10_calmsOf_9 : decode cX10_calmsOf 9 = .ok (.iload_n 2, 1) := by decide +kernel
theorem dX10_calmsOf_10 : decode cX10_calmsOf 10 = .ok (.invokevirtual 119, 3) := by decide +kernel
theorem dX10_calmsOf_13 : decode cX10_calmsOf 13 = .ok (.istore 5, 2) := by decide +kernel
theorem dX10_calmsOf_15 : decode cX10_calmsOf 15 = .ok (.aload_n 0, 1) := by decide +kernel
theorem dX10_calmsOf_16 : decode cX10_calmsOf 16 = .ok (.iconst 1, 1) := by decide +kernel
theorem dX10_calmsOf_17 : decode cX10_calmsOf 17 = .ok (.iload_n 1, 1) := by decide +kernel
theorem dX10_calmsOf_18 : decode cX10_calmsOf 18 = .ok (.iload_n 2, 1) := by decide +kernel
theorem dX10_calmsOf_19 : decode cX10_calmsOf 19 = .ok (.iload_n 3, 1) := by decide +kernel
theorem dX10_calmsOf_20 : decode cX10_calmsOf 20 = .ok (.invokevirtual 252, 3) := by decide +kernel
theorem dX10_calmsOf_23 : decode cX10_calmsOf 23 = .ok (.istore 6, 2) := by decide +kernel
theorem dX10_calmsOf_25 : decode cX10_calmsOf 25 = .ok (.iload 5, 2) := by decide +kernel
theorem dX10_calmsOf_27 : decode cX10_calmsOf 27 = .ok (.iconst 2, 1) := by decide +kernel
theorem dX10_calmsOf_28 : decode cX10_calmsOf 28 = .ok (.irem, 1) := by decide +kernel
theorem dX10_calmsOf_29 : decode cX10_calmsOf 29 = .ok (.ifCond .ne 8, 3) := by decide +kernel
theorem dX10_calmsOf_32 : decode cX10_calmsOf 32 = .ok (.iload 6, 2) := by decide +kernel
theorem dX10_calmsOf_34 : decode cX10_calmsOf 34 = .ok (.goto 7, 3) := by decide +kernel
theorem dX10_calmsOf_37 : decode cX10_calmsOf 37 = .ok (.iload 6, 2) := by decide +kernel
theorem dX10_calmsOf_39 : decode cX10_calmsOf 39 = .ok (.iconst 2, 1) := by decide +kernel
theorem dX10_calmsOf_40 : decode cX10_calmsOf 40 = .ok (.idiv, 1) := by decide +kernel
theorem dX10_calmsOf_41 : decode cX10_calmsOf 41 = .ok (.istore 7, 2) := by decide +kernel
theorem dX10_calmsOf_43 : decode cX10_calmsOf 43 = .ok (.iload 4, 2) := by decide +kernel
theorem dX10_calmsOf_45 : decode cX10_calmsOf 45 = .ok (.iconst 1, 1) := by decide +kernel
theorem dX10_calmsOf_46 : decode cX10_calmsOf 46 = .ok (.if_icmp .ne 8, 3) := by decide +kernel
theorem dX10_calmsOf_49 : decode cX10_calmsOf 49 = .ok (.iload 7, 2) := by decide +kernel
theorem dX10_calmsOf_51 : decode cX10_calmsOf 51 = .ok (.goto 80, 3) := by decide +kernel
theorem dX10_calmsOf_54 : decode cX10_calmsOf 54 = .ok (.iload 4, 2) := by decide +kernel
theorem dX10_calmsOf_56 : decode cX10_calmsOf 56 = .ok (.iconst 3, 1) := by decide +kernel
theorem dX10_calmsOf_57 : decode cX10_calmsOf 57 = .ok (.if_icmp .ne 17, 3) := by decide +kernel
theorem dX10_calmsOf_60 : decode cX10_calmsOf 60 = .ok (.iload 7, 2) := by decide +kernel
theorem dX10_calmsOf_62 : decode cX10_calmsOf 62 = .ok (.aload_n 0, 1) := by decide +kernel
theorem dX10_calmsOf_63 : decode cX10_calmsOf 63 = .ok (.getfield 29, 3) := by decide +kernel
theorem dX10_calmsOf_66 : decode cX10_calmsOf 66 = .ok (.iconst 3, 1) := by decide +kernel
theorem dX10_calmsOf_67 : decode cX10_calmsOf 67 = .ok (.iload_n 1, 1) := by decide +kernel
theorem dX10_calmsOf_68 : decode cX10_calmsOf 68 = .ok (.imul, 1) := by decide +kernel
theorem dX10_calmsOf_69 : decode cX10_calmsOf 69 = .ok (.iaload, 1) := by decide +kernel
theorem dX10_calmsOf_70 : decode cX10_calmsOf 70 = .ok (.iadd, 1) := by decide +kernel
theorem dX10_calmsOf_71 : decode cX10_calmsOf 71 = .ok (.goto 60, 3) := by decide +kernel
theorem dX10_calmsOf_74 : decode cX10_calmsOf 74 = .ok (.iload 4, 2) := by decide +kernel
theorem dX10_calmsOf_76 : decode cX10_calmsOf 76 = .ok (.iconst 2, 1) := by decide +kernel
theorem dX10_calmsOf_77 : decode cX10_calmsOf 77 = .ok (.if_icmp .ne 10, 3) := by decide +kernel
theorem dX10_calmsOf_80 : decode cX10_calmsOf 80 = .ok (.iload 6, 2) := by decide +kernel
theorem dX10_calmsOf_82 : decode cX10_calmsOf 82 = .ok (.iconst 2, 1) := by decide +kernel
theorem dX10_calmsOf_83 : decode cX10_calmsOf 83 = .ok (.iadd, 1) := by decide +kernel
theorem dX10_calmsOf_84 : decode cX10_calmsOf 84 = .ok (.goto 47, 3) := by decide +kernel
theorem dX10_calmsOf_87 : decode cX10_calmsOf 87 = .ok (.iload 4, 2) := by decide +kernel
theorem dX10_calmsOf_89 : decode cX10_calmsOf 89 = .ok (.iconst 4, 1) := by decide +kernel
theorem dX10_calmsOf_90 : decode cX10_calmsOf 90 = .ok (.if_icmp .ne 28, 3) := by decide +kernel
theorem dX10_calmsOf_93 : decode cX10_calmsOf 93 = .ok (.iload 5, 2) := by decide +kernel
theorem dX10_calmsOf_95 : decode cX10_calmsOf 95 = .ok (.bipush 7, 2) := by decide +kernel
theorem dX10_calmsOf_97 : decode cX10_calmsOf 97 = .ok (.if_icmp .eq 10, 3) := by decide +kernel
theorem dX10_calmsOf_100 : decode cX10_calmsOf 100 = .ok (.iload 5, 2) := by decide +kernel
theorem dX10_calmsOf_102 : decode cX10_calmsOf 102 = .ok (.bipush 13, 2) := by decide +kernel
theorem dX10_calmsOf_104 : decode cX10_calmsOf 104 = .ok (.if_icmp .ne 7, 3) := by decide +kernel
theorem dX10_calmsOf_107 : decode cX10_calmsOf 107 = .ok (.iconst 0, 1) := by decide +kernel
theorem dX10_calmsOf_108 : decode cX10_calmsOf 108 = .ok (.goto 23, 3) := by decide +kernel
theorem dX10_calmsOf_111 : decode cX10_calmsOf 111 = .ok (.iload 6, 2) := by decide +kernel
theorem dX10_calmsOf_113 : decode cX10_calmsOf 113 = .ok (.iconst 2, 1) := by decide +kernel
theorem dX10_calmsOf_114 : decode cX10_calmsOf 114 = .ok (.iadd, 1) := by decide +kernel
theorem dX10_calmsOf_115 : decode cX10_calmsOf 115 = .ok (.goto 16, 3) := by decide +kernel
theorem dX10_calmsOf_118 : decode cX10_calmsOf 118 = .ok (.iload 4, 2) := by decide +kernel
theorem dX10_calmsOf_120 : decode cX10_calmsOf 120 = .ok (.iconst 5, 1) := by decide +kernel
theorem dX10_calmsOf_121 : decode cX10_calmsOf 121 = .ok (.if_icmp .ne 8, 3) := by decide +kernel
theorem dX10_calmsOf_124 : decode cX10_calmsOf 124 = .ok (.iload 5, 2) := by decide +kernel
theorem dX10_calmsOf_126 : decode cX10_calmsOf 126 = .ok (.goto 5, 3) := by decide +kernel
theorem dX10_calmsOf_129 : decode cX10_calmsOf 129 = .ok (.iload 6, 2) := by decide +kernel
theorem dX10_calmsOf_131 : decode cX10_calmsOf 131 = .ok (.istore 8, 2) := by decide +kernel
theorem dX10_calmsOf_133 : decode cX10_calmsOf 133 = .ok (.iload 8, 2) := by decide +kernel
theorem dX10_calmsOf_135 : decode cX10_calmsOf 135 = .ok (.iconst 0, 1) := by decide +kernel
theorem dX10_calmsOf_136 : decode cX10_calmsOf 136 = .ok (.bipush 99, 2) := by decide +kernel
theorem dX10_calmsOf_138 : decode cX10_calmsOf 138 = .ok (.invokestatic 249, 3) := by decide +kernel
theorem dX10_calmsOf_141 : decode cX10_calmsOf 141 = .ok (.ireturn, 1) := by decide +kernel
theorem dX10_feelsOf_0 : decode cX10_feelsOf 0 = .ok (.aload_n 0, 1) := by decide +kernel
theorem dX10_feelsOf_1 : decode cX10_feelsOf 1 = .ok (.getfield 26, 3) := by decide +kernel
theorem dX10_feelsOf_4 : decode cX10_feelsOf 4 = .ok (.iload_n 1, 1) := by decide +kernel
theorem dX10_feelsOf_5 : decode cX10_feelsOf 5 = .ok (.iaload, 1) := by decide +kernel
theorem dX10_feelsOf_6 : decode cX10_feelsOf 6 = .ok (.istore_n 3, 1) := by decide +kernel
theorem dX10_feelsOf_7 : decode cX10_feelsOf 7 = .ok (.aload_n 0, 1) := by decide +kernel
theorem dX10_feelsOf_8 : decode cX10_feelsOf 8 = .ok (.iconst 2, 1) := by decide +kernel
theorem dX10_feelsOf_9 : decode cX10_feelsOf 9 = .ok (.iload_n 1, 1) := by decide +kernel
theorem dX10_feelsOf_10 : decode cX10_feelsOf 10 = .ok (.iload_n 2, 1) := by decide +kernel
theorem dX10_feelsOf_11 : decode cX10_feelsOf 11 = .ok (.iconst 0, 1) := by decide +kernel
theorem dX10_feelsOf_12 : decode cX10_feelsOf 12 = .ok (.invokevirtual 252, 3) := by decide +kernel
theorem dX10_feelsOf_15 : decode cX10_feelsOf 15 = .ok (.istore 4, 2) := by decide +kernel
theorem dX10_feelsOf_17 : decode cX10_feelsOf 17 = .ok (.iload_n 3, 1) := by decide +kernel
theorem dX10_feelsOf_18 : decode cX10_feelsOf 18 = .ok (.iconst 2, 1) := by decide +kernel
theorem dX10_feelsOf_19 : decode cX10_feelsOf 19 = .ok (.if_icmp .ne 11, 3) := by decide +kernel
theorem dX10_feelsOf_22 : decode cX10_feelsOf 22 = .ok (.iload 4, 2) := by decide +kernel
theorem dX10_feelsOf_24 : decode cX10_feelsOf 24 = .ok (.bipush 10, 2) := by decide +kernel
theorem dX10_feelsOf_26 : decode cX10_feelsOf 26 = .ok (.irem, 1) := by decide +kernel
theorem dX10_feelsOf_27 : decode cX10_feelsOf 27 = .ok (.goto 47, 3) := by decide +kernel
theorem dX10_feelsOf_30 : decode cX10_feelsOf 30 = .ok (.iload_n 3, 1) := by decide +kernel
theorem dX10_feelsOf_31 : decode cX10_feelsOf 31 = .ok (.iconst 4, 1) := by decide +kernel
theorem dX10_feelsOf_32 : decode cX10_feelsOf 32 = .ok (.if_icmp .ne 13, 3) := by decide +kernel
theorem dX10_feelsOf_35 : decode cX10_feelsOf 35 = .ok (.iload 4, 2) := by decide +kernel
theorem dX10_feelsOf_37 : decode cX10_feelsOf 37 = .ok (.bipush 10, 2) := by decide +kernel
theorem dX10_feelsOf_39 : decode cX10_feelsOf 39 = .ok (.irem, 1) := by decide +kernel
theorem dX10_feelsOf_40 : decode cX10_feelsOf 40 = .ok (.iconst 1, 1) := by decide +kernel
theorem dX10_feelsOf_41 : decode cX10_feelsOf 41 = .ok (.iadd, 1) := by decide +kernel
theorem dX10_feelsOf_42 : decode cX10_feelsOf 42 = .ok (.goto 32, 3) := by decide +kernel
theorem dX10_feelsOf_45 : decode cX10_feelsOf 45 = .ok (.iload_n 3, 1) := by decide +kernel
theorem dX10_feelsOf_46 : decode cX10_feelsOf 46 = .ok (.iconst 3, 1) := by decide +kernel
theorem dX10_feelsOf_47 : decode cX10_feelsOf 47 = .ok (.if_icmp .ne 10, 3) := by decide +kernel
theorem dX10_feelsOf_50 : decode cX10_feelsOf 50 = .ok (.iconst 2, 1) := by decide +kernel
theorem dX10_feelsOf_51 : decode cX10_feelsOf 51 = .ok (.iload 4, 2) := by decide +kernel
theorem dX10_feelsOf_53 : decode cX10_feelsOf 53 = .ok (.imul, 1) := by decide +kernel
theorem dX10_feelsOf_54 : decode cX10_feelsOf 54 = .ok (.goto 20, 3) := by decide +kernel
theorem dX10_feelsOf_57 : decode cX10_feelsOf 57 = .ok (.iload_n 3, 1) := by decide +kernel
theorem dX10_feelsOf_58 : decode cX10_feelsOf 58 = .ok (.iconst 5, 1) := by decide +kernel
theorem dX10_feelsOf_59 : decode cX10_feelsOf 59 = .ok (.if_icmp .ne 13, 3) := by decide +kernel
theorem dX10_feelsOf_62 : decode cX10_feelsOf 62 = .ok (.iload 4, 2) := by decide +kernel
theorem dX10_feelsOf_64 : decode cX10_feelsOf 64 = .ok (.iconst 5, 1) := by decide +kernel
theorem dX10_feelsOf_65 : decode cX10_feelsOf 65 = .ok (.if_icmp .ge 7, 3) := by decide +kernel
theorem dX10_feelsOf_68 : decode cX10_feelsOf 68 = .ok (.iconst 0, 1) := by decide +kernel
theorem dX10_feelsOf_69 : decode cX10_feelsOf 69 = .ok (.goto 5, 3) := by decide +kernel
theorem dX10_feelsOf_72 : decode cX10_feelsOf 72 = .ok (.iload 4, 2) := by decide +kernel
theorem dX10_feelsOf_74 : decode cX10_feelsOf 74 = .ok (.istore 5, 2) := by decide +kernel
theorem dX10_feelsOf_76 : decode cX10_feelsOf 76 = .ok (.iload 5, 2) := by decide +kernel
theorem dX10_feelsOf_78 : decode cX10_feelsOf 78 = .ok (.iconst 0, 1) := by decide +kernel
theorem dX10_feelsOf_79 : decode cX10_feelsOf 79 = .ok (.bipush 99, 2) := by decide +kernel
theorem dX10_feelsOf_81 : decode cX10_feelsOf 81 = .ok (.invokestatic 249, 3) := by decide +kernel
theorem dX10_feelsOf_84 : decode cX10_feelsOf 84 = .ok (.ireturn, 1) := by decide +kernel
theorem dX10_lives_0 : decode cX10_lives 0 = .ok (.aload_n 0, 1) := by decide +kernel
theorem dX10_lives_1 : decode cX10_lives 1 = .ok (.getfield 101, 3) := by decide +kernel
theorem dX10_lives_4 : decode cX10_lives 4 = .ok (.istore 4, 2) := by decide +kernel
theorem dX10_lives_6 : decode cX10_lives 6 = .ok (.aload_n 0, 1) := by decide +kernel
theorem dX10_lives_7 : decode cX10_lives 7 = .ok (.aload_n 0, 1) := by decide +kernel
theorem dX10_lives_8 : decode cX10_lives 8 = .ok (.getfield 29, 3) := by decide +kernel
theorem dX10_lives_11 : decode cX10_lives 11 = .ok (.iconst 3, 1) := by decide +kernel
theorem dX10_lives_12 : decode cX10_lives 12 = .ok (.iload_n 1, 1) := by decide +kernel
theorem dX10_lives_13 : decode cX10_lives 13 = .ok (.imul, 1) := by decide +kernel
theorem dX10_lives_14 : decode cX10_lives 14 = .ok (.iconst 2, 1) := by decide +kernel
theorem dX10_lives_15 : decode cX10_lives 15 = .ok (.iadd, 1) := by decide +kernel
theorem dX10_lives_16 : decode cX10_lives 16 = .ok (.iaload, 1) := by decide +kernel
theorem dX10_lives_17 : decode cX10_lives 17 = .ok (.putfield 256, 3) := by decide +kernel
theorem dX10_lives_20 : decode cX10_lives 20 = .ok (.aload_n 0, 1) := by decide +kernel
theorem dX10_lives_21 : decode cX10_lives 21 = .ok (.iconst 0, 1) := by decide +kernel
theorem dX10_lives_22 : decode cX10_lives 22 = .ok (.putfield 259, 3) := by decide +kernel
theorem dX10_lives_25 : decode cX10_lives 25 = .ok (.aload_n 0, 1) := by decide +kernel
theorem dX10_lives_26 : decode cX10_lives 26 = .ok (.iconst (-1), 1) := by decide +kernel
theorem dX10_lives_27 : decode cX10_lives 27 = .ok (.putfield 262, 3) := by decide +kernel
theorem dX10_lives_30 : decode cX10_lives 30 = .ok (.iconst 0, 1) := by decide +kernel
theorem dX10_lives_31 : decode cX10_lives 31 = .ok (.istore 5, 2) := by decide +kernel
theorem dX10_lives_33 : decode cX10_lives 33 = .ok (.iload 5, 2) := by decide +kernel
theorem dX10_lives_35 : decode cX10_lives 35 = .ok (.iload_n 3, 1) := by decide +kernel
theorem dX10_lives_36 : decode cX10_lives 36 = .ok (.if_icmp .ge 111, 3) := by decide +kernel
theorem dX10_lives_39 : decode cX10_lives 39 = .ok (.aload_n 0, 1) := by decide +kernel
theorem dX10_lives_40 : decode cX10_lives 40 = .ok (.aload_n 0, 1) := by decide +kernel
theorem dX10_lives_41 : decode cX10_lives 41 = .ok (.getfield 256, 3) := by decide +kernel
theorem dX10_lives_44 : decode cX10_lives 44 = .ok (.aload_n 0, 1) := by decide +kernel
theorem dX10_lives_45 : decode cX10_lives 45 = .ok (.iload_n 1, 1) := by decide +kernel
theorem dX10_lives_46 : decode cX10_lives 46 = .ok (.iload_n 2, 1) := by decide +kernel
theorem dX10_lives_47 : decode cX10_lives 47 = .ok (.aload_n 0, 1) := by decide +kernel
theorem dX10_lives_48 : decode cX10_lives 48 = .ok (.getfield 256, 3) := by decide +kernel
theorem dX10_lives_51 : decode cX10_lives 51 = .ok (.invokevirtual 122, 3) := by decide +kernel
theorem dX10_lives_54 : decode cX10_lives 54 = .ok (.iadd, 1) := by decide +kernel
theorem dX10_lives_55 : decode cX10_lives 55 = .ok (.iconst 0, 1) := by decide +kernel
theorem dX10_lives_56 : decode cX10_lives 56 = .ok (.bipush 99, 2) := by decide +kernel
theorem dX10_lives_58 : decode cX10_lives 58 = .ok (.invokestatic 249, 3) := by decide +kernel
theorem dX10_lives_61 : decode cX10_lives 61 = .ok (.putfield 256, 3) := by decide +kernel
theorem dX10_lives_64 : decode cX10_lives 64 = .ok (.aload_n 0, 1) := by decide +kernel
theorem dX10_lives_65 : decode cX10_lives 65 = .ok (.getfield 256, 3) := by decide +kernel
theorem dX10_lives_68 : decode cX10_lives 68 = .ok (.aload_n 0, 1) := by decide +kernel
theorem dX10_lives_69 : decode cX10_lives 69 = .ok (.getfield 23, 3) := by decide +kernel
theorem dX10_lives_72 : decode cX10_lives 72 = .ok (.if_icmp .lt 34, 3) := by decide +kernel
theorem dX10_lives_75 : decode cX10_lives 75 = .ok (.aload_n 0, 1) := by decide +kernel
theorem dX10_lives_76 : decode cX10_lives 76 = .ok (.dup, 1) := by decide +kernel
theorem dX10_lives_77 : decode cX10_lives 77 = .ok (.getfield 259, 3) := by decide +kernel
theorem dX10_lives_80 : decode cX10_lives 80 = .ok (.iconst 1, 1) := by decide +kernel
theorem dX10_lives_81 : decode cX10_lives 81 = .ok (.iadd, 1) := by decide +kernel
theorem dX10_lives_82 : decode cX10_lives 82 = .ok (.putfield 259, 3) := by decide +kernel
theorem dX10_lives_85 : decode cX10_lives 85 = .ok (.aload_n 0, 1) := by decide +kernel
theorem dX10_lives_86 : decode cX10_lives 86 = .ok (.aload_n 0, 1) := by decide +kernel
theorem dX10_lives_87 : decode cX10_lives 87 = .ok (.getfield 262, 3) := by decide +kernel
theorem dX10_lives_90 : decode cX10_lives 90 = .ok (.iconst (-1), 1) := by decide +kernel
theorem dX10_lives_91 : decode cX10_lives 91 = .ok (.if_icmp .ne 8, 3) := by decide +kernel
theorem dX10_lives_94 : decode cX10_lives 94 = .ok (.iload 5, 2) := by decide +kernel
theorem dX10_lives_96 : decode cX10_lives 96 = .ok (.goto 7, 3) := by decide +kernel
theorem dX10_lives_99 : decode cX10_lives 99 = .ok (.aload_n 0, 1) := by decide +kernel
theorem dX10_lives_100 : decode cX10_lives 100 = .ok (.getfield 262, 3) := by decide +kernel
theorem dX10_lives_103 : decode cX10_lives 103 = .ok (.putfield 262, 3) := by decide +kernel
theorem dX10_lives_106 : decode cX10_lives 106 = .ok (.aload_n 0, 1) := by decide +kernel
theorem dX10_lives_107 : decode cX10_lives 107 = .ok (.aload_n 0, 1) := by decide +kernel
theorem dX10_lives_108 : decode cX10_lives 108 = .ok (.getfield 256, 3) := by decide +kernel
theorem dX10_lives_111 : decode cX10_lives 111 = .ok (.aload_n 0, 1) := by decide +kernel
theorem dX10_lives_112 : decode cX10_lives 112 = .ok (.iload_n 1, 1) := by decide +kernel
theorem dX10_lives_113 : decode cX10_lives 113 = .ok (.iload_n 2, 1) := by decide +kernel
theorem dX10_lives_114 : decode cX10_lives 114 = .ok (.aload_n 0, 1) := by decide +kernel
theorem dX10_lives_115 : decode cX10_lives 115 = .ok (.getfield 256, 3) := by decide +kernel
theorem dX10_lives_118 : decode cX10_lives 118 = .ok (.invokevirtual 126, 3) := by decide +kernel
theorem dX10_lives_121 : decode cX10_lives 121 = .ok (.isub, 1) := by decide +kernel
theorem dX10_lives_122 : decode cX10_lives 122 = .ok (.iconst 0, 1) := by decide +kernel
theorem dX10_lives_123 : decode cX10_lives 123 = .ok (.bipush 99, 2) := by decide +kernel
theorem dX10_lives_125 : decode cX10_lives 125 = .ok (.invokestatic 249, 3) := by decide +kernel
theorem dX10_lives_128 : decode cX10_lives 128 = .ok (.putfield 256, 3) := by decide +kernel
theorem dX10_lives_131 : decode cX10_lives 131 = .ok (.aload_n 0, 1) := by decide +kernel
theorem dX10_lives_132 : decode cX10_lives 132 = .ok (.dup, 1) := by decide +kernel
theorem dX10_lives_133 : decode cX10_lives 133 = .ok (.getfield 101, 3) := by decide +kernel
theorem dX10_lives_136 : decode cX10_lives 136 = .ok (.iconst 1, 1) := by decide +kernel
theorem dX10_lives_137 : decode cX10_lives 137 = .ok (.iadd, 1) := by decide +kernel
theorem dX10_lives_138 : decode cX10_lives 138 = .ok (.putfield 101, 3) := by decide +kernel
theorem dX10_lives_141 : decode cX10_lives 141 = .ok (.iinc 5 1, 3) := by decide +kernel
theorem dX10_lives_144 : decode cX10_lives 144 = .ok (.goto (-111), 3) := by decide +kernel
theorem dX10_lives_147 : decode cX10_lives 147 = .ok (.aload_n 0, 1) := by decide +kernel
theorem dX10_lives_148 : decode cX10_lives 148 = .ok (.iload 4, 2) := by decide +kernel
theorem dX10_lives_150 : decode cX10_lives 150 = .ok (.putfield 101, 3) := by decide +kernel
theorem dX10_lives_153 : decode cX10_lives 153 = .ok (.return_, 1) := by decide +kernel
theorem dX10_day_0 : decode cX10_day 0 = .ok (.aload_n 0, 1) := by decide +kernel
theorem dX10_day_1 : decode cX10_day 1 = .ok (.getfield 101, 3) := by decide +kernel
theorem dX10_day_4 : decode cX10_day 4 = .ok (.sipush 999, 3) := by decide +kernel
end
section
theorem dX10_day_7 : decode cX10_day 7 = .ok (.if_icmp .ne 6, 3) := by decide +kernel
theorem dX10_day_10 : decode cX10_day 10 = .ok (.bipush (-3), 2) := by decide +kernel
theorem dX10_day_12 : decode cX10_day 12 = .ok (.ireturn, 1) := by decide +kernel
theorem dX10_day_13 : decode cX10_day 13 = .ok (.iconst 0, 1) := by decide +kernel
theorem dX10_day_14 : decode cX10_day 14 = .ok (.istore_n 1, 1) := by decide +kernel
theorem dX10_day_15 : decode cX10_day 15 = .ok (.iconst 0, 1) := by decide +kernel
theorem dX10_day_16 : decode cX10_day 16 = .ok (.istore_n 2, 1) := by decide +kernel
theorem dX10_day_17 : decode cX10_day 17 = .ok (.iload_n 2, 1) := by decide +kernel
theorem dX10_day_18 : decode cX10_day 18 = .ok (.aload_n 0, 1) := by decide +kernel
theorem dX10_day_19 : decode cX10_day 19 = .ok (.getfield 76, 3) := by decide +kernel
theorem dX10_day_22 : decode cX10_day 22 = .ok (.if_icmp .ge 42, 3) := by decide +kernel
theorem dX10_day_25 : decode cX10_day 25 = .ok (.aload_n 0, 1) := by decide +kernel
theorem dX10_day_26 : decode cX10_day 26 = .ok (.iload_n 2, 1) := by decide +kernel
theorem dX10_day_27 : decode cX10_day 27 = .ok (.aload_n 0, 1) := by decide +kernel
theorem dX10_day_28 : decode cX10_day 28 = .ok (.getfield 32, 3) := by decide +kernel
theorem dX10_day_31 : decode cX10_day 31 = .ok (.iload_n 2, 1) := by decide +kernel
theorem dX10_day_32 : decode cX10_day 32 = .ok (.iaload, 1) := by decide +kernel
theorem dX10_day_33 : decode cX10_day 33 = .ok (.iconst 1, 1) := by decide +kernel
theorem dX10_day_34 : decode cX10_day 34 = .ok (.invokevirtual 265, 3) := by decide +kernel
theorem dX10_day_37 : decode cX10_day 37 = .ok (.aload_n 0, 1) := by decide +kernel
theorem dX10_day_38 : decode cX10_day 38 = .ok (.getfield 29, 3) := by decide +kernel
theorem dX10_day_41 : decode cX10_day 41 = .ok (.iconst 3, 1) := by decide +kernel
theorem dX10_day_42 : decode cX10_day 42 = .ok (.iload_n 2, 1) := by decide +kernel
theorem dX10_day_43 : decode cX10_day 43 = .ok (.imul, 1) := by decide +kernel
theorem dX10_day_44 : decode cX10_day 44 = .ok (.iconst 2, 1) := by decide +kernel
theorem dX10_day_45 : decode cX10_day 45 = .ok (.iadd, 1) := by decide +kernel
theorem dX10_day_46 : decode cX10_day 46 = .ok (.aload_n 0, 1) := by decide +kernel
theorem dX10_day_47 : decode cX10_day 47 = .ok (.getfield 256, 3) := by decide +kernel
theorem dX10_day_50 : decode cX10_day 50 = .ok (.iastore, 1) := by decide +kernel
theorem dX10_day_51 : decode cX10_day 51 = .ok (.iload_n 1, 1) := by decide +kernel
theorem dX10_day_52 : decode cX10_day 52 = .ok (.aload_n 0, 1) := by decide +kernel
theorem dX10_day_53 : decode cX10_day 53 = .ok (.getfield 259, 3) := by decide +kernel
theorem dX10_day_56 : decode cX10_day 56 = .ok (.iadd, 1) := by decide +kernel
theorem dX10_day_57 : decode cX10_day 57 = .ok (.istore_n 1, 1) := by decide +kernel
theorem dX10_day_58 : decode cX10_day 58 = .ok (.iinc 2 1, 3) := by decide +kernel
theorem dX10_day_61 : decode cX10_day 61 = .ok (.goto (-44), 3) := by decide +kernel
theorem dX10_day_64 : decode cX10_day 64 = .ok (.aload_n 0, 1) := by decide +kernel
theorem dX10_day_65 : decode cX10_day 65 = .ok (.dup, 1) := by decide +kernel
theorem dX10_day_66 : decode cX10_day 66 = .ok (.getfield 101, 3) := by decide +kernel
theorem dX10_day_69 : decode cX10_day 69 = .ok (.iconst 1, 1) := by decide +kernel
theorem dX10_day_70 : decode cX10_day 70 = .ok (.iadd, 1) := by decide +kernel
theorem dX10_day_71 : decode cX10_day 71 = .ok (.putfield 101, 3) := by decide +kernel
theorem dX10_day_74 : decode cX10_day 74 = .ok (.iload_n 1, 1) := by decide +kernel
theorem dX10_day_75 : decode cX10_day 75 = .ok (.ireturn, 1) := by decide +kernel
theorem dX10_run_0 : decode cX10_run 0 = .ok (.iload_n 2, 1) := by decide +kernel
theorem dX10_run_1 : decode cX10_run 1 = .ok (.i2l, 1) := by decide +kernel
theorem dX10_run_2 : decode cX10_run 2 = .ok (.ldc2_w 117, 3) := by decide +kernel
theorem dX10_run_5 : decode cX10_run 5 = .ok (.ldc2_w 268, 3) := by decide +kernel
theorem dX10_run_8 : decode cX10_run 8 = .ok (.invokestatic 79, 3) := by decide +kernel
theorem dX10_run_11 : decode cX10_run 11 = .ok (.ifCond .eq 18, 3) := by decide +kernel
theorem dX10_run_14 : decode cX10_run 14 = .ok (.aload_n 0, 1) := by decide +kernel
theorem dX10_run_15 : decode cX10_run 15 = .ok (.iload_n 2, 1) := by decide +kernel
theorem dX10_run_16 : decode cX10_run 16 = .ok (.bipush 10, 2) := by decide +kernel
theorem dX10_run_18 : decode cX10_run 18 = .ok (.irem, 1) := by decide +kernel
theorem dX10_run_19 : decode cX10_run 19 = .ok (.invokevirtual 85, 3) := by decide +kernel
theorem dX10_run_22 : decode cX10_run 22 = .ok (.ifCond .eq 7, 3) := by decide +kernel
theorem dX10_run_25 : decode cX10_run 25 = .ok (.iconst 1, 1) := by decide +kernel
theorem dX10_run_26 : decode cX10_run 26 = .ok (.goto 4, 3) := by decide +kernel
theorem dX10_run_29 : decode cX10_run 29 = .ok (.iconst 0, 1) := by decide +kernel
theorem dX10_run_30 : decode cX10_run 30 = .ok (.istore_n 3, 1) := by decide +kernel
theorem dX10_run_31 : decode cX10_run 31 = .ok (.iload_n 1, 1) := by decide +kernel
theorem dX10_run_32 : decode cX10_run 32 = .ok (.i2l, 1) := by decide +kernel
theorem dX10_run_33 : decode cX10_run 33 = .ok (.lconst 0, 1) := by decide +kernel
theorem dX10_run_34 : decode cX10_run 34 = .ok (.ldc2_w 270, 3) := by decide +kernel
theorem dX10_run_37 : decode cX10_run 37 = .ok (.invokestatic 79, 3) := by decide +kernel
theorem dX10_run_40 : decode cX10_run 40 = .ok (.ifCond .eq 17, 3) := by decide +kernel
theorem dX10_run_43 : decode cX10_run 43 = .ok (.iload_n 2, 1) := by decide +kernel
theorem dX10_run_44 : decode cX10_run 44 = .ok (.i2l, 1) := by decide +kernel
theorem dX10_run_45 : decode cX10_run 45 = .ok (.lconst 0, 1) := by decide +kernel
theorem dX10_run_46 : decode cX10_run 46 = .ok (.lconst 1, 1) := by decide +kernel
theorem dX10_run_47 : decode cX10_run 47 = .ok (.invokestatic 79, 3) := by decide +kernel
theorem dX10_run_50 : decode cX10_run 50 = .ok (.ifCond .ne 10, 3) := by decide +kernel
theorem dX10_run_53 : decode cX10_run 53 = .ok (.iload_n 3, 1) := by decide +kernel
theorem dX10_run_54 : decode cX10_run 54 = .ok (.ifCond .ne 6, 3) := by decide +kernel
theorem dX10_run_57 : decode cX10_run 57 = .ok (.bipush (-2), 2) := by decide +kernel
theorem dX10_run_59 : decode cX10_run 59 = .ok (.ireturn, 1) := by decide +kernel
theorem dX10_run_60 : decode cX10_run 60 = .ok (.iload_n 3, 1) := by decide +kernel
theorem dX10_run_61 : decode cX10_run 61 = .ok (.ifCond .eq 39, 3) := by decide +kernel
theorem dX10_run_64 : decode cX10_run 64 = .ok (.aload_n 0, 1) := by decide +kernel
theorem dX10_run_65 : decode cX10_run 65 = .ok (.iload_n 2, 1) := by decide +kernel
theorem dX10_run_66 : decode cX10_run 66 = .ok (.bipush 10, 2) := by decide +kernel
theorem dX10_run_68 : decode cX10_run 68 = .ok (.irem, 1) := by decide +kernel
theorem dX10_run_69 : decode cX10_run 69 = .ok (.aload_n 0, 1) := by decide +kernel
theorem dX10_run_70 : decode cX10_run 70 = .ok (.getfield 32, 3) := by decide +kernel
theorem dX10_run_73 : decode cX10_run 73 = .ok (.iload_n 2, 1) := by decide +kernel
theorem dX10_run_74 : decode cX10_run 74 = .ok (.bipush 10, 2) := by decide +kernel
theorem dX10_run_76 : decode cX10_run 76 = .ok (.irem, 1) := by decide +kernel
theorem dX10_run_77 : decode cX10_run 77 = .ok (.iaload, 1) := by decide +kernel
theorem dX10_run_78 : decode cX10_run 78 = .ok (.iload_n 1, 1) := by decide +kernel
theorem dX10_run_79 : decode cX10_run 79 = .ok (.invokevirtual 265, 3) := by decide +kernel
theorem dX10_run_82 : decode cX10_run 82 = .ok (.iload_n 2, 1) := by decide +kernel
theorem dX10_run_83 : decode cX10_run 83 = .ok (.bipush 20, 2) := by decide +kernel
theorem dX10_run_85 : decode cX10_run 85 = .ok (.if_icmp .ge 10, 3) := by decide +kernel
theorem dX10_run_88 : decode cX10_run 88 = .ok (.aload_n 0, 1) := by decide +kernel
theorem dX10_run_89 : decode cX10_run 89 = .ok (.getfield 256, 3) := by decide +kernel
theorem dX10_run_92 : decode cX10_run 92 = .ok (.goto 7, 3) := by decide +kernel
theorem dX10_run_95 : decode cX10_run 95 = .ok (.aload_n 0, 1) := by decide +kernel
theorem dX10_run_96 : decode cX10_run 96 = .ok (.getfield 262, 3) := by decide +kernel
theorem dX10_run_99 : decode cX10_run 99 = .ok (.ireturn, 1) := by decide +kernel
theorem dX10_run_100 : decode cX10_run 100 = .ok (.iconst 0, 1) := by decide +kernel
theorem dX10_run_101 : decode cX10_run 101 = .ok (.istore 4, 2) := by decide +kernel
theorem dX10_run_103 : decode cX10_run 103 = .ok (.iconst 0, 1) := by decide +kernel
theorem dX10_run_104 : decode cX10_run 104 = .ok (.istore 5, 2) := by decide +kernel
theorem dX10_run_106 : decode cX10_run 106 = .ok (.iload 5, 2) := by decide +kernel
theorem dX10_run_108 : decode cX10_run 108 = .ok (.aload_n 0, 1) := by decide +kernel
theorem dX10_run_109 : decode cX10_run 109 = .ok (.getfield 76, 3) := by decide +kernel
theorem dX10_run_112 : decode cX10_run 112 = .ok (.if_icmp .ge 43, 3) := by decide +kernel
theorem dX10_run_115 : decode cX10_run 115 = .ok (.aload_n 0, 1) := by decide +kernel
theorem dX10_run_116 : decode cX10_run 116 = .ok (.iload 5, 2) := by decide +kernel
theorem dX10_run_118 : decode cX10_run 118 = .ok (.aload_n 0, 1) := by decide +kernel
theorem dX10_run_119 : decode cX10_run 119 = .ok (.getfield 32, 3) := by decide +kernel
theorem dX10_run_122 : decode cX10_run 122 = .ok (.iload 5, 2) := by decide +kernel
theorem dX10_run_124 : decode cX10_run 124 = .ok (.iaload, 1) := by decide +kernel
theorem dX10_run_125 : decode cX10_run 125 = .ok (.iload_n 1, 1) := by decide +kernel
theorem dX10_run_126 : decode cX10_run 126 = .ok (.invokevirtual 265, 3) := by decide +kernel
theorem dX10_run_129 : decode cX10_run 129 = .ok (.iload 4, 2) := by decide +kernel
theorem dX10_run_131 : decode cX10_run 131 = .ok (.iload_n 2, 1) := by decide +kernel
theorem dX10_run_132 : decode cX10_run 132 = .ok (.ifCond .ne 10, 3) := by decide +kernel
theorem dX10_run_135 : decode cX10_run 135 = .ok (.aload_n 0, 1) := by decide +kernel
theorem dX10_run_136 : decode cX10_run 136 = .ok (.getfield 256, 3) := by decide +kernel
theorem dX10_run_139 : decode cX10_run 139 = .ok (.goto 7, 3) := by decide +kernel
theorem dX10_run_142 : decode cX10_run 142 = .ok (.aload_n 0, 1) := by decide +kernel
theorem dX10_run_143 : decode cX10_run 143 = .ok (.getfield 259, 3) := by decide +kernel
theorem dX10_run_146 : decode cX10_run 146 = .ok (.iadd, 1) := by decide +kernel
theorem dX10_run_147 : decode cX10_run 147 = .ok (.istore 4, 2) := by decide +kernel
theorem dX10_run_149 : decode cX10_run 149 = .ok (.iinc 5 1, 3) := by decide +kernel
theorem dX10_run_152 : decode cX10_run 152 = .ok (.goto (-46), 3) := by decide +kernel
theorem dX10_run_155 : decode cX10_run 155 = .ok (.iload 4, 2) := by decide +kernel
theorem dX10_run_157 : decode cX10_run 157 = .ok (.ireturn, 1) := by decide +kernel
theorem dX10_ringOf_0 : decode cX10_ringOf 0 = .ok (.iconst 0, 1) := by decide +kernel
theorem dX10_ringOf_1 : decode cX10_ringOf 1 = .ok (.istore_n 2, 1) := by decide +kernel
theorem dX10_ringOf_2 : decode cX10_ringOf 2 = .ok (.iload_n 1, 1) := by decide +kernel
theorem dX10_ringOf_3 : decode cX10_ringOf 3 = .ok (.istore_n 3, 1) := by decide +kernel
theorem dX10_ringOf_4 : decode cX10_ringOf 4 = .ok (.iload_n 2, 1) := by decide +kernel
theorem dX10_ringOf_5 : decode cX10_ringOf 5 = .ok (.iload_n 3, 1) := by decide +kernel
theorem dX10_ringOf_6 : decode cX10_ringOf 6 = .ok (.ishr, 1) := by decide +kernel
theorem dX10_ringOf_7 : decode cX10_ringOf 7 = .ok (.iconst 1, 1) := by decide +kernel
theorem dX10_ringOf_8 : decode cX10_ringOf 8 = .ok (.iand, 1) := by decide +kernel
theorem dX10_ringOf_9 : decode cX10_ringOf 9 = .ok (.ifCond .ne 19, 3) := by decide +kernel
theorem dX10_ringOf_12 : decode cX10_ringOf 12 = .ok (.iload_n 2, 1) := by decide +kernel
theorem dX10_ringOf_13 : decode cX10_ringOf 13 = .ok (.iconst 1, 1) := by decide +kernel
theorem dX10_ringOf_14 : decode cX10_ringOf 14 = .ok (.iload_n 3, 1) := by decide +kernel
theorem dX10_ringOf_15 : decode cX10_ringOf 15 = .ok (.ishl, 1) := by decide +kernel
theorem dX10_ringOf_16 : decode cX10_ringOf 16 = .ok (.ior, 1) := by decide +kernel
theorem dX10_ringOf_17 : decode cX10_ringOf 17 = .ok (.istore_n 2, 1) := by decide +kernel
theorem dX10_ringOf_18 : decode cX10_ringOf 18 = .ok (.aload_n 0, 1) := by decide +kernel
theorem dX10_ringOf_19 : decode cX10_ringOf 19 = .ok (.getfield 32, 3) := by decide +kernel
theorem dX10_ringOf_22 : decode cX10_ringOf 22 = .ok (.iload_n 3, 1) := by decide +kernel
theorem dX10_ringOf_23 : decode cX10_ringOf 23 = .ok (.iaload, 1) := by decide +kernel
theorem dX10_ringOf_24 : decode cX10_ringOf 24 = .ok (.istore_n 3, 1) := by decide +kernel
theorem dX10_ringOf_25 : decode cX10_ringOf 25 = .ok (.goto (-21), 3) := by decide +kernel
theorem dX10_ringOf_28 : decode cX10_ringOf 28 = .ok (.iload_n 2, 1) := by decide +kernel
theorem dX10_ringOf_29 : decode cX10_ringOf 29 = .ok (.ireturn, 1) := by decide +kernel
theorem dX10_bitsOf_0 : decode cX10_bitsOf 0 = .ok (.iconst 0, 1) := by decide +kernel
theorem dX10_bitsOf_1 : decode cX10_bitsOf 1 = .ok (.istore_n 1, 1) := by decide +kernel
theorem dX10_bitsOf_2 : decode cX10_bitsOf 2 = .ok (.iload_n 0, 1) := by decide +kernel
theorem dX10_bitsOf_3 : decode cX10_bitsOf 3 = .ok (.istore_n 2, 1) := by decide +kernel
theorem dX10_bitsOf_4 : decode cX10_bitsOf 4 = .ok (.iload_n 2, 1) := by decide +kernel
theorem dX10_bitsOf_5 : decode cX10_bitsOf 5 = .ok (.ifCond .eq 15, 3) := by decide +kernel
theorem dX10_bitsOf_8 : decode cX10_bitsOf 8 = .ok (.iinc 1 1, 3) := by decide +kernel
theorem dX10_bitsOf_11 : decode cX10_bitsOf 11 = .ok (.iload_n 2, 1) := by decide +kernel
theorem dX10_bitsOf_12 : decode cX10_bitsOf 12 = .ok (.iload_n 2, 1) := by decide +kernel
theorem dX10_bitsOf_13 : decode cX10_bitsOf 13 = .ok (.iconst 1, 1) := by decide +kernel
theorem dX10_bitsOf_14 : decode cX10_bitsOf 14 = .ok (.isub, 1) := by decide +kernel
theorem dX10_bitsOf_15 : decode cX10_bitsOf 15 = .ok (.iand, 1) := by decide +kernel
theorem dX10_bitsOf_16 : decode cX10_bitsOf 16 = .ok (.istore_n 2, 1) := by decide +kernel
theorem dX10_bitsOf_17 : decode cX10_bitsOf 17 = .ok (.goto (-13), 3) := by decide +kernel
theorem dX10_bitsOf_20 : decode cX10_bitsOf 20 = .ok (.iload_n 1, 1) := by decide +kernel
theorem dX10_bitsOf_21 : decode cX10_bitsOf 21 = .ok (.ireturn, 1) := by decide +kernel
theorem dX10_ringMany_0 : decode cX10_ringMany 0 = .ok (.iconst 0, 1) := by decide +kernel
theorem dX10_ringMany_1 : decode cX10_ringMany 1 = .ok (.istore_n 1, 1) := by decide +kernel
theorem dX10_ringMany_2 : decode cX10_ringMany 2 = .ok (.iconst 0, 1) := by decide +kernel
theorem dX10_ringMany_3 : decode cX10_ringMany 3 = .ok (.istore_n 2, 1) := by decide +kernel
theorem dX10_ringMany_4 : decode cX10_ringMany 4 = .ok (.iload_n 2, 1) := by decide +kernel
theorem dX10_ringMany_5 : decode cX10_ringMany 5 = .ok (.aload_n 0, 1) := by decide +kernel
theorem dX10_ringMany_6 : decode cX10_ringMany 6 = .ok (.getfield 76, 3) := by decide +kernel
theorem dX10_ringMany_9 : decode cX10_ringMany 9 = .ok (.if_icmp .ge 31, 3) := by decide +kernel
theorem dX10_ringMany_12 : decode cX10_ringMany 12 = .ok (.iload_n 1, 1) := by decide +kernel
theorem dX10_ringMany_13 : decode cX10_ringMany 13 = .ok (.aload_n 0, 1) := by decide +kernel
theorem dX10_ringMany_14 : decode cX10_ringMany 14 = .ok (.iload_n 2, 1) := by decide +kernel
theorem dX10_ringMany_15 : decode cX10_ringMany 15 = .ok (.invokevirtual 272, 3) := by decide +kernel
theorem dX10_ringMany_18 : decode cX10_ringMany 18 = .ok (.iconst 1, 1) := by decide +kernel
theorem dX10_ringMany_19 : decode cX10_ringMany 19 = .ok (.iload_n 2, 1) := by decide +kernel
theorem dX10_ringMany_20 : decode cX10_ringMany 20 = .ok (.ishl, 1) := by decide +kernel
theorem dX10_ringMany_21 : decode cX10_ringMany 21 = .ok (.iconst 1, 1) := by decide +kernel
theorem dX10_ringMany_22 : decode cX10_ringMany 22 = .ok (.isub, 1) := by decide +kernel
theorem dX10_ringMany_23 : decode cX10_ringMany 23 = .ok (.iand, 1) := by decide +kernel
theorem dX10_ringMany_24 : decode cX10_ringMany 24 = .ok (.ifCond .ne 7, 3) := by decide +kernel
theorem dX10_ringMany_27 : decode cX10_ringMany 27 = .ok (.iconst 1, 1) := by decide +kernel
theorem dX10_ringMany_28 : decode cX10_ringMany 28 = .ok (.goto 4, 3) := by decide +kernel
theorem dX10_ringMany_31 : decode cX10_ringMany 31 = .ok (.iconst 0, 1) := by decide +kernel
theorem dX10_ringMany_32 : decode cX10_ringMany 32 = .ok (.iadd, 1) := by decide +kernel
theorem dX10_ringMany_33 : decode cX10_ringMany 33 = .ok (.istore_n 1, 1) := by decide +kernel
theorem dX10_ringMany_34 : decode cX10_ringMany 34 = .ok (.iinc 2 1, 3) := by decide +kernel
theorem dX10_ringMany_37 : decode cX10_ringMany 37 = .ok (.goto (-33), 3) := by decide +kernel
theorem dX10_ringMany_40 : decode cX10_ringMany 40 = .ok (.iload_n 1, 1) := by decide +kernel
theorem dX10_ringMany_41 : decode cX10_ringMany 41 = .ok (.ireturn, 1) := by decide +kernel
theorem dX10_firstChange_0 : decode cX10_firstChange 0 = .ok (.iconst 0, 1) := by decide +kernel
theorem dX10_firstChange_1 : decode cX10_firstChange 1 = .ok (.istore_n 1, 1) := by decide +kernel
theorem dX10_firstChange_2 : decode cX10_firstChange 2 = .ok (.iload_n 1, 1) := by decide +kernel
theorem dX10_firstChange_3 : decode cX10_firstChange 3 = .ok (.aload_n 0, 1) := by decide +kernel
theorem dX10_firstChange_4 : decode cX10_firstChange 4 = .ok (.getfield 76, 3) := by decide +kernel
theorem dX10_firstChange_7 : decode cX10_firstChange 7 = .ok (.if_icmp .ge 47, 3) := by decide +kernel
theorem dX10_firstChange_10 : decode cX10_firstChange 10 = .ok (.iload_n 1, 1) := by decide +kernel
theorem dX10_firstChange_11 : decode cX10_firstChange 11 = .ok (.iconst 1, 1) := by decide +kernel
theorem dX10_firstChange_12 : decode cX10_firstChange 12 = .ok (.iadd, 1) := by decide +kernel
theorem dX10_firstChange_13 : decode cX10_firstChange 13 = .ok (.istore_n 2, 1) := by decide +kernel
theorem dX10_firstChange_14 : decode cX10_firstChange 14 = .ok (.iload_n 2, 1) := by decide +kernel
theorem dX10_firstChange_15 : decode cX10_firstChange 15 = .ok (.aload_n 0, 1) := by decide +kernel
theorem dX10_firstChange_16 : decode cX10_firstChange 16 = .ok (.getfield 76, 3) := by decide +kernel
theorem dX10_firstChange_19 : decode cX10_firstChange 19 = .ok (.if_icmp .ge 29, 3) := by decide +kernel
theorem dX10_firstChange_22 : decode cX10_firstChange 22 = .ok (.aload_n 0, 1) := by decide +kernel
theorem dX10_firstChange_23 : decode cX10_firstChange 23 = .ok (.iload_n 1, 1) := by decide +kernel
theorem dX10_firstChange_24 : decode cX10_firstChange 24 = .ok (.invokevirtual 272, 3) := by decide +kernel
theorem dX10_firstChange_27 : decode cX10_firstChange 27 = .ok (.iload_n 2, 1) := by decide +kernel
theorem dX10_firstChange_28 : decode cX10_firstChange 28 = .ok (.ishr, 1) := by decide +kernel
theorem dX10_firstChange_29 : decode cX10_firstChange 29 = .ok (.iconst 1, 1) := by decide +kernel
theorem dX10_firstChange_30 : decode cX10_firstChange 30 = .ok (.iand, 1) := by decide +kernel
theorem dX10_firstChange_31 : decode cX10_firstChange 31 = .ok (.iconst 1, 1) := by decide +kernel
theorem dX10_firstChange_32 : decode cX10_firstChange 32 = .ok (.if_icmp .ne 10, 3) := by decide +kernel
theorem dX10_firstChange_35 : decode cX10_firstChange 35 = .ok (.bipush 10, 2) := by decide +kernel
theorem dX10_firstChange_37 : decode cX10_firstChange 37 = .ok (.iload_n 1, 1) := by decide +kernel
theorem dX10_firstChange_38 : decode cX10_firstChange 38 = .ok (.imul, 1) := by decide +kernel
theorem dX10_firstChange_39 : decode cX10_firstChange 39 = .ok (.iload_n 2, 1) := by decide +kernel
theorem dX10_firstChange_40 : decode cX10_firstChange 40 = .ok (.iadd, 1) := by decide +kernel
theorem dX10_firstChange_41 : decode cX10_firstChange 41 = .ok (.ireturn, 1) := by decide +kernel
theorem dX10_firstChange_42 : decode cX10_firstChange 42 = .ok (.iinc 2 1, 3) := by decide +kernel
theorem dX10_firstChange_45 : decode cX10_firstChange 45 = .ok (.goto (-31), 3) := by decide +kernel
theorem dX10_firstChange_48 : decode cX10_firstChange 48 = .ok (.iinc 1 1, 3) := by decide +kernel
theorem dX10_firstChange_51 : decode cX10_firstChange 51 = .ok (.goto (-49), 3) := by decide +kernel
theorem dX10_firstChange_54 : decode cX10_firstChange 54 = .ok (.iconst (-1), 1) := by decide +kernel
theorem dX10_firstChange_55 : decode cX10_firstChange 55 = .ok (.ireturn, 1) := by decide +kernel
theorem dX10_rings_0 : decode cX10_rings 0 = .ok (.iload_n 1, 1) := by decide +kernel
theorem dX10_rings_1 : decode cX10_rings 1 = .ok (.i2l, 1) := by decide +kernel
theorem dX10_rings_2 : decode cX10_rings 2 = .ok (.lconst 0, 1) := by decide +kernel
theorem dX10_rings_3 : decode cX10_rings 3 = .ok (.ldc2_w 83, 3) := by decide +kernel
theorem dX10_rings_6 : decode cX10_rings 6 = .ok (.invokestatic 79, 3) := by decide +kernel
theorem dX10_rings_9 : decode cX10_rings 9 = .ok (.ifCond .ne 6, 3) := by decide +kernel
theorem dX10_rings_12 : decode cX10_rings 12 = .ok (.bipush (-2), 2) := by decide +kernel
theorem dX10_rings_14 : decode cX10_rings 14 = .ok (.ireturn, 1) := by decide +kernel
theorem dX10_rings_15 : decode cX10_rings 15 = .ok (.iload_n 1, 1) := by decide +kernel
theorem dX10_rings_16 : decode cX10_rings 16 = .ok (.ifCond .eq 8, 3) := by decide +kernel
theorem dX10_rings_19 : decode cX10_rings 19 = .ok (.iload_n 1, 1) := by decide +kernel
theorem dX10_rings_20 : decode cX10_rings 20 = .ok (.iconst 2, 1) := by decide +kernel
theorem dX10_rings_21 : decode cX10_rings 21 = .ok (.if_icmp .ne 24, 3) := by decide +kernel
theorem dX10_rings_24 : decode cX10_rings 24 = .ok (.iload_n 1, 1) := by decide +kernel
theorem dX10_rings_25 : decode cX10_rings 25 = .ok (.ifCond .ne 10, 3) := by decide +kernel
theorem dX10_rings_28 : decode cX10_rings 28 = .ok (.aload_n 0, 1) := by decide +kernel
theorem dX10_rings_29 : decode cX10_rings 29 = .ok (.invokevirtual 275, 3) := by decide +kernel
theorem dX10_rings_32 : decode cX10_rings 32 = .ok (.goto 12, 3) := by decide +kernel
theorem dX10_rings_35 : decode cX10_rings 35 = .ok (.aload_n 0, 1) := by decide +kernel
theorem dX10_rings_36 : decode cX10_rings 36 = .ok (.getfield 76, 3) := by decide +kernel
theorem dX10_rings_39 : decode cX10_rings 39 = .ok (.aload_n 0, 1) := by decide +kernel
theorem dX10_rings_40 : decode cX10_rings 40 = .ok (.invokevirtual 275, 3) := by decide +kernel
theorem dX10_rings_43 : decode cX10_rings 43 = .ok (.isub, 1) := by decide +kernel
theorem dX10_rings_44 : decode cX10_rings 44 = .ok (.ireturn, 1) := by decide +kernel
theorem dX10_rings_45 : decode cX10_rings 45 = .ok (.iload_n 1, 1) := by decide +kernel
theorem dX10_rings_46 : decode cX10_rings 46 = .ok (.iconst 3, 1) := by decide +kernel
theorem dX10_rings_47 : decode cX10_rings 47 = .ok (.if_icmp .ne 8, 3) := by decide +kernel
theorem dX10_rings_50 : decode cX10_rings 50 = .ok (.aload_n 0, 1) := by decide +kernel
theorem dX10_rings_51 : decode cX10_rings 51 = .ok (.invokevirtual 278, 3) := by decide +kernel
theorem dX10_rings_54 : decode cX10_rings 54 = .ok (.ireturn, 1) := by decide +kernel
theorem dX10_rings_55 : decode cX10_rings 55 = .ok (.iconst 0, 1) := by decide +kernel
theorem dX10_rings_56 : decode cX10_rings 56 = .ok (.istore_n 2, 1) := by decide +kernel
theorem dX10_rings_57 : decode cX10_rings 57 = .ok (.iconst 0, 1) := by decide +kernel
theorem dX10_rings_58 : decode cX10_rings 58 = .ok (.istore_n 3, 1) := by decide +kernel
theorem dX10_rings_59 : decode cX10_rings 59 = .ok (.iconst 0, 1) := by decide +kernel
theorem dX10_rings_60 : decode cX10_rings 60 = .ok (.istore 4, 2) := by decide +kernel
theorem dX10_rings_62 : decode cX10_rings 62 = .ok (.iload 4, 2) := by decide +kernel
theorem dX10_rings_64 : decode cX10_rings 64 = .ok (.aload_n 0, 1) := by decide +kernel
theorem dX10_rings_65 : decode cX10_rings 65 = .ok (.getfield 76, 3) := by decide +kernel
theorem dX10_rings_68 : decode cX10_rings 68 = .ok (.if_icmp .ge 59, 3) := by decide +kernel
theorem dX10_rings_71 : decode cX10_rings 71 = .ok (.aload_n 0, 1) := by decide +kernel
theorem dX10_rings_72 : decode cX10_rings 72 = .ok (.iload 4, 2) := by decide +kernel
theorem dX10_rings_74 : decode cX10_rings 74 = .ok (.invokevirtual 272, 3) := by decide +kernel
theorem dX10_rings_77 : decode cX10_rings 77 = .ok (.invokestatic 281, 3) := by decide +kernel
theorem dX10_rings_80 : decode cX10_rings 80 = .ok (.iload_n 2, 1) := by decide +kernel
theorem dX10_rings_81 : decode cX10_rings 81 = .ok (.if_icmp .le 15, 3) := by decide +kernel
theorem dX10_rings_84 : decode cX10_rings 84 = .ok (.aload_n 0, 1) := by decide +kernel
theorem dX10_rings_85 : decode cX10_rings 85 = .ok (.iload 4, 2) := by decide +kernel
theorem dX10_rings_87 : decode cX10_rings 87 = .ok (.invokevirtual 272, 3) := by decide +kernel
theorem dX10_rings_90 : decode cX10_rings 90 = .ok (.invokestatic 281, 3) := by decide +kernel
theorem dX10_rings_93 : decode cX10_rings 93 = .ok (.goto 4, 3) := by decide +kernel
theorem dX10_rings_96 : decode cX10_rings 96 = .ok (.iload_n 2, 1) := by decide +kernel
theorem dX10_rings_97 : decode cX10_rings 97 = .ok (.istore_n 2, 1) := by decide +kernel
theorem dX10_rings_98 : decode cX10_rings 98 = .ok (.iload_n 3, 1) := by decide +kernel
theorem dX10_rings_99 : decode cX10_rings 99 = .ok (.aload_n 0, 1) := by decide +kernel
theorem dX10_rings_100 : decode cX10_rings 100 = .ok (.getfield 32, 3) := by decide +kernel
theorem dX10_rings_103 : decode cX10_rings 103 = .ok (.iload 4, 2) := by decide +kernel
theorem dX10_rings_105 : decode cX10_rings 105 = .ok (.iaload, 1) := by decide +kernel
theorem dX10_rings_106 : decode cX10_rings 106 = .ok (.iload 4, 2) := by decide +kernel
theorem dX10_rings_108 : decode cX10_rings 108 = .ok (.if_icmp .ne 7, 3) := by decide +kernel
theorem dX10_rings_111 : decode cX10_rings 111 = .ok (.iconst 1, 1) := by decide +kernel
theorem dX10_rings_112 : decode cX10_rings 112 = .ok (.goto 4, 3) := by decide +kernel
theorem dX10_rings_115 : decode cX10_rings 115 = .ok (.iconst 0, 1) := by decide +kernel
theorem dX10_rings_116 : decode cX10_rings 116 = .ok (.iload 4, 2) := by decide +kernel
theorem dX10_rings_118 : decode cX10_rings 118 = .ok (.ishl, 1) := by decide +kernel
theorem dX10_rings_119 : decode cX10_rings 119 = .ok (.ior, 1) := by decide +kernel
theorem dX10_rings_120 : decode cX10_rings 120 = .ok (.istore_n 3, 1) := by decide +kernel
theorem dX10_rings_121 : decode cX10_rings 121 = .ok (.iinc 4 1, 3) := by decide +kernel
theorem dX10_rings_124 : decode cX10_rings 124 = .ok (.goto (-62), 3) := by decide +kernel
theorem dX10_rings_127 : decode cX10_rings 127 = .ok (.iload_n 1, 1) := by decide +kernel
theorem dX10_rings_128 : decode cX10_rings 128 = .ok (.iconst 1, 1) := by decide +kernel
theorem dX10_rings_129 : decode cX10_rings 129 = .ok (.if_icmp .ne 7, 3) := by decide +kernel
theorem dX10_rings_132 : decode cX10_rings 132 = .ok (.iload_n 2, 1) := by decide +kernel
theorem dX10_rings_133 : decode cX10_rings 133 = .ok (.goto 4, 3) := by decide +kernel
theorem dX10_rings_136 : decode cX10_rings 136 = .ok (.iload_n 3, 1) := by decide +kernel
theorem dX10_rings_137 : decode cX10_rings 137 = .ok (.ireturn, 1) := by decide +kernel
theorem dX10_ring_0 : decode cX10_ring 0 = .ok (.aload_n 0, 1) := by decide +kernel
theorem dX10_ring_1 : decode cX10_ring 1 = .ok (.iload_n 1, 1) := by decide +kernel
theorem dX10_ring_2 : decode cX10_ring 2 = .ok (.invokevirtual 85, 3) := by decide +kernel
theorem dX10_ring_5 : decode cX10_ring 5 = .ok (.ifCond .eq 11, 3) := by decide +kernel
theorem dX10_ring_8 : decode cX10_ring 8 = .ok (.aload_n 0, 1) := by decide +kernel
theorem dX10_ring_9 : decode cX10_ring 9 = .ok (.iload_n 1, 1) := by decide +kernel
theorem dX10_ring_10 : decode cX10_ring 10 = .ok (.invokevirtual 272, 3) := by decide +kernel
theorem dX10_ring_13 : decode cX10_ring 13 = .ok (.goto 5, 3) := by decide +kernel
theorem dX10_ring_16 : decode cX10_ring 16 = .ok (.bipush (-2), 2) := by decide +kernel
theorem dX10_ring_18 : decode cX10_ring 18 = .ok (.ireturn, 1) := by decide +kernel
theorem dX10_tables_0 : decode cX10_tables 0 = .ok (.iconst 0, 1) := by decide +kernel
theorem dX10_tables_1 : decode cX10_tables 1 = .ok (.istore_n 2, 1) := by decide +kernel
theorem dX10_tables_2 : decode cX10_tables 2 = .ok (.iload_n 2, 1) := by decide +kernel
theorem dX10_tables_3 : decode cX10_tables 3 = .ok (.aload_n 0, 1) := by decide +kernel
theorem dX10_tables_4 : decode cX10_tables 4 = .ok (.getfield 76, 3) := by decide +kernel
theorem dX10_tables_7 : decode cX10_tables 7 = .ok (.if_icmp .ge 47, 3) := by decide +kernel
theorem dX10_tables_10 : decode cX10_tables 10 = .ok (.iconst 0, 1) := by decide +kernel
theorem dX10_tables_11 : decode cX10_tables 11 = .ok (.istore_n 3, 1) := by decide +kernel
theorem dX10_tables_12 : decode cX10_tables 12 = .ok (.iload_n 3, 1) := by decide +kernel
theorem dX10_tables_13 : decode cX10_tables 13 = .ok (.aload_n 0, 1) := by decide +kernel
theorem dX10_tables_14 : decode cX10_tables 14 = .ok (.getfield 76, 3) := by decide +kernel
theorem dX10_tables_17 : decode cX10_tables 17 = .ok (.if_icmp .ge 31, 3) := by decide +kernel
theorem dX10_tables_20 : decode cX10_tables 20 = .ok (.aload_n 0, 1) := by decide +kernel
theorem dX10_tables_21 : decode cX10_tables 21 = .ok (.iload_n 2, 1) := by decide +kernel
theorem dX10_tables_22 : decode cX10_tables 22 = .ok (.iload_n 3, 1) := by decide +kernel
theorem dX10_tables_23 : decode cX10_tables 23 = .ok (.iload_n 1, 1) := by decide +kernel
theorem dX10_tables_24 : decode cX10_tables 24 = .ok (.invokevirtual 265, 3) := by decide +kernel
theorem dX10_tables_27 : decode cX10_tables 27 = .ok (.aload_n 0, 1) := by decide +kernel
theorem dX10_tables_28 : decode cX10_tables 28 = .ok (.getfield 35, 3) := by decide +kernel
theorem dX10_tables_31 : decode cX10_tables 31 = .ok (.bipush 6, 2) := by decide +kernel
theorem dX10_tables_33 : decode cX10_tables 33 = .ok (.iload_n 2, 1) := by decide +kernel
theorem dX10_tables_34 : decode cX10_tables 34 = .ok (.imul, 1) := by decide +kernel
theorem dX10_tables_35 : decode cX10_tables 35 = .ok (.iload_n 3, 1) := by decide +kernel
theorem dX10_tables_36 : decode cX10_tables 36 = .ok (.iadd, 1) := by decide +kernel
theorem dX10_tables_37 : decode cX10_tables 37 = .ok (.aload_n 0, 1) := by decide +kernel
theorem dX10_tables_38 : decode cX10_tables 38 = .ok (.getfield 256, 3) := by decide +kernel
theorem dX10_tables_41 : decode cX10_tables 41 = .ok (.iastore, 1) := by decide +kernel
theorem dX10_tables_42 : decode cX10_tables 42 = .ok (.iinc 3 1, 3) := by decide +kernel
theorem dX10_tables_45 : decode cX10_tables 45 = .ok (.goto (-33), 3) := by decide +kernel
theorem dX10_tables_48 : decode cX10_tables 48 = .ok (.iinc 2 1, 3) := by decide +kernel
theorem dX10_tables_51 : decode cX10_tables 51 = .ok (.goto (-49), 3) := by decide +kernel
theorem dX10_tables_54 : decode cX10_tables 54 = .ok (.return_, 1) := by decide +kernel
theorem dX10_warmNow_0 : decode cX10_warmNow 0 = .ok (.iconst 0, 1) := by decide +kernel
theorem dX10_warmNow_1 : decode cX10_warmNow 1 = .ok (.istore_n 1, 1) := by decide +kernel
theorem dX10_warmNow_2 : decode cX10_warmNow 2 = .ok (.iconst 0, 1) := by decide +kernel
theorem dX10_warmNow_3 : decode cX10_warmNow 3 = .ok (.istore_n 2, 1) := by decide +kernel
theorem dX10_warmNow_4 : decode cX10_warmNow 4 = .ok (.iload_n 2, 1) := by decide +kernel
theorem dX10_warmNow_5 : decode cX10_warmNow 5 = .ok (.aload_n 0, 1) := by decide +kernel
theorem dX10_warmNow_6 : decode cX10_warmNow 6 = .ok (.getfield 76, 3) := by decide +kernel
theorem dX10_warmNow_9 : decode cX10_warmNow 9 = .ok (.if_icmp .ge 28, 3) := by decide +kernel
theorem dX10_warmNow_12 : decode cX10_warmNow 12 = .ok (.iload_n 1, 1) := by decide +kernel
theorem dX10_warmNow_13 : decode cX10_warmNow 13 = .ok (.aload_n 0, 1) := by decide +kernel
theorem dX10_warmNow_14 : decode cX10_warmNow 14 = .ok (.getfield 35, 3) := by decide +kernel
theorem dX10_warmNow_17 : decode cX10_warmNow 17 = .ok (.bipush 6, 2) := by decide +kernel
theorem dX10_warmNow_19 : decode cX10_warmNow 19 = .ok (.iload_n 2, 1) := by decide +kernel
theorem dX10_warmNow_20 : decode cX10_warmNow 20 = .ok (.imul, 1) := by decide +kernel
theorem dX10_warmNow_21 : decode cX10_warmNow 21 = .ok (.aload_n 0, 1) := by decide +kernel
theorem dX10_warmNow_22 : decode cX10_warmNow 22 = .ok (.getfield 32, 3) := by decide +kernel
theorem dX10_warmNow_25 : decode cX10_warmNow 25 = .ok (.iload_n 2, 1) := by decide +kernel
theorem dX10_warmNow_26 : decode cX10_warmNow 26 = .ok (.iaload, 1) := by decide +kernel
theorem dX10_warmNow_27 : decode cX10_warmNow 27 = .ok (.iadd, 1) := by decide +kernel
theorem dX10_warmNow_28 : decode cX10_warmNow 28 = .ok (.iaload, 1) := by decide +kernel
theorem dX10_warmNow_29 : decode cX10_warmNow 29 = .ok (.iadd, 1) := by decide +kernel
theorem dX10_warmNow_30 : decode cX10_warmNow 30 = .ok (.istore_n 1, 1) := by decide +kernel
theorem dX10_warmNow_31 : decode cX10_warmNow 31 = .ok (.iinc 2 1, 3) := by decide +kernel
theorem dX10_warmNow_34 : decode cX10_warmNow 34 = .ok (.goto (-30), 3) := by decide +kernel
theorem dX10_warmNow_37 : decode cX10_warmNow 37 = .ok (.iload_n 1, 1) := by decide +kernel
theorem dX10_warmNow_38 : decode cX10_warmNow 38 = .ok (.ireturn, 1) := by decide +kernel
theorem dX10_better_0 : decode cX10_better 0 = .ok (.iload_n 1, 1) := by decide +kernel
theorem dX10_better_1 : decode cX10_better 1 = .ok (.i2l, 1) := by decide +kernel
theorem dX10_better_2 : decode cX10_better 2 = .ok (.lconst 0, 1) := by decide +kernel
theorem dX10_better_3 : decode cX10_better 3 = .ok (.ldc2_w 270, 3) := by decide +kernel
theorem dX10_better_6 : decode cX10_better 6 = .ok (.invokestatic 79, 3) := by decide +kernel
theorem dX10_better_9 : decode cX10_better 9 = .ok (.ifCond .eq 13, 3) := by decide +kernel
theorem dX10_better_12 : decode cX10_better 12 = .ok (.iload_n 2, 1) := by decide +kernel
theorem dX10_better_13 : decode cX10_better 13 = .ok (.i2l, 1) := by decide +kernel
theorem dX10_better_14 : decode cX10_better 14 = .ok (.lconst 0, 1) := by decide +kernel
theorem dX10_better_15 : decode cX10_better 15 = .ok (.lconst 1, 1) := by decide +kernel
theorem dX10_better_16 : decode cX10_better 16 = .ok (.invokestatic 79, 3) := by decide +kernel
theorem dX10_better_19 : decode cX10_better 19 = .ok (.ifCond .ne 6, 3) := by decide +kernel
theorem dX10_better_22 : decode cX10_better 22 = .ok (.bipush (-2), 2) := by decide +kernel
theorem dX10_better_24 : decode cX10_better 24 = .ok (.ireturn, 1) := by decide +kernel
theorem dX10_better_25 : decode cX10_better 25 = .ok (.aload_n 0, 1) := by decide +kernel
theorem dX10_better_26 : decode cX10_better 26 = .ok (.iload_n 1, 1) := by decide +kernel
theorem dX10_better_27 : decode cX10_better 27 = .ok (.invokevirtual 284, 3) := by decide +kernel
theorem dX10_better_30 : decode cX10_better 30 = .ok (.iconst (-1), 1) := by decide +kernel
theorem dX10_better_31 : decode cX10_better 31 = .ok (.istore_n 3, 1) := by decide +kernel
theorem dX10_better_32 : decode cX10_better 32 = .ok (.aload_n 0, 1) := by decide +kernel
theorem dX10_better_33 : decode cX10_better 33 = .ok (.invokevirtual 288, 3) := by decide +kernel
theorem dX10_better_36 : decode cX10_better 36 = .ok (.istore 4, 2) := by decide +kernel
theorem dX10_better_38 : decode cX10_better 38 = .ok (.iconst 0, 1) := by decide +kernel
theorem dX10_better_39 : decode cX10_better 39 = .ok (.istore 5, 2) := by decide +kernel
theorem dX10_better_41 : decode cX10_better 41 = .ok (.iload 5, 2) := by decide +kernel
theorem dX10_better_43 : decode cX10_better 43 = .ok (.aload_n 0, 1) := by decide +kernel
theorem dX10_better_44 : decode cX10_better 44 = .ok (.getfield 76, 3) := by decide +kernel
theorem dX10_better_47 : decode cX10_better 47 = .ok (.if_icmp .ge 72, 3) := by decide +kernel
theorem dX10_better_50 : decode cX10_better 50 = .ok (.iload 5, 2) := by decide +kernel
theorem dX10_better_52 : decode cX10_better 52 = .ok (.iconst 1, 1) := by decide +kernel
theorem dX10_better_53 : decode cX10_better 53 = .ok (.iadd, 1) := by decide +kernel
theorem dX10_better_54 : decode cX10_better 54 = .ok (.istore 6, 2) := by decide +kernel
theorem dX10_better_56 : decode cX10_better 56 = .ok (.iload 6, 2) := by decide +kernel
theorem dX10_better_58 : decode cX10_better 58 = .ok (.aload_n 0, 1) := by decide +kernel
theorem dX10_better_59 : decode cX10_better 59 = .ok (.getfield 76, 3) := by decide +kernel
theorem dX10_better_62 : decode cX10_better 62 = .ok (.if_icmp .ge 51, 3) := by decide +kernel
theorem dX10_better_65 : decode cX10_better 65 = .ok (.aload_n 0, 1) := by decide +kernel
theorem dX10_better_66 : decode cX10_better 66 = .ok (.iload 5, 2) := by decide +kernel
theorem dX10_better_68 : decode cX10_better 68 = .ok (.iload 6, 2) := by decide +kernel
theorem dX10_better_70 : decode cX10_better 70 = .ok (.invokevirtual 113, 3) := by decide +kernel
theorem dX10_better_73 : decode cX10_better 73 = .ok (.aload_n 0, 1) := by decide +kernel
theorem dX10_better_74 : decode cX10_better 74 = .ok (.invokevirtual 288, 3) := by decide +kernel
theorem dX10_better_77 : decode cX10_better 77 = .ok (.istore 7, 2) := by decide +kernel
theorem dX10_better_79 : decode cX10_better 79 = .ok (.aload_n 0, 1) := by decide +kernel
theorem dX10_better_80 : decode cX10_better 80 = .ok (.iload 5, 2) := by decide +kernel
theorem dX10_better_82 : decode cX10_better 82 = .ok (.iload 6, 2) := by decide +kernel
theorem dX10_better_84 : decode cX10_better 84 = .ok (.invokevirtual 113, 3) := by decide +kernel
theorem dX10_better_87 : decode cX10_better 87 = .ok (.iload 7, 2) := by decide +kernel
theorem dX10_better_89 : decode cX10_better 89 = .ok (.iload 4, 2) := by decide +kernel
theorem dX10_better_91 : decode cX10_better 91 = .ok (.if_icmp .ge 16, 3) := by decide +kernel
theorem dX10_better_94 : decode cX10_better 94 = .ok (.bipush 10, 2) := by decide +kernel
theorem dX10_better_96 : decode cX10_better 96 = .ok (.iload 5, 2) := by decide +kernel
theorem dX10_better_98 : decode cX10_better 98 = .ok (.imul, 1) := by decide +kernel
theorem dX10_better_99 : decode cX10_better 99 = .ok (.iload 6, 2) := by decide +kernel
theorem dX10_better_101 : decode cX10_better 101 = .ok (.iadd, 1) := by decide +kernel
theorem dX10_better_102 : decode cX10_better 102 = .ok (.istore_n 3, 1) := by decide +kernel
theorem dX10_better_103 : decode cX10_better 103 = .ok (.iload 7, 2) := by decide +kernel
theorem dX10_better_105 : decode cX10_better 105 = .ok (.istore 4, 2) := by decide +kernel
theorem dX10_better_107 : decode cX10_better 107 = .ok (.iinc 6 1, 3) := by decide +kernel
theorem dX10_better_110 : decode cX10_better 110 = .ok (.goto (-54), 3) := by decide +kernel
theorem dX10_better_113 : decode cX10_better 113 = .ok (.iinc 5 1, 3) := by decide +kernel
theorem dX10_better_116 : decode cX10_better 116 = .ok (.goto (-75), 3) := by decide +kernel
theorem dX10_better_119 : decode cX10_better 119 = .ok (.iload_n 2, 1) := by decide +kernel
theorem dX10_better_120 : decode cX10_better 120 = .ok (.ifCond .ne 7, 3) := by decide +kernel
theorem dX10_better_123 : decode cX10_better 123 = .ok (.iload_n 3, 1) := by decide +kernel
theorem dX10_better_124 : decode cX10_better 124 = .ok (.goto 5, 3) := by decide +kernel
theorem dX10_better_127 : decode cX10_better 127 = .ok (.iload 4, 2) := by decide +kernel
theorem dX10_better_129 : decode cX10_better 129 = .ok (.ireturn, 1) := by decide +kernel
theorem dX10_seeks_0 : decode cX10_seeks 0 = .ok (.iload_n 1, 1) := by decide +kernel
theorem dX10_seeks_1 : decode cX10_seeks 1 = .ok (.aload_n 0, 1) := by decide +kernel
theorem dX10_seeks_2 : decode cX10_seeks 2 = .ok (.getfield 76, 3) := by decide +kernel
theorem dX10_seeks_5 : decode cX10_seeks 5 = .ok (.if_icmp .ne 35, 3) := by decide +kernel
theorem dX10_seeks_8 : decode cX10_seeks 8 = .ok (.aload_n 0, 1) := by decide +kernel
theorem dX10_seeks_9 : decode cX10_seeks 9 = .ok (.getfield 291, 3) := by decide +kernel
theorem dX10_seeks_12 : decode cX10_seeks 12 = .ok (.ifCond .eq 11, 3) := by decide +kernel
theorem dX10_seeks_15 : decode cX10_seeks 15 = .ok (.iload_n 3, 1) := by decide +kernel
theorem dX10_seeks_16 : decode cX10_seeks 16 = .ok (.aload_n 0, 1) := by decide +kernel
theorem dX10_seeks_17 : decode cX10_seeks 17 = .ok (.getfield 294, 3) := by decide +kernel
theorem dX10_seeks_20 : decode cX10_seeks 20 = .ok (.if_icmp .ge 19, 3) := by decide +kernel
theorem dX10_seeks_23 : decode cX10_seeks 23 = .ok (.aload_n 0, 1) := by decide +kernel
theorem dX10_seeks_24 : decode cX10_seeks 24 = .ok (.iconst 1, 1) := by decide +kernel
theorem dX10_seeks_25 : decode cX10_seeks 25 = .ok (.putfield 291, 3) := by decide +kernel
theorem dX10_seeks_28 : decode cX10_seeks 28 = .ok (.aload_n 0, 1) := by decide +kernel
theorem dX10_seeks_29 : decode cX10_seeks 29 = .ok (.iload 4, 2) := by decide +kernel
theorem dX10_seeks_31 : decode cX10_seeks 31 = .ok (.putfield 297, 3) := by decide +kernel
theorem dX10_seeks_34 : decode cX10_seeks 34 = .ok (.aload_n 0, 1) := by decide +kernel
theorem dX10_seeks_35 : decode cX10_seeks 35 = .ok (.iload_n 3, 1) := by decide +kernel
theorem dX10_seeks_36 : decode cX10_seeks 36 = .ok (.putfield 294, 3) := by decide +kernel
theorem dX10_seeks_39 : decode cX10_seeks 39 = .ok (.return_, 1) := by decide +kernel
theorem dX10_seeks_40 : decode cX10_seeks 40 = .ok (.iconst 0, 1) := by decide +kernel
theorem dX10_seeks_41 : decode cX10_seeks 41 = .ok (.istore 5, 2) := by decide +kernel
theorem dX10_seeks_43 : decode cX10_seeks 43 = .ok (.iload 5, 2) := by decide +kernel
theorem dX10_seeks_45 : decode cX10_seeks 45 = .ok (.aload_n 0, 1) := by decide +kernel
theorem dX10_seeks_46 : decode cX10_seeks 46 = .ok (.getfield 76, 3) := by decide +kernel
theorem dX10_seeks_49 : decode cX10_seeks 49 = .ok (.if_icmp .ge 55, 3) := by decide +kernel
theorem dX10_seeks_52 : decode cX10_seeks 52 = .ok (.iload_n 2, 1) := by decide +kernel
theorem dX10_seeks_53 : decode cX10_seeks 53 = .ok (.iload 5, 2) := by decide +kernel
theorem dX10_seeks_55 : decode cX10_seeks 55 = .ok (.ishr, 1) := by decide +kernel
theorem dX10_seeks_56 : decode cX10_seeks 56 = .ok (.iconst 1, 1) := by decide +kernel
theorem dX10_seeks_57 : decode cX10_seeks 57 = .ok (.iand, 1) := by decide +kernel
theorem dX10_seeks_58 : decode cX10_seeks 58 = .ok (.ifCond .ne 40, 3) := by decide +kernel
theorem dX10_seeks_61 : decode cX10_seeks 61 = .ok (.aload_n 0, 1) := by decide +kernel
theorem dX10_seeks_62 : decode cX10_seeks 62 = .ok (.iload_n 1, 1) := by decide +kernel
theorem dX10_seeks_63 : decode cX10_seeks 63 = .ok (.iconst 1, 1) := by decide +kernel
theorem dX10_seeks_64 : decode cX10_seeks 64 = .ok (.iadd, 1) := by decide +kernel
theorem dX10_seeks_65 : decode cX10_seeks 65 = .ok (.iload_n 2, 1) := by decide +kernel
theorem dX10_seeks_66 : decode cX10_seeks 66 = .ok (.iconst 1, 1) := by decide +kernel
theorem dX10_seeks_67 : decode cX10_seeks 67 = .ok (.iload 5, 2) := by decide +kernel
theorem dX10_seeks_69 : decode cX10_seeks 69 = .ok (.ishl, 1) := by decide +kernel
theorem dX10_seeks_70 : decode cX10_seeks 70 = .ok (.ior, 1) := by decide +kernel
theorem dX10_seeks_71 : decode cX10_seeks 71 = .ok (.iload_n 3, 1) := by decide +kernel
theorem dX10_seeks_72 : decode cX10_seeks 72 = .ok (.aload_n 0, 1) := by decide +kernel
theorem dX10_seeks_73 : decode cX10_seeks 73 = .ok (.getfield 35, 3) := by decide +kernel
theorem dX10_seeks_76 : decode cX10_seeks 76 = .ok (.bipush 6, 2) := by decide +kernel
theorem dX10_seeks_78 : decode cX10_seeks 78 = .ok (.iload_n 1, 1) := by decide +kernel
theorem dX10_seeks_79 : decode cX10_seeks 79 = .ok (.imul, 1) := by decide +kernel
theorem dX10_seeks_80 : decode cX10_seeks 80 = .ok (.iload 5, 2) := by decide +kernel
theorem dX10_seeks_82 : decode cX10_seeks 82 = .ok (.iadd, 1) := by decide +kernel
theorem dX10_seeks_83 : decode cX10_seeks 83 = .ok (.iaload, 1) := by decide +kernel
theorem dX10_seeks_84 : decode cX10_seeks 84 = .ok (.iadd, 1) := by decide +kernel
theorem dX10_seeks_85 : decode cX10_seeks 85 = .ok (.bipush 10, 2) := by decide +kernel
theorem dX10_seeks_87 : decode cX10_seeks 87 = .ok (.iload 4, 2) := by decide +kernel
theorem dX10_seeks_89 : decode cX10_seeks 89 = .ok (.imul, 1) := by decide +kernel
theorem dX10_seeks_90 : decode cX10_seeks 90 = .ok (.iload 5, 2) := by decide +kernel
theorem dX10_seeks_92 : decode cX10_seeks 92 = .ok (.iadd, 1) := by decide +kernel
theorem dX10_seeks_93 : decode cX10_seeks 93 = .ok (.iconst 1, 1) := by decide +kernel
theorem dX10_seeks_94 : decode cX10_seeks 94 = .ok (.iadd, 1) := by decide +kernel
theorem dX10_seeks_95 : decode cX10_seeks 95 = .ok (.invokevirtual 300, 3) := by decide +kernel
theorem dX10_seeks_98 : decode cX10_seeks 98 = .ok (.iinc 5 1, 3) := by decide +kernel
theorem dX10_seeks_101 : decode cX10_seeks 101 = .ok (.goto (-58), 3) := by decide +kernel
theorem dX10_seeks_104 : decode cX10_seeks 104 = .ok (.return_, 1) := by decide +kernel
theorem dX10_best_0 : decode cX10_best 0 = .ok (.iload_n 1, 1) := by decide +kernel
theorem dX10_best_1 : decode cX10_best 1 = .ok (.i2l, 1) := by decide +kernel
theorem dX10_best_2 : decode cX10_best 2 = .ok (.lconst 0, 1) := by decide +kernel
theorem dX10_best_3 : decode cX10_best 3 = .ok (.ldc2_w 117, 3) := by decide +kernel
theorem dX10_best_6 : decode cX10_best 6 = .ok (.invokestatic 79, 3) := by decide +kernel
theorem dX10_best_9 : decode cX10_best 9 = .ok (.ifCond .eq 13, 3) := by decide +kernel
theorem dX10_best_12 : decode cX10_best 12 = .ok (.iload_n 2, 1) := by decide +kernel
theorem dX10_best_13 : decode cX10_best 13 = .ok (.i2l, 1) := by decide +kernel
theorem dX10_best_14 : decode cX10_best 14 = .ok (.lconst 0, 1) := by decide +kernel
theorem dX10_best_15 : decode cX10_best 15 = .ok (.lconst 1, 1) := by decide +kernel
theorem dX10_best_16 : decode cX10_best 16 = .ok (.invokestatic 79, 3) := by decide +kernel
theorem dX10_best_19 : decode cX10_best 19 = .ok (.ifCond .ne 6, 3) := by decide +kernel
theorem dX10_best_22 : decode cX10_best 22 = .ok (.bipush (-2), 2) := by decide +kernel
theorem dX10_best_24 : decode cX10_best 24 = .ok (.ireturn, 1) := by decide +kernel
theorem dX10_best_25 : decode cX10_best 25 = .ok (.aload_n 0, 1) := by decide +kernel
theorem dX10_best_26 : decode cX10_best 26 = .ok (.iload_n 1, 1) := by decide +kernel
theorem dX10_best_27 : decode cX10_best 27 = .ok (.invokevirtual 284, 3) := by decide +kernel
theorem dX10_best_30 : decode cX10_best 30 = .ok (.aload_n 0, 1) := by decide +kernel
theorem dX10_best_31 : decode cX10_best 31 = .ok (.iconst 0, 1) := by decide +kernel
theorem dX10_best_32 : decode cX10_best 32 = .ok (.putfield 291, 3) := by decide +kernel
theorem dX10_best_35 : decode cX10_best 35 = .ok (.aload_n 0, 1) := by decide +kernel
theorem dX10_best_36 : decode cX10_best 36 = .ok (.iconst 0, 1) := by decide +kernel
theorem dX10_best_37 : decode cX10_best 37 = .ok (.iconst 0, 1) := by decide +kernel
theorem dX10_best_38 : decode cX10_best 38 = .ok (.iconst 0, 1) := by decide +kernel
theorem dX10_best_39 : decode cX10_best 39 = .ok (.iconst 0, 1) := by decide +kernel
theorem dX10_best_40 : decode cX10_best 40 = .ok (.invokevirtual 300, 3) := by decide +kernel
theorem dX10_best_43 : decode cX10_best 43 = .ok (.iload_n 2, 1) := by decide +kernel
theorem dX10_best_44 : decode cX10_best 44 = .ok (.ifCond .ne 10, 3) := by decide +kernel
theorem dX10_best_47 : decode cX10_best 47 = .ok (.aload_n 0, 1) := by decide +kernel
theorem dX10_best_48 : decode cX10_best 48 = .ok (.getfield 297, 3) := by decide +kernel
theorem dX10_best_51 : decode cX10_best 51 = .ok (.goto 7, 3) := by decide +kernel
theorem dX10_best_54 : decode cX10_best 54 = .ok (.aload_n 0, 1) := by decide +kernel
theorem dX10_best_55 : decode cX10_best 55 = .ok (.getfield 294, 3) := by decide +kernel
theorem dX10_best_58 : decode cX10_best 58 = .ok (.ireturn, 1) := by decide +kernel
theorem dX10_opens1_0 : decode cX10_opens1 0 = .ok (.iload_n 1, 1) := by decide +kernel
theorem dX10_opens1_1 : decode cX10_opens1 1 = .ok (.bipush 7, 2) := by decide +kernel
theorem dX10_opens1_3 : decode cX10_opens1 3 = .ok (.if_icmp .le 25, 3) := by decide +kernel
theorem dX10_opens1_6 : decode cX10_opens1 6 = .ok (.iload_n 1, 1) := by decide +kernel
theorem dX10_opens1_7 : decode cX10_opens1 7 = .ok (.bipush 8, 2) := by decide +kernel
theorem dX10_opens1_9 : decode cX10_opens1 9 = .ok (.irem, 1) := by decide +kernel
theorem dX10_opens1_10 : decode cX10_opens1 10 = .ok (.aload_n 0, 1) := by decide +kernel
theorem dX10_opens1_11 : decode cX10_opens1 11 = .ok (.getfield 29, 3) := by decide +kernel
theorem dX10_opens1_14 : decode cX10_opens1 14 = .ok (.iconst 3, 1) := by decide +kernel
theorem dX10_opens1_15 : decode cX10_opens1 15 = .ok (.iload_n 2, 1) := by decide +kernel
theorem dX10_opens1_16 : decode cX10_opens1 16 = .ok (.imul, 1) := by decide +kernel
theorem dX10_opens1_17 : decode cX10_opens1 17 = .ok (.iaload, 1) := by decide +kernel
theorem dX10_opens1_18 : decode cX10_opens1 18 = .ok (.bipush 8, 2) := by decide +kernel
theorem dX10_opens1_20 : decode cX10_opens1 20 = .ok (.irem, 1) := by decide +kernel
theorem dX10_opens1_21 : decode cX10_opens1 21 = .ok (.if_icmp .ne 7, 3) := by decide +kernel
theorem dX10_opens1_24 : decode cX10_opens1 24 = .ok (.iconst 1, 1) := by decide +kernel
theorem dX10_opens1_25 : decode cX10_opens1 25 = .ok (.goto 4, 3) := by decide +kernel
theorem dX10_opens1_28 : decode cX10_opens1 28 = .ok (.iconst 0, 1) := by decide +kernel
theorem dX10_opens1_29 : decode cX10_opens1 29 = .ok (.ireturn, 1) := by decide +kernel
theorem dX10_fromOf_0 : decode cX10_fromOf 0 = .ok (.iload_n 1, 1) := by decide +kernel
theorem dX10_fromOf_1 : decode cX10_fromOf 1 = .ok (.istore_n 2, 1) := by decide +kernel
theorem dX10_fromOf_2 : decode cX10_fromOf 2 = .ok (.iconst 0, 1) := by decide +kernel
theorem dX10_fromOf_3 : decode cX10_fromOf 3 = .ok (.istore_n 3, 1) := by decide +kernel
theorem dX10_fromOf_4 : decode cX10_fromOf 4 = .ok (.iload_n 2, 1) := by decide +kernel
theorem dX10_fromOf_5 : decode cX10_fromOf 5 = .ok (.iload_n 3, 1) := by decide +kernel
theorem dX10_fromOf_6 : decode cX10_fromOf 6 = .ok (.if_icmp .eq 80, 3) := by decide +kernel
theorem dX10_fromOf_9 : decode cX10_fromOf 9 = .ok (.iload_n 2, 1) := by decide +kernel
theorem dX10_fromOf_10 : decode cX10_fromOf 10 = .ok (.istore_n 3, 1) := by decide +kernel
theorem dX10_fromOf_11 : decode cX10_fromOf 11 = .ok (.iconst 0, 1) := by decide +kernel
theorem dX10_fromOf_12 : decode cX10_fromOf 12 = .ok (.istore 4, 2) := by decide +kernel
theorem dX10_fromOf_14 : decode cX10_fromOf 14 = .ok (.iload 4, 2) := by decide +kernel
theorem dX10_fromOf_16 : decode cX10_fromOf 16 = .ok (.aload_n 0, 1) := by decide +kernel
theorem dX10_fromOf_17 : decode cX10_fromOf 17 = .ok (.getfield 76, 3) := by decide +kernel
theorem dX10_fromOf_20 : decode cX10_fromOf 20 = .ok (.if_icmp .ge 63, 3) := by decide +kernel
theorem dX10_fromOf_23 : decode cX10_fromOf 23 = .ok (.iconst 0, 1) := by decide +kernel
theorem dX10_fromOf_24 : decode cX10_fromOf 24 = .ok (.istore 5, 2) := by decide +kernel
theorem dX10_fromOf_26 : decode cX10_fromOf 26 = .ok (.iload 5, 2) := by decide +kernel
theorem dX10_fromOf_28 : decode cX10_fromOf 28 = .ok (.aload_n 0, 1) := by decide +kernel
theorem dX10_fromOf_29 : decode cX10_fromOf 29 = .ok (.getfield 76, 3) := by decide +kernel
theorem dX10_fromOf_32 : decode cX10_fromOf 32 = .ok (.if_icmp .ge 45, 3) := by decide +kernel
theorem dX10_fromOf_35 : decode cX10_fromOf 35 = .ok (.iload_n 2, 1) := by decide +kernel
theorem dX10_fromOf_36 : decode cX10_fromOf 36 = .ok (.iload_n 2, 1) := by decide +kernel
theorem dX10_fromOf_37 : decode cX10_fromOf 37 = .ok (.iload 4, 2) := by decide +kernel
theorem dX10_fromOf_39 : decode cX10_fromOf 39 = .ok (.ishr, 1) := by decide +kernel
theorem dX10_fromOf_40 : decode cX10_fromOf 40 = .ok (.iconst 1, 1) := by decide +kernel
theorem dX10_fromOf_41 : decode cX10_fromOf 41 = .ok (.iand, 1) := by decide +kernel
theorem dX10_fromOf_42 : decode cX10_fromOf 42 = .ok (.iconst 1, 1) := by decide +kernel
theorem dX10_fromOf_43 : decode cX10_fromOf 43 = .ok (.if_icmp .ne 25, 3) := by decide +kernel
theorem dX10_fromOf_46 : decode cX10_fromOf 46 = .ok (.aload_n 0, 1) := by decide +kernel
theorem dX10_fromOf_47 : decode cX10_fromOf 47 = .ok (.aload_n 0, 1) := by decide +kernel
theorem dX10_fromOf_48 : decode cX10_fromOf 48 = .ok (.iload 4, 2) := by decide +kernel
theorem dX10_fromOf_50 : decode cX10_fromOf 50 = .ok (.invokevirtual 119, 3) := by decide +kernel
theorem dX10_fromOf_53 : decode cX10_fromOf 53 = .ok (.iload 5, 2) := by decide +kernel
theorem dX10_fromOf_55 : decode cX10_fromOf 55 = .ok (.invokevirtual 304, 3) := by decide +kernel
theorem dX10_fromOf_58 : decode cX10_fromOf 58 = .ok (.ifCond .eq 10, 3) := by decide +kernel
theorem dX10_fromOf_61 : decode cX10_fromOf 61 = .ok (.iconst 1, 1) := by decide +kernel
theorem dX10_fromOf_62 : decode cX10_fromOf 62 = .ok (.iload 5, 2) := by decide +kernel
theorem dX10_fromOf_64 : decode cX10_fromOf 64 = .ok (.ishl, 1) := by decide +kernel
theorem dX10_fromOf_65 : decode cX10_fromOf 65 = .ok (.goto 4, 3) := by decide +kernel
theorem dX10_fromOf_68 : decode cX10_fromOf 68 = .ok (.iconst 0, 1) := by decide +kernel
theorem dX10_fromOf_69 : decode cX10_fromOf 69 = .ok (.ior, 1) := by decide +kernel
theorem dX10_fromOf_70 : decode cX10_fromOf 70 = .ok (.istore_n 2, 1) := by decide +kernel
theorem dX10_fromOf_71 : decode cX10_fromOf 71 = .ok (.iinc 5 1, 3) := by decide +kernel
theorem dX10_fromOf_74 : decode cX10_fromOf 74 = .ok (.goto (-48), 3) := by decide +kernel
theorem dX10_fromOf_77 : decode cX10_fromOf 77 = .ok (.iinc 4 1, 3) := by decide +kernel
theorem dX10_fromOf_80 : decode cX10_fromOf 80 = .ok (.goto (-66), 3) := by decide +kernel
theorem dX10_fromOf_83 : decode cX10_fromOf 83 = .ok (.goto (-79), 3) := by decide +kernel
theorem dX10_fromOf_86 : decode cX10_fromOf 86 = .ok (.iload_n 2, 1) := by decide +kernel
theorem dX10_fromOf_87 : decode cX10_fromOf 87 = .ok (.ireturn, 1) := by decide +kernel
theorem dX10_from_0 : decode cX10_from 0 = .ok (.aload_n 0, 1) := by decide +kernel
theorem dX10_from_1 : decode cX10_from 1 = .ok (.iload_n 1, 1) := by decide +kernel
theorem dX10_from_2 : decode cX10_from 2 = .ok (.invokevirtual 85, 3) := by decide +kernel
theorem dX10_from_5 : decode cX10_from 5 = .ok (.ifCond .eq 13, 3) := by decide +kernel
theorem dX10_from_8 : decode cX10_from 8 = .ok (.aload_n 0, 1) := by decide +kernel
theorem dX10_from_9 : decode cX10_from 9 = .ok (.iconst 1, 1) := by decide +kernel
theorem dX10_from_10 : decode cX10_from 10 = .ok (.iload_n 1, 1) := by decide +kernel
theorem dX10_from_11 : decode cX10_from 11 = .ok (.ishl, 1) := by decide +kernel
theorem dX10_from_12 : decode cX10_from 12 = .ok (.invokevirtual 307, 3) := by decide +kernel
theorem dX10_from_15 : decode cX10_from 15 = .ok (.goto 5, 3) := by decide +kernel
theorem dX10_from_18 : decode cX10_from 18 = .ok (.bipush (-2), 2) := by decide +kernel
theorem dX10_from_20 : decode cX10_from 20 = .ok (.ireturn, 1) := by decide +kernel
theorem dX10_keys_0 : decode cX10_keys 0 = .ok (.iload_n 1, 1) := by decide +kernel
theorem dX10_keys_1 : decode cX10_keys 1 = .ok (.i2l, 1) := by decide +kernel
theorem dX10_keys_2 : decode cX10_keys 2 = .ok (.lconst 0, 1) := by decide +kernel
theorem dX10_keys_3 : decode cX10_keys 3 = .ok (.ldc2_w 310, 3) := by decide +kernel
theorem dX10_keys_6 : decode cX10_keys 6 = .ok (.invokestatic 79, 3) := by decide +kernel
theorem dX10_keys_9 : decode cX10_keys 9 = .ok (.ifCond .ne 6, 3) := by decide +kernel
theorem dX10_keys_12 : decode cX10_keys 12 = .ok (.bipush (-2), 2) := by decide +kernel
theorem dX10_keys_14 : decode cX10_keys 14 = .ok (.ireturn, 1) := by decide +kernel
theorem dX10_keys_15 : decode cX10_keys 15 = .ok (.iconst 1, 1) := by decide +kernel
theorem dX10_keys_16 : decode cX10_keys 16 = .ok (.aload_n 0, 1) := by decide +kernel
theorem dX10_keys_17 : decode cX10_keys 17 = .ok (.getfield 76, 3) := by decide +kernel
theorem dX10_keys_20 : decode cX10_keys 20 = .ok (.ishl, 1) := by decide +kernel
theorem dX10_keys_21 : decode cX10_keys 21 = .ok (.iconst 1, 1) := by decide +kernel
theorem dX10_keys_22 : decode cX10_keys 22 = .ok (.isub, 1) := by decide +kernel
theorem dX10_keys_23 : decode cX10_keys 23 = .ok (.istore_n 2, 1) := by decide +kernel
theorem dX10_keys_24 : decode cX10_keys 24 = .ok (.iconst (-1), 1) := by decide +kernel
theorem dX10_keys_25 : decode cX10_keys 25 = .ok (.istore_n 3, 1) := by decide +kernel
theorem dX10_keys_26 : decode cX10_keys 26 = .ok (.iconst 0, 1) := by decide +kernel
theorem dX10_keys_27 : decode cX10_keys 27 = .ok (.istore 4, 2) := by decide +kernel
theorem dX10_keys_29 : decode cX10_keys 29 = .ok (.iconst 0, 1) := by decide +kernel
theorem dX10_keys_30 : decode cX10_keys 30 = .ok (.istore 5, 2) := by decide +kernel
theorem dX10_keys_32 : decode cX10_keys 32 = .ok (.iload 5, 2) := by decide +kernel
theorem dX10_keys_34 : decode cX10_keys 34 = .ok (.aload_n 0, 1) := by decide +kernel
theorem dX10_keys_35 : decode cX10_keys 35 = .ok (.getfield 76, 3) := by decide +kernel
theorem dX10_keys_38 : decode cX10_keys 38 = .ok (.if_icmp .ge 36, 3) := by decide +kernel
theorem dX10_keys_41 : decode cX10_keys 41 = .ok (.aload_n 0, 1) := by decide +kernel
theorem dX10_keys_42 : decode cX10_keys 42 = .ok (.iconst 1, 1) := by decide +kernel
theorem dX10_keys_43 : decode cX10_keys 43 = .ok (.iload 5, 2) := by decide +kernel
theorem dX10_keys_45 : decode cX10_keys 45 = .ok (.ishl, 1) := by decide +kernel
theorem dX10_keys_46 : decode cX10_keys 46 = .ok (.invokevirtual 307, 3) := by decide +kernel
theorem dX10_keys_49 : decode cX10_keys 49 = .ok (.invokestatic 281, 3) := by decide +kernel
theorem dX10_keys_52 : decode cX10_keys 52 = .ok (.istore 6, 2) := by decide +kernel
theorem dX10_keys_54 : decode cX10_keys 54 = .ok (.iload 6, 2) := by decide +kernel
theorem dX10_keys_56 : decode cX10_keys 56 = .ok (.iload 4, 2) := by decide +kernel
theorem dX10_keys_58 : decode cX10_keys 58 = .ok (.if_icmp .le 10, 3) := by decide +kernel
theorem dX10_keys_61 : decode cX10_keys 61 = .ok (.iload 5, 2) := by decide +kernel
theorem dX10_keys_63 : decode cX10_keys 63 = .ok (.istore_n 3, 1) := by decide +kernel
theorem dX10_keys_64 : decode cX10_keys 64 = .ok (.iload 6, 2) := by decide +kernel
theorem dX10_keys_66 : decode cX10_keys 66 = .ok (.istore 4, 2) := by decide +kernel
theorem dX10_keys_68 : decode cX10_keys 68 = .ok (.iinc 5 1, 3) := by decide +kernel
theorem dX10_keys_71 : decode cX10_keys 71 = .ok (.goto (-39), 3) := by decide +kernel
theorem dX10_keys_74 : decode cX10_keys 74 = .ok (.iload_n 1, 1) := by decide +kernel
theorem dX10_keys_75 : decode cX10_keys 75 = .ok (.iconst 2, 1) := by decide +kernel
theorem dX10_keys_76 : decode cX10_keys 76 = .ok (.if_icmp .ge 14, 3) := by decide +kernel
theorem dX10_keys_79 : decode cX10_keys 79 = .ok (.iload_n 1, 1) := by decide +kernel
theorem dX10_keys_80 : decode cX10_keys 80 = .ok (.ifCond .ne 7, 3) := by decide +kernel
theorem dX10_keys_83 : decode cX10_keys 83 = .ok (.iload_n 3, 1) := by decide +kernel
theorem dX10_keys_84 : decode cX10_keys 84 = .ok (.goto 5, 3) := by decide +kernel
theorem dX10_keys_87 : decode cX10_keys 87 = .ok (.iload 4, 2) := by decide +kernel
theorem dX10_keys_89 : decode cX10_keys 89 = .ok (.ireturn, 1) := by decide +kernel
theorem dX10_keys_90 : decode cX10_keys 90 = .ok (.iload_n 2, 1) := by decide +kernel
theorem dX10_keys_91 : decode cX10_keys 91 = .ok (.istore 5, 2) := by decide +kernel
theorem dX10_keys_93 : decode cX10_keys 93 = .ok (.iload_n 2, 1) := by decide +kernel
theorem dX10_keys_94 : decode cX10_keys 94 = .ok (.istore 6, 2) := by decide +kernel
theorem dX10_keys_96 : decode cX10_keys 96 = .ok (.iload 6, 2) := by decide +kernel
theorem dX10_keys_98 : decode cX10_keys 98 = .ok (.ifCond .lt 36, 3) := by decide +kernel
theorem dX10_keys_101 : decode cX10_keys 101 = .ok (.aload_n 0, 1) := by decide +kernel
theorem dX10_keys_102 : decode cX10_keys 102 = .ok (.iload 6, 2) := by decide +kernel
theorem dX10_keys_104 : decode cX10_keys 104 = .ok (.invokevirtual 307, 3) := by decide +kernel
theorem dX10_keys_107 : decode cX10_keys 107 = .ok (.iload_n 2, 1) := by decide +kernel
theorem dX10_keys_108 : decode cX10_keys 108 = .ok (.if_icmp .ne 20, 3) := by decide +kernel
theorem dX10_keys_111 : decode cX10_keys 111 = .ok (.iload 6, 2) := by decide +kernel
theorem dX10_keys_113 : decode cX10_keys 113 = .ok (.invokestatic 281, 3) := by decide +kernel
theorem dX10_keys_116 : decode cX10_keys 116 = .ok (.iload 5, 2) := by decide +kernel
theorem dX10_keys_118 : decode cX10_keys 118 = .ok (.invokestatic 281, 3) := by decide +kernel
theorem dX10_keys_121 : decode cX10_keys 121 = .ok (.if_icmp .gt 7, 3) := by decide +kernel
theorem dX10_keys_124 : decode cX10_keys 124 = .ok (.iload 6, 2) := by decide +kernel
theorem dX10_keys_126 : decode cX10_keys 126 = .ok (.istore 5, 2) := by decide +kernel
theorem dX10_keys_128 : decode cX10_keys 128 = .ok (.iinc 6 (-1), 3) := by decide +kernel
theorem dX10_keys_131 : decode cX10_keys 131 = .ok (.goto (-35), 3) := by decide +kernel
theorem dX10_keys_134 : decode cX10_keys 134 = .ok (.iload_n 1, 1) := by decide +kernel
theorem dX10_keys_135 : decode cX10_keys 135 = .ok (.iconst 2, 1) := by decide +kernel
theorem dX10_keys_136 : decode cX10_keys 136 = .ok (.if_icmp .ne 8, 3) := by decide +kernel
theorem dX10_keys_139 : decode cX10_keys 139 = .ok (.iload 5, 2) := by decide +kernel
theorem dX10_keys_141 : decode cX10_keys 141 = .ok (.goto 8, 3) := by decide +kernel
theorem dX10_keys_144 : decode cX10_keys 144 = .ok (.iload 5, 2) := by decide +kernel
theorem dX10_keys_146 : decode cX10_keys 146 = .ok (.invokestatic 281, 3) := by decide +kernel
theorem dX10_keys_149 : decode cX10_keys 149 = .ok (.ireturn, 1) := by decide +kernel
theorem dX10_unlike_0 : decode cX10_unlike 0 = .ok (.iconst 0, 1) := by decide +kernel
theorem dX10_unlike_1 : decode cX10_unlike 1 = .ok (.istore_n 2, 1) := by decide +kernel
theorem dX10_unlike_2 : decode cX10_unlike 2 = .ok (.iconst 0, 1) := by decide +kernel
theorem dX10_unlike_3 : decode cX10_unlike 3 = .ok (.istore_n 3, 1) := by decide +kernel
theorem dX10_unlike_4 : decode cX10_unlike 4 = .ok (.iload_n 3, 1) := by decide +kernel
theorem dX10_unlike_5 : decode cX10_unlike 5 = .ok (.aload_n 0, 1) := by decide +kernel
theorem dX10_unlike_6 : decode cX10_unlike 6 = .ok (.getfield 76, 3) := by decide +kernel
theorem dX10_unlike_9 : decode cX10_unlike 9 = .ok (.if_icmp .ge 44, 3) := by decide +kernel
theorem dX10_unlike_12 : decode cX10_unlike 12 = .ok (.iload_n 2, 1) := by decide +kernel
theorem dX10_unlike_13 : decode cX10_unlike 13 = .ok (.aload_n 0, 1) := by decide +kernel
theorem dX10_unlike_14 : decode cX10_unlike 14 = .ok (.iload_n 3, 1) := by decide +kernel
theorem dX10_unlike_15 : decode cX10_unlike 15 = .ok (.aload_n 0, 1) := by decide +kernel
theorem dX10_unlike_16 : decode cX10_unlike 16 = .ok (.getfield 32, 3) := by decide +kernel
theorem dX10_unlike_19 : decode cX10_unlike 19 = .ok (.iload_n 3, 1) := by decide +kernel
theorem dX10_unlike_20 : decode cX10_unlike 20 = .ok (.iaload, 1) := by decide +kernel
theorem dX10_unlike_21 : decode cX10_unlike 21 = .ok (.invokevirtual 129, 3) := by decide +kernel
theorem dX10_unlike_24 : decode cX10_unlike 24 = .ok (.aload_n 0, 1) := by decide +kernel
theorem dX10_unlike_25 : decode cX10_unlike 25 = .ok (.getfield 66, 3) := by decide +kernel
theorem dX10_unlike_28 : decode cX10_unlike 28 = .ok (.bipush 40, 2) := by decide +kernel
theorem dX10_unlike_30 : decode cX10_unlike 30 = .ok (.iload_n 1, 1) := by decide +kernel
theorem dX10_unlike_31 : decode cX10_unlike 31 = .ok (.imul, 1) := by decide +kernel
theorem dX10_unlike_32 : decode cX10_unlike 32 = .ok (.iload_n 3, 1) := by decide +kernel
theorem dX10_unlike_33 : decode cX10_unlike 33 = .ok (.iadd, 1) := by decide +kernel
theorem dX10_unlike_34 : decode cX10_unlike 34 = .ok (.iaload, 1) := by decide +kernel
theorem dX10_unlike_35 : decode cX10_unlike 35 = .ok (.if_icmp .ne 7, 3) := by decide +kernel
theorem dX10_unlike_38 : decode cX10_unlike 38 = .ok (.iconst 0, 1) := by decide +kernel
theorem dX10_unlike_39 : decode cX10_unlike 39 = .ok (.goto 4, 3) := by decide +kernel
theorem dX10_unlike_42 : decode cX10_unlike 42 = .ok (.iconst 1, 1) := by decide +kernel
theorem dX10_unlike_43 : decode cX10_unlike 43 = .ok (.iload_n 3, 1) := by decide +kernel
theorem dX10_unlike_44 : decode cX10_unlike 44 = .ok (.ishl, 1) := by decide +kernel
theorem dX10_unlike_45 : decode cX10_unlike 45 = .ok (.ior, 1) := by decide +kernel
theorem dX10_unlike_46 : decode cX10_unlike 46 = .ok (.istore_n 2, 1) := by decide +kernel
theorem dX10_unlike_47 : decode cX10_unlike 47 = .ok (.iinc 3 1, 3) := by decide +kernel
theorem dX10_unlike_50 : decode cX10_unlike 50 = .ok (.goto (-46), 3) := by decide +kernel
theorem dX10_unlike_53 : decode cX10_unlike 53 = .ok (.iload_n 2, 1) := by decide +kernel
theorem dX10_unlike_54 : decode cX10_unlike 54 = .ok (.ireturn, 1) := by decide +kernel
theorem dX10_looks_0 : decode cX10_looks 0 = .ok (.iload_n 1, 1) := by decide +kernel
theorem dX10_looks_1 : decode cX10_looks 1 = .ok (.aload_n 0, 1) := by decide +kernel
theorem dX10_looks_2 : decode cX10_looks 2 = .ok (.getfield 76, 3) := by decide +kernel
theorem dX10_looks_5 : decode cX10_looks 5 = .ok (.if_icmp .ne 71, 3) := by decide +kernel
theorem dX10_looks_8 : decode cX10_looks 8 = .ok (.aload_n 0, 1) := by decide +kernel
theorem dX10_looks_9 : decode cX10_looks 9 = .ok (.dup, 1) := by decide +kernel
theorem dX10_looks_10 : decode cX10_looks 10 = .ok (.getfield 312, 3) := by decide +kernel
theorem dX10_looks_13 : decode cX10_looks 13 = .ok (.iconst 1, 1) := by decide +kernel
theorem dX10_looks_14 : decode cX10_looks 14 = .ok (.iadd, 1) := by decide +kernel
theorem dX10_looks_15 : decode cX10_looks 15 = .ok (.putfield 312, 3) := by decide +kernel
theorem dX10_looks_18 : decode cX10_looks 18 = .ok (.aload_n 0, 1) := by decide +kernel
theorem dX10_looks_19 : decode cX10_looks 19 = .ok (.aload_n 0, 1) := by decide +kernel
theorem dX10_looks_20 : decode cX10_looks 20 = .ok (.getfield 312, 3) := by decide +kernel
theorem dX10_looks_23 : decode cX10_looks 23 = .ok (.iconst 1, 1) := by decide +kernel
theorem dX10_looks_24 : decode cX10_looks 24 = .ok (.if_icmp .ne 7, 3) := by decide +kernel
theorem dX10_looks_27 : decode cX10_looks 27 = .ok (.iload_n 3, 1) := by decide +kernel
theorem dX10_looks_28 : decode cX10_looks 28 = .ok (.goto 7, 3) := by decide +kernel
theorem dX10_looks_31 : decode cX10_looks 31 = .ok (.aload_n 0, 1) := by decide +kernel
theorem dX10_looks_32 : decode cX10_looks 32 = .ok (.getfield 315, 3) := by decide +kernel
theorem dX10_looks_35 : decode cX10_looks 35 = .ok (.putfield 315, 3) := by decide +kernel
theorem dX10_looks_38 : decode cX10_looks 38 = .ok (.iconst 0, 1) := by decide +kernel
theorem dX10_looks_39 : decode cX10_looks 39 = .ok (.istore 4, 2) := by decide +kernel
theorem dX10_looks_41 : decode cX10_looks 41 = .ok (.iload 4, 2) := by decide +kernel
theorem dX10_looks_43 : decode cX10_looks 43 = .ok (.aload_n 0, 1) := by decide +kernel
theorem dX10_looks_44 : decode cX10_looks 44 = .ok (.getfield 76, 3) := by decide +kernel
theorem dX10_looks_47 : decode cX10_looks 47 = .ok (.if_icmp .ge 28, 3) := by decide +kernel
theorem dX10_looks_50 : decode cX10_looks 50 = .ok (.aload_n 0, 1) := by decide +kernel
theorem dX10_looks_51 : decode cX10_looks 51 = .ok (.getfield 38, 3) := by decide +kernel
theorem dX10_looks_54 : decode cX10_looks 54 = .ok (.iload 4, 2) := by decide +kernel
theorem dX10_looks_56 : decode cX10_looks 56 = .ok (.dup2, 1) := by decide +kernel
theorem dX10_looks_57 : decode cX10_looks 57 = .ok (.iaload, 1) := by decide +kernel
theorem dX10_looks_58 : decode cX10_looks 58 = .ok (.iconst 1, 1) := by decide +kernel
theorem dX10_looks_59 : decode cX10_looks 59 = .ok (.aload_n 0, 1) := by decide +kernel
theorem dX10_looks_60 : decode cX10_looks 60 = .ok (.getfield 41, 3) := by decide +kernel
theorem dX10_looks_63 : decode cX10_looks 63 = .ok (.iload 4, 2) := by decide +kernel
theorem dX10_looks_65 : decode cX10_looks 65 = .ok (.iaload, 1) := by decide +kernel
theorem dX10_looks_66 : decode cX10_looks 66 = .ok (.ishl, 1) := by decide +kernel
theorem dX10_looks_67 : decode cX10_looks 67 = .ok (.ior, 1) := by decide +kernel
theorem dX10_looks_68 : decode cX10_looks 68 = .ok (.iastore, 1) := by decide +kernel
theorem dX10_looks_69 : decode cX10_looks 69 = .ok (.iinc 4 1, 3) := by decide +kernel
theorem dX10_looks_72 : decode cX10_looks 72 = .ok (.goto (-31), 3) := by decide +kernel
theorem dX10_looks_75 : decode cX10_looks 75 = .ok (.return_, 1) := by decide +kernel
theorem dX10_looks_76 : decode cX10_looks 76 = .ok (.iconst 0, 1) := by decide +kernel
theorem dX10_looks_77 : decode cX10_looks 77 = .ok (.istore 4, 2) := by decide +kernel
theorem dX10_looks_79 : decode cX10_looks 79 = .ok (.iload 4, 2) := by decide +kernel
theorem dX10_looks_81 : decode cX10_looks 81 = .ok (.aload_n 0, 1) := by decide +kernel
theorem dX10_looks_82 : decode cX10_looks 82 = .ok (.getfield 76, 3) := by decide +kernel
theorem dX10_looks_85 : decode cX10_looks 85 = .ok (.if_icmp .ge 64, 3) := by decide +kernel
theorem dX10_looks_88 : decode cX10_looks 88 = .ok (.iload_n 2, 1) := by decide +kernel
theorem dX10_looks_89 : decode cX10_looks 89 = .ok (.iload 4, 2) := by decide +kernel
theorem dX10_looks_91 : decode cX10_looks 91 = .ok (.ishr, 1) := by decide +kernel
theorem dX10_looks_92 : decode cX10_looks 92 = .ok (.iconst 1, 1) := by decide +kernel
theorem dX10_looks_93 : decode cX10_looks 93 = .ok (.iand, 1) := by decide +kernel
theorem dX10_looks_94 : decode cX10_looks 94 = .ok (.ifCond .ne 49, 3) := by decide +kernel
theorem dX10_looks_97 : decode cX10_looks 97 = .ok (.aload_n 0, 1) := by decide +kernel
theorem dX10_looks_98 : decode cX10_looks 98 = .ok (.getfield 35, 3) := by decide +kernel
theorem dX10_looks_101 : decode cX10_looks 101 = .ok (.bipush 6, 2) := by decide +kernel
theorem dX10_looks_103 : decode cX10_looks 103 = .ok (.iload_n 1, 1) := by decide +kernel
theorem dX10_looks_104 : decode cX10_looks 104 = .ok (.imul, 1) := by decide +kernel
theorem dX10_looks_105 : decode cX10_looks 105 = .ok (.iload 4, 2) := by decide +kernel
theorem dX10_looks_107 : decode cX10_looks 107 = .ok (.iadd, 1) := by decide +kernel
theorem dX10_looks_108 : decode cX10_looks 108 = .ok (.iaload, 1) := by decide +kernel
theorem dX10_looks_109 : decode cX10_looks 109 = .ok (.iconst 1, 1) := by decide +kernel
theorem dX10_looks_110 : decode cX10_looks 110 = .ok (.if_icmp .ne 33, 3) := by decide +kernel
theorem dX10_looks_113 : decode cX10_looks 113 = .ok (.aload_n 0, 1) := by decide +kernel
theorem dX10_looks_114 : decode cX10_looks 114 = .ok (.getfield 41, 3) := by decide +kernel
theorem dX10_looks_117 : decode cX10_looks 117 = .ok (.iload_n 1, 1) := by decide +kernel
theorem dX10_looks_118 : decode cX10_looks 118 = .ok (.iload 4, 2) := by decide +kernel
theorem dX10_looks_120 : decode cX10_looks 120 = .ok (.iastore, 1) := by decide +kernel
theorem dX10_looks_121 : decode cX10_looks 121 = .ok (.aload_n 0, 1) := by decide +kernel
theorem dX10_looks_122 : decode cX10_looks 122 = .ok (.iload_n 1, 1) := by decide +kernel
theorem dX10_looks_123 : decode cX10_looks 123 = .ok (.iconst 1, 1) := by decide +kernel
theorem dX10_looks_124 : decode cX10_looks 124 = .ok (.iadd, 1) := by decide +kernel
theorem dX10_looks_125 : decode cX10_looks 125 = .ok (.iload_n 2, 1) := by decide +kernel
theorem dX10_looks_126 : decode cX10_looks 126 = .ok (.iconst 1, 1) := by decide +kernel
theorem dX10_looks_127 : decode cX10_looks 127 = .ok (.iload 4, 2) := by decide +kernel
theorem dX10_looks_129 : decode cX10_looks 129 = .ok (.ishl, 1) := by decide +kernel
theorem dX10_looks_130 : decode cX10_looks 130 = .ok (.ior, 1) := by decide +kernel
theorem dX10_looks_131 : decode cX10_looks 131 = .ok (.bipush 10, 2) := by decide +kernel
theorem dX10_looks_133 : decode cX10_looks 133 = .ok (.iload_n 3, 1) := by decide +kernel
theorem dX10_looks_134 : decode cX10_looks 134 = .ok (.imul, 1) := by decide +kernel
theorem dX10_looks_135 : decode cX10_looks 135 = .ok (.iload 4, 2) := by decide +kernel
theorem dX10_looks_137 : decode cX10_looks 137 = .ok (.iadd, 1) := by decide +kernel
theorem dX10_looks_138 : decode cX10_looks 138 = .ok (.iconst 1, 1) := by decide +kernel
theorem dX10_looks_139 : decode cX10_looks 139 = .ok (.iadd, 1) := by decide +kernel
theorem dX10_looks_140 : decode cX10_looks 140 = .ok (.invokevirtual 318, 3) := by decide +kernel
theorem dX10_looks_143 : decode cX10_looks 143 = .ok (.iinc 4 1, 3) := by decide +kernel
theorem dX10_looks_146 : decode cX10_looks 146 = .ok (.goto (-67), 3) := by decide +kernel
theorem dX10_looks_149 : decode cX10_looks 149 = .ok (.return_, 1) := by decide +kernel
theorem dX10_looksAll_0 : decode cX10_looksAll 0 = .ok (.iconst 0, 1) := by decide +kernel
theorem dX10_looksAll_1 : decode cX10_looksAll 1 = .ok (.istore_n 2, 1) := by decide +kernel
theorem dX10_looksAll_2 : decode cX10_looksAll 2 = .ok (.iload_n 2, 1) := by decide +kernel
theorem dX10_looksAll_3 : decode cX10_looksAll 3 = .ok (.aload_n 0, 1) := by decide +kernel
theorem dX10_looksAll_4 : decode cX10_looksAll 4 = .ok (.getfield 76, 3) := by decide +kernel
theorem dX10_looksAll_7 : decode cX10_looksAll 7 = .ok (.if_icmp .ge 68, 3) := by decide +kernel
theorem dX10_looksAll_10 : decode cX10_looksAll 10 = .ok (.aload_n 0, 1) := by decide +kernel
theorem dX10_looksAll_11 : decode cX10_looksAll 11 = .ok (.getfield 38, 3) := by decide +kernel
theorem dX10_looksAll_14 : decode cX10_looksAll 14 = .ok (.iload_n 2, 1) := by decide +kernel
theorem dX10_looksAll_15 : decode cX10_looksAll 15 = .ok (.iconst 0, 1) := by decide +kernel
theorem dX10_looksAll_16 : decode cX10_looksAll 16 = .ok (.iastore, 1) := by decide +kernel
theorem dX10_looksAll_17 : decode cX10_looksAll 17 = .ok (.iconst 0, 1) := by decide +kernel
theorem dX10_looksAll_18 : decode cX10_looksAll 18 = .ok (.istore_n 3, 1) := by decide +kernel
theorem dX10_looksAll_19 : decode cX10_looksAll 19 = .ok (.iload_n 3, 1) := by decide +kernel
theorem dX10_looksAll_20 : decode cX10_looksAll 20 = .ok (.aload_n 0, 1) := by decide +kernel
theorem dX10_looksAll_21 : decode cX10_looksAll 21 = .ok (.getfield 76, 3) := by decide +kernel
theorem dX10_looksAll_24 : decode cX10_looksAll 24 = .ok (.if_icmp .ge 45, 3) := by decide +kernel
theorem dX10_looksAll_27 : decode cX10_looksAll 27 = .ok (.aload_n 0, 1) := by decide +kernel
theorem dX10_looksAll_28 : decode cX10_looksAll 28 = .ok (.getfield 35, 3) := by decide +kernel
theorem dX10_looksAll_31 : decode cX10_looksAll 31 = .ok (.bipush 6, 2) := by decide +kernel
theorem dX10_looksAll_33 : decode cX10_looksAll 33 = .ok (.iload_n 2, 1) := by decide +kernel
theorem dX10_looksAll_34 : decode cX10_looksAll 34 = .ok (.imul, 1) := by decide +kernel
theorem dX10_looksAll_35 : decode cX10_looksAll 35 = .ok (.iload_n 3, 1) := by decide +kernel
theorem dX10_looksAll_36 : decode cX10_looksAll 36 = .ok (.iadd, 1) := by decide +kernel
theorem dX10_looksAll_37 : decode cX10_looksAll 37 = .ok (.aload_n 0, 1) := by decide +kernel
theorem dX10_looksAll_38 : decode cX10_looksAll 38 = .ok (.iload_n 2, 1) := by decide +kernel
theorem dX10_looksAll_39 : decode cX10_looksAll 39 = .ok (.iload_n 3, 1) := by decide +kernel
theorem dX10_looksAll_40 : decode cX10_looksAll 40 = .ok (.invokevirtual 129, 3) := by decide +kernel
theorem dX10_looksAll_43 : decode cX10_looksAll 43 = .ok (.aload_n 0, 1) := by decide +kernel
theorem dX10_looksAll_44 : decode cX10_looksAll 44 = .ok (.getfield 66, 3) := by decide +kernel
theorem dX10_looksAll_47 : decode cX10_looksAll 47 = .ok (.bipush 40, 2) := by decide +kernel
theorem dX10_looksAll_49 : decode cX10_looksAll 49 = .ok (.iload_n 1, 1) := by decide +kernel
theorem dX10_looksAll_50 : decode cX10_looksAll 50 = .ok (.imul, 1) := by decide +kernel
theorem dX10_looksAll_51 : decode cX10_looksAll 51 = .ok (.iload_n 2, 1) := by decide +kernel
theorem dX10_looksAll_52 : decode cX10_looksAll 52 = .ok (.iadd, 1) := by decide +kernel
theorem dX10_looksAll_53 : decode cX10_looksAll 53 = .ok (.iaload, 1) := by decide +kernel
theorem dX10_looksAll_54 : decode cX10_looksAll 54 = .ok (.if_icmp .ne 7, 3) := by decide +kernel
theorem dX10_looksAll_57 : decode cX10_looksAll 57 = .ok (.iconst 1, 1) := by decide +kernel
theorem dX10_looksAll_58 : decode cX10_looksAll 58 = .ok (.goto 4, 3) := by decide +kernel
theorem dX10_looksAll_61 : decode cX10_looksAll 61 = .ok (.iconst 0, 1) := by decide +kernel
theorem dX10_looksAll_62 : decode cX10_looksAll 62 = .ok (.iastore, 1) := by decide +kernel
theorem dX10_looksAll_63 : decode cX10_looksAll 63 = .ok (.iinc 3 1, 3) := by decide +kernel
theorem dX10_looksAll_66 : decode cX10_looksAll 66 = .ok (.goto (-47), 3) := by decide +kernel
theorem dX10_looksAll_69 : decode cX10_looksAll 69 = .ok (.iinc 2 1, 3) := by decide +kernel
theorem dX10_looksAll_72 : decode cX10_looksAll 72 = .ok (.goto (-70), 3) := by decide +kernel
theorem dX10_looksAll_75 : decode cX10_looksAll 75 = .ok (.aload_n 0, 1) := by decide +kernel
theorem dX10_looksAll_76 : decode cX10_looksAll 76 = .ok (.iconst 0, 1) := by decide +kernel
theorem dX10_looksAll_77 : decode cX10_looksAll 77 = .ok (.putfield 312, 3) := by decide +kernel
theorem dX10_looksAll_80 : decode cX10_looksAll 80 = .ok (.aload_n 0, 1) := by decide +kernel
theorem dX10_looksAll_81 : decode cX10_looksAll 81 = .ok (.iconst 0, 1) := by decide +kernel
theorem dX10_looksAll_82 : decode cX10_looksAll 82 = .ok (.putfield 315, 3) := by decide +kernel
theorem dX10_looksAll_85 : decode cX10_looksAll 85 = .ok (.aload_n 0, 1) := by decide +kernel
theorem dX10_looksAll_86 : decode cX10_looksAll 86 = .ok (.iconst 0, 1) := by decide +kernel
theorem dX10_looksAll_87 : decode cX10_looksAll 87 = .ok (.iconst 0, 1) := by decide +kernel
theorem dX10_looksAll_88 : decode cX10_looksAll 88 = .ok (.iconst 0, 1) := by decide +kernel
theorem dX10_looksAll_89 : decode cX10_looksAll 89 = .ok (.invokevirtual 318, 3) := by decide +kernel
theorem dX10_looksAll_92 : decode cX10_looksAll 92 = .ok (.return_, 1) := by decide +kernel
theorem dX10_sure_0 : decode cX10_sure 0 = .ok (.iconst 0, 1) := by decide +kernel
theorem dX10_sure_1 : decode cX10_sure 1 = .ok (.istore_n 1, 1) := by decide +kernel
theorem dX10_sure_2 : decode cX10_sure 2 = .ok (.iconst 0, 1) := by decide +kernel
theorem dX10_sure_3 : decode cX10_sure 3 = .ok (.istore_n 2, 1) := by decide +kernel
theorem dX10_sure_4 : decode cX10_sure 4 = .ok (.iload_n 2, 1) := by decide +kernel
theorem dX10_sure_5 : decode cX10_sure 5 = .ok (.aload_n 0, 1) := by decide +kernel
theorem dX10_sure_6 : decode cX10_sure 6 = .ok (.getfield 76, 3) := by decide +kernel
theorem dX10_sure_9 : decode cX10_sure 9 = .ok (.if_icmp .ge 32, 3) := by decide +kernel
theorem dX10_sure_12 : decode cX10_sure 12 = .ok (.iload_n 1, 1) := by decide +kernel
theorem dX10_sure_13 : decode cX10_sure 13 = .ok (.aload_n 0, 1) := by decide +kernel
theorem dX10_sure_14 : decode cX10_sure 14 = .ok (.getfield 38, 3) := by decide +kernel
theorem dX10_sure_17 : decode cX10_sure 17 = .ok (.iload_n 2, 1) := by decide +kernel
theorem dX10_sure_18 : decode cX10_sure 18 = .ok (.iaload, 1) := by decide +kernel
theorem dX10_sure_19 : decode cX10_sure 19 = .ok (.invokestatic 281, 3) := by decide +kernel
theorem dX10_sure_22 : decode cX10_sure 22 = .ok (.iconst 1, 1) := by decide +kernel
theorem dX10_sure_23 : decode cX10_sure 23 = .ok (.if_icmp .ne 7, 3) := by decide +kernel
theorem dX10_sure_26 : decode cX10_sure 26 = .ok (.iconst 1, 1) := by decide +kernel
theorem dX10_sure_27 : decode cX10_sure 27 = .ok (.goto 4, 3) := by decide +kernel
theorem dX10_sure_30 : decode cX10_sure 30 = .ok (.iconst 0, 1) := by decide +kernel
theorem dX10_sure_31 : decode cX10_sure 31 = .ok (.iload_n 2, 1) := by decide +kernel
theorem dX10_sure_32 : decode cX10_sure 32 = .ok (.ishl, 1) := by decide +kernel
theorem dX10_sure_33 : decode cX10_sure 33 = .ok (.ior, 1) := by decide +kernel
theorem dX10_sure_34 : decode cX10_sure 34 = .ok (.istore_n 1, 1) := by decide +kernel
theorem dX10_sure_35 : decode cX10_sure 35 = .ok (.iinc 2 1, 3) := by decide +kernel
theorem dX10_sure_38 : decode cX10_sure 38 = .ok (.goto (-34), 3) := by decide +kernel
theorem dX10_sure_41 : decode cX10_sure 41 = .ok (.iload_n 1, 1) := by decide +kernel
theorem dX10_sure_42 : decode cX10_sure 42 = .ok (.ireturn, 1) := by decide +kernel
theorem dX10_tells_0 : decode cX10_tells 0 = .ok (.iload_n 2, 1) := by decide +kernel
theorem dX10_tells_1 : decode cX10_tells 1 = .ok (.i2l, 1) := by decide +kernel
theorem dX10_tells_2 : decode cX10_tells 2 = .ok (.ldc2_w 117, 3) := by decide +kernel
theorem dX10_tells_5 : decode cX10_tells 5 = .ok (.ldc2_w 321, 3) := by decide +kernel
theorem dX10_tells_8 : decode cX10_tells 8 = .ok (.invokestatic 79, 3) := by decide +kernel
theorem dX10_tells_11 : decode cX10_tells 11 = .ok (.ifCond .eq 18, 3) := by decide +kernel
theorem dX10_tells_14 : decode cX10_tells 14 = .ok (.aload_n 0, 1) := by decide +kernel
theorem dX10_tells_15 : decode cX10_tells 15 = .ok (.iload_n 2, 1) := by decide +kernel
theorem dX10_tells_16 : decode cX10_tells 16 = .ok (.bipush 10, 2) := by decide +kernel
theorem dX10_tells_18 : decode cX10_tells 18 = .ok (.irem, 1) := by decide +kernel
theorem dX10_tells_19 : decode cX10_tells 19 = .ok (.invokevirtual 85, 3) := by decide +kernel
theorem dX10_tells_22 : decode cX10_tells 22 = .ok (.ifCond .eq 7, 3) := by decide +kernel
theorem dX10_tells_25 : decode cX10_tells 25 = .ok (.iconst 1, 1) := by decide +kernel
theorem dX10_tells_26 : decode cX10_tells 26 = .ok (.goto 4, 3) := by decide +kernel
theorem dX10_tells_29 : decode cX10_tells 29 = .ok (.iconst 0, 1) := by decide +kernel
theorem dX10_tells_30 : decode cX10_tells 30 = .ok (.istore_n 3, 1) := by decide +kernel
theorem dX10_tells_31 : decode cX10_tells 31 = .ok (.iload_n 1, 1) := by decide +kernel
theorem dX10_tells_32 : decode cX10_tells 32 = .ok (.invokestatic 323, 3) := by decide +kernel
theorem dX10_tells_35 : decode cX10_tells 35 = .ok (.ifCond .eq 19, 3) := by decide +kernel
theorem dX10_tells_38 : decode cX10_tells 38 = .ok (.iload_n 2, 1) := by decide +kernel
theorem dX10_tells_39 : decode cX10_tells 39 = .ok (.i2l, 1) := by decide +kernel
theorem dX10_tells_40 : decode cX10_tells 40 = .ok (.lconst 0, 1) := by decide +kernel
theorem dX10_tells_41 : decode cX10_tells 41 = .ok (.ldc2_w 83, 3) := by decide +kernel
theorem dX10_tells_44 : decode cX10_tells 44 = .ok (.invokestatic 79, 3) := by decide +kernel
theorem dX10_tells_47 : decode cX10_tells 47 = .ok (.ifCond .ne 10, 3) := by decide +kernel
theorem dX10_tells_50 : decode cX10_tells 50 = .ok (.iload_n 3, 1) := by decide +kernel
theorem dX10_tells_51 : decode cX10_tells 51 = .ok (.ifCond .ne 6, 3) := by decide +kernel
theorem dX10_tells_54 : decode cX10_tells 54 = .ok (.bipush (-2), 2) := by decide +kernel
theorem dX10_tells_56 : decode cX10_tells 56 = .ok (.ireturn, 1) := by decide +kernel
theorem dX10_tells_57 : decode cX10_tells 57 = .ok (.aload_n 0, 1) := by decide +kernel
theorem dX10_tells_58 : decode cX10_tells 58 = .ok (.getfield 56, 3) := by decide +kernel
theorem dX10_tells_61 : decode cX10_tells 61 = .ok (.iload_n 1, 1) := by decide +kernel
theorem dX10_tells_62 : decode cX10_tells 62 = .ok (.baload, 1) := by decide +kernel
theorem dX10_tells_63 : decode cX10_tells 63 = .ok (.ifCond .ne 6, 3) := by decide +kernel
theorem dX10_tells_66 : decode cX10_tells 66 = .ok (.bipush (-11), 2) := by decide +kernel
theorem dX10_tells_68 : decode cX10_tells 68 = .ok (.ireturn, 1) := by decide +kernel
theorem dX10_tells_69 : decode cX10_tells 69 = .ok (.aload_n 0, 1) := by decide +kernel
theorem dX10_tells_70 : decode cX10_tells 70 = .ok (.getfield 63, 3) := by decide +kernel
theorem dX10_tells_73 : decode cX10_tells 73 = .ok (.iload_n 1, 1) := by decide +kernel
theorem dX10_tells_74 : decode cX10_tells 74 = .ok (.iaload, 1) := by decide +kernel
theorem dX10_tells_75 : decode cX10_tells 75 = .ok (.aload_n 0, 1) := by decide +kernel
theorem dX10_tells_76 : decode cX10_tells 76 = .ok (.getfield 76, 3) := by decide +kernel
theorem dX10_tells_79 : decode cX10_tells 79 = .ok (.if_icmp .eq 6, 3) := by decide +kernel
theorem dX10_tells_82 : decode cX10_tells 82 = .ok (.bipush (-2), 2) := by decide +kernel
theorem dX10_tells_84 : decode cX10_tells 84 = .ok (.ireturn, 1) := by decide +kernel
theorem dX10_tells_85 : decode cX10_tells 85 = .ok (.iload_n 2, 1) := by decide +kernel
theorem dX10_tells_86 : decode cX10_tells 86 = .ok (.ifCond .ne 9, 3) := by decide +kernel
theorem dX10_tells_89 : decode cX10_tells 89 = .ok (.aload_n 0, 1) := by decide +kernel
theorem dX10_tells_90 : decode cX10_tells 90 = .ok (.iload_n 1, 1) := by decide +kernel
theorem dX10_tells_91 : decode cX10_tells 91 = .ok (.invokevirtual 326, 3) := by decide +kernel
theorem dX10_tells_94 : decode cX10_tells 94 = .ok (.ireturn, 1) := by decide +kernel
theorem dX10_tells_95 : decode cX10_tells 95 = .ok (.iload_n 2, 1) := by decide +kernel
theorem dX10_tells_96 : decode cX10_tells 96 = .ok (.iconst 4, 1) := by decide +kernel
theorem dX10_tells_97 : decode cX10_tells 97 = .ok (.if_icmp .ge 37, 3) := by decide +kernel
theorem dX10_tells_100 : decode cX10_tells 100 = .ok (.aload_n 0, 1) := by decide +kernel
theorem dX10_tells_101 : decode cX10_tells 101 = .ok (.iload_n 1, 1) := by decide +kernel
theorem dX10_tells_102 : decode cX10_tells 102 = .ok (.invokevirtual 329, 3) := by decide +kernel
theorem dX10_tells_105 : decode cX10_tells 105 = .ok (.iload_n 2, 1) := by decide +kernel
theorem dX10_tells_106 : decode cX10_tells 106 = .ok (.iconst 1, 1) := by decide +kernel
theorem dX10_tells_107 : decode cX10_tells 107 = .ok (.if_icmp .ne 10, 3) := by decide +kernel
theorem dX10_tells_110 : decode cX10_tells 110 = .ok (.aload_n 0, 1) := by decide +kernel
theorem dX10_tells_111 : decode cX10_tells 111 = .ok (.getfield 312, 3) := by decide +kernel
theorem dX10_tells_114 : decode cX10_tells 114 = .ok (.goto 19, 3) := by decide +kernel
theorem dX10_tells_117 : decode cX10_tells 117 = .ok (.iload_n 2, 1) := by decide +kernel
theorem dX10_tells_118 : decode cX10_tells 118 = .ok (.iconst 2, 1) := by decide +kernel
theorem dX10_tells_119 : decode cX10_tells 119 = .ok (.if_icmp .ne 10, 3) := by decide +kernel
theorem dX10_tells_122 : decode cX10_tells 122 = .ok (.aload_n 0, 1) := by decide +kernel
theorem dX10_tells_123 : decode cX10_tells 123 = .ok (.getfield 315, 3) := by decide +kernel
theorem dX10_tells_126 : decode cX10_tells 126 = .ok (.goto 7, 3) := by decide +kernel
theorem dX10_tells_129 : decode cX10_tells 129 = .ok (.aload_n 0, 1) := by decide +kernel
theorem dX10_tells_130 : decode cX10_tells 130 = .ok (.invokevirtual 332, 3) := by decide +kernel
theorem dX10_tells_133 : decode cX10_tells 133 = .ok (.ireturn, 1) := by decide +kernel
theorem dX10_tells_134 : decode cX10_tells 134 = .ok (.iload_n 2, 1) := by decide +kernel
theorem dX10_tells_135 : decode cX10_tells 135 = .ok (.bipush 10, 2) := by decide +kernel
theorem dX10_tells_137 : decode cX10_tells 137 = .ok (.irem, 1) := by decide +kernel
theorem dX10_tells_138 : decode cX10_tells 138 = .ok (.istore 4, 2) := by decide +kernel
theorem dX10_tells_140 : decode cX10_tells 140 = .ok (.iload_n 2, 1) := by decide +kernel
theorem dX10_tells_141 : decode cX10_tells 141 = .ok (.iconst 4, 1) := by decide +kernel
theorem dX10_tells_142 : decode cX10_tells 142 = .ok (.if_icmp .ne 8, 3) := by decide +kernel
theorem dX10_tells_145 : decode cX10_tells 145 = .ok (.bipush 6, 2) := by decide +kernel
theorem dX10_tells_147 : decode cX10_tells 147 = .ok (.goto 24, 3) := by decide +kernel
theorem dX10_tells_150 : decode cX10_tells 150 = .ok (.iload_n 2, 1) := by decide +kernel
theorem dX10_tells_151 : decode cX10_tells 151 = .ok (.bipush 20, 2) := by decide +kernel
theorem dX10_tells_153 : decode cX10_tells 153 = .ok (.if_icmp .ge 7, 3) := by decide +kernel
theorem dX10_tells_156 : decode cX10_tells 156 = .ok (.iconst 5, 1) := by decide +kernel
theorem dX10_tells_157 : decode cX10_tells 157 = .ok (.goto 14, 3) := by decide +kernel
theorem dX10_tells_160 : decode cX10_tells 160 = .ok (.iload_n 2, 1) := by decide +kernel
theorem dX10_tells_161 : decode cX10_tells 161 = .ok (.bipush 30, 2) := by decide +kernel
theorem dX10_tells_163 : decode cX10_tells 163 = .ok (.if_icmp .ge 7, 3) := by decide +kernel
theorem dX10_tells_166 : decode cX10_tells 166 = .ok (.iconst 2, 1) := by decide +kernel
theorem dX10_tells_167 : decode cX10_tells 167 = .ok (.goto 4, 3) := by decide +kernel
theorem dX10_tells_170 : decode cX10_tells 170 = .ok (.iconst 3, 1) := by decide +kernel
theorem dX10_tells_171 : decode cX10_tells 171 = .ok (.istore 5, 2) := by decide +kernel
theorem dX10_tells_173 : decode cX10_tells 173 = .ok (.iload 5, 2) := by decide +kernel
theorem dX10_tells_175 : decode cX10_tells 175 = .ok (.bipush 6, 2) := by decide +kernel
theorem dX10_tells_177 : decode cX10_tells 177 = .ok (.if_icmp .ne 10, 3) := by decide +kernel
theorem dX10_tells_180 : decode cX10_tells 180 = .ok (.aload_n 0, 1) := by decide +kernel
theorem dX10_tells_181 : decode cX10_tells 181 = .ok (.getfield 104, 3) := by decide +kernel
theorem dX10_tells_184 : decode cX10_tells 184 = .ok (.goto 11, 3) := by decide +kernel
theorem dX10_tells_187 : decode cX10_tells 187 = .ok (.aload_n 0, 1) := by decide +kernel
theorem dX10_tells_188 : decode cX10_tells 188 = .ok (.iload 4, 2) := by decide +kernel
theorem dX10_tells_190 : decode cX10_tells 190 = .ok (.iload 5, 2) := by decide +kernel
theorem dX10_tells_192 : decode cX10_tells 192 = .ok (.invokevirtual 93, 3) := by decide +kernel
theorem dX10_tells_195 : decode cX10_tells 195 = .ok (.istore 6, 2) := by decide +kernel
theorem dX10_tells_197 : decode cX10_tells 197 = .ok (.iload 5, 2) := by decide +kernel
theorem dX10_tells_199 : decode cX10_tells 199 = .ok (.bipush 6, 2) := by decide +kernel
theorem dX10_tells_201 : decode cX10_tells 201 = .ok (.if_icmp .ne 12, 3) := by decide +kernel
theorem dX10_tells_204 : decode cX10_tells 204 = .ok (.aload_n 0, 1) := by decide +kernel
theorem dX10_tells_205 : decode cX10_tells 205 = .ok (.getfield 73, 3) := by decide +kernel
theorem dX10_tells_208 : decode cX10_tells 208 = .ok (.iconst 1, 1) := by decide +kernel
theorem dX10_tells_209 : decode cX10_tells 209 = .ok (.isub, 1) := by decide +kernel
theorem dX10_tells_210 : decode cX10_tells 210 = .ok (.goto 18, 3) := by decide +kernel
theorem dX10_tells_213 : decode cX10_tells 213 = .ok (.iload 5, 2) := by decide +kernel
theorem dX10_tells_215 : decode cX10_tells 215 = .ok (.iconst 5, 1) := by decide +kernel
theorem dX10_tells_216 : decode cX10_tells 216 = .ok (.if_icmp .ne 7, 3) := by decide +kernel
theorem dX10_tells_219 : decode cX10_tells 219 = .ok (.iconst 5, 1) := by decide +kernel
theorem dX10_tells_220 : decode cX10_tells 220 = .ok (.goto 8, 3) := by decide +kernel
theorem dX10_tells_223 : decode cX10_tells 223 = .ok (.iload 5, 2) := by decide +kernel
theorem dX10_tells_225 : decode cX10_tells 225 = .ok (.invokestatic 89, 3) := by decide +kernel
theorem dX10_tells_228 : decode cX10_tells 228 = .ok (.istore 7, 2) := by decide +kernel
theorem dX10_tells_230 : decode cX10_tells 230 = .ok (.iconst 0, 1) := by decide +kernel
theorem dX10_tells_231 : decode cX10_tells 231 = .ok (.istore 8, 2) := by decide +kernel
theorem dX10_tells_233 : decode cX10_tells 233 = .ok (.iconst 0, 1) := by decide +kernel
theorem dX10_tells_234 : decode cX10_tells 234 = .ok (.istore 9, 2) := by decide +kernel
theorem dX10_tells_236 : decode cX10_tells 236 = .ok (.iload 9, 2) := by decide +kernel
theorem dX10_tells_238 : decode cX10_tells 238 = .ok (.iload 7, 2) := by decide +kernel
theorem dX10_tells_240 : decode cX10_tells 240 = .ok (.if_icmp .gt 40, 3) := by decide +kernel
theorem dX10_tells_243 : decode cX10_tells 243 = .ok (.aload_n 0, 1) := by decide +kernel
theorem dX10_tells_244 : decode cX10_tells 244 = .ok (.iload 5, 2) := by decide +kernel
theorem dX10_tells_246 : decode cX10_tells 246 = .ok (.iload 4, 2) := by decide +kernel
theorem dX10_tells_248 : decode cX10_tells 248 = .ok (.iload 9, 2) := by decide +kernel
theorem dX10_tells_250 : decode cX10_tells 250 = .ok (.invokevirtual 97, 3) := by decide +kernel
theorem dX10_tells_253 : decode cX10_tells 253 = .ok (.iload 8, 2) := by decide +kernel
theorem dX10_tells_255 : decode cX10_tells 255 = .ok (.aload_n 0, 1) := by decide +kernel
theorem dX10_tells_256 : decode cX10_tells 256 = .ok (.iload_n 1, 1) := by decide +kernel
theorem dX10_tells_257 : decode cX10_tells 257 = .ok (.invokevirtual 326, 3) := by decide +kernel
theorem dX10_tells_260 : decode cX10_tells 260 = .ok (.ifCond .ne 7, 3) := by decide +kernel
theorem dX10_tells_263 : decode cX10_tells 263 = .ok (.iconst 1, 1) := by decide +kernel
theorem dX10_tells_264 : decode cX10_tells 264 = .ok (.goto 4, 3) := by decide +kernel
theorem dX10_tells_267 : decode cX10_tells 267 = .ok (.iconst 0, 1) := by decide +kernel
theorem dX10_tells_268 : decode cX10_tells 268 = .ok (.iload 9, 2) := by decide +kernel
theorem dX10_tells_270 : decode cX10_tells 270 = .ok (.ishl, 1) := by decide +kernel
theorem dX10_tells_271 : decode cX10_tells 271 = .ok (.ior, 1) := by decide +kernel
theorem dX10_tells_272 : decode cX10_tells 272 = .ok (.istore 8, 2) := by decide +kernel
theorem dX10_tells_274 : decode cX10_tells 274 = .ok (.iinc 9 1, 3) := by decide +kernel
theorem dX10_tells_277 : decode cX10_tells 277 = .ok (.goto (-41), 3) := by decide +kernel
theorem dX10_tells_280 : decode cX10_tells 280 = .ok (.aload_n 0, 1) := by decide +kernel
theorem dX10_tells_281 : decode cX10_tells 281 = .ok (.iload 5, 2) := by decide +kernel
theorem dX10_tells_283 : decode cX10_tells 283 = .ok (.iload 4, 2) := by decide +kernel
theorem dX10_tells_285 : decode cX10_tells 285 = .ok (.iload 6, 2) := by decide +kernel
theorem dX10_tells_287 : decode cX10_tells 287 = .ok (.invokevirtual 97, 3) := by decide +kernel
theorem dX10_tells_290 : decode cX10_tells 290 = .ok (.iload 8, 2) := by decide +kernel
theorem dX10_tells_292 : decode cX10_tells 292 = .ok (.ireturn, 1) := by decide +kernel
theorem dX10_film_0 : decode cX10_film 0 = .ok (.iload_n 1, 1) := by decide +kernel
theorem dX10_film_1 : decode cX10_film 1 = .ok (.invokestatic 323, 3) := by decide +kernel
theorem dX10_film_4 : decode cX10_film 4 = .ok (.ifCond .ne 6, 3) := by decide +kernel
theorem dX10_film_7 : decode cX10_film 7 = .ok (.bipush (-2), 2) := by decide +kernel
theorem dX10_film_9 : decode cX10_film 9 = .ok (.ireturn, 1) := by decide +kernel
theorem dX10_film_10 : decode cX10_film 10 = .ok (.aload_n 0, 1) := by decide +kernel
theorem dX10_film_11 : decode cX10_film 11 = .ok (.iload_n 1, 1) := by decide +kernel
theorem dX10_film_12 : decode cX10_film 12 = .ok (.iconst 0, 1) := by decide +kernel
theorem dX10_film_13 : decode cX10_film 13 = .ok (.aload_n 0, 1) := by decide +kernel
theorem dX10_film_14 : decode cX10_film 14 = .ok (.getfield 76, 3) := by decide +kernel
theorem dX10_film_17 : decode cX10_film 17 = .ok (.invokevirtual 335, 3) := by decide +kernel
theorem dX10_film_20 : decode cX10_film 20 = .ok (.pop, 1) := by decide +kernel
theorem dX10_film_21 : decode cX10_film 21 = .ok (.iconst 0, 1) := by decide +kernel
theorem dX10_film_22 : decode cX10_film 22 = .ok (.istore_n 2, 1) := by decide +kernel
theorem dX10_film_23 : decode cX10_film 23 = .ok (.iload_n 2, 1) := by decide +kernel
theorem dX10_film_24 : decode cX10_film 24 = .ok (.aload_n 0, 1) := by decide +kernel
theorem dX10_film_25 : decode cX10_film 25 = .ok (.getfield 76, 3) := by decide +kernel
theorem dX10_film_28 : decode cX10_film 28 = .ok (.if_icmp .ge 31, 3) := by decide +kernel
theorem dX10_film_31 : decode cX10_film 31 = .ok (.aload_n 0, 1) := by decide +kernel
theorem dX10_film_32 : decode cX10_film 32 = .ok (.getfield 66, 3) := by decide +kernel
theorem dX10_film_35 : decode cX10_film 35 = .ok (.bipush 40, 2) := by decide +kernel
theorem dX10_film_37 : decode cX10_film 37 = .ok (.iload_n 1, 1) := by decide +kernel
theorem dX10_film_38 : decode cX10_film 38 = .ok (.imul, 1) := by decide +kernel
theorem dX10_film_39 : decode cX10_film 39 = .ok (.iload_n 2, 1) := by decide +kernel
theorem dX10_film_40 : decode cX10_film 40 = .ok (.iadd, 1) := by decide +kernel
theorem dX10_film_41 : decode cX10_film 41 = .ok (.aload_n 0, 1) := by decide +kernel
theorem dX10_film_42 : decode cX10_film 42 = .ok (.iload_n 2, 1) := by decide +kernel
theorem dX10_film_43 : decode cX10_film 43 = .ok (.aload_n 0, 1) := by decide +kernel
theorem dX10_film_44 : decode cX10_film 44 = .ok (.getfield 32, 3) := by decide +kernel
theorem dX10_film_47 : decode cX10_film 47 = .ok (.iload_n 2, 1) := by decide +kernel
theorem dX10_film_48 : decode cX10_film 48 = .ok (.iaload, 1) := by decide +kernel
theorem dX10_film_49 : decode cX10_film 49 = .ok (.invokevirtual 129, 3) := by decide +kernel
theorem dX10_film_52 : decode cX10_film 52 = .ok (.iastore, 1) := by decide +kernel
theorem dX10_film_53 : decode cX10_film 53 = .ok (.iinc 2 1, 3) := by decide +kernel
theorem dX10_film_56 : decode cX10_film 56 = .ok (.goto (-33), 3) := by decide +kernel
theorem dX10_film_59 : decode cX10_film 59 = .ok (.aload_n 0, 1) := by decide +kernel
theorem dX10_film_60 : decode cX10_film 60 = .ok (.getfield 76, 3) := by decide +kernel
theorem dX10_film_63 : decode cX10_film 63 = .ok (.ireturn, 1) := by decide +kernel
theorem dX10_draws_0 : decode cX10_draws 0 = .ok (.iload_n 1, 1) := by decide +kernel
theorem dX10_draws_1 : decode cX10_draws 1 = .ok (.istore_n 2, 1) := by decide +kernel
theorem dX10_draws_2 : decode cX10_draws 2 = .ok (.iconst 0, 1) := by decide +kernel
theorem dX10_draws_3 : decode cX10_draws 3 = .ok (.istore_n 3, 1) := by decide +kernel
theorem dX10_draws_4 : decode cX10_draws 4 = .ok (.iload_n 3, 1) := by decide +kernel
theorem dX10_draws_5 : decode cX10_draws 5 = .ok (.aload_n 0, 1) := by decide +kernel
theorem dX10_draws_6 : decode cX10_draws 6 = .ok (.getfield 76, 3) := by decide +kernel
theorem dX10_draws_9 : decode cX10_draws 9 = .ok (.if_icmp .ge 47, 3) := by decide +kernel
theorem dX10_draws_12 : decode cX10_draws 12 = .ok (.aload_n 0, 1) := by decide +kernel
theorem dX10_draws_13 : decode cX10_draws 13 = .ok (.getfield 44, 3) := by decide +kernel
theorem dX10_draws_16 : decode cX10_draws 16 = .ok (.iload_n 3, 1) := by decide +kernel
theorem dX10_draws_17 : decode cX10_draws 17 = .ok (.aload_n 0, 1) := by decide +kernel
theorem dX10_draws_18 : decode cX10_draws 18 = .ok (.iload_n 3, 1) := by decide +kernel
theorem dX10_draws_19 : decode cX10_draws 19 = .ok (.invokevirtual 119, 3) := by decide +kernel
theorem dX10_draws_22 : decode cX10_draws 22 = .ok (.iastore, 1) := by decide +kernel
theorem dX10_draws_23 : decode cX10_draws 23 = .ok (.iload_n 2, 1) := by decide +kernel
theorem dX10_draws_24 : decode cX10_draws 24 = .ok (.ldc_w 338, 3) := by decide +kernel
theorem dX10_draws_27 : decode cX10_draws 27 = .ok (.imul, 1) := by decide +kernel
theorem dX10_draws_28 : decode cX10_draws 28 = .ok (.sipush 12345, 3) := by decide +kernel
theorem dX10_draws_31 : decode cX10_draws 31 = .ok (.iadd, 1) := by decide +kernel
theorem dX10_draws_32 : decode cX10_draws 32 = .ok (.istore_n 2, 1) := by decide +kernel
theorem dX10_draws_33 : decode cX10_draws 33 = .ok (.aload_n 0, 1) := by decide +kernel
theorem dX10_draws_34 : decode cX10_draws 34 = .ok (.getfield 29, 3) := by decide +kernel
theorem dX10_draws_37 : decode cX10_draws 37 = .ok (.iconst 3, 1) := by decide +kernel
theorem dX10_draws_38 : decode cX10_draws 38 = .ok (.iload_n 3, 1) := by decide +kernel
theorem dX10_draws_39 : decode cX10_draws 39 = .ok (.imul, 1) := by decide +kernel
theorem dX10_draws_40 : decode cX10_draws 40 = .ok (.iconst 1, 1) := by decide +kernel
theorem dX10_draws_41 : decode cX10_draws 41 = .ok (.iadd, 1) := by decide +kernel
theorem dX10_draws_42 : decode cX10_draws 42 = .ok (.iload_n 2, 1) := by decide +kernel
theorem dX10_draws_43 : decode cX10_draws 43 = .ok (.bipush 9, 2) := by decide +kernel
theorem dX10_draws_45 : decode cX10_draws 45 = .ok (.iushr, 1) := by decide +kernel
theorem dX10_draws_46 : decode cX10_draws 46 = .ok (.bipush 16, 2) := by decide +kernel
theorem dX10_draws_48 : decode cX10_draws 48 = .ok (.irem, 1) := by decide +kernel
theorem dX10_draws_49 : decode cX10_draws 49 = .ok (.iastore, 1) := by decide +kernel
theorem dX10_draws_50 : decode cX10_draws 50 = .ok (.iinc 3 1, 3) := by decide +kernel
theorem dX10_draws_53 : decode cX10_draws 53 = .ok (.goto (-49), 3) := by decide +kernel
theorem dX10_draws_56 : decode cX10_draws 56 = .ok (.return_, 1) := by decide +kernel
theorem dX10_laysBack_0 : decode cX10_laysBack 0 = .ok (.iconst 0, 1) := by decide +kernel
theorem dX10_laysBack_1 : decode cX10_laysBack 1 = .ok (.istore_n 1, 1) := by decide +kernel
theorem dX10_laysBack_2 : decode cX10_laysBack 2 = .ok (.iload_n 1, 1) := by decide +kernel
theorem dX10_laysBack_3 : decode cX10_laysBack 3 = .ok (.aload_n 0, 1) := by decide +kernel
theorem dX10_laysBack_4 : decode cX10_laysBack 4 = .ok (.getfield 76, 3) := by decide +kernel
theorem dX10_laysBack_7 : decode cX10_laysBack 7 = .ok (.if_icmp .ge 25, 3) := by decide +kernel
theorem dX10_laysBack_10 : decode cX10_laysBack 10 = .ok (.aload_n 0, 1) := by decide +kernel
theorem dX10_laysBack_11 : decode cX10_laysBack 11 = .ok (.getfield 29, 3) := by decide +kernel
theorem dX10_laysBack_14 : decode cX10_laysBack 14 = .ok (.iconst 3, 1) := by decide +kernel
theorem dX10_laysBack_15 : decode cX10_laysBack 15 = .ok (.iload_n 1, 1) := by decide +kernel
theorem dX10_laysBack_16 : decode cX10_laysBack 16 = .ok (.imul, 1) := by decide +kernel
theorem dX10_laysBack_17 : decode cX10_laysBack 17 = .ok (.iconst 1, 1) := by decide +kernel
theorem dX10_laysBack_18 : decode cX10_laysBack 18 = .ok (.iadd, 1) := by decide +kernel
theorem dX10_laysBack_19 : decode cX10_laysBack 19 = .ok (.aload_n 0, 1) := by decide +kernel
theorem dX10_laysBack_20 : decode cX10_laysBack 20 = .ok (.getfield 44, 3) := by decide +kernel
theorem dX10_laysBack_23 : decode cX10_laysBack 23 = .ok (.iload_n 1, 1) := by decide +kernel
theorem dX10_laysBack_24 : decode cX10_laysBack 24 = .ok (.iaload, 1) := by decide +kernel
theorem dX10_laysBack_25 : decode cX10_laysBack 25 = .ok (.iastore, 1) := by decide +kernel
theorem dX10_laysBack_26 : decode cX10_laysBack 26 = .ok (.iinc 1 1, 3) := by decide +kernel
theorem dX10_laysBack_29 : decode cX10_laysBack 29 = .ok (.goto (-27), 3) := by decide +kernel
theorem dX10_laysBack_32 : decode cX10_laysBack 32 = .ok (.return_, 1) := by decide +kernel
theorem dX10_drawn_0 : decode cX10_drawn 0 = .ok (.iload_n 2, 1) := by decide +kernel
theorem dX10_drawn_1 : decode cX10_drawn 1 = .ok (.i2l, 1) := by decide +kernel
theorem dX10_drawn_2 : decode cX10_drawn 2 = .ok (.lconst 0, 1) := by decide +kernel
theorem dX10_drawn_3 : decode cX10_drawn 3 = .ok (.ldc2_w 270, 3) := by decide +kernel
theorem dX10_drawn_6 : decode cX10_drawn 6 = .ok (.invokestatic 79, 3) := by decide +kernel
theorem dX10_drawn_9 : decode cX10_drawn 9 = .ok (.ifCond .ne 6, 3) := by decide +kernel
theorem dX10_drawn_12 : decode cX10_drawn 12 = .ok (.bipush (-2), 2) := by decide +kernel
theorem dX10_drawn_14 : decode cX10_drawn 14 = .ok (.ireturn, 1) := by decide +kernel
theorem dX10_drawn_15 : decode cX10_drawn 15 = .ok (.aload_n 0, 1) := by decide +kernel
theorem dX10_drawn_16 : decode cX10_drawn 16 = .ok (.iload_n 1, 1) := by decide +kernel
theorem dX10_drawn_17 : decode cX10_drawn 17 = .ok (.invokevirtual 339, 3) := by decide +kernel
theorem dX10_drawn_20 : decode cX10_drawn 20 = .ok (.aload_n 0, 1) := by decide +kernel
theorem dX10_drawn_21 : decode cX10_drawn 21 = .ok (.iload_n 2, 1) := by decide +kernel
theorem dX10_drawn_22 : decode cX10_drawn 22 = .ok (.iconst 0, 1) := by decide +kernel
theorem dX10_drawn_23 : decode cX10_drawn 23 = .ok (.invokevirtual 342, 3) := by decide +kernel
theorem dX10_drawn_26 : decode cX10_drawn 26 = .ok (.istore_n 3, 1) := by decide +kernel
theorem dX10_drawn_27 : decode cX10_drawn 27 = .ok (.aload_n 0, 1) := by decide +kernel
theorem dX10_drawn_28 : decode cX10_drawn 28 = .ok (.invokevirtual 345, 3) := by decide +kernel
theorem dX10_drawn_31 : decode cX10_drawn 31 = .ok (.iload_n 3, 1) := by decide +kernel
theorem dX10_drawn_32 : decode cX10_drawn 32 = .ok (.ireturn, 1) := by decide +kernel
theorem dX10_chance_0 : decode cX10_chance 0 = .ok (.iload_n 2, 1) := by decide +kernel
theorem dX10_chance_1 : decode cX10_chance 1 = .ok (.i2l, 1) := by decide +kernel
theorem dX10_chance_2 : decode cX10_chance 2 = .ok (.lconst 1, 1) := by decide +kernel
theorem dX10_chance_3 : decode cX10_chance 3 = .ok (.ldc2_w 348, 3) := by decide +kernel
theorem dX10_chance_6 : decode cX10_chance 6 = .ok (.invokestatic 79, 3) := by decide +kernel
theorem dX10_chance_9 : decode cX10_chance 9 = .ok (.ifCond .eq 13, 3) := by decide +kernel
theorem dX10_chance_12 : decode cX10_chance 12 = .ok (.iload_n 3, 1) := by decide +kernel
theorem dX10_chance_13 : decode cX10_chance 13 = .ok (.i2l, 1) := by decide +kernel
theorem dX10_chance_14 : decode cX10_chance 14 = .ok (.lconst 0, 1) := by decide +kernel
theorem dX10_chance_15 : decode cX10_chance 15 = .ok (.lconst 1, 1) := by decide +kernel
theorem dX10_chance_16 : decode cX10_chance 16 = .ok (.invokestatic 79, 3) := by decide +kernel
theorem dX10_chance_19 : decode cX10_chance 19 = .ok (.ifCond .ne 7, 3) := by decide +kernel
theorem dX10_chance_22 : decode cX10_chance 22 = .ok (.ldc2_w 350, 3) := by decide +kernel
theorem dX10_chance_25 : decode cX10_chance 25 = .ok (.lreturn, 1) := by decide +kernel
theorem dX10_chance_26 : decode cX10_chance 26 = .ok (.lconst 0, 1) := by decide +kernel
theorem dX10_chance_27 : decode cX10_chance 27 = .ok (.lstore 4, 2) := by decide +kernel
theorem dX10_chance_29 : decode cX10_chance 29 = .ok (.iconst 0, 1) := by decide +kernel
theorem dX10_chance_30 : decode cX10_chance 30 = .ok (.istore 6, 2) := by decide +kernel
theorem dX10_chance_32 : decode cX10_chance 32 = .ok (.iload 6, 2) := by decide +kernel
theorem dX10_chance_34 : decode cX10_chance 34 = .ok (.iload_n 2, 1) := by decide +kernel
theorem dX10_chance_35 : decode cX10_chance 35 = .ok (.if_icmp .ge 88, 3) := by decide +kernel
theorem dX10_chance_38 : decode cX10_chance 38 = .ok (.aload_n 0, 1) := by decide +kernel
theorem dX10_chance_39 : decode cX10_chance 39 = .ok (.iload_n 1, 1) := by decide +kernel
theorem dX10_chance_40 : decode cX10_chance 40 = .ok (.iload 6, 2) := by decide +kernel
theorem dX10_chance_42 : decode cX10_chance 42 = .ok (.iadd, 1) := by decide +kernel
theorem dX10_chance_43 : decode cX10_chance 43 = .ok (.invokevirtual 339, 3) := by decide +kernel
theorem dX10_chance_46 : decode cX10_chance 46 = .ok (.iconst 0, 1) := by decide +kernel
theorem dX10_chance_47 : decode cX10_chance 47 = .ok (.istore 7, 2) := by decide +kernel
theorem dX10_chance_49 : decode cX10_chance 49 = .ok (.iconst 0, 1) := by decide +kernel
theorem dX10_chance_50 : decode cX10_chance 50 = .ok (.istore 8, 2) := by decide +kernel
theorem dX10_chance_52 : decode cX10_chance 52 = .ok (.iload 8, 2) := by decide +kernel
theorem dX10_chance_54 : decode cX10_chance 54 = .ok (.aload_n 0, 1) := by decide +kernel
theorem dX10_chance_55 : decode cX10_chance 55 = .ok (.getfield 76, 3) := by decide +kernel
theorem dX10_chance_58 : decode cX10_chance 58 = .ok (.if_icmp .ge 40, 3) := by decide +kernel
theorem dX10_chance_61 : decode cX10_chance 61 = .ok (.iload 7, 2) := by decide +kernel
theorem dX10_chance_63 : decode cX10_chance 63 = .ok (.ifCond .ne 22, 3) := by decide +kernel
theorem dX10_chance_66 : decode cX10_chance 66 = .ok (.aload_n 0, 1) := by decide +kernel
theorem dX10_chance_67 : decode cX10_chance 67 = .ok (.iconst 1, 1) := by decide +kernel
theorem dX10_chance_68 : decode cX10_chance 68 = .ok (.iload 8, 2) := by decide +kernel
theorem dX10_chance_70 : decode cX10_chance 70 = .ok (.ishl, 1) := by decide +kernel
theorem dX10_chance_71 : decode cX10_chance 71 = .ok (.invokevirtual 307, 3) := by decide +kernel
theorem dX10_chance_74 : decode cX10_chance 74 = .ok (.iconst 1, 1) := by decide +kernel
theorem dX10_chance_75 : decode cX10_chance 75 = .ok (.aload_n 0, 1) := by decide +kernel
theorem dX10_chance_76 : decode cX10_chance 76 = .ok (.getfield 76, 3) := by decide +kernel
theorem dX10_chance_79 : decode cX10_chance 79 = .ok (.ishl, 1) := by decide +kernel
theorem dX10_chance_80 : decode cX10_chance 80 = .ok (.iconst 1, 1) := by decide +kernel
theorem dX10_chance_81 : decode cX10_chance 81 = .ok (.isub, 1) := by decide +kernel
theorem dX10_chance_82 : decode cX10_chance 82 = .ok (.if_icmp .ne 7, 3) := by decide +kernel
theorem dX10_chance_85 : decode cX10_chance 85 = .ok (.iconst 1, 1) := by decide +kernel
theorem dX10_chance_86 : decode cX10_chance 86 = .ok (.goto 4, 3) := by decide +kernel
theorem dX10_chance_89 : decode cX10_chance 89 = .ok (.iconst 0, 1) := by decide +kernel
theorem dX10_chance_90 : decode cX10_chance 90 = .ok (.istore 7, 2) := by decide +kernel
theorem dX10_chance_92 : decode cX10_chance 92 = .ok (.iinc 8 1, 3) := by decide +kernel
theorem dX10_chance_95 : decode cX10_chance 95 = .ok (.goto (-43), 3) := by decide +kernel
theorem dX10_chance_98 : decode cX10_chance 98 = .ok (.lload 4, 2) := by decide +kernel
theorem dX10_chance_100 : decode cX10_chance 100 = .ok (.iload 7, 2) := by decide +kernel
theorem dX10_chance_102 : decode cX10_chance 102 = .ok (.ifCond .eq 7, 3) := by decide +kernel
theorem dX10_chance_105 : decode cX10_chance 105 = .ok (.lconst 1, 1) := by decide +kernel
theorem dX10_chance_106 : decode cX10_chance 106 = .ok (.goto 4, 3) := by decide +kernel
theorem dX10_chance_109 : decode cX10_chance 109 = .ok (.lconst 0, 1) := by decide +kernel
theorem dX10_chance_110 : decode cX10_chance 110 = .ok (.ladd, 1) := by decide +kernel
theorem dX10_chance_111 : decode cX10_chance 111 = .ok (.lstore 4, 2) := by decide +kernel
theorem dX10_chance_113 : decode cX10_chance 113 = .ok (.aload_n 0, 1) := by decide +kernel
theorem dX10_chance_114 : decode cX10_chance 114 = .ok (.invokevirtual 345, 3) := by decide +kernel
theorem dX10_chance_117 : decode cX10_chance 117 = .ok (.iinc 6 1, 3) := by decide +kernel
theorem dX10_chance_120 : decode cX10_chance 120 = .ok (.goto (-88), 3) := by decide +kernel
theorem dX10_chance_123 : decode cX10_chance 123 = .ok (.lload 4, 2) := by decide +kernel
theorem dX10_chance_125 : decode cX10_chance 125 = .ok (.lstore 6, 2) := by decide +kernel
theorem dX10_chance_127 : decode cX10_chance 127 = .ok (.iload_n 2, 1) := by decide +kernel
theorem dX10_chance_128 : decode cX10_chance 128 = .ok (.i2l, 1) := by decide +kernel
theorem dX10_chance_129 : decode cX10_chance 129 = .ok (.lstore 8, 2) := by decide +kernel
theorem dX10_chance_131 : decode cX10_chance 131 = .ok (.lload 8, 2) := by decide +kernel
theorem dX10_chance_133 : decode cX10_chance 133 = .ok (.lconst 0, 1) := by decide +kernel
theorem dX10_chance_134 : decode cX10_chance 134 = .ok (.lcmp, 1) := by decide +kernel
theorem dX10_chance_135 : decode cX10_chance 135 = .ok (.ifCond .eq 21, 3) := by decide +kernel
theorem dX10_chance_138 : decode cX10_chance 138 = .ok (.lload 6, 2) := by decide +kernel
theorem dX10_chance_140 : decode cX10_chance 140 = .ok (.lload 8, 2) := by decide +kernel
theorem dX10_chance_142 : decode cX10_chance 142 = .ok (.lrem, 1) := by decide +kernel
theorem dX10_chance_143 : decode cX10_chance 143 = .ok (.lstore 10, 2) := by decide +kernel
theorem dX10_chance_145 : decode cX10_chance 145 = .ok (.lload 8, 2) := by decide +kernel
theorem dX10_chance_147 : decode cX10_chance 147 = .ok (.lstore 6, 2) := by decide +kernel
theorem dX10_chance_149 : decode cX10_chance 149 = .ok (.lload 10, 2) := by decide +kernel
theorem dX10_chance_151 : decode cX10_chance 151 = .ok (.lstore 8, 2) := by decide +kernel
theorem dX10_chance_153 : decode cX10_chance 153 = .ok (.goto (-22), 3) := by decide +kernel
theorem dX10_chance_156 : decode cX10_chance 156 = .ok (.iload_n 3, 1) := by decide +kernel
theorem dX10_chance_157 : decode cX10_chance 157 = .ok (.ifCond .ne 11, 3) := by decide +kernel
theorem dX10_chance_160 : decode cX10_chance 160 = .ok (.lload 4, 2) := by decide +kernel
theorem dX10_chance_162 : decode cX10_chance 162 = .ok (.lload 6, 2) := by decide +kernel
theorem dX10_chance_164 : decode cX10_chance 164 = .ok (.ldiv, 1) := by decide +kernel
theorem dX10_chance_165 : decode cX10_chance 165 = .ok (.goto 8, 3) := by decide +kernel
theorem dX10_chance_168 : decode cX10_chance 168 = .ok (.iload_n 2, 1) := by decide +kernel
theorem dX10_chance_169 : decode cX10_chance 169 = .ok (.i2l, 1) := by decide +kernel
theorem dX10_chance_170 : decode cX10_chance 170 = .ok (.lload 6, 2) := by decide +kernel
theorem dX10_chance_172 : decode cX10_chance 172 = .ok (.ldiv, 1) := by decide +kernel
theorem dX10_chance_173 : decode cX10_chance 173 = .ok (.lreturn, 1) := by decide +kernel
theorem dX10_image_0 : decode cX10_image 0 = .ok (.iconst 0, 1) := by decide +kernel
theorem dX10_image_1 : decode cX10_image 1 = .ok (.istore_n 1, 1) := by decide +kernel
theorem dX10_image_2 : decode cX10_image 2 = .ok (.iload_n 1, 1) := by decide +kernel
theorem dX10_image_3 : decode cX10_image 3 = .ok (.bipush 18, 2) := by decide +kernel
theorem dX10_image_5 : decode cX10_image 5 = .ok (.if_icmp .ge 21, 3) := by decide +kernel
theorem dX10_image_8 : decode cX10_image 8 = .ok (.aload_n 0, 1) := by decide +kernel
theorem dX10_image_9 : decode cX10_image 9 = .ok (.getfield 47, 3) := by decide +kernel
theorem dX10_image_12 : decode cX10_image 12 = .ok (.iload_n 1, 1) := by decide +kernel
theorem dX10_image_13 : decode cX10_image 13 = .ok (.aload_n 0, 1) := by decide +kernel
theorem dX10_image_14 : decode cX10_image 14 = .ok (.getfield 29, 3) := by decide +kernel
theorem dX10_image_17 : decode cX10_image 17 = .ok (.iload_n 1, 1) := by decide +kernel
theorem dX10_image_18 : decode cX10_image 18 = .ok (.iaload, 1) := by decide +kernel
theorem dX10_image_19 : decode cX10_image 19 = .ok (.iastore, 1) := by decide +kernel
theorem dX10_image_20 : decode cX10_image 20 = .ok (.iinc 1 1, 3) := by decide +kernel
theorem dX10_image_23 : decode cX10_image 23 = .ok (.goto (-21), 3) := by decide +kernel
theorem dX10_image_26 : decode cX10_image 26 = .ok (.iconst 0, 1) := by decide +kernel
theorem dX10_image_27 : decode cX10_image 27 = .ok (.istore_n 1, 1) := by decide +kernel
theorem dX10_image_28 : decode cX10_image 28 = .ok (.iload_n 1, 1) := by decide +kernel
theorem dX10_image_29 : decode cX10_image 29 = .ok (.bipush 6, 2) := by decide +kernel
theorem dX10_image_31 : decode cX10_image 31 = .ok (.if_icmp .ge 21, 3) := by decide +kernel
theorem dX10_image_34 : decode cX10_image 34 = .ok (.aload_n 0, 1) := by decide +kernel
theorem dX10_image_35 : decode cX10_image 35 = .ok (.getfield 50, 3) := by decide +kernel
theorem dX10_image_38 : decode cX10_image 38 = .ok (.iload_n 1, 1) := by decide +kernel
theorem dX10_image_39 : decode cX10_image 39 = .ok (.aload_n 0, 1) := by decide +kernel
theorem dX10_image_40 : decode cX10_image 40 = .ok (.getfield 32, 3) := by decide +kernel
theorem dX10_image_43 : decode cX10_image 43 = .ok (.iload_n 1, 1) := by decide +kernel
theorem dX10_image_44 : decode cX10_image 44 = .ok (.iaload, 1) := by decide +kernel
theorem dX10_image_45 : decode cX10_image 45 = .ok (.iastore, 1) := by decide +kernel
theorem dX10_image_46 : decode cX10_image 46 = .ok (.iinc 1 1, 3) := by decide +kernel
theorem dX10_image_49 : decode cX10_image 49 = .ok (.goto (-21), 3) := by decide +kernel
theorem dX10_image_52 : decode cX10_image 52 = .ok (.aload_n 0, 1) := by decide +kernel
theorem dX10_image_53 : decode cX10_image 53 = .ok (.aload_n 0, 1) := by decide +kernel
theorem dX10_image_54 : decode cX10_image 54 = .ok (.getfield 76, 3) := by decide +kernel
theorem dX10_image_57 : decode cX10_image 57 = .ok (.putfield 53, 3) := by decide +kernel
theorem dX10_image_60 : decode cX10_image 60 = .ok (.aload_n 0, 1) := by decide +kernel
theorem dX10_image_61 : decode cX10_image 61 = .ok (.aload_n 0, 1) := by decide +kernel
theorem dX10_image_62 : decode cX10_image 62 = .ok (.getfield 101, 3) := by decide +kernel
theorem dX10_image_65 : decode cX10_image 65 = .ok (.putfield 352, 3) := by decide +kernel
theorem dX10_image_68 : decode cX10_image 68 = .ok (.aload_n 0, 1) := by decide +kernel
theorem dX10_image_69 : decode cX10_image 69 = .ok (.aload_n 0, 1) := by decide +kernel
theorem dX10_image_70 : decode cX10_image 70 = .ok (.getfield 23, 3) := by decide +kernel
theorem dX10_image_73 : decode cX10_image 73 = .ok (.putfield 355, 3) := by decide +kernel
theorem dX10_image_76 : decode cX10_image 76 = .ok (.aload_n 0, 1) := by decide +kernel
theorem dX10_image_77 : decode cX10_image 77 = .ok (.aload_n 0, 1) := by decide +kernel
theorem dX10_image_78 : decode cX10_image 78 = .ok (.getfield 104, 3) := by decide +kernel
theorem dX10_image_81 : decode cX10_image 81 = .ok (.putfield 358, 3) := by decide +kernel
theorem dX10_image_84 : decode cX10_image 84 = .ok (.aload_n 0, 1) := by decide +kernel
theorem dX10_image_85 : decode cX10_image 85 = .ok (.getfield 76, 3) := by decide +kernel
theorem dX10_image_88 : decode cX10_image 88 = .ok (.ireturn, 1) := by decide +kernel
theorem dX10_back_0 : decode cX10_back 0 = .ok (.aload_n 0, 1) := by decide +kernel
theorem dX10_back_1 : decode cX10_back 1 = .ok (.getfield 53, 3) := by decide +kernel
theorem dX10_back_4 : decode cX10_back 4 = .ok (.iconst (-1), 1) := by decide +kernel
theorem dX10_back_5 : decode cX10_back 5 = .ok (.if_icmp .ne 6, 3) := by decide +kernel
theorem dX10_back_8 : decode cX10_back 8 = .ok (.bipush (-3), 2) := by decide +kernel
theorem dX10_back_10 : decode cX10_back 10 = .ok (.ireturn, 1) := by decide +kernel
theorem dX10_back_11 : decode cX10_back 11 = .ok (.iconst 0, 1) := by decide +kernel
theorem dX10_back_12 : decode cX10_back 12 = .ok (.istore_n 1, 1) := by decide +kernel
theorem dX10_back_13 : decode cX10_back 13 = .ok (.iload_n 1, 1) := by decide +kernel
theorem dX10_back_14 : decode cX10_back 14 = .ok (.bipush 18, 2) := by decide +kernel
theorem dX10_back_16 : decode cX10_back 16 = .ok (.if_icmp .ge 21, 3) := by decide +kernel
theorem dX10_back_19 : decode cX10_back 19 = .ok (.aload_n 0, 1) := by decide +kernel
theorem dX10_back_20 : decode cX10_back 20 = .ok (.getfield 29, 3) := by decide +kernel
theorem dX10_back_23 : decode cX10_back 23 = .ok (.iload_n 1, 1) := by decide +kernel
theorem dX10_back_24 : decode cX10_back 24 = .ok (.aload_n 0, 1) := by decide +kernel
theorem dX10_back_25 : decode cX10_back 25 = .ok (.getfield 47, 3) := by decide +kernel
theorem dX10_back_28 : decode cX10_back 28 = .ok (.iload_n 1, 1) := by decide +kernel
theorem dX10_back_29 : decode cX10_back 29 = .ok (.iaload, 1) := by decide +kernel
theorem dX10_back_30 : decode cX10_back 30 = .ok (.iastore, 1) := by decide +kernel
theorem dX10_back_31 : decode cX10_back 31 = .ok (.iinc 1 1, 3) := by decide +kernel
theorem dX10_back_34 : decode cX10_back 34 = .ok (.goto (-21), 3) := by decide +kernel
theorem dX10_back_37 : decode cX10_back 37 = .ok (.iconst 0, 1) := by decide +kernel
theorem dX10_back_38 : decode cX10_back 38 = .ok (.istore_n 1, 1) := by decide +kernel
theorem dX10_back_39 : decode cX10_back 39 = .ok (.iload_n 1, 1) := by decide +kernel
theorem dX10_back_40 : decode cX10_back 40 = .ok (.bipush 6, 2) := by decide +kernel
theorem dX10_back_42 : decode cX10_back 42 = .ok (.if_icmp .ge 21, 3) := by decide +kernel
theorem dX10_back_45 : decode cX10_back 45 = .ok (.aload_n 0, 1) := by decide +kernel
theorem dX10_back_46 : decode cX10_back 46 = .ok (.getfield 32, 3) := by decide +kernel
theorem dX10_back_49 : decode cX10_back 49 = .ok (.iload_n 1, 1) := by decide +kernel
theorem dX10_back_50 : decode cX10_back 50 = .ok (.aload_n 0, 1) := by decide +kernel
theorem dX10_back_51 : decode cX10_back 51 = .ok (.getfield 50, 3) := by decide +kernel
theorem dX10_back_54 : decode cX10_back 54 = .ok (.iload_n 1, 1) := by decide +kernel
theorem dX10_back_55 : decode cX10_back 55 = .ok (.iaload, 1) := by decide +kernel
theorem dX10_back_56 : decode cX10_back 56 = .ok (.iastore, 1) := by decide +kernel
theorem dX10_back_57 : decode cX10_back 57 = .ok (.iinc 1 1, 3) := by decide +kernel
theorem dX10_back_60 : decode cX10_back 60 = .ok (.goto (-21), 3) := by decide +kernel
theorem dX10_back_63 : decode cX10_back 63 = .ok (.aload_n 0, 1) := by decide +kernel
theorem dX10_back_64 : decode cX10_back 64 = .ok (.aload_n 0, 1) := by decide +kernel
theorem dX10_back_65 : decode cX10_back 65 = .ok (.getfield 53, 3) := by decide +kernel
theorem dX10_back_68 : decode cX10_back 68 = .ok (.putfield 76, 3) := by decide +kernel
theorem dX10_back_71 : decode cX10_back 71 = .ok (.aload_n 0, 1) := by decide +kernel
theorem dX10_back_72 : decode cX10_back 72 = .ok (.aload_n 0, 1) := by decide +kernel
theorem dX10_back_73 : decode cX10_back 73 = .ok (.getfield 352, 3) := by decide +kernel
theorem dX10_back_76 : decode cX10_back 76 = .ok (.putfield 101, 3) := by decide +kernel
theorem dX10_back_79 : decode cX10_back 79 = .ok (.aload_n 0, 1) := by decide +kernel
theorem dX10_back_80 : decode cX10_back 80 = .ok (.aload_n 0, 1) := by decide +kernel
theorem dX10_back_81 : decode cX10_back 81 = .ok (.getfield 355, 3) := by decide +kernel
theorem dX10_back_84 : decode cX10_back 84 = .ok (.putfield 23, 3) := by decide +kernel
theorem dX10_back_87 : decode cX10_back 87 = .ok (.aload_n 0, 1) := by decide +kernel
theorem dX10_back_88 : decode cX10_back 88 = .ok (.aload_n 0, 1) := by decide +kernel
theorem dX10_back_89 : decode cX10_back 89 = .ok (.getfield 358, 3) := by decide +kernel
theorem dX10_back_92 : decode cX10_back 92 = .ok (.putfield 104, 3) := by decide +kernel
theorem dX10_back_95 : decode cX10_back 95 = .ok (.aload_n 0, 1) := by decide +kernel
theorem dX10_back_96 : decode cX10_back 96 = .ok (.getfield 76, 3) := by decide +kernel
theorem dX10_back_99 : decode cX10_back 99 = .ok (.ireturn, 1) := by decide +kernel
theorem dX10_count_0 : decode cX10_count 0 = .ok (.iload_n 1, 1) := by decide +kernel
theorem dX10_count_1 : decode cX10_count 1 = .ok (.i2l, 1) := by decide +kernel
theorem dX10_count_2 : decode cX10_count 2 = .ok (.lconst 0, 1) := by decide +kernel
theorem dX10_count_3 : decode cX10_count 3 = .ok (.ldc2_w 107, 3) := by decide +kernel
theorem dX10_count_6 : decode cX10_count 6 = .ok (.invokestatic 79, 3) := by decide +kernel
theorem dX10_count_9 : decode cX10_count 9 = .ok (.ifCond .ne 6, 3) := by decide +kernel
theorem dX10_count_12 : decode cX10_count 12 = .ok (.bipush (-2), 2) := by decide +kernel
theorem dX10_count_14 : decode cX10_count 14 = .ok (.ireturn, 1) := by decide +kernel
theorem dX10_count_15 : decode cX10_count 15 = .ok (.iload_n 1, 1) := by decide +kernel
theorem dX10_count_16 : decode cX10_count 16 = .ok (.iconst 2, 1) := by decide +kernel
theorem dX10_count_17 : decode cX10_count 17 = .ok (.if_icmp .le 32, 3) := by decide +kernel
theorem dX10_count_20 : decode cX10_count 20 = .ok (.iload_n 1, 1) := by decide +kernel
theorem dX10_count_21 : decode cX10_count 21 = .ok (.iconst 3, 1) := by decide +kernel
theorem dX10_count_22 : decode cX10_count 22 = .ok (.if_icmp .ne 10, 3) := by decide +kernel
theorem dX10_count_25 : decode cX10_count 25 = .ok (.aload_n 0, 1) := by decide +kernel
theorem dX10_count_26 : decode cX10_count 26 = .ok (.getfield 73, 3) := by decide +kernel
theorem dX10_count_29 : decode cX10_count 29 = .ok (.goto 19, 3) := by decide +kernel
theorem dX10_count_32 : decode cX10_count 32 = .ok (.iload_n 1, 1) := by decide +kernel
theorem dX10_count_33 : decode cX10_count 33 = .ok (.iconst 4, 1) := by decide +kernel
theorem dX10_count_34 : decode cX10_count 34 = .ok (.if_icmp .ne 10, 3) := by decide +kernel
theorem dX10_count_37 : decode cX10_count 37 = .ok (.aload_n 0, 1) := by decide +kernel
theorem dX10_count_38 : decode cX10_count 38 = .ok (.getfield 134, 3) := by decide +kernel
theorem dX10_count_41 : decode cX10_count 41 = .ok (.goto 7, 3) := by decide +kernel
theorem dX10_count_44 : decode cX10_count 44 = .ok (.aload_n 0, 1) := by decide +kernel
theorem dX10_count_45 : decode cX10_count 45 = .ok (.getfield 104, 3) := by decide +kernel
theorem dX10_count_48 : decode cX10_count 48 = .ok (.ireturn, 1) := by decide +kernel
theorem dX10_count_49 : decode cX10_count 49 = .ok (.iconst 0, 1) := by decide +kernel
theorem dX10_count_50 : decode cX10_count 50 = .ok (.istore_n 2, 1) := by decide +kernel
theorem dX10_count_51 : decode cX10_count 51 = .ok (.iconst 0, 1) := by decide +kernel
theorem dX10_count_52 : decode cX10_count 52 = .ok (.istore_n 3, 1) := by decide +kernel
theorem dX10_count_53 : decode cX10_count 53 = .ok (.iconst 0, 1) := by decide +kernel
theorem dX10_count_54 : decode cX10_count 54 = .ok (.istore 4, 2) := by decide +kernel
theorem dX10_count_56 : decode cX10_count 56 = .ok (.iload 4, 2) := by decide +kernel
theorem dX10_count_58 : decode cX10_count 58 = .ok (.aload_n 0, 1) := by decide +kernel
theorem dX10_count_59 : decode cX10_count 59 = .ok (.getfield 76, 3) := by decide +kernel
theorem dX10_count_62 : decode cX10_count 62 = .ok (.if_icmp .ge 49, 3) := by decide +kernel
theorem dX10_count_65 : decode cX10_count 65 = .ok (.iload_n 2, 1) := by decide +kernel
theorem dX10_count_66 : decode cX10_count 66 = .ok (.aload_n 0, 1) := by decide +kernel
theorem dX10_count_67 : decode cX10_count 67 = .ok (.getfield 29, 3) := by decide +kernel
theorem dX10_count_70 : decode cX10_count 70 = .ok (.iconst 3, 1) := by decide +kernel
theorem dX10_count_71 : decode cX10_count 71 = .ok (.iload 4, 2) := by decide +kernel
theorem dX10_count_73 : decode cX10_count 73 = .ok (.imul, 1) := by decide +kernel
theorem dX10_count_74 : decode cX10_count 74 = .ok (.iconst 2, 1) := by decide +kernel
theorem dX10_count_75 : decode cX10_count 75 = .ok (.iadd, 1) := by decide +kernel
theorem dX10_count_76 : decode cX10_count 76 = .ok (.iaload, 1) := by decide +kernel
theorem dX10_count_77 : decode cX10_count 77 = .ok (.aload_n 0, 1) := by decide +kernel
theorem dX10_count_78 : decode cX10_count 78 = .ok (.getfield 23, 3) := by decide +kernel
theorem dX10_count_81 : decode cX10_count 81 = .ok (.if_icmp .lt 7, 3) := by decide +kernel
theorem dX10_count_84 : decode cX10_count 84 = .ok (.iconst 1, 1) := by decide +kernel
theorem dX10_count_85 : decode cX10_count 85 = .ok (.goto 4, 3) := by decide +kernel
theorem dX10_count_88 : decode cX10_count 88 = .ok (.iconst 0, 1) := by decide +kernel
theorem dX10_count_89 : decode cX10_count 89 = .ok (.iadd, 1) := by decide +kernel
theorem dX10_count_90 : decode cX10_count 90 = .ok (.istore_n 2, 1) := by decide +kernel
theorem dX10_count_91 : decode cX10_count 91 = .ok (.iload_n 3, 1) := by decide +kernel
theorem dX10_count_92 : decode cX10_count 92 = .ok (.aload_n 0, 1) := by decide +kernel
theorem dX10_count_93 : decode cX10_count 93 = .ok (.getfield 29, 3) := by decide +kernel
theorem dX10_count_96 : decode cX10_count 96 = .ok (.iconst 3, 1) := by decide +kernel
theorem dX10_count_97 : decode cX10_count 97 = .ok (.iload 4, 2) := by decide +kernel
theorem dX10_count_99 : decode cX10_count 99 = .ok (.imul, 1) := by decide +kernel
theorem dX10_count_100 : decode cX10_count 100 = .ok (.iconst 2, 1) := by decide +kernel
theorem dX10_count_101 : decode cX10_count 101 = .ok (.iadd, 1) := by decide +kernel
theorem dX10_count_102 : decode cX10_count 102 = .ok (.iaload, 1) := by decide +kernel
theorem dX10_count_103 : decode cX10_count 103 = .ok (.iadd, 1) := by decide +kernel
theorem dX10_count_104 : decode cX10_count 104 = .ok (.istore_n 3, 1) := by decide +kernel
theorem dX10_count_105 : decode cX10_count 105 = .ok (.iinc 4 1, 3) := by decide +kernel
theorem dX10_count_108 : decode cX10_count 108 = .ok (.goto (-52), 3) := by decide +kernel
theorem dX10_count_111 : decode cX10_count 111 = .ok (.iload_n 1, 1) := by decide +kernel
theorem dX10_count_112 : decode cX10_count 112 = .ok (.ifCond .ne 10, 3) := by decide +kernel
theorem dX10_count_115 : decode cX10_count 115 = .ok (.aload_n 0, 1) := by decide +kernel
theorem dX10_count_116 : decode cX10_count 116 = .ok (.getfield 76, 3) := by decide +kernel
theorem dX10_count_119 : decode cX10_count 119 = .ok (.goto 13, 3) := by decide +kernel
theorem dX10_count_122 : decode cX10_count 122 = .ok (.iload_n 1, 1) := by decide +kernel
theorem dX10_count_123 : decode cX10_count 123 = .ok (.iconst 1, 1) := by decide +kernel
theorem dX10_count_124 : decode cX10_count 124 = .ok (.if_icmp .ne 7, 3) := by decide +kernel
theorem dX10_count_127 : decode cX10_count 127 = .ok (.iload_n 3, 1) := by decide +kernel
theorem dX10_count_128 : decode cX10_count 128 = .ok (.goto 4, 3) := by decide +kernel
theorem dX10_count_131 : decode cX10_count 131 = .ok (.iload_n 2, 1) := by decide +kernel
theorem dX10_count_132 : decode cX10_count 132 = .ok (.ireturn, 1) := by decide +kernel
theorem dX10_isSheet_0 : decode cX10_isSheet 0 = .ok (.iload_n 0, 1) := by decide +kernel
theorem dX10_isSheet_1 : decode cX10_isSheet 1 = .ok (.i2l, 1) := by decide +kernel
theorem dX10_isSheet_2 : decode cX10_isSheet 2 = .ok (.lconst 0, 1) := by decide +kernel
theorem dX10_isSheet_3 : decode cX10_isSheet 3 = .ok (.ldc2_w 310, 3) := by decide +kernel
theorem dX10_isSheet_6 : decode cX10_isSheet 6 = .ok (.invokestatic 79, 3) := by decide +kernel
theorem dX10_isSheet_9 : decode cX10_isSheet 9 = .ok (.ireturn, 1) := by decide +kernel
theorem dX10_sheet_0 : decode cX10_sheet 0 = .ok (.iload_n 1, 1) := by decide +kernel
theorem dX10_sheet_1 : decode cX10_sheet 1 = .ok (.invokestatic 323, 3) := by decide +kernel
theorem dX10_sheet_4 : decode cX10_sheet 4 = .ok (.ifCond .eq 27, 3) := by decide +kernel
theorem dX10_sheet_7 : decode cX10_sheet 7 = .ok (.iload_n 2, 1) := by decide +kernel
theorem dX10_sheet_8 : decode cX10_sheet 8 = .ok (.i2l, 1) := by decide +kernel
theorem dX10_sheet_9 : decode cX10_sheet 9 = .ok (.ldc2_w 361, 3) := by decide +kernel
theorem dX10_sheet_12 : decode cX10_sheet 12 = .ok (.ldc2_w 363, 3) := by decide +kernel
theorem dX10_sheet_15 : decode cX10_sheet 15 = .ok (.invokestatic 79, 3) := by decide +kernel
theorem dX10_sheet_18 : decode cX10_sheet 18 = .ok (.ifCond .eq 13, 3) := by decide +kernel
theorem dX10_sheet_21 : decode cX10_sheet 21 = .ok (.iload_n 2, 1) := by decide +kernel
theorem dX10_sheet_22 : decode cX10_sheet 22 = .ok (.ifCond .lt 12, 3) := by decide +kernel
theorem dX10_sheet_25 : decode cX10_sheet 25 = .ok (.iload_n 3, 1) := by decide +kernel
theorem dX10_sheet_26 : decode cX10_sheet 26 = .ok (.bipush 40, 2) := by decide +kernel
theorem dX10_sheet_28 : decode cX10_sheet 28 = .ok (.if_icmp .le 6, 3) := by decide +kernel
theorem dX10_sheet_31 : decode cX10_sheet 31 = .ok (.bipush (-2), 2) := by decide +kernel
theorem dX10_sheet_33 : decode cX10_sheet 33 = .ok (.ireturn, 1) := by decide +kernel
theorem dX10_sheet_34 : decode cX10_sheet 34 = .ok (.iload_n 2, 1) := by decide +kernel
theorem dX10_sheet_35 : decode cX10_sheet 35 = .ok (.ifCond .lt 10, 3) := by decide +kernel
theorem dX10_sheet_38 : decode cX10_sheet 38 = .ok (.iload_n 3, 1) := by decide +kernel
theorem dX10_sheet_39 : decode cX10_sheet 39 = .ok (.ifCond .ge 6, 3) := by decide +kernel
theorem dX10_sheet_42 : decode cX10_sheet 42 = .ok (.bipush (-14), 2) := by decide +kernel
theorem dX10_sheet_44 : decode cX10_sheet 44 = .ok (.ireturn, 1) := by decide +kernel
theorem dX10_sheet_45 : decode cX10_sheet 45 = .ok (.aload_n 0, 1) := by decide +kernel
theorem dX10_sheet_46 : decode cX10_sheet 46 = .ok (.getfield 56, 3) := by decide +kernel
theorem dX10_sheet_49 : decode cX10_sheet 49 = .ok (.iload_n 1, 1) := by decide +kernel
theorem dX10_sheet_50 : decode cX10_sheet 50 = .ok (.iload_n 2, 1) := by decide +kernel
theorem dX10_sheet_51 : decode cX10_sheet 51 = .ok (.ifCond .lt 7, 3) := by decide +kernel
theorem dX10_sheet_54 : decode cX10_sheet 54 = .ok (.iconst 1, 1) := by decide +kernel
theorem dX10_sheet_55 : decode cX10_sheet 55 = .ok (.goto 4, 3) := by decide +kernel
theorem dX10_sheet_58 : decode cX10_sheet 58 = .ok (.iconst 0, 1) := by decide +kernel
theorem dX10_sheet_59 : decode cX10_sheet 59 = .ok (.bastore, 1) := by decide +kernel
theorem dX10_sheet_60 : decode cX10_sheet 60 = .ok (.aload_n 0, 1) := by decide +kernel
theorem dX10_sheet_61 : decode cX10_sheet 61 = .ok (.getfield 60, 3) := by decide +kernel
theorem dX10_sheet_64 : decode cX10_sheet 64 = .ok (.iload_n 1, 1) := by decide +kernel
theorem dX10_sheet_65 : decode cX10_sheet 65 = .ok (.iload_n 2, 1) := by decide +kernel
theorem dX10_sheet_66 : decode cX10_sheet 66 = .ok (.iastore, 1) := by decide +kernel
theorem dX10_sheet_67 : decode cX10_sheet 67 = .ok (.aload_n 0, 1) := by decide +kernel
theorem dX10_sheet_68 : decode cX10_sheet 68 = .ok (.getfield 63, 3) := by decide +kernel
theorem dX10_sheet_71 : decode cX10_sheet 71 = .ok (.iload_n 1, 1) := by decide +kernel
theorem dX10_sheet_72 : decode cX10_sheet 72 = .ok (.iload_n 3, 1) := by decide +kernel
theorem dX10_sheet_73 : decode cX10_sheet 73 = .ok (.iastore, 1) := by decide +kernel
theorem dX10_sheet_74 : decode cX10_sheet 74 = .ok (.iconst 0, 1) := by decide +kernel
theorem dX10_sheet_75 : decode cX10_sheet 75 = .ok (.istore 4, 2) := by decide +kernel
theorem dX10_sheet_77 : decode cX10_sheet 77 = .ok (.iload 4, 2) := by decide +kernel
theorem dX10_sheet_79 : decode cX10_sheet 79 = .ok (.iload_n 3, 1) := by decide +kernel
theorem dX10_sheet_80 : decode cX10_sheet 80 = .ok (.if_icmp .ge 26, 3) := by decide +kernel
theorem dX10_sheet_83 : decode cX10_sheet 83 = .ok (.iload_n 2, 1) := by decide +kernel
theorem dX10_sheet_84 : decode cX10_sheet 84 = .ok (.ifCond .lt 22, 3) := by decide +kernel
theorem dX10_sheet_87 : decode cX10_sheet 87 = .ok (.aload_n 0, 1) := by decide +kernel
theorem dX10_sheet_88 : decode cX10_sheet 88 = .ok (.getfield 66, 3) := by decide +kernel
theorem dX10_sheet_91 : decode cX10_sheet 91 = .ok (.bipush 40, 2) := by decide +kernel
theorem dX10_sheet_93 : decode cX10_sheet 93 = .ok (.iload_n 1, 1) := by decide +kernel
theorem dX10_sheet_94 : decode cX10_sheet 94 = .ok (.imul, 1) := by decide +kernel
theorem dX10_sheet_95 : decode cX10_sheet 95 = .ok (.iload 4, 2) := by decide +kernel
theorem dX10_sheet_97 : decode cX10_sheet 97 = .ok (.iadd, 1) := by decide +kernel
theorem dX10_sheet_98 : decode cX10_sheet 98 = .ok (.iconst 0, 1) := by decide +kernel
theorem dX10_sheet_99 : decode cX10_sheet 99 = .ok (.iastore, 1) := by decide +kernel
theorem dX10_sheet_100 : decode cX10_sheet 100 = .ok (.iinc 4 1, 3) := by decide +kernel
theorem dX10_sheet_103 : decode cX10_sheet 103 = .ok (.goto (-26), 3) := by decide +kernel
theorem dX10_sheet_106 : decode cX10_sheet 106 = .ok (.iconst 1, 1) := by decide +kernel
theorem dX10_sheet_107 : decode cX10_sheet 107 = .ok (.ireturn, 1) := by decide +kernel
theorem dX10_cell_0 : decode cX10_cell 0 = .ok (.iload_n 1, 1) := by decide +kernel
theorem dX10_cell_1 : decode cX10_cell 1 = .ok (.invokestatic 323, 3) := by decide +kernel
theorem dX10_cell_4 : decode cX10_cell 4 = .ok (.ifCond .ne 6, 3) := by decide +kernel
theorem dX10_cell_7 : decode cX10_cell 7 = .ok (.bipush (-2), 2) := by decide +kernel
theorem dX10_cell_9 : decode cX10_cell 9 = .ok (.ireturn, 1) := by decide +kernel
theorem dX10_cell_10 : decode cX10_cell 10 = .ok (.aload_n 0, 1) := by decide +kernel
theorem dX10_cell_11 : decode cX10_cell 11 = .ok (.getfield 56, 3) := by decide +kernel
theorem dX10_cell_14 : decode cX10_cell 14 = .ok (.iload_n 1, 1) := by decide +kernel
theorem dX10_cell_15 : decode cX10_cell 15 = .ok (.baload, 1) := by decide +kernel
theorem dX10_cell_16 : decode cX10_cell 16 = .ok (.ifCond .ne 6, 3) := by decide +kernel
theorem dX10_cell_19 : decode cX10_cell 19 = .ok (.bipush (-11), 2) := by decide +kernel
theorem dX10_cell_21 : decode cX10_cell 21 = .ok (.ireturn, 1) := by decide +kernel
theorem dX10_cell_22 : decode cX10_cell 22 = .ok (.iload_n 2, 1) := by decide +kernel
theorem dX10_cell_23 : decode cX10_cell 23 = .ok (.i2l, 1) := by decide +kernel
theorem dX10_cell_24 : decode cX10_cell 24 = .ok (.lconst 0, 1) := by decide +kernel
theorem dX10_cell_25 : decode cX10_cell 25 = .ok (.aload_n 0, 1) := by decide +kernel
theorem dX10_cell_26 : decode cX10_cell 26 = .ok (.getfield 63, 3) := by decide +kernel
theorem dX10_cell_29 : decode cX10_cell 29 = .ok (.iload_n 1, 1) := by decide +kernel
theorem dX10_cell_30 : decode cX10_cell 30 = .ok (.iaload, 1) := by decide +kernel
theorem dX10_cell_31 : decode cX10_cell 31 = .ok (.iconst 1, 1) := by decide +kernel
theorem dX10_cell_32 : decode cX10_cell 32 = .ok (.isub, 1) := by decide +kernel
theorem dX10_cell_33 : decode cX10_cell 33 = .ok (.i2l, 1) := by decide +kernel
theorem dX10_cell_34 : decode cX10_cell 34 = .ok (.invokestatic 79, 3) := by decide +kernel
theorem dX10_cell_37 : decode cX10_cell 37 = .ok (.ifCond .ne 6, 3) := by decide +kernel
theorem dX10_cell_40 : decode cX10_cell 40 = .ok (.bipush (-12), 2) := by decide +kernel
theorem dX10_cell_42 : decode cX10_cell 42 = .ok (.ireturn, 1) := by decide +kernel
theorem dX10_cell_43 : decode cX10_cell 43 = .ok (.aload_n 0, 1) := by decide +kernel
theorem dX10_cell_44 : decode cX10_cell 44 = .ok (.getfield 66, 3) := by decide +kernel
theorem dX10_cell_47 : decode cX10_cell 47 = .ok (.bipush 40, 2) := by decide +kernel
theorem dX10_cell_49 : decode cX10_cell 49 = .ok (.iload_n 1, 1) := by decide +kernel
theorem dX10_cell_50 : decode cX10_cell 50 = .ok (.imul, 1) := by decide +kernel
theorem dX10_cell_51 : decode cX10_cell 51 = .ok (.iload_n 2, 1) := by decide +kernel
theorem dX10_cell_52 : decode cX10_cell 52 = .ok (.iadd, 1) := by decide +kernel
theorem dX10_cell_53 : decode cX10_cell 53 = .ok (.aload_n 0, 1) := by decide +kernel
theorem dX10_cell_54 : decode cX10_cell 54 = .ok (.getfield 60, 3) := by decide +kernel
theorem dX10_cell_57 : decode cX10_cell 57 = .ok (.iload_n 1, 1) := by decide +kernel
theorem dX10_cell_58 : decode cX10_cell 58 = .ok (.iaload, 1) := by decide +kernel
theorem dX10_cell_59 : decode cX10_cell 59 = .ok (.ifCond .ne 8, 3) := by decide +kernel
theorem dX10_cell_62 : decode cX10_cell 62 = .ok (.iload_n 3, 1) := by decide +kernel
theorem dX10_cell_63 : decode cX10_cell 63 = .ok (.i2b, 1) := by decide +kernel
theorem dX10_cell_64 : decode cX10_cell 64 = .ok (.goto 19, 3) := by decide +kernel
theorem dX10_cell_67 : decode cX10_cell 67 = .ok (.aload_n 0, 1) := by decide +kernel
theorem dX10_cell_68 : decode cX10_cell 68 = .ok (.getfield 60, 3) := by decide +kernel
theorem dX10_cell_71 : decode cX10_cell 71 = .ok (.iload_n 1, 1) := by decide +kernel
theorem dX10_cell_72 : decode cX10_cell 72 = .ok (.iaload, 1) := by decide +kernel
theorem dX10_cell_73 : decode cX10_cell 73 = .ok (.iconst 1, 1) := by decide +kernel
theorem dX10_cell_74 : decode cX10_cell 74 = .ok (.if_icmp .ne 8, 3) := by decide +kernel
theorem dX10_cell_77 : decode cX10_cell 77 = .ok (.iload_n 3, 1) := by decide +kernel
theorem dX10_cell_78 : decode cX10_cell 78 = .ok (.i2s, 1) := by decide +kernel
theorem dX10_cell_79 : decode cX10_cell 79 = .ok (.goto 4, 3) := by decide +kernel
theorem dX10_cell_82 : decode cX10_cell 82 = .ok (.iload_n 3, 1) := by decide +kernel
theorem dX10_cell_83 : decode cX10_cell 83 = .ok (.iastore, 1) := by decide +kernel
theorem dX10_cell_84 : decode cX10_cell 84 = .ok (.iconst 1, 1) := by decide +kernel
theorem dX10_cell_85 : decode cX10_cell 85 = .ok (.ireturn, 1) := by decide +kernel
theorem dX10_copy_0 : decode cX10_copy 0 = .ok (.iload_n 1, 1) := by decide +kernel
theorem dX10_copy_1 : decode cX10_copy 1 = .ok (.invokestatic 323, 3) := by decide +kernel
theorem dX10_copy_4 : decode cX10_copy 4 = .ok (.ifCond .eq 10, 3) := by decide +kernel
theorem dX10_copy_7 : decode cX10_copy 7 = .ok (.iload_n 3, 1) := by decide +kernel
theorem dX10_copy_8 : decode cX10_copy 8 = .ok (.invokestatic 323, 3) := by decide +kernel
theorem dX10_copy_11 : decode cX10_copy 11 = .ok (.ifCond .ne 6, 3) := by decide +kernel
theorem dX10_copy_14 : decode cX10_copy 14 = .ok (.bipush (-2), 2) := by decide +kernel
theorem dX10_copy_16 : decode cX10_copy 16 = .ok (.ireturn, 1) := by decide +kernel
theorem dX10_copy_17 : decode cX10_copy 17 = .ok (.aload_n 0, 1) := by decide +kernel
theorem dX10_copy_18 : decode cX10_copy 18 = .ok (.getfield 56, 3) := by decide +kernel
theorem dX10_copy_21 : decode cX10_copy 21 = .ok (.iload_n 1, 1) := by decide +kernel
theorem dX10_copy_22 : decode cX10_copy 22 = .ok (.baload, 1) := by decide +kernel
theorem dX10_copy_23 : decode cX10_copy 23 = .ok (.ifCond .eq 12, 3) := by decide +kernel
theorem dX10_copy_26 : decode cX10_copy 26 = .ok (.aload_n 0, 1) := by decide +kernel
theorem dX10_copy_27 : decode cX10_copy 27 = .ok (.getfield 56, 3) := by decide +kernel
theorem dX10_copy_30 : decode cX10_copy 30 = .ok (.iload_n 3, 1) := by decide +kernel
theorem dX10_copy_31 : decode cX10_copy 31 = .ok (.baload, 1) := by decide +kernel
theorem dX10_copy_32 : decode cX10_copy 32 = .ok (.ifCond .ne 6, 3) := by decide +kernel
theorem dX10_copy_35 : decode cX10_copy 35 = .ok (.bipush (-11), 2) := by decide +kernel
theorem dX10_copy_37 : decode cX10_copy 37 = .ok (.ireturn, 1) := by decide +kernel
theorem dX10_copy_38 : decode cX10_copy 38 = .ok (.aload_n 0, 1) := by decide +kernel
theorem dX10_copy_39 : decode cX10_copy 39 = .ok (.getfield 60, 3) := by decide +kernel
theorem dX10_copy_42 : decode cX10_copy 42 = .ok (.iload_n 1, 1) := by decide +kernel
theorem dX10_copy_43 : decode cX10_copy 43 = .ok (.iaload, 1) := by decide +kernel
theorem dX10_copy_44 : decode cX10_copy 44 = .ok (.aload_n 0, 1) := by decide +kernel
theorem dX10_copy_45 : decode cX10_copy 45 = .ok (.getfield 60, 3) := by decide +kernel
theorem dX10_copy_48 : decode cX10_copy 48 = .ok (.iload_n 3, 1) := by decide +kernel
theorem dX10_copy_49 : decode cX10_copy 49 = .ok (.iaload, 1) := by decide +kernel
theorem dX10_copy_50 : decode cX10_copy 50 = .ok (.if_icmp .eq 6, 3) := by decide +kernel
theorem dX10_copy_53 : decode cX10_copy 53 = .ok (.bipush (-13), 2) := by decide +kernel
theorem dX10_copy_55 : decode cX10_copy 55 = .ok (.ireturn, 1) := by decide +kernel
theorem dX10_copy_56 : decode cX10_copy 56 = .ok (.iload 5, 2) := by decide +kernel
theorem dX10_copy_58 : decode cX10_copy 58 = .ok (.ifCond .lt 39, 3) := by decide +kernel
theorem dX10_copy_61 : decode cX10_copy 61 = .ok (.iload_n 2, 1) := by decide +kernel
theorem dX10_copy_62 : decode cX10_copy 62 = .ok (.ifCond .lt 35, 3) := by decide +kernel
theorem dX10_copy_65 : decode cX10_copy 65 = .ok (.iload 4, 2) := by decide +kernel
theorem dX10_copy_67 : decode cX10_copy 67 = .ok (.ifCond .lt 30, 3) := by decide +kernel
theorem dX10_copy_70 : decode cX10_copy 70 = .ok (.iload_n 2, 1) := by decide +kernel
theorem dX10_copy_71 : decode cX10_copy 71 = .ok (.aload_n 0, 1) := by decide +kernel
theorem dX10_copy_72 : decode cX10_copy 72 = .ok (.getfield 63, 3) := by decide +kernel
theorem dX10_copy_75 : decode cX10_copy 75 = .ok (.iload_n 1, 1) := by decide +kernel
theorem dX10_copy_76 : decode cX10_copy 76 = .ok (.iaload, 1) := by decide +kernel
theorem dX10_copy_77 : decode cX10_copy 77 = .ok (.iload 5, 2) := by decide +kernel
theorem dX10_copy_79 : decode cX10_copy 79 = .ok (.isub, 1) := by decide +kernel
theorem dX10_copy_80 : decode cX10_copy 80 = .ok (.if_icmp .gt 17, 3) := by decide +kernel
theorem dX10_copy_83 : decode cX10_copy 83 = .ok (.iload 4, 2) := by decide +kernel
theorem dX10_copy_85 : decode cX10_copy 85 = .ok (.aload_n 0, 1) := by decide +kernel
theorem dX10_copy_86 : decode cX10_copy 86 = .ok (.getfield 63, 3) := by decide +kernel
theorem dX10_copy_89 : decode cX10_copy 89 = .ok (.iload_n 3, 1) := by decide +kernel
theorem dX10_copy_90 : decode cX10_copy 90 = .ok (.iaload, 1) := by decide +kernel
theorem dX10_copy_91 : decode cX10_copy 91 = .ok (.iload 5, 2) := by decide +kernel
theorem dX10_copy_93 : decode cX10_copy 93 = .ok (.isub, 1) := by decide +kernel
theorem dX10_copy_94 : decode cX10_copy 94 = .ok (.if_icmp .le 6, 3) := by decide +kernel
theorem dX10_copy_97 : decode cX10_copy 97 = .ok (.bipush (-12), 2) := by decide +kernel
theorem dX10_copy_99 : decode cX10_copy 99 = .ok (.ireturn, 1) := by decide +kernel
theorem dX10_copy_100 : decode cX10_copy 100 = .ok (.iload_n 1, 1) := by decide +kernel
theorem dX10_copy_101 : decode cX10_copy 101 = .ok (.iload_n 3, 1) := by decide +kernel
theorem dX10_copy_102 : decode cX10_copy 102 = .ok (.if_icmp .ne 13, 3) := by decide +kernel
theorem dX10_copy_105 : decode cX10_copy 105 = .ok (.iload_n 2, 1) := by decide +kernel
theorem dX10_copy_106 : decode cX10_copy 106 = .ok (.iload 4, 2) := by decide +kernel
theorem dX10_copy_108 : decode cX10_copy 108 = .ok (.if_icmp .ge 7, 3) := by decide +kernel
theorem dX10_copy_111 : decode cX10_copy 111 = .ok (.iconst 1, 1) := by decide +kernel
theorem dX10_copy_112 : decode cX10_copy 112 = .ok (.goto 4, 3) := by decide +kernel
theorem dX10_copy_115 : decode cX10_copy 115 = .ok (.iconst 0, 1) := by decide +kernel
theorem dX10_copy_116 : decode cX10_copy 116 = .ok (.istore 6, 2) := by decide +kernel
theorem dX10_copy_118 : decode cX10_copy 118 = .ok (.iconst 0, 1) := by decide +kernel
theorem dX10_copy_119 : decode cX10_copy 119 = .ok (.istore 7, 2) := by decide +kernel
theorem dX10_copy_121 : decode cX10_copy 121 = .ok (.iload 7, 2) := by decide +kernel
theorem dX10_copy_123 : decode cX10_copy 123 = .ok (.iload 5, 2) := by decide +kernel
theorem dX10_copy_125 : decode cX10_copy 125 = .ok (.if_icmp .ge 57, 3) := by decide +kernel
theorem dX10_copy_128 : decode cX10_copy 128 = .ok (.iload 6, 2) := by decide +kernel
theorem dX10_copy_130 : decode cX10_copy 130 = .ok (.ifCond .eq 13, 3) := by decide +kernel
theorem dX10_copy_133 : decode cX10_copy 133 = .ok (.iload 5, 2) := by decide +kernel
theorem dX10_copy_135 : decode cX10_copy 135 = .ok (.iconst 1, 1) := by decide +kernel
theorem dX10_copy_136 : decode cX10_copy 136 = .ok (.isub, 1) := by decide +kernel
theorem dX10_copy_137 : decode cX10_copy 137 = .ok (.iload 7, 2) := by decide +kernel
theorem dX10_copy_139 : decode cX10_copy 139 = .ok (.isub, 1) := by decide +kernel
theorem dX10_copy_140 : decode cX10_copy 140 = .ok (.goto 5, 3) := by decide +kernel
theorem dX10_copy_143 : decode cX10_copy 143 = .ok (.iload 7, 2) := by decide +kernel
theorem dX10_copy_145 : decode cX10_copy 145 = .ok (.istore 8, 2) := by decide +kernel
theorem dX10_copy_147 : decode cX10_copy 147 = .ok (.aload_n 0, 1) := by decide +kernel
theorem dX10_copy_148 : decode cX10_copy 148 = .ok (.getfield 66, 3) := by decide +kernel
theorem dX10_copy_151 : decode cX10_copy 151 = .ok (.bipush 40, 2) := by decide +kernel
theorem dX10_copy_153 : decode cX10_copy 153 = .ok (.iload_n 3, 1) := by decide +kernel
theorem dX10_copy_154 : decode cX10_copy 154 = .ok (.imul, 1) := by decide +kernel
theorem dX10_copy_155 : decode cX10_copy 155 = .ok (.iload 4, 2) := by decide +kernel
theorem dX10_copy_157 : decode cX10_copy 157 = .ok (.iadd, 1) := by decide +kernel
theorem dX10_copy_158 : decode cX10_copy 158 = .ok (.iload 8, 2) := by decide +kernel
theorem dX10_copy_160 : decode cX10_copy 160 = .ok (.iadd, 1) := by decide +kernel
theorem dX10_copy_161 : decode cX10_copy 161 = .ok (.aload_n 0, 1) := by decide +kernel
theorem dX10_copy_162 : decode cX10_copy 162 = .ok (.getfield 66, 3) := by decide +kernel
theorem dX10_copy_165 : decode cX10_copy 165 = .ok (.bipush 40, 2) := by decide +kernel
theorem dX10_copy_167 : decode cX10_copy 167 = .ok (.iload_n 1, 1) := by decide +kernel
theorem dX10_copy_168 : decode cX10_copy 168 = .ok (.imul, 1) := by decide +kernel
theorem dX10_copy_169 : decode cX10_copy 169 = .ok (.iload_n 2, 1) := by decide +kernel
theorem dX10_copy_170 : decode cX10_copy 170 = .ok (.iadd, 1) := by decide +kernel
theorem dX10_copy_171 : decode cX10_copy 171 = .ok (.iload 8, 2) := by decide +kernel
theorem dX10_copy_173 : decode cX10_copy 173 = .ok (.iadd, 1) := by decide +kernel
theorem dX10_copy_174 : decode cX10_copy 174 = .ok (.iaload, 1) := by decide +kernel
theorem dX10_copy_175 : decode cX10_copy 175 = .ok (.iastore, 1) := by decide +kernel
theorem dX10_copy_176 : decode cX10_copy 176 = .ok (.iinc 7 1, 3) := by decide +kernel
theorem dX10_copy_179 : decode cX10_copy 179 = .ok (.goto (-58), 3) := by decide +kernel
theorem dX10_copy_182 : decode cX10_copy 182 = .ok (.iload 5, 2) := by decide +kernel
theorem dX10_copy_184 : decode cX10_copy 184 = .ok (.ireturn, 1) := by decide +kernel
theorem dX10_grooms_0 : decode cX10_grooms 0 = .ok (.iload_n 1, 1) := by decide +kernel
theorem dX10_grooms_1 : decode cX10_grooms 1 = .ok (.invokestatic 323, 3) := by decide +kernel
theorem dX10_grooms_4 : decode cX10_grooms 4 = .ok (.ifCond .eq 28, 3) := by decide +kernel
theorem dX10_grooms_7 : decode cX10_grooms 7 = .ok (.iload_n 2, 1) := by decide +kernel
theorem dX10_grooms_8 : decode cX10_grooms 8 = .ok (.i2l, 1) := by decide +kernel
theorem dX10_grooms_9 : decode cX10_grooms 9 = .ok (.lconst 0, 1) := by decide +kernel
theorem dX10_grooms_10 : decode cX10_grooms 10 = .ok (.ldc2_w 363, 3) := by decide +kernel
theorem dX10_grooms_13 : decode cX10_grooms 13 = .ok (.invokestatic 79, 3) := by decide +kernel
theorem dX10_grooms_16 : decode cX10_grooms 16 = .ok (.ifCond .eq 16, 3) := by decide +kernel
theorem dX10_grooms_19 : decode cX10_grooms 19 = .ok (.iload 4, 2) := by decide +kernel
theorem dX10_grooms_21 : decode cX10_grooms 21 = .ok (.i2l, 1) := by decide +kernel
theorem dX10_grooms_22 : decode cX10_grooms 22 = .ok (.lconst 0, 1) := by decide +kernel
theorem dX10_grooms_23 : decode cX10_grooms 23 = .ok (.ldc2_w 365, 3) := by decide +kernel
theorem dX10_grooms_26 : decode cX10_grooms 26 = .ok (.invokestatic 79, 3) := by decide +kernel
theorem dX10_grooms_29 : decode cX10_grooms 29 = .ok (.ifCond .ne 6, 3) := by decide +kernel
theorem dX10_grooms_32 : decode cX10_grooms 32 = .ok (.bipush (-2), 2) := by decide +kernel
theorem dX10_grooms_34 : decode cX10_grooms 34 = .ok (.ireturn, 1) := by decide +kernel
theorem dX10_grooms_35 : decode cX10_grooms 35 = .ok (.aload_n 0, 1) := by decide +kernel
theorem dX10_grooms_36 : decode cX10_grooms 36 = .ok (.getfield 56, 3) := by decide +kernel
theorem dX10_grooms_39 : decode cX10_grooms 39 = .ok (.iload_n 1, 1) := by decide +kernel
theorem dX10_grooms_40 : decode cX10_grooms 40 = .ok (.baload, 1) := by decide +kernel
theorem dX10_grooms_41 : decode cX10_grooms 41 = .ok (.ifCond .eq 16, 3) := by decide +kernel
theorem dX10_grooms_44 : decode cX10_grooms 44 = .ok (.aload_n 0, 1) := by decide +kernel
theorem dX10_grooms_45 : decode cX10_grooms 45 = .ok (.getfield 60, 3) := by decide +kernel
theorem dX10_grooms_48 : decode cX10_grooms 48 = .ok (.iload_n 1, 1) := by decide +kernel
theorem dX10_grooms_49 : decode cX10_grooms 49 = .ok (.iaload, 1) := by decide +kernel
theorem dX10_grooms_50 : decode cX10_grooms 50 = .ok (.iload_n 2, 1) := by decide +kernel
theorem dX10_grooms_51 : decode cX10_grooms 51 = .ok (.if_icmp .eq 6, 3) := by decide +kernel
theorem dX10_grooms_54 : decode cX10_grooms 54 = .ok (.bipush (-13), 2) := by decide +kernel
theorem dX10_grooms_56 : decode cX10_grooms 56 = .ok (.ireturn, 1) := by decide +kernel
theorem dX10_grooms_57 : decode cX10_grooms 57 = .ok (.aload_n 0, 1) := by decide +kernel
theorem dX10_grooms_58 : decode cX10_grooms 58 = .ok (.getfield 56, 3) := by decide +kernel
theorem dX10_grooms_61 : decode cX10_grooms 61 = .ok (.iload_n 1, 1) := by decide +kernel
theorem dX10_grooms_62 : decode cX10_grooms 62 = .ok (.baload, 1) := by decide +kernel
theorem dX10_grooms_63 : decode cX10_grooms 63 = .ok (.ifCond .ne 6, 3) := by decide +kernel
theorem dX10_grooms_66 : decode cX10_grooms 66 = .ok (.bipush (-11), 2) := by decide +kernel
theorem dX10_grooms_68 : decode cX10_grooms 68 = .ok (.ireturn, 1) := by decide +kernel
theorem dX10_grooms_69 : decode cX10_grooms 69 = .ok (.iconst 0, 1) := by decide +kernel
theorem dX10_grooms_70 : decode cX10_grooms 70 = .ok (.istore 5, 2) := by decide +kernel
theorem dX10_grooms_72 : decode cX10_grooms 72 = .ok (.iconst 0, 1) := by decide +kernel
theorem dX10_grooms_73 : decode cX10_grooms 73 = .ok (.istore 6, 2) := by decide +kernel
theorem dX10_grooms_75 : decode cX10_grooms 75 = .ok (.iload 6, 2) := by decide +kernel
theorem dX10_grooms_77 : decode cX10_grooms 77 = .ok (.iload 4, 2) := by decide +kernel
theorem dX10_grooms_79 : decode cX10_grooms 79 = .ok (.if_icmp .ge 88, 3) := by decide +kernel
theorem dX10_grooms_82 : decode cX10_grooms 82 = .ok (.iload_n 3, 1) := by decide +kernel
theorem dX10_grooms_83 : decode cX10_grooms 83 = .ok (.ifCond .lt 20, 3) := by decide +kernel
theorem dX10_grooms_86 : decode cX10_grooms 86 = .ok (.iload_n 3, 1) := by decide +kernel
theorem dX10_grooms_87 : decode cX10_grooms 87 = .ok (.aload_n 0, 1) := by decide +kernel
theorem dX10_grooms_88 : decode cX10_grooms 88 = .ok (.getfield 63, 3) := by decide +kernel
theorem dX10_grooms_91 : decode cX10_grooms 91 = .ok (.iload_n 1, 1) := by decide +kernel
theorem dX10_grooms_92 : decode cX10_grooms 92 = .ok (.iaload, 1) := by decide +kernel
theorem dX10_grooms_93 : decode cX10_grooms 93 = .ok (.iconst 3, 1) := by decide +kernel
theorem dX10_grooms_94 : decode cX10_grooms 94 = .ok (.iload 6, 2) := by decide +kernel
theorem dX10_grooms_96 : decode cX10_grooms 96 = .ok (.imul, 1) := by decide +kernel
theorem dX10_grooms_97 : decode cX10_grooms 97 = .ok (.isub, 1) := by decide +kernel
theorem dX10_grooms_98 : decode cX10_grooms 98 = .ok (.iconst 3, 1) := by decide +kernel
theorem dX10_grooms_99 : decode cX10_grooms 99 = .ok (.isub, 1) := by decide +kernel
theorem dX10_grooms_100 : decode cX10_grooms 100 = .ok (.if_icmp .le 6, 3) := by decide +kernel
theorem dX10_grooms_103 : decode cX10_grooms 103 = .ok (.bipush (-12), 2) := by decide +kernel
theorem dX10_grooms_105 : decode cX10_grooms 105 = .ok (.ireturn, 1) := by decide +kernel
theorem dX10_grooms_106 : decode cX10_grooms 106 = .ok (.bipush 40, 2) := by decide +kernel
theorem dX10_grooms_108 : decode cX10_grooms 108 = .ok (.iload_n 1, 1) := by decide +kernel
theorem dX10_grooms_109 : decode cX10_grooms 109 = .ok (.imul, 1) := by decide +kernel
theorem dX10_grooms_110 : decode cX10_grooms 110 = .ok (.iload_n 3, 1) := by decide +kernel
theorem dX10_grooms_111 : decode cX10_grooms 111 = .ok (.iadd, 1) := by decide +kernel
theorem dX10_grooms_112 : decode cX10_grooms 112 = .ok (.iconst 3, 1) := by decide +kernel
theorem dX10_grooms_113 : decode cX10_grooms 113 = .ok (.iload 6, 2) := by decide +kernel
theorem dX10_grooms_115 : decode cX10_grooms 115 = .ok (.imul, 1) := by decide +kernel
theorem dX10_grooms_116 : decode cX10_grooms 116 = .ok (.iadd, 1) := by decide +kernel
theorem dX10_grooms_117 : decode cX10_grooms 117 = .ok (.istore 7, 2) := by decide +kernel
theorem dX10_grooms_119 : decode cX10_grooms 119 = .ok (.iload 5, 2) := by decide +kernel
theorem dX10_grooms_121 : decode cX10_grooms 121 = .ok (.aload_n 0, 1) := by decide +kernel
theorem dX10_grooms_122 : decode cX10_grooms 122 = .ok (.aload_n 0, 1) := by decide +kernel
theorem dX10_grooms_123 : decode cX10_grooms 123 = .ok (.getfield 66, 3) := by decide +kernel
theorem dX10_grooms_126 : decode cX10_grooms 126 = .ok (.iload 7, 2) := by decide +kernel
theorem dX10_grooms_128 : decode cX10_grooms 128 = .ok (.iaload, 1) := by decide +kernel
theorem dX10_grooms_129 : decode cX10_grooms 129 = .ok (.aload_n 0, 1) := by decide +kernel
theorem dX10_grooms_130 : decode cX10_grooms 130 = .ok (.getfield 66, 3) := by decide +kernel
theorem dX10_grooms_133 : decode cX10_grooms 133 = .ok (.iload 7, 2) := by decide +kernel
theorem dX10_grooms_135 : decode cX10_grooms 135 = .ok (.iconst 1, 1) := by decide +kernel
theorem dX10_grooms_136 : decode cX10_grooms 136 = .ok (.iadd, 1) := by decide +kernel
theorem dX10_grooms_137 : decode cX10_grooms 137 = .ok (.iaload, 1) := by decide +kernel
theorem dX10_grooms_138 : decode cX10_grooms 138 = .ok (.aload_n 0, 1) := by decide +kernel
theorem dX10_grooms_139 : decode cX10_grooms 139 = .ok (.getfield 66, 3) := by decide +kernel
theorem dX10_grooms_142 : decode cX10_grooms 142 = .ok (.iload 7, 2) := by decide +kernel
theorem dX10_grooms_144 : decode cX10_grooms 144 = .ok (.iconst 2, 1) := by decide +kernel
theorem dX10_grooms_145 : decode cX10_grooms 145 = .ok (.iadd, 1) := by decide +kernel
theorem dX10_grooms_146 : decode cX10_grooms 146 = .ok (.iaload, 1) := by decide +kernel
theorem dX10_grooms_147 : decode cX10_grooms 147 = .ok (.invokevirtual 367, 3) := by decide +kernel
theorem dX10_grooms_150 : decode cX10_grooms 150 = .ok (.ifCond .lt 7, 3) := by decide +kernel
theorem dX10_grooms_153 : decode cX10_grooms 153 = .ok (.iconst 1, 1) := by decide +kernel
theorem dX10_grooms_154 : decode cX10_grooms 154 = .ok (.goto 4, 3) := by decide +kernel
theorem dX10_grooms_157 : decode cX10_grooms 157 = .ok (.iconst 0, 1) := by decide +kernel
theorem dX10_grooms_158 : decode cX10_grooms 158 = .ok (.iadd, 1) := by decide +kernel
theorem dX10_grooms_159 : decode cX10_grooms 159 = .ok (.istore 5, 2) := by decide +kernel
theorem dX10_grooms_161 : decode cX10_grooms 161 = .ok (.iinc 6 1, 3) := by decide +kernel
theorem dX10_grooms_164 : decode cX10_grooms 164 = .ok (.goto (-89), 3) := by decide +kernel
theorem dX10_grooms_167 : decode cX10_grooms 167 = .ok (.iload 5, 2) := by decide +kernel
theorem dX10_grooms_169 : decode cX10_grooms 169 = .ok (.ireturn, 1) := by decide +kernel
theorem dX10_over_0 : decode cX10_over 0 = .ok (.iload_n 0, 1) := by decide +kernel
theorem dX10_over_1 : decode cX10_over 1 = .ok (.ifCond .ne 7, 3) := by decide +kernel
theorem dX10_over_4 : decode cX10_over 4 = .ok (.iconst (-1), 1) := by decide +kernel
theorem dX10_over_5 : decode cX10_over 5 = .ok (.goto 22, 3) := by decide +kernel
theorem dX10_over_8 : decode cX10_over 8 = .ok (.iload_n 0, 1) := by decide +kernel
theorem dX10_over_9 : decode cX10_over 9 = .ok (.iconst 3, 1) := by decide +kernel
theorem dX10_over_10 : decode cX10_over 10 = .ok (.if_icmp .ne 7, 3) := by decide +kernel
theorem dX10_over_13 : decode cX10_over 13 = .ok (.iconst 1, 1) := by decide +kernel
theorem dX10_over_14 : decode cX10_over 14 = .ok (.goto 13, 3) := by decide +kernel
theorem dX10_over_17 : decode cX10_over 17 = .ok (.iload_n 0, 1) := by decide +kernel
theorem dX10_over_18 : decode cX10_over 18 = .ok (.iconst 4, 1) := by decide +kernel
theorem dX10_over_19 : decode cX10_over 19 = .ok (.if_icmp .ne 7, 3) := by decide +kernel
theorem dX10_over_22 : decode cX10_over 22 = .ok (.iconst 2, 1) := by decide +kernel
theorem dX10_over_23 : decode cX10_over 23 = .ok (.goto 4, 3) := by decide +kernel
theorem dX10_over_26 : decode cX10_over 26 = .ok (.iconst 0, 1) := by decide +kernel
theorem dX10_over_27 : decode cX10_over 27 = .ok (.ireturn, 1) := by decide +kernel
theorem dX10_taken_0 : decode cX10_taken 0 = .ok (.iload_n 2, 1) := by decide +kernel
theorem dX10_taken_1 : decode cX10_taken 1 = .ok (.i2l, 1) := by decide +kernel
theorem dX10_taken_2 : decode cX10_taken 2 = .ok (.lconst 0, 1) := by decide +kernel
theorem dX10_taken_3 : decode cX10_taken 3 = .ok (.ldc2_w 107, 3) := by decide +kernel
theorem dX10_taken_6 : decode cX10_taken 6 = .ok (.invokestatic 79, 3) := by decide +kernel
theorem dX10_taken_9 : decode cX10_taken 9 = .ok (.ifCond .ne 6, 3) := by decide +kernel
theorem dX10_taken_12 : decode cX10_taken 12 = .ok (.bipush (-2), 2) := by decide +kernel
theorem dX10_taken_14 : decode cX10_taken 14 = .ok (.ireturn, 1) := by decide +kernel
theorem dX10_taken_15 : decode cX10_taken 15 = .ok (.aload_n 0, 1) := by decide +kernel
theorem dX10_taken_16 : decode cX10_taken 16 = .ok (.iload_n 1, 1) := by decide +kernel
theorem dX10_taken_17 : decode cX10_taken 17 = .ok (.invokevirtual 85, 3) := by decide +kernel
theorem dX10_taken_20 : decode cX10_taken 20 = .ok (.ifCond .ne 6, 3) := by decide +kernel
theorem dX10_taken_23 : decode cX10_taken 23 = .ok (.bipush (-11), 2) := by decide +kernel
theorem dX10_taken_25 : decode cX10_taken 25 = .ok (.ireturn, 1) := by decide +kernel
theorem dX10_taken_26 : decode cX10_taken 26 = .ok (.aload_n 0, 1) := by decide +kernel
theorem dX10_taken_27 : decode cX10_taken 27 = .ok (.getfield 26, 3) := by decide +kernel
theorem dX10_taken_30 : decode cX10_taken 30 = .ok (.iload_n 1, 1) := by decide +kernel
theorem dX10_taken_31 : decode cX10_taken 31 = .ok (.iaload, 1) := by decide +kernel
theorem dX10_taken_32 : decode cX10_taken 32 = .ok (.istore_n 3, 1) := by decide +kernel
theorem dX10_taken_33 : decode cX10_taken 33 = .ok (.iload_n 3, 1) := by decide +kernel
theorem dX10_taken_34 : decode cX10_taken 34 = .ok (.iconst (-1), 1) := by decide +kernel
theorem dX10_taken_35 : decode cX10_taken 35 = .ok (.if_icmp .eq 16, 3) := by decide +kernel
theorem dX10_taken_38 : decode cX10_taken 38 = .ok (.iload_n 3, 1) := by decide +kernel
theorem dX10_taken_39 : decode cX10_taken 39 = .ok (.iload_n 2, 1) := by decide +kernel
theorem dX10_taken_40 : decode cX10_taken 40 = .ok (.if_icmp .eq 11, 3) := by decide +kernel
theorem dX10_taken_43 : decode cX10_taken 43 = .ok (.iload_n 3, 1) := by decide +kernel
theorem dX10_taken_44 : decode cX10_taken 44 = .ok (.invokestatic 370, 3) := by decide +kernel
theorem dX10_taken_47 : decode cX10_taken 47 = .ok (.istore_n 3, 1) := by decide +kernel
theorem dX10_taken_48 : decode cX10_taken 48 = .ok (.goto (-15), 3) := by decide +kernel
theorem dX10_taken_51 : decode cX10_taken 51 = .ok (.iload_n 3, 1) := by decide +kernel
theorem dX10_taken_52 : decode cX10_taken 52 = .ok (.iload_n 2, 1) := by decide +kernel
theorem dX10_taken_53 : decode cX10_taken 53 = .ok (.if_icmp .ne 14, 3) := by decide +kernel
theorem dX10_taken_56 : decode cX10_taken 56 = .ok (.aload_n 0, 1) := by decide +kernel
theorem dX10_taken_57 : decode cX10_taken 57 = .ok (.getfield 29, 3) := by decide +kernel
theorem dX10_taken_60 : decode cX10_taken 60 = .ok (.iconst 3, 1) := by decide +kernel
theorem dX10_taken_61 : decode cX10_taken 61 = .ok (.iload_n 1, 1) := by decide +kernel
theorem dX10_taken_62 : decode cX10_taken 62 = .ok (.imul, 1) := by decide +kernel
theorem dX10_taken_63 : decode cX10_taken 63 = .ok (.iaload, 1) := by decide +kernel
theorem dX10_taken_64 : decode cX10_taken 64 = .ok (.goto 5, 3) := by decide +kernel
theorem dX10_taken_67 : decode cX10_taken 67 = .ok (.bipush (-13), 2) := by decide +kernel
theorem dX10_taken_69 : decode cX10_taken 69 = .ok (.ireturn, 1) := by decide +kernel
end
section
/-! ===== the texts ===== -/
abbrev nJS : Nat := 13
def ownJS (i : Nat) : String := (["SewnUp", "SewnUp$Tape", "SewnUp$Tape", "SewnUp$Tape", "SewnUp$Tape", "SewnUp$Tape", "SewnUp$Tape", "SewnUp$Tape", "SewnUp$Tape", "SewnUp$Tape", "SewnUp$Tape", "SewnUp$Tape", "SewnUp$Tape"] : List String).getD i ""
def idxJS (i : Nat) : Nat := ([82, 78, 80, 82, 84, 86, 88, 90, 92, 94, 96, 98, 100] : List Nat).getD i 0
def txJS (i : Nat) : String := (["heats 7 ; calms thing ; feels thing * 3 ;", "thing", "temper", "number", "day", "coat", "own", "heats", "calms", "feels", "or", "and", "not"] : List String).getD i ""
def lenJS : List Nat := [41, 5, 6, 6, 3, 4, 3, 5, 5, 5, 2, 3, 3]
def bytJS : List (List Int32) := [[104, 101, 97, 116, 115, 32, 55, 32, 59, 32, 99, 97, 108, 109, 115, 32, 116, 104, 105, 110, 103, 32, 59, 32, 102, 101, 101, 108, 115, 32, 116, 104, 105, 110, 103, 32, 42, 32, 51, 32, 59], [116, 104, 105, 110, 103], [116, 101, 109, 112, 101, 114], [110, 117, 109, 98, 101, 114], [100, 97, 121], [99, 111, 97, 116], [111, 119, 110], [104, 101, 97, 116, 115], [99, 97, 108, 109, 115], [102, 101, 101, 108, 115], [111, 114], [97, 110, 100], [110, 111, 116]]

/-! ===== the memory: family, which of it, place; and one long ===== -/
abbrev Mem : Type := (Nat → Nat → Nat → Int32) × Int64
def rd (μ : Mem) (f i j : Nat) : Int32 := μ.1 f i j
def up (μ : Mem) (f i j : Nat) (v : Int32) : Mem := (fun f' i' j' => if f' = f ∧ i' = i ∧ j' = j then v else μ.1 f' i' j', μ.2)
def rdL (μ : Mem) : Int64 := μ.2
def upL (μ : Mem) (w : Int64) : Mem := (μ.1, w)
/-- a row of places written at once, as System.arraycopy does -/
def cpyM (μ : Mem) (f i j i2 j2 n : Nat) : Mem := (fun f' i' k => if f' = f ∧ i' = i2 then va_cpy (μ.1 f i) (μ.1 f i2) j j2 n k else μ.1 f' i' k, μ.2)
abbrev ix (i : Int32) : Nat := i.toNatClampNeg
abbrev inb (i : Int32) (n : Nat) : Prop := ¬ (i < 0 ∨ n ≤ ix i)
def nm {α : Type} {β : Type} (e : α) (k : α → β) : β := k e
def chk {α : Type} (c : Prop) [Decidable c] (k : Option α) : Option α := if c then k else none
def bnd {α β : Type} (e : Option α) (k : α → Option β) : Option β := match e with | none => none | some x => k x
theorem nm_out {α β : Type} {e : α} {k : α → β} {z : β} (h : nm e k = z) : ∃ x, e = x ∧ k x = z := ⟨e, rfl, h⟩
theorem chk_out {α : Type} {c : Prop} [Decidable c] {k : Option α} {z : α} (h : chk c k = some z) : c ∧ k = some z := by
  unfold chk at h
  by_cases hc : c
  · rw [if_pos hc] at h; exact ⟨hc, h⟩
  · rw [if_neg hc] at h; cases h
theorem bnd_out {α β : Type} {e : Option α} {k : α → Option β} {z : β} (h : bnd e k = some z) : ∃ x, e = some x ∧ k x = some z := by
  cases e with
  | none => cases h
  | some x => exact ⟨x, rfl, h⟩
theorem t_out {α : Type} {c : Prop} [Decidable c] {a b z : α} (h : (if c then a else b) = z) (hc : c) : a = z := by rw [if_pos hc] at h; exact h
theorem f_out {α : Type} {c : Prop} [Decidable c] {a b z : α} (h : (if c then a else b) = z) (hc : ¬ c) : b = z := by rw [if_neg hc] at h; exact h
theorem r2_out {α β : Type} {a x : α} {b y : β} (h : some (a, b) = some (x, y)) : a = x ∧ b = y := by cases h; exact ⟨rfl, rfl⟩
theorem r1_out {α : Type} {a x : α} (h : some a = some x) : a = x := by cases h; rfl
theorem p2_out {α β : Type} {a x : α} {b y : β} (h : (a, b) = (x, y)) : a = x ∧ b = y := by cases h; exact ⟨rfl, rfl⟩
theorem up_row (μ : Mem) (f i k : Nat) (x : Int32) : (up μ f i k x).1 f i = upd (μ.1 f i) k x := by
  funext j
  simp [up, upd]
theorem up_off (μ : Mem) {f i k f' i' : Nat} (x : Int32) (h : ¬ (f' = f ∧ i' = i)) : (up μ f i k x).1 f' i' = μ.1 f' i' := by
  funext j
  simp only [up]
  rw [if_neg (fun q => h ⟨q.1, q.2.1⟩)]
abbrev vwCl : List vw_C := [(RX0, TX0, 5), (RX1, TX1, 5), (RX2, TX2, 10), (RX3, TX3, 4), (RX4, TX4, 5), (RX5, TX5, 3), (RX6, TX6, 6), (RX7, TX7, 3), (RX8, TX8, 4), (RX9, TX9, 12), (RX10, TX10, 50)]
/-! ===== the words, the same for all ===== -/
def lw_G : List Cond := lw_tbl.filter goodWord
theorem mG {w : Cond} (i : Nat) (h : lw_tbl[i]? = some w) (hg : goodWord w = true) : w ∈ lw_G := List.mem_filter.mpr ⟨List.mem_of_getElem? h, hg⟩
theorem lw_G_good : ∀ w ∈ lw_G, (w.onTables && w.keeps) = true ∨ ∃ ty, w = .arrayClass ty := fun _ h => good_of_word (List.mem_filter.mp h).2
/-! ===== the world ===== -/
/-- the cells of a world (family, which), and what stands in each -/
abbrev Wld : Type := List (Nat × Nat) × ((Nat → Nat → Nat) → (Nat → ClassId) → (Nat → Int32) → Int64 → Nat → Nat → va_E)
/-- where a run's cells lie: addresses, the classes, the array classes, the texts, the one static array -/
abbrev Glo : Type := (Nat → Nat → Nat) × va_G × (Nat → ClassId) × (Nat → Nat) × (Nat → Nat) × Nat
def wl (Ω : Wld) (G : Glo) (μ : Mem) : va_W := Ω.1.map (fun q => (G.1 q.1 q.2, Ω.2 G.1 G.2.2.1 (μ.1 q.1 q.2) μ.2 q.2 q.1))
def Aw (Ω : Wld) (G : Glo) : Nat → Prop := fun q => ∃ c, c ∈ Ω.1 ∧ q = G.1 c.1 c.2
def Apart (Ω : Wld) (G : Glo) : Prop := ∀ c ∈ Ω.1, ∀ c' ∈ Ω.1, G.1 c.1 c.2 = G.1 c'.1 c'.2 → c = c'
def tysOf (G : Glo) : List (ClassId × FieldType) := [(G.2.2.1 0, .int), (G.2.2.1 1, .boolean), (G.2.2.1 2, .object "SewnUp$Groom"), (G.2.2.1 3, .object "SewnUp$Text"), (G.2.2.1 4, .object "SewnUp$Sheet"), (G.2.2.1 5, .array .int)]
def Wd (Ω : Wld) (G : Glo) (μ : Mem) (H : Heap) : Prop := va_P G.2.1 vwCl (wl Ω G μ) H
theorem wl_get {Ω : Wld} {G : Glo} {μ : Mem} {f i : Nat} (hm : (f, i) ∈ Ω.1) : ∃ k : Nat, Ω.1[k]? = some (f, i) ∧ (wl Ω G μ)[k]? = some (G.1 f i, Ω.2 G.1 G.2.2.1 (μ.1 f i) μ.2 i f) := by
  obtain ⟨k, hk⟩ := List.getElem?_of_mem hm
  exact ⟨k, hk, by simp [wl, hk]⟩
theorem wl_D {Ω : Wld} {G : Glo} {μ : Mem} (hn : Ω.1.Nodup) (ha : Apart Ω G) : va_D (Aw Ω G) (wl Ω G μ) := by
  have key : ∀ (k : Nat) (q : Nat × va_E), (wl Ω G μ)[k]? = some q → ∃ c, Ω.1[k]? = some c ∧ q.1 = G.1 c.1 c.2 := by
    intro k q hk
    simp only [wl, List.getElem?_map] at hk
    cases hc : Ω.1[k]? with
    | none => rw [hc] at hk; cases hk
    | some c => rw [hc] at hk; cases hk; exact ⟨c, rfl, rfl⟩
  refine ⟨fun i j p q hi hj e => ?_, fun k q hk => ?_⟩
  · obtain ⟨c, h1, h2⟩ := key i p hi
    obtain ⟨c', h3, h4⟩ := key j q hj
    have hc := ha c (List.mem_of_getElem? h1) c' (List.mem_of_getElem? h3) (h2.symm.trans (e.trans h4))
    subst hc
    have l1 := (List.getElem?_eq_some_iff.mp h1).1
    exact (List.getElem?_inj l1 hn).mp (h1.trans h3.symm)
  · obtain ⟨c, h1, h2⟩ := key k q hk
    exact ⟨c, List.mem_of_getElem? h1, h2⟩
theorem wl_set {Ω : Wld} {G : Glo} {μ μ' : Mem} {f i k : Nat} {e : va_E} (hn : Ω.1.Nodup) (hk : Ω.1[k]? = some (f, i)) (he : Ω.2 G.1 G.2.2.1 (μ'.1 f i) μ'.2 i f = e) (ho : ∀ f' i' : Nat, (f', i') ∈ Ω.1 → (f', i') ≠ (f, i) → Ω.2 G.1 G.2.2.1 (μ'.1 f' i') μ'.2 i' f' = Ω.2 G.1 G.2.2.1 (μ.1 f' i') μ.2 i' f') : (wl Ω G μ).set k (G.1 f i, e) = wl Ω G μ' := by
  apply List.ext_getElem?
  intro j
  have hl := (List.getElem?_eq_some_iff.mp hk).1
  by_cases hj : j = k
  · subst hj
    rw [List.getElem?_set_self (by simpa [wl] using hl)]
    simp [wl, hk, he]
  · rw [List.getElem?_set_ne (Ne.symm hj)]
    simp only [wl, List.getElem?_map]
    cases hc : Ω.1[j]? with
    | none => rfl
    | some c =>
      obtain ⟨f', i'⟩ := c
      have hne : (f', i') ≠ (f, i) := fun q => hj ((List.getElem?_inj (List.getElem?_eq_some_iff.mp hc).1 hn).mp (hc.trans (by rw [q]; exact hk.symm)))
      simp only [Option.map_some]
      rw [ho f' i' (List.mem_of_getElem? hc) hne]
/-- what of the world is the same in every state of a run -/
def Cx (Ω : Wld) (G : Glo) (U : State) (H : Heap) : Prop :=
  va_K G.2.1 vwCl (tysOf G) U ∧ (Ω.1.Nodup ∧ Apart Ω G) ∧
  (va_Z "SewnUp" "UNDER" "[I" (.ref G.2.2.2.2.2) (Aw Ω G) U H ∧ va_T .int G.2.2.2.2.2 6 (fun j => .int (([-1, 0, 0, 1, 2, 0] : List Int32).getD j 0)) (Aw Ω G) U H) ∧
  (vk_S nJS lenJS bytJS G.2.2.2.1 G.2.2.2.2.1 (Aw Ω G) U H ∧ (∀ i : Nat, i < nJS → vk_R (ownJS i) (idxJS i) (txJS i) (G.2.2.2.1 i) U) ∧ va_Z "java/lang/String" "COMPACT_STRINGS" "Z" (.int 1) (Aw Ω G) U H) ∧
  va_Nw (.methodLinkNest "SewnUp$Man" 52 yX9_within "SewnUp") U
theorem Cx.calling {Ω : Wld} {G : Glo} {U : State} (g : JFrame) (mk : MethodId) (a : Array Value) (h : Cx Ω G U U.heap) : Cx Ω G (U.calling g mk a) (U.calling g mk a).heap := by
  obtain ⟨h1, h2, ⟨h3, h4⟩, ⟨h5, h6, h7⟩, h8⟩ := h
  have hv : U.vm.Alike (U.calling g mk a).vm := Vm.Alike.refl U.vm
  exact ⟨va_K.moved hv h1, h2, ⟨h3.moved hv, h4.moved hv⟩, ⟨h5.moved hv, fun i hi => (h6 i hi).same rfl, h7.moved hv⟩, h8.same rfl rfl⟩
theorem Cx.at {Ω : Wld} {G : Glo} {s U : State} {A : Nat → Prop} {H : Heap} {locs : List Loc} (h : Cx Ω G s s.heap) (hW : s.WarmedH U.vm) (hA : ∀ q, A q → Aw Ω G q) (hS : va_S A s.heap H locs) (hU : U.heap = H) : Cx Ω G U U.heap := by
  obtain ⟨h1, h2, ⟨h3, h4⟩, ⟨h5, h6, h7⟩, h8⟩ := h
  have hk : ∀ a : Nat, a < s.heap.size → ¬ Aw Ω G a → U.heap[a]? = s.heap[a]? := fun a l1 l2 => by rw [hU]; exact hS.2.1 a l1 (fun q => l2 (hA a q))
  exact ⟨va_K.moved hW.alike h1, h2, ⟨(h3.moved hW.alike).kept hk, (h4.moved hW.alike).kept hk⟩, ⟨(h5.moved hW.alike).kept hk, fun i hi => (h6 i hi).warm hW, (h7.moved hW.alike).kept hk⟩, va_Nw.warmM hW h8⟩
/-! ===== locals by place ===== -/
def hasL (a : Array Slot) (nL : Nat) (L : List (Option Value)) : Prop := a.size = nL ∧ lv_wf a ∧ ∀ (i : Nat) (v : Value), L[i]? = some (some v) → a[i]? = some (.val v)
def padS : List Value → List (Option Value)
  | [] => []
  | v :: vs => if v.category = 2 then some v :: none :: padS vs else some v :: padS vs
def padL (vs : List Value) (n : Nat) : List (Option Value) := padS vs ++ List.replicate (n - (padS vs).length) none
def alL : Nat → List (Option Value) → List (Nat × Value)
  | _, [] => []
  | k, none :: r => alL (k + 1) r
  | k, some v :: r => (k, v) :: alL (k + 1) r
theorem alL_mem : ∀ (L : List (Option Value)) (k : Nat) (q : Nat × Value), q ∈ alL k L ↔ ∃ i, L[i]? = some (some q.2) ∧ q.1 = k + i := by
  intro L
  induction L with
  | nil => intro k q; simp [alL]
  | cons o L ih =>
    intro k q
    cases o with
    | none =>
      rw [alL, ih]
      constructor
      · rintro ⟨i, h1, h2⟩
        exact ⟨i + 1, by simpa using h1, by omega⟩
      · rintro ⟨i, h1, h2⟩
        cases i with
        | zero => simp at h1
        | succ i => exact ⟨i, by simpa using h1, by omega⟩
    | some v =>
      rw [alL, List.mem_cons, ih]
      constructor
      · rintro (rfl | ⟨i, h1, h2⟩)
        · exact ⟨0, rfl, rfl⟩
        · exact ⟨i + 1, by simpa using h1, by omega⟩
      · rintro ⟨i, h1, h2⟩
        cases i with
        | zero =>
          refine Or.inl ?_
          simp at h1
          obtain ⟨a, b⟩ := q
          simp at h1 h2
          rw [h1, h2]
        | succ i => exact Or.inr ⟨i, by simpa using h1, by omega⟩
theorem hasL_lv {a : Array Slot} {nL : Nat} {L : List (Option Value)} (h : hasL a nL L) : lv_has a nL (alL 0 L) := by
  refine ⟨h.1, h.2.1, fun q hq => ?_⟩
  obtain ⟨i, h1, h2⟩ := (alL_mem L 0 q).mp hq
  rw [h2, Nat.zero_add]
  exact h.2.2 i q.2 h1
theorem hasL_mono {a : Array Slot} {nL : Nat} {L L' : List (Option Value)} (h : hasL a nL L) (hm : ∀ (i : Nat) (v : Value), L'[i]? = some (some v) → L[i]? = some (some v)) : hasL a nL L' := ⟨h.1, h.2.1, fun i v q => h.2.2 i v (hm i v q)⟩
/-- only the masked places stay -/
def mskL : List (Option Value) → List Bool → List (Option Value)
  | [], _ => []
  | _ :: _, [] => []
  | o :: r, b :: bs => (if b then o else none) :: mskL r bs
theorem mskL_le : ∀ (L : List (Option Value)) (bs : List Bool) (i : Nat) (v : Value), (mskL L bs)[i]? = some (some v) → L[i]? = some (some v) := by
  intro L
  induction L with
  | nil => intro bs i v h; simp [mskL] at h
  | cons o L ih =>
    intro bs i v h
    cases bs with
    | nil => simp [mskL] at h
    | cons b bs =>
      cases i with
      | zero =>
        cases b <;> simp [mskL] at h ⊢
        exact h
      | succ i => simpa using ih bs i v (by simpa [mskL] using h)
/-- the place ahead holds no long -/
def okS (L : List (Option Value)) (i : Nat) : Bool := match i with
  | 0 => true
  | k + 1 => match L[k]? with
    | some (some v) => v.category == 1
    | _ => true
theorem hasL_set1 {a a' : Array Slot} {nL i : Nat} {L : List (Option Value)} {v : Value} (ho : okS L i = true) (h : lv_has a' nL ((i, v) :: (alL 0 L).filter (fun q => !(q.1 == i) && !(q.1 + 1 == i && q.2.category == 2)))) : hasL a' nL (L.set i (some v)) := by
  refine ⟨h.1, h.2.1, fun j x hj => ?_⟩
  by_cases e : j = i
  · subst e
    have hl : j < L.length := by
      have := (List.getElem?_eq_some_iff.mp hj).1
      simpa using this
    rw [List.getElem?_set_self hl] at hj
    cases hj
    exact h.2.2 (j, v) List.mem_cons_self
  · rw [List.getElem?_set_ne (Ne.symm e)] at hj
    refine h.2.2 (j, x) (List.mem_cons_of_mem _ (List.mem_filter.mpr ⟨(alL_mem L 0 (j, x)).mpr ⟨j, hj, by simp⟩, ?_⟩))
    by_cases e2 : j + 1 = i
    · subst e2
      simp only [okS, hj] at ho
      have hc : x.category = 1 := by simpa using ho
      simp [hc]
    · simp [e, e2]
theorem hasL_set2 {a a' : Array Slot} {nL i : Nat} {L : List (Option Value)} {v : Value} (ho : okS L i = true) (h : lv_has a' nL ((i, v) :: (alL 0 L).filter (fun q => !(q.1 == i) && (!(q.1 == i + 1) && !(q.1 + 1 == i && q.2.category == 2))))) : hasL a' nL ((L.set i (some v)).set (i + 1) none) := by
  refine ⟨h.1, h.2.1, fun j x hj => ?_⟩
  by_cases e1 : j = i + 1
  · subst e1
    have hl : i + 1 < ((L.set i (some v)).set (i + 1) none).length := (List.getElem?_eq_some_iff.mp hj).1
    rw [List.getElem?_set_self (by simpa using hl)] at hj
    cases hj
  · rw [List.getElem?_set_ne (Ne.symm e1)] at hj
    by_cases e : j = i
    · subst e
      have hl : j < L.length := by
        have := (List.getElem?_eq_some_iff.mp hj).1
        simpa using this
      rw [List.getElem?_set_self hl] at hj
      cases hj
      exact h.2.2 (j, v) List.mem_cons_self
    · rw [List.getElem?_set_ne (Ne.symm e)] at hj
      refine h.2.2 (j, x) (List.mem_cons_of_mem _ (List.mem_filter.mpr ⟨(alL_mem L 0 (j, x)).mpr ⟨j, hj, by simp⟩, ?_⟩))
      by_cases e2 : j + 1 = i
      · subst e2
        simp only [okS, hj] at ho
        have hc : x.category = 1 := by simpa using ho
        have h9 : ¬ j = j + 1 + 1 := by omega
        simp [hc, h9]
      · simp [e, e1, e2]
theorem padS_len : ∀ vs : List Value, (padS vs).length = (lg_sl vs).length := by
  intro vs
  induction vs with
  | nil => rfl
  | cons v vs ih =>
    by_cases h : v.category = 2 <;> simp [padS, lg_sl, h] <;> simpa [lg_sl] using ih
theorem padS_arg : ∀ (vs : List Value) (k i : Nat) (v : Value), (padS vs)[i]? = some (some v) → (k + i, v) ∈ lv_args k vs := by
  intro vs
  induction vs with
  | nil => intro k i v h; simp [padS] at h
  | cons w vs ih =>
    intro k i v h
    by_cases hc : w.category = 2
    · simp only [padS, hc, if_true] at h
      simp only [lv_args, hc, if_true]
      match i, h with
      | 0, h => simp at h; subst h; simp
      | 1, h => simp at h
      | i + 2, h =>
        have := ih (k + 2) i v (by simpa using h)
        rw [show k + (i + 2) = k + 2 + i by omega]
        exact List.mem_cons_of_mem _ this
    · simp only [padS, hc, if_false] at h
      simp only [lv_args, hc, if_false]
      match i, h with
      | 0, h => simp at h; subst h; simp
      | i + 1, h =>
        have := ih (k + 1) i v (by simpa using h)
        rw [show k + (i + 1) = k + 1 + i by omega]
        exact List.mem_cons_of_mem _ this
theorem hasL_entry (vs : List Value) {n : Nat} (h : (lg_sl vs).length ≤ n) : hasL ((lg_sl vs ++ List.replicate (n - (lg_sl vs).length) Slot.unset).toArray) n (padL vs n) := by
  have hl := lv_entry vs h
  refine ⟨hl.1, hl.2.1, fun i v q => ?_⟩
  have h2 : (padS vs)[i]? = some (some v) := by
    unfold padL at q
    by_cases hi : i < (padS vs).length
    · rwa [List.getElem?_append_left hi] at q
    · rw [List.getElem?_append_right (by omega), List.getElem?_replicate] at q
      split at q <;> cases q
  have := padS_arg vs 0 i v h2
  rw [Nat.zero_add] at this
  exact hl.2.2 (i, v) this
/-! ===== V: from here the method ends so; Ct: a method's contract ===== -/
abbrev Fr : Type := (Program × Launch × Env × State × MethodId × Array Value) × (List Frame × Method × Code × Glo)
def gl (φ : Fr) : Glo := φ.2.2.2.2
def rf (φ : Fr) (f i : Nat) : Value := .ref ((gl φ).1 f i)
def rmD (d : Nat) : Room := { frames := d + 1, cells := 0, slots := 0, locals := 100 * (d + 1) }
def Qr (Ω : Wld) (G : Glo) (ρ : Option Value × Mem) : Array Value → State → Outcome → State → Prop := fun _ st o t => (o = .returned ρ.1 ∧ Wd Ω G ρ.2 t.heap) ∧ va_F (Aw Ω G) st t
def V (φ : Fr) (Ω : Wld) (nL d pc : Nat) (L : List (Option Value)) (st : List Value) (μ : Mem) (ρ : Option Value × Mem) : Prop :=
  ∀ (H : Heap) (locs : List Loc) (a : Array Slot), Wd Ω (gl φ) μ H → va_S (Aw Ω (gl φ)) φ.1.2.2.2.1.heap H locs → hasL a nL L → W φ.1.1 φ.1.2.1 φ.1.2.2.1 (rmD d) φ.1.2.2.2.1 φ.1.2.2.2.2.1 φ.1.2.2.2.2.2 φ.2.1 φ.2.2.1 φ.2.2.2.1 H locs 0 0 (MQ φ.2.1 (Qr Ω (gl φ) ρ) φ.1.2.2.2.2.2 φ.1.2.2.2.1 0 0 (Aw Ω (gl φ))) (F0 φ.1.2.2.2.2.1 pc a st)
def Fx (φ : Fr) (Ω : Wld) (cc : ByteArray) (own : String) (nL : Nat) (ret : Option FieldType) : Prop :=
  φ.1.1.tables.exec = Jvm.exec ∧ φ.2.2.2.1.code = cc ∧ φ.2.2.2.1.maxLocals = nL ∧ φ.1.2.2.2.1.vm.findClass own = some φ.1.2.2.2.2.1.cls ∧ (∀ w ∈ lw_G, w.before φ.1.2.2.2.2.2 φ.1.2.2.2.1 = true) ∧ φ.2.2.1.sig.returnType = ret ∧ φ.2.2.1.locks = false ∧ Cx Ω (gl φ) φ.1.2.2.2.1 φ.1.2.2.2.1.heap
def Ct (l : Launch) (Ω : Wld) (G : Glo) (d : Nat) (y : MethodName) (b : ByteArray) (nL : Nat) (ret : Option FieldType) (args : List Value) (μ : Mem) (ρ : Option Value × Mem) : Prop :=
  Met l y (.code y b nL ret :: lw_G) (rmD d) (va_Pc args (fun U => Cx Ω G U U.heap ∧ Wd Ω G μ U.heap)) (Qr Ω G ρ) 0 0 (Aw Ω G)
theorem Ct.intro {l : Launch} {Ω : Wld} {G : Glo} {d : Nat} {y : MethodName} {b : ByteArray} {nL : Nat} {ret : Option FieldType} {args : List Value} {μ : Mem} {ρ : Option Value × Mem} (hy : plainName y.cls = true) (hl : (lg_sl args).length ≤ nL) (body : ∀ φ : Fr, φ.1.2.1 = l → gl φ = G → Fx φ Ω b y.cls nL ret → V φ Ω nL d 0 (padL args nL) [] μ ρ) : Ct l Ω G d y b nL ret args μ ρ := by
  refine Met.ofW (cc := b) (maxL := nL) (ret := ret) hy rfl ?_
  intro p e s m args' below meth c s₁ B hml hv
  obtain ⟨rfl, hC, hP⟩ := hv
  have hts := atoms_spec (ws := Cond.code y b nL ret :: lw_G) B.pre
  rw [lg_entry_eq]
  exact body ((p, l, e, s, m, args.toArray), (below, meth, c, G)) rfl rfl ⟨B.exec, B.bytes, hml, findClass_of_methodNamed B.named, fun w h => hts w (List.mem_cons_of_mem _ h), B.returns, B.notSynchronized, hC⟩ s.heap [] _ hP va_S.rf (hasL_entry args hl)
section VROWS
variable {φ : Fr} {Ω : Wld} {cc : ByteArray} {own : String} {nL : Nat} {ret : Option FieldType} {d pc : Nat} {L : List (Option Value)} {st rest : List Value} {μ : Mem} {ρ : Option Value × Mem}
theorem Fx.G {w : Cond} (F : Fx φ Ω cc own nL ret) (h : w ∈ lw_G) : w.before φ.1.2.2.2.2.2 φ.1.2.2.2.1 = true := F.2.2.2.2.1 w h
theorem Fx.C (F : Fx φ Ω cc own nL ret) : Cx Ω (gl φ) φ.1.2.2.2.1 φ.1.2.2.2.1.heap := F.2.2.2.2.2.2.2
theorem V.msk (bs : List Bool) {L' : List (Option Value)} (hL : mskL L bs = L') (k : V φ Ω nL d pc L' st μ ρ) : V φ Ω nL d pc L st μ ρ := fun H locs a hP hS hl => k H locs a hP hS (hasL_mono hl (by rw [← hL]; exact mskL_le L bs))
theorem V.eqv {st' : List Value} (e : st' = st) (k : V φ Ω nL d pc L st' μ ρ) : V φ Ω nL d pc L st μ ρ := e ▸ k
theorem V.topi {x : Int32} (k : ∀ y : Int32, y = x → V φ Ω nL d pc L (.int y :: rest) μ ρ) : V φ Ω nL d pc L (.int x :: rest) μ ρ := k x rfl

theorem V.iconst {n : Int} {v : Int32} (F : Fx φ Ω cc own nL ret) (hd : decode cc pc = .ok (.iconst n, 1)) (hv : Int32.ofInt n = v) (k : V φ Ω nL d (pc + 1) L (.int v :: rest) μ ρ) : V φ Ω nL d pc L (rest) μ ρ := fun H locs a hP hS hl => lv_iconst F.1 F.2.1 hd hv (k H locs a hP hS hl)
theorem V.bipush {n : Int} {v : Int32} (F : Fx φ Ω cc own nL ret) (hd : decode cc pc = .ok (.bipush n, 2)) (hv : (Int8.ofInt n).toInt32 = v) (k : V φ Ω nL d (pc + 2) L (.int v :: rest) μ ρ) : V φ Ω nL d pc L (rest) μ ρ := fun H locs a hP hS hl => lv_bipush F.1 F.2.1 hd hv (k H locs a hP hS hl)
theorem V.sipush {n : Int} {v : Int32} (F : Fx φ Ω cc own nL ret) (hd : decode cc pc = .ok (.sipush n, 3)) (hv : (Int16.ofInt n).toInt32 = v) (k : V φ Ω nL d (pc + 3) L (.int v :: rest) μ ρ) : V φ Ω nL d pc L (rest) μ ρ := fun H locs a hP hS hl => lv_sipush F.1 F.2.1 hd hv (k H locs a hP hS hl)
theorem V.lconst {n : Fin 2} {v : Int64} (F : Fx φ Ω cc own nL ret) (hd : decode cc pc = .ok (.lconst n, 1)) (hv : Int64.ofNat (n : Nat) = v) (k : V φ Ω nL d (pc + 1) L (.long v :: rest) μ ρ) : V φ Ω nL d pc L (rest) μ ρ := fun H locs a hP hS hl => lv_lconst F.1 F.2.1 hd hv (k H locs a hP hS hl)
theorem V.iadd {x y : Int32} (F : Fx φ Ω cc own nL ret) (hd : decode cc pc = .ok (.iadd, 1))  (k : V φ Ω nL d (pc + 1) L (.int (x + y) :: rest) μ ρ) : V φ Ω nL d pc L (.int y :: .int x :: rest) μ ρ := fun H locs a hP hS hl => lv_iadd F.1 F.2.1 hd  (k H locs a hP hS hl)
theorem V.isub {x y : Int32} (F : Fx φ Ω cc own nL ret) (hd : decode cc pc = .ok (.isub, 1))  (k : V φ Ω nL d (pc + 1) L (.int (x - y) :: rest) μ ρ) : V φ Ω nL d pc L (.int y :: .int x :: rest) μ ρ := fun H locs a hP hS hl => lv_isub F.1 F.2.1 hd  (k H locs a hP hS hl)
theorem V.imul {x y : Int32} (F : Fx φ Ω cc own nL ret) (hd : decode cc pc = .ok (.imul, 1))  (k : V φ Ω nL d (pc + 1) L (.int (x * y) :: rest) μ ρ) : V φ Ω nL d pc L (.int y :: .int x :: rest) μ ρ := fun H locs a hP hS hl => lv_imul F.1 F.2.1 hd  (k H locs a hP hS hl)
theorem V.iand {x y : Int32} (F : Fx φ Ω cc own nL ret) (hd : decode cc pc = .ok (.iand, 1))  (k : V φ Ω nL d (pc + 1) L (.int (x &&& y) :: rest) μ ρ) : V φ Ω nL d pc L (.int y :: .int x :: rest) μ ρ := fun H locs a hP hS hl => lv_iand F.1 F.2.1 hd  (k H locs a hP hS hl)
theorem V.ior {x y : Int32} (F : Fx φ Ω cc own nL ret) (hd : decode cc pc = .ok (.ior, 1))  (k : V φ Ω nL d (pc + 1) L (.int (x ||| y) :: rest) μ ρ) : V φ Ω nL d pc L (.int y :: .int x :: rest) μ ρ := fun H locs a hP hS hl => lv_ior F.1 F.2.1 hd  (k H locs a hP hS hl)
theorem V.ixor {x y : Int32} (F : Fx φ Ω cc own nL ret) (hd : decode cc pc = .ok (.ixor, 1))  (k : V φ Ω nL d (pc + 1) L (.int (x ^^^ y) :: rest) μ ρ) : V φ Ω nL d pc L (.int y :: .int x :: rest) μ ρ := fun H locs a hP hS hl => lv_ixor F.1 F.2.1 hd  (k H locs a hP hS hl)
theorem V.idiv {x y : Int32} (F : Fx φ Ω cc own nL ret) (hd : decode cc pc = .ok (.idiv, 1)) (hn : ¬ y = 0) (k : V φ Ω nL d (pc + 1) L (.int (x / y) :: rest) μ ρ) : V φ Ω nL d pc L (.int y :: .int x :: rest) μ ρ := fun H locs a hP hS hl => lv_idiv F.1 F.2.1 hd hn (k H locs a hP hS hl)
theorem V.irem {x y : Int32} (F : Fx φ Ω cc own nL ret) (hd : decode cc pc = .ok (.irem, 1)) (hn : ¬ y = 0) (k : V φ Ω nL d (pc + 1) L (.int (x - x / y * y) :: rest) μ ρ) : V φ Ω nL d pc L (.int y :: .int x :: rest) μ ρ := fun H locs a hP hS hl => lv_irem F.1 F.2.1 hd hn (k H locs a hP hS hl)
theorem V.ineg {x : Int32} (F : Fx φ Ω cc own nL ret) (hd : decode cc pc = .ok (.ineg, 1))  (k : V φ Ω nL d (pc + 1) L (.int (-x) :: rest) μ ρ) : V φ Ω nL d pc L (.int x :: rest) μ ρ := fun H locs a hP hS hl => lv_ineg F.1 F.2.1 hd  (k H locs a hP hS hl)
theorem V.ishl {x y : Int32} (F : Fx φ Ω cc own nL ret) (hd : decode cc pc = .ok (.ishl, 1))  (k : V φ Ω nL d (pc + 1) L (.int (x <<< (y &&& 31)) :: rest) μ ρ) : V φ Ω nL d pc L (.int y :: .int x :: rest) μ ρ := fun H locs a hP hS hl => lv_ishl F.1 F.2.1 hd  (k H locs a hP hS hl)
theorem V.ishr {x y : Int32} (F : Fx φ Ω cc own nL ret) (hd : decode cc pc = .ok (.ishr, 1))  (k : V φ Ω nL d (pc + 1) L (.int (x >>> (y &&& 31)) :: rest) μ ρ) : V φ Ω nL d pc L (.int y :: .int x :: rest) μ ρ := fun H locs a hP hS hl => lv_ishr F.1 F.2.1 hd  (k H locs a hP hS hl)
theorem V.iushr {x y : Int32} (F : Fx φ Ω cc own nL ret) (hd : decode cc pc = .ok (.iushr, 1))  (k : V φ Ω nL d (pc + 1) L (.int ((x.toUInt32 >>> (y.toUInt32 &&& Int32.toUInt32 31)).toInt32) :: rest) μ ρ) : V φ Ω nL d pc L (.int y :: .int x :: rest) μ ρ := fun H locs a hP hS hl => lv_iushr F.1 F.2.1 hd rfl (k H locs a hP hS hl)
theorem V.i2l {x : Int32} (F : Fx φ Ω cc own nL ret) (hd : decode cc pc = .ok (.i2l, 1))  (k : V φ Ω nL d (pc + 1) L (.long x.toInt64 :: rest) μ ρ) : V φ Ω nL d pc L (.int x :: rest) μ ρ := fun H locs a hP hS hl => lv_i2l F.1 F.2.1 hd rfl (k H locs a hP hS hl)
theorem V.l2i {x : Int64} (F : Fx φ Ω cc own nL ret) (hd : decode cc pc = .ok (.l2i, 1))  (k : V φ Ω nL d (pc + 1) L (.int x.toInt32 :: rest) μ ρ) : V φ Ω nL d pc L (.long x :: rest) μ ρ := fun H locs a hP hS hl => lv_l2i F.1 F.2.1 hd rfl (k H locs a hP hS hl)
theorem V.i2b {x : Int32} (F : Fx φ Ω cc own nL ret) (hd : decode cc pc = .ok (.i2b, 1))  (k : V φ Ω nL d (pc + 1) L (.int x.toInt8.toInt32 :: rest) μ ρ) : V φ Ω nL d pc L (.int x :: rest) μ ρ := fun H locs a hP hS hl => lv_i2b F.1 F.2.1 hd rfl (k H locs a hP hS hl)
theorem V.i2s {x : Int32} (F : Fx φ Ω cc own nL ret) (hd : decode cc pc = .ok (.i2s, 1))  (k : V φ Ω nL d (pc + 1) L (.int x.toInt16.toInt32 :: rest) μ ρ) : V φ Ω nL d pc L (.int x :: rest) μ ρ := fun H locs a hP hS hl => lv_i2s F.1 F.2.1 hd rfl (k H locs a hP hS hl)
theorem V.ladd {x y : Int64} (F : Fx φ Ω cc own nL ret) (hd : decode cc pc = .ok (.ladd, 1))  (k : V φ Ω nL d (pc + 1) L (.long (x + y) :: rest) μ ρ) : V φ Ω nL d pc L (.long y :: .long x :: rest) μ ρ := fun H locs a hP hS hl => lv_ladd F.1 F.2.1 hd  (k H locs a hP hS hl)
theorem V.lsub {x y : Int64} (F : Fx φ Ω cc own nL ret) (hd : decode cc pc = .ok (.lsub, 1))  (k : V φ Ω nL d (pc + 1) L (.long (x - y) :: rest) μ ρ) : V φ Ω nL d pc L (.long y :: .long x :: rest) μ ρ := fun H locs a hP hS hl => lv_lsub F.1 F.2.1 hd  (k H locs a hP hS hl)
theorem V.lmul {x y : Int64} (F : Fx φ Ω cc own nL ret) (hd : decode cc pc = .ok (.lmul, 1))  (k : V φ Ω nL d (pc + 1) L (.long (x * y) :: rest) μ ρ) : V φ Ω nL d pc L (.long y :: .long x :: rest) μ ρ := fun H locs a hP hS hl => lv_lmul F.1 F.2.1 hd  (k H locs a hP hS hl)
theorem V.ldiv {x y : Int64} (F : Fx φ Ω cc own nL ret) (hd : decode cc pc = .ok (.ldiv, 1)) (hn : ¬ y = 0) (k : V φ Ω nL d (pc + 1) L (.long (x / y) :: rest) μ ρ) : V φ Ω nL d pc L (.long y :: .long x :: rest) μ ρ := fun H locs a hP hS hl => lv_ldiv F.1 F.2.1 hd hn (k H locs a hP hS hl)
theorem V.lrem {x y : Int64} (F : Fx φ Ω cc own nL ret) (hd : decode cc pc = .ok (.lrem, 1)) (hn : ¬ y = 0) (k : V φ Ω nL d (pc + 1) L (.long (x - x / y * y) :: rest) μ ρ) : V φ Ω nL d pc L (.long y :: .long x :: rest) μ ρ := fun H locs a hP hS hl => lv_lrem F.1 F.2.1 hd hn (k H locs a hP hS hl)
theorem V.lcmp {x y : Int64} (F : Fx φ Ω cc own nL ret) (hd : decode cc pc = .ok (.lcmp, 1))  (k : V φ Ω nL d (pc + 1) L (.int (lg_cmp x y) :: rest) μ ρ) : V φ Ω nL d pc L (.long y :: .long x :: rest) μ ρ := fun H locs a hP hS hl => W.lcmp F.1 F.2.1 hd  (k H locs a hP hS hl)
theorem V.dup {v : Value} (F : Fx φ Ω cc own nL ret) (hd : decode cc pc = .ok (.dup, 1)) (hv : v.category = 1) (k : V φ Ω nL d (pc + 1) L (v :: v :: rest) μ ρ) : V φ Ω nL d pc L (v :: rest) μ ρ := fun H locs a hP hS hl => lv_dup F.1 F.2.1 hd hv (k H locs a hP hS hl)
theorem V.pop {v : Value} (F : Fx φ Ω cc own nL ret) (hd : decode cc pc = .ok (.pop, 1)) (hv : v.category = 1) (k : V φ Ω nL d (pc + 1) L (rest) μ ρ) : V φ Ω nL d pc L (v :: rest) μ ρ := fun H locs a hP hS hl => lv_pop F.1 F.2.1 hd hv (k H locs a hP hS hl)
theorem V.dup2 {v u : Value} (F : Fx φ Ω cc own nL ret) (hd : decode cc pc = .ok (.dup2, 1)) (hv : v.category = 1) (hu : u.category = 1) (k : V φ Ω nL d (pc + 1) L (v :: u :: v :: u :: rest) μ ρ) : V φ Ω nL d pc L (v :: u :: rest) μ ρ := fun H locs a hP hS hl => lv_dup2_11 F.1 F.2.1 hd hv hu (k H locs a hP hS hl)
theorem V.null  (F : Fx φ Ω cc own nL ret) (hd : decode cc pc = .ok (.aconst_null, 1))  (k : V φ Ω nL d (pc + 1) L (.null :: rest) μ ρ) : V φ Ω nL d pc L (rest) μ ρ := fun H locs a hP hS hl => lv_null F.1 F.2.1 hd  (k H locs a hP hS hl)
theorem V.ldc {idx : Nat} {v : Int32} (F : Fx φ Ω cc own nL ret) (hw : Cond.constant own idx v ∈ lw_G) (hd : decode cc pc = .ok (.ldc idx, 2)) (k : V φ Ω nL d (pc + 2) L (.int v :: rest) μ ρ) : V φ Ω nL d pc L rest μ ρ := fun H locs a hP hS hl => lv_ldc F.1 F.2.1 F.2.2.2.1 (F.G hw) hd (k H locs a hP hS hl)
theorem V.ldcw {idx : Nat} {v : Int32} (F : Fx φ Ω cc own nL ret) (hw : Cond.constant own idx v ∈ lw_G) (hd : decode cc pc = .ok (.ldc_w idx, 3)) (k : V φ Ω nL d (pc + 3) L (.int v :: rest) μ ρ) : V φ Ω nL d pc L rest μ ρ := fun H locs a hP hS hl => lv_ldcw F.1 F.2.1 F.2.2.2.1 (F.G hw) hd (k H locs a hP hS hl)
theorem V.ldc2 {idx : Nat} {v : Int64} (F : Fx φ Ω cc own nL ret) (hw : Cond.constantLong own idx v ∈ lw_G) (hd : decode cc pc = .ok (.ldc2_w idx, 3)) (k : V φ Ω nL d (pc + 3) L (.long v :: rest) μ ρ) : V φ Ω nL d pc L rest μ ρ := fun H locs a hP hS hl => lv_ldc2 F.1 F.2.1 F.2.2.2.1 (F.G hw) hd (k H locs a hP hS hl)
theorem V.ldcS {idx i : Nat} (F : Fx φ Ω cc own nL ret) (hi : i < nJS) (ho : ownJS i = own) (hx : idxJS i = idx) (hd : decode cc pc = .ok (.ldc idx, 2)) (k : V φ Ω nL d (pc + 2) L (.ref ((gl φ).2.2.2.1 i) :: rest) μ ρ) : V φ Ω nL d pc L rest μ ρ := by
  subst ho; subst hx
  exact fun H locs a hP hS hl => va_ldcS F.1 F.2.1 F.2.2.2.1 (F.C.2.2.2.1.2.1 i hi) hd (k H locs a hP hS hl)
theorem V.iload_n {q : Fin 4} {i : Nat} {x : Int32} (F : Fx φ Ω cc own nL ret) (hd : decode cc pc = .ok (.iload_n q, 1)) (hi : (q : Nat) = i) (hx : L[i]? = some (some (.int x))) (k : V φ Ω nL d (pc + 1) L (.int x :: rest) μ ρ) : V φ Ω nL d pc L rest μ ρ := fun H locs a hP hS hl => lv_iload_n F.1 F.2.1 hd hi (hl.2.2 i _ hx) (k H locs a hP hS hl)
theorem V.iload {i : Nat} {x : Int32} (F : Fx φ Ω cc own nL ret) (hd : decode cc pc = .ok (.iload i, 2)) (hx : L[i]? = some (some (.int x))) (k : V φ Ω nL d (pc + 2) L (.int x :: rest) μ ρ) : V φ Ω nL d pc L rest μ ρ := fun H locs a hP hS hl => lv_iload F.1 F.2.1 hd (hl.2.2 i _ hx) (k H locs a hP hS hl)
theorem V.lload_n {q : Fin 4} {i : Nat} {x : Int64} (F : Fx φ Ω cc own nL ret) (hd : decode cc pc = .ok (.lload_n q, 1)) (hi : (q : Nat) = i) (hx : L[i]? = some (some (.long x))) (k : V φ Ω nL d (pc + 1) L (.long x :: rest) μ ρ) : V φ Ω nL d pc L rest μ ρ := fun H locs a hP hS hl => lv_lload_n F.1 F.2.1 hd hi (hl.2.2 i _ hx) (k H locs a hP hS hl)
theorem V.lload {i : Nat} {x : Int64} (F : Fx φ Ω cc own nL ret) (hd : decode cc pc = .ok (.lload i, 2)) (hx : L[i]? = some (some (.long x))) (k : V φ Ω nL d (pc + 2) L (.long x :: rest) μ ρ) : V φ Ω nL d pc L rest μ ρ := fun H locs a hP hS hl => lv_lload F.1 F.2.1 hd (hl.2.2 i _ hx) (k H locs a hP hS hl)
theorem V.aload_n {q : Fin 4} {i : Nat} {x : Nat} (F : Fx φ Ω cc own nL ret) (hd : decode cc pc = .ok (.aload_n q, 1)) (hi : (q : Nat) = i) (hx : L[i]? = some (some (.ref x))) (k : V φ Ω nL d (pc + 1) L (.ref x :: rest) μ ρ) : V φ Ω nL d pc L rest μ ρ := fun H locs a hP hS hl => lv_aload_n F.1 F.2.1 hd hi (hl.2.2 i _ hx) (k H locs a hP hS hl)
theorem V.aload {i : Nat} {x : Nat} (F : Fx φ Ω cc own nL ret) (hd : decode cc pc = .ok (.aload i, 2)) (hx : L[i]? = some (some (.ref x))) (k : V φ Ω nL d (pc + 2) L (.ref x :: rest) μ ρ) : V φ Ω nL d pc L rest μ ρ := fun H locs a hP hS hl => lv_aload F.1 F.2.1 hd (hl.2.2 i _ hx) (k H locs a hP hS hl)
theorem V.rload_n {q : Fin 4} {i f j : Nat} (F : Fx φ Ω cc own nL ret) (hd : decode cc pc = .ok (.aload_n q, 1)) (hi : (q : Nat) = i) (hx : L[i]? = some (some (rf φ f j))) (k : V φ Ω nL d (pc + 1) L (rf φ f j :: rest) μ ρ) : V φ Ω nL d pc L rest μ ρ := V.aload_n F hd hi hx k
theorem V.rload {i f j : Nat} (F : Fx φ Ω cc own nL ret) (hd : decode cc pc = .ok (.aload i, 2)) (hx : L[i]? = some (some (rf φ f j))) (k : V φ Ω nL d (pc + 2) L (rf φ f j :: rest) μ ρ) : V φ Ω nL d pc L rest μ ρ := V.aload F hd hx k
theorem V.istore_n {q : Fin 4} {i : Nat} {x : Int32} {L' : List (Option Value)} (F : Fx φ Ω cc own nL ret) (hd : decode cc pc = .ok (.istore_n q, 1)) (hi : (q : Nat) = i) (hn : i < nL) (ho : okS L i = true) (hL : L.set i (some (.int x)) = L') (k : V φ Ω nL d (pc + 1) L' rest μ ρ) : V φ Ω nL d pc L (.int x :: rest) μ ρ := fun H locs a hP hS hl => lv_istore_n F.1 F.2.1 hd hi (hasL_lv hl) hn rfl (fun a' h' => k H locs a' hP hS (hL ▸ hasL_set1 (a := a) ho h'))
theorem V.istore {i : Nat} {x : Int32} {L' : List (Option Value)} (F : Fx φ Ω cc own nL ret) (hd : decode cc pc = .ok (.istore i, 2)) (hn : i < nL) (ho : okS L i = true) (hL : L.set i (some (.int x)) = L') (k : V φ Ω nL d (pc + 2) L' rest μ ρ) : V φ Ω nL d pc L (.int x :: rest) μ ρ := fun H locs a hP hS hl => lv_istore F.1 F.2.1 hd (hasL_lv hl) hn rfl (fun a' h' => k H locs a' hP hS (hL ▸ hasL_set1 (a := a) ho h'))
theorem V.lstore_n {q : Fin 4} {i : Nat} {x : Int64} {L' : List (Option Value)} (F : Fx φ Ω cc own nL ret) (hd : decode cc pc = .ok (.lstore_n q, 1)) (hi : (q : Nat) = i) (hn : i + 1 < nL) (ho : okS L i = true) (hL : (L.set i (some (.long x))).set (i + 1) none = L') (k : V φ Ω nL d (pc + 1) L' rest μ ρ) : V φ Ω nL d pc L (.long x :: rest) μ ρ := fun H locs a hP hS hl => lv_lstore_n F.1 F.2.1 hd hi (hasL_lv hl) hn rfl (fun a' h' => k H locs a' hP hS (hL ▸ hasL_set2 (a := a) ho h'))
theorem V.lstore {i : Nat} {x : Int64} {L' : List (Option Value)} (F : Fx φ Ω cc own nL ret) (hd : decode cc pc = .ok (.lstore i, 2)) (hn : i + 1 < nL) (ho : okS L i = true) (hL : (L.set i (some (.long x))).set (i + 1) none = L') (k : V φ Ω nL d (pc + 2) L' rest μ ρ) : V φ Ω nL d pc L (.long x :: rest) μ ρ := fun H locs a hP hS hl => lv_lstore F.1 F.2.1 hd (hasL_lv hl) hn rfl (fun a' h' => k H locs a' hP hS (hL ▸ hasL_set2 (a := a) ho h'))
theorem V.astore_n {q : Fin 4} {i : Nat} {x : Nat} {L' : List (Option Value)} (F : Fx φ Ω cc own nL ret) (hd : decode cc pc = .ok (.astore_n q, 1)) (hi : (q : Nat) = i) (hn : i < nL) (ho : okS L i = true) (hL : L.set i (some (.ref x)) = L') (k : V φ Ω nL d (pc + 1) L' rest μ ρ) : V φ Ω nL d pc L (.ref x :: rest) μ ρ := fun H locs a hP hS hl => lv_astore_n F.1 F.2.1 hd hi (hasL_lv hl) hn rfl (fun a' h' => k H locs a' hP hS (hL ▸ hasL_set1 (a := a) ho h'))
theorem V.astore {i : Nat} {x : Nat} {L' : List (Option Value)} (F : Fx φ Ω cc own nL ret) (hd : decode cc pc = .ok (.astore i, 2)) (hn : i < nL) (ho : okS L i = true) (hL : L.set i (some (.ref x)) = L') (k : V φ Ω nL d (pc + 2) L' rest μ ρ) : V φ Ω nL d pc L (.ref x :: rest) μ ρ := fun H locs a hP hS hl => lv_astore F.1 F.2.1 hd (hasL_lv hl) hn rfl (fun a' h' => k H locs a' hP hS (hL ▸ hasL_set1 (a := a) ho h'))
theorem V.rstore_n {q : Fin 4} {i f j : Nat} {L' : List (Option Value)} (F : Fx φ Ω cc own nL ret) (hd : decode cc pc = .ok (.astore_n q, 1)) (hi : (q : Nat) = i) (hn : i < nL) (ho : okS L i = true) (hL : L.set i (some (rf φ f j)) = L') (k : V φ Ω nL d (pc + 1) L' rest μ ρ) : V φ Ω nL d pc L (rf φ f j :: rest) μ ρ := V.astore_n F hd hi hn ho hL k
theorem V.rstore {i f j : Nat} {L' : List (Option Value)} (F : Fx φ Ω cc own nL ret) (hd : decode cc pc = .ok (.astore i, 2)) (hn : i < nL) (ho : okS L i = true) (hL : L.set i (some (rf φ f j)) = L') (k : V φ Ω nL d (pc + 2) L' rest μ ρ) : V φ Ω nL d pc L (rf φ f j :: rest) μ ρ := V.astore F hd hn ho hL k
theorem alL_at {i : Nat} {v : Value} (h : L[i]? = some (some v)) : ∃ k : Nat, (alL 0 L)[k]? = some (i, v) := List.getElem?_of_mem ((alL_mem L 0 (i, v)).mpr ⟨i, h, by simp⟩)
theorem V.iinc {i : Nat} {n : Int} {x v : Int32} {L' : List (Option Value)} (F : Fx φ Ω cc own nL ret) (hd : decode cc pc = .ok (.iinc i n, 3)) (hx : L[i]? = some (some (.int x))) (hv : x + Int32.ofInt n = v) (hn : i < nL) (ho : okS L i = true) (hL : L.set i (some (.int v)) = L') (k : V φ Ω nL d (pc + 3) L' rest μ ρ) : V φ Ω nL d pc L rest μ ρ := by
  obtain ⟨q, hq⟩ := alL_at hx
  exact fun H locs a hP hS hl => lv_iinc F.1 F.2.1 hd (hasL_lv hl) hq hv hn rfl (fun a' h' => k H locs a' hP hS (hL ▸ hasL_set1 (a := a) ho h'))
theorem i_ge {x y : Int32} (h : x ≥ y) : ¬ x < y := Int32.not_lt.mpr h
theorem i_nge {x y : Int32} (h : ¬ x ≥ y) : x < y := Int32.not_le.mp h
theorem i_le {x y : Int32} (h : x ≤ y) : ¬ y < x := Int32.not_lt.mpr h
theorem i_nle {x y : Int32} (h : ¬ x ≤ y) : y < x := Int32.not_le.mp h
theorem V.if_eq {x : Int32} {off : Int} {tgt : Nat} (F : Fx φ Ω cc own nL ret) (hd : decode cc pc = .ok (.ifCond .eq off, 3)) (ht : (pc : Int) + off = (tgt : Int)) (kt : x = 0 → V φ Ω nL d tgt L rest μ ρ) (kf : ¬ x = 0 → V φ Ω nL d (pc + 3) L rest μ ρ) : V φ Ω nL d pc L (.int x :: rest) μ ρ := fun H locs a hP hS hl => lv_if_eq F.1 F.2.1 hd ht (fun h => kt h H locs a hP hS hl) (fun h => kf h H locs a hP hS hl)
theorem V.icmp_eq {x y : Int32} {off : Int} {tgt : Nat} (F : Fx φ Ω cc own nL ret) (hd : decode cc pc = .ok (.if_icmp .eq off, 3)) (ht : (pc : Int) + off = (tgt : Int)) (kt : x = y → V φ Ω nL d tgt L rest μ ρ) (kf : ¬ x = y → V φ Ω nL d (pc + 3) L rest μ ρ) : V φ Ω nL d pc L (.int y :: .int x :: rest) μ ρ := fun H locs a hP hS hl => lv_icmp_eq F.1 F.2.1 hd ht (fun h => kt h H locs a hP hS hl) (fun h => kf h H locs a hP hS hl)
theorem V.if_ne {x : Int32} {off : Int} {tgt : Nat} (F : Fx φ Ω cc own nL ret) (hd : decode cc pc = .ok (.ifCond .ne off, 3)) (ht : (pc : Int) + off = (tgt : Int)) (kt : ¬ x = 0 → V φ Ω nL d tgt L rest μ ρ) (kf : x = 0 → V φ Ω nL d (pc + 3) L rest μ ρ) : V φ Ω nL d pc L (.int x :: rest) μ ρ := fun H locs a hP hS hl => lv_if_ne F.1 F.2.1 hd ht (fun h => kt h H locs a hP hS hl) (fun h => kf h H locs a hP hS hl)
theorem V.icmp_ne {x y : Int32} {off : Int} {tgt : Nat} (F : Fx φ Ω cc own nL ret) (hd : decode cc pc = .ok (.if_icmp .ne off, 3)) (ht : (pc : Int) + off = (tgt : Int)) (kt : ¬ x = y → V φ Ω nL d tgt L rest μ ρ) (kf : x = y → V φ Ω nL d (pc + 3) L rest μ ρ) : V φ Ω nL d pc L (.int y :: .int x :: rest) μ ρ := fun H locs a hP hS hl => lv_icmp_ne F.1 F.2.1 hd ht (fun h => kt h H locs a hP hS hl) (fun h => kf h H locs a hP hS hl)
theorem V.if_lt {x : Int32} {off : Int} {tgt : Nat} (F : Fx φ Ω cc own nL ret) (hd : decode cc pc = .ok (.ifCond .lt off, 3)) (ht : (pc : Int) + off = (tgt : Int)) (kt : x < 0 → V φ Ω nL d tgt L rest μ ρ) (kf : ¬ x < 0 → V φ Ω nL d (pc + 3) L rest μ ρ) : V φ Ω nL d pc L (.int x :: rest) μ ρ := fun H locs a hP hS hl => lv_if_lt F.1 F.2.1 hd ht (fun h => kt h H locs a hP hS hl) (fun h => kf h H locs a hP hS hl)
theorem V.icmp_lt {x y : Int32} {off : Int} {tgt : Nat} (F : Fx φ Ω cc own nL ret) (hd : decode cc pc = .ok (.if_icmp .lt off, 3)) (ht : (pc : Int) + off = (tgt : Int)) (kt : x < y → V φ Ω nL d tgt L rest μ ρ) (kf : ¬ x < y → V φ Ω nL d (pc + 3) L rest μ ρ) : V φ Ω nL d pc L (.int y :: .int x :: rest) μ ρ := fun H locs a hP hS hl => lv_icmp_lt F.1 F.2.1 hd ht (fun h => kt h H locs a hP hS hl) (fun h => kf h H locs a hP hS hl)
theorem V.if_ge {x : Int32} {off : Int} {tgt : Nat} (F : Fx φ Ω cc own nL ret) (hd : decode cc pc = .ok (.ifCond .ge off, 3)) (ht : (pc : Int) + off = (tgt : Int)) (kt : ¬ x < 0 → V φ Ω nL d tgt L rest μ ρ) (kf : x < 0 → V φ Ω nL d (pc + 3) L rest μ ρ) : V φ Ω nL d pc L (.int x :: rest) μ ρ := fun H locs a hP hS hl => lv_if_ge F.1 F.2.1 hd ht (fun h => kt (i_ge h) H locs a hP hS hl) (fun h => kf (i_nge h) H locs a hP hS hl)
theorem V.icmp_ge {x y : Int32} {off : Int} {tgt : Nat} (F : Fx φ Ω cc own nL ret) (hd : decode cc pc = .ok (.if_icmp .ge off, 3)) (ht : (pc : Int) + off = (tgt : Int)) (kt : ¬ x < y → V φ Ω nL d tgt L rest μ ρ) (kf : x < y → V φ Ω nL d (pc + 3) L rest μ ρ) : V φ Ω nL d pc L (.int y :: .int x :: rest) μ ρ := fun H locs a hP hS hl => lv_icmp_ge F.1 F.2.1 hd ht (fun h => kt (i_ge h) H locs a hP hS hl) (fun h => kf (i_nge h) H locs a hP hS hl)
theorem V.if_gt {x : Int32} {off : Int} {tgt : Nat} (F : Fx φ Ω cc own nL ret) (hd : decode cc pc = .ok (.ifCond .gt off, 3)) (ht : (pc : Int) + off = (tgt : Int)) (kt : 0 < x → V φ Ω nL d tgt L rest μ ρ) (kf : ¬ 0 < x → V φ Ω nL d (pc + 3) L rest μ ρ) : V φ Ω nL d pc L (.int x :: rest) μ ρ := fun H locs a hP hS hl => lv_if_gt F.1 F.2.1 hd ht (fun h => kt h H locs a hP hS hl) (fun h => kf h H locs a hP hS hl)
theorem V.icmp_gt {x y : Int32} {off : Int} {tgt : Nat} (F : Fx φ Ω cc own nL ret) (hd : decode cc pc = .ok (.if_icmp .gt off, 3)) (ht : (pc : Int) + off = (tgt : Int)) (kt : y < x → V φ Ω nL d tgt L rest μ ρ) (kf : ¬ y < x → V φ Ω nL d (pc + 3) L rest μ ρ) : V φ Ω nL d pc L (.int y :: .int x :: rest) μ ρ := fun H locs a hP hS hl => lv_icmp_gt F.1 F.2.1 hd ht (fun h => kt h H locs a hP hS hl) (fun h => kf h H locs a hP hS hl)
theorem V.if_le {x : Int32} {off : Int} {tgt : Nat} (F : Fx φ Ω cc own nL ret) (hd : decode cc pc = .ok (.ifCond .le off, 3)) (ht : (pc : Int) + off = (tgt : Int)) (kt : ¬ 0 < x → V φ Ω nL d tgt L rest μ ρ) (kf : 0 < x → V φ Ω nL d (pc + 3) L rest μ ρ) : V φ Ω nL d pc L (.int x :: rest) μ ρ := fun H locs a hP hS hl => lv_if_le F.1 F.2.1 hd ht (fun h => kt (i_le h) H locs a hP hS hl) (fun h => kf (i_nle h) H locs a hP hS hl)
theorem V.icmp_le {x y : Int32} {off : Int} {tgt : Nat} (F : Fx φ Ω cc own nL ret) (hd : decode cc pc = .ok (.if_icmp .le off, 3)) (ht : (pc : Int) + off = (tgt : Int)) (kt : ¬ y < x → V φ Ω nL d tgt L rest μ ρ) (kf : y < x → V φ Ω nL d (pc + 3) L rest μ ρ) : V φ Ω nL d pc L (.int y :: .int x :: rest) μ ρ := fun H locs a hP hS hl => lv_icmp_le F.1 F.2.1 hd ht (fun h => kt (i_le h) H locs a hP hS hl) (fun h => kf (i_nle h) H locs a hP hS hl)
theorem V.goto {off : Int} {tgt : Nat} (F : Fx φ Ω cc own nL ret) (hd : decode cc pc = .ok (.goto off, 3)) (ht : (pc : Int) + off = (tgt : Int)) (k : V φ Ω nL d tgt L rest μ ρ) : V φ Ω nL d pc L rest μ ρ := fun H locs a hP hS hl => lv_goto F.1 F.2.1 hd ht (k H locs a hP hS hl)
theorem V.tabOut {dflt lo hi : Int} {offs : Array Int} {len : Nat} {x : Int32} {tgt : Nat} (F : Fx φ Ω cc own nL ret) (hd : decode cc pc = .ok (.tableswitch dflt lo hi offs, len)) (h : x.toInt < lo ∨ hi < x.toInt) (ht : (pc : Int) + dflt = (tgt : Int)) (k : V φ Ω nL d tgt L rest μ ρ) : V φ Ω nL d pc L (.int x :: rest) μ ρ := fun H locs a hP hS hl => lv_tableOut F.1 F.2.1 hd h ht (k H locs a hP hS hl)
theorem V.tabIn {dflt lo hi : Int} {offs : Array Int} {len : Nat} {x : Int32} {off : Int} {tgt : Nat} (F : Fx φ Ω cc own nL ret) (hd : decode cc pc = .ok (.tableswitch dflt lo hi offs, len)) (h1 : ¬ x.toInt < lo) (h2 : ¬ hi < x.toInt) (ho : offs[(x.toInt - lo).toNat]? = some off) (ht : (pc : Int) + off = (tgt : Int)) (k : V φ Ω nL d tgt L rest μ ρ) : V φ Ω nL d pc L (.int x :: rest) μ ρ := fun H locs a hP hS hl => lv_tableIn F.1 F.2.1 hd h1 h2 ho ht (k H locs a hP hS hl)
theorem V.lookup {dflt : Int} {ps : Array (Int × Int)} {len : Nat} {x : Int32} {off : Int} {tgt : Nat} (F : Fx φ Ω cc own nL ret) (hd : decode cc pc = .ok (.lookupswitch dflt ps, len)) (hp : (ps.toList.zip (ps.toList.drop 1)).all (fun (a, next) => a.1 < next.1) = true) (ho : Op.lookupswitch.offset ps.toList dflt x.toInt = off) (ht : (pc : Int) + off = (tgt : Int)) (k : V φ Ω nL d tgt L rest μ ρ) : V φ Ω nL d pc L (.int x :: rest) μ ρ := fun H locs a hP hS hl => lv_lookup F.1 F.2.1 hd hp ho ht (k H locs a hP hS hl)
theorem V.iret {v : Int32} (F : Fx φ Ω cc own nL (some .int)) (hd : decode cc pc = .ok (.ireturn, 1)) : V φ Ω nL d pc L [.int v] μ (some (.int v), μ) := fun H locs a hP hS hl => W.iret F.1 F.2.1 F.2.2.2.2.2.1 (fun t ht hW => ⟨⟨rfl, by rw [ht]; exact hP⟩, hS.F ht⟩) hS.2.2 hd F.2.2.2.2.2.2.1
theorem V.zret {v : Int32} (F : Fx φ Ω cc own nL (some .boolean)) (hv : v = 0 ∨ v = 1) (hd : decode cc pc = .ok (.ireturn, 1)) : V φ Ω nL d pc L [.int v] μ (some (.int v), μ) := fun H locs a hP hS hl => W.zret F.1 F.2.1 F.2.2.2.2.2.1 (by rcases hv with rfl | rfl <;> rfl) (fun t ht hW => ⟨⟨rfl, by rw [ht]; exact hP⟩, hS.F ht⟩) hS.2.2 hd F.2.2.2.2.2.2.1
theorem V.vret (F : Fx φ Ω cc own nL none) (hd : decode cc pc = .ok (.return_, 1)) : V φ Ω nL d pc L [] μ (none, μ) := fun H locs a hP hS hl => W.vret F.1 F.2.1 F.2.2.2.2.2.1 (fun t ht hW => ⟨⟨rfl, by rw [ht]; exact hP⟩, hS.F ht⟩) hS.2.2 hd F.2.2.2.2.2.2.1
theorem V.lret {v : Int64} (F : Fx φ Ω cc own nL (some .long)) (hd : decode cc pc = .ok (.lreturn, 1)) : V φ Ω nL d pc L [.long v] μ (some (.long v), μ) := fun H locs a hP hS hl => W.lret F.1 F.2.1 F.2.2.2.2.2.1 (fun t ht hW => ⟨⟨rfl, by rw [ht]; exact hP⟩, hS.F ht⟩) hS.2.2 hd F.2.2.2.2.2.2.1
theorem V.aret {q : Nat} {rt : FieldType} (F : Fx φ Ω cc own nL (some rt)) (hrt : (∃ n, rt = .object n) ∨ ∃ t, rt = .array t) (hd : decode cc pc = .ok (.areturn, 1)) : V φ Ω nL d pc L [.ref q] μ (some (.ref q), μ) := fun H locs a hP hS hl => W.aret F.1 F.2.1 F.2.2.2.2.2.1 hrt (Or.inr ⟨q, rfl⟩) (fun t ht hW => ⟨⟨rfl, by rw [ht]; exact hP⟩, hS.F ht⟩) hS.2.2 hd F.2.2.2.2.2.2.1

theorem V.getf {f i k ci idx N : Nat} {C : String} {T : u_T} {fs : List Value} {v : Value} (F : Fx φ Ω cc own nL ret) (hm : (f, i) ∈ Ω.1) (he : Ω.2 (gl φ).1 (gl φ).2.2.1 (μ.1 f i) μ.2 i f = .inr (ci, fs)) (hc : vwCl[ci]? = some (C, T, N)) (hk : k < N) (hin : ∀ w ∈ u_ws C T N, w ∈ lw_G) (hlink : Cond.fieldLink own idx (T k).1 (T k).2.1 (T k).2.2.1 ∈ lw_G) (hv : fs[k]? = some v) (hd : decode cc pc = .ok (.getfield idx, 3))
    (kk : V φ Ω nL d (pc + 3) L (v :: rest) μ ρ) : V φ Ω nL d pc L (rf φ f i :: rest) μ ρ := by
  intro H locs a hP hS hl
  obtain ⟨q, hq, hw⟩ := wl_get (Ω := Ω) (G := gl φ) (μ := μ) hm
  rw [he] at hw
  exact va_get F.1 F.2.1 F.2.2.2.2.1 hin F.2.2.2.1 F.C.1 hP q hw hc k hk (F.G hlink) (fun _ h => h) hv hd (kk H locs a hP hS hl)
theorem V.putf {f i k ci idx N : Nat} {C : String} {T : u_T} {fs : List Value} {v : Value} {ty : FieldType} {μ' : Mem} (F : Fx φ Ω cc own nL ret) (hm : (f, i) ∈ Ω.1) (he : Ω.2 (gl φ).1 (gl φ).2.2.1 (μ.1 f i) μ.2 i f = .inr (ci, fs)) (hc : vwCl[ci]? = some (C, T, N)) (hk : k < N) (hin : ∀ w ∈ u_ws C T N, w ∈ lw_G) (ty0 : Nat → FieldType) (hty : ∀ k, k < N → parseFieldDescriptor (T k).2.2.1 = some (ty0 k)) (hnm : ∀ a, a < N → ∀ b, b < N → a ≠ b → (T a).2.1 ≠ (T b).2.1) (hlink : Cond.fieldLink own idx (T k).1 (T k).2.1 (T k).2.2.1 ∈ lw_G) (hfin : (T k).2.2.2 = false) (hdt : parseFieldDescriptor (T k).2.2.1 = some ty) (hnar : narrow ty v = v) (hfit : fits ty v = true) (hlen : k < fs.length)
    (he' : Ω.2 (gl φ).1 (gl φ).2.2.1 (μ'.1 f i) μ'.2 i f = .inr (ci, fs.set k v)) (ho : ∀ f' i' : Nat, (f', i') ∈ Ω.1 → (f', i') ≠ (f, i) → Ω.2 (gl φ).1 (gl φ).2.2.1 (μ'.1 f' i') μ'.2 i' f' = Ω.2 (gl φ).1 (gl φ).2.2.1 (μ.1 f' i') μ.2 i' f') (hd : decode cc pc = .ok (.putfield idx, 3))
    (kk : V φ Ω nL d (pc + 3) L rest μ' ρ) : V φ Ω nL d pc L (v :: rf φ f i :: rest) μ ρ := by
  intro H locs a hP hS hl
  obtain ⟨q, hq, hw⟩ := wl_get (Ω := Ω) (G := gl φ) (μ := μ) hm
  rw [he] at hw
  refine va_put F.1 F.2.1 F.2.2.2.2.1 hin ty0 hty hnm F.2.2.2.1 F.C.1 hP (wl_D F.C.2.1.1 F.C.2.1.2) hS q hw hc k hk (F.G hlink) (fun _ h => h) hfin hdt hnar hfit hlen hd (fun H1 locs1 hP1 hD1 hS1 => ?_)
  rw [wl_set (μ' := μ') F.C.2.1.1 hq he' ho] at hP1
  exact kk H1 locs1 a hP1 hS1 hl
theorem V.puti {f i k ci idx N : Nat} {C : String} {T : u_T} {fs : List Value} {x : Int32} {ty : FieldType} (F : Fx φ Ω cc own nL ret) (hm : (f, i) ∈ Ω.1) (he : Ω.2 (gl φ).1 (gl φ).2.2.1 (μ.1 f i) μ.2 i f = .inr (ci, fs)) (hc : vwCl[ci]? = some (C, T, N)) (hk : k < N) (hin : ∀ w ∈ u_ws C T N, w ∈ lw_G) (ty0 : Nat → FieldType) (hty : ∀ k, k < N → parseFieldDescriptor (T k).2.2.1 = some (ty0 k)) (hnm : ∀ a, a < N → ∀ b, b < N → a ≠ b → (T a).2.1 ≠ (T b).2.1) (hlink : Cond.fieldLink own idx (T k).1 (T k).2.1 (T k).2.2.1 ∈ lw_G) (hfin : (T k).2.2.2 = false) (hdt : parseFieldDescriptor (T k).2.2.1 = some ty) (hnar : narrow ty (.int x) = .int x) (hfit : fits ty (.int x) = true) (hlen : k < fs.length)
    (he' : Ω.2 (gl φ).1 (gl φ).2.2.1 (upd (μ.1 f i) k x) μ.2 i f = .inr (ci, fs.set k (.int x))) (hd : decode cc pc = .ok (.putfield idx, 3))
    (kk : V φ Ω nL d (pc + 3) L rest (up μ f i k x) ρ) : V φ Ω nL d pc L (.int x :: rf φ f i :: rest) μ ρ :=
  V.putf F hm he hc hk hin ty0 hty hnm hlink hfin hdt hnar hfit hlen (by rw [up_row]; exact he') (fun f' i' _ h => by rw [up_off μ x (fun q => h (by rw [q.1, q.2]))]; rfl) hd kk
theorem V.iald {f i n t0 : Nat} {cA : ClassId} {j : Int32} {g : Nat → Int32} (F : Fx φ Ω cc own nL ret) (hm : (f, i) ∈ Ω.1) (he : Ω.2 (gl φ).1 (gl φ).2.2.1 (μ.1 f i) μ.2 i f = .inl (cA, n, .inl g)) (ht : (tysOf (gl φ))[t0]? = some (cA, .int)) (hj : inb j n) (hd : decode cc pc = .ok (.iaload, 1))
    (kk : V φ Ω nL d (pc + 1) L (.int (g (ix j)) :: rest) μ ρ) : V φ Ω nL d pc L (.int j :: rf φ f i :: rest) μ ρ := by
  intro H locs a hP hS hl
  obtain ⟨q, hq, hw⟩ := wl_get (Ω := Ω) (G := gl φ) (μ := μ) hm
  rw [he] at hw
  exact va_iald F.1 F.2.1 F.C.1 hP q t0 hw ht hj hd (kk H locs a hP hS hl)
theorem V.zald {f i n t0 : Nat} {cA : ClassId} {j : Int32} {g : Nat → Int32} (F : Fx φ Ω cc own nL ret) (hm : (f, i) ∈ Ω.1) (he : Ω.2 (gl φ).1 (gl φ).2.2.1 (μ.1 f i) μ.2 i f = .inl (cA, n, .inl g)) (ht : (tysOf (gl φ))[t0]? = some (cA, .boolean)) (hj : inb j n) (hd : decode cc pc = .ok (.baload, 1))
    (kk : V φ Ω nL d (pc + 1) L (.int (g (ix j)) :: rest) μ ρ) : V φ Ω nL d pc L (.int j :: rf φ f i :: rest) μ ρ := by
  intro H locs a hP hS hl
  obtain ⟨q, hq, hw⟩ := wl_get (Ω := Ω) (G := gl φ) (μ := μ) hm
  rw [he] at hw
  exact va_zald F.1 F.2.1 F.C.1 hP q t0 hw ht hj hd (kk H locs a hP hS hl)
theorem V.iast {f i n t0 : Nat} {cA : ClassId} {j x : Int32} (F : Fx φ Ω cc own nL ret) (hm : (f, i) ∈ Ω.1) (he : ∀ r : Nat → Int32, Ω.2 (gl φ).1 (gl φ).2.2.1 r μ.2 i f = .inl (cA, n, .inl r)) (ht : (tysOf (gl φ))[t0]? = some (cA, .int)) (hj : inb j n) (hd : decode cc pc = .ok (.iastore, 1))
    (kk : V φ Ω nL d (pc + 1) L rest (up μ f i (ix j) x) ρ) : V φ Ω nL d pc L (.int x :: .int j :: rf φ f i :: rest) μ ρ := by
  intro H locs a hP hS hl
  obtain ⟨q, hq, hw⟩ := wl_get (Ω := Ω) (G := gl φ) (μ := μ) hm
  rw [he] at hw
  refine va_iast F.1 F.2.1 F.C.1 hP (wl_D F.C.2.1.1 F.C.2.1.2) hS q t0 hw ht hj hd (fun H1 locs1 hP1 hD1 hS1 => ?_)
  rw [wl_set (μ' := up μ f i (ix j) x) F.C.2.1.1 hq (by rw [up_row]; exact he _) (fun f' i' _ h => by rw [up_off μ x (fun q => h (by rw [q.1, q.2]))]; rfl)] at hP1
  exact kk H1 locs1 a hP1 hS1 hl
theorem V.zast {f i n t0 : Nat} {cA : ClassId} {j x : Int32} (F : Fx φ Ω cc own nL ret) (hm : (f, i) ∈ Ω.1) (he : ∀ r : Nat → Int32, Ω.2 (gl φ).1 (gl φ).2.2.1 r μ.2 i f = .inl (cA, n, .inl r)) (ht : (tysOf (gl φ))[t0]? = some (cA, .boolean)) (hj : inb j n) (hd : decode cc pc = .ok (.bastore, 1))
    (kk : V φ Ω nL d (pc + 1) L rest (up μ f i (ix j) (vp_nar .boolean x)) ρ) : V φ Ω nL d pc L (.int x :: .int j :: rf φ f i :: rest) μ ρ := by
  intro H locs a hP hS hl
  obtain ⟨q, hq, hw⟩ := wl_get (Ω := Ω) (G := gl φ) (μ := μ) hm
  rw [he] at hw
  refine va_zast F.1 F.2.1 F.C.1 hP (wl_D F.C.2.1.1 F.C.2.1.2) hS q t0 hw ht hj hd (fun H1 locs1 hP1 hD1 hS1 => ?_)
  rw [wl_set (μ' := up μ f i (ix j) (vp_nar .boolean x)) F.C.2.1.1 hq (by rw [up_row]; exact he _) (fun f' i' _ h => by rw [up_off μ (vp_nar .boolean x) (fun q => h (by rw [q.1, q.2]))]; rfl)] at hP1
  exact kk H1 locs1 a hP1 hS1 hl
theorem V.aald {f i n t0 y : Nat} {cA : ClassId} {C : String} {j : Int32} {g : Nat → Option Nat} (F : Fx φ Ω cc own nL ret) (hm : (f, i) ∈ Ω.1) (he : Ω.2 (gl φ).1 (gl φ).2.2.1 (μ.1 f i) μ.2 i f = .inl (cA, n, .inr (.inr (.inr (.inr g))))) (ht : (tysOf (gl φ))[t0]? = some (cA, .object C)) (hj : inb j n) (hg : g (ix j) = some y) (hd : decode cc pc = .ok (.aaload, 1))
    (kk : V φ Ω nL d (pc + 1) L (.ref y :: rest) μ ρ) : V φ Ω nL d pc L (.int j :: rf φ f i :: rest) μ ρ := by
  intro H locs a hP hS hl
  obtain ⟨q, hq, hw⟩ := wl_get (Ω := Ω) (G := gl φ) (μ := μ) hm
  rw [he] at hw
  refine va_aldq F.1 F.2.1 F.C.1 hP q t0 hw ht hj hd ?_
  rw [show g j.toNatClampNeg = some y from hg]
  exact kk H locs a hP hS hl
theorem V.gald {f i n t0 y : Nat} {cA : ClassId} {j : Int32} {g : Nat → Option Nat} (F : Fx φ Ω cc own nL ret) (hm : (f, i) ∈ Ω.1) (he : Ω.2 (gl φ).1 (gl φ).2.2.1 (μ.1 f i) μ.2 i f = .inl (cA, n, .inr (.inr (.inr (.inr g))))) (ht : (tysOf (gl φ))[t0]? = some (cA, .array .int)) (hj : inb j n) (hg : g (ix j) = some y) (hd : decode cc pc = .ok (.aaload, 1))
    (kk : V φ Ω nL d (pc + 1) L (.ref y :: rest) μ ρ) : V φ Ω nL d pc L (.int j :: rf φ f i :: rest) μ ρ := by
  intro H locs a hP hS hl
  obtain ⟨q, hq, hw⟩ := wl_get (Ω := Ω) (G := gl φ) (μ := μ) hm
  rw [he] at hw
  have hlt : ix j < n := Nat.not_le.mp fun z => hj (Or.inr z)
  have k2 := kk H locs a hP hS hl
  refine W.aald (v := va_rf (g j.toNatClampNeg)) (ty := .array .int) F.1 F.2.1 (hP q _ hw) ((F.C.1.2 t0 _ ht).1 n (fun j => va_rf (g j))) rfl (fun q => by cases q) (by show ¬ (j < 0 ∨ (arrV _ _ _).slots.size ≤ _); rw [arrV_size]; exact hj) (by show (arrV _ _ _).slots[_]? = _; rw [arrV_read _ _ hlt]) rfl rfl hd ?_
  rw [show g j.toNatClampNeg = some y from hg]
  exact k2
theorem V.under {idx : Nat} (F : Fx φ Ω cc own nL ret) (hw : Cond.fieldLink own idx "SewnUp" "UNDER" "[I" ∈ lw_G) (hd : decode cc pc = .ok (.getstatic idx, 3)) (kk : V φ Ω nL d (pc + 3) L (.ref (gl φ).2.2.2.2.2 :: rest) μ ρ) : V φ Ω nL d pc L rest μ ρ := fun H locs a hP hS hl => va_gets F.1 F.2.1 F.C.2.2.1.1 hS F.2.2.2.1 (F.G hw) (fun _ h => h) hd (kk H locs a hP hS hl)
def underT (n : Nat) : Int32 := ([-1, 0, 0, 1, 2, 0] : List Int32).getD n 0
theorem V.underAt {j : Int32} (F : Fx φ Ω cc own nL ret) (hj : inb j 6) (hd : decode cc pc = .ok (.iaload, 1)) (kk : V φ Ω nL d (pc + 1) L (.int (underT (ix j)) :: rest) μ ρ) : V φ Ω nL d pc L (.int j :: .ref (gl φ).2.2.2.2.2 :: rest) μ ρ := fun H locs a hP hS hl => va_ti F.1 F.2.1 F.C.2.2.1.2 hS hj rfl hd (kk H locs a hP hS hl)
/-- the words of a call -/
def CkV (own : String) (idx : Nat) (y : MethodName) (b : ByteArray) (n' : Nat) (r : Option FieldType) (n : Nat) : Prop := Cond.methodLink own idx y ∈ lw_G ∧ Cond.instanceMethod y ∈ lw_G ∧ Cond.selects y.cls y y ∈ lw_G ∧ Cond.initialized y.cls ∈ lw_G ∧ Cond.code y b n' r ∈ lw_G ∧ (y.cls ≠ "java/lang/invoke/MethodHandle" ∧ y.cls ≠ "java/lang/invoke/VarHandle" ∧ (parseMethodDescriptor y.desc).map (fun d => d.parameters.length) = some n)
def CkS (own : String) (idx : Nat) (y : MethodName) (b : ByteArray) (n' : Nat) (r : Option FieldType) (n : Nat) : Prop := Cond.methodLink own idx y ∈ lw_G ∧ Cond.static y ∈ lw_G ∧ Cond.initialized y.cls ∈ lw_G ∧ Cond.code y b n' r ∈ lw_G ∧ (y.cls ≠ "java/lang/invoke/MethodHandle" ∧ y.cls ≠ "java/lang/invoke/VarHandle" ∧ (parseMethodDescriptor y.desc).map (fun d => d.parameters.length) = some n)
theorem gi_code {y : MethodName} {b : ByteArray} {n' : Nat} {r : Option FieldType} (h : Cond.code y b n' r ∈ lw_G) : GoodIn lw_G (Cond.code y b n' r :: lw_G) := by
  intro w hw
  rcases List.mem_cons.mp hw with rfl | hw
  · exact ⟨h, lw_G_good _ h⟩
  · exact ⟨hw, lw_G_good _ hw⟩
theorem gi_V {own : String} {idx n n' : Nat} {y : MethodName} {b : ByteArray} {r : Option FieldType} (h : CkV own idx y b n' r n) : GoodIn lw_G (wsV own idx y.cls y (Cond.code y b n' r :: lw_G)) := by
  obtain ⟨h1, h2, h3, h4, h5, -⟩ := h
  intro w hw
  unfold wsV at hw
  rcases List.mem_append.mp hw with hw | hw
  · have hm : w ∈ lw_G := by
      simp only [List.mem_cons, List.not_mem_nil, or_false] at hw
      rcases hw with rfl | rfl | rfl | rfl
      · exact h1
      · exact h2
      · exact h3
      · exact h4
    exact ⟨hm, lw_G_good _ hm⟩
  · exact gi_code h5 w hw
theorem rm_fit {d' d n' : Nat} (hd : d' < d) (hn : n' ≤ 60) : (rmD d').frames + 1 ≤ (rmD d).frames ∧ 8 + (n' + 11) + (rmD d').locals ≤ (rmD d).locals := by
  simp only [rmD]
  omega
theorem Ct_blind {Ω : Wld} {G : Glo} {μ : Mem} {as : List Value} : FrameBlind (va_Pc as (fun U => Cx Ω G U U.heap ∧ Wd Ω G μ U.heap)) := fun a U g mk q => ⟨q.1, q.2.1.calling g mk a, q.2.2⟩
theorem V.run {μ1 : Mem} {r : Option Value} {as : Array Value} (hr : ∀ (H : Heap) (locs : List Loc) (a : Array Slot), Wd Ω (gl φ) μ H → va_S (Aw Ω (gl φ)) φ.1.2.2.2.1.heap H locs → hasL a nL L → va_Run φ.1.1 φ.1.2.1 φ.1.2.2.1 (rmD d) φ.1.2.2.2.1 φ.1.2.2.2.2.1 φ.1.2.2.2.2.2 φ.2.1 φ.2.2.1 φ.2.2.2.1 H locs 0 0 0 0 (F0 φ.1.2.2.2.2.1 pc a st) rest (Qr Ω (gl φ) (r, μ1) as) (Aw Ω (gl φ)))
    (k : V φ Ω nL d (pc + 3) L (r.toList ++ rest) μ1 ρ) : V φ Ω nL d pc L st μ ρ := by
  intro H locs a hP hS hl T hT X
  obtain ⟨v, st₀, t, T', L', h0, X', hL, e1, e2, ⟨⟨hv, hp⟩, hz, hk⟩, stp⟩ := hr H locs a hP hS hl T hT X
  cases hv
  rw [h0] at hz hk
  obtain ⟨t2, a1, b1⟩ := k T'.heap (locs ++ L') a (by rw [e1]; exact hp)
    ⟨Nat.le_trans hS.1 (by rw [e1]; exact hz), fun q h1 h2 => by rw [e1, hk q (Nat.lt_of_lt_of_le h1 hS.1) h2]; exact hS.2.1 q h1 h2, fun q hq => by
      rcases List.mem_append.mp hq with h | h
      · exact hS.2.2 q h
      · exact hL q h⟩ hl T' rfl X'
  exact ⟨t2, stp t2 a1, b1⟩
/-- a call of an object's method -/
theorem V.callV {As : List Value} {f i ci idx d' n n' N : Nat} {y : MethodName} {b : ByteArray} {rt : Option FieldType} {r : Option Value} {μ1 : Mem} {T : u_T} {fs : List Value} (F : Fx φ Ω cc own nL ret) (ck : CkV own idx y b n' rt n) (hc : Ct φ.1.2.1 Ω (gl φ) d' y b n' rt (rf φ f i :: As) μ (r, μ1)) (hd' : d' < d) (hn' : n' ≤ 60) (hn : As.length = n) (hm : (f, i) ∈ Ω.1) (he : Ω.2 (gl φ).1 (gl φ).2.2.1 (μ.1 f i) μ.2 i f = .inr (ci, fs)) (hcl : vwCl[ci]? = some (y.cls, T, N)) (hst : st = As.reverse ++ rf φ f i :: rest) (hrest : (rest.map fun v => v.category).sum ≤ 8) (hd : decode cc pc = .ok (.invokevirtual idx, 3))
    (k : V φ Ω nL d (pc + 3) L (r.toList ++ rest) μ1 ρ) : V φ Ω nL d pc L st μ ρ := by
  refine V.run (as := (Value.ref ((gl φ).1 f i) :: As).toArray) (fun H locs a hP hS hl => ?_) k
  obtain ⟨q, hq, hw⟩ := wl_get (Ω := Ω) (G := gl φ) (μ := μ) hm
  rw [he] at hw
  have cw := cwV (R := rmD d) (bytes := b) (maxL := n') (ret := rt) (rm := rmD d') (mc := 0) (ms := 0) n F.2.2.2.2.1 (gi_V ck) rfl rfl rfl ⟨rfl, ck.2.2.2.2.2⟩ (rm_fit hd' hn')
  exact va_runV (As := As) (rest := rest) (b := (gl φ).1 f i) ⟨F.1, F.2.1, F.2.2.1, F.2.2.2.1, F.2.2.2.2.1⟩ hc cw ⟨Ct_blind, va_recv F.C.1 hP hcl hw, fun U hU hW => ⟨rfl, F.C.at hW (fun _ h => h) hS hU, by rw [hU]; exact hP⟩⟩ rfl hn hl.1 hst (lv_room hrest) hd ⟨Nat.zero_le _, Nat.zero_le _⟩
/-- a call of a static method -/
theorem V.callS {As : List Value} {idx d' n n' : Nat} {y : MethodName} {b : ByteArray} {rt : Option FieldType} {r : Option Value} {μ1 : Mem} (F : Fx φ Ω cc own nL ret) (ck : CkS own idx y b n' rt n) (hc : Ct φ.1.2.1 Ω (gl φ) d' y b n' rt As μ (r, μ1)) (hd' : d' < d) (hn' : n' ≤ 60) (hn : As.length = n) (hst : st = As.reverse ++ rest) (hrest : (rest.map fun v => v.category).sum ≤ 8) (hd : decode cc pc = .ok (.invokestatic idx, 3))
    (k : V φ Ω nL d (pc + 3) L (r.toList ++ rest) μ1 ρ) : V φ Ω nL d pc L st μ ρ := by
  refine V.run (as := As.toArray) (fun H locs a hP hS hl => ?_) k
  obtain ⟨c1, c2, c3, c4, c5⟩ := ck
  have cw := callB_of (R := rmD d) (own := own) (index := idx) (bytes := b) (maxL := n') (ret := rt) (rm := rmD d') (mc := 0) (ms := 0) n F.2.2.2.2.1 (gi_code c4) rfl rfl rfl (F.G c3) (F.G c1) c5 (rm_fit hd' hn')
  exact va_runS (As := As) (rest := rest) ⟨F.1, F.2.1, F.2.2.1, F.2.2.2.1, F.2.2.2.2.1⟩ hc ⟨cw, F.G c2⟩ ⟨Ct_blind, fun U hU hW => ⟨rfl, F.C.at hW (fun _ h => h) hS hU, by rw [hU]; exact hP⟩⟩ rfl hn hl.1 hst (lv_room hrest) hd ⟨Nat.zero_le _, Nat.zero_le _⟩
/-- a call of a nest mate's private static method -/
theorem V.callSN {As : List Value} {idx d' n n' : Nat} {y : MethodName} {host : String} {b : ByteArray} {rt : Option FieldType} {r : Option Value} {μ1 : Mem} (F : Fx φ Ω cc own nL ret) (hNw : va_Nw (.methodLinkNest own idx y host) φ.1.2.2.2.1) (c2 : Cond.static y ∈ lw_G) (c3 : Cond.initialized y.cls ∈ lw_G) (c4 : Cond.code y b n' rt ∈ lw_G) (c5 : (y.cls ≠ "java/lang/invoke/MethodHandle" ∧ y.cls ≠ "java/lang/invoke/VarHandle" ∧ (parseMethodDescriptor y.desc).map (fun d => d.parameters.length) = some n)) (hc : Ct φ.1.2.1 Ω (gl φ) d' y b n' rt As μ (r, μ1)) (hd' : d' < d) (hn' : n' ≤ 60) (hn : As.length = n) (hst : st = As.reverse ++ rest) (hrest : (rest.map fun v => v.category).sum ≤ 8) (hd : decode cc pc = .ok (.invokestatic idx, 3))
    (k : V φ Ω nL d (pc + 3) L (r.toList ++ rest) μ1 ρ) : V φ Ω nL d pc L st μ ρ := by
  refine V.run (as := As.toArray) (fun H locs a hP hS hl => ?_) k
  have cw := va_cnB (R := rmD d) (bytes := b) (maxL := n') (ret := rt) (rm := rmD d') (mc := 0) (ms := 0) n F.2.2.2.2.1 (gi_code c4) rfl rfl rfl hNw (F.G c3) c5 (rm_fit hd' hn')
  exact va_runSN (As := As) (rest := rest) ⟨F.1, F.2.1, F.2.2.1, F.2.2.2.1, F.2.2.2.2.1⟩ hc ⟨cw, F.G c2, trivial⟩ ⟨Ct_blind, fun U hU hW => ⟨rfl, F.C.at hW (fun _ h => h) hS hU, by rw [hU]; exact hP⟩⟩ rfl hn hl.1 hst (lv_room hrest) hd ⟨Nat.zero_le _, Nat.zero_le _⟩
theorem V.mmax {x y : Int32} {idx : Nat} (F : Fx φ Ω cc own nL ret) (h1 : Cond.methodLink own idx Lib.Math.max.name ∈ lw_G) (h2 : Cond.static Lib.Math.max.name ∈ lw_G) (h3 : Cond.initialized "java/lang/Math" ∈ lw_G) (h4 : Cond.code Lib.Math.max.name Lib.Math.max.code 2 (some .int) ∈ lw_G) (hr : (rest.map fun v => v.category).sum ≤ 8) (hd : decode cc pc = .ok (.invokestatic idx, 3)) (k : V φ Ω nL d (pc + 3) L (.int (if x < y then y else x) :: rest) μ ρ) : V φ Ω nL d pc L (.int y :: .int x :: rest) μ ρ := fun H locs a hP hS hl => va_mmax F.1 F.2.1 (F.2.2.1.trans hl.1.symm) F.2.2.2.1 (F.G h1) (F.G h2) (F.G h3) (F.G h4) (by simp [rmD]) (by simp only [rmD]; omega) (Nat.zero_le _) (Nat.zero_le _) hd (k H locs a hP hS hl)
theorem V.mmin {x y : Int32} {idx : Nat} (F : Fx φ Ω cc own nL ret) (h1 : Cond.methodLink own idx Lib.Math.min.name ∈ lw_G) (h2 : Cond.static Lib.Math.min.name ∈ lw_G) (h3 : Cond.initialized "java/lang/Math" ∈ lw_G) (h4 : Cond.code Lib.Math.min.name Lib.Math.min.code 2 (some .int) ∈ lw_G) (hr : (rest.map fun v => v.category).sum ≤ 8) (hd : decode cc pc = .ok (.invokestatic idx, 3)) (k : V φ Ω nL d (pc + 3) L (.int (if y < x then y else x) :: rest) μ ρ) : V φ Ω nL d pc L (.int y :: .int x :: rest) μ ρ := fun H locs a hP hS hl => va_mmin F.1 F.2.1 (F.2.2.1.trans hl.1.symm) F.2.2.2.1 (F.G h1) (F.G h2) (F.G h3) (F.G h4) (by simp [rmD]) (by simp only [rmD]; omega) (Nat.zero_le _) (Nat.zero_le _) hd (k H locs a hP hS hl)
theorem cpy_row (μ : Mem) (f i j i2 j2 n : Nat) : (cpyM μ f i j i2 j2 n).1 f i2 = va_cpy (μ.1 f i) (μ.1 f i2) j j2 n := by
  funext q
  simp [cpyM]
theorem cpy_off (μ : Mem) {f i j i2 j2 n f' i' : Nat} (h : ¬ (f' = f ∧ i' = i2)) : (cpyM μ f i j i2 j2 n).1 f' i' = μ.1 f' i' := by
  funext q
  simp only [cpyM]
  rw [if_neg h]
theorem V.copy {f i i2 N t0 idx : Nat} {cA : ClassId} {sp dp n : Int32} (F : Fx φ Ω cc own nL ret) (w1 : Cond.methodLink own idx arraycopyName ∈ lw_G) (w2 : Cond.native arraycopyName ∈ lw_G) (w3 : Cond.static arraycopyName ∈ lw_G) (w4 : Cond.initialized "java/lang/System" ∈ lw_G) (hm : (f, i) ∈ Ω.1) (hm2 : (f, i2) ∈ Ω.1) (he : ∀ (r : Nat → Int32) (i : Nat), Ω.2 (gl φ).1 (gl φ).2.2.1 r μ.2 i f = .inl (cA, N, .inl r)) (ht : (tysOf (gl φ))[t0]? = some (cA, .int)) (h : ¬ sp < 0 ∧ ¬ dp < 0 ∧ ¬ n < 0 ∧ ix sp + ix n ≤ N ∧ ix dp + ix n ≤ N) (hr : (rest.map fun v => v.category).sum ≤ 8) (hd : decode cc pc = .ok (.invokestatic idx, 3))
    (kk : V φ Ω nL d (pc + 3) L rest (cpyM μ f i (ix sp) i2 (ix dp) (ix n)) ρ) : V φ Ω nL d pc L (.int n :: .int dp :: rf φ f i2 :: .int sp :: rf φ f i :: rest) μ ρ := by
  intro H locs a hP hS hl
  obtain ⟨q, hq, hw⟩ := wl_get (Ω := Ω) (G := gl φ) (μ := μ) hm
  obtain ⟨q2, hq2, hw2⟩ := wl_get (Ω := Ω) (G := gl φ) (μ := μ) hm2
  rw [he] at hw hw2
  refine va_copyi F.1 F.2.1 (F.2.2.1.trans hl.1.symm) F.2.2.2.1 (F.G w1) (F.G w2) (F.G w3) (F.G w4) F.C.1 hP (wl_D F.C.2.1.1 F.C.2.1.2) hS q q2 t0 t0 hw hw2 ht ht rfl h.1 h.2.1 h.2.2.1 h.2.2.2.1 h.2.2.2.2 (fun _ _ => rfl) (by simp [rmD]) ?_ hd (fun H1 locs1 hP1 hD1 hS1 => ?_)
  · have e : nativeFrameWords "java/lang/System" "arraycopy" 5 + 11 ≤ 80 := by decide +kernel
    simp only [rmD]
    omega
  · rw [wl_set (μ' := cpyM μ f i (ix sp) i2 (ix dp) (ix n)) F.C.2.1.1 hq2 (by rw [cpy_row]; exact he _ _) (fun f' i' _ h => by rw [cpy_off μ (fun q => h (by rw [q.1, q.2]))]; rfl)] at hP1
    exact kk H1 locs1 a hP1 hS1 hl
end VROWS
end
