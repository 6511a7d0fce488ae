section
-- ===== PART A: goes FIRST, ahead of the names: the tables' words, and 'selects' of the private methods out of them =====
/-- a private method of a class that the tables say can be made, by its rows of tables_1 -/
def lw_okq (q : MethodName × Nat) : Prop := (q.1.cls ≠ "java/lang/invoke/MethodHandle" ∧ q.1.cls ≠ "java/lang/invoke/VarHandle") ∧ Cond.instantiable q.1.cls q.2 ∈ tables_1 ∧ Cond.privateMethod q.1 ∈ tables_1 ∧ Cond.instanceMethod q.1 ∈ tables_1
theorem lw_p0 : lw_okq (⟨"OppositePairs$Reader", "take", "(I)V"⟩, 11) := ⟨⟨by decide +kernel, by decide +kernel⟩, List.mem_of_getElem? (i := 25) (by decide +kernel), List.mem_of_getElem? (i := 391) (by decide +kernel), List.mem_of_getElem? (i := 392) (by decide +kernel)⟩
theorem lw_p1 : lw_okq (⟨"OppositePairs$Reader", "read", "(LOppositePairs$Told;)V"⟩, 11) := ⟨⟨by decide +kernel, by decide +kernel⟩, List.mem_of_getElem? (i := 25) (by decide +kernel), List.mem_of_getElem? (i := 403) (by decide +kernel), List.mem_of_getElem? (i := 404) (by decide +kernel)⟩
theorem lw_p2 : lw_okq (⟨"OppositePairs$Told", "clear", "()V"⟩, 10) := ⟨⟨by decide +kernel, by decide +kernel⟩, List.mem_of_getElem? (i := 69) (by decide +kernel), List.mem_of_getElem? (i := 407) (by decide +kernel), List.mem_of_getElem? (i := 408) (by decide +kernel)⟩
theorem lw_p3 : lw_okq (⟨"OppositePairs$Reader", "nextToken", "()V"⟩, 11) := ⟨⟨by decide +kernel, by decide +kernel⟩, List.mem_of_getElem? (i := 25) (by decide +kernel), List.mem_of_getElem? (i := 411) (by decide +kernel), List.mem_of_getElem? (i := 412) (by decide +kernel)⟩
theorem lw_p4 : lw_okq (⟨"OppositePairs$Reader", "readLetters", "()V"⟩, 11) := ⟨⟨by decide +kernel, by decide +kernel⟩, List.mem_of_getElem? (i := 25) (by decide +kernel), List.mem_of_getElem? (i := 421) (by decide +kernel), List.mem_of_getElem? (i := 422) (by decide +kernel)⟩
theorem lw_p5 : lw_okq (⟨"OppositePairs$Reader", "readClause", "()V"⟩, 11) := ⟨⟨by decide +kernel, by decide +kernel⟩, List.mem_of_getElem? (i := 25) (by decide +kernel), List.mem_of_getElem? (i := 425) (by decide +kernel), List.mem_of_getElem? (i := 426) (by decide +kernel)⟩
theorem lw_p6 : lw_okq (⟨"OppositePairs$Reader", "startsLiteral", "()Z"⟩, 11) := ⟨⟨by decide +kernel, by decide +kernel⟩, List.mem_of_getElem? (i := 25) (by decide +kernel), List.mem_of_getElem? (i := 429) (by decide +kernel), List.mem_of_getElem? (i := 430) (by decide +kernel)⟩
theorem lw_p7 : lw_okq (⟨"OppositePairs$Reader", "blame", "(I)V"⟩, 11) := ⟨⟨by decide +kernel, by decide +kernel⟩, List.mem_of_getElem? (i := 25) (by decide +kernel), List.mem_of_getElem? (i := 433) (by decide +kernel), List.mem_of_getElem? (i := 434) (by decide +kernel)⟩
theorem lw_p8 : lw_okq (⟨"OppositePairs$Reader", "readLiteral", "(II)V"⟩, 11) := ⟨⟨by decide +kernel, by decide +kernel⟩, List.mem_of_getElem? (i := 25) (by decide +kernel), List.mem_of_getElem? (i := 437) (by decide +kernel), List.mem_of_getElem? (i := 438) (by decide +kernel)⟩
theorem lw_p9 : lw_okq (⟨"OppositePairs$Reader", "readPart", "(I)I"⟩, 11) := ⟨⟨by decide +kernel, by decide +kernel⟩, List.mem_of_getElem? (i := 25) (by decide +kernel), List.mem_of_getElem? (i := 441) (by decide +kernel), List.mem_of_getElem? (i := 442) (by decide +kernel)⟩
theorem lw_p10 : lw_okq (⟨"OppositePairs$Told", "add", "(JI)I"⟩, 10) := ⟨⟨by decide +kernel, by decide +kernel⟩, List.mem_of_getElem? (i := 69) (by decide +kernel), List.mem_of_getElem? (i := 445) (by decide +kernel), List.mem_of_getElem? (i := 446) (by decide +kernel)⟩
theorem lw_p11 : lw_okq (⟨"OppositePairs$Reader", "variablePart", "()I"⟩, 11) := ⟨⟨by decide +kernel, by decide +kernel⟩, List.mem_of_getElem? (i := 25) (by decide +kernel), List.mem_of_getElem? (i := 452) (by decide +kernel), List.mem_of_getElem? (i := 453) (by decide +kernel)⟩
theorem lw_p12 : lw_okq (⟨"OppositePairs", "forgetAll", "()V"⟩, 8) := ⟨⟨by decide +kernel, by decide +kernel⟩, List.mem_of_getElem? (i := 17) (by decide +kernel), List.mem_of_getElem? (i := 456) (by decide +kernel), List.mem_of_getElem? (i := 457) (by decide +kernel)⟩
theorem lw_p13 : lw_okq (⟨"OppositePairs$Matrix", "forget", "()V"⟩, 12) := ⟨⟨by decide +kernel, by decide +kernel⟩, List.mem_of_getElem? (i := 287) (by decide +kernel), List.mem_of_getElem? (i := 460) (by decide +kernel), List.mem_of_getElem? (i := 461) (by decide +kernel)⟩
theorem lw_p14 : lw_okq (⟨"OppositePairs$Told", "isClause", "(I)Z"⟩, 10) := ⟨⟨by decide +kernel, by decide +kernel⟩, List.mem_of_getElem? (i := 69) (by decide +kernel), List.mem_of_getElem? (i := 472) (by decide +kernel), List.mem_of_getElem? (i := 473) (by decide +kernel)⟩
theorem lw_p15 : lw_okq (⟨"OppositePairs$Told", "remove", "(I)V"⟩, 10) := ⟨⟨by decide +kernel, by decide +kernel⟩, List.mem_of_getElem? (i := 69) (by decide +kernel), List.mem_of_getElem? (i := 476) (by decide +kernel), List.mem_of_getElem? (i := 477) (by decide +kernel)⟩
def lw_privs_1 : List (MethodName × Nat) := [(⟨"OppositePairs$Reader", "take", "(I)V"⟩, 11), (⟨"OppositePairs$Reader", "read", "(LOppositePairs$Told;)V"⟩, 11), (⟨"OppositePairs$Told", "clear", "()V"⟩, 10), (⟨"OppositePairs$Reader", "nextToken", "()V"⟩, 11), (⟨"OppositePairs$Reader", "readLetters", "()V"⟩, 11), (⟨"OppositePairs$Reader", "readClause", "()V"⟩, 11), (⟨"OppositePairs$Reader", "startsLiteral", "()Z"⟩, 11), (⟨"OppositePairs$Reader", "blame", "(I)V"⟩, 11), (⟨"OppositePairs$Reader", "readLiteral", "(II)V"⟩, 11), (⟨"OppositePairs$Reader", "readPart", "(I)I"⟩, 11), (⟨"OppositePairs$Told", "add", "(JI)I"⟩, 10), (⟨"OppositePairs$Reader", "variablePart", "()I"⟩, 11), (⟨"OppositePairs", "forgetAll", "()V"⟩, 8), (⟨"OppositePairs$Matrix", "forget", "()V"⟩, 12), (⟨"OppositePairs$Told", "isClause", "(I)Z"⟩, 10), (⟨"OppositePairs$Told", "remove", "(I)V"⟩, 10)]
theorem lw_r1 : ∀ q ∈ lw_privs_1, lw_okq q := List.forall_mem_cons.mpr ⟨lw_p0, List.forall_mem_cons.mpr ⟨lw_p1, List.forall_mem_cons.mpr ⟨lw_p2, List.forall_mem_cons.mpr ⟨lw_p3, List.forall_mem_cons.mpr ⟨lw_p4, List.forall_mem_cons.mpr ⟨lw_p5, List.forall_mem_cons.mpr ⟨lw_p6, List.forall_mem_cons.mpr ⟨lw_p7, List.forall_mem_cons.mpr ⟨lw_p8, List.forall_mem_cons.mpr ⟨lw_p9, List.forall_mem_cons.mpr ⟨lw_p10, List.forall_mem_cons.mpr ⟨lw_p11, List.forall_mem_cons.mpr ⟨lw_p12, List.forall_mem_cons.mpr ⟨lw_p13, List.forall_mem_cons.mpr ⟨lw_p14, List.forall_mem_cons.mpr ⟨lw_p15, fun _ h => absurd h List.not_mem_nil⟩⟩⟩⟩⟩⟩⟩⟩⟩⟩⟩⟩⟩⟩⟩⟩
theorem lw_p16 : lw_okq (⟨"OppositePairs", "partsOf", "(I)I"⟩, 8) := ⟨⟨by decide +kernel, by decide +kernel⟩, List.mem_of_getElem? (i := 17) (by decide +kernel), List.mem_of_getElem? (i := 487) (by decide +kernel), List.mem_of_getElem? (i := 488) (by decide +kernel)⟩
theorem lw_p17 : lw_okq (⟨"OppositePairs", "place", "(III)I"⟩, 8) := ⟨⟨by decide +kernel, by decide +kernel⟩, List.mem_of_getElem? (i := 17) (by decide +kernel), List.mem_of_getElem? (i := 491) (by decide +kernel), List.mem_of_getElem? (i := 492) (by decide +kernel)⟩
theorem lw_p18 : lw_okq (⟨"OppositePairs$Told", "part", "(II)I"⟩, 10) := ⟨⟨by decide +kernel, by decide +kernel⟩, List.mem_of_getElem? (i := 69) (by decide +kernel), List.mem_of_getElem? (i := 495) (by decide +kernel), List.mem_of_getElem? (i := 496) (by decide +kernel)⟩
theorem lw_p19 : lw_okq (⟨"OppositePairs$Bonds", "parts", "(II)I"⟩, 13) := ⟨⟨by decide +kernel, by decide +kernel⟩, List.mem_of_getElem? (i := 129) (by decide +kernel), List.mem_of_getElem? (i := 499) (by decide +kernel), List.mem_of_getElem? (i := 500) (by decide +kernel)⟩
theorem lw_p20 : lw_okq (⟨"OppositePairs$Bonds", "bare", "(I)I"⟩, 13) := ⟨⟨by decide +kernel, by decide +kernel⟩, List.mem_of_getElem? (i := 129) (by decide +kernel), List.mem_of_getElem? (i := 504) (by decide +kernel), List.mem_of_getElem? (i := 505) (by decide +kernel)⟩
theorem lw_p21 : lw_okq (⟨"OppositePairs$Told", "isLiteral", "(II)Z"⟩, 10) := ⟨⟨by decide +kernel, by decide +kernel⟩, List.mem_of_getElem? (i := 69) (by decide +kernel), List.mem_of_getElem? (i := 508) (by decide +kernel), List.mem_of_getElem? (i := 509) (by decide +kernel)⟩
theorem lw_p22 : lw_okq (⟨"OppositePairs$Told", "isPlus", "(II)Z"⟩, 10) := ⟨⟨by decide +kernel, by decide +kernel⟩, List.mem_of_getElem? (i := 69) (by decide +kernel), List.mem_of_getElem? (i := 517) (by decide +kernel), List.mem_of_getElem? (i := 518) (by decide +kernel)⟩
theorem lw_p23 : lw_okq (⟨"OppositePairs$Writer", "write", "(IZI)I"⟩, 8) := ⟨⟨by decide +kernel, by decide +kernel⟩, List.mem_of_getElem? (i := 177) (by decide +kernel), List.mem_of_getElem? (i := 521) (by decide +kernel), List.mem_of_getElem? (i := 522) (by decide +kernel)⟩
theorem lw_p24 : lw_okq (⟨"OppositePairs$Writer", "put", "(I)V"⟩, 8) := ⟨⟨by decide +kernel, by decide +kernel⟩, List.mem_of_getElem? (i := 177) (by decide +kernel), List.mem_of_getElem? (i := 525) (by decide +kernel), List.mem_of_getElem? (i := 526) (by decide +kernel)⟩
theorem lw_p25 : lw_okq (⟨"OppositePairs$Writer", "putPart", "(I)V"⟩, 8) := ⟨⟨by decide +kernel, by decide +kernel⟩, List.mem_of_getElem? (i := 177) (by decide +kernel), List.mem_of_getElem? (i := 531) (by decide +kernel), List.mem_of_getElem? (i := 532) (by decide +kernel)⟩
theorem lw_p26 : lw_okq (⟨"OppositePairs$Writer", "putInstance", "(I)V"⟩, 8) := ⟨⟨by decide +kernel, by decide +kernel⟩, List.mem_of_getElem? (i := 177) (by decide +kernel), List.mem_of_getElem? (i := 535) (by decide +kernel), List.mem_of_getElem? (i := 536) (by decide +kernel)⟩
theorem lw_p27 : lw_okq (⟨"OppositePairs$Writer", "putName", "(J)V"⟩, 8) := ⟨⟨by decide +kernel, by decide +kernel⟩, List.mem_of_getElem? (i := 177) (by decide +kernel), List.mem_of_getElem? (i := 539) (by decide +kernel), List.mem_of_getElem? (i := 540) (by decide +kernel)⟩
theorem lw_p28 : lw_okq (⟨"OppositePairs$Writer", "push", "(I)V"⟩, 8) := ⟨⟨by decide +kernel, by decide +kernel⟩, List.mem_of_getElem? (i := 177) (by decide +kernel), List.mem_of_getElem? (i := 544) (by decide +kernel), List.mem_of_getElem? (i := 545) (by decide +kernel)⟩
theorem lw_p29 : lw_okq (⟨"OppositePairs", "meeting", "(IIII)Z"⟩, 8) := ⟨⟨by decide +kernel, by decide +kernel⟩, List.mem_of_getElem? (i := 17) (by decide +kernel), List.mem_of_getElem? (i := 557) (by decide +kernel), List.mem_of_getElem? (i := 558) (by decide +kernel)⟩
theorem lw_p30 : lw_okq (⟨"OppositePairs$Told", "areOpposite", "(IIII)Z"⟩, 10) := ⟨⟨by decide +kernel, by decide +kernel⟩, List.mem_of_getElem? (i := 69) (by decide +kernel), List.mem_of_getElem? (i := 561) (by decide +kernel), List.mem_of_getElem? (i := 562) (by decide +kernel)⟩
theorem lw_p31 : lw_okq (⟨"OppositePairs$Told", "haveLikeNames", "(II)Z"⟩, 10) := ⟨⟨by decide +kernel, by decide +kernel⟩, List.mem_of_getElem? (i := 69) (by decide +kernel), List.mem_of_getElem? (i := 567) (by decide +kernel), List.mem_of_getElem? (i := 568) (by decide +kernel)⟩
def lw_privs_2 : List (MethodName × Nat) := [(⟨"OppositePairs", "partsOf", "(I)I"⟩, 8), (⟨"OppositePairs", "place", "(III)I"⟩, 8), (⟨"OppositePairs$Told", "part", "(II)I"⟩, 10), (⟨"OppositePairs$Bonds", "parts", "(II)I"⟩, 13), (⟨"OppositePairs$Bonds", "bare", "(I)I"⟩, 13), (⟨"OppositePairs$Told", "isLiteral", "(II)Z"⟩, 10), (⟨"OppositePairs$Told", "isPlus", "(II)Z"⟩, 10), (⟨"OppositePairs$Writer", "write", "(IZI)I"⟩, 8), (⟨"OppositePairs$Writer", "put", "(I)V"⟩, 8), (⟨"OppositePairs$Writer", "putPart", "(I)V"⟩, 8), (⟨"OppositePairs$Writer", "putInstance", "(I)V"⟩, 8), (⟨"OppositePairs$Writer", "putName", "(J)V"⟩, 8), (⟨"OppositePairs$Writer", "push", "(I)V"⟩, 8), (⟨"OppositePairs", "meeting", "(IIII)Z"⟩, 8), (⟨"OppositePairs$Told", "areOpposite", "(IIII)Z"⟩, 10), (⟨"OppositePairs$Told", "haveLikeNames", "(II)Z"⟩, 10)]
theorem lw_r2 : ∀ q ∈ lw_privs_2, lw_okq q := List.forall_mem_cons.mpr ⟨lw_p16, List.forall_mem_cons.mpr ⟨lw_p17, List.forall_mem_cons.mpr ⟨lw_p18, List.forall_mem_cons.mpr ⟨lw_p19, List.forall_mem_cons.mpr ⟨lw_p20, List.forall_mem_cons.mpr ⟨lw_p21, List.forall_mem_cons.mpr ⟨lw_p22, List.forall_mem_cons.mpr ⟨lw_p23, List.forall_mem_cons.mpr ⟨lw_p24, List.forall_mem_cons.mpr ⟨lw_p25, List.forall_mem_cons.mpr ⟨lw_p26, List.forall_mem_cons.mpr ⟨lw_p27, List.forall_mem_cons.mpr ⟨lw_p28, List.forall_mem_cons.mpr ⟨lw_p29, List.forall_mem_cons.mpr ⟨lw_p30, List.forall_mem_cons.mpr ⟨lw_p31, fun _ h => absurd h List.not_mem_nil⟩⟩⟩⟩⟩⟩⟩⟩⟩⟩⟩⟩⟩⟩⟩⟩
theorem lw_p32 : lw_okq (⟨"OppositePairs$Bonds", "unify", "(II)Z"⟩, 13) := ⟨⟨by decide +kernel, by decide +kernel⟩, List.mem_of_getElem? (i := 129) (by decide +kernel), List.mem_of_getElem? (i := 571) (by decide +kernel), List.mem_of_getElem? (i := 572) (by decide +kernel)⟩
theorem lw_p33 : lw_okq (⟨"OppositePairs$Bonds", "join", "(II)V"⟩, 13) := ⟨⟨by decide +kernel, by decide +kernel⟩, List.mem_of_getElem? (i := 129) (by decide +kernel), List.mem_of_getElem? (i := 575) (by decide +kernel), List.mem_of_getElem? (i := 576) (by decide +kernel)⟩
theorem lw_p34 : lw_okq (⟨"OppositePairs$Bonds", "root", "(I)I"⟩, 13) := ⟨⟨by decide +kernel, by decide +kernel⟩, List.mem_of_getElem? (i := 129) (by decide +kernel), List.mem_of_getElem? (i := 579) (by decide +kernel), List.mem_of_getElem? (i := 580) (by decide +kernel)⟩
theorem lw_p35 : lw_okq (⟨"OppositePairs$Bonds", "pair", "(II)Z"⟩, 13) := ⟨⟨by decide +kernel, by decide +kernel⟩, List.mem_of_getElem? (i := 129) (by decide +kernel), List.mem_of_getElem? (i := 583) (by decide +kernel), List.mem_of_getElem? (i := 584) (by decide +kernel)⟩
theorem lw_p36 : lw_okq (⟨"OppositePairs$Bonds", "isVariable", "(I)Z"⟩, 13) := ⟨⟨by decide +kernel, by decide +kernel⟩, List.mem_of_getElem? (i := 129) (by decide +kernel), List.mem_of_getElem? (i := 587) (by decide +kernel), List.mem_of_getElem? (i := 588) (by decide +kernel)⟩
theorem lw_p37 : lw_okq (⟨"OppositePairs$Bonds", "cell", "(I)I"⟩, 13) := ⟨⟨by decide +kernel, by decide +kernel⟩, List.mem_of_getElem? (i := 129) (by decide +kernel), List.mem_of_getElem? (i := 591) (by decide +kernel), List.mem_of_getElem? (i := 592) (by decide +kernel)⟩
theorem lw_p38 : lw_okq (⟨"OppositePairs$Bonds", "has", "(II)Z"⟩, 13) := ⟨⟨by decide +kernel, by decide +kernel⟩, List.mem_of_getElem? (i := 129) (by decide +kernel), List.mem_of_getElem? (i := 595) (by decide +kernel), List.mem_of_getElem? (i := 596) (by decide +kernel)⟩
theorem lw_p39 : lw_okq (⟨"OppositePairs$Bonds", "pushTerms", "(IIZ)Z"⟩, 13) := ⟨⟨by decide +kernel, by decide +kernel⟩, List.mem_of_getElem? (i := 129) (by decide +kernel), List.mem_of_getElem? (i := 600) (by decide +kernel), List.mem_of_getElem? (i := 601) (by decide +kernel)⟩
theorem lw_p40 : lw_okq (⟨"OppositePairs$Bonds", "undo", "(I)V"⟩, 13) := ⟨⟨by decide +kernel, by decide +kernel⟩, List.mem_of_getElem? (i := 129) (by decide +kernel), List.mem_of_getElem? (i := 604) (by decide +kernel), List.mem_of_getElem? (i := 605) (by decide +kernel)⟩
theorem lw_p41 : lw_okq (⟨"OppositePairs$Told", "all", "()I"⟩, 10) := ⟨⟨by decide +kernel, by decide +kernel⟩, List.mem_of_getElem? (i := 69) (by decide +kernel), List.mem_of_getElem? (i := 612) (by decide +kernel), List.mem_of_getElem? (i := 613) (by decide +kernel)⟩
theorem lw_p42 : lw_okq (⟨"OppositePairs", "partnersAmong", "(III)I"⟩, 8) := ⟨⟨by decide +kernel, by decide +kernel⟩, List.mem_of_getElem? (i := 17) (by decide +kernel), List.mem_of_getElem? (i := 616) (by decide +kernel), List.mem_of_getElem? (i := 617) (by decide +kernel)⟩
theorem lw_p43 : lw_okq (⟨"OppositePairs", "hasLonely", "(II)Z"⟩, 8) := ⟨⟨by decide +kernel, by decide +kernel⟩, List.mem_of_getElem? (i := 17) (by decide +kernel), List.mem_of_getElem? (i := 624) (by decide +kernel), List.mem_of_getElem? (i := 625) (by decide +kernel)⟩
theorem lw_p44 : lw_okq (⟨"OppositePairs", "begin", "()V"⟩, 8) := ⟨⟨by decide +kernel, by decide +kernel⟩, List.mem_of_getElem? (i := 17) (by decide +kernel), List.mem_of_getElem? (i := 635) (by decide +kernel), List.mem_of_getElem? (i := 636) (by decide +kernel)⟩
theorem lw_p45 : lw_okq (⟨"OppositePairs$Prover", "forgetCounts", "()V"⟩, 18) := ⟨⟨by decide +kernel, by decide +kernel⟩, List.mem_of_getElem? (i := 210) (by decide +kernel), List.mem_of_getElem? (i := 639) (by decide +kernel), List.mem_of_getElem? (i := 640) (by decide +kernel)⟩
theorem lw_p46 : lw_okq (⟨"OppositePairs$Prover", "prove", "(III)I"⟩, 18) := ⟨⟨by decide +kernel, by decide +kernel⟩, List.mem_of_getElem? (i := 210) (by decide +kernel), List.mem_of_getElem? (i := 643) (by decide +kernel), List.mem_of_getElem? (i := 644) (by decide +kernel)⟩
theorem lw_p47 : lw_okq (⟨"OppositePairs$Prover", "firstRow", "(I)LOppositePairs$Row;"⟩, 18) := ⟨⟨by decide +kernel, by decide +kernel⟩, List.mem_of_getElem? (i := 210) (by decide +kernel), List.mem_of_getElem? (i := 647) (by decide +kernel), List.mem_of_getElem? (i := 648) (by decide +kernel)⟩
def lw_privs_3 : List (MethodName × Nat) := [(⟨"OppositePairs$Bonds", "unify", "(II)Z"⟩, 13), (⟨"OppositePairs$Bonds", "join", "(II)V"⟩, 13), (⟨"OppositePairs$Bonds", "root", "(I)I"⟩, 13), (⟨"OppositePairs$Bonds", "pair", "(II)Z"⟩, 13), (⟨"OppositePairs$Bonds", "isVariable", "(I)Z"⟩, 13), (⟨"OppositePairs$Bonds", "cell", "(I)I"⟩, 13), (⟨"OppositePairs$Bonds", "has", "(II)Z"⟩, 13), (⟨"OppositePairs$Bonds", "pushTerms", "(IIZ)Z"⟩, 13), (⟨"OppositePairs$Bonds", "undo", "(I)V"⟩, 13), (⟨"OppositePairs$Told", "all", "()I"⟩, 10), (⟨"OppositePairs", "partnersAmong", "(III)I"⟩, 8), (⟨"OppositePairs", "hasLonely", "(II)Z"⟩, 8), (⟨"OppositePairs", "begin", "()V"⟩, 8), (⟨"OppositePairs$Prover", "forgetCounts", "()V"⟩, 18), (⟨"OppositePairs$Prover", "prove", "(III)I"⟩, 18), (⟨"OppositePairs$Prover", "firstRow", "(I)LOppositePairs$Row;"⟩, 18)]
theorem lw_r3 : ∀ q ∈ lw_privs_3, lw_okq q := List.forall_mem_cons.mpr ⟨lw_p32, List.forall_mem_cons.mpr ⟨lw_p33, List.forall_mem_cons.mpr ⟨lw_p34, List.forall_mem_cons.mpr ⟨lw_p35, List.forall_mem_cons.mpr ⟨lw_p36, List.forall_mem_cons.mpr ⟨lw_p37, List.forall_mem_cons.mpr ⟨lw_p38, List.forall_mem_cons.mpr ⟨lw_p39, List.forall_mem_cons.mpr ⟨lw_p40, List.forall_mem_cons.mpr ⟨lw_p41, List.forall_mem_cons.mpr ⟨lw_p42, List.forall_mem_cons.mpr ⟨lw_p43, List.forall_mem_cons.mpr ⟨lw_p44, List.forall_mem_cons.mpr ⟨lw_p45, List.forall_mem_cons.mpr ⟨lw_p46, List.forall_mem_cons.mpr ⟨lw_p47, fun _ h => absurd h List.not_mem_nil⟩⟩⟩⟩⟩⟩⟩⟩⟩⟩⟩⟩⟩⟩⟩⟩
theorem lw_p48 : lw_okq (⟨"OppositePairs$Prover", "newRow", "(III)LOppositePairs$Row;"⟩, 18) := ⟨⟨by decide +kernel, by decide +kernel⟩, List.mem_of_getElem? (i := 210) (by decide +kernel), List.mem_of_getElem? (i := 652) (by decide +kernel), List.mem_of_getElem? (i := 653) (by decide +kernel)⟩
theorem lw_p49 : lw_okq (⟨"OppositePairs$Prover", "pastClosed", "(LOppositePairs$Row;)LOppositePairs$Row;"⟩, 18) := ⟨⟨by decide +kernel, by decide +kernel⟩, List.mem_of_getElem? (i := 210) (by decide +kernel), List.mem_of_getElem? (i := 688) (by decide +kernel), List.mem_of_getElem? (i := 689) (by decide +kernel)⟩
theorem lw_p50 : lw_okq (⟨"OppositePairs$Prover", "literalsOf", "(I)I"⟩, 18) := ⟨⟨by decide +kernel, by decide +kernel⟩, List.mem_of_getElem? (i := 210) (by decide +kernel), List.mem_of_getElem? (i := 692) (by decide +kernel), List.mem_of_getElem? (i := 693) (by decide +kernel)⟩
theorem lw_p51 : lw_okq (⟨"OppositePairs$Prover", "has", "(I)Z"⟩, 18) := ⟨⟨by decide +kernel, by decide +kernel⟩, List.mem_of_getElem? (i := 210) (by decide +kernel), List.mem_of_getElem? (i := 696) (by decide +kernel), List.mem_of_getElem? (i := 697) (by decide +kernel)⟩
theorem lw_p52 : lw_okq (⟨"OppositePairs$Prover", "stands", "(LOppositePairs$Row;)Z"⟩, 18) := ⟨⟨by decide +kernel, by decide +kernel⟩, List.mem_of_getElem? (i := 210) (by decide +kernel), List.mem_of_getElem? (i := 700) (by decide +kernel), List.mem_of_getElem? (i := 701) (by decide +kernel)⟩
theorem lw_p53 : lw_okq (⟨"OppositePairs$Prover", "repeats", "(LOppositePairs$Row;)Z"⟩, 18) := ⟨⟨by decide +kernel, by decide +kernel⟩, List.mem_of_getElem? (i := 210) (by decide +kernel), List.mem_of_getElem? (i := 704) (by decide +kernel), List.mem_of_getElem? (i := 705) (by decide +kernel)⟩
theorem lw_p54 : lw_okq (⟨"OppositePairs$Prover", "place", "(II)I"⟩, 18) := ⟨⟨by decide +kernel, by decide +kernel⟩, List.mem_of_getElem? (i := 210) (by decide +kernel), List.mem_of_getElem? (i := 708) (by decide +kernel), List.mem_of_getElem? (i := 709) (by decide +kernel)⟩
theorem lw_p55 : lw_okq (⟨"OppositePairs$Prover", "latestAlike", "(LOppositePairs$Link;II)LOppositePairs$Link;"⟩, 18) := ⟨⟨by decide +kernel, by decide +kernel⟩, List.mem_of_getElem? (i := 210) (by decide +kernel), List.mem_of_getElem? (i := 714) (by decide +kernel), List.mem_of_getElem? (i := 715) (by decide +kernel)⟩
theorem lw_p56 : lw_okq (⟨"OppositePairs$Bonds", "alike", "(II)Z"⟩, 13) := ⟨⟨by decide +kernel, by decide +kernel⟩, List.mem_of_getElem? (i := 129) (by decide +kernel), List.mem_of_getElem? (i := 719) (by decide +kernel), List.mem_of_getElem? (i := 720) (by decide +kernel)⟩
theorem lw_p57 : lw_okq (⟨"OppositePairs$Prover", "begin", "(LOppositePairs$Row;)V"⟩, 18) := ⟨⟨by decide +kernel, by decide +kernel⟩, List.mem_of_getElem? (i := 210) (by decide +kernel), List.mem_of_getElem? (i := 723) (by decide +kernel), List.mem_of_getElem? (i := 724) (by decide +kernel)⟩
theorem lw_p58 : lw_okq (⟨"OppositePairs$Prover", "findWay", "()Z"⟩, 18) := ⟨⟨by decide +kernel, by decide +kernel⟩, List.mem_of_getElem? (i := 210) (by decide +kernel), List.mem_of_getElem? (i := 773) (by decide +kernel), List.mem_of_getElem? (i := 774) (by decide +kernel)⟩
theorem lw_p59 : lw_okq (⟨"OppositePairs$Prover", "free", "(LOppositePairs$Step;)V"⟩, 18) := ⟨⟨by decide +kernel, by decide +kernel⟩, List.mem_of_getElem? (i := 210) (by decide +kernel), List.mem_of_getElem? (i := 777) (by decide +kernel), List.mem_of_getElem? (i := 778) (by decide +kernel)⟩
theorem lw_p60 : lw_okq (⟨"OppositePairs$Prover", "byLemma", "(LOppositePairs$Step;)Z"⟩, 18) := ⟨⟨by decide +kernel, by decide +kernel⟩, List.mem_of_getElem? (i := 210) (by decide +kernel), List.mem_of_getElem? (i := 781) (by decide +kernel), List.mem_of_getElem? (i := 782) (by decide +kernel)⟩
theorem lw_p61 : lw_okq (⟨"OppositePairs$Prover", "closeBy", "(LOppositePairs$Step;III)Z"⟩, 18) := ⟨⟨by decide +kernel, by decide +kernel⟩, List.mem_of_getElem? (i := 210) (by decide +kernel), List.mem_of_getElem? (i := 785) (by decide +kernel), List.mem_of_getElem? (i := 786) (by decide +kernel)⟩
theorem lw_p62 : lw_okq (⟨"OppositePairs$Prover", "byReduction", "(LOppositePairs$Step;)Z"⟩, 18) := ⟨⟨by decide +kernel, by decide +kernel⟩, List.mem_of_getElem? (i := 210) (by decide +kernel), List.mem_of_getElem? (i := 789) (by decide +kernel), List.mem_of_getElem? (i := 790) (by decide +kernel)⟩
theorem lw_p63 : lw_okq (⟨"OppositePairs$Prover", "mayTry", "()Z"⟩, 18) := ⟨⟨by decide +kernel, by decide +kernel⟩, List.mem_of_getElem? (i := 210) (by decide +kernel), List.mem_of_getElem? (i := 794) (by decide +kernel), List.mem_of_getElem? (i := 795) (by decide +kernel)⟩
def lw_privs_4 : List (MethodName × Nat) := [(⟨"OppositePairs$Prover", "newRow", "(III)LOppositePairs$Row;"⟩, 18), (⟨"OppositePairs$Prover", "pastClosed", "(LOppositePairs$Row;)LOppositePairs$Row;"⟩, 18), (⟨"OppositePairs$Prover", "literalsOf", "(I)I"⟩, 18), (⟨"OppositePairs$Prover", "has", "(I)Z"⟩, 18), (⟨"OppositePairs$Prover", "stands", "(LOppositePairs$Row;)Z"⟩, 18), (⟨"OppositePairs$Prover", "repeats", "(LOppositePairs$Row;)Z"⟩, 18), (⟨"OppositePairs$Prover", "place", "(II)I"⟩, 18), (⟨"OppositePairs$Prover", "latestAlike", "(LOppositePairs$Link;II)LOppositePairs$Link;"⟩, 18), (⟨"OppositePairs$Bonds", "alike", "(II)Z"⟩, 13), (⟨"OppositePairs$Prover", "begin", "(LOppositePairs$Row;)V"⟩, 18), (⟨"OppositePairs$Prover", "findWay", "()Z"⟩, 18), (⟨"OppositePairs$Prover", "free", "(LOppositePairs$Step;)V"⟩, 18), (⟨"OppositePairs$Prover", "byLemma", "(LOppositePairs$Step;)Z"⟩, 18), (⟨"OppositePairs$Prover", "closeBy", "(LOppositePairs$Step;III)Z"⟩, 18), (⟨"OppositePairs$Prover", "byReduction", "(LOppositePairs$Step;)Z"⟩, 18), (⟨"OppositePairs$Prover", "mayTry", "()Z"⟩, 18)]
theorem lw_r4 : ∀ q ∈ lw_privs_4, lw_okq q := List.forall_mem_cons.mpr ⟨lw_p48, List.forall_mem_cons.mpr ⟨lw_p49, List.forall_mem_cons.mpr ⟨lw_p50, List.forall_mem_cons.mpr ⟨lw_p51, List.forall_mem_cons.mpr ⟨lw_p52, List.forall_mem_cons.mpr ⟨lw_p53, List.forall_mem_cons.mpr ⟨lw_p54, List.forall_mem_cons.mpr ⟨lw_p55, List.forall_mem_cons.mpr ⟨lw_p56, List.forall_mem_cons.mpr ⟨lw_p57, List.forall_mem_cons.mpr ⟨lw_p58, List.forall_mem_cons.mpr ⟨lw_p59, List.forall_mem_cons.mpr ⟨lw_p60, List.forall_mem_cons.mpr ⟨lw_p61, List.forall_mem_cons.mpr ⟨lw_p62, List.forall_mem_cons.mpr ⟨lw_p63, fun _ h => absurd h List.not_mem_nil⟩⟩⟩⟩⟩⟩⟩⟩⟩⟩⟩⟩⟩⟩⟩⟩
theorem lw_p64 : lw_okq (⟨"OppositePairs$Prover", "byExtension", "(LOppositePairs$Step;)Z"⟩, 18) := ⟨⟨by decide +kernel, by decide +kernel⟩, List.mem_of_getElem? (i := 210) (by decide +kernel), List.mem_of_getElem? (i := 799) (by decide +kernel), List.mem_of_getElem? (i := 800) (by decide +kernel)⟩
theorem lw_p65 : lw_okq (⟨"OppositePairs$Prover", "rowBehind", "(LOppositePairs$Step;)LOppositePairs$Row;"⟩, 18) := ⟨⟨by decide +kernel, by decide +kernel⟩, List.mem_of_getElem? (i := 210) (by decide +kernel), List.mem_of_getElem? (i := 807) (by decide +kernel), List.mem_of_getElem? (i := 808) (by decide +kernel)⟩
theorem lw_p66 : lw_okq (⟨"OppositePairs$Prover", "restOf", "(LOppositePairs$Row;)LOppositePairs$Row;"⟩, 18) := ⟨⟨by decide +kernel, by decide +kernel⟩, List.mem_of_getElem? (i := 210) (by decide +kernel), List.mem_of_getElem? (i := 811) (by decide +kernel), List.mem_of_getElem? (i := 812) (by decide +kernel)⟩
theorem lw_p67 : lw_okq (⟨"OppositePairs$Prover", "newLink", "(IILOppositePairs$Link;)LOppositePairs$Link;"⟩, 18) := ⟨⟨by decide +kernel, by decide +kernel⟩, List.mem_of_getElem? (i := 210) (by decide +kernel), List.mem_of_getElem? (i := 815) (by decide +kernel), List.mem_of_getElem? (i := 816) (by decide +kernel)⟩
theorem lw_p68 : lw_okq (⟨"OppositePairs$Answers", "put", "(IIII)V"⟩, 6) := ⟨⟨by decide +kernel, by decide +kernel⟩, List.mem_of_getElem? (i := 331) (by decide +kernel), List.mem_of_getElem? (i := 841) (by decide +kernel), List.mem_of_getElem? (i := 842) (by decide +kernel)⟩
theorem lw_p69 : lw_okq (⟨"OppositePairs$Answers", "remove", "(I)V"⟩, 6) := ⟨⟨by decide +kernel, by decide +kernel⟩, List.mem_of_getElem? (i := 331) (by decide +kernel), List.mem_of_getElem? (i := 845) (by decide +kernel), List.mem_of_getElem? (i := 846) (by decide +kernel)⟩
theorem lw_p70 : lw_okq (⟨"OppositePairs$Prover", "stepAt", "(I)LOppositePairs$Step;"⟩, 18) := ⟨⟨by decide +kernel, by decide +kernel⟩, List.mem_of_getElem? (i := 210) (by decide +kernel), List.mem_of_getElem? (i := 865) (by decide +kernel), List.mem_of_getElem? (i := 866) (by decide +kernel)⟩
theorem lw_p71 : lw_okq (⟨"OppositePairs", "isInstance", "(I)Z"⟩, 8) := ⟨⟨by decide +kernel, by decide +kernel⟩, List.mem_of_getElem? (i := 17) (by decide +kernel), List.mem_of_getElem? (i := 874) (by decide +kernel), List.mem_of_getElem? (i := 875) (by decide +kernel)⟩
theorem lw_p72 : lw_okq (⟨"OppositePairs$Matrix", "walk", "(I)I"⟩, 12) := ⟨⟨by decide +kernel, by decide +kernel⟩, List.mem_of_getElem? (i := 287) (by decide +kernel), List.mem_of_getElem? (i := 886) (by decide +kernel), List.mem_of_getElem? (i := 887) (by decide +kernel)⟩
theorem lw_p73 : lw_okq (⟨"OppositePairs$Matrix", "sortKinds", "()V"⟩, 12) := ⟨⟨by decide +kernel, by decide +kernel⟩, List.mem_of_getElem? (i := 287) (by decide +kernel), List.mem_of_getElem? (i := 890) (by decide +kernel), List.mem_of_getElem? (i := 891) (by decide +kernel)⟩
theorem lw_p74 : lw_okq (⟨"OppositePairs$Matrix", "kindOf", "(II)I"⟩, 12) := ⟨⟨by decide +kernel, by decide +kernel⟩, List.mem_of_getElem? (i := 287) (by decide +kernel), List.mem_of_getElem? (i := 895) (by decide +kernel), List.mem_of_getElem? (i := 896) (by decide +kernel)⟩
theorem lw_p75 : lw_okq (⟨"OppositePairs$Matrix", "lineUp", "(I)V"⟩, 12) := ⟨⟨by decide +kernel, by decide +kernel⟩, List.mem_of_getElem? (i := 287) (by decide +kernel), List.mem_of_getElem? (i := 902) (by decide +kernel), List.mem_of_getElem? (i := 903) (by decide +kernel)⟩
theorem lw_p76 : lw_okq (⟨"OppositePairs$Matrix", "goThrough", "()I"⟩, 12) := ⟨⟨by decide +kernel, by decide +kernel⟩, List.mem_of_getElem? (i := 287) (by decide +kernel), List.mem_of_getElem? (i := 909) (by decide +kernel), List.mem_of_getElem? (i := 910) (by decide +kernel)⟩
theorem lw_p77 : lw_okq (⟨"OppositePairs$Matrix", "count", "(III)V"⟩, 12) := ⟨⟨by decide +kernel, by decide +kernel⟩, List.mem_of_getElem? (i := 287) (by decide +kernel), List.mem_of_getElem? (i := 914) (by decide +kernel), List.mem_of_getElem? (i := 915) (by decide +kernel)⟩
theorem lw_p78 : lw_okq (⟨"OppositePairs$Matrix", "isClosed", "(II)Z"⟩, 12) := ⟨⟨by decide +kernel, by decide +kernel⟩, List.mem_of_getElem? (i := 287) (by decide +kernel), List.mem_of_getElem? (i := 919) (by decide +kernel), List.mem_of_getElem? (i := 920) (by decide +kernel)⟩
theorem lw_p79 : lw_okq (⟨"OppositePairs$Told", "countLiterals", "()I"⟩, 10) := ⟨⟨by decide +kernel, by decide +kernel⟩, List.mem_of_getElem? (i := 69) (by decide +kernel), List.mem_of_getElem? (i := 939) (by decide +kernel), List.mem_of_getElem? (i := 940) (by decide +kernel)⟩
def lw_privs_5 : List (MethodName × Nat) := [(⟨"OppositePairs$Prover", "byExtension", "(LOppositePairs$Step;)Z"⟩, 18), (⟨"OppositePairs$Prover", "rowBehind", "(LOppositePairs$Step;)LOppositePairs$Row;"⟩, 18), (⟨"OppositePairs$Prover", "restOf", "(LOppositePairs$Row;)LOppositePairs$Row;"⟩, 18), (⟨"OppositePairs$Prover", "newLink", "(IILOppositePairs$Link;)LOppositePairs$Link;"⟩, 18), (⟨"OppositePairs$Answers", "put", "(IIII)V"⟩, 6), (⟨"OppositePairs$Answers", "remove", "(I)V"⟩, 6), (⟨"OppositePairs$Prover", "stepAt", "(I)LOppositePairs$Step;"⟩, 18), (⟨"OppositePairs", "isInstance", "(I)Z"⟩, 8), (⟨"OppositePairs$Matrix", "walk", "(I)I"⟩, 12), (⟨"OppositePairs$Matrix", "sortKinds", "()V"⟩, 12), (⟨"OppositePairs$Matrix", "kindOf", "(II)I"⟩, 12), (⟨"OppositePairs$Matrix", "lineUp", "(I)V"⟩, 12), (⟨"OppositePairs$Matrix", "goThrough", "()I"⟩, 12), (⟨"OppositePairs$Matrix", "count", "(III)V"⟩, 12), (⟨"OppositePairs$Matrix", "isClosed", "(II)Z"⟩, 12), (⟨"OppositePairs$Told", "countLiterals", "()I"⟩, 10)]
theorem lw_r5 : ∀ q ∈ lw_privs_5, lw_okq q := List.forall_mem_cons.mpr ⟨lw_p64, List.forall_mem_cons.mpr ⟨lw_p65, List.forall_mem_cons.mpr ⟨lw_p66, List.forall_mem_cons.mpr ⟨lw_p67, List.forall_mem_cons.mpr ⟨lw_p68, List.forall_mem_cons.mpr ⟨lw_p69, List.forall_mem_cons.mpr ⟨lw_p70, List.forall_mem_cons.mpr ⟨lw_p71, List.forall_mem_cons.mpr ⟨lw_p72, List.forall_mem_cons.mpr ⟨lw_p73, List.forall_mem_cons.mpr ⟨lw_p74, List.forall_mem_cons.mpr ⟨lw_p75, List.forall_mem_cons.mpr ⟨lw_p76, List.forall_mem_cons.mpr ⟨lw_p77, List.forall_mem_cons.mpr ⟨lw_p78, List.forall_mem_cons.mpr ⟨lw_p79, fun _ h => absurd h List.not_mem_nil⟩⟩⟩⟩⟩⟩⟩⟩⟩⟩⟩⟩⟩⟩⟩⟩
theorem lw_p80 : lw_okq (⟨"OppositePairs$Told", "countNames", "()I"⟩, 10) := ⟨⟨by decide +kernel, by decide +kernel⟩, List.mem_of_getElem? (i := 69) (by decide +kernel), List.mem_of_getElem? (i := 943) (by decide +kernel), List.mem_of_getElem? (i := 944) (by decide +kernel)⟩
theorem lw_p81 : lw_okq (⟨"OppositePairs$Told", "isNewName", "(II)Z"⟩, 10) := ⟨⟨by decide +kernel, by decide +kernel⟩, List.mem_of_getElem? (i := 69) (by decide +kernel), List.mem_of_getElem? (i := 947) (by decide +kernel), List.mem_of_getElem? (i := 948) (by decide +kernel)⟩
theorem lw_p82 : lw_okq (⟨"OppositePairs$Prover", "countSteps", "(I)I"⟩, 18) := ⟨⟨by decide +kernel, by decide +kernel⟩, List.mem_of_getElem? (i := 210) (by decide +kernel), List.mem_of_getElem? (i := 951) (by decide +kernel), List.mem_of_getElem? (i := 952) (by decide +kernel)⟩
theorem lw_p83 : lw_okq (⟨"OppositePairsModel", "step", "()V"⟩, 71) := ⟨⟨by decide +kernel, by decide +kernel⟩, List.mem_of_getElem? (i := 961) (by decide +kernel), List.mem_of_getElem? (i := 959) (by decide +kernel), List.mem_of_getElem? (i := 960) (by decide +kernel)⟩
theorem lw_p84 : lw_okq (⟨"OppositePairsModel", "see", "(I)I"⟩, 71) := ⟨⟨by decide +kernel, by decide +kernel⟩, List.mem_of_getElem? (i := 961) (by decide +kernel), List.mem_of_getElem? (i := 964) (by decide +kernel), List.mem_of_getElem? (i := 965) (by decide +kernel)⟩
theorem lw_p85 : lw_okq (⟨"OppositePairsModel", "isLetter", "(I)Z"⟩, 71) := ⟨⟨by decide +kernel, by decide +kernel⟩, List.mem_of_getElem? (i := 961) (by decide +kernel), List.mem_of_getElem? (i := 968) (by decide +kernel), List.mem_of_getElem? (i := 969) (by decide +kernel)⟩
theorem lw_p86 : lw_okq (⟨"OppositePairsModel", "isSmall", "(I)Z"⟩, 71) := ⟨⟨by decide +kernel, by decide +kernel⟩, List.mem_of_getElem? (i := 961) (by decide +kernel), List.mem_of_getElem? (i := 972) (by decide +kernel), List.mem_of_getElem? (i := 973) (by decide +kernel)⟩
theorem lw_p87 : lw_okq (⟨"OppositePairsModel", "isIn", "(JJJ)Z"⟩, 71) := ⟨⟨by decide +kernel, by decide +kernel⟩, List.mem_of_getElem? (i := 961) (by decide +kernel), List.mem_of_getElem? (i := 978) (by decide +kernel), List.mem_of_getElem? (i := 979) (by decide +kernel)⟩
theorem lw_p88 : lw_okq (⟨"OppositePairsModel", "readsClause", "()V"⟩, 71) := ⟨⟨by decide +kernel, by decide +kernel⟩, List.mem_of_getElem? (i := 961) (by decide +kernel), List.mem_of_getElem? (i := 985) (by decide +kernel), List.mem_of_getElem? (i := 986) (by decide +kernel)⟩
theorem lw_p89 : lw_okq (⟨"OppositePairsModel", "isLiteralHere", "()Z"⟩, 71) := ⟨⟨by decide +kernel, by decide +kernel⟩, List.mem_of_getElem? (i := 961) (by decide +kernel), List.mem_of_getElem? (i := 989) (by decide +kernel), List.mem_of_getElem? (i := 990) (by decide +kernel)⟩
theorem lw_p90 : lw_okq (⟨"OppositePairsModel", "isSign", "(I)Z"⟩, 71) := ⟨⟨by decide +kernel, by decide +kernel⟩, List.mem_of_getElem? (i := 961) (by decide +kernel), List.mem_of_getElem? (i := 993) (by decide +kernel), List.mem_of_getElem? (i := 994) (by decide +kernel)⟩
theorem lw_p91 : lw_okq (⟨"OppositePairsModel", "faulty", "(I)V"⟩, 71) := ⟨⟨by decide +kernel, by decide +kernel⟩, List.mem_of_getElem? (i := 961) (by decide +kernel), List.mem_of_getElem? (i := 997) (by decide +kernel), List.mem_of_getElem? (i := 998) (by decide +kernel)⟩
theorem lw_p92 : lw_okq (⟨"OppositePairsModel", "readsLiteral", "()V"⟩, 71) := ⟨⟨by decide +kernel, by decide +kernel⟩, List.mem_of_getElem? (i := 961) (by decide +kernel), List.mem_of_getElem? (i := 1001) (by decide +kernel), List.mem_of_getElem? (i := 1002) (by decide +kernel)⟩
theorem lw_p93 : lw_okq (⟨"OppositePairsModel", "passes", "(I)Z"⟩, 71) := ⟨⟨by decide +kernel, by decide +kernel⟩, List.mem_of_getElem? (i := 961) (by decide +kernel), List.mem_of_getElem? (i := 1005) (by decide +kernel), List.mem_of_getElem? (i := 1006) (by decide +kernel)⟩
theorem lw_p94 : lw_okq (⟨"OppositePairsModel", "newNode", "(IJ)I"⟩, 71) := ⟨⟨by decide +kernel, by decide +kernel⟩, List.mem_of_getElem? (i := 961) (by decide +kernel), List.mem_of_getElem? (i := 1009) (by decide +kernel), List.mem_of_getElem? (i := 1010) (by decide +kernel)⟩
theorem lw_p95 : lw_okq (⟨"OppositePairsModel", "readsParts", "(I)V"⟩, 71) := ⟨⟨by decide +kernel, by decide +kernel⟩, List.mem_of_getElem? (i := 961) (by decide +kernel), List.mem_of_getElem? (i := 1013) (by decide +kernel), List.mem_of_getElem? (i := 1014) (by decide +kernel)⟩
def lw_privs_6 : List (MethodName × Nat) := [(⟨"OppositePairs$Told", "countNames", "()I"⟩, 10), (⟨"OppositePairs$Told", "isNewName", "(II)Z"⟩, 10), (⟨"OppositePairs$Prover", "countSteps", "(I)I"⟩, 18), (⟨"OppositePairsModel", "step", "()V"⟩, 71), (⟨"OppositePairsModel", "see", "(I)I"⟩, 71), (⟨"OppositePairsModel", "isLetter", "(I)Z"⟩, 71), (⟨"OppositePairsModel", "isSmall", "(I)Z"⟩, 71), (⟨"OppositePairsModel", "isIn", "(JJJ)Z"⟩, 71), (⟨"OppositePairsModel", "readsClause", "()V"⟩, 71), (⟨"OppositePairsModel", "isLiteralHere", "()Z"⟩, 71), (⟨"OppositePairsModel", "isSign", "(I)Z"⟩, 71), (⟨"OppositePairsModel", "faulty", "(I)V"⟩, 71), (⟨"OppositePairsModel", "readsLiteral", "()V"⟩, 71), (⟨"OppositePairsModel", "passes", "(I)Z"⟩, 71), (⟨"OppositePairsModel", "newNode", "(IJ)I"⟩, 71), (⟨"OppositePairsModel", "readsParts", "(I)V"⟩, 71)]
theorem lw_r6 : ∀ q ∈ lw_privs_6, lw_okq q := List.forall_mem_cons.mpr ⟨lw_p80, List.forall_mem_cons.mpr ⟨lw_p81, List.forall_mem_cons.mpr ⟨lw_p82, List.forall_mem_cons.mpr ⟨lw_p83, List.forall_mem_cons.mpr ⟨lw_p84, List.forall_mem_cons.mpr ⟨lw_p85, List.forall_mem_cons.mpr ⟨lw_p86, List.forall_mem_cons.mpr ⟨lw_p87, List.forall_mem_cons.mpr ⟨lw_p88, List.forall_mem_cons.mpr ⟨lw_p89, List.forall_mem_cons.mpr ⟨lw_p90, List.forall_mem_cons.mpr ⟨lw_p91, List.forall_mem_cons.mpr ⟨lw_p92, List.forall_mem_cons.mpr ⟨lw_p93, List.forall_mem_cons.mpr ⟨lw_p94, List.forall_mem_cons.mpr ⟨lw_p95, fun _ h => absurd h List.not_mem_nil⟩⟩⟩⟩⟩⟩⟩⟩⟩⟩⟩⟩⟩⟩⟩⟩
theorem lw_p96 : lw_okq (⟨"OppositePairsModel", "readsTerm", "()I"⟩, 71) := ⟨⟨by decide +kernel, by decide +kernel⟩, List.mem_of_getElem? (i := 961) (by decide +kernel), List.mem_of_getElem? (i := 1017) (by decide +kernel), List.mem_of_getElem? (i := 1018) (by decide +kernel)⟩
theorem lw_p97 : lw_okq (⟨"OppositePairsModel", "isTermHere", "()Z"⟩, 71) := ⟨⟨by decide +kernel, by decide +kernel⟩, List.mem_of_getElem? (i := 961) (by decide +kernel), List.mem_of_getElem? (i := 1021) (by decide +kernel), List.mem_of_getElem? (i := 1022) (by decide +kernel)⟩
theorem lw_p98 : lw_okq (⟨"OppositePairsModel", "variableHere", "()I"⟩, 71) := ⟨⟨by decide +kernel, by decide +kernel⟩, List.mem_of_getElem? (i := 961) (by decide +kernel), List.mem_of_getElem? (i := 1025) (by decide +kernel), List.mem_of_getElem? (i := 1026) (by decide +kernel)⟩
theorem lw_p99 : lw_okq (⟨"OppositePairsModel", "litAt", "(II)I"⟩, 71) := ⟨⟨by decide +kernel, by decide +kernel⟩, List.mem_of_getElem? (i := 961) (by decide +kernel), List.mem_of_getElem? (i := 1029) (by decide +kernel), List.mem_of_getElem? (i := 1030) (by decide +kernel)⟩
theorem lw_p100 : lw_okq (⟨"OppositePairsModel", "movesNodes", "(I)V"⟩, 71) := ⟨⟨by decide +kernel, by decide +kernel⟩, List.mem_of_getElem? (i := 961) (by decide +kernel), List.mem_of_getElem? (i := 1033) (by decide +kernel), List.mem_of_getElem? (i := 1034) (by decide +kernel)⟩
theorem lw_p101 : lw_okq (⟨"OppositePairsModel", "copiesClause", "(II)V"⟩, 71) := ⟨⟨by decide +kernel, by decide +kernel⟩, List.mem_of_getElem? (i := 961) (by decide +kernel), List.mem_of_getElem? (i := 1037) (by decide +kernel), List.mem_of_getElem? (i := 1038) (by decide +kernel)⟩
theorem lw_p102 : lw_okq (⟨"OppositePairsModel", "forgets", "()V"⟩, 71) := ⟨⟨by decide +kernel, by decide +kernel⟩, List.mem_of_getElem? (i := 961) (by decide +kernel), List.mem_of_getElem? (i := 1041) (by decide +kernel), List.mem_of_getElem? (i := 1042) (by decide +kernel)⟩
theorem lw_p103 : lw_okq (⟨"OppositePairsModel", "isClause", "(I)Z"⟩, 71) := ⟨⟨by decide +kernel, by decide +kernel⟩, List.mem_of_getElem? (i := 961) (by decide +kernel), List.mem_of_getElem? (i := 1061) (by decide +kernel), List.mem_of_getElem? (i := 1062) (by decide +kernel)⟩
theorem lw_p104 : lw_okq (⟨"OppositePairsModel", "sizeOf", "(I)I"⟩, 71) := ⟨⟨by decide +kernel, by decide +kernel⟩, List.mem_of_getElem? (i := 961) (by decide +kernel), List.mem_of_getElem? (i := 1069) (by decide +kernel), List.mem_of_getElem? (i := 1070) (by decide +kernel)⟩
theorem lw_p105 : lw_okq (⟨"OppositePairsModel", "sizeAt", "(I)I"⟩, 71) := ⟨⟨by decide +kernel, by decide +kernel⟩, List.mem_of_getElem? (i := 961) (by decide +kernel), List.mem_of_getElem? (i := 1073) (by decide +kernel), List.mem_of_getElem? (i := 1074) (by decide +kernel)⟩
theorem lw_p106 : lw_okq (⟨"OppositePairsModel", "partsAt", "(I)I"⟩, 71) := ⟨⟨by decide +kernel, by decide +kernel⟩, List.mem_of_getElem? (i := 961) (by decide +kernel), List.mem_of_getElem? (i := 1077) (by decide +kernel), List.mem_of_getElem? (i := 1078) (by decide +kernel)⟩
theorem lw_p107 : lw_okq (⟨"OppositePairsModel", "part", "(II)I"⟩, 71) := ⟨⟨by decide +kernel, by decide +kernel⟩, List.mem_of_getElem? (i := 961) (by decide +kernel), List.mem_of_getElem? (i := 1081) (by decide +kernel), List.mem_of_getElem? (i := 1082) (by decide +kernel)⟩
theorem lw_p108 : lw_okq (⟨"OppositePairsModel", "positives", "(I)I"⟩, 71) := ⟨⟨by decide +kernel, by decide +kernel⟩, List.mem_of_getElem? (i := 961) (by decide +kernel), List.mem_of_getElem? (i := 1085) (by decide +kernel), List.mem_of_getElem? (i := 1086) (by decide +kernel)⟩
theorem lw_p109 : lw_okq (⟨"OppositePairsModel", "clearsBindings", "()V"⟩, 71) := ⟨⟨by decide +kernel, by decide +kernel⟩, List.mem_of_getElem? (i := 961) (by decide +kernel), List.mem_of_getElem? (i := 1096) (by decide +kernel), List.mem_of_getElem? (i := 1097) (by decide +kernel)⟩
theorem lw_p110 : lw_okq (⟨"OppositePairsModel", "isLiteral", "(II)Z"⟩, 71) := ⟨⟨by decide +kernel, by decide +kernel⟩, List.mem_of_getElem? (i := 961) (by decide +kernel), List.mem_of_getElem? (i := 1319) (by decide +kernel), List.mem_of_getElem? (i := 1320) (by decide +kernel)⟩
theorem lw_p111 : lw_okq (⟨"OppositePairsModel", "doMeet", "(IIII)Z"⟩, 71) := ⟨⟨by decide +kernel, by decide +kernel⟩, List.mem_of_getElem? (i := 961) (by decide +kernel), List.mem_of_getElem? (i := 1323) (by decide +kernel), List.mem_of_getElem? (i := 1324) (by decide +kernel)⟩
def lw_privs_7 : List (MethodName × Nat) := [(⟨"OppositePairsModel", "readsTerm", "()I"⟩, 71), (⟨"OppositePairsModel", "isTermHere", "()Z"⟩, 71), (⟨"OppositePairsModel", "variableHere", "()I"⟩, 71), (⟨"OppositePairsModel", "litAt", "(II)I"⟩, 71), (⟨"OppositePairsModel", "movesNodes", "(I)V"⟩, 71), (⟨"OppositePairsModel", "copiesClause", "(II)V"⟩, 71), (⟨"OppositePairsModel", "forgets", "()V"⟩, 71), (⟨"OppositePairsModel", "isClause", "(I)Z"⟩, 71), (⟨"OppositePairsModel", "sizeOf", "(I)I"⟩, 71), (⟨"OppositePairsModel", "sizeAt", "(I)I"⟩, 71), (⟨"OppositePairsModel", "partsAt", "(I)I"⟩, 71), (⟨"OppositePairsModel", "part", "(II)I"⟩, 71), (⟨"OppositePairsModel", "positives", "(I)I"⟩, 71), (⟨"OppositePairsModel", "clearsBindings", "()V"⟩, 71), (⟨"OppositePairsModel", "isLiteral", "(II)Z"⟩, 71), (⟨"OppositePairsModel", "doMeet", "(IIII)Z"⟩, 71)]
theorem lw_r7 : ∀ q ∈ lw_privs_7, lw_okq q := List.forall_mem_cons.mpr ⟨lw_p96, List.forall_mem_cons.mpr ⟨lw_p97, List.forall_mem_cons.mpr ⟨lw_p98, List.forall_mem_cons.mpr ⟨lw_p99, List.forall_mem_cons.mpr ⟨lw_p100, List.forall_mem_cons.mpr ⟨lw_p101, List.forall_mem_cons.mpr ⟨lw_p102, List.forall_mem_cons.mpr ⟨lw_p103, List.forall_mem_cons.mpr ⟨lw_p104, List.forall_mem_cons.mpr ⟨lw_p105, List.forall_mem_cons.mpr ⟨lw_p106, List.forall_mem_cons.mpr ⟨lw_p107, List.forall_mem_cons.mpr ⟨lw_p108, List.forall_mem_cons.mpr ⟨lw_p109, List.forall_mem_cons.mpr ⟨lw_p110, List.forall_mem_cons.mpr ⟨lw_p111, fun _ h => absurd h List.not_mem_nil⟩⟩⟩⟩⟩⟩⟩⟩⟩⟩⟩⟩⟩⟩⟩⟩
theorem lw_p112 : lw_okq (⟨"OppositePairsModel", "unifies", "(IIII)Z"⟩, 71) := ⟨⟨by decide +kernel, by decide +kernel⟩, List.mem_of_getElem? (i := 961) (by decide +kernel), List.mem_of_getElem? (i := 1327) (by decide +kernel), List.mem_of_getElem? (i := 1328) (by decide +kernel)⟩
theorem lw_p113 : lw_okq (⟨"OppositePairsModel", "goesTo", "(II)V"⟩, 71) := ⟨⟨by decide +kernel, by decide +kernel⟩, List.mem_of_getElem? (i := 961) (by decide +kernel), List.mem_of_getElem? (i := 1331) (by decide +kernel), List.mem_of_getElem? (i := 1332) (by decide +kernel)⟩
theorem lw_p114 : lw_okq (⟨"OppositePairsModel", "slotOf", "(II)I"⟩, 71) := ⟨⟨by decide +kernel, by decide +kernel⟩, List.mem_of_getElem? (i := 961) (by decide +kernel), List.mem_of_getElem? (i := 1335) (by decide +kernel), List.mem_of_getElem? (i := 1336) (by decide +kernel)⟩
theorem lw_p115 : lw_okq (⟨"OppositePairsModel", "holds", "(III)Z"⟩, 71) := ⟨⟨by decide +kernel, by decide +kernel⟩, List.mem_of_getElem? (i := 961) (by decide +kernel), List.mem_of_getElem? (i := 1339) (by decide +kernel), List.mem_of_getElem? (i := 1340) (by decide +kernel)⟩
theorem lw_p116 : lw_okq (⟨"OppositePairsModel", "binds", "(III)V"⟩, 71) := ⟨⟨by decide +kernel, by decide +kernel⟩, List.mem_of_getElem? (i := 961) (by decide +kernel), List.mem_of_getElem? (i := 1343) (by decide +kernel), List.mem_of_getElem? (i := 1344) (by decide +kernel)⟩
theorem lw_p117 : lw_okq (⟨"OppositePairsModel", "takesBack", "(I)V"⟩, 71) := ⟨⟨by decide +kernel, by decide +kernel⟩, List.mem_of_getElem? (i := 961) (by decide +kernel), List.mem_of_getElem? (i := 1347) (by decide +kernel), List.mem_of_getElem? (i := 1348) (by decide +kernel)⟩
theorem lw_p118 : lw_okq (⟨"OppositePairsModel", "partnersIn", "(III)I"⟩, 71) := ⟨⟨by decide +kernel, by decide +kernel⟩, List.mem_of_getElem? (i := 961) (by decide +kernel), List.mem_of_getElem? (i := 1355) (by decide +kernel), List.mem_of_getElem? (i := 1356) (by decide +kernel)⟩
theorem lw_p119 : lw_okq (⟨"OppositePairsModel", "has", "(II)Z"⟩, 71) := ⟨⟨by decide +kernel, by decide +kernel⟩, List.mem_of_getElem? (i := 961) (by decide +kernel), List.mem_of_getElem? (i := 1359) (by decide +kernel), List.mem_of_getElem? (i := 1360) (by decide +kernel)⟩
theorem lw_p120 : lw_okq (⟨"OppositePairsModel", "isPure", "(II)Z"⟩, 71) := ⟨⟨by decide +kernel, by decide +kernel⟩, List.mem_of_getElem? (i := 961) (by decide +kernel), List.mem_of_getElem? (i := 1367) (by decide +kernel), List.mem_of_getElem? (i := 1368) (by decide +kernel)⟩
theorem lw_p121 : lw_okq (⟨"OppositePairsModel", "canAsk", "(II)Z"⟩, 71) := ⟨⟨by decide +kernel, by decide +kernel⟩, List.mem_of_getElem? (i := 961) (by decide +kernel), List.mem_of_getElem? (i := 1375) (by decide +kernel), List.mem_of_getElem? (i := 1376) (by decide +kernel)⟩
theorem lw_p122 : lw_okq (⟨"OppositePairsModel", "begins", "()V"⟩, 71) := ⟨⟨by decide +kernel, by decide +kernel⟩, List.mem_of_getElem? (i := 961) (by decide +kernel), List.mem_of_getElem? (i := 1381) (by decide +kernel), List.mem_of_getElem? (i := 1382) (by decide +kernel)⟩
theorem lw_p123 : lw_okq (⟨"OppositePairsModel", "searches", "(III)I"⟩, 71) := ⟨⟨by decide +kernel, by decide +kernel⟩, List.mem_of_getElem? (i := 961) (by decide +kernel), List.mem_of_getElem? (i := 1385) (by decide +kernel), List.mem_of_getElem? (i := 1386) (by decide +kernel)⟩
theorem lw_p124 : lw_okq (⟨"OppositePairsModel", "closes", "(IIIII)Z"⟩, 71) := ⟨⟨by decide +kernel, by decide +kernel⟩, List.mem_of_getElem? (i := 961) (by decide +kernel), List.mem_of_getElem? (i := 1389) (by decide +kernel), List.mem_of_getElem? (i := 1390) (by decide +kernel)⟩
theorem lw_p125 : lw_okq (⟨"OppositePairsModel", "longOf", "(I)I"⟩, 71) := ⟨⟨by decide +kernel, by decide +kernel⟩, List.mem_of_getElem? (i := 961) (by decide +kernel), List.mem_of_getElem? (i := 1393) (by decide +kernel), List.mem_of_getElem? (i := 1394) (by decide +kernel)⟩
theorem lw_p126 : lw_okq (⟨"OppositePairsModel", "goesOn", "(I)Z"⟩, 71) := ⟨⟨by decide +kernel, by decide +kernel⟩, List.mem_of_getElem? (i := 961) (by decide +kernel), List.mem_of_getElem? (i := 1397) (by decide +kernel), List.mem_of_getElem? (i := 1398) (by decide +kernel)⟩
theorem lw_p127 : lw_okq (⟨"OppositePairsModel", "isCut", "(III)Z"⟩, 71) := ⟨⟨by decide +kernel, by decide +kernel⟩, List.mem_of_getElem? (i := 961) (by decide +kernel), List.mem_of_getElem? (i := 1401) (by decide +kernel), List.mem_of_getElem? (i := 1402) (by decide +kernel)⟩
def lw_privs_8 : List (MethodName × Nat) := [(⟨"OppositePairsModel", "unifies", "(IIII)Z"⟩, 71), (⟨"OppositePairsModel", "goesTo", "(II)V"⟩, 71), (⟨"OppositePairsModel", "slotOf", "(II)I"⟩, 71), (⟨"OppositePairsModel", "holds", "(III)Z"⟩, 71), (⟨"OppositePairsModel", "binds", "(III)V"⟩, 71), (⟨"OppositePairsModel", "takesBack", "(I)V"⟩, 71), (⟨"OppositePairsModel", "partnersIn", "(III)I"⟩, 71), (⟨"OppositePairsModel", "has", "(II)Z"⟩, 71), (⟨"OppositePairsModel", "isPure", "(II)Z"⟩, 71), (⟨"OppositePairsModel", "canAsk", "(II)Z"⟩, 71), (⟨"OppositePairsModel", "begins", "()V"⟩, 71), (⟨"OppositePairsModel", "searches", "(III)I"⟩, 71), (⟨"OppositePairsModel", "closes", "(IIIII)Z"⟩, 71), (⟨"OppositePairsModel", "longOf", "(I)I"⟩, 71), (⟨"OppositePairsModel", "goesOn", "(I)Z"⟩, 71), (⟨"OppositePairsModel", "isCut", "(III)Z"⟩, 71)]
theorem lw_r8 : ∀ q ∈ lw_privs_8, lw_okq q := List.forall_mem_cons.mpr ⟨lw_p112, List.forall_mem_cons.mpr ⟨lw_p113, List.forall_mem_cons.mpr ⟨lw_p114, List.forall_mem_cons.mpr ⟨lw_p115, List.forall_mem_cons.mpr ⟨lw_p116, List.forall_mem_cons.mpr ⟨lw_p117, List.forall_mem_cons.mpr ⟨lw_p118, List.forall_mem_cons.mpr ⟨lw_p119, List.forall_mem_cons.mpr ⟨lw_p120, List.forall_mem_cons.mpr ⟨lw_p121, List.forall_mem_cons.mpr ⟨lw_p122, List.forall_mem_cons.mpr ⟨lw_p123, List.forall_mem_cons.mpr ⟨lw_p124, List.forall_mem_cons.mpr ⟨lw_p125, List.forall_mem_cons.mpr ⟨lw_p126, List.forall_mem_cons.mpr ⟨lw_p127, fun _ h => absurd h List.not_mem_nil⟩⟩⟩⟩⟩⟩⟩⟩⟩⟩⟩⟩⟩⟩⟩⟩
theorem lw_p128 : lw_okq (⟨"OppositePairsModel", "isSmallLiteral", "(II)Z"⟩, 71) := ⟨⟨by decide +kernel, by decide +kernel⟩, List.mem_of_getElem? (i := 961) (by decide +kernel), List.mem_of_getElem? (i := 1405) (by decide +kernel), List.mem_of_getElem? (i := 1406) (by decide +kernel)⟩
theorem lw_p129 : lw_okq (⟨"OppositePairsModel", "termOf", "(II)I"⟩, 71) := ⟨⟨by decide +kernel, by decide +kernel⟩, List.mem_of_getElem? (i := 961) (by decide +kernel), List.mem_of_getElem? (i := 1409) (by decide +kernel), List.mem_of_getElem? (i := 1410) (by decide +kernel)⟩
theorem lw_p130 : lw_okq (⟨"OppositePairsModel", "litOf", "(II)I"⟩, 71) := ⟨⟨by decide +kernel, by decide +kernel⟩, List.mem_of_getElem? (i := 961) (by decide +kernel), List.mem_of_getElem? (i := 1413) (by decide +kernel), List.mem_of_getElem? (i := 1414) (by decide +kernel)⟩
theorem lw_p131 : lw_okq (⟨"OppositePairsModel", "isShort", "(III)Z"⟩, 71) := ⟨⟨by decide +kernel, by decide +kernel⟩, List.mem_of_getElem? (i := 961) (by decide +kernel), List.mem_of_getElem? (i := 1417) (by decide +kernel), List.mem_of_getElem? (i := 1418) (by decide +kernel)⟩
theorem lw_p132 : lw_okq (⟨"OppositePairsModel", "counts", "(III)V"⟩, 71) := ⟨⟨by decide +kernel, by decide +kernel⟩, List.mem_of_getElem? (i := 961) (by decide +kernel), List.mem_of_getElem? (i := 1421) (by decide +kernel), List.mem_of_getElem? (i := 1422) (by decide +kernel)⟩
theorem lw_p133 : lw_okq (⟨"OppositePairsModel", "areSame", "(IIII)Z"⟩, 71) := ⟨⟨by decide +kernel, by decide +kernel⟩, List.mem_of_getElem? (i := 961) (by decide +kernel), List.mem_of_getElem? (i := 1425) (by decide +kernel), List.mem_of_getElem? (i := 1426) (by decide +kernel)⟩
theorem lw_p134 : lw_okq (⟨"OppositePairsModel", "areAlike", "(IIII)Z"⟩, 71) := ⟨⟨by decide +kernel, by decide +kernel⟩, List.mem_of_getElem? (i := 961) (by decide +kernel), List.mem_of_getElem? (i := 1429) (by decide +kernel), List.mem_of_getElem? (i := 1430) (by decide +kernel)⟩
theorem lw_p135 : lw_okq (⟨"OppositePairsModel", "firstOf", "(I)I"⟩, 71) := ⟨⟨by decide +kernel, by decide +kernel⟩, List.mem_of_getElem? (i := 961) (by decide +kernel), List.mem_of_getElem? (i := 1433) (by decide +kernel), List.mem_of_getElem? (i := 1434) (by decide +kernel)⟩
theorem lw_p136 : lw_okq (⟨"OppositePairsModel", "closesFirst", "(IIIIII)Z"⟩, 71) := ⟨⟨by decide +kernel, by decide +kernel⟩, List.mem_of_getElem? (i := 961) (by decide +kernel), List.mem_of_getElem? (i := 1437) (by decide +kernel), List.mem_of_getElem? (i := 1438) (by decide +kernel)⟩
theorem lw_p137 : lw_okq (⟨"OppositePairsModel", "chain", "(III)I"⟩, 71) := ⟨⟨by decide +kernel, by decide +kernel⟩, List.mem_of_getElem? (i := 961) (by decide +kernel), List.mem_of_getElem? (i := 1441) (by decide +kernel), List.mem_of_getElem? (i := 1442) (by decide +kernel)⟩
theorem lw_p138 : lw_okq (⟨"OppositePairsModel", "steps", "(IIIIII)V"⟩, 71) := ⟨⟨by decide +kernel, by decide +kernel⟩, List.mem_of_getElem? (i := 961) (by decide +kernel), List.mem_of_getElem? (i := 1445) (by decide +kernel), List.mem_of_getElem? (i := 1446) (by decide +kernel)⟩
theorem lw_p139 : lw_okq (⟨"OppositePairsModel", "reduces", "(III)Z"⟩, 71) := ⟨⟨by decide +kernel, by decide +kernel⟩, List.mem_of_getElem? (i := 961) (by decide +kernel), List.mem_of_getElem? (i := 1449) (by decide +kernel), List.mem_of_getElem? (i := 1450) (by decide +kernel)⟩
theorem lw_p140 : lw_okq (⟨"OppositePairsModel", "areOf", "(II)Z"⟩, 71) := ⟨⟨by decide +kernel, by decide +kernel⟩, List.mem_of_getElem? (i := 961) (by decide +kernel), List.mem_of_getElem? (i := 1453) (by decide +kernel), List.mem_of_getElem? (i := 1454) (by decide +kernel)⟩
theorem lw_p141 : lw_okq (⟨"OppositePairsModel", "tries", "()Z"⟩, 71) := ⟨⟨by decide +kernel, by decide +kernel⟩, List.mem_of_getElem? (i := 961) (by decide +kernel), List.mem_of_getElem? (i := 1457) (by decide +kernel), List.mem_of_getElem? (i := 1458) (by decide +kernel)⟩
theorem lw_p142 : lw_okq (⟨"OppositePairsModel", "extendsAll", "(IIIIIII)Z"⟩, 71) := ⟨⟨by decide +kernel, by decide +kernel⟩, List.mem_of_getElem? (i := 961) (by decide +kernel), List.mem_of_getElem? (i := 1461) (by decide +kernel), List.mem_of_getElem? (i := 1462) (by decide +kernel)⟩
theorem lw_p143 : lw_okq (⟨"OppositePairsModel", "extendsBy", "(IIIIIIIII)I"⟩, 71) := ⟨⟨by decide +kernel, by decide +kernel⟩, List.mem_of_getElem? (i := 961) (by decide +kernel), List.mem_of_getElem? (i := 1465) (by decide +kernel), List.mem_of_getElem? (i := 1466) (by decide +kernel)⟩
def lw_privs_9 : List (MethodName × Nat) := [(⟨"OppositePairsModel", "isSmallLiteral", "(II)Z"⟩, 71), (⟨"OppositePairsModel", "termOf", "(II)I"⟩, 71), (⟨"OppositePairsModel", "litOf", "(II)I"⟩, 71), (⟨"OppositePairsModel", "isShort", "(III)Z"⟩, 71), (⟨"OppositePairsModel", "counts", "(III)V"⟩, 71), (⟨"OppositePairsModel", "areSame", "(IIII)Z"⟩, 71), (⟨"OppositePairsModel", "areAlike", "(IIII)Z"⟩, 71), (⟨"OppositePairsModel", "firstOf", "(I)I"⟩, 71), (⟨"OppositePairsModel", "closesFirst", "(IIIIII)Z"⟩, 71), (⟨"OppositePairsModel", "chain", "(III)I"⟩, 71), (⟨"OppositePairsModel", "steps", "(IIIIII)V"⟩, 71), (⟨"OppositePairsModel", "reduces", "(III)Z"⟩, 71), (⟨"OppositePairsModel", "areOf", "(II)Z"⟩, 71), (⟨"OppositePairsModel", "tries", "()Z"⟩, 71), (⟨"OppositePairsModel", "extendsAll", "(IIIIIII)Z"⟩, 71), (⟨"OppositePairsModel", "extendsBy", "(IIIIIIIII)I"⟩, 71)]
theorem lw_r9 : ∀ q ∈ lw_privs_9, lw_okq q := List.forall_mem_cons.mpr ⟨lw_p128, List.forall_mem_cons.mpr ⟨lw_p129, List.forall_mem_cons.mpr ⟨lw_p130, List.forall_mem_cons.mpr ⟨lw_p131, List.forall_mem_cons.mpr ⟨lw_p132, List.forall_mem_cons.mpr ⟨lw_p133, List.forall_mem_cons.mpr ⟨lw_p134, List.forall_mem_cons.mpr ⟨lw_p135, List.forall_mem_cons.mpr ⟨lw_p136, List.forall_mem_cons.mpr ⟨lw_p137, List.forall_mem_cons.mpr ⟨lw_p138, List.forall_mem_cons.mpr ⟨lw_p139, List.forall_mem_cons.mpr ⟨lw_p140, List.forall_mem_cons.mpr ⟨lw_p141, List.forall_mem_cons.mpr ⟨lw_p142, List.forall_mem_cons.mpr ⟨lw_p143, fun _ h => absurd h List.not_mem_nil⟩⟩⟩⟩⟩⟩⟩⟩⟩⟩⟩⟩⟩⟩⟩⟩
theorem lw_p144 : lw_okq (⟨"OppositePairsModel", "answerOf", "(III)I"⟩, 71) := ⟨⟨by decide +kernel, by decide +kernel⟩, List.mem_of_getElem? (i := 961) (by decide +kernel), List.mem_of_getElem? (i := 1469) (by decide +kernel), List.mem_of_getElem? (i := 1470) (by decide +kernel)⟩
theorem lw_p145 : lw_okq (⟨"OppositePairsModel", "leaves", "(I)V"⟩, 71) := ⟨⟨by decide +kernel, by decide +kernel⟩, List.mem_of_getElem? (i := 961) (by decide +kernel), List.mem_of_getElem? (i := 1473) (by decide +kernel), List.mem_of_getElem? (i := 1474) (by decide +kernel)⟩
theorem lw_p146 : lw_okq (⟨"OppositePairsModel", "isInstance", "(I)Z"⟩, 71) := ⟨⟨by decide +kernel, by decide +kernel⟩, List.mem_of_getElem? (i := 961) (by decide +kernel), List.mem_of_getElem? (i := 1498) (by decide +kernel), List.mem_of_getElem? (i := 1499) (by decide +kernel)⟩
theorem lw_p147 : lw_okq (⟨"OppositePairsModel", "shows", "(IIII)I"⟩, 71) := ⟨⟨by decide +kernel, by decide +kernel⟩, List.mem_of_getElem? (i := 961) (by decide +kernel), List.mem_of_getElem? (i := 1506) (by decide +kernel), List.mem_of_getElem? (i := 1507) (by decide +kernel)⟩
theorem lw_p148 : lw_okq (⟨"OppositePairsModel", "says", "(I)V"⟩, 71) := ⟨⟨by decide +kernel, by decide +kernel⟩, List.mem_of_getElem? (i := 961) (by decide +kernel), List.mem_of_getElem? (i := 1510) (by decide +kernel), List.mem_of_getElem? (i := 1511) (by decide +kernel)⟩
theorem lw_p149 : lw_okq (⟨"OppositePairsModel", "saysTerm", "(III)V"⟩, 71) := ⟨⟨by decide +kernel, by decide +kernel⟩, List.mem_of_getElem? (i := 961) (by decide +kernel), List.mem_of_getElem? (i := 1514) (by decide +kernel), List.mem_of_getElem? (i := 1515) (by decide +kernel)⟩
theorem lw_p150 : lw_okq (⟨"OppositePairsModel", "saysNumber", "(I)V"⟩, 71) := ⟨⟨by decide +kernel, by decide +kernel⟩, List.mem_of_getElem? (i := 961) (by decide +kernel), List.mem_of_getElem? (i := 1518) (by decide +kernel), List.mem_of_getElem? (i := 1519) (by decide +kernel)⟩
theorem lw_p151 : lw_okq (⟨"OppositePairsModel", "saysName", "(J)V"⟩, 71) := ⟨⟨by decide +kernel, by decide +kernel⟩, List.mem_of_getElem? (i := 961) (by decide +kernel), List.mem_of_getElem? (i := 1522) (by decide +kernel), List.mem_of_getElem? (i := 1523) (by decide +kernel)⟩
theorem lw_p152 : lw_okq (⟨"OppositePairsModel", "laysMatrix", "()V"⟩, 71) := ⟨⟨by decide +kernel, by decide +kernel⟩, List.mem_of_getElem? (i := 961) (by decide +kernel), List.mem_of_getElem? (i := 1538) (by decide +kernel), List.mem_of_getElem? (i := 1539) (by decide +kernel)⟩
theorem lw_p153 : lw_okq (⟨"OppositePairsModel", "laysPair", "(II)V"⟩, 71) := ⟨⟨by decide +kernel, by decide +kernel⟩, List.mem_of_getElem? (i := 961) (by decide +kernel), List.mem_of_getElem? (i := 1542) (by decide +kernel), List.mem_of_getElem? (i := 1543) (by decide +kernel)⟩
theorem lw_p154 : lw_okq (⟨"OppositePairsModel", "findsOpen", "(I)I"⟩, 71) := ⟨⟨by decide +kernel, by decide +kernel⟩, List.mem_of_getElem? (i := 961) (by decide +kernel), List.mem_of_getElem? (i := 1546) (by decide +kernel), List.mem_of_getElem? (i := 1547) (by decide +kernel)⟩
theorem lw_p155 : lw_okq (⟨"OppositePairsModel", "opens", "(II)I"⟩, 71) := ⟨⟨by decide +kernel, by decide +kernel⟩, List.mem_of_getElem? (i := 961) (by decide +kernel), List.mem_of_getElem? (i := 1550) (by decide +kernel), List.mem_of_getElem? (i := 1551) (by decide +kernel)⟩
theorem lw_p156 : lw_okq (⟨"OppositePairsModel", "closesWay", "(III)Z"⟩, 71) := ⟨⟨by decide +kernel, by decide +kernel⟩, List.mem_of_getElem? (i := 961) (by decide +kernel), List.mem_of_getElem? (i := 1554) (by decide +kernel), List.mem_of_getElem? (i := 1555) (by decide +kernel)⟩
theorem lw_p157 : lw_okq (⟨"OppositePairsModel", "literals", "()I"⟩, 71) := ⟨⟨by decide +kernel, by decide +kernel⟩, List.mem_of_getElem? (i := 961) (by decide +kernel), List.mem_of_getElem? (i := 1575) (by decide +kernel), List.mem_of_getElem? (i := 1576) (by decide +kernel)⟩
theorem lw_p158 : lw_okq (⟨"OppositePairsModel", "unlike", "()I"⟩, 71) := ⟨⟨by decide +kernel, by decide +kernel⟩, List.mem_of_getElem? (i := 961) (by decide +kernel), List.mem_of_getElem? (i := 1579) (by decide +kernel), List.mem_of_getElem? (i := 1580) (by decide +kernel)⟩
theorem lw_p159 : lw_okq (⟨"OppositePairsModel", "isFirst", "(II)Z"⟩, 71) := ⟨⟨by decide +kernel, by decide +kernel⟩, List.mem_of_getElem? (i := 961) (by decide +kernel), List.mem_of_getElem? (i := 1583) (by decide +kernel), List.mem_of_getElem? (i := 1584) (by decide +kernel)⟩
def lw_privs_10 : List (MethodName × Nat) := [(⟨"OppositePairsModel", "answerOf", "(III)I"⟩, 71), (⟨"OppositePairsModel", "leaves", "(I)V"⟩, 71), (⟨"OppositePairsModel", "isInstance", "(I)Z"⟩, 71), (⟨"OppositePairsModel", "shows", "(IIII)I"⟩, 71), (⟨"OppositePairsModel", "says", "(I)V"⟩, 71), (⟨"OppositePairsModel", "saysTerm", "(III)V"⟩, 71), (⟨"OppositePairsModel", "saysNumber", "(I)V"⟩, 71), (⟨"OppositePairsModel", "saysName", "(J)V"⟩, 71), (⟨"OppositePairsModel", "laysMatrix", "()V"⟩, 71), (⟨"OppositePairsModel", "laysPair", "(II)V"⟩, 71), (⟨"OppositePairsModel", "findsOpen", "(I)I"⟩, 71), (⟨"OppositePairsModel", "opens", "(II)I"⟩, 71), (⟨"OppositePairsModel", "closesWay", "(III)Z"⟩, 71), (⟨"OppositePairsModel", "literals", "()I"⟩, 71), (⟨"OppositePairsModel", "unlike", "()I"⟩, 71), (⟨"OppositePairsModel", "isFirst", "(II)Z"⟩, 71)]
theorem lw_r10 : ∀ q ∈ lw_privs_10, lw_okq q := List.forall_mem_cons.mpr ⟨lw_p144, List.forall_mem_cons.mpr ⟨lw_p145, List.forall_mem_cons.mpr ⟨lw_p146, List.forall_mem_cons.mpr ⟨lw_p147, List.forall_mem_cons.mpr ⟨lw_p148, List.forall_mem_cons.mpr ⟨lw_p149, List.forall_mem_cons.mpr ⟨lw_p150, List.forall_mem_cons.mpr ⟨lw_p151, List.forall_mem_cons.mpr ⟨lw_p152, List.forall_mem_cons.mpr ⟨lw_p153, List.forall_mem_cons.mpr ⟨lw_p154, List.forall_mem_cons.mpr ⟨lw_p155, List.forall_mem_cons.mpr ⟨lw_p156, List.forall_mem_cons.mpr ⟨lw_p157, List.forall_mem_cons.mpr ⟨lw_p158, List.forall_mem_cons.mpr ⟨lw_p159, fun _ h => absurd h List.not_mem_nil⟩⟩⟩⟩⟩⟩⟩⟩⟩⟩⟩⟩⟩⟩⟩⟩
theorem lw_p160 : lw_okq (⟨"OppositePairsModel", "stepsOf", "(I)I"⟩, 71) := ⟨⟨by decide +kernel, by decide +kernel⟩, List.mem_of_getElem? (i := 961) (by decide +kernel), List.mem_of_getElem? (i := 1587) (by decide +kernel), List.mem_of_getElem? (i := 1588) (by decide +kernel)⟩
def lw_privs_11 : List (MethodName × Nat) := [(⟨"OppositePairsModel", "stepsOf", "(I)I"⟩, 71)]
theorem lw_r11 : ∀ q ∈ lw_privs_11, lw_okq q := List.forall_mem_cons.mpr ⟨lw_p160, fun _ h => absurd h List.not_mem_nil⟩
def lw_privs : List (MethodName × Nat) := lw_privs_1 ++ (lw_privs_2 ++ (lw_privs_3 ++ (lw_privs_4 ++ (lw_privs_5 ++ (lw_privs_6 ++ (lw_privs_7 ++ (lw_privs_8 ++ (lw_privs_9 ++ (lw_privs_10 ++ (lw_privs_11))))))))))
def lw_tbl : List Cond := k2_sels lw_privs ++ tables_1
theorem lw_privs_ok : ∀ q ∈ lw_privs, lw_okq q := by
  show ∀ q ∈ lw_privs_1 ++ (lw_privs_2 ++ (lw_privs_3 ++ (lw_privs_4 ++ (lw_privs_5 ++ (lw_privs_6 ++ (lw_privs_7 ++ (lw_privs_8 ++ (lw_privs_9 ++ (lw_privs_10 ++ (lw_privs_11)))))))))), lw_okq q
  exact List.forall_mem_append.mpr ⟨lw_r1, List.forall_mem_append.mpr ⟨lw_r2, List.forall_mem_append.mpr ⟨lw_r3, List.forall_mem_append.mpr ⟨lw_r4, List.forall_mem_append.mpr ⟨lw_r5, List.forall_mem_append.mpr ⟨lw_r6, List.forall_mem_append.mpr ⟨lw_r7, List.forall_mem_append.mpr ⟨lw_r8, List.forall_mem_append.mpr ⟨lw_r9, List.forall_mem_append.mpr ⟨lw_r10, lw_r11⟩⟩⟩⟩⟩⟩⟩⟩⟩⟩
-- ===== end of PART A; then your names; then what follows =====
end
section
/-! the words that every contract here takes: the good ones of the tables; the nest words apart, as what a state keeps -/
def WALL : List Cond := lw_tbl.filter goodWord
def zz_nest : Cond → Bool
  | .fieldLinkNest .. => true
  | .methodLinkNest .. => true
  | .arrayOver (.object _) => true
  | _ => false
def NWL : List Cond := tables_1.filter zz_nest
def NW (U : State) : Prop := ∀ w ∈ NWL, va_Nw w U
theorem wall_t {w : Cond} (h : w ∈ tables_1) (hg : goodWord w = true) : w ∈ WALL := List.mem_filter.mpr ⟨List.mem_append_right _ h, hg⟩
theorem wall_s {w : Cond} (i : Nat) (h : (k2_sels lw_privs)[i]? = some w) (hg : goodWord w = true) : w ∈ WALL := List.mem_filter.mpr ⟨List.mem_append_left _ (List.mem_of_getElem? h), hg⟩
theorem tb_1 {w : Cond} (i : Nat) (h : tables_1_1[i]? = some w) : w ∈ tables_1 := List.mem_append_left _ (List.mem_of_getElem? h)
theorem tb_2 {w : Cond} (i : Nat) (h : tables_1_2[i]? = some w) : w ∈ tables_1 := List.mem_append_right _ (List.mem_append_left _ (List.mem_of_getElem? h))
theorem tb_3 {w : Cond} (i : Nat) (h : tables_1_3[i]? = some w) : w ∈ tables_1 := List.mem_append_right _ (List.mem_append_right _ (List.mem_append_left _ (List.mem_of_getElem? h)))
theorem tb_4 {w : Cond} (i : Nat) (h : tables_1_4[i]? = some w) : w ∈ tables_1 := List.mem_append_right _ (List.mem_append_right _ (List.mem_append_right _ (List.mem_append_left _ (List.mem_of_getElem? h))))
theorem tb_5 {w : Cond} (i : Nat) (h : tables_1_5[i]? = some w) : w ∈ tables_1 := List.mem_append_right _ (List.mem_append_right _ (List.mem_append_right _ (List.mem_append_right _ (List.mem_append_left _ (List.mem_of_getElem? h)))))
theorem tb_6 {w : Cond} (i : Nat) (h : tables_1_6[i]? = some w) : w ∈ tables_1 := List.mem_append_right _ (List.mem_append_right _ (List.mem_append_right _ (List.mem_append_right _ (List.mem_append_right _ (List.mem_append_left _ (List.mem_of_getElem? h))))))
theorem tb_7 {w : Cond} (i : Nat) (h : tables_1_7[i]? = some w) : w ∈ tables_1 := List.mem_append_right _ (List.mem_append_right _ (List.mem_append_right _ (List.mem_append_right _ (List.mem_append_right _ (List.mem_append_right _ (List.mem_of_getElem? h))))))
theorem nwl_t {w : Cond} (h : w ∈ tables_1) (hg : zz_nest w = true) : w ∈ NWL := List.mem_filter.mpr ⟨h, hg⟩
theorem NW.warm {s U : State} (hW : s.WarmedH U.vm) (h : NW s) : NW U := by
  intro w hw
  have h1 := h w hw
  have h2 : zz_nest w = true := (List.mem_filter.mp hw).2
  cases w with
  | fieldLinkNest => exact va_Nw.warmF hW h1
  | methodLinkNest => exact va_Nw.warmM hW h1
  | arrayOver t =>
    cases t with
    | object C => exact va_AO.moved hW.alike h1
    | _ => simp [zz_nest] at h2
  | _ => simp [zz_nest] at h2
theorem NW.calling {U V : State} (hv : U.vm = V.vm) (h : NW U) : NW V := by
  intro w hw
  have h1 := h w hw
  have h2 : zz_nest w = true := (List.mem_filter.mp hw).2
  cases w with
  | fieldLinkNest => exact va_Nw.same rfl hv h1
  | methodLinkNest => exact va_Nw.same rfl hv h1
  | arrayOver t =>
    cases t with
    | object C => exact va_AO.moved (by rw [hv]; exact Vm.Alike.refl _) h1
    | _ => simp [zz_nest] at h2
  | _ => simp [zz_nest] at h2
theorem NW.of {A : Array Value} {s : State} (h : ∀ w ∈ tables_1, w.before A s = true) : NW s := by
  intro w hw
  have h1 := h w (List.mem_filter.mp hw).1
  have h2 : zz_nest w = true := (List.mem_filter.mp hw).2
  cases w with
  | fieldLinkNest => exact va_Nw.of rfl h1
  | methodLinkNest => exact va_Nw.of rfl h1
  | arrayOver t =>
    cases t with
    | object C => exact va_AO.of h1
    | _ => simp [zz_nest] at h2
  | _ => simp [zz_nest] at h2
theorem NW.use {w : Cond} {A : Array Value} {s : State} (h : NW s) (hw : w ∈ NWL) (ht : w.onTables = true) : w.before A s = true := va_Nw.use ht (h w hw)
/-- what every contract begins with -/
def PRE (D : va_G) (cl : List vw_C) (tys : List (ClassId × FieldType)) (ws : va_W) (sz : Nat) (av : List Value) : Array Value → State → Prop := va_Pc av (fun U => U.heap.size = sz ∧ va_P D cl ws U.heap ∧ va_K D cl tys U ∧ va_D (fun _ => True) ws ∧ NW U)
theorem pre_blind {D : va_G} {cl : List vw_C} {tys : List (ClassId × FieldType)} {ws : va_W} {sz : Nat} {av : List Value} : FrameBlind (PRE D cl tys ws sz av) := fun a U g mk q => by
  obtain ⟨q0, q1, qP, qK, qD, qN⟩ := q
  exact ⟨q0, q1, qP, va_K.moved (u := U) (U := U.calling g mk a) (Vm.Alike.refl U.vm) qK, qD, NW.calling (U := U) (V := U.calling g mk a) rfl qN⟩
theorem pre_of {D : va_G} {cl : List vw_C} {tys : List (ClassId × FieldType)} {ws : va_W} {av : List Value} {A : Nat → Prop} {s : State} {H : Heap} (hP : va_P D cl ws H) (hK : va_K D cl tys s) (hD : va_D A ws) (hN : NW s) : ∀ U : State, U.heap = H → s.WarmedH U.vm → PRE D cl tys ws H.size av av.toArray U := fun U hU hW => ⟨rfl, by rw [hU], by rw [hU]; exact hP, va_K.moved hW.alike hK, hD.weaken (fun _ _ _ _ => trivial), NW.warm hW hN⟩
abbrev Ws (y : MethodName) (cc : ByteArray) (n : Nat) (r : Option FieldType) : List Cond := .code y cc n r :: WALL
theorem wall_good {w : Cond} (h : w ∈ WALL) : (w.onTables && w.keeps) = true ∨ ∃ ty, w = .arrayClass ty := good_of_word (List.mem_filter.mp h).2
theorem gd {Ts : List Cond} (hT : ∀ w ∈ WALL, w ∈ Ts) {y : MethodName} {cc : ByteArray} {n : Nat} {r : Option FieldType} (h5 : Cond.code y cc n r ∈ WALL) : GoodIn Ts (Ws y cc n r) := fun w hw => (List.mem_cons.mp hw).elim (fun e => by rw [e]; exact ⟨hT _ h5, wall_good h5⟩) (fun h => ⟨hT _ h, wall_good h⟩)
theorem gv {Ts : List Cond} (hT : ∀ w ∈ WALL, w ∈ Ts) {own : String} {idx : Nat} {C : String} {y : MethodName} {cc : ByteArray} {n : Nat} {r : Option FieldType} (h1 : Cond.methodLink own idx y ∈ WALL) (h2 : Cond.instanceMethod y ∈ WALL) (h3 : Cond.selects C y y ∈ WALL) (h4 : Cond.initialized C ∈ WALL) (h5 : Cond.code y cc n r ∈ WALL) : GoodIn Ts (wsV own idx C y (Ws y cc n r)) := by
  intro w hw
  have hw : w ∈ ([.methodLink own idx y, .instanceMethod y, .selects C y y, .initialized C] : List Cond) ++ Ws y cc n r := hw
  rcases List.mem_append.mp hw with h | h
  · have hh : w ∈ WALL := by
      rcases List.mem_cons.mp h with e | h
      · rw [e]; exact h1
      rcases List.mem_cons.mp h with e | h
      · rw [e]; exact h2
      rcases List.mem_cons.mp h with e | h
      · rw [e]; exact h3
      rcases List.mem_cons.mp h with e | h
      · rw [e]; exact h4
      exact absurd h List.not_mem_nil
    exact ⟨hT _ hh, wall_good hh⟩
  · exact gd hT h5 w h
theorem gs {Ts : List Cond} (hT : ∀ w ∈ WALL, w ∈ Ts) {own : String} {idx : Nat} {y : MethodName} {cc : ByteArray} {n : Nat} {r : Option FieldType} (h1 : Cond.methodLink own idx y ∈ WALL) (h2 : Cond.static y ∈ WALL) (h4 : Cond.initialized own ∈ WALL) (h5 : Cond.code y cc n r ∈ WALL) : GoodIn Ts (wsS own idx y (Ws y cc n r)) := by
  intro w hw
  have hw : w ∈ ([.methodLink own idx y, .static y, .initialized own] : List Cond) ++ Ws y cc n r := hw
  rcases List.mem_append.mp hw with h | h
  · have hh : w ∈ WALL := by
      rcases List.mem_cons.mp h with e | h
      · rw [e]; exact h1
      rcases List.mem_cons.mp h with e | h
      · rw [e]; exact h2
      rcases List.mem_cons.mp h with e | h
      · rw [e]; exact h4
      exact absurd h List.not_mem_nil
    exact ⟨hT _ hh, wall_good hh⟩
  · exact gd hT h5 w h
/-- words of a class by their places -/
theorem iw_of {ws : List Cond} (hm : ∀ w ∈ ws, w ∈ tables_1) (hg : ws.all goodWord = true) : ∀ w ∈ ws, w ∈ WALL := fun w h => wall_t (hm w h) (List.all_eq_true.mp hg w h)
/-- comparisons as comparisons of integers -/
theorem cv_lt {x y : Int32} {a b : Int} (ha : x.toInt = a) (hb : y.toInt = b) : x < y ↔ a < b := by rw [← ha, ← hb]; exact Int32.lt_iff_toInt_lt
theorem cv_le {x y : Int32} {a b : Int} (ha : x.toInt = a) (hb : y.toInt = b) : x ≤ y ↔ a ≤ b := by rw [← ha, ← hb]; exact Int32.le_iff_toInt_le
theorem cv_eq {x y : Int32} {a b : Int} (ha : x.toInt = a) (hb : y.toInt = b) : x = y ↔ a = b := by rw [← ha, ← hb]; exact ⟨fun h => by rw [h], fun h => Int32.toInt_inj.mp h⟩
theorem cl_lt {x y : Int64} : x < y ↔ x.toInt < y.toInt := Int64.lt_iff_toInt_lt
theorem cl_le {x y : Int64} : x ≤ y ↔ x.toInt ≤ y.toInt := Int64.le_iff_toInt_le
end
section
/-! names, printed by program -/
def RX0 : String := "OppositePairs$Answers"
def TX0 : u_T := fun k => match k with
  | 0 => ("OppositePairs$Answers", "start", "[I", true)
  | 1 => ("OppositePairs$Answers", "depth", "[I", true)
  | 2 => ("OppositePairs$Answers", "options", "[I", true)
  | 3 => ("OppositePairs$Answers", "found", "[I", true)
  | 4 => ("OppositePairs$Answers", "count", "I", false)
  | _ => ("OppositePairs$Answers", "again", "I", false)
def tyX0 : Nat → FieldType := fun k => match k with
  | 0 => .array .int
  | 1 => .array .int
  | 2 => .array .int
  | 3 => .array .int
  | 4 => .int
  | _ => .int
abbrev wsX00 : List Cond := u_ws RX0 TX0 6
theorem nmX0 : ∀ a, a < 6 → ∀ b, b < 6 → a ≠ b → (TX0 a).2.1 ≠ (TX0 b).2.1 := by decide +kernel
theorem tyX0_ok : ∀ k, k < 6 → parseFieldDescriptor (TX0 k).2.2.1 = some (tyX0 k) := by decide +kernel
def RX1 : String := "OppositePairs$Bonds"
def TX1 : u_T := fun k => match k with
  | 0 => ("OppositePairs$Bonds", "told", "LOppositePairs$Told;", true)
  | 1 => ("OppositePairs$Bonds", "bound", "[I", true)
  | 2 => ("OppositePairs$Bonds", "trail", "[I", true)
  | 3 => ("OppositePairs$Bonds", "trailed", "I", false)
  | 4 => ("OppositePairs$Bonds", "same", "[I", true)
  | 5 => ("OppositePairs$Bonds", "joined", "[I", true)
  | 6 => ("OppositePairs$Bonds", "joins", "I", false)
  | 7 => ("OppositePairs$Bonds", "left", "[I", true)
  | 8 => ("OppositePairs$Bonds", "right", "[I", true)
  | 9 => ("OppositePairs$Bonds", "top", "I", false)
  | 10 => ("OppositePairs$Bonds", "hold", "[I", true)
  | 11 => ("OppositePairs$Bonds", "seen", "[I", true)
  | _ => ("OppositePairs$Bonds", "searches", "I", false)
def tyX1 : Nat → FieldType := fun k => match k with
  | 0 => .object "OppositePairs$Told"
  | 1 => .array .int
  | 2 => .array .int
  | 3 => .int
  | 4 => .array .int
  | 5 => .array .int
  | 6 => .int
  | 7 => .array .int
  | 8 => .array .int
  | 9 => .int
  | 10 => .array .int
  | 11 => .array .int
  | _ => .int
abbrev wsX10 : List Cond := u_ws RX1 TX1 13
theorem nmX1 : ∀ a, a < 13 → ∀ b, b < 13 → a ≠ b → (TX1 a).2.1 ≠ (TX1 b).2.1 := by decide +kernel
theorem tyX1_ok : ∀ k, k < 13 → parseFieldDescriptor (TX1 k).2.2.1 = some (tyX1 k) := by decide +kernel
def RX2 : String := "OppositePairs$Link"
def TX2 : u_T := fun k => match k with
  | 0 => ("OppositePairs$Link", "instance", "I", false)
  | 1 => ("OppositePairs$Link", "literal", "I", false)
  | 2 => ("OppositePairs$Link", "length", "I", false)
  | _ => ("OppositePairs$Link", "before", "LOppositePairs$Link;", false)
def tyX2 : Nat → FieldType := fun k => match k with
  | 0 => .int
  | 1 => .int
  | 2 => .int
  | _ => .object "OppositePairs$Link"
abbrev wsX20 : List Cond := u_ws RX2 TX2 4
theorem nmX2 : ∀ a, a < 4 → ∀ b, b < 4 → a ≠ b → (TX2 a).2.1 ≠ (TX2 b).2.1 := by decide +kernel
theorem tyX2_ok : ∀ k, k < 4 → parseFieldDescriptor (TX2 k).2.2.1 = some (tyX2 k) := by decide +kernel
def RX3 : String := "OppositePairs$Matrix"
def TX3 : u_T := fun k => match k with
  | 0 => ("OppositePairs$Matrix", "told", "LOppositePairs$Told;", true)
  | 1 => ("OppositePairs$Matrix", "bonds", "LOppositePairs$Bonds;", true)
  | 2 => ("OppositePairs$Matrix", "prover", "LOppositePairs$Prover;", true)
  | 3 => ("OppositePairs$Matrix", "kind", "[I", true)
  | 4 => ("OppositePairs$Matrix", "sorted", "Z", false)
  | 5 => ("OppositePairs$Matrix", "order", "[I", true)
  | 6 => ("OppositePairs$Matrix", "height", "I", false)
  | 7 => ("OppositePairs$Matrix", "chosen", "[I", true)
  | 8 => ("OppositePairs$Matrix", "plus", "[I", true)
  | 9 => ("OppositePairs$Matrix", "minus", "[I", true)
  | 10 => ("OppositePairs$Matrix", "walked", "I", false)
  | _ => ("OppositePairs$Matrix", "found", "I", false)
def tyX3 : Nat → FieldType := fun k => match k with
  | 0 => .object "OppositePairs$Told"
  | 1 => .object "OppositePairs$Bonds"
  | 2 => .object "OppositePairs$Prover"
  | 3 => .array .int
  | 4 => .boolean
  | 5 => .array .int
  | 6 => .int
  | 7 => .array .int
  | 8 => .array .int
  | 9 => .array .int
  | 10 => .int
  | _ => .int
abbrev wsX30 : List Cond := u_ws RX3 TX3 12
theorem nmX3 : ∀ a, a < 12 → ∀ b, b < 12 → a ≠ b → (TX3 a).2.1 ≠ (TX3 b).2.1 := by decide +kernel
theorem tyX3_ok : ∀ k, k < 12 → parseFieldDescriptor (TX3 k).2.2.1 = some (tyX3 k) := by decide +kernel
def RX4 : String := "OppositePairs$Prover"
def TX4 : u_T := fun k => match k with
  | 0 => ("OppositePairs$Prover", "told", "LOppositePairs$Told;", true)
  | 1 => ("OppositePairs$Prover", "bonds", "LOppositePairs$Bonds;", true)
  | 2 => ("OppositePairs$Prover", "rows", "[LOppositePairs$Row;", true)
  | 3 => ("OppositePairs$Prover", "rowCount", "I", false)
  | 4 => ("OppositePairs$Prover", "links", "[LOppositePairs$Link;", true)
  | 5 => ("OppositePairs$Prover", "linkCount", "I", false)
  | 6 => ("OppositePairs$Prover", "steps", "[LOppositePairs$Step;", true)
  | 7 => ("OppositePairs$Prover", "stepCount", "I", false)
  | 8 => ("OppositePairs$Prover", "clauseOf", "[I", true)
  | 9 => ("OppositePairs$Prover", "instances", "I", false)
  | 10 => ("OppositePairs$Prover", "depth", "I", false)
  | 11 => ("OppositePairs$Prover", "options", "I", false)
  | 12 => ("OppositePairs$Prover", "tries", "I", false)
  | 13 => ("OppositePairs$Prover", "longest", "I", false)
  | 14 => ("OppositePairs$Prover", "cuts", "I", false)
  | 15 => ("OppositePairs$Prover", "extensions", "I", false)
  | 16 => ("OppositePairs$Prover", "givenUp", "Z", false)
  | _ => ("OppositePairs$Prover", "proved", "Z", false)
def tyX4 : Nat → FieldType := fun k => match k with
  | 0 => .object "OppositePairs$Told"
  | 1 => .object "OppositePairs$Bonds"
  | 2 => .array (.object "OppositePairs$Row")
  | 3 => .int
  | 4 => .array (.object "OppositePairs$Link")
  | 5 => .int
  | 6 => .array (.object "OppositePairs$Step")
  | 7 => .int
  | 8 => .array .int
  | 9 => .int
  | 10 => .int
  | 11 => .int
  | 12 => .int
  | 13 => .int
  | 14 => .int
  | 15 => .int
  | 16 => .boolean
  | _ => .boolean
abbrev wsX40 : List Cond := u_ws RX4 TX4 18
theorem nmX4 : ∀ a, a < 18 → ∀ b, b < 18 → a ≠ b → (TX4 a).2.1 ≠ (TX4 b).2.1 := by decide +kernel
theorem tyX4_ok : ∀ k, k < 18 → parseFieldDescriptor (TX4 k).2.2.1 = some (tyX4 k) := by decide +kernel
def RX5 : String := "OppositePairs$Reader"
def TX5 : u_T := fun k => match k with
  | 0 => ("OppositePairs$Reader", "bytes", "[I", true)
  | 1 => ("OppositePairs$Reader", "length", "I", false)
  | 2 => ("OppositePairs$Reader", "fault", "I", false)
  | 3 => ("OppositePairs$Reader", "place", "I", false)
  | 4 => ("OppositePairs$Reader", "into", "LOppositePairs$Told;", false)
  | 5 => ("OppositePairs$Reader", "known", "[I", true)
  | 6 => ("OppositePairs$Reader", "variables", "I", false)
  | 7 => ("OppositePairs$Reader", "at", "I", false)
  | 8 => ("OppositePairs$Reader", "behind", "I", false)
  | 9 => ("OppositePairs$Reader", "token", "I", false)
  | _ => ("OppositePairs$Reader", "letters", "J", false)
def tyX5 : Nat → FieldType := fun k => match k with
  | 0 => .array .int
  | 1 => .int
  | 2 => .int
  | 3 => .int
  | 4 => .object "OppositePairs$Told"
  | 5 => .array .int
  | 6 => .int
  | 7 => .int
  | 8 => .int
  | 9 => .int
  | _ => .long
abbrev wsX50 : List Cond := u_ws RX5 TX5 11
theorem nmX5 : ∀ a, a < 11 → ∀ b, b < 11 → a ≠ b → (TX5 a).2.1 ≠ (TX5 b).2.1 := by decide +kernel
theorem tyX5_ok : ∀ k, k < 11 → parseFieldDescriptor (TX5 k).2.2.1 = some (tyX5 k) := by decide +kernel
def RX6 : String := "OppositePairs$Row"
def TX6 : u_T := fun k => match k with
  | 0 => ("OppositePairs$Row", "instance", "I", false)
  | 1 => ("OppositePairs$Row", "without", "I", false)
  | 2 => ("OppositePairs$Row", "next", "I", false)
  | 3 => ("OppositePairs$Row", "path", "LOppositePairs$Link;", false)
  | 4 => ("OppositePairs$Row", "lemmas", "LOppositePairs$Link;", false)
  | 5 => ("OppositePairs$Row", "behind", "LOppositePairs$Row;", false)
  | _ => ("OppositePairs$Row", "made", "I", false)
def tyX6 : Nat → FieldType := fun k => match k with
  | 0 => .int
  | 1 => .int
  | 2 => .int
  | 3 => .object "OppositePairs$Link"
  | 4 => .object "OppositePairs$Link"
  | 5 => .object "OppositePairs$Row"
  | _ => .int
abbrev wsX60 : List Cond := u_ws RX6 TX6 7
theorem nmX6 : ∀ a, a < 7 → ∀ b, b < 7 → a ≠ b → (TX6 a).2.1 ≠ (TX6 b).2.1 := by decide +kernel
theorem tyX6_ok : ∀ k, k < 7 → parseFieldDescriptor (TX6 k).2.2.1 = some (tyX6 k) := by decide +kernel
def RX7 : String := "OppositePairs$Step"
def TX7 : u_T := fun k => match k with
  | 0 => ("OppositePairs$Step", "row", "LOppositePairs$Row;", false)
  | 1 => ("OppositePairs$Step", "kind", "I", false)
  | 2 => ("OppositePairs$Step", "byInstance", "I", false)
  | 3 => ("OppositePairs$Step", "byLiteral", "I", false)
  | 4 => ("OppositePairs$Step", "lemmaTried", "Z", false)
  | 5 => ("OppositePairs$Step", "link", "LOppositePairs$Link;", false)
  | 6 => ("OppositePairs$Step", "candidate", "I", false)
  | 7 => ("OppositePairs$Step", "fixed", "Z", false)
  | 8 => ("OppositePairs$Step", "trailMark", "I", false)
  | 9 => ("OppositePairs$Step", "instanceMark", "I", false)
  | 10 => ("OppositePairs$Step", "rowMark", "I", false)
  | _ => ("OppositePairs$Step", "linkMark", "I", false)
def tyX7 : Nat → FieldType := fun k => match k with
  | 0 => .object "OppositePairs$Row"
  | 1 => .int
  | 2 => .int
  | 3 => .int
  | 4 => .boolean
  | 5 => .object "OppositePairs$Link"
  | 6 => .int
  | 7 => .boolean
  | 8 => .int
  | 9 => .int
  | 10 => .int
  | _ => .int
abbrev wsX70 : List Cond := u_ws RX7 TX7 12
theorem nmX7 : ∀ a, a < 12 → ∀ b, b < 12 → a ≠ b → (TX7 a).2.1 ≠ (TX7 b).2.1 := by decide +kernel
theorem tyX7_ok : ∀ k, k < 12 → parseFieldDescriptor (TX7 k).2.2.1 = some (tyX7 k) := by decide +kernel
def RX8 : String := "OppositePairs$Told"
def TX8 : u_T := fun k => match k with
  | 0 => ("OppositePairs$Told", "name", "[J", true)
  | 1 => ("OppositePairs$Told", "variable", "[I", true)
  | 2 => ("OppositePairs$Told", "terms", "[I", true)
  | 3 => ("OppositePairs$Told", "term", "[I", true)
  | 4 => ("OppositePairs$Told", "parts", "I", false)
  | 5 => ("OppositePairs$Told", "literals", "[I", true)
  | 6 => ("OppositePairs$Told", "variables", "[I", true)
  | 7 => ("OppositePairs$Told", "plus", "[I", true)
  | 8 => ("OppositePairs$Told", "first", "[I", true)
  | _ => ("OppositePairs$Told", "clauses", "I", false)
def tyX8 : Nat → FieldType := fun k => match k with
  | 0 => .array .long
  | 1 => .array .int
  | 2 => .array .int
  | 3 => .array .int
  | 4 => .int
  | 5 => .array .int
  | 6 => .array .int
  | 7 => .array .int
  | 8 => .array .int
  | _ => .int
abbrev wsX80 : List Cond := u_ws RX8 TX8 10
theorem nmX8 : ∀ a, a < 10 → ∀ b, b < 10 → a ≠ b → (TX8 a).2.1 ≠ (TX8 b).2.1 := by decide +kernel
theorem tyX8_ok : ∀ k, k < 10 → parseFieldDescriptor (TX8 k).2.2.1 = some (tyX8 k) := by decide +kernel
def RX9 : String := "OppositePairs$Writer"
def TX9 : u_T := fun k => match k with
  | 0 => ("OppositePairs$Writer", "told", "LOppositePairs$Told;", true)
  | 1 => ("OppositePairs$Writer", "bonds", "LOppositePairs$Bonds;", true)
  | 2 => ("OppositePairs$Writer", "bytes", "[I", true)
  | 3 => ("OppositePairs$Writer", "length", "I", false)
  | 4 => ("OppositePairs$Writer", "draft", "[I", true)
  | 5 => ("OppositePairs$Writer", "drafted", "I", false)
  | 6 => ("OppositePairs$Writer", "hold", "[I", true)
  | _ => ("OppositePairs$Writer", "held", "I", false)
def tyX9 : Nat → FieldType := fun k => match k with
  | 0 => .object "OppositePairs$Told"
  | 1 => .object "OppositePairs$Bonds"
  | 2 => .array .int
  | 3 => .int
  | 4 => .array .int
  | 5 => .int
  | 6 => .array .int
  | _ => .int
abbrev wsX90 : List Cond := u_ws RX9 TX9 8
theorem nmX9 : ∀ a, a < 8 → ∀ b, b < 8 → a ≠ b → (TX9 a).2.1 ≠ (TX9 b).2.1 := by decide +kernel
theorem tyX9_ok : ∀ k, k < 8 → parseFieldDescriptor (TX9 k).2.2.1 = some (tyX9 k) := by decide +kernel
def RX10 : String := "OppositePairs"
def TX10 : u_T := fun k => match k with
  | 0 => ("OppositePairs", "reader", "LOppositePairs$Reader;", true)
  | 1 => ("OppositePairs", "told", "LOppositePairs$Told;", true)
  | 2 => ("OppositePairs", "draft", "LOppositePairs$Told;", true)
  | 3 => ("OppositePairs", "bonds", "LOppositePairs$Bonds;", true)
  | 4 => ("OppositePairs", "writer", "LOppositePairs$Writer;", true)
  | 5 => ("OppositePairs", "prover", "LOppositePairs$Prover;", true)
  | 6 => ("OppositePairs", "matrix", "LOppositePairs$Matrix;", true)
  | _ => ("OppositePairs", "answers", "LOppositePairs$Answers;", true)
def tyX10 : Nat → FieldType := fun k => match k with
  | 0 => .object "OppositePairs$Reader"
  | 1 => .object "OppositePairs$Told"
  | 2 => .object "OppositePairs$Told"
  | 3 => .object "OppositePairs$Bonds"
  | 4 => .object "OppositePairs$Writer"
  | 5 => .object "OppositePairs$Prover"
  | 6 => .object "OppositePairs$Matrix"
  | _ => .object "OppositePairs$Answers"
abbrev wsX100 : List Cond := u_ws RX10 TX10 8
theorem nmX10 : ∀ a, a < 8 → ∀ b, b < 8 → a ≠ b → (TX10 a).2.1 ≠ (TX10 b).2.1 := by decide +kernel
theorem tyX10_ok : ∀ k, k < 8 → parseFieldDescriptor (TX10 k).2.2.1 = some (tyX10 k) := by decide +kernel
def RX11 : String := "OppositePairsModel"
def TX11 : u_T := fun k => match k with
  | 0 => ("OppositePairsModel", "told", "I", false)
  | 1 => ("OppositePairsModel", "nodeVariable", "[I", true)
  | 2 => ("OppositePairsModel", "nodeName", "[J", true)
  | 3 => ("OppositePairsModel", "nodeA", "[I", true)
  | 4 => ("OppositePairsModel", "nodeB", "[I", true)
  | 5 => ("OppositePairsModel", "nodeC", "[I", true)
  | 6 => ("OppositePairsModel", "nodes", "I", false)
  | 7 => ("OppositePairsModel", "clauses", "I", false)
  | 8 => ("OppositePairsModel", "many", "[I", true)
  | 9 => ("OppositePairsModel", "variables", "[I", true)
  | 10 => ("OppositePairsModel", "letter", "[I", true)
  | 11 => ("OppositePairsModel", "isNot", "[Z", true)
  | 12 => ("OppositePairsModel", "term", "[I", true)
  | 13 => ("OppositePairsModel", "tape", "[B", true)
  | 14 => ("OppositePairsModel", "taped", "I", false)
  | 15 => ("OppositePairsModel", "at", "I", false)
  | 16 => ("OppositePairsModel", "place", "I", false)
  | 17 => ("OppositePairsModel", "kind", "I", false)
  | 18 => ("OppositePairsModel", "sign", "I", false)
  | 19 => ("OppositePairsModel", "name", "J", false)
  | 20 => ("OppositePairsModel", "isFaulty", "Z", false)
  | 21 => ("OppositePairsModel", "fault", "I", false)
  | 22 => ("OppositePairsModel", "faultPlace", "I", false)
  | 23 => ("OppositePairsModel", "opened", "I", false)
  | 24 => ("OppositePairsModel", "reading", "I", false)
  | 25 => ("OppositePairsModel", "moved", "[I", true)
  | 26 => ("OppositePairsModel", "nodesThere", "I", false)
  | 27 => ("OppositePairsModel", "boundTo", "[I", true)
  | 28 => ("OppositePairsModel", "boundIn", "[I", true)
  | 29 => ("OppositePairsModel", "trail", "[I", true)
  | 30 => ("OppositePairsModel", "trailed", "I", false)
  | 31 => ("OppositePairsModel", "goneTo", "I", false)
  | 32 => ("OppositePairsModel", "goneIn", "I", false)
  | 33 => ("OppositePairsModel", "counted", "I", false)
  | 34 => ("OppositePairsModel", "options", "I", false)
  | 35 => ("OppositePairsModel", "depth", "I", false)
  | 36 => ("OppositePairsModel", "instances", "I", false)
  | 37 => ("OppositePairsModel", "clauseOf", "[I", true)
  | 38 => ("OppositePairsModel", "chainIn", "[I", true)
  | 39 => ("OppositePairsModel", "chainLiteral", "[I", true)
  | 40 => ("OppositePairsModel", "chainAhead", "[I", true)
  | 41 => ("OppositePairsModel", "chainLong", "[I", true)
  | 42 => ("OppositePairsModel", "chains", "I", false)
  | 43 => ("OppositePairsModel", "frameIn", "[I", true)
  | 44 => ("OppositePairsModel", "frameLeft", "[I", true)
  | 45 => ("OppositePairsModel", "framePath", "[I", true)
  | 46 => ("OppositePairsModel", "frameLemmas", "[I", true)
  | 47 => ("OppositePairsModel", "frameNext", "[I", true)
  | 48 => ("OppositePairsModel", "isCome", "[Z", true)
  | 49 => ("OppositePairsModel", "frames", "I", false)
  | 50 => ("OppositePairsModel", "isOver", "Z", false)
  | 51 => ("OppositePairsModel", "tries", "I", false)
  | 52 => ("OppositePairsModel", "mostPath", "I", false)
  | 53 => ("OppositePairsModel", "cuts", "I", false)
  | 54 => ("OppositePairsModel", "extended", "I", false)
  | 55 => ("OppositePairsModel", "steps", "[I", true)
  | 56 => ("OppositePairsModel", "stepMany", "I", false)
  | 57 => ("OppositePairsModel", "reducedFrom", "I", false)
  | 58 => ("OppositePairsModel", "isProof", "Z", false)
  | 59 => ("OppositePairsModel", "answer", "[I", true)
  | 60 => ("OppositePairsModel", "answers", "I", false)
  | 61 => ("OppositePairsModel", "asked", "I", false)
  | 62 => ("OppositePairsModel", "out", "[I", true)
  | 63 => ("OppositePairsModel", "outs", "I", false)
  | 64 => ("OppositePairsModel", "written", "[I", true)
  | 65 => ("OppositePairsModel", "writes", "I", false)
  | 66 => ("OppositePairsModel", "room", "I", false)
  | 67 => ("OppositePairsModel", "isLong", "[Z", true)
  | 68 => ("OppositePairsModel", "areClosed", "[Z", true)
  | 69 => ("OppositePairsModel", "way", "[I", true)
  | _ => ("OppositePairsModel", "looks", "I", false)
def tyX11 : Nat → FieldType := fun k => match k with
  | 0 => .int
  | 1 => .array .int
  | 2 => .array .long
  | 3 => .array .int
  | 4 => .array .int
  | 5 => .array .int
  | 6 => .int
  | 7 => .int
  | 8 => .array .int
  | 9 => .array .int
  | 10 => .array .int
  | 11 => .array .boolean
  | 12 => .array .int
  | 13 => .array .byte
  | 14 => .int
  | 15 => .int
  | 16 => .int
  | 17 => .int
  | 18 => .int
  | 19 => .long
  | 20 => .boolean
  | 21 => .int
  | 22 => .int
  | 23 => .int
  | 24 => .int
  | 25 => .array .int
  | 26 => .int
  | 27 => .array .int
  | 28 => .array .int
  | 29 => .array .int
  | 30 => .int
  | 31 => .int
  | 32 => .int
  | 33 => .int
  | 34 => .int
  | 35 => .int
  | 36 => .int
  | 37 => .array .int
  | 38 => .array .int
  | 39 => .array .int
  | 40 => .array .int
  | 41 => .array .int
  | 42 => .int
  | 43 => .array .int
  | 44 => .array .int
  | 45 => .array .int
  | 46 => .array .int
  | 47 => .array .int
  | 48 => .array .boolean
  | 49 => .int
  | 50 => .boolean
  | 51 => .int
  | 52 => .int
  | 53 => .int
  | 54 => .int
  | 55 => .array .int
  | 56 => .int
  | 57 => .int
  | 58 => .boolean
  | 59 => .array .int
  | 60 => .int
  | 61 => .int
  | 62 => .array .int
  | 63 => .int
  | 64 => .array .int
  | 65 => .int
  | 66 => .int
  | 67 => .array .boolean
  | 68 => .array .boolean
  | 69 => .array .int
  | _ => .int
abbrev wsX110 : List Cond := u_ws RX11 TX11 71
theorem nmX11 : ∀ a, a < 71 → ∀ b, b < 71 → a ≠ b → (TX11 a).2.1 ≠ (TX11 b).2.1 := by decide +kernel
theorem tyX11_ok : ∀ k, k < 71 → parseFieldDescriptor (TX11 k).2.2.1 = some (tyX11 k) := by decide +kernel
abbrev cX0_init : ByteArray := prog_2_method_1_code
def yX0_init : MethodName := ⟨RX0, "<init>", "()V"⟩
abbrev cX1_init : ByteArray := prog_3_method_1_code
def yX1_init : MethodName := ⟨RX1, "<init>", "(LOppositePairs$Told;)V"⟩
abbrev cX3_init : ByteArray := prog_5_method_1_code
def yX3_init : MethodName := ⟨RX3, "<init>", "(LOppositePairs$Told;LOppositePairs$Bonds;LOppositePairs$Prover;)V"⟩
abbrev cX3_forget : ByteArray := prog_5_method_2_code
def yX3_forget : MethodName := ⟨RX3, "forget", "()V"⟩
abbrev cX4_init : ByteArray := prog_6_method_1_code
def yX4_init : MethodName := ⟨RX4, "<init>", "(LOppositePairs$Told;LOppositePairs$Bonds;)V"⟩
abbrev cX4_forgetCounts : ByteArray := prog_6_method_2_code
def yX4_forgetCounts : MethodName := ⟨RX4, "forgetCounts", "()V"⟩
abbrev cX4_countSteps : ByteArray := prog_6_method_25_code
def yX4_countSteps : MethodName := ⟨RX4, "countSteps", "(I)I"⟩
abbrev cX5_init : ByteArray := prog_7_method_1_code
def yX5_init : MethodName := ⟨RX5, "<init>", "()V"⟩
abbrev cX5_take : ByteArray := prog_7_method_2_code
def yX5_take : MethodName := ⟨RX5, "take", "(I)V"⟩
abbrev cX5_read : ByteArray := prog_7_method_3_code
def yX5_read : MethodName := ⟨RX5, "read", "(LOppositePairs$Told;)V"⟩
abbrev cX5_nextToken : ByteArray := prog_7_method_10_code
def yX5_nextToken : MethodName := ⟨RX5, "nextToken", "()V"⟩
abbrev cX8_init : ByteArray := prog_10_method_1_code
def yX8_init : MethodName := ⟨RX8, "<init>", "()V"⟩
abbrev cX8_clear : ByteArray := prog_10_method_2_code
def yX8_clear : MethodName := ⟨RX8, "clear", "()V"⟩
abbrev cX8_isClause : ByteArray := prog_10_method_4_code
def yX8_isClause : MethodName := ⟨RX8, "isClause", "(I)Z"⟩
abbrev cX8_isLiteral : ByteArray := prog_10_method_5_code
def yX8_isLiteral : MethodName := ⟨RX8, "isLiteral", "(II)Z"⟩
abbrev cX8_all : ByteArray := prog_10_method_8_code
def yX8_all : MethodName := ⟨RX8, "all", "()I"⟩
abbrev cX8_countLiterals : ByteArray := prog_10_method_12_code
def yX8_countLiterals : MethodName := ⟨RX8, "countLiterals", "()I"⟩
abbrev cX8_countNames : ByteArray := prog_10_method_13_code
def yX8_countNames : MethodName := ⟨RX8, "countNames", "()I"⟩
abbrev cX9_init : ByteArray := prog_11_method_1_code
def yX9_init : MethodName := ⟨RX9, "<init>", "(LOppositePairs$Told;LOppositePairs$Bonds;)V"⟩
abbrev cX10_init : ByteArray := prog_1_method_1_code
def yX10_init : MethodName := ⟨RX10, "<init>", "()V"⟩
abbrev cX10_feed : ByteArray := prog_1_method_2_code
def yX10_feed : MethodName := ⟨RX10, "feed", "(IIIII)I"⟩
abbrev cX10_end : ByteArray := prog_1_method_3_code
def yX10_end : MethodName := ⟨RX10, "end", "(I)Z"⟩
abbrev cX10_clauses : ByteArray := prog_1_method_4_code
def yX10_clauses : MethodName := ⟨RX10, "clauses", "()I"⟩
abbrev cX10_fault : ByteArray := prog_1_method_5_code
def yX10_fault : MethodName := ⟨RX10, "fault", "(I)I"⟩
abbrev cX10_drop : ByteArray := prog_1_method_6_code
def yX10_drop : MethodName := ⟨RX10, "drop", "(I)Z"⟩
abbrev cX10_clause : ByteArray := prog_1_method_7_code
def yX10_clause : MethodName := ⟨RX10, "clause", "(II)I"⟩
abbrev cX10_show : ByteArray := prog_1_method_8_code
def yX10_show : MethodName := ⟨RX10, "show", "(II)I"⟩
abbrev cX10_out : ByteArray := prog_1_method_9_code
def yX10_out : MethodName := ⟨RX10, "out", "(I)I"⟩
abbrev cX10_meets : ByteArray := prog_1_method_10_code
def yX10_meets : MethodName := ⟨RX10, "meets", "(IIII)I"⟩
abbrev cX10_partners : ByteArray := prog_1_method_11_code
def yX10_partners : MethodName := ⟨RX10, "partners", "(II)I"⟩
abbrev cX10_pure : ByteArray := prog_1_method_12_code
def yX10_pure : MethodName := ⟨RX10, "pure", "()I"⟩
abbrev cX10_solve : ByteArray := prog_1_method_13_code
def yX10_solve : MethodName := ⟨RX10, "solve", "(III)I"⟩
abbrev cX10_deepen : ByteArray := prog_1_method_14_code
def yX10_deepen : MethodName := ⟨RX10, "deepen", "(III)I"⟩
abbrev cX10_any : ByteArray := prog_1_method_15_code
def yX10_any : MethodName := ⟨RX10, "any", "(II)I"⟩
abbrev cX10_tried : ByteArray := prog_1_method_16_code
def yX10_tried : MethodName := ⟨RX10, "tried", "(I)I"⟩
abbrev cX10_step : ByteArray := prog_1_method_17_code
def yX10_step : MethodName := ⟨RX10, "step", "(II)I"⟩
abbrev cX10_instance : ByteArray := prog_1_method_18_code
def yX10_instance : MethodName := ⟨RX10, "instance", "(I)I"⟩
abbrev cX10_shown : ByteArray := prog_1_method_19_code
def yX10_shown : MethodName := ⟨RX10, "shown", "(II)I"⟩
abbrev cX10_closed : ByteArray := prog_1_method_20_code
def yX10_closed : MethodName := ⟨RX10, "closed", "(I)I"⟩
abbrev cX10_open : ByteArray := prog_1_method_21_code
def yX10_open : MethodName := ⟨RX10, "open", "(II)I"⟩
abbrev cX10_needed : ByteArray := prog_1_method_22_code
def yX10_needed : MethodName := ⟨RX10, "needed", "()I"⟩
abbrev cX10_answer : ByteArray := prog_1_method_23_code
def yX10_answer : MethodName := ⟨RX10, "answer", "(II)I"⟩
abbrev cX10_look : ByteArray := prog_1_method_24_code
def yX10_look : MethodName := ⟨RX10, "look", "(I)I"⟩
abbrev cX10_forgetAll : ByteArray := prog_1_method_25_code
def yX10_forgetAll : MethodName := ⟨RX10, "forgetAll", "()V"⟩
abbrev cX10_begin : ByteArray := prog_1_method_26_code
def yX10_begin : MethodName := ⟨RX10, "begin", "()V"⟩
abbrev cX10_isInstance : ByteArray := prog_1_method_27_code
def yX10_isInstance : MethodName := ⟨RX10, "isInstance", "(I)Z"⟩
abbrev cX10_canBe : ByteArray := prog_1_method_33_code
def yX10_canBe : MethodName := ⟨RX10, "canBe", "(II)Z"⟩
abbrev cls : List vw_C := [(RX0, TX0, 6), (RX1, TX1, 13), (RX3, TX3, 12), (RX4, TX4, 18), (RX5, TX5, 11), (RX8, TX8, 10), (RX9, TX9, 8), (RX10, TX10, 8), (RX11, TX11, 71)]
theorem mem_r {ws : List Cond} (ps : List Nat) (hp : ws = ps.filterMap (fun i => tables_1[i]?)) : ∀ w ∈ ws, w ∈ tables_1 := fun w h => by
  rw [hp] at h
  obtain ⟨i, -, hi⟩ := List.mem_filterMap.mp h
  exact List.mem_of_getElem? hi
set_option maxRecDepth 20000 in
theorem iwX0 : ∀ w ∈ wsX00, w ∈ WALL := iw_of (mem_r [348, 350, 352, 354, 356, 358] (by decide +kernel)) (by decide +kernel)
set_option maxRecDepth 20000 in
theorem dfX0 : ∀ j, j < 6 → defaultValue (tyX0 j) = vp_V [.null, .null, .null, .null, .int 0, .int 0] j := by decide +kernel
set_option maxRecDepth 20000 in
theorem iwX1 : ∀ w ∈ wsX10, w ∈ WALL := iw_of (mem_r [149, 151, 153, 155, 157, 159, 161, 163, 165, 167, 169, 171, 173] (by decide +kernel)) (by decide +kernel)
set_option maxRecDepth 20000 in
theorem dfX1 : ∀ j, j < 13 → defaultValue (tyX1 j) = vp_V [.null, .null, .null, .int 0, .null, .null, .int 0, .null, .null, .int 0, .null, .null, .int 0] j := by decide +kernel
set_option maxRecDepth 20000 in
theorem iwX3 : ∀ w ∈ wsX30, w ∈ WALL := iw_of (mem_r [305, 307, 309, 311, 313, 315, 317, 319, 321, 323, 325, 327] (by decide +kernel)) (by decide +kernel)
set_option maxRecDepth 20000 in
theorem dfX3 : ∀ j, j < 12 → defaultValue (tyX3 j) = vp_V [.null, .null, .null, .null, .int 0, .null, .int 0, .null, .null, .null, .int 0, .int 0] j := by decide +kernel
set_option maxRecDepth 20000 in
theorem iwX4 : ∀ w ∈ wsX40, w ∈ WALL := iw_of (mem_r [249, 251, 253, 255, 257, 259, 261, 263, 265, 267, 269, 271, 273, 275, 277, 279, 281, 283] (by decide +kernel)) (by decide +kernel)
set_option maxRecDepth 20000 in
theorem dfX4 : ∀ j, j < 18 → defaultValue (tyX4 j) = vp_V [.null, .null, .null, .int 0, .null, .int 0, .null, .int 0, .null, .int 0, .int 0, .int 0, .int 0, .int 0, .int 0, .int 0, .int 0, .int 0] j := by decide +kernel
set_option maxRecDepth 20000 in
theorem iwX5 : ∀ w ∈ wsX50, w ∈ WALL := iw_of (mem_r [44, 46, 48, 50, 52, 54, 56, 58, 60, 62, 64] (by decide +kernel)) (by decide +kernel)
set_option maxRecDepth 20000 in
theorem dfX5 : ∀ j, j < 11 → defaultValue (tyX5 j) = vp_V [.null, .int 0, .int 0, .int 0, .null, .null, .int 0, .int 0, .int 0, .int 0, .long 0] j := by decide +kernel
set_option maxRecDepth 20000 in
theorem iwX8 : ∀ w ∈ wsX80, w ∈ WALL := iw_of (mem_r [106, 108, 110, 112, 114, 116, 118, 120, 122, 124] (by decide +kernel)) (by decide +kernel)
set_option maxRecDepth 20000 in
theorem dfX8 : ∀ j, j < 10 → defaultValue (tyX8 j) = vp_V [.null, .null, .null, .null, .int 0, .null, .null, .null, .null, .int 0] j := by decide +kernel
set_option maxRecDepth 20000 in
theorem iwX9 : ∀ w ∈ wsX90, w ∈ WALL := iw_of (mem_r [192, 194, 196, 198, 200, 202, 204, 206] (by decide +kernel)) (by decide +kernel)
set_option maxRecDepth 20000 in
theorem dfX9 : ∀ j, j < 8 → defaultValue (tyX9 j) = vp_V [.null, .null, .null, .int 0, .null, .int 0, .null, .int 0] j := by decide +kernel
set_option maxRecDepth 20000 in
theorem iwX10 : ∀ w ∈ wsX100, w ∈ WALL := iw_of (mem_r [369, 371, 373, 375, 377, 379, 381, 383] (by decide +kernel)) (by decide +kernel)
set_option maxRecDepth 20000 in
theorem dfX10 : ∀ j, j < 8 → defaultValue (tyX10 j) = vp_V [.null, .null, .null, .null, .null, .null, .null, .null] j := by decide +kernel
set_option maxRecDepth 20000 in
theorem iwX11 : ∀ w ∈ wsX110, w ∈ WALL := iw_of (mem_r [1169, 1171, 1173, 1175, 1177, 1179, 1181, 1183, 1185, 1187, 1189, 1191, 1193, 1195, 1197, 1199, 1201, 1203, 1205, 1207, 1209, 1211, 1213, 1215, 1217, 1219, 1221, 1223, 1225, 1227, 1229, 1231, 1233, 1235, 1237, 1239, 1241, 1243, 1245, 1247, 1249, 1251, 1253, 1255, 1257, 1259, 1261, 1263, 1265, 1267, 1269, 1271, 1273, 1275, 1277, 1279, 1281, 1283, 1285, 1287, 1289, 1291, 1293, 1295, 1297, 1299, 1301, 1303, 1305, 1307, 1309] (by decide +kernel)) (by decide +kernel)
set_option maxRecDepth 20000 in
theorem dfX11 : ∀ j, j < 71 → defaultValue (tyX11 j) = vp_V [.int 0, .null, .null, .null, .null, .null, .int 0, .int 0, .null, .null, .null, .null, .null, .null, .int 0, .int 0, .int 0, .int 0, .int 0, .long 0, .int 0, .int 0, .int 0, .int 0, .int 0, .null, .int 0, .null, .null, .null, .int 0, .int 0, .int 0, .int 0, .int 0, .int 0, .int 0, .null, .null, .null, .null, .null, .int 0, .null, .null, .null, .null, .null, .null, .int 0, .int 0, .int 0, .int 0, .int 0, .int 0, .null, .int 0, .int 0, .int 0, .null, .int 0, .int 0, .null, .int 0, .null, .int 0, .int 0, .null, .null, .null, .int 0] j := by decide +kernel
theorem P_nil {D : va_G} {H : Heap} : va_P D cls [] H := fun k q h => by simp at h
theorem D_nil {A : Nat → Prop} : va_D A [] := ⟨fun i j p q h => by simp at h, fun k q h => by simp at h⟩
/-! the answers on a fresh object -/
def an_end (n : Int32) : Int32 := if n.toInt = 0 then 1 else 0
def an_fault (w : Int32) : Int32 := if w.toInt = 0 then 0 else -1
def an_any (d o : Int32) : Int32 := if 0 ≤ d.toInt ∧ d.toInt ≤ 20 ∧ 0 ≤ o.toInt ∧ o.toInt ≤ 7 then -1 else -3
def an_tried (w : Int32) : Int32 := if 0 ≤ w.toInt ∧ w.toInt ≤ 3 then 0 else -1
def an_answer (k : Int32) : Int32 := if k.toInt = -1 then 0 else -1
def an_look (w : Int32) : Int32 := if 0 ≤ w.toInt ∧ w.toInt ≤ 8 then 0 else -1
end
section
/-! words of the tables, by their places -/
theorem w_arr_int : Cond.arrayClass .int ∈ WALL := wall_t (tb_1 67 (by decide +kernel)) rfl
theorem w_arr_long : Cond.arrayClass .long ∈ WALL := wall_t (tb_1 127 (by decide +kernel)) rfl
theorem w_c_X10_16 : Cond.classLink "OppositePairs" 16 "OppositePairs$Told" ∈ WALL := wall_t (tb_1 68 (by decide +kernel)) rfl
theorem w_c_X10_26 : Cond.classLink "OppositePairs" 26 "OppositePairs$Bonds" ∈ WALL := wall_t (tb_1 128 (by decide +kernel)) rfl
theorem w_c_X10_35 : Cond.classLink "OppositePairs" 35 "OppositePairs$Writer" ∈ WALL := wall_t (tb_1 176 (by decide +kernel)) rfl
theorem w_c_X10_44 : Cond.classLink "OppositePairs" 44 "OppositePairs$Prover" ∈ WALL := wall_t (tb_1 209 (by decide +kernel)) rfl
theorem w_c_X10_51 : Cond.classLink "OppositePairs" 51 "OppositePairs$Matrix" ∈ WALL := wall_t (tb_2 46 (by decide +kernel)) rfl
theorem w_c_X10_60 : Cond.classLink "OppositePairs" 60 "OppositePairs$Answers" ∈ WALL := wall_t (tb_2 90 (by decide +kernel)) rfl
theorem w_c_X10_9 : Cond.classLink "OppositePairs" 9 "OppositePairs$Reader" ∈ WALL := wall_t (tb_1 24 (by decide +kernel)) rfl
theorem w_c_X4_17 : Cond.classLink "OppositePairs$Prover" 17 "OppositePairs$Link" ∈ WALL := wall_t (tb_1 217 (by decide +kernel)) rfl
theorem w_c_X4_23 : Cond.classLink "OppositePairs$Prover" 23 "OppositePairs$Step" ∈ WALL := wall_t (tb_1 219 (by decide +kernel)) rfl
theorem w_c_X4_9 : Cond.classLink "OppositePairs$Prover" 9 "OppositePairs$Row" ∈ WALL := wall_t (tb_1 215 (by decide +kernel)) rfl
theorem w_code_X0_init : Cond.code yX0_init prog_2_method_1_code 1 none ∈ WALL := wall_t (tb_2 94 (by decide +kernel)) rfl
theorem w_code_X10_begin : Cond.code yX10_begin prog_1_method_26_code 1 none ∈ WALL := wall_t (tb_3 157 (by decide +kernel)) rfl
theorem w_code_X10_canBe : Cond.code yX10_canBe prog_1_method_33_code 2 (some .boolean) ∈ WALL := wall_t (tb_3 153 (by decide +kernel)) rfl
theorem w_code_X10_forgetAll : Cond.code yX10_forgetAll prog_1_method_25_code 1 none ∈ WALL := wall_t (tb_2 218 (by decide +kernel)) rfl
theorem w_code_X10_isInstance : Cond.code yX10_isInstance prog_1_method_27_code 2 (some .boolean) ∈ WALL := wall_t (tb_4 156 (by decide +kernel)) rfl
theorem w_code_X1_init : Cond.code yX1_init prog_3_method_1_code 2 none ∈ WALL := wall_t (tb_1 132 (by decide +kernel)) rfl
theorem w_code_X3_forget : Cond.code yX3_forget prog_5_method_2_code 1 none ∈ WALL := wall_t (tb_2 222 (by decide +kernel)) rfl
theorem w_code_X3_init : Cond.code yX3_init prog_5_method_1_code 4 none ∈ WALL := wall_t (tb_2 50 (by decide +kernel)) rfl
theorem w_code_X4_countSteps : Cond.code yX4_countSteps prog_6_method_25_code 4 (some .int) ∈ WALL := wall_t (tb_4 233 (by decide +kernel)) rfl
theorem w_code_X4_forgetCounts : Cond.code yX4_forgetCounts prog_6_method_2_code 1 none ∈ WALL := wall_t (tb_3 161 (by decide +kernel)) rfl
theorem w_code_X4_init : Cond.code yX4_init prog_6_method_1_code 3 none ∈ WALL := wall_t (tb_1 213 (by decide +kernel)) rfl
theorem w_code_X5_init : Cond.code yX5_init prog_7_method_1_code 1 none ∈ WALL := wall_t (tb_1 28 (by decide +kernel)) rfl
theorem w_code_X5_nextToken : Cond.code yX5_nextToken prog_7_method_10_code 1 none ∈ WALL := wall_t (tb_2 173 (by decide +kernel)) rfl
theorem w_code_X5_read : Cond.code yX5_read prog_7_method_3_code 3 none ∈ WALL := wall_t (tb_2 165 (by decide +kernel)) rfl
theorem w_code_X5_take : Cond.code yX5_take prog_7_method_2_code 3 none ∈ WALL := wall_t (tb_2 153 (by decide +kernel)) rfl
theorem w_code_X8_all : Cond.code yX8_all prog_10_method_8_code 1 (some .int) ∈ WALL := wall_t (tb_3 134 (by decide +kernel)) rfl
theorem w_code_X8_clear : Cond.code yX8_clear prog_10_method_2_code 1 none ∈ WALL := wall_t (tb_2 169 (by decide +kernel)) rfl
theorem w_code_X8_countLiterals : Cond.code yX8_countLiterals prog_10_method_12_code 3 (some .int) ∈ WALL := wall_t (tb_4 221 (by decide +kernel)) rfl
theorem w_code_X8_countNames : Cond.code yX8_countNames prog_10_method_13_code 4 (some .int) ∈ WALL := wall_t (tb_4 225 (by decide +kernel)) rfl
theorem w_code_X8_init : Cond.code yX8_init prog_10_method_1_code 1 none ∈ WALL := wall_t (tb_1 72 (by decide +kernel)) rfl
theorem w_code_X8_isClause : Cond.code yX8_isClause prog_10_method_4_code 2 (some .boolean) ∈ WALL := wall_t (tb_2 234 (by decide +kernel)) rfl
theorem w_code_X8_isLiteral : Cond.code yX8_isLiteral prog_10_method_5_code 3 (some .boolean) ∈ WALL := wall_t (tb_3 30 (by decide +kernel)) rfl
theorem w_code_X9_init : Cond.code yX9_init prog_11_method_1_code 3 none ∈ WALL := wall_t (tb_1 180 (by decide +kernel)) rfl
theorem w_code_objInit : Cond.code objectInit object_method_1_code 1 none ∈ WALL := wall_t (tb_1 23 (by decide +kernel)) rfl
theorem w_f_X0_15 : Cond.fieldLink "OppositePairs$Answers" 15 "OppositePairs$Answers" "depth" "[I" ∈ WALL := wall_t (tb_2 98 (by decide +kernel)) rfl
theorem w_f_X0_18 : Cond.fieldLink "OppositePairs$Answers" 18 "OppositePairs$Answers" "options" "[I" ∈ WALL := wall_t (tb_2 100 (by decide +kernel)) rfl
theorem w_f_X0_21 : Cond.fieldLink "OppositePairs$Answers" 21 "OppositePairs$Answers" "found" "[I" ∈ WALL := wall_t (tb_2 102 (by decide +kernel)) rfl
theorem w_f_X0_9 : Cond.fieldLink "OppositePairs$Answers" 9 "OppositePairs$Answers" "start" "[I" ∈ WALL := wall_t (tb_2 96 (by decide +kernel)) rfl
theorem w_f_X10_12 : Cond.fieldLink "OppositePairs" 12 "OppositePairs" "reader" "LOppositePairs$Reader;" ∈ WALL := wall_t (tb_2 121 (by decide +kernel)) rfl
theorem w_f_X10_19 : Cond.fieldLink "OppositePairs" 19 "OppositePairs" "told" "LOppositePairs$Told;" ∈ WALL := wall_t (tb_2 122 (by decide +kernel)) rfl
theorem w_f_X10_23 : Cond.fieldLink "OppositePairs" 23 "OppositePairs" "draft" "LOppositePairs$Told;" ∈ WALL := wall_t (tb_2 123 (by decide +kernel)) rfl
theorem w_f_X10_31 : Cond.fieldLink "OppositePairs" 31 "OppositePairs" "bonds" "LOppositePairs$Bonds;" ∈ WALL := wall_t (tb_2 124 (by decide +kernel)) rfl
theorem w_f_X10_40 : Cond.fieldLink "OppositePairs" 40 "OppositePairs" "writer" "LOppositePairs$Writer;" ∈ WALL := wall_t (tb_2 125 (by decide +kernel)) rfl
theorem w_f_X10_47 : Cond.fieldLink "OppositePairs" 47 "OppositePairs" "prover" "LOppositePairs$Prover;" ∈ WALL := wall_t (tb_2 126 (by decide +kernel)) rfl
theorem w_f_X10_56 : Cond.fieldLink "OppositePairs" 56 "OppositePairs" "matrix" "LOppositePairs$Matrix;" ∈ WALL := wall_t (tb_2 127 (by decide +kernel)) rfl
theorem w_f_X10_63 : Cond.fieldLink "OppositePairs" 63 "OppositePairs" "answers" "LOppositePairs$Answers;" ∈ WALL := wall_t (tb_2 128 (by decide +kernel)) rfl
theorem w_f_X1_15 : Cond.fieldLink "OppositePairs$Bonds" 15 "OppositePairs$Bonds" "trail" "[I" ∈ WALL := wall_t (tb_1 136 (by decide +kernel)) rfl
theorem w_f_X1_18 : Cond.fieldLink "OppositePairs$Bonds" 18 "OppositePairs$Bonds" "same" "[I" ∈ WALL := wall_t (tb_1 140 (by decide +kernel)) rfl
theorem w_f_X1_21 : Cond.fieldLink "OppositePairs$Bonds" 21 "OppositePairs$Bonds" "joined" "[I" ∈ WALL := wall_t (tb_1 141 (by decide +kernel)) rfl
theorem w_f_X1_24 : Cond.fieldLink "OppositePairs$Bonds" 24 "OppositePairs$Bonds" "left" "[I" ∈ WALL := wall_t (tb_1 143 (by decide +kernel)) rfl
theorem w_f_X1_27 : Cond.fieldLink "OppositePairs$Bonds" 27 "OppositePairs$Bonds" "right" "[I" ∈ WALL := wall_t (tb_1 144 (by decide +kernel)) rfl
theorem w_f_X1_30 : Cond.fieldLink "OppositePairs$Bonds" 30 "OppositePairs$Bonds" "hold" "[I" ∈ WALL := wall_t (tb_1 146 (by decide +kernel)) rfl
theorem w_f_X1_33 : Cond.fieldLink "OppositePairs$Bonds" 33 "OppositePairs$Bonds" "seen" "[I" ∈ WALL := wall_t (tb_1 147 (by decide +kernel)) rfl
theorem w_f_X1_36 : Cond.fieldLink "OppositePairs$Bonds" 36 "OppositePairs$Bonds" "told" "LOppositePairs$Told;" ∈ WALL := wall_t (tb_1 134 (by decide +kernel)) rfl
theorem w_f_X1_9 : Cond.fieldLink "OppositePairs$Bonds" 9 "OppositePairs$Bonds" "bound" "[I" ∈ WALL := wall_t (tb_1 135 (by decide +kernel)) rfl
theorem w_f_X3_15 : Cond.fieldLink "OppositePairs$Matrix" 15 "OppositePairs$Matrix" "order" "[I" ∈ WALL := wall_t (tb_2 57 (by decide +kernel)) rfl
theorem w_f_X3_18 : Cond.fieldLink "OppositePairs$Matrix" 18 "OppositePairs$Matrix" "chosen" "[I" ∈ WALL := wall_t (tb_2 59 (by decide +kernel)) rfl
theorem w_f_X3_21 : Cond.fieldLink "OppositePairs$Matrix" 21 "OppositePairs$Matrix" "plus" "[I" ∈ WALL := wall_t (tb_2 61 (by decide +kernel)) rfl
theorem w_f_X3_24 : Cond.fieldLink "OppositePairs$Matrix" 24 "OppositePairs$Matrix" "minus" "[I" ∈ WALL := wall_t (tb_2 62 (by decide +kernel)) rfl
theorem w_f_X3_27 : Cond.fieldLink "OppositePairs$Matrix" 27 "OppositePairs$Matrix" "walked" "I" ∈ WALL := wall_t (tb_2 63 (by decide +kernel)) rfl
theorem w_f_X3_31 : Cond.fieldLink "OppositePairs$Matrix" 31 "OppositePairs$Matrix" "told" "LOppositePairs$Told;" ∈ WALL := wall_t (tb_2 52 (by decide +kernel)) rfl
theorem w_f_X3_35 : Cond.fieldLink "OppositePairs$Matrix" 35 "OppositePairs$Matrix" "bonds" "LOppositePairs$Bonds;" ∈ WALL := wall_t (tb_2 53 (by decide +kernel)) rfl
theorem w_f_X3_39 : Cond.fieldLink "OppositePairs$Matrix" 39 "OppositePairs$Matrix" "prover" "LOppositePairs$Prover;" ∈ WALL := wall_t (tb_2 54 (by decide +kernel)) rfl
theorem w_f_X3_43 : Cond.fieldLink "OppositePairs$Matrix" 43 "OppositePairs$Matrix" "sorted" "Z" ∈ WALL := wall_t (tb_2 56 (by decide +kernel)) rfl
theorem w_f_X3_9 : Cond.fieldLink "OppositePairs$Matrix" 9 "OppositePairs$Matrix" "kind" "[I" ∈ WALL := wall_t (tb_2 55 (by decide +kernel)) rfl
theorem w_f_X4_11 : Cond.fieldLink "OppositePairs$Prover" 11 "OppositePairs$Prover" "rows" "[LOppositePairs$Row;" ∈ WALL := wall_t (tb_1 223 (by decide +kernel)) rfl
theorem w_f_X4_19 : Cond.fieldLink "OppositePairs$Prover" 19 "OppositePairs$Prover" "links" "[LOppositePairs$Link;" ∈ WALL := wall_t (tb_1 225 (by decide +kernel)) rfl
theorem w_f_X4_25 : Cond.fieldLink "OppositePairs$Prover" 25 "OppositePairs$Prover" "steps" "[LOppositePairs$Step;" ∈ WALL := wall_t (tb_1 227 (by decide +kernel)) rfl
theorem w_f_X4_29 : Cond.fieldLink "OppositePairs$Prover" 29 "OppositePairs$Prover" "clauseOf" "[I" ∈ WALL := wall_t (tb_1 230 (by decide +kernel)) rfl
theorem w_f_X4_33 : Cond.fieldLink "OppositePairs$Prover" 33 "OppositePairs$Prover" "told" "LOppositePairs$Told;" ∈ WALL := wall_t (tb_1 221 (by decide +kernel)) rfl
theorem w_f_X4_37 : Cond.fieldLink "OppositePairs$Prover" 37 "OppositePairs$Prover" "bonds" "LOppositePairs$Bonds;" ∈ WALL := wall_t (tb_1 222 (by decide +kernel)) rfl
theorem w_f_X4_41 : Cond.fieldLink "OppositePairs$Prover" 41 "OppositePairs$Prover" "proved" "Z" ∈ WALL := wall_t (tb_2 7 (by decide +kernel)) rfl
theorem w_f_X4_45 : Cond.fieldLink "OppositePairs$Prover" 45 "OppositePairs$Prover" "tries" "I" ∈ WALL := wall_t (tb_1 238 (by decide +kernel)) rfl
theorem w_f_X4_49 : Cond.fieldLink "OppositePairs$Prover" 49 "OppositePairs$Prover" "longest" "I" ∈ WALL := wall_t (tb_2 0 (by decide +kernel)) rfl
theorem w_f_X4_52 : Cond.fieldLink "OppositePairs$Prover" 52 "OppositePairs$Prover" "cuts" "I" ∈ WALL := wall_t (tb_2 2 (by decide +kernel)) rfl
theorem w_f_X4_55 : Cond.fieldLink "OppositePairs$Prover" 55 "OppositePairs$Prover" "extensions" "I" ∈ WALL := wall_t (tb_2 4 (by decide +kernel)) rfl
theorem w_f_X5_15 : Cond.fieldLink "OppositePairs$Reader" 15 "OppositePairs$Reader" "place" "I" ∈ WALL := wall_t (tb_1 35 (by decide +kernel)) rfl
theorem w_f_X5_19 : Cond.fieldLink "OppositePairs$Reader" 19 "OppositePairs$Reader" "known" "[I" ∈ WALL := wall_t (tb_1 38 (by decide +kernel)) rfl
theorem w_f_X5_22 : Cond.fieldLink "OppositePairs$Reader" 22 "OppositePairs$Reader" "length" "I" ∈ WALL := wall_t (tb_1 32 (by decide +kernel)) rfl
theorem w_f_X5_25 : Cond.fieldLink "OppositePairs$Reader" 25 "OppositePairs$Reader" "into" "LOppositePairs$Told;" ∈ WALL := wall_t (tb_1 37 (by decide +kernel)) rfl
theorem w_f_X5_34 : Cond.fieldLink "OppositePairs$Reader" 34 "OppositePairs$Reader" "fault" "I" ∈ WALL := wall_t (tb_1 33 (by decide +kernel)) rfl
theorem w_f_X5_37 : Cond.fieldLink "OppositePairs$Reader" 37 "OppositePairs$Reader" "behind" "I" ∈ WALL := wall_t (tb_1 41 (by decide +kernel)) rfl
theorem w_f_X5_43 : Cond.fieldLink "OppositePairs$Reader" 43 "OppositePairs$Reader" "token" "I" ∈ WALL := wall_t (tb_1 42 (by decide +kernel)) rfl
theorem w_f_X5_49 : Cond.fieldLink "OppositePairs$Reader" 49 "OppositePairs$Reader" "at" "I" ∈ WALL := wall_t (tb_1 40 (by decide +kernel)) rfl
theorem w_f_X5_9 : Cond.fieldLink "OppositePairs$Reader" 9 "OppositePairs$Reader" "bytes" "[I" ∈ WALL := wall_t (tb_1 30 (by decide +kernel)) rfl
theorem w_f_X8_15 : Cond.fieldLink "OppositePairs$Told" 15 "OppositePairs$Told" "variable" "[I" ∈ WALL := wall_t (tb_1 77 (by decide +kernel)) rfl
theorem w_f_X8_19 : Cond.fieldLink "OppositePairs$Told" 19 "OppositePairs$Told" "terms" "[I" ∈ WALL := wall_t (tb_1 80 (by decide +kernel)) rfl
theorem w_f_X8_22 : Cond.fieldLink "OppositePairs$Told" 22 "OppositePairs$Told" "term" "[I" ∈ WALL := wall_t (tb_1 85 (by decide +kernel)) rfl
theorem w_f_X8_25 : Cond.fieldLink "OppositePairs$Told" 25 "OppositePairs$Told" "literals" "[I" ∈ WALL := wall_t (tb_1 90 (by decide +kernel)) rfl
theorem w_f_X8_28 : Cond.fieldLink "OppositePairs$Told" 28 "OppositePairs$Told" "variables" "[I" ∈ WALL := wall_t (tb_1 94 (by decide +kernel)) rfl
theorem w_f_X8_31 : Cond.fieldLink "OppositePairs$Told" 31 "OppositePairs$Told" "plus" "[I" ∈ WALL := wall_t (tb_1 97 (by decide +kernel)) rfl
theorem w_f_X8_34 : Cond.fieldLink "OppositePairs$Told" 34 "OppositePairs$Told" "first" "[I" ∈ WALL := wall_t (tb_1 100 (by decide +kernel)) rfl
theorem w_f_X8_37 : Cond.fieldLink "OppositePairs$Told" 37 "OppositePairs$Told" "parts" "I" ∈ WALL := wall_t (tb_1 89 (by decide +kernel)) rfl
theorem w_f_X8_41 : Cond.fieldLink "OppositePairs$Told" 41 "OppositePairs$Told" "clauses" "I" ∈ WALL := wall_t (tb_1 102 (by decide +kernel)) rfl
theorem w_f_X8_9 : Cond.fieldLink "OppositePairs$Told" 9 "OppositePairs$Told" "name" "[J" ∈ WALL := wall_t (tb_1 74 (by decide +kernel)) rfl
theorem w_f_X9_15 : Cond.fieldLink "OppositePairs$Writer" 15 "OppositePairs$Writer" "draft" "[I" ∈ WALL := wall_t (tb_1 188 (by decide +kernel)) rfl
theorem w_f_X9_18 : Cond.fieldLink "OppositePairs$Writer" 18 "OppositePairs$Writer" "hold" "[I" ∈ WALL := wall_t (tb_1 190 (by decide +kernel)) rfl
theorem w_f_X9_21 : Cond.fieldLink "OppositePairs$Writer" 21 "OppositePairs$Writer" "told" "LOppositePairs$Told;" ∈ WALL := wall_t (tb_1 182 (by decide +kernel)) rfl
theorem w_f_X9_25 : Cond.fieldLink "OppositePairs$Writer" 25 "OppositePairs$Writer" "bonds" "LOppositePairs$Bonds;" ∈ WALL := wall_t (tb_1 183 (by decide +kernel)) rfl
theorem w_f_X9_9 : Cond.fieldLink "OppositePairs$Writer" 9 "OppositePairs$Writer" "bytes" "[I" ∈ WALL := wall_t (tb_1 184 (by decide +kernel)) rfl
theorem w_in_X0 : Cond.instantiable "OppositePairs$Answers" 6 ∈ WALL := wall_t (tb_2 91 (by decide +kernel)) rfl
theorem w_in_X1 : Cond.instantiable "OppositePairs$Bonds" 13 ∈ WALL := wall_t (tb_1 129 (by decide +kernel)) rfl
theorem w_in_X3 : Cond.instantiable "OppositePairs$Matrix" 12 ∈ WALL := wall_t (tb_2 47 (by decide +kernel)) rfl
theorem w_in_X4 : Cond.instantiable "OppositePairs$Prover" 18 ∈ WALL := wall_t (tb_1 210 (by decide +kernel)) rfl
theorem w_in_X5 : Cond.instantiable "OppositePairs$Reader" 11 ∈ WALL := wall_t (tb_1 25 (by decide +kernel)) rfl
theorem w_in_X8 : Cond.instantiable "OppositePairs$Told" 10 ∈ WALL := wall_t (tb_1 69 (by decide +kernel)) rfl
theorem w_in_X9 : Cond.instantiable "OppositePairs$Writer" 8 ∈ WALL := wall_t (tb_1 177 (by decide +kernel)) rfl
theorem w_ini_X0 : Cond.initialized "OppositePairs$Answers" ∈ WALL := wall_t (tb_1 8 (by decide +kernel)) rfl
theorem w_ini_X1 : Cond.initialized "OppositePairs$Bonds" ∈ WALL := wall_t (tb_1 4 (by decide +kernel)) rfl
theorem w_ini_X10 : Cond.initialized "OppositePairs" ∈ WALL := wall_t (tb_1 1 (by decide +kernel)) rfl
theorem w_ini_X3 : Cond.initialized "OppositePairs$Matrix" ∈ WALL := wall_t (tb_1 7 (by decide +kernel)) rfl
theorem w_ini_X4 : Cond.initialized "OppositePairs$Prover" ∈ WALL := wall_t (tb_1 6 (by decide +kernel)) rfl
theorem w_ini_X5 : Cond.initialized "OppositePairs$Reader" ∈ WALL := wall_t (tb_1 2 (by decide +kernel)) rfl
theorem w_ini_X8 : Cond.initialized "OppositePairs$Told" ∈ WALL := wall_t (tb_1 3 (by decide +kernel)) rfl
theorem w_ini_X9 : Cond.initialized "OppositePairs$Writer" ∈ WALL := wall_t (tb_1 5 (by decide +kernel)) rfl
theorem w_instanceMethod_X0_init : Cond.instanceMethod yX0_init ∈ WALL := wall_t (tb_2 93 (by decide +kernel)) rfl
theorem w_instanceMethod_X10_begin : Cond.instanceMethod yX10_begin ∈ WALL := wall_t (tb_3 156 (by decide +kernel)) rfl
theorem w_instanceMethod_X10_forgetAll : Cond.instanceMethod yX10_forgetAll ∈ WALL := wall_t (tb_2 217 (by decide +kernel)) rfl
theorem w_instanceMethod_X10_isInstance : Cond.instanceMethod yX10_isInstance ∈ WALL := wall_t (tb_4 155 (by decide +kernel)) rfl
theorem w_instanceMethod_X1_init : Cond.instanceMethod yX1_init ∈ WALL := wall_t (tb_1 131 (by decide +kernel)) rfl
theorem w_instanceMethod_X3_forget : Cond.instanceMethod yX3_forget ∈ WALL := wall_t (tb_2 221 (by decide +kernel)) rfl
theorem w_instanceMethod_X3_init : Cond.instanceMethod yX3_init ∈ WALL := wall_t (tb_2 49 (by decide +kernel)) rfl
theorem w_instanceMethod_X4_countSteps : Cond.instanceMethod yX4_countSteps ∈ WALL := wall_t (tb_4 232 (by decide +kernel)) rfl
theorem w_instanceMethod_X4_forgetCounts : Cond.instanceMethod yX4_forgetCounts ∈ WALL := wall_t (tb_3 160 (by decide +kernel)) rfl
theorem w_instanceMethod_X4_init : Cond.instanceMethod yX4_init ∈ WALL := wall_t (tb_1 212 (by decide +kernel)) rfl
theorem w_instanceMethod_X5_init : Cond.instanceMethod yX5_init ∈ WALL := wall_t (tb_1 27 (by decide +kernel)) rfl
theorem w_instanceMethod_X5_nextToken : Cond.instanceMethod yX5_nextToken ∈ WALL := wall_t (tb_2 172 (by decide +kernel)) rfl
theorem w_instanceMethod_X5_read : Cond.instanceMethod yX5_read ∈ WALL := wall_t (tb_2 164 (by decide +kernel)) rfl
theorem w_instanceMethod_X5_take : Cond.instanceMethod yX5_take ∈ WALL := wall_t (tb_2 152 (by decide +kernel)) rfl
theorem w_instanceMethod_X8_all : Cond.instanceMethod yX8_all ∈ WALL := wall_t (tb_3 133 (by decide +kernel)) rfl
theorem w_instanceMethod_X8_clear : Cond.instanceMethod yX8_clear ∈ WALL := wall_t (tb_2 168 (by decide +kernel)) rfl
theorem w_instanceMethod_X8_countLiterals : Cond.instanceMethod yX8_countLiterals ∈ WALL := wall_t (tb_4 220 (by decide +kernel)) rfl
theorem w_instanceMethod_X8_countNames : Cond.instanceMethod yX8_countNames ∈ WALL := wall_t (tb_4 224 (by decide +kernel)) rfl
theorem w_instanceMethod_X8_init : Cond.instanceMethod yX8_init ∈ WALL := wall_t (tb_1 71 (by decide +kernel)) rfl
theorem w_instanceMethod_X8_isClause : Cond.instanceMethod yX8_isClause ∈ WALL := wall_t (tb_2 233 (by decide +kernel)) rfl
theorem w_instanceMethod_X8_isLiteral : Cond.instanceMethod yX8_isLiteral ∈ WALL := wall_t (tb_3 29 (by decide +kernel)) rfl
theorem w_instanceMethod_X9_init : Cond.instanceMethod yX9_init ∈ WALL := wall_t (tb_1 179 (by decide +kernel)) rfl
theorem w_instanceMethod_objInit : Cond.instanceMethod objectInit ∈ WALL := wall_t (tb_1 22 (by decide +kernel)) rfl
theorem w_m_X0_3 : Cond.methodLink "OppositePairs$Answers" 3 objectInit ∈ WALL := wall_t (tb_2 95 (by decide +kernel)) rfl
theorem w_m_X10_150 : Cond.methodLink "OppositePairs" 150 yX10_canBe ∈ WALL := wall_t (tb_3 151 (by decide +kernel)) rfl
theorem w_m_X10_153 : Cond.methodLink "OppositePairs" 153 yX10_begin ∈ WALL := wall_t (tb_3 154 (by decide +kernel)) rfl
theorem w_m_X10_220 : Cond.methodLink "OppositePairs" 220 yX10_isInstance ∈ WALL := wall_t (tb_4 153 (by decide +kernel)) rfl
theorem w_m_X10_3 : Cond.methodLink "OppositePairs" 3 objectInit ∈ WALL := wall_t (tb_1 21 (by decide +kernel)) rfl
theorem w_m_X10_81 : Cond.methodLink "OppositePairs" 81 yX10_forgetAll ∈ WALL := wall_t (tb_2 215 (by decide +kernel)) rfl
theorem w_m_X1_3 : Cond.methodLink "OppositePairs$Bonds" 3 objectInit ∈ WALL := wall_t (tb_1 133 (by decide +kernel)) rfl
theorem w_m_X3_3 : Cond.methodLink "OppositePairs$Matrix" 3 objectInit ∈ WALL := wall_t (tb_2 51 (by decide +kernel)) rfl
theorem w_m_X4_3 : Cond.methodLink "OppositePairs$Prover" 3 objectInit ∈ WALL := wall_t (tb_1 214 (by decide +kernel)) rfl
theorem w_m_X5_3 : Cond.methodLink "OppositePairs$Reader" 3 objectInit ∈ WALL := wall_t (tb_1 29 (by decide +kernel)) rfl
theorem w_m_X5_40 : Cond.methodLink "OppositePairs$Reader" 40 yX5_nextToken ∈ WALL := wall_t (tb_2 170 (by decide +kernel)) rfl
theorem w_m_X8_3 : Cond.methodLink "OppositePairs$Told" 3 objectInit ∈ WALL := wall_t (tb_1 73 (by decide +kernel)) rfl
theorem w_m_X8_50 : Cond.methodLink "OppositePairs$Told" 50 yX8_isClause ∈ WALL := wall_t (tb_3 31 (by decide +kernel)) rfl
theorem w_m_X9_3 : Cond.methodLink "OppositePairs$Writer" 3 objectInit ∈ WALL := wall_t (tb_1 181 (by decide +kernel)) rfl
theorem w_static_X10_canBe : Cond.static yX10_canBe ∈ WALL := wall_t (tb_3 152 (by decide +kernel)) rfl
theorem ws_sel_X10_begin : Cond.selects "OppositePairs" yX10_begin yX10_begin ∈ WALL := wall_s 44 (by decide +kernel) rfl
theorem ws_sel_X10_forgetAll : Cond.selects "OppositePairs" yX10_forgetAll yX10_forgetAll ∈ WALL := wall_s 12 (by decide +kernel) rfl
theorem ws_sel_X10_isInstance : Cond.selects "OppositePairs" yX10_isInstance yX10_isInstance ∈ WALL := wall_s 71 (by decide +kernel) rfl
theorem ws_sel_X3_forget : Cond.selects "OppositePairs$Matrix" yX3_forget yX3_forget ∈ WALL := wall_s 13 (by decide +kernel) rfl
theorem ws_sel_X4_countSteps : Cond.selects "OppositePairs$Prover" yX4_countSteps yX4_countSteps ∈ WALL := wall_s 82 (by decide +kernel) rfl
theorem ws_sel_X4_forgetCounts : Cond.selects "OppositePairs$Prover" yX4_forgetCounts yX4_forgetCounts ∈ WALL := wall_s 45 (by decide +kernel) rfl
theorem ws_sel_X5_nextToken : Cond.selects "OppositePairs$Reader" yX5_nextToken yX5_nextToken ∈ WALL := wall_s 3 (by decide +kernel) rfl
theorem ws_sel_X5_read : Cond.selects "OppositePairs$Reader" yX5_read yX5_read ∈ WALL := wall_s 1 (by decide +kernel) rfl
theorem ws_sel_X5_take : Cond.selects "OppositePairs$Reader" yX5_take yX5_take ∈ WALL := wall_s 0 (by decide +kernel) rfl
theorem ws_sel_X8_all : Cond.selects "OppositePairs$Told" yX8_all yX8_all ∈ WALL := wall_s 41 (by decide +kernel) rfl
theorem ws_sel_X8_clear : Cond.selects "OppositePairs$Told" yX8_clear yX8_clear ∈ WALL := wall_s 2 (by decide +kernel) rfl
theorem ws_sel_X8_countLiterals : Cond.selects "OppositePairs$Told" yX8_countLiterals yX8_countLiterals ∈ WALL := wall_s 79 (by decide +kernel) rfl
theorem ws_sel_X8_countNames : Cond.selects "OppositePairs$Told" yX8_countNames yX8_countNames ∈ WALL := wall_s 80 (by decide +kernel) rfl
theorem ws_sel_X8_isClause : Cond.selects "OppositePairs$Told" yX8_isClause yX8_isClause ∈ WALL := wall_s 14 (by decide +kernel) rfl
theorem ws_sel_X8_isLiteral : Cond.selects "OppositePairs$Told" yX8_isLiteral yX8_isLiteral ∈ WALL := wall_s 21 (by decide +kernel) rfl
theorem n_ao_X2 : Cond.arrayOver (.object "OppositePairs$Link") ∈ NWL := nwl_t (tb_1 218 (by decide +kernel)) rfl
theorem n_ao_X6 : Cond.arrayOver (.object "OppositePairs$Row") ∈ NWL := nwl_t (tb_1 216 (by decide +kernel)) rfl
theorem n_ao_X7 : Cond.arrayOver (.object "OppositePairs$Step") ∈ NWL := nwl_t (tb_1 220 (by decide +kernel)) rfl
theorem n_f_X10_132 : Cond.fieldLinkNest "OppositePairs" 132 "OppositePairs$Writer" "length" "I" "OppositePairs" ∈ NWL := nwl_t (tb_1 187 (by decide +kernel)) rfl
theorem n_f_X10_163 : Cond.fieldLinkNest "OppositePairs" 163 "OppositePairs$Prover" "tries" "I" "OppositePairs" ∈ NWL := nwl_t (tb_1 239 (by decide +kernel)) rfl
theorem n_f_X10_166 : Cond.fieldLinkNest "OppositePairs" 166 "OppositePairs$Prover" "longest" "I" "OppositePairs" ∈ NWL := nwl_t (tb_2 1 (by decide +kernel)) rfl
theorem n_f_X10_169 : Cond.fieldLinkNest "OppositePairs" 169 "OppositePairs$Prover" "cuts" "I" "OppositePairs" ∈ NWL := nwl_t (tb_2 3 (by decide +kernel)) rfl
theorem n_f_X10_172 : Cond.fieldLinkNest "OppositePairs" 172 "OppositePairs$Prover" "extensions" "I" "OppositePairs" ∈ NWL := nwl_t (tb_2 5 (by decide +kernel)) rfl
theorem n_f_X10_175 : Cond.fieldLinkNest "OppositePairs" 175 "OppositePairs$Prover" "proved" "Z" "OppositePairs" ∈ NWL := nwl_t (tb_2 8 (by decide +kernel)) rfl
theorem n_f_X10_232 : Cond.fieldLinkNest "OppositePairs" 232 "OppositePairs$Answers" "count" "I" "OppositePairs" ∈ NWL := nwl_t (tb_2 105 (by decide +kernel)) rfl
theorem n_f_X10_256 : Cond.fieldLinkNest "OppositePairs" 256 "OppositePairs$Answers" "again" "I" "OppositePairs" ∈ NWL := nwl_t (tb_2 107 (by decide +kernel)) rfl
theorem n_f_X10_67 : Cond.fieldLinkNest "OppositePairs" 67 "OppositePairs$Reader" "length" "I" "OppositePairs" ∈ NWL := nwl_t (tb_1 31 (by decide +kernel)) rfl
theorem n_f_X10_78 : Cond.fieldLinkNest "OppositePairs" 78 "OppositePairs$Reader" "fault" "I" "OppositePairs" ∈ NWL := nwl_t (tb_1 34 (by decide +kernel)) rfl
theorem n_f_X10_84 : Cond.fieldLinkNest "OppositePairs" 84 "OppositePairs$Told" "clauses" "I" "OppositePairs" ∈ NWL := nwl_t (tb_1 103 (by decide +kernel)) rfl
theorem n_f_X10_87 : Cond.fieldLinkNest "OppositePairs" 87 "OppositePairs$Reader" "place" "I" "OppositePairs" ∈ NWL := nwl_t (tb_1 36 (by decide +kernel)) rfl
theorem n_m_X10_11 : Cond.methodLinkNest "OppositePairs" 11 yX5_init "OppositePairs" ∈ NWL := nwl_t (tb_1 26 (by decide +kernel)) rfl
theorem n_m_X10_111 : Cond.methodLinkNest "OppositePairs" 111 yX8_isLiteral "OppositePairs" ∈ NWL := nwl_t (tb_3 27 (by decide +kernel)) rfl
theorem n_m_X10_140 : Cond.methodLinkNest "OppositePairs" 140 yX8_all "OppositePairs" ∈ NWL := nwl_t (tb_3 131 (by decide +kernel)) rfl
theorem n_m_X10_18 : Cond.methodLinkNest "OppositePairs" 18 yX8_init "OppositePairs" ∈ NWL := nwl_t (tb_1 70 (by decide +kernel)) rfl
theorem n_m_X10_247 : Cond.methodLinkNest "OppositePairs" 247 yX8_countLiterals "OppositePairs" ∈ NWL := nwl_t (tb_4 218 (by decide +kernel)) rfl
theorem n_m_X10_250 : Cond.methodLinkNest "OppositePairs" 250 yX8_countNames "OppositePairs" ∈ NWL := nwl_t (tb_4 222 (by decide +kernel)) rfl
theorem n_m_X10_253 : Cond.methodLinkNest "OppositePairs" 253 yX4_countSteps "OppositePairs" ∈ NWL := nwl_t (tb_4 230 (by decide +kernel)) rfl
theorem n_m_X10_259 : Cond.methodLinkNest "OppositePairs" 259 yX3_forget "OppositePairs" ∈ NWL := nwl_t (tb_2 219 (by decide +kernel)) rfl
theorem n_m_X10_262 : Cond.methodLinkNest "OppositePairs" 262 yX4_forgetCounts "OppositePairs" ∈ NWL := nwl_t (tb_3 158 (by decide +kernel)) rfl
theorem n_m_X10_28 : Cond.methodLinkNest "OppositePairs" 28 yX1_init "OppositePairs" ∈ NWL := nwl_t (tb_1 130 (by decide +kernel)) rfl
theorem n_m_X10_37 : Cond.methodLinkNest "OppositePairs" 37 yX9_init "OppositePairs" ∈ NWL := nwl_t (tb_1 178 (by decide +kernel)) rfl
theorem n_m_X10_46 : Cond.methodLinkNest "OppositePairs" 46 yX4_init "OppositePairs" ∈ NWL := nwl_t (tb_1 211 (by decide +kernel)) rfl
theorem n_m_X10_53 : Cond.methodLinkNest "OppositePairs" 53 yX3_init "OppositePairs" ∈ NWL := nwl_t (tb_2 48 (by decide +kernel)) rfl
theorem n_m_X10_62 : Cond.methodLinkNest "OppositePairs" 62 yX0_init "OppositePairs" ∈ NWL := nwl_t (tb_2 92 (by decide +kernel)) rfl
theorem n_m_X10_71 : Cond.methodLinkNest "OppositePairs" 71 yX5_take "OppositePairs" ∈ NWL := nwl_t (tb_2 150 (by decide +kernel)) rfl
theorem n_m_X10_75 : Cond.methodLinkNest "OppositePairs" 75 yX5_read "OppositePairs" ∈ NWL := nwl_t (tb_2 162 (by decide +kernel)) rfl
theorem n_m_X10_90 : Cond.methodLinkNest "OppositePairs" 90 yX8_isClause "OppositePairs" ∈ NWL := nwl_t (tb_2 231 (by decide +kernel)) rfl
theorem n_m_X5_29 : Cond.methodLinkNest "OppositePairs$Reader" 29 yX8_clear "OppositePairs" ∈ NWL := nwl_t (tb_2 166 (by decide +kernel)) rfl
end
section
theorem dX0_init_0 : decode cX0_init 0 = .ok (.aload_n 0, 1) := by decide +kernel
theorem dX0_init_1 : decode cX0_init 1 = .ok (.invokespecial 3, 3) := by decide +kernel
theorem dX0_init_12 : decode cX0_init 12 = .ok (.aload_n 0, 1) := by decide +kernel
theorem dX0_init_13 : decode cX0_init 13 = .ok (.bipush 8, 2) := by decide +kernel
theorem dX0_init_15 : decode cX0_init 15 = .ok (.newarray .int, 2) := by decide +kernel
theorem dX0_init_17 : decode cX0_init 17 = .ok (.putfield 15, 3) := by decide +kernel
theorem dX0_init_20 : decode cX0_init 20 = .ok (.aload_n 0, 1) := by decide +kernel
theorem dX0_init_21 : decode cX0_init 21 = .ok (.bipush 8, 2) := by decide +kernel
theorem dX0_init_23 : decode cX0_init 23 = .ok (.newarray .int, 2) := by decide +kernel
theorem dX0_init_25 : decode cX0_init 25 = .ok (.putfield 18, 3) := by decide +kernel
theorem dX0_init_28 : decode cX0_init 28 = .ok (.aload_n 0, 1) := by decide +kernel
theorem dX0_init_29 : decode cX0_init 29 = .ok (.bipush 8, 2) := by decide +kernel
theorem dX0_init_31 : decode cX0_init 31 = .ok (.newarray .int, 2) := by decide +kernel
theorem dX0_init_33 : decode cX0_init 33 = .ok (.putfield 21, 3) := by decide +kernel
theorem dX0_init_36 : decode cX0_init 36 = .ok (.return_, 1) := by decide +kernel
theorem dX0_init_4 : decode cX0_init 4 = .ok (.aload_n 0, 1) := by decide +kernel
theorem dX0_init_5 : decode cX0_init 5 = .ok (.bipush 8, 2) := by decide +kernel
theorem dX0_init_7 : decode cX0_init 7 = .ok (.newarray .int, 2) := by decide +kernel
theorem dX0_init_9 : decode cX0_init 9 = .ok (.putfield 9, 3) := by decide +kernel
theorem dX10_answer_0 : decode cX10_answer 0 = .ok (.iload_n 1, 1) := by decide +kernel
theorem dX10_answer_1 : decode cX10_answer 1 = .ok (.iconst (-1), 1) := by decide +kernel
theorem dX10_answer_12 : decode cX10_answer 12 = .ok (.ireturn, 1) := by decide +kernel
theorem dX10_answer_13 : decode cX10_answer 13 = .ok (.iload_n 1, 1) := by decide +kernel
theorem dX10_answer_14 : decode cX10_answer 14 = .ok (.ifCond .lt 14, 3) := by decide +kernel
theorem dX10_answer_17 : decode cX10_answer 17 = .ok (.iload_n 1, 1) := by decide +kernel
theorem dX10_answer_18 : decode cX10_answer 18 = .ok (.aload_n 0, 1) := by decide +kernel
theorem dX10_answer_19 : decode cX10_answer 19 = .ok (.getfield 63, 3) := by decide +kernel
theorem dX10_answer_2 : decode cX10_answer 2 = .ok (.if_icmp .ne 11, 3) := by decide +kernel
theorem dX10_answer_22 : decode cX10_answer 22 = .ok (.getfield 232, 3) := by decide +kernel
theorem dX10_answer_25 : decode cX10_answer 25 = .ok (.if_icmp .lt 5, 3) := by decide +kernel
theorem dX10_answer_28 : decode cX10_answer 28 = .ok (.iconst (-1), 1) := by decide +kernel
theorem dX10_answer_29 : decode cX10_answer 29 = .ok (.ireturn, 1) := by decide +kernel
theorem dX10_answer_5 : decode cX10_answer 5 = .ok (.aload_n 0, 1) := by decide +kernel
theorem dX10_answer_6 : decode cX10_answer 6 = .ok (.getfield 63, 3) := by decide +kernel
theorem dX10_answer_9 : decode cX10_answer 9 = .ok (.getfield 232, 3) := by decide +kernel
theorem dX10_any_0 : decode cX10_any 0 = .ok (.iload_n 1, 1) := by decide +kernel
theorem dX10_any_1 : decode cX10_any 1 = .ok (.iload_n 2, 1) := by decide +kernel
theorem dX10_any_10 : decode cX10_any 10 = .ok (.ireturn, 1) := by decide +kernel
theorem dX10_any_11 : decode cX10_any 11 = .ok (.aload_n 0, 1) := by decide +kernel
theorem dX10_any_12 : decode cX10_any 12 = .ok (.invokevirtual 153, 3) := by decide +kernel
theorem dX10_any_15 : decode cX10_any 15 = .ok (.iconst 0, 1) := by decide +kernel
theorem dX10_any_16 : decode cX10_any 16 = .ok (.istore_n 3, 1) := by decide +kernel
theorem dX10_any_17 : decode cX10_any 17 = .ok (.iload_n 3, 1) := by decide +kernel
theorem dX10_any_18 : decode cX10_any 18 = .ok (.aload_n 0, 1) := by decide +kernel
theorem dX10_any_19 : decode cX10_any 19 = .ok (.getfield 19, 3) := by decide +kernel
theorem dX10_any_2 : decode cX10_any 2 = .ok (.invokestatic 150, 3) := by decide +kernel
theorem dX10_any_22 : decode cX10_any 22 = .ok (.getfield 84, 3) := by decide +kernel
theorem dX10_any_25 : decode cX10_any 25 = .ok (.if_icmp .ge 39, 3) := by decide +kernel
theorem dX10_any_5 : decode cX10_any 5 = .ok (.ifCond .ne 6, 3) := by decide +kernel
theorem dX10_any_64 : decode cX10_any 64 = .ok (.iconst (-1), 1) := by decide +kernel
theorem dX10_any_65 : decode cX10_any 65 = .ok (.ireturn, 1) := by decide +kernel
theorem dX10_any_8 : decode cX10_any 8 = .ok (.bipush (-3), 2) := by decide +kernel
theorem dX10_begin_0 : decode cX10_begin 0 = .ok (.aload_n 0, 1) := by decide +kernel
theorem dX10_begin_1 : decode cX10_begin 1 = .ok (.getfield 56, 3) := by decide +kernel
theorem dX10_begin_11 : decode cX10_begin 11 = .ok (.invokevirtual 262, 3) := by decide +kernel
theorem dX10_begin_14 : decode cX10_begin 14 = .ok (.return_, 1) := by decide +kernel
theorem dX10_begin_4 : decode cX10_begin 4 = .ok (.invokevirtual 259, 3) := by decide +kernel
theorem dX10_begin_7 : decode cX10_begin 7 = .ok (.aload_n 0, 1) := by decide +kernel
theorem dX10_begin_8 : decode cX10_begin 8 = .ok (.getfield 47, 3) := by decide +kernel
theorem dX10_canBe_0 : decode cX10_canBe 0 = .ok (.iload_n 0, 1) := by decide +kernel
theorem dX10_canBe_1 : decode cX10_canBe 1 = .ok (.ifCond .lt 23, 3) := by decide +kernel
theorem dX10_canBe_10 : decode cX10_canBe 10 = .ok (.iload_n 1, 1) := by decide +kernel
theorem dX10_canBe_11 : decode cX10_canBe 11 = .ok (.ifCond .lt 13, 3) := by decide +kernel
theorem dX10_canBe_14 : decode cX10_canBe 14 = .ok (.iload_n 1, 1) := by decide +kernel
theorem dX10_canBe_15 : decode cX10_canBe 15 = .ok (.bipush 7, 2) := by decide +kernel
theorem dX10_canBe_17 : decode cX10_canBe 17 = .ok (.if_icmp .gt 7, 3) := by decide +kernel
theorem dX10_canBe_20 : decode cX10_canBe 20 = .ok (.iconst 1, 1) := by decide +kernel
theorem dX10_canBe_21 : decode cX10_canBe 21 = .ok (.goto 4, 3) := by decide +kernel
theorem dX10_canBe_24 : decode cX10_canBe 24 = .ok (.iconst 0, 1) := by decide +kernel
theorem dX10_canBe_25 : decode cX10_canBe 25 = .ok (.ireturn, 1) := by decide +kernel
theorem dX10_canBe_4 : decode cX10_canBe 4 = .ok (.iload_n 0, 1) := by decide +kernel
theorem dX10_canBe_5 : decode cX10_canBe 5 = .ok (.bipush 20, 2) := by decide +kernel
theorem dX10_canBe_7 : decode cX10_canBe 7 = .ok (.if_icmp .gt 17, 3) := by decide +kernel
theorem dX10_clause_0 : decode cX10_clause 0 = .ok (.aload_n 0, 1) := by decide +kernel
theorem dX10_clause_1 : decode cX10_clause 1 = .ok (.getfield 19, 3) := by decide +kernel
theorem dX10_clause_11 : decode cX10_clause 11 = .ok (.iconst (-1), 1) := by decide +kernel
theorem dX10_clause_12 : decode cX10_clause 12 = .ok (.ireturn, 1) := by decide +kernel
theorem dX10_clause_4 : decode cX10_clause 4 = .ok (.iload_n 1, 1) := by decide +kernel
theorem dX10_clause_5 : decode cX10_clause 5 = .ok (.invokevirtual 90, 3) := by decide +kernel
theorem dX10_clause_8 : decode cX10_clause 8 = .ok (.ifCond .ne 5, 3) := by decide +kernel
theorem dX10_clauses_0 : decode cX10_clauses 0 = .ok (.aload_n 0, 1) := by decide +kernel
theorem dX10_clauses_1 : decode cX10_clauses 1 = .ok (.getfield 12, 3) := by decide +kernel
theorem dX10_clauses_11 : decode cX10_clauses 11 = .ok (.aload_n 0, 1) := by decide +kernel
theorem dX10_clauses_12 : decode cX10_clauses 12 = .ok (.getfield 12, 3) := by decide +kernel
theorem dX10_clauses_15 : decode cX10_clauses 15 = .ok (.getfield 78, 3) := by decide +kernel
theorem dX10_clauses_18 : decode cX10_clauses 18 = .ok (.ifCond .ne 7, 3) := by decide +kernel
theorem dX10_clauses_21 : decode cX10_clauses 21 = .ok (.iconst 1, 1) := by decide +kernel
theorem dX10_clauses_22 : decode cX10_clauses 22 = .ok (.goto 4, 3) := by decide +kernel
theorem dX10_clauses_26 : decode cX10_clauses 26 = .ok (.istore_n 1, 1) := by decide +kernel
theorem dX10_clauses_27 : decode cX10_clauses 27 = .ok (.iload_n 1, 1) := by decide +kernel
theorem dX10_clauses_28 : decode cX10_clauses 28 = .ok (.ifCond .eq 18, 3) := by decide +kernel
theorem dX10_clauses_31 : decode cX10_clauses 31 = .ok (.aload_n 0, 1) := by decide +kernel
theorem dX10_clauses_32 : decode cX10_clauses 32 = .ok (.getfield 12, 3) := by decide +kernel
theorem dX10_clauses_35 : decode cX10_clauses 35 = .ok (.aload_n 0, 1) := by decide +kernel
theorem dX10_clauses_36 : decode cX10_clauses 36 = .ok (.getfield 19, 3) := by decide +kernel
theorem dX10_clauses_39 : decode cX10_clauses 39 = .ok (.invokevirtual 75, 3) := by decide +kernel
theorem dX10_clauses_4 : decode cX10_clauses 4 = .ok (.aload_n 0, 1) := by decide +kernel
theorem dX10_clauses_42 : decode cX10_clauses 42 = .ok (.aload_n 0, 1) := by decide +kernel
theorem dX10_clauses_43 : decode cX10_clauses 43 = .ok (.invokevirtual 81, 3) := by decide +kernel
theorem dX10_clauses_46 : decode cX10_clauses 46 = .ok (.aload_n 0, 1) := by decide +kernel
theorem dX10_clauses_47 : decode cX10_clauses 47 = .ok (.getfield 12, 3) := by decide +kernel
theorem dX10_clauses_5 : decode cX10_clauses 5 = .ok (.getfield 23, 3) := by decide +kernel
theorem dX10_clauses_50 : decode cX10_clauses 50 = .ok (.iconst 0, 1) := by decide +kernel
theorem dX10_clauses_51 : decode cX10_clauses 51 = .ok (.putfield 67, 3) := by decide +kernel
theorem dX10_clauses_54 : decode cX10_clauses 54 = .ok (.iload_n 1, 1) := by decide +kernel
theorem dX10_clauses_55 : decode cX10_clauses 55 = .ok (.ifCond .eq 13, 3) := by decide +kernel
theorem dX10_clauses_58 : decode cX10_clauses 58 = .ok (.aload_n 0, 1) := by decide +kernel
theorem dX10_clauses_59 : decode cX10_clauses 59 = .ok (.getfield 19, 3) := by decide +kernel
theorem dX10_clauses_62 : decode cX10_clauses 62 = .ok (.getfield 84, 3) := by decide +kernel
theorem dX10_clauses_65 : decode cX10_clauses 65 = .ok (.goto 4, 3) := by decide +kernel
theorem dX10_clauses_69 : decode cX10_clauses 69 = .ok (.ireturn, 1) := by decide +kernel
theorem dX10_clauses_8 : decode cX10_clauses 8 = .ok (.invokevirtual 75, 3) := by decide +kernel
theorem dX10_closed_0 : decode cX10_closed 0 = .ok (.aload_n 0, 1) := by decide +kernel
theorem dX10_closed_1 : decode cX10_closed 1 = .ok (.getfield 47, 3) := by decide +kernel
theorem dX10_closed_23 : decode cX10_closed 23 = .ok (.iconst (-1), 1) := by decide +kernel
theorem dX10_closed_24 : decode cX10_closed 24 = .ok (.ireturn, 1) := by decide +kernel
theorem dX10_closed_4 : decode cX10_closed 4 = .ok (.getfield 175, 3) := by decide +kernel
theorem dX10_closed_7 : decode cX10_closed 7 = .ok (.ifCond .eq 16, 3) := by decide +kernel
theorem dX10_deepen_0 : decode cX10_deepen 0 = .ok (.aload_n 0, 1) := by decide +kernel
theorem dX10_deepen_1 : decode cX10_deepen 1 = .ok (.getfield 19, 3) := by decide +kernel
theorem dX10_deepen_19 : decode cX10_deepen 19 = .ok (.bipush (-3), 2) := by decide +kernel
theorem dX10_deepen_21 : decode cX10_deepen 21 = .ok (.ireturn, 1) := by decide +kernel
theorem dX10_deepen_4 : decode cX10_deepen 4 = .ok (.iload_n 1, 1) := by decide +kernel
theorem dX10_deepen_5 : decode cX10_deepen 5 = .ok (.invokevirtual 90, 3) := by decide +kernel
theorem dX10_deepen_8 : decode cX10_deepen 8 = .ok (.ifCond .eq 11, 3) := by decide +kernel
theorem dX10_drop_0 : decode cX10_drop 0 = .ok (.aload_n 0, 1) := by decide +kernel
theorem dX10_drop_1 : decode cX10_drop 1 = .ok (.getfield 19, 3) := by decide +kernel
theorem dX10_drop_11 : decode cX10_drop 11 = .ok (.iconst 0, 1) := by decide +kernel
theorem dX10_drop_12 : decode cX10_drop 12 = .ok (.ireturn, 1) := by decide +kernel
theorem dX10_drop_4 : decode cX10_drop 4 = .ok (.iload_n 1, 1) := by decide +kernel
theorem dX10_drop_5 : decode cX10_drop 5 = .ok (.invokevirtual 90, 3) := by decide +kernel
theorem dX10_drop_8 : decode cX10_drop 8 = .ok (.ifCond .ne 5, 3) := by decide +kernel
theorem dX10_end_0 : decode cX10_end 0 = .ok (.iload_n 1, 1) := by decide +kernel
theorem dX10_end_1 : decode cX10_end 1 = .ok (.ifCond .lt 14, 3) := by decide +kernel
theorem dX10_end_12 : decode cX10_end 12 = .ok (.if_icmp .le 5, 3) := by decide +kernel
theorem dX10_end_15 : decode cX10_end 15 = .ok (.iconst 0, 1) := by decide +kernel
theorem dX10_end_16 : decode cX10_end 16 = .ok (.ireturn, 1) := by decide +kernel
theorem dX10_end_17 : decode cX10_end 17 = .ok (.aload_n 0, 1) := by decide +kernel
theorem dX10_end_18 : decode cX10_end 18 = .ok (.getfield 12, 3) := by decide +kernel
theorem dX10_end_21 : decode cX10_end 21 = .ok (.iload_n 1, 1) := by decide +kernel
theorem dX10_end_22 : decode cX10_end 22 = .ok (.putfield 67, 3) := by decide +kernel
theorem dX10_end_25 : decode cX10_end 25 = .ok (.iconst 1, 1) := by decide +kernel
theorem dX10_end_26 : decode cX10_end 26 = .ok (.ireturn, 1) := by decide +kernel
theorem dX10_end_4 : decode cX10_end 4 = .ok (.iload_n 1, 1) := by decide +kernel
theorem dX10_end_5 : decode cX10_end 5 = .ok (.aload_n 0, 1) := by decide +kernel
theorem dX10_end_6 : decode cX10_end 6 = .ok (.getfield 12, 3) := by decide +kernel
theorem dX10_end_9 : decode cX10_end 9 = .ok (.getfield 67, 3) := by decide +kernel
theorem dX10_fault_0 : decode cX10_fault 0 = .ok (.iload_n 1, 1) := by decide +kernel
theorem dX10_fault_1 : decode cX10_fault 1 = .ok (.lookupswitch 43 #[(0, 27), (1, 35)], 27) := by decide +kernel
theorem dX10_fault_28 : decode cX10_fault 28 = .ok (.aload_n 0, 1) := by decide +kernel
theorem dX10_fault_29 : decode cX10_fault 29 = .ok (.getfield 12, 3) := by decide +kernel
theorem dX10_fault_32 : decode cX10_fault 32 = .ok (.getfield 78, 3) := by decide +kernel
theorem dX10_fault_35 : decode cX10_fault 35 = .ok (.ireturn, 1) := by decide +kernel
theorem dX10_fault_36 : decode cX10_fault 36 = .ok (.aload_n 0, 1) := by decide +kernel
theorem dX10_fault_37 : decode cX10_fault 37 = .ok (.getfield 12, 3) := by decide +kernel
theorem dX10_fault_40 : decode cX10_fault 40 = .ok (.getfield 87, 3) := by decide +kernel
theorem dX10_fault_43 : decode cX10_fault 43 = .ok (.ireturn, 1) := by decide +kernel
theorem dX10_fault_44 : decode cX10_fault 44 = .ok (.iconst (-1), 1) := by decide +kernel
theorem dX10_fault_45 : decode cX10_fault 45 = .ok (.ireturn, 1) := by decide +kernel
theorem dX10_feed_0 : decode cX10_feed 0 = .ok (.aload_n 0, 1) := by decide +kernel
theorem dX10_feed_1 : decode cX10_feed 1 = .ok (.getfield 12, 3) := by decide +kernel
theorem dX10_feed_10 : decode cX10_feed 10 = .ok (.sipush 600, 3) := by decide +kernel
theorem dX10_feed_13 : decode cX10_feed 13 = .ok (.if_icmp .le 5, 3) := by decide +kernel
theorem dX10_feed_18 : decode cX10_feed 18 = .ok (.aload_n 0, 1) := by decide +kernel
theorem dX10_feed_19 : decode cX10_feed 19 = .ok (.getfield 12, 3) := by decide +kernel
theorem dX10_feed_22 : decode cX10_feed 22 = .ok (.iload_n 1, 1) := by decide +kernel
theorem dX10_feed_23 : decode cX10_feed 23 = .ok (.invokevirtual 71, 3) := by decide +kernel
theorem dX10_feed_26 : decode cX10_feed 26 = .ok (.aload_n 0, 1) := by decide +kernel
theorem dX10_feed_27 : decode cX10_feed 27 = .ok (.getfield 12, 3) := by decide +kernel
theorem dX10_feed_30 : decode cX10_feed 30 = .ok (.iload_n 2, 1) := by decide +kernel
theorem dX10_feed_31 : decode cX10_feed 31 = .ok (.invokevirtual 71, 3) := by decide +kernel
theorem dX10_feed_34 : decode cX10_feed 34 = .ok (.aload_n 0, 1) := by decide +kernel
theorem dX10_feed_35 : decode cX10_feed 35 = .ok (.getfield 12, 3) := by decide +kernel
theorem dX10_feed_38 : decode cX10_feed 38 = .ok (.iload_n 3, 1) := by decide +kernel
theorem dX10_feed_39 : decode cX10_feed 39 = .ok (.invokevirtual 71, 3) := by decide +kernel
theorem dX10_feed_4 : decode cX10_feed 4 = .ok (.getfield 67, 3) := by decide +kernel
theorem dX10_feed_42 : decode cX10_feed 42 = .ok (.aload_n 0, 1) := by decide +kernel
theorem dX10_feed_43 : decode cX10_feed 43 = .ok (.getfield 12, 3) := by decide +kernel
theorem dX10_feed_46 : decode cX10_feed 46 = .ok (.iload 4, 2) := by decide +kernel
theorem dX10_feed_48 : decode cX10_feed 48 = .ok (.invokevirtual 71, 3) := by decide +kernel
theorem dX10_feed_51 : decode cX10_feed 51 = .ok (.aload_n 0, 1) := by decide +kernel
theorem dX10_feed_52 : decode cX10_feed 52 = .ok (.getfield 12, 3) := by decide +kernel
theorem dX10_feed_55 : decode cX10_feed 55 = .ok (.iload 5, 2) := by decide +kernel
theorem dX10_feed_57 : decode cX10_feed 57 = .ok (.invokevirtual 71, 3) := by decide +kernel
theorem dX10_feed_60 : decode cX10_feed 60 = .ok (.aload_n 0, 1) := by decide +kernel
theorem dX10_feed_61 : decode cX10_feed 61 = .ok (.getfield 12, 3) := by decide +kernel
theorem dX10_feed_64 : decode cX10_feed 64 = .ok (.getfield 67, 3) := by decide +kernel
theorem dX10_feed_67 : decode cX10_feed 67 = .ok (.ireturn, 1) := by decide +kernel
theorem dX10_feed_7 : decode cX10_feed 7 = .ok (.bipush 20, 2) := by decide +kernel
theorem dX10_feed_9 : decode cX10_feed 9 = .ok (.iadd, 1) := by decide +kernel
theorem dX10_forgetAll_0 : decode cX10_forgetAll 0 = .ok (.aload_n 0, 1) := by decide +kernel
theorem dX10_forgetAll_1 : decode cX10_forgetAll 1 = .ok (.getfield 47, 3) := by decide +kernel
theorem dX10_forgetAll_12 : decode cX10_forgetAll 12 = .ok (.invokevirtual 259, 3) := by decide +kernel
theorem dX10_forgetAll_15 : decode cX10_forgetAll 15 = .ok (.aload_n 0, 1) := by decide +kernel
theorem dX10_forgetAll_16 : decode cX10_forgetAll 16 = .ok (.getfield 63, 3) := by decide +kernel
theorem dX10_forgetAll_19 : decode cX10_forgetAll 19 = .ok (.iconst 0, 1) := by decide +kernel
theorem dX10_forgetAll_20 : decode cX10_forgetAll 20 = .ok (.putfield 232, 3) := by decide +kernel
theorem dX10_forgetAll_23 : decode cX10_forgetAll 23 = .ok (.return_, 1) := by decide +kernel
theorem dX10_forgetAll_4 : decode cX10_forgetAll 4 = .ok (.iconst 0, 1) := by decide +kernel
theorem dX10_forgetAll_5 : decode cX10_forgetAll 5 = .ok (.putfield 175, 3) := by decide +kernel
theorem dX10_forgetAll_8 : decode cX10_forgetAll 8 = .ok (.aload_n 0, 1) := by decide +kernel
theorem dX10_forgetAll_9 : decode cX10_forgetAll 9 = .ok (.getfield 56, 3) := by decide +kernel
theorem dX10_init_0 : decode cX10_init 0 = .ok (.aload_n 0, 1) := by decide +kernel
theorem dX10_init_1 : decode cX10_init 1 = .ok (.invokespecial 3, 3) := by decide +kernel
theorem dX10_init_100 : decode cX10_init 100 = .ok (.getfield 31, 3) := by decide +kernel
theorem dX10_init_103 : decode cX10_init 103 = .ok (.aload_n 0, 1) := by decide +kernel
theorem dX10_init_104 : decode cX10_init 104 = .ok (.getfield 47, 3) := by decide +kernel
theorem dX10_init_107 : decode cX10_init 107 = .ok (.invokespecial 53, 3) := by decide +kernel
theorem dX10_init_110 : decode cX10_init 110 = .ok (.putfield 56, 3) := by decide +kernel
theorem dX10_init_113 : decode cX10_init 113 = .ok (.aload_n 0, 1) := by decide +kernel
theorem dX10_init_114 : decode cX10_init 114 = .ok (.new 60, 3) := by decide +kernel
theorem dX10_init_117 : decode cX10_init 117 = .ok (.dup, 1) := by decide +kernel
theorem dX10_init_118 : decode cX10_init 118 = .ok (.invokespecial 62, 3) := by decide +kernel
theorem dX10_init_12 : decode cX10_init 12 = .ok (.putfield 12, 3) := by decide +kernel
theorem dX10_init_121 : decode cX10_init 121 = .ok (.putfield 63, 3) := by decide +kernel
theorem dX10_init_124 : decode cX10_init 124 = .ok (.return_, 1) := by decide +kernel
theorem dX10_init_15 : decode cX10_init 15 = .ok (.aload_n 0, 1) := by decide +kernel
theorem dX10_init_16 : decode cX10_init 16 = .ok (.new 16, 3) := by decide +kernel
theorem dX10_init_19 : decode cX10_init 19 = .ok (.dup, 1) := by decide +kernel
theorem dX10_init_20 : decode cX10_init 20 = .ok (.invokespecial 18, 3) := by decide +kernel
theorem dX10_init_23 : decode cX10_init 23 = .ok (.putfield 19, 3) := by decide +kernel
theorem dX10_init_26 : decode cX10_init 26 = .ok (.aload_n 0, 1) := by decide +kernel
theorem dX10_init_27 : decode cX10_init 27 = .ok (.new 16, 3) := by decide +kernel
theorem dX10_init_30 : decode cX10_init 30 = .ok (.dup, 1) := by decide +kernel
theorem dX10_init_31 : decode cX10_init 31 = .ok (.invokespecial 18, 3) := by decide +kernel
theorem dX10_init_34 : decode cX10_init 34 = .ok (.putfield 23, 3) := by decide +kernel
theorem dX10_init_37 : decode cX10_init 37 = .ok (.aload_n 0, 1) := by decide +kernel
theorem dX10_init_38 : decode cX10_init 38 = .ok (.new 26, 3) := by decide +kernel
theorem dX10_init_4 : decode cX10_init 4 = .ok (.aload_n 0, 1) := by decide +kernel
theorem dX10_init_41 : decode cX10_init 41 = .ok (.dup, 1) := by decide +kernel
theorem dX10_init_42 : decode cX10_init 42 = .ok (.aload_n 0, 1) := by decide +kernel
theorem dX10_init_43 : decode cX10_init 43 = .ok (.getfield 19, 3) := by decide +kernel
theorem dX10_init_46 : decode cX10_init 46 = .ok (.invokespecial 28, 3) := by decide +kernel
theorem dX10_init_49 : decode cX10_init 49 = .ok (.putfield 31, 3) := by decide +kernel
theorem dX10_init_5 : decode cX10_init 5 = .ok (.new 9, 3) := by decide +kernel
theorem dX10_init_52 : decode cX10_init 52 = .ok (.aload_n 0, 1) := by decide +kernel
theorem dX10_init_53 : decode cX10_init 53 = .ok (.new 35, 3) := by decide +kernel
theorem dX10_init_56 : decode cX10_init 56 = .ok (.dup, 1) := by decide +kernel
theorem dX10_init_57 : decode cX10_init 57 = .ok (.aload_n 0, 1) := by decide +kernel
theorem dX10_init_58 : decode cX10_init 58 = .ok (.getfield 19, 3) := by decide +kernel
theorem dX10_init_61 : decode cX10_init 61 = .ok (.aload_n 0, 1) := by decide +kernel
theorem dX10_init_62 : decode cX10_init 62 = .ok (.getfield 31, 3) := by decide +kernel
theorem dX10_init_65 : decode cX10_init 65 = .ok (.invokespecial 37, 3) := by decide +kernel
theorem dX10_init_68 : decode cX10_init 68 = .ok (.putfield 40, 3) := by decide +kernel
theorem dX10_init_71 : decode cX10_init 71 = .ok (.aload_n 0, 1) := by decide +kernel
theorem dX10_init_72 : decode cX10_init 72 = .ok (.new 44, 3) := by decide +kernel
theorem dX10_init_75 : decode cX10_init 75 = .ok (.dup, 1) := by decide +kernel
theorem dX10_init_76 : decode cX10_init 76 = .ok (.aload_n 0, 1) := by decide +kernel
theorem dX10_init_77 : decode cX10_init 77 = .ok (.getfield 19, 3) := by decide +kernel
theorem dX10_init_8 : decode cX10_init 8 = .ok (.dup, 1) := by decide +kernel
theorem dX10_init_80 : decode cX10_init 80 = .ok (.aload_n 0, 1) := by decide +kernel
theorem dX10_init_81 : decode cX10_init 81 = .ok (.getfield 31, 3) := by decide +kernel
theorem dX10_init_84 : decode cX10_init 84 = .ok (.invokespecial 46, 3) := by decide +kernel
theorem dX10_init_87 : decode cX10_init 87 = .ok (.putfield 47, 3) := by decide +kernel
theorem dX10_init_9 : decode cX10_init 9 = .ok (.invokespecial 11, 3) := by decide +kernel
theorem dX10_init_90 : decode cX10_init 90 = .ok (.aload_n 0, 1) := by decide +kernel
theorem dX10_init_91 : decode cX10_init 91 = .ok (.new 51, 3) := by decide +kernel
theorem dX10_init_94 : decode cX10_init 94 = .ok (.dup, 1) := by decide +kernel
theorem dX10_init_95 : decode cX10_init 95 = .ok (.aload_n 0, 1) := by decide +kernel
theorem dX10_init_96 : decode cX10_init 96 = .ok (.getfield 19, 3) := by decide +kernel
theorem dX10_init_99 : decode cX10_init 99 = .ok (.aload_n 0, 1) := by decide +kernel
theorem dX10_instance_0 : decode cX10_instance 0 = .ok (.aload_n 0, 1) := by decide +kernel
theorem dX10_instance_1 : decode cX10_instance 1 = .ok (.getfield 47, 3) := by decide +kernel
theorem dX10_instance_10 : decode cX10_instance 10 = .ok (.iconst (-1), 1) := by decide +kernel
theorem dX10_instance_11 : decode cX10_instance 11 = .ok (.ireturn, 1) := by decide +kernel
theorem dX10_instance_4 : decode cX10_instance 4 = .ok (.getfield 175, 3) := by decide +kernel
theorem dX10_instance_7 : decode cX10_instance 7 = .ok (.ifCond .ne 5, 3) := by decide +kernel
theorem dX10_isInstance_0 : decode cX10_isInstance 0 = .ok (.aload_n 0, 1) := by decide +kernel
theorem dX10_isInstance_1 : decode cX10_isInstance 1 = .ok (.getfield 47, 3) := by decide +kernel
theorem dX10_isInstance_29 : decode cX10_isInstance 29 = .ok (.iconst 0, 1) := by decide +kernel
theorem dX10_isInstance_30 : decode cX10_isInstance 30 = .ok (.ireturn, 1) := by decide +kernel
theorem dX10_isInstance_4 : decode cX10_isInstance 4 = .ok (.getfield 175, 3) := by decide +kernel
theorem dX10_isInstance_7 : decode cX10_isInstance 7 = .ok (.ifCond .eq 22, 3) := by decide +kernel
theorem dX10_look_0 : decode cX10_look 0 = .ok (.iload_n 1, 1) := by decide +kernel
theorem dX10_look_1 : decode cX10_look 1 = .ok (.tableswitch 134 0 8 #[51, 59, 67, 75, 83, 99, 108, 117, 126], 51) := by decide +kernel
theorem dX10_look_100 : decode cX10_look 100 = .ok (.aload_n 0, 1) := by decide +kernel
theorem dX10_look_101 : decode cX10_look 101 = .ok (.getfield 47, 3) := by decide +kernel
theorem dX10_look_104 : decode cX10_look 104 = .ok (.iconst 1, 1) := by decide +kernel
theorem dX10_look_105 : decode cX10_look 105 = .ok (.invokevirtual 253, 3) := by decide +kernel
theorem dX10_look_108 : decode cX10_look 108 = .ok (.ireturn, 1) := by decide +kernel
theorem dX10_look_109 : decode cX10_look 109 = .ok (.aload_n 0, 1) := by decide +kernel
theorem dX10_look_110 : decode cX10_look 110 = .ok (.getfield 47, 3) := by decide +kernel
theorem dX10_look_113 : decode cX10_look 113 = .ok (.iconst 2, 1) := by decide +kernel
theorem dX10_look_114 : decode cX10_look 114 = .ok (.invokevirtual 253, 3) := by decide +kernel
theorem dX10_look_117 : decode cX10_look 117 = .ok (.ireturn, 1) := by decide +kernel
theorem dX10_look_118 : decode cX10_look 118 = .ok (.aload_n 0, 1) := by decide +kernel
theorem dX10_look_119 : decode cX10_look 119 = .ok (.getfield 47, 3) := by decide +kernel
theorem dX10_look_122 : decode cX10_look 122 = .ok (.iconst 3, 1) := by decide +kernel
theorem dX10_look_123 : decode cX10_look 123 = .ok (.invokevirtual 253, 3) := by decide +kernel
theorem dX10_look_126 : decode cX10_look 126 = .ok (.ireturn, 1) := by decide +kernel
theorem dX10_look_127 : decode cX10_look 127 = .ok (.aload_n 0, 1) := by decide +kernel
theorem dX10_look_128 : decode cX10_look 128 = .ok (.getfield 63, 3) := by decide +kernel
theorem dX10_look_131 : decode cX10_look 131 = .ok (.getfield 256, 3) := by decide +kernel
theorem dX10_look_134 : decode cX10_look 134 = .ok (.ireturn, 1) := by decide +kernel
theorem dX10_look_135 : decode cX10_look 135 = .ok (.iconst (-1), 1) := by decide +kernel
theorem dX10_look_136 : decode cX10_look 136 = .ok (.ireturn, 1) := by decide +kernel
theorem dX10_look_52 : decode cX10_look 52 = .ok (.aload_n 0, 1) := by decide +kernel
theorem dX10_look_53 : decode cX10_look 53 = .ok (.getfield 19, 3) := by decide +kernel
theorem dX10_look_56 : decode cX10_look 56 = .ok (.getfield 84, 3) := by decide +kernel
theorem dX10_look_59 : decode cX10_look 59 = .ok (.ireturn, 1) := by decide +kernel
theorem dX10_look_60 : decode cX10_look 60 = .ok (.aload_n 0, 1) := by decide +kernel
theorem dX10_look_61 : decode cX10_look 61 = .ok (.getfield 19, 3) := by decide +kernel
theorem dX10_look_64 : decode cX10_look 64 = .ok (.invokevirtual 247, 3) := by decide +kernel
theorem dX10_look_67 : decode cX10_look 67 = .ok (.ireturn, 1) := by decide +kernel
theorem dX10_look_68 : decode cX10_look 68 = .ok (.aload_n 0, 1) := by decide +kernel
theorem dX10_look_69 : decode cX10_look 69 = .ok (.getfield 19, 3) := by decide +kernel
theorem dX10_look_72 : decode cX10_look 72 = .ok (.invokevirtual 250, 3) := by decide +kernel
theorem dX10_look_75 : decode cX10_look 75 = .ok (.ireturn, 1) := by decide +kernel
theorem dX10_look_76 : decode cX10_look 76 = .ok (.aload_n 0, 1) := by decide +kernel
theorem dX10_look_77 : decode cX10_look 77 = .ok (.getfield 12, 3) := by decide +kernel
theorem dX10_look_80 : decode cX10_look 80 = .ok (.getfield 67, 3) := by decide +kernel
theorem dX10_look_83 : decode cX10_look 83 = .ok (.ireturn, 1) := by decide +kernel
theorem dX10_look_84 : decode cX10_look 84 = .ok (.aload_n 0, 1) := by decide +kernel
theorem dX10_look_85 : decode cX10_look 85 = .ok (.getfield 47, 3) := by decide +kernel
theorem dX10_look_88 : decode cX10_look 88 = .ok (.getfield 175, 3) := by decide +kernel
theorem dX10_look_91 : decode cX10_look 91 = .ok (.ifCond .eq 7, 3) := by decide +kernel
theorem dX10_look_98 : decode cX10_look 98 = .ok (.iconst 0, 1) := by decide +kernel
theorem dX10_look_99 : decode cX10_look 99 = .ok (.ireturn, 1) := by decide +kernel
theorem dX10_meets_0 : decode cX10_meets 0 = .ok (.aload_n 0, 1) := by decide +kernel
theorem dX10_meets_1 : decode cX10_meets 1 = .ok (.getfield 19, 3) := by decide +kernel
theorem dX10_meets_25 : decode cX10_meets 25 = .ok (.iconst (-1), 1) := by decide +kernel
theorem dX10_meets_26 : decode cX10_meets 26 = .ok (.ireturn, 1) := by decide +kernel
theorem dX10_meets_4 : decode cX10_meets 4 = .ok (.iload_n 1, 1) := by decide +kernel
theorem dX10_meets_5 : decode cX10_meets 5 = .ok (.iload_n 2, 1) := by decide +kernel
theorem dX10_meets_6 : decode cX10_meets 6 = .ok (.invokevirtual 111, 3) := by decide +kernel
theorem dX10_meets_9 : decode cX10_meets 9 = .ok (.ifCond .eq 16, 3) := by decide +kernel
theorem dX10_needed_0 : decode cX10_needed 0 = .ok (.aload_n 0, 1) := by decide +kernel
theorem dX10_needed_1 : decode cX10_needed 1 = .ok (.getfield 47, 3) := by decide +kernel
theorem dX10_needed_10 : decode cX10_needed 10 = .ok (.iconst 0, 1) := by decide +kernel
theorem dX10_needed_11 : decode cX10_needed 11 = .ok (.ireturn, 1) := by decide +kernel
theorem dX10_needed_4 : decode cX10_needed 4 = .ok (.getfield 175, 3) := by decide +kernel
theorem dX10_needed_7 : decode cX10_needed 7 = .ok (.ifCond .ne 5, 3) := by decide +kernel
theorem dX10_open_0 : decode cX10_open 0 = .ok (.aload_n 0, 1) := by decide +kernel
theorem dX10_open_1 : decode cX10_open 1 = .ok (.iload_n 1, 1) := by decide +kernel
theorem dX10_open_2 : decode cX10_open 2 = .ok (.invokevirtual 220, 3) := by decide +kernel
theorem dX10_open_32 : decode cX10_open 32 = .ok (.iconst (-1), 1) := by decide +kernel
theorem dX10_open_33 : decode cX10_open 33 = .ok (.ireturn, 1) := by decide +kernel
theorem dX10_open_5 : decode cX10_open 5 = .ok (.ifCond .eq 27, 3) := by decide +kernel
theorem dX10_out_0 : decode cX10_out 0 = .ok (.iload_n 1, 1) := by decide +kernel
theorem dX10_out_1 : decode cX10_out 1 = .ok (.ifCond .lt 14, 3) := by decide +kernel
theorem dX10_out_12 : decode cX10_out 12 = .ok (.if_icmp .lt 5, 3) := by decide +kernel
theorem dX10_out_15 : decode cX10_out 15 = .ok (.iconst (-1), 1) := by decide +kernel
theorem dX10_out_16 : decode cX10_out 16 = .ok (.ireturn, 1) := by decide +kernel
theorem dX10_out_4 : decode cX10_out 4 = .ok (.iload_n 1, 1) := by decide +kernel
theorem dX10_out_5 : decode cX10_out 5 = .ok (.aload_n 0, 1) := by decide +kernel
theorem dX10_out_6 : decode cX10_out 6 = .ok (.getfield 40, 3) := by decide +kernel
theorem dX10_out_9 : decode cX10_out 9 = .ok (.getfield 132, 3) := by decide +kernel
theorem dX10_partners_0 : decode cX10_partners 0 = .ok (.aload_n 0, 1) := by decide +kernel
theorem dX10_partners_1 : decode cX10_partners 1 = .ok (.getfield 19, 3) := by decide +kernel
theorem dX10_partners_12 : decode cX10_partners 12 = .ok (.iconst (-1), 1) := by decide +kernel
theorem dX10_partners_13 : decode cX10_partners 13 = .ok (.ireturn, 1) := by decide +kernel
theorem dX10_partners_4 : decode cX10_partners 4 = .ok (.iload_n 1, 1) := by decide +kernel
theorem dX10_partners_5 : decode cX10_partners 5 = .ok (.iload_n 2, 1) := by decide +kernel
theorem dX10_partners_6 : decode cX10_partners 6 = .ok (.invokevirtual 111, 3) := by decide +kernel
theorem dX10_partners_9 : decode cX10_partners 9 = .ok (.ifCond .ne 5, 3) := by decide +kernel
theorem dX10_pure_0 : decode cX10_pure 0 = .ok (.aload_n 0, 1) := by decide +kernel
theorem dX10_pure_1 : decode cX10_pure 1 = .ok (.getfield 19, 3) := by decide +kernel
theorem dX10_pure_10 : decode cX10_pure 10 = .ok (.iload_n 2, 1) := by decide +kernel
theorem dX10_pure_11 : decode cX10_pure 11 = .ok (.bipush 16, 2) := by decide +kernel
theorem dX10_pure_13 : decode cX10_pure 13 = .ok (.if_icmp .ge 72, 3) := by decide +kernel
theorem dX10_pure_16 : decode cX10_pure 16 = .ok (.iconst 0, 1) := by decide +kernel
theorem dX10_pure_17 : decode cX10_pure 17 = .ok (.istore_n 3, 1) := by decide +kernel
theorem dX10_pure_18 : decode cX10_pure 18 = .ok (.iconst 0, 1) := by decide +kernel
theorem dX10_pure_19 : decode cX10_pure 19 = .ok (.istore 4, 2) := by decide +kernel
theorem dX10_pure_21 : decode cX10_pure 21 = .ok (.iload 4, 2) := by decide +kernel
theorem dX10_pure_23 : decode cX10_pure 23 = .ok (.aload_n 0, 1) := by decide +kernel
theorem dX10_pure_24 : decode cX10_pure 24 = .ok (.getfield 19, 3) := by decide +kernel
theorem dX10_pure_27 : decode cX10_pure 27 = .ok (.getfield 84, 3) := by decide +kernel
theorem dX10_pure_30 : decode cX10_pure 30 = .ok (.if_icmp .ge 36, 3) := by decide +kernel
theorem dX10_pure_4 : decode cX10_pure 4 = .ok (.invokevirtual 140, 3) := by decide +kernel
theorem dX10_pure_66 : decode cX10_pure 66 = .ok (.iload_n 3, 1) := by decide +kernel
theorem dX10_pure_67 : decode cX10_pure 67 = .ok (.ifCond .ne 6, 3) := by decide +kernel
theorem dX10_pure_7 : decode cX10_pure 7 = .ok (.istore_n 1, 1) := by decide +kernel
theorem dX10_pure_70 : decode cX10_pure 70 = .ok (.goto 15, 3) := by decide +kernel
theorem dX10_pure_8 : decode cX10_pure 8 = .ok (.iconst 0, 1) := by decide +kernel
theorem dX10_pure_85 : decode cX10_pure 85 = .ok (.aload_n 0, 1) := by decide +kernel
theorem dX10_pure_86 : decode cX10_pure 86 = .ok (.getfield 19, 3) := by decide +kernel
theorem dX10_pure_89 : decode cX10_pure 89 = .ok (.invokevirtual 140, 3) := by decide +kernel
theorem dX10_pure_9 : decode cX10_pure 9 = .ok (.istore_n 2, 1) := by decide +kernel
theorem dX10_pure_92 : decode cX10_pure 92 = .ok (.iload_n 1, 1) := by decide +kernel
theorem dX10_pure_93 : decode cX10_pure 93 = .ok (.iconst (-1), 1) := by decide +kernel
theorem dX10_pure_94 : decode cX10_pure 94 = .ok (.ixor, 1) := by decide +kernel
theorem dX10_pure_95 : decode cX10_pure 95 = .ok (.iand, 1) := by decide +kernel
theorem dX10_pure_96 : decode cX10_pure 96 = .ok (.ireturn, 1) := by decide +kernel
theorem dX10_show_0 : decode cX10_show 0 = .ok (.aload_n 0, 1) := by decide +kernel
theorem dX10_show_1 : decode cX10_show 1 = .ok (.getfield 19, 3) := by decide +kernel
theorem dX10_show_12 : decode cX10_show 12 = .ok (.iconst (-1), 1) := by decide +kernel
theorem dX10_show_13 : decode cX10_show 13 = .ok (.ireturn, 1) := by decide +kernel
theorem dX10_show_4 : decode cX10_show 4 = .ok (.iload_n 1, 1) := by decide +kernel
theorem dX10_show_5 : decode cX10_show 5 = .ok (.iload_n 2, 1) := by decide +kernel
theorem dX10_show_6 : decode cX10_show 6 = .ok (.invokevirtual 111, 3) := by decide +kernel
theorem dX10_show_9 : decode cX10_show 9 = .ok (.ifCond .ne 5, 3) := by decide +kernel
theorem dX10_shown_0 : decode cX10_shown 0 = .ok (.aload_n 0, 1) := by decide +kernel
theorem dX10_shown_1 : decode cX10_shown 1 = .ok (.iload_n 1, 1) := by decide +kernel
theorem dX10_shown_2 : decode cX10_shown 2 = .ok (.invokevirtual 220, 3) := by decide +kernel
theorem dX10_shown_5 : decode cX10_shown 5 = .ok (.ifCond .ne 5, 3) := by decide +kernel
theorem dX10_shown_8 : decode cX10_shown 8 = .ok (.iconst (-1), 1) := by decide +kernel
theorem dX10_shown_9 : decode cX10_shown 9 = .ok (.ireturn, 1) := by decide +kernel
theorem dX10_solve_0 : decode cX10_solve 0 = .ok (.aload_n 0, 1) := by decide +kernel
theorem dX10_solve_1 : decode cX10_solve 1 = .ok (.getfield 19, 3) := by decide +kernel
theorem dX10_solve_19 : decode cX10_solve 19 = .ok (.iconst (-1), 1) := by decide +kernel
theorem dX10_solve_20 : decode cX10_solve 20 = .ok (.ireturn, 1) := by decide +kernel
theorem dX10_solve_4 : decode cX10_solve 4 = .ok (.iload_n 1, 1) := by decide +kernel
theorem dX10_solve_5 : decode cX10_solve 5 = .ok (.invokevirtual 90, 3) := by decide +kernel
theorem dX10_solve_8 : decode cX10_solve 8 = .ok (.ifCond .eq 11, 3) := by decide +kernel
theorem dX10_step_0 : decode cX10_step 0 = .ok (.aload_n 0, 1) := by decide +kernel
theorem dX10_step_1 : decode cX10_step 1 = .ok (.getfield 47, 3) := by decide +kernel
theorem dX10_step_10 : decode cX10_step 10 = .ok (.iconst (-1), 1) := by decide +kernel
theorem dX10_step_11 : decode cX10_step 11 = .ok (.ireturn, 1) := by decide +kernel
theorem dX10_step_4 : decode cX10_step 4 = .ok (.getfield 175, 3) := by decide +kernel
theorem dX10_step_7 : decode cX10_step 7 = .ok (.ifCond .ne 5, 3) := by decide +kernel
theorem dX10_tried_0 : decode cX10_tried 0 = .ok (.iload_n 1, 1) := by decide +kernel
theorem dX10_tried_1 : decode cX10_tried 1 = .ok (.tableswitch 63 0 3 #[31, 39, 47, 55], 31) := by decide +kernel
theorem dX10_tried_32 : decode cX10_tried 32 = .ok (.aload_n 0, 1) := by decide +kernel
theorem dX10_tried_33 : decode cX10_tried 33 = .ok (.getfield 47, 3) := by decide +kernel
theorem dX10_tried_36 : decode cX10_tried 36 = .ok (.getfield 163, 3) := by decide +kernel
theorem dX10_tried_39 : decode cX10_tried 39 = .ok (.ireturn, 1) := by decide +kernel
theorem dX10_tried_40 : decode cX10_tried 40 = .ok (.aload_n 0, 1) := by decide +kernel
theorem dX10_tried_41 : decode cX10_tried 41 = .ok (.getfield 47, 3) := by decide +kernel
theorem dX10_tried_44 : decode cX10_tried 44 = .ok (.getfield 166, 3) := by decide +kernel
theorem dX10_tried_47 : decode cX10_tried 47 = .ok (.ireturn, 1) := by decide +kernel
theorem dX10_tried_48 : decode cX10_tried 48 = .ok (.aload_n 0, 1) := by decide +kernel
theorem dX10_tried_49 : decode cX10_tried 49 = .ok (.getfield 47, 3) := by decide +kernel
theorem dX10_tried_52 : decode cX10_tried 52 = .ok (.getfield 169, 3) := by decide +kernel
theorem dX10_tried_55 : decode cX10_tried 55 = .ok (.ireturn, 1) := by decide +kernel
theorem dX10_tried_56 : decode cX10_tried 56 = .ok (.aload_n 0, 1) := by decide +kernel
theorem dX10_tried_57 : decode cX10_tried 57 = .ok (.getfield 47, 3) := by decide +kernel
theorem dX10_tried_60 : decode cX10_tried 60 = .ok (.getfield 172, 3) := by decide +kernel
theorem dX10_tried_63 : decode cX10_tried 63 = .ok (.ireturn, 1) := by decide +kernel
theorem dX10_tried_64 : decode cX10_tried 64 = .ok (.iconst (-1), 1) := by decide +kernel
theorem dX10_tried_65 : decode cX10_tried 65 = .ok (.ireturn, 1) := by decide +kernel
theorem dX1_init_0 : decode cX1_init 0 = .ok (.aload_n 0, 1) := by decide +kernel
theorem dX1_init_1 : decode cX1_init 1 = .ok (.invokespecial 3, 3) := by decide +kernel
theorem dX1_init_10 : decode cX1_init 10 = .ok (.putfield 9, 3) := by decide +kernel
theorem dX1_init_13 : decode cX1_init 13 = .ok (.aload_n 0, 1) := by decide +kernel
theorem dX1_init_14 : decode cX1_init 14 = .ok (.sipush 256, 3) := by decide +kernel
theorem dX1_init_17 : decode cX1_init 17 = .ok (.newarray .int, 2) := by decide +kernel
theorem dX1_init_19 : decode cX1_init 19 = .ok (.putfield 15, 3) := by decide +kernel
theorem dX1_init_22 : decode cX1_init 22 = .ok (.aload_n 0, 1) := by decide +kernel
theorem dX1_init_23 : decode cX1_init 23 = .ok (.sipush 9600, 3) := by decide +kernel
theorem dX1_init_26 : decode cX1_init 26 = .ok (.newarray .int, 2) := by decide +kernel
theorem dX1_init_28 : decode cX1_init 28 = .ok (.putfield 18, 3) := by decide +kernel
theorem dX1_init_31 : decode cX1_init 31 = .ok (.aload_n 0, 1) := by decide +kernel
theorem dX1_init_32 : decode cX1_init 32 = .ok (.sipush 1024, 3) := by decide +kernel
theorem dX1_init_35 : decode cX1_init 35 = .ok (.newarray .int, 2) := by decide +kernel
theorem dX1_init_37 : decode cX1_init 37 = .ok (.putfield 21, 3) := by decide +kernel
theorem dX1_init_4 : decode cX1_init 4 = .ok (.aload_n 0, 1) := by decide +kernel
theorem dX1_init_40 : decode cX1_init 40 = .ok (.aload_n 0, 1) := by decide +kernel
theorem dX1_init_41 : decode cX1_init 41 = .ok (.sipush 2048, 3) := by decide +kernel
theorem dX1_init_44 : decode cX1_init 44 = .ok (.newarray .int, 2) := by decide +kernel
theorem dX1_init_46 : decode cX1_init 46 = .ok (.putfield 24, 3) := by decide +kernel
theorem dX1_init_49 : decode cX1_init 49 = .ok (.aload_n 0, 1) := by decide +kernel
theorem dX1_init_5 : decode cX1_init 5 = .ok (.sipush 256, 3) := by decide +kernel
theorem dX1_init_50 : decode cX1_init 50 = .ok (.sipush 2048, 3) := by decide +kernel
theorem dX1_init_53 : decode cX1_init 53 = .ok (.newarray .int, 2) := by decide +kernel
theorem dX1_init_55 : decode cX1_init 55 = .ok (.putfield 27, 3) := by decide +kernel
theorem dX1_init_58 : decode cX1_init 58 = .ok (.aload_n 0, 1) := by decide +kernel
theorem dX1_init_59 : decode cX1_init 59 = .ok (.sipush 2048, 3) := by decide +kernel
theorem dX1_init_62 : decode cX1_init 62 = .ok (.newarray .int, 2) := by decide +kernel
theorem dX1_init_64 : decode cX1_init 64 = .ok (.putfield 30, 3) := by decide +kernel
theorem dX1_init_67 : decode cX1_init 67 = .ok (.aload_n 0, 1) := by decide +kernel
theorem dX1_init_68 : decode cX1_init 68 = .ok (.sipush 256, 3) := by decide +kernel
theorem dX1_init_71 : decode cX1_init 71 = .ok (.newarray .int, 2) := by decide +kernel
theorem dX1_init_73 : decode cX1_init 73 = .ok (.putfield 33, 3) := by decide +kernel
theorem dX1_init_76 : decode cX1_init 76 = .ok (.aload_n 0, 1) := by decide +kernel
theorem dX1_init_77 : decode cX1_init 77 = .ok (.aload_n 1, 1) := by decide +kernel
theorem dX1_init_78 : decode cX1_init 78 = .ok (.putfield 36, 3) := by decide +kernel
theorem dX1_init_8 : decode cX1_init 8 = .ok (.newarray .int, 2) := by decide +kernel
theorem dX1_init_81 : decode cX1_init 81 = .ok (.return_, 1) := by decide +kernel
theorem dX3_forget_0 : decode cX3_forget 0 = .ok (.aload_n 0, 1) := by decide +kernel
theorem dX3_forget_1 : decode cX3_forget 1 = .ok (.iconst 0, 1) := by decide +kernel
theorem dX3_forget_11 : decode cX3_forget 11 = .ok (.return_, 1) := by decide +kernel
theorem dX3_forget_2 : decode cX3_forget 2 = .ok (.putfield 43, 3) := by decide +kernel
theorem dX3_forget_5 : decode cX3_forget 5 = .ok (.aload_n 0, 1) := by decide +kernel
theorem dX3_forget_6 : decode cX3_forget 6 = .ok (.bipush (-2), 2) := by decide +kernel
theorem dX3_forget_8 : decode cX3_forget 8 = .ok (.putfield 27, 3) := by decide +kernel
theorem dX3_init_0 : decode cX3_init 0 = .ok (.aload_n 0, 1) := by decide +kernel
theorem dX3_init_1 : decode cX3_init 1 = .ok (.invokespecial 3, 3) := by decide +kernel
theorem dX3_init_10 : decode cX3_init 10 = .ok (.putfield 9, 3) := by decide +kernel
theorem dX3_init_13 : decode cX3_init 13 = .ok (.aload_n 0, 1) := by decide +kernel
theorem dX3_init_14 : decode cX3_init 14 = .ok (.bipush 30, 2) := by decide +kernel
theorem dX3_init_16 : decode cX3_init 16 = .ok (.newarray .int, 2) := by decide +kernel
theorem dX3_init_18 : decode cX3_init 18 = .ok (.putfield 15, 3) := by decide +kernel
theorem dX3_init_21 : decode cX3_init 21 = .ok (.aload_n 0, 1) := by decide +kernel
theorem dX3_init_22 : decode cX3_init 22 = .ok (.bipush 30, 2) := by decide +kernel
theorem dX3_init_24 : decode cX3_init 24 = .ok (.newarray .int, 2) := by decide +kernel
theorem dX3_init_26 : decode cX3_init 26 = .ok (.putfield 18, 3) := by decide +kernel
theorem dX3_init_29 : decode cX3_init 29 = .ok (.aload_n 0, 1) := by decide +kernel
theorem dX3_init_30 : decode cX3_init 30 = .ok (.sipush 180, 3) := by decide +kernel
theorem dX3_init_33 : decode cX3_init 33 = .ok (.newarray .int, 2) := by decide +kernel
theorem dX3_init_35 : decode cX3_init 35 = .ok (.putfield 21, 3) := by decide +kernel
theorem dX3_init_38 : decode cX3_init 38 = .ok (.aload_n 0, 1) := by decide +kernel
theorem dX3_init_39 : decode cX3_init 39 = .ok (.sipush 180, 3) := by decide +kernel
theorem dX3_init_4 : decode cX3_init 4 = .ok (.aload_n 0, 1) := by decide +kernel
theorem dX3_init_42 : decode cX3_init 42 = .ok (.newarray .int, 2) := by decide +kernel
theorem dX3_init_44 : decode cX3_init 44 = .ok (.putfield 24, 3) := by decide +kernel
theorem dX3_init_47 : decode cX3_init 47 = .ok (.aload_n 0, 1) := by decide +kernel
theorem dX3_init_48 : decode cX3_init 48 = .ok (.bipush (-2), 2) := by decide +kernel
theorem dX3_init_5 : decode cX3_init 5 = .ok (.sipush 180, 3) := by decide +kernel
theorem dX3_init_50 : decode cX3_init 50 = .ok (.putfield 27, 3) := by decide +kernel
theorem dX3_init_53 : decode cX3_init 53 = .ok (.aload_n 0, 1) := by decide +kernel
theorem dX3_init_54 : decode cX3_init 54 = .ok (.aload_n 1, 1) := by decide +kernel
theorem dX3_init_55 : decode cX3_init 55 = .ok (.putfield 31, 3) := by decide +kernel
theorem dX3_init_58 : decode cX3_init 58 = .ok (.aload_n 0, 1) := by decide +kernel
theorem dX3_init_59 : decode cX3_init 59 = .ok (.aload_n 2, 1) := by decide +kernel
theorem dX3_init_60 : decode cX3_init 60 = .ok (.putfield 35, 3) := by decide +kernel
theorem dX3_init_63 : decode cX3_init 63 = .ok (.aload_n 0, 1) := by decide +kernel
theorem dX3_init_64 : decode cX3_init 64 = .ok (.aload_n 3, 1) := by decide +kernel
theorem dX3_init_65 : decode cX3_init 65 = .ok (.putfield 39, 3) := by decide +kernel
theorem dX3_init_68 : decode cX3_init 68 = .ok (.return_, 1) := by decide +kernel
theorem dX3_init_8 : decode cX3_init 8 = .ok (.newarray .int, 2) := by decide +kernel
theorem dX4_countSteps_0 : decode cX4_countSteps 0 = .ok (.iconst 0, 1) := by decide +kernel
theorem dX4_countSteps_1 : decode cX4_countSteps 1 = .ok (.istore_n 2, 1) := by decide +kernel
theorem dX4_countSteps_2 : decode cX4_countSteps 2 = .ok (.iconst 0, 1) := by decide +kernel
theorem dX4_countSteps_3 : decode cX4_countSteps 3 = .ok (.istore_n 3, 1) := by decide +kernel
theorem dX4_countSteps_4 : decode cX4_countSteps 4 = .ok (.aload_n 0, 1) := by decide +kernel
theorem dX4_countSteps_46 : decode cX4_countSteps 46 = .ok (.iload_n 2, 1) := by decide +kernel
theorem dX4_countSteps_47 : decode cX4_countSteps 47 = .ok (.ireturn, 1) := by decide +kernel
theorem dX4_countSteps_5 : decode cX4_countSteps 5 = .ok (.getfield 41, 3) := by decide +kernel
theorem dX4_countSteps_8 : decode cX4_countSteps 8 = .ok (.ifCond .eq 38, 3) := by decide +kernel
theorem dX4_forgetCounts_0 : decode cX4_forgetCounts 0 = .ok (.aload_n 0, 1) := by decide +kernel
theorem dX4_forgetCounts_1 : decode cX4_forgetCounts 1 = .ok (.iconst 0, 1) := by decide +kernel
theorem dX4_forgetCounts_10 : decode cX4_forgetCounts 10 = .ok (.aload_n 0, 1) := by decide +kernel
theorem dX4_forgetCounts_11 : decode cX4_forgetCounts 11 = .ok (.iconst 0, 1) := by decide +kernel
theorem dX4_forgetCounts_12 : decode cX4_forgetCounts 12 = .ok (.putfield 49, 3) := by decide +kernel
theorem dX4_forgetCounts_15 : decode cX4_forgetCounts 15 = .ok (.aload_n 0, 1) := by decide +kernel
theorem dX4_forgetCounts_16 : decode cX4_forgetCounts 16 = .ok (.iconst 0, 1) := by decide +kernel
theorem dX4_forgetCounts_17 : decode cX4_forgetCounts 17 = .ok (.putfield 52, 3) := by decide +kernel
theorem dX4_forgetCounts_2 : decode cX4_forgetCounts 2 = .ok (.putfield 41, 3) := by decide +kernel
theorem dX4_forgetCounts_20 : decode cX4_forgetCounts 20 = .ok (.aload_n 0, 1) := by decide +kernel
theorem dX4_forgetCounts_21 : decode cX4_forgetCounts 21 = .ok (.iconst 0, 1) := by decide +kernel
theorem dX4_forgetCounts_22 : decode cX4_forgetCounts 22 = .ok (.putfield 55, 3) := by decide +kernel
theorem dX4_forgetCounts_25 : decode cX4_forgetCounts 25 = .ok (.return_, 1) := by decide +kernel
theorem dX4_forgetCounts_5 : decode cX4_forgetCounts 5 = .ok (.aload_n 0, 1) := by decide +kernel
theorem dX4_forgetCounts_6 : decode cX4_forgetCounts 6 = .ok (.iconst 0, 1) := by decide +kernel
theorem dX4_forgetCounts_7 : decode cX4_forgetCounts 7 = .ok (.putfield 45, 3) := by decide +kernel
theorem dX4_init_0 : decode cX4_init 0 = .ok (.aload_n 0, 1) := by decide +kernel
theorem dX4_init_1 : decode cX4_init 1 = .ok (.invokespecial 3, 3) := by decide +kernel
theorem dX4_init_11 : decode cX4_init 11 = .ok (.putfield 11, 3) := by decide +kernel
theorem dX4_init_14 : decode cX4_init 14 = .ok (.aload_n 0, 1) := by decide +kernel
theorem dX4_init_15 : decode cX4_init 15 = .ok (.sipush 210, 3) := by decide +kernel
theorem dX4_init_18 : decode cX4_init 18 = .ok (.anewarray 17, 3) := by decide +kernel
theorem dX4_init_21 : decode cX4_init 21 = .ok (.putfield 19, 3) := by decide +kernel
theorem dX4_init_24 : decode cX4_init 24 = .ok (.aload_n 0, 1) := by decide +kernel
theorem dX4_init_25 : decode cX4_init 25 = .ok (.sipush 180, 3) := by decide +kernel
theorem dX4_init_28 : decode cX4_init 28 = .ok (.anewarray 23, 3) := by decide +kernel
theorem dX4_init_31 : decode cX4_init 31 = .ok (.putfield 25, 3) := by decide +kernel
theorem dX4_init_34 : decode cX4_init 34 = .ok (.aload_n 0, 1) := by decide +kernel
theorem dX4_init_35 : decode cX4_init 35 = .ok (.bipush 30, 2) := by decide +kernel
theorem dX4_init_37 : decode cX4_init 37 = .ok (.newarray .int, 2) := by decide +kernel
theorem dX4_init_39 : decode cX4_init 39 = .ok (.putfield 29, 3) := by decide +kernel
theorem dX4_init_4 : decode cX4_init 4 = .ok (.aload_n 0, 1) := by decide +kernel
theorem dX4_init_42 : decode cX4_init 42 = .ok (.aload_n 0, 1) := by decide +kernel
theorem dX4_init_43 : decode cX4_init 43 = .ok (.aload_n 1, 1) := by decide +kernel
theorem dX4_init_44 : decode cX4_init 44 = .ok (.putfield 33, 3) := by decide +kernel
theorem dX4_init_47 : decode cX4_init 47 = .ok (.aload_n 0, 1) := by decide +kernel
theorem dX4_init_48 : decode cX4_init 48 = .ok (.aload_n 2, 1) := by decide +kernel
theorem dX4_init_49 : decode cX4_init 49 = .ok (.putfield 37, 3) := by decide +kernel
theorem dX4_init_5 : decode cX4_init 5 = .ok (.sipush 361, 3) := by decide +kernel
theorem dX4_init_52 : decode cX4_init 52 = .ok (.return_, 1) := by decide +kernel
theorem dX4_init_8 : decode cX4_init 8 = .ok (.anewarray 9, 3) := by decide +kernel
theorem dX5_init_0 : decode cX5_init 0 = .ok (.aload_n 0, 1) := by decide +kernel
theorem dX5_init_1 : decode cX5_init 1 = .ok (.invokespecial 3, 3) := by decide +kernel
theorem dX5_init_10 : decode cX5_init 10 = .ok (.putfield 9, 3) := by decide +kernel
theorem dX5_init_13 : decode cX5_init 13 = .ok (.aload_n 0, 1) := by decide +kernel
theorem dX5_init_14 : decode cX5_init 14 = .ok (.iconst (-1), 1) := by decide +kernel
theorem dX5_init_15 : decode cX5_init 15 = .ok (.putfield 15, 3) := by decide +kernel
theorem dX5_init_18 : decode cX5_init 18 = .ok (.aload_n 0, 1) := by decide +kernel
theorem dX5_init_19 : decode cX5_init 19 = .ok (.bipush 8, 2) := by decide +kernel
theorem dX5_init_21 : decode cX5_init 21 = .ok (.newarray .int, 2) := by decide +kernel
theorem dX5_init_23 : decode cX5_init 23 = .ok (.putfield 19, 3) := by decide +kernel
theorem dX5_init_26 : decode cX5_init 26 = .ok (.return_, 1) := by decide +kernel
theorem dX5_init_4 : decode cX5_init 4 = .ok (.aload_n 0, 1) := by decide +kernel
theorem dX5_init_5 : decode cX5_init 5 = .ok (.sipush 600, 3) := by decide +kernel
theorem dX5_init_8 : decode cX5_init 8 = .ok (.newarray .int, 2) := by decide +kernel
theorem dX5_nextToken_0 : decode cX5_nextToken 0 = .ok (.aload_n 0, 1) := by decide +kernel
theorem dX5_nextToken_1 : decode cX5_nextToken 1 = .ok (.aload_n 0, 1) := by decide +kernel
theorem dX5_nextToken_12 : decode cX5_nextToken 12 = .ok (.aload_n 0, 1) := by decide +kernel
theorem dX5_nextToken_13 : decode cX5_nextToken 13 = .ok (.getfield 22, 3) := by decide +kernel
theorem dX5_nextToken_139 : decode cX5_nextToken 139 = .ok (.return_, 1) := by decide +kernel
theorem dX5_nextToken_16 : decode cX5_nextToken 16 = .ok (.if_icmp .ge 44, 3) := by decide +kernel
theorem dX5_nextToken_2 : decode cX5_nextToken 2 = .ok (.getfield 37, 3) := by decide +kernel
theorem dX5_nextToken_5 : decode cX5_nextToken 5 = .ok (.putfield 49, 3) := by decide +kernel
theorem dX5_nextToken_60 : decode cX5_nextToken 60 = .ok (.aload_n 0, 1) := by decide +kernel
theorem dX5_nextToken_61 : decode cX5_nextToken 61 = .ok (.getfield 49, 3) := by decide +kernel
theorem dX5_nextToken_64 : decode cX5_nextToken 64 = .ok (.aload_n 0, 1) := by decide +kernel
theorem dX5_nextToken_65 : decode cX5_nextToken 65 = .ok (.getfield 22, 3) := by decide +kernel
theorem dX5_nextToken_68 : decode cX5_nextToken 68 = .ok (.if_icmp .lt 11, 3) := by decide +kernel
theorem dX5_nextToken_71 : decode cX5_nextToken 71 = .ok (.aload_n 0, 1) := by decide +kernel
theorem dX5_nextToken_72 : decode cX5_nextToken 72 = .ok (.iconst (-1), 1) := by decide +kernel
theorem dX5_nextToken_73 : decode cX5_nextToken 73 = .ok (.putfield 43, 3) := by decide +kernel
theorem dX5_nextToken_76 : decode cX5_nextToken 76 = .ok (.goto 63, 3) := by decide +kernel
theorem dX5_nextToken_8 : decode cX5_nextToken 8 = .ok (.aload_n 0, 1) := by decide +kernel
theorem dX5_nextToken_9 : decode cX5_nextToken 9 = .ok (.getfield 49, 3) := by decide +kernel
theorem dX5_read_0 : decode cX5_read 0 = .ok (.aload_n 0, 1) := by decide +kernel
theorem dX5_read_1 : decode cX5_read 1 = .ok (.aload_n 1, 1) := by decide +kernel
theorem dX5_read_12 : decode cX5_read 12 = .ok (.aload_n 0, 1) := by decide +kernel
theorem dX5_read_13 : decode cX5_read 13 = .ok (.iconst 0, 1) := by decide +kernel
theorem dX5_read_14 : decode cX5_read 14 = .ok (.putfield 34, 3) := by decide +kernel
theorem dX5_read_17 : decode cX5_read 17 = .ok (.aload_n 0, 1) := by decide +kernel
theorem dX5_read_18 : decode cX5_read 18 = .ok (.iconst (-1), 1) := by decide +kernel
theorem dX5_read_19 : decode cX5_read 19 = .ok (.putfield 15, 3) := by decide +kernel
theorem dX5_read_2 : decode cX5_read 2 = .ok (.putfield 25, 3) := by decide +kernel
theorem dX5_read_22 : decode cX5_read 22 = .ok (.aload_n 0, 1) := by decide +kernel
theorem dX5_read_23 : decode cX5_read 23 = .ok (.iconst 0, 1) := by decide +kernel
theorem dX5_read_24 : decode cX5_read 24 = .ok (.putfield 37, 3) := by decide +kernel
theorem dX5_read_27 : decode cX5_read 27 = .ok (.aload_n 0, 1) := by decide +kernel
theorem dX5_read_28 : decode cX5_read 28 = .ok (.invokevirtual 40, 3) := by decide +kernel
theorem dX5_read_31 : decode cX5_read 31 = .ok (.iconst 0, 1) := by decide +kernel
theorem dX5_read_32 : decode cX5_read 32 = .ok (.istore_n 2, 1) := by decide +kernel
theorem dX5_read_33 : decode cX5_read 33 = .ok (.iload_n 2, 1) := by decide +kernel
theorem dX5_read_34 : decode cX5_read 34 = .ok (.sipush 600, 3) := by decide +kernel
theorem dX5_read_37 : decode cX5_read 37 = .ok (.if_icmp .ge 28, 3) := by decide +kernel
theorem dX5_read_40 : decode cX5_read 40 = .ok (.aload_n 0, 1) := by decide +kernel
theorem dX5_read_41 : decode cX5_read 41 = .ok (.getfield 34, 3) := by decide +kernel
theorem dX5_read_44 : decode cX5_read 44 = .ok (.ifCond .ne 21, 3) := by decide +kernel
theorem dX5_read_47 : decode cX5_read 47 = .ok (.aload_n 0, 1) := by decide +kernel
theorem dX5_read_48 : decode cX5_read 48 = .ok (.getfield 43, 3) := by decide +kernel
theorem dX5_read_5 : decode cX5_read 5 = .ok (.aload_n 0, 1) := by decide +kernel
theorem dX5_read_51 : decode cX5_read 51 = .ok (.iconst (-1), 1) := by decide +kernel
theorem dX5_read_52 : decode cX5_read 52 = .ok (.if_icmp .eq 13, 3) := by decide +kernel
theorem dX5_read_6 : decode cX5_read 6 = .ok (.getfield 25, 3) := by decide +kernel
theorem dX5_read_65 : decode cX5_read 65 = .ok (.return_, 1) := by decide +kernel
theorem dX5_read_9 : decode cX5_read 9 = .ok (.invokevirtual 29, 3) := by decide +kernel
theorem dX5_take_0 : decode cX5_take 0 = .ok (.bipush 24, 2) := by decide +kernel
theorem dX5_take_11 : decode cX5_take 11 = .ok (.sipush 600, 3) := by decide +kernel
theorem dX5_take_14 : decode cX5_take 14 = .ok (.if_icmp .ge 32, 3) := by decide +kernel
theorem dX5_take_17 : decode cX5_take 17 = .ok (.aload_n 0, 1) := by decide +kernel
theorem dX5_take_18 : decode cX5_take 18 = .ok (.getfield 9, 3) := by decide +kernel
theorem dX5_take_2 : decode cX5_take 2 = .ok (.istore_n 2, 1) := by decide +kernel
theorem dX5_take_21 : decode cX5_take 21 = .ok (.aload_n 0, 1) := by decide +kernel
theorem dX5_take_22 : decode cX5_take 22 = .ok (.dup, 1) := by decide +kernel
theorem dX5_take_23 : decode cX5_take 23 = .ok (.getfield 22, 3) := by decide +kernel
theorem dX5_take_26 : decode cX5_take 26 = .ok (.dup_x1, 1) := by decide +kernel
theorem dX5_take_27 : decode cX5_take 27 = .ok (.iconst 1, 1) := by decide +kernel
theorem dX5_take_28 : decode cX5_take 28 = .ok (.iadd, 1) := by decide +kernel
theorem dX5_take_29 : decode cX5_take 29 = .ok (.putfield 22, 3) := by decide +kernel
theorem dX5_take_3 : decode cX5_take 3 = .ok (.iload_n 2, 1) := by decide +kernel
theorem dX5_take_32 : decode cX5_take 32 = .ok (.iload_n 1, 1) := by decide +kernel
theorem dX5_take_33 : decode cX5_take 33 = .ok (.iload_n 2, 1) := by decide +kernel
theorem dX5_take_34 : decode cX5_take 34 = .ok (.ishr, 1) := by decide +kernel
theorem dX5_take_35 : decode cX5_take 35 = .ok (.sipush 255, 3) := by decide +kernel
theorem dX5_take_38 : decode cX5_take 38 = .ok (.iand, 1) := by decide +kernel
theorem dX5_take_39 : decode cX5_take 39 = .ok (.iastore, 1) := by decide +kernel
theorem dX5_take_4 : decode cX5_take 4 = .ok (.ifCond .lt 42, 3) := by decide +kernel
theorem dX5_take_40 : decode cX5_take 40 = .ok (.iinc 2 (-8), 3) := by decide +kernel
theorem dX5_take_43 : decode cX5_take 43 = .ok (.goto (-40), 3) := by decide +kernel
theorem dX5_take_46 : decode cX5_take 46 = .ok (.return_, 1) := by decide +kernel
theorem dX5_take_7 : decode cX5_take 7 = .ok (.aload_n 0, 1) := by decide +kernel
theorem dX5_take_8 : decode cX5_take 8 = .ok (.getfield 22, 3) := by decide +kernel
theorem dX8_all_0 : decode cX8_all 0 = .ok (.iconst 1, 1) := by decide +kernel
theorem dX8_all_1 : decode cX8_all 1 = .ok (.aload_n 0, 1) := by decide +kernel
theorem dX8_all_2 : decode cX8_all 2 = .ok (.getfield 41, 3) := by decide +kernel
theorem dX8_all_5 : decode cX8_all 5 = .ok (.ishl, 1) := by decide +kernel
theorem dX8_all_6 : decode cX8_all 6 = .ok (.iconst 1, 1) := by decide +kernel
theorem dX8_all_7 : decode cX8_all 7 = .ok (.isub, 1) := by decide +kernel
theorem dX8_all_8 : decode cX8_all 8 = .ok (.ireturn, 1) := by decide +kernel
theorem dX8_clear_0 : decode cX8_clear 0 = .ok (.aload_n 0, 1) := by decide +kernel
theorem dX8_clear_1 : decode cX8_clear 1 = .ok (.iconst 0, 1) := by decide +kernel
theorem dX8_clear_10 : decode cX8_clear 10 = .ok (.return_, 1) := by decide +kernel
theorem dX8_clear_2 : decode cX8_clear 2 = .ok (.putfield 37, 3) := by decide +kernel
theorem dX8_clear_5 : decode cX8_clear 5 = .ok (.aload_n 0, 1) := by decide +kernel
theorem dX8_clear_6 : decode cX8_clear 6 = .ok (.iconst 0, 1) := by decide +kernel
theorem dX8_clear_7 : decode cX8_clear 7 = .ok (.putfield 41, 3) := by decide +kernel
theorem dX8_countLiterals_0 : decode cX8_countLiterals 0 = .ok (.iconst 0, 1) := by decide +kernel
theorem dX8_countLiterals_1 : decode cX8_countLiterals 1 = .ok (.istore_n 1, 1) := by decide +kernel
theorem dX8_countLiterals_2 : decode cX8_countLiterals 2 = .ok (.iconst 0, 1) := by decide +kernel
theorem dX8_countLiterals_27 : decode cX8_countLiterals 27 = .ok (.iload_n 1, 1) := by decide +kernel
theorem dX8_countLiterals_28 : decode cX8_countLiterals 28 = .ok (.ireturn, 1) := by decide +kernel
theorem dX8_countLiterals_3 : decode cX8_countLiterals 3 = .ok (.istore_n 2, 1) := by decide +kernel
theorem dX8_countLiterals_4 : decode cX8_countLiterals 4 = .ok (.iload_n 2, 1) := by decide +kernel
theorem dX8_countLiterals_5 : decode cX8_countLiterals 5 = .ok (.aload_n 0, 1) := by decide +kernel
theorem dX8_countLiterals_6 : decode cX8_countLiterals 6 = .ok (.getfield 41, 3) := by decide +kernel
theorem dX8_countLiterals_9 : decode cX8_countLiterals 9 = .ok (.if_icmp .ge 18, 3) := by decide +kernel
theorem dX8_countNames_0 : decode cX8_countNames 0 = .ok (.iconst 0, 1) := by decide +kernel
theorem dX8_countNames_1 : decode cX8_countNames 1 = .ok (.istore_n 1, 1) := by decide +kernel
theorem dX8_countNames_2 : decode cX8_countNames 2 = .ok (.iconst 0, 1) := by decide +kernel
theorem dX8_countNames_3 : decode cX8_countNames 3 = .ok (.istore_n 2, 1) := by decide +kernel
theorem dX8_countNames_4 : decode cX8_countNames 4 = .ok (.iload_n 2, 1) := by decide +kernel
theorem dX8_countNames_5 : decode cX8_countNames 5 = .ok (.aload_n 0, 1) := by decide +kernel
theorem dX8_countNames_53 : decode cX8_countNames 53 = .ok (.iload_n 1, 1) := by decide +kernel
theorem dX8_countNames_54 : decode cX8_countNames 54 = .ok (.ireturn, 1) := by decide +kernel
theorem dX8_countNames_6 : decode cX8_countNames 6 = .ok (.getfield 41, 3) := by decide +kernel
theorem dX8_countNames_9 : decode cX8_countNames 9 = .ok (.if_icmp .ge 44, 3) := by decide +kernel
theorem dX8_init_0 : decode cX8_init 0 = .ok (.aload_n 0, 1) := by decide +kernel
theorem dX8_init_1 : decode cX8_init 1 = .ok (.invokespecial 3, 3) := by decide +kernel
theorem dX8_init_10 : decode cX8_init 10 = .ok (.putfield 9, 3) := by decide +kernel
theorem dX8_init_13 : decode cX8_init 13 = .ok (.aload_n 0, 1) := by decide +kernel
theorem dX8_init_14 : decode cX8_init 14 = .ok (.sipush 300, 3) := by decide +kernel
theorem dX8_init_17 : decode cX8_init 17 = .ok (.newarray .int, 2) := by decide +kernel
theorem dX8_init_19 : decode cX8_init 19 = .ok (.putfield 15, 3) := by decide +kernel
theorem dX8_init_22 : decode cX8_init 22 = .ok (.aload_n 0, 1) := by decide +kernel
theorem dX8_init_23 : decode cX8_init 23 = .ok (.sipush 300, 3) := by decide +kernel
theorem dX8_init_26 : decode cX8_init 26 = .ok (.newarray .int, 2) := by decide +kernel
theorem dX8_init_28 : decode cX8_init 28 = .ok (.putfield 19, 3) := by decide +kernel
theorem dX8_init_31 : decode cX8_init 31 = .ok (.aload_n 0, 1) := by decide +kernel
theorem dX8_init_32 : decode cX8_init 32 = .ok (.sipush 900, 3) := by decide +kernel
theorem dX8_init_35 : decode cX8_init 35 = .ok (.newarray .int, 2) := by decide +kernel
theorem dX8_init_37 : decode cX8_init 37 = .ok (.putfield 22, 3) := by decide +kernel
theorem dX8_init_4 : decode cX8_init 4 = .ok (.aload_n 0, 1) := by decide +kernel
theorem dX8_init_40 : decode cX8_init 40 = .ok (.aload_n 0, 1) := by decide +kernel
theorem dX8_init_41 : decode cX8_init 41 = .ok (.bipush 16, 2) := by decide +kernel
theorem dX8_init_43 : decode cX8_init 43 = .ok (.newarray .int, 2) := by decide +kernel
theorem dX8_init_45 : decode cX8_init 45 = .ok (.putfield 25, 3) := by decide +kernel
theorem dX8_init_48 : decode cX8_init 48 = .ok (.aload_n 0, 1) := by decide +kernel
theorem dX8_init_49 : decode cX8_init 49 = .ok (.bipush 16, 2) := by decide +kernel
theorem dX8_init_5 : decode cX8_init 5 = .ok (.sipush 300, 3) := by decide +kernel
theorem dX8_init_51 : decode cX8_init 51 = .ok (.newarray .int, 2) := by decide +kernel
theorem dX8_init_53 : decode cX8_init 53 = .ok (.putfield 28, 3) := by decide +kernel
theorem dX8_init_56 : decode cX8_init 56 = .ok (.aload_n 0, 1) := by decide +kernel
theorem dX8_init_57 : decode cX8_init 57 = .ok (.bipush 16, 2) := by decide +kernel
theorem dX8_init_59 : decode cX8_init 59 = .ok (.newarray .int, 2) := by decide +kernel
theorem dX8_init_61 : decode cX8_init 61 = .ok (.putfield 31, 3) := by decide +kernel
theorem dX8_init_64 : decode cX8_init 64 = .ok (.aload_n 0, 1) := by decide +kernel
theorem dX8_init_65 : decode cX8_init 65 = .ok (.bipush 96, 2) := by decide +kernel
theorem dX8_init_67 : decode cX8_init 67 = .ok (.newarray .int, 2) := by decide +kernel
theorem dX8_init_69 : decode cX8_init 69 = .ok (.putfield 34, 3) := by decide +kernel
theorem dX8_init_72 : decode cX8_init 72 = .ok (.return_, 1) := by decide +kernel
theorem dX8_init_8 : decode cX8_init 8 = .ok (.newarray .long, 2) := by decide +kernel
theorem dX8_isClause_0 : decode cX8_isClause 0 = .ok (.iload_n 1, 1) := by decide +kernel
theorem dX8_isClause_1 : decode cX8_isClause 1 = .ok (.ifCond .lt 15, 3) := by decide +kernel
theorem dX8_isClause_16 : decode cX8_isClause 16 = .ok (.iconst 0, 1) := by decide +kernel
theorem dX8_isClause_17 : decode cX8_isClause 17 = .ok (.ireturn, 1) := by decide +kernel
theorem dX8_isClause_4 : decode cX8_isClause 4 = .ok (.iload_n 1, 1) := by decide +kernel
theorem dX8_isClause_5 : decode cX8_isClause 5 = .ok (.aload_n 0, 1) := by decide +kernel
theorem dX8_isClause_6 : decode cX8_isClause 6 = .ok (.getfield 41, 3) := by decide +kernel
theorem dX8_isClause_9 : decode cX8_isClause 9 = .ok (.if_icmp .ge 7, 3) := by decide +kernel
theorem dX8_isLiteral_0 : decode cX8_isLiteral 0 = .ok (.aload_n 0, 1) := by decide +kernel
theorem dX8_isLiteral_1 : decode cX8_isLiteral 1 = .ok (.iload_n 1, 1) := by decide +kernel
theorem dX8_isLiteral_2 : decode cX8_isLiteral 2 = .ok (.invokevirtual 50, 3) := by decide +kernel
theorem dX8_isLiteral_26 : decode cX8_isLiteral 26 = .ok (.iconst 0, 1) := by decide +kernel
theorem dX8_isLiteral_27 : decode cX8_isLiteral 27 = .ok (.ireturn, 1) := by decide +kernel
theorem dX8_isLiteral_5 : decode cX8_isLiteral 5 = .ok (.ifCond .eq 21, 3) := by decide +kernel
theorem dX9_init_0 : decode cX9_init 0 = .ok (.aload_n 0, 1) := by decide +kernel
theorem dX9_init_1 : decode cX9_init 1 = .ok (.invokespecial 3, 3) := by decide +kernel
theorem dX9_init_10 : decode cX9_init 10 = .ok (.putfield 9, 3) := by decide +kernel
theorem dX9_init_13 : decode cX9_init 13 = .ok (.aload_n 0, 1) := by decide +kernel
theorem dX9_init_14 : decode cX9_init 14 = .ok (.sipush 616, 3) := by decide +kernel
theorem dX9_init_17 : decode cX9_init 17 = .ok (.newarray .int, 2) := by decide +kernel
theorem dX9_init_19 : decode cX9_init 19 = .ok (.putfield 15, 3) := by decide +kernel
theorem dX9_init_22 : decode cX9_init 22 = .ok (.aload_n 0, 1) := by decide +kernel
theorem dX9_init_23 : decode cX9_init 23 = .ok (.sipush 2048, 3) := by decide +kernel
theorem dX9_init_26 : decode cX9_init 26 = .ok (.newarray .int, 2) := by decide +kernel
theorem dX9_init_28 : decode cX9_init 28 = .ok (.putfield 18, 3) := by decide +kernel
theorem dX9_init_31 : decode cX9_init 31 = .ok (.aload_n 0, 1) := by decide +kernel
theorem dX9_init_32 : decode cX9_init 32 = .ok (.aload_n 1, 1) := by decide +kernel
theorem dX9_init_33 : decode cX9_init 33 = .ok (.putfield 21, 3) := by decide +kernel
theorem dX9_init_36 : decode cX9_init 36 = .ok (.aload_n 0, 1) := by decide +kernel
theorem dX9_init_37 : decode cX9_init 37 = .ok (.aload_n 2, 1) := by decide +kernel
theorem dX9_init_38 : decode cX9_init 38 = .ok (.putfield 25, 3) := by decide +kernel
theorem dX9_init_4 : decode cX9_init 4 = .ok (.aload_n 0, 1) := by decide +kernel
theorem dX9_init_41 : decode cX9_init 41 = .ok (.return_, 1) := by decide +kernel
theorem dX9_init_5 : decode cX9_init 5 = .ok (.sipush 600, 3) := by decide +kernel
theorem dX9_init_8 : decode cX9_init 8 = .ok (.newarray .int, 2) := by decide +kernel
end
section
set_option maxHeartbeats 4000000 in
set_option maxRecDepth 100000 in
theorem c_X5_init (l : Launch) (dC : Nat → ClassId) (dI : Nat → Nat → Nat) (sz : Nat) (h_rd : Nat) : Met l yX5_init (Ws yX5_init cX5_init 1 none) ({ frames := 1, cells := 2, slots := 608, locals := 24 }) (PRE (dC, dI) cls [] [(h_rd, .inr (4, [.null, .int 0, .int 0, .int 0, .null, .null, .int 0, .int 0, .int 0, .int 0, .long 0]))] sz [.ref h_rd]) (va_Qv (fun (_ : (Nat → Value) × (Nat) × (ClassId)) => True) (fun (u : (Nat → Value) × (Nat) × (ClassId)) (t : State) => va_P (dC, dI) cls [(h_rd, .inr (4, [.ref u.2.1, .int 0, .int 0, .int (-1), .null, (u.1 5), .int 0, .int 0, .int 0, .int 0, .long 0])), (u.2.1, .inl (u.2.2, 600, .inl (fun _ => 0)))] t.heap ∧ va_K (dC, dI) cls [(u.2.2, .int)] t ∧ va_D (va_A [(h_rd, .inr (4, [.null, .int 0, .int 0, .int 0, .null, .null, .int 0, .int 0, .int 0, .int 0, .long 0]))] sz) [(h_rd, .inr (4, [.ref u.2.1, .int 0, .int 0, .int (-1), .null, (u.1 5), .int 0, .int 0, .int 0, .int 0, .long 0])), (u.2.1, .inl (u.2.2, 600, .inl (fun _ => 0)))]) (va_A [(h_rd, .inr (4, [.null, .int 0, .int 0, .int 0, .null, .null, .int 0, .int 0, .int 0, .int 0, .long 0]))] sz)) 2 608 (va_A [(h_rd, .inr (4, [.null, .int 0, .int 0, .int 0, .null, .null, .int 0, .int 0, .int 0, .int 0, .long 0]))] sz) := by
  refine Met.ofW (cc := cX5_init) (maxL := 1) (ret := none) (by decide) rfl ?_
  intro p e s m args below meth c s₁ B hml hv
  obtain ⟨rfl, hsz, hP, hK, hD0, hN⟩ := hv
  have hx := B.exec
  have hb := B.bytes
  have hr := B.returns
  have hts := atoms_spec (ws := Ws yX5_init cX5_init 1 none) B.pre
  have hT : ∀ w ∈ WALL, w ∈ Ws yX5_init cX5_init 1 none := fun w h => List.mem_cons_of_mem _ h
  have hw := fun w (h : w ∈ WALL) => hts w (hT w h)
  have hown : s.vm.findClass RX5 = some m.cls := findClass_of_methodNamed B.named
  have hlocks := B.notSynchronized
  have hin : meth.name = "<init>" := (name_of_methodNamed B.named B.method).1
  subst hsz
  have hD := hD0.self (sz := s.heap.size)
  generalize hAe : va_A [(h_rd, .inr (4, [.null, .int 0, .int 0, .int 0, .null, .null, .int 0, .int 0, .int 0, .int 0, .long 0]))] s.heap.size = A at hD ⊢
  have hA : ∀ q : Nat, s.heap.size ≤ q → A q := fun q h => by rw [← hAe]; exact Or.inr h
  have hS : va_S A s.heap s.heap [] := va_S.rf
  have hl := lv_entry ([.ref h_rd]) (n := 1) (Nat.le_of_ble_eq_true rfl)
  rw [lg_entry_eq]
  generalize (lg_sl ([.ref h_rd]) ++ List.replicate (1 - (lg_sl ([.ref h_rd])).length) Slot.unset).toArray = ls at hl ⊢
  have hl : lv_has ls 1 [(0, .ref h_rd)] := hl
  refine lv_aload_n hx hb dX5_init_0 rfl (lv_at hl 0 rfl) ?_
  refine W.objInit hx hb hown (hw _ w_m_X5_3) (hw _ w_instanceMethod_objInit) (hw _ w_code_objInit) rfl (by rw [hml]; exact hl.1) rfl dX5_init_1 (Nat.le_of_ble_eq_true rfl) (Nat.le_of_ble_eq_true rfl) ?_
  refine W.eq (g2 := F0 m 4 ls []) rfl ?_
  refine lv_aload_n hx hb dX5_init_4 rfl (lv_at hl 0 rfl) ?_
  refine lv_sipush (v := 600) hx hb dX5_init_5 (by decide) ?_
  refine va_newa (atype := .int) (n := 600) (N' := 600) (a0 := (600, .inl (fun _ => 0))) hx hb (hw _ w_arr_int) rfl hK hP hD hS hA (fun _ => rfl) (by decide) (by decide) (by decide) (Nat.le_of_ble_eq_true rfl) (Nat.le_of_ble_eq_true rfl) dX5_init_8 (fun q1 y2 H hK1 hP hD hS => ?_)
  have hK : va_K (dC, dI) cls [(y2, .int)] s := hK1
  have hP : va_P (dC, dI) cls [(h_rd, .inr (4, [.null, .int 0, .int 0, .int 0, .null, .null, .int 0, .int 0, .int 0, .int 0, .long 0])), (q1, .inl (y2, 600, .inl (fun _ => 0)))] H := hP
  have hD : va_D A [(h_rd, .inr (4, [.null, .int 0, .int 0, .int 0, .null, .null, .int 0, .int 0, .int 0, .int 0, .long 0])), (q1, .inl (y2, 600, .inl (fun _ => 0)))] := hD
  refine va_putF (D := (dC, dI)) (ci := 4) (v := .ref q1) (ty := tyX5 0) (C := RX5) (T := TX5) (N := 11) hx hb hw iwX5 tyX5 tyX5_ok nmX5 hown hK hP hD hS 0 rfl rfl 0 (by decide) (hw _ w_f_X5_9) (fun _ h9 => h9) rfl hin rfl (tyX5_ok 0 (by decide)) rfl rfl (Nat.le_of_ble_eq_true rfl) dX5_init_10 (fun H locs hP hD hS => ?_)
  have hP : va_P (dC, dI) cls [(h_rd, .inr (4, [.ref q1, .int 0, .int 0, .int 0, .null, .null, .int 0, .int 0, .int 0, .int 0, .long 0])), (q1, .inl (y2, 600, .inl (fun _ => 0)))] H := hP
  have hD : va_D A [(h_rd, .inr (4, [.ref q1, .int 0, .int 0, .int 0, .null, .null, .int 0, .int 0, .int 0, .int 0, .long 0])), (q1, .inl (y2, 600, .inl (fun _ => 0)))] := hD
  refine lv_aload_n hx hb dX5_init_13 rfl (lv_at hl 0 rfl) ?_
  refine lv_iconst (v := (-1)) hx hb dX5_init_14 (by decide) ?_
  refine va_put (D := (dC, dI)) (ci := 4) (v := .int (-1)) (ty := tyX5 3) (C := RX5) (T := TX5) (N := 11) hx hb hw iwX5 tyX5 tyX5_ok nmX5 hown hK hP hD hS 0 rfl rfl 3 (by decide) (hw _ w_f_X5_15) (fun _ h9 => h9) rfl (tyX5_ok 3 (by decide)) rfl rfl (Nat.le_of_ble_eq_true rfl) dX5_init_15 (fun H locs hP hD hS => ?_)
  have hP : va_P (dC, dI) cls [(h_rd, .inr (4, [.ref q1, .int 0, .int 0, .int (-1), .null, .null, .int 0, .int 0, .int 0, .int 0, .long 0])), (q1, .inl (y2, 600, .inl (fun _ => 0)))] H := hP
  have hD : va_D A [(h_rd, .inr (4, [.ref q1, .int 0, .int 0, .int (-1), .null, .null, .int 0, .int 0, .int 0, .int 0, .long 0])), (q1, .inl (y2, 600, .inl (fun _ => 0)))] := hD
  refine lv_aload_n hx hb dX5_init_18 rfl (lv_at hl 0 rfl) ?_
  refine lv_bipush (v := 8) hx hb dX5_init_19 (by decide) ?_
  refine va_newa (atype := .int) (n := 8) (N' := 8) (a0 := (8, .inl (fun _ => 0))) hx hb (hw _ w_arr_int) rfl hK hP hD hS hA (fun _ => rfl) (by decide) (by decide) (by decide) (Nat.le_of_ble_eq_true rfl) (Nat.le_of_ble_eq_true rfl) dX5_init_21 (fun q3 y4 H hK1 hP hD hS => ?_)
  have hP : va_P (dC, dI) cls [(h_rd, .inr (4, [.ref q1, .int 0, .int 0, .int (-1), .null, .null, .int 0, .int 0, .int 0, .int 0, .long 0])), (q1, .inl (y2, 600, .inl (fun _ => 0)))] H := hP.sub [0, 1] rfl
  have hD : va_D A [(h_rd, .inr (4, [.ref q1, .int 0, .int 0, .int (-1), .null, .null, .int 0, .int 0, .int 0, .int 0, .long 0])), (q1, .inl (y2, 600, .inl (fun _ => 0)))] := hD.sub [0, 1] (by decide) rfl
  refine va_putF (D := (dC, dI)) (ci := 4) (v := .ref q3) (ty := tyX5 5) (C := RX5) (T := TX5) (N := 11) hx hb hw iwX5 tyX5 tyX5_ok nmX5 hown hK hP hD hS 0 rfl rfl 5 (by decide) (hw _ w_f_X5_19) (fun _ h9 => h9) rfl hin rfl (tyX5_ok 5 (by decide)) rfl rfl (Nat.le_of_ble_eq_true rfl) dX5_init_23 (fun H locs hP hD hS => ?_)
  have hP : va_P (dC, dI) cls [(h_rd, .inr (4, [.ref q1, .int 0, .int 0, .int (-1), .null, .ref q3, .int 0, .int 0, .int 0, .int 0, .long 0])), (q1, .inl (y2, 600, .inl (fun _ => 0)))] H := hP
  have hD : va_D A [(h_rd, .inr (4, [.ref q1, .int 0, .int 0, .int (-1), .null, .ref q3, .int 0, .int 0, .int 0, .int 0, .long 0])), (q1, .inl (y2, 600, .inl (fun _ => 0)))] := hD
  refine W.widen (k := 2) (n := 608) (Nat.le_of_ble_eq_true rfl) (Nat.le_of_ble_eq_true rfl) ?_
  have hK9 := hK.sub (tys' := [(y2, .int)]) [0] rfl
  exact W.vret hx hb hr (fun t ht hW => ⟨⟨((fun k => List.getD [.ref q1, .int 0, .int 0, .int (-1), .null, .ref q3, .int 0, .int 0, .int 0, .int 0, .long 0] k .null), q1, y2), rfl, trivial, by rw [ht]; exact hP, va_K.moved hW.alike hK9, hD⟩, hS.F ht⟩) hS.2.2 dX5_init_26

set_option maxHeartbeats 4000000 in
set_option maxRecDepth 100000 in
theorem c_X8_init (l : Launch) (dC : Nat → ClassId) (dI : Nat → Nat → Nat) (sz : Nat) (h_td : Nat) : Met l yX8_init (Ws yX8_init cX8_init 1 none) ({ frames := 1, cells := 8, slots := 1944, locals := 24 }) (PRE (dC, dI) cls [] [(h_td, .inr (5, [.null, .null, .null, .null, .int 0, .null, .null, .null, .null, .int 0]))] sz [.ref h_td]) (va_Qv (fun (_ : (Nat → Value)) => True) (fun (u : (Nat → Value)) (t : State) => va_P (dC, dI) cls [(h_td, .inr (5, [(u 0), (u 1), (u 2), (u 3), .int 0, (u 5), (u 6), (u 7), (u 8), .int 0]))] t.heap ∧ va_K (dC, dI) cls [] t ∧ va_D (va_A [(h_td, .inr (5, [.null, .null, .null, .null, .int 0, .null, .null, .null, .null, .int 0]))] sz) [(h_td, .inr (5, [(u 0), (u 1), (u 2), (u 3), .int 0, (u 5), (u 6), (u 7), (u 8), .int 0]))]) (va_A [(h_td, .inr (5, [.null, .null, .null, .null, .int 0, .null, .null, .null, .null, .int 0]))] sz)) 8 1944 (va_A [(h_td, .inr (5, [.null, .null, .null, .null, .int 0, .null, .null, .null, .null, .int 0]))] sz) := by
  refine Met.ofW (cc := cX8_init) (maxL := 1) (ret := none) (by decide) rfl ?_
  intro p e s m args below meth c s₁ B hml hv
  obtain ⟨rfl, hsz, hP, hK, hD0, hN⟩ := hv
  have hx := B.exec
  have hb := B.bytes
  have hr := B.returns
  have hts := atoms_spec (ws := Ws yX8_init cX8_init 1 none) B.pre
  have hT : ∀ w ∈ WALL, w ∈ Ws yX8_init cX8_init 1 none := fun w h => List.mem_cons_of_mem _ h
  have hw := fun w (h : w ∈ WALL) => hts w (hT w h)
  have hown : s.vm.findClass RX8 = some m.cls := findClass_of_methodNamed B.named
  have hlocks := B.notSynchronized
  have hin : meth.name = "<init>" := (name_of_methodNamed B.named B.method).1
  subst hsz
  have hD := hD0.self (sz := s.heap.size)
  generalize hAe : va_A [(h_td, .inr (5, [.null, .null, .null, .null, .int 0, .null, .null, .null, .null, .int 0]))] s.heap.size = A at hD ⊢
  have hA : ∀ q : Nat, s.heap.size ≤ q → A q := fun q h => by rw [← hAe]; exact Or.inr h
  have hS : va_S A s.heap s.heap [] := va_S.rf
  have hl := lv_entry ([.ref h_td]) (n := 1) (Nat.le_of_ble_eq_true rfl)
  rw [lg_entry_eq]
  generalize (lg_sl ([.ref h_td]) ++ List.replicate (1 - (lg_sl ([.ref h_td])).length) Slot.unset).toArray = ls at hl ⊢
  have hl : lv_has ls 1 [(0, .ref h_td)] := hl
  refine lv_aload_n hx hb dX8_init_0 rfl (lv_at hl 0 rfl) ?_
  refine W.objInit hx hb hown (hw _ w_m_X8_3) (hw _ w_instanceMethod_objInit) (hw _ w_code_objInit) rfl (by rw [hml]; exact hl.1) rfl dX8_init_1 (Nat.le_of_ble_eq_true rfl) (Nat.le_of_ble_eq_true rfl) ?_
  refine W.eq (g2 := F0 m 4 ls []) rfl ?_
  refine lv_aload_n hx hb dX8_init_4 rfl (lv_at hl 0 rfl) ?_
  refine lv_sipush (v := 300) hx hb dX8_init_5 (by decide) ?_
  refine va_newa (atype := .long) (n := 300) (N' := 300) (a0 := (300, .inr (.inl (fun _ => 0)))) hx hb (hw _ w_arr_long) rfl hK hP hD hS hA (fun _ => rfl) (by decide) (by decide) (by decide) (Nat.le_of_ble_eq_true rfl) (Nat.le_of_ble_eq_true rfl) dX8_init_8 (fun q1 y2 H hK1 hP hD hS => ?_)
  have hP : va_P (dC, dI) cls [(h_td, .inr (5, [.null, .null, .null, .null, .int 0, .null, .null, .null, .null, .int 0]))] H := hP.sub [0] rfl
  have hD : va_D A [(h_td, .inr (5, [.null, .null, .null, .null, .int 0, .null, .null, .null, .null, .int 0]))] := hD.sub [0] (by decide) rfl
  refine va_putF (D := (dC, dI)) (ci := 5) (v := .ref q1) (ty := tyX8 0) (C := RX8) (T := TX8) (N := 10) hx hb hw iwX8 tyX8 tyX8_ok nmX8 hown hK hP hD hS 0 rfl rfl 0 (by decide) (hw _ w_f_X8_9) (fun _ h9 => h9) rfl hin rfl (tyX8_ok 0 (by decide)) rfl rfl (Nat.le_of_ble_eq_true rfl) dX8_init_10 (fun H locs hP hD hS => ?_)
  have hP : va_P (dC, dI) cls [(h_td, .inr (5, [.ref q1, .null, .null, .null, .int 0, .null, .null, .null, .null, .int 0]))] H := hP
  have hD : va_D A [(h_td, .inr (5, [.ref q1, .null, .null, .null, .int 0, .null, .null, .null, .null, .int 0]))] := hD
  refine lv_aload_n hx hb dX8_init_13 rfl (lv_at hl 0 rfl) ?_
  refine lv_sipush (v := 300) hx hb dX8_init_14 (by decide) ?_
  refine va_newa (atype := .int) (n := 300) (N' := 300) (a0 := (300, .inl (fun _ => 0))) hx hb (hw _ w_arr_int) rfl hK hP hD hS hA (fun _ => rfl) (by decide) (by decide) (by decide) (Nat.le_of_ble_eq_true rfl) (Nat.le_of_ble_eq_true rfl) dX8_init_17 (fun q3 y4 H hK1 hP hD hS => ?_)
  have hP : va_P (dC, dI) cls [(h_td, .inr (5, [.ref q1, .null, .null, .null, .int 0, .null, .null, .null, .null, .int 0]))] H := hP.sub [0] rfl
  have hD : va_D A [(h_td, .inr (5, [.ref q1, .null, .null, .null, .int 0, .null, .null, .null, .null, .int 0]))] := hD.sub [0] (by decide) rfl
  refine va_putF (D := (dC, dI)) (ci := 5) (v := .ref q3) (ty := tyX8 1) (C := RX8) (T := TX8) (N := 10) hx hb hw iwX8 tyX8 tyX8_ok nmX8 hown hK hP hD hS 0 rfl rfl 1 (by decide) (hw _ w_f_X8_15) (fun _ h9 => h9) rfl hin rfl (tyX8_ok 1 (by decide)) rfl rfl (Nat.le_of_ble_eq_true rfl) dX8_init_19 (fun H locs hP hD hS => ?_)
  have hP : va_P (dC, dI) cls [(h_td, .inr (5, [.ref q1, .ref q3, .null, .null, .int 0, .null, .null, .null, .null, .int 0]))] H := hP
  have hD : va_D A [(h_td, .inr (5, [.ref q1, .ref q3, .null, .null, .int 0, .null, .null, .null, .null, .int 0]))] := hD
  refine lv_aload_n hx hb dX8_init_22 rfl (lv_at hl 0 rfl) ?_
  refine lv_sipush (v := 300) hx hb dX8_init_23 (by decide) ?_
  refine va_newa (atype := .int) (n := 300) (N' := 300) (a0 := (300, .inl (fun _ => 0))) hx hb (hw _ w_arr_int) rfl hK hP hD hS hA (fun _ => rfl) (by decide) (by decide) (by decide) (Nat.le_of_ble_eq_true rfl) (Nat.le_of_ble_eq_true rfl) dX8_init_26 (fun q5 y6 H hK1 hP hD hS => ?_)
  have hP : va_P (dC, dI) cls [(h_td, .inr (5, [.ref q1, .ref q3, .null, .null, .int 0, .null, .null, .null, .null, .int 0]))] H := hP.sub [0] rfl
  have hD : va_D A [(h_td, .inr (5, [.ref q1, .ref q3, .null, .null, .int 0, .null, .null, .null, .null, .int 0]))] := hD.sub [0] (by decide) rfl
  refine va_putF (D := (dC, dI)) (ci := 5) (v := .ref q5) (ty := tyX8 2) (C := RX8) (T := TX8) (N := 10) hx hb hw iwX8 tyX8 tyX8_ok nmX8 hown hK hP hD hS 0 rfl rfl 2 (by decide) (hw _ w_f_X8_19) (fun _ h9 => h9) rfl hin rfl (tyX8_ok 2 (by decide)) rfl rfl (Nat.le_of_ble_eq_true rfl) dX8_init_28 (fun H locs hP hD hS => ?_)
  have hP : va_P (dC, dI) cls [(h_td, .inr (5, [.ref q1, .ref q3, .ref q5, .null, .int 0, .null, .null, .null, .null, .int 0]))] H := hP
  have hD : va_D A [(h_td, .inr (5, [.ref q1, .ref q3, .ref q5, .null, .int 0, .null, .null, .null, .null, .int 0]))] := hD
  refine lv_aload_n hx hb dX8_init_31 rfl (lv_at hl 0 rfl) ?_
  refine lv_sipush (v := 900) hx hb dX8_init_32 (by decide) ?_
  refine va_newa (atype := .int) (n := 900) (N' := 900) (a0 := (900, .inl (fun _ => 0))) hx hb (hw _ w_arr_int) rfl hK hP hD hS hA (fun _ => rfl) (by decide) (by decide) (by decide) (Nat.le_of_ble_eq_true rfl) (Nat.le_of_ble_eq_true rfl) dX8_init_35 (fun q7 y8 H hK1 hP hD hS => ?_)
  have hP : va_P (dC, dI) cls [(h_td, .inr (5, [.ref q1, .ref q3, .ref q5, .null, .int 0, .null, .null, .null, .null, .int 0]))] H := hP.sub [0] rfl
  have hD : va_D A [(h_td, .inr (5, [.ref q1, .ref q3, .ref q5, .null, .int 0, .null, .null, .null, .null, .int 0]))] := hD.sub [0] (by decide) rfl
  refine va_putF (D := (dC, dI)) (ci := 5) (v := .ref q7) (ty := tyX8 3) (C := RX8) (T := TX8) (N := 10) hx hb hw iwX8 tyX8 tyX8_ok nmX8 hown hK hP hD hS 0 rfl rfl 3 (by decide) (hw _ w_f_X8_22) (fun _ h9 => h9) rfl hin rfl (tyX8_ok 3 (by decide)) rfl rfl (Nat.le_of_ble_eq_true rfl) dX8_init_37 (fun H locs hP hD hS => ?_)
  have hP : va_P (dC, dI) cls [(h_td, .inr (5, [.ref q1, .ref q3, .ref q5, .ref q7, .int 0, .null, .null, .null, .null, .int 0]))] H := hP
  have hD : va_D A [(h_td, .inr (5, [.ref q1, .ref q3, .ref q5, .ref q7, .int 0, .null, .null, .null, .null, .int 0]))] := hD
  refine lv_aload_n hx hb dX8_init_40 rfl (lv_at hl 0 rfl) ?_
  refine lv_bipush (v := 16) hx hb dX8_init_41 (by decide) ?_
  refine va_newa (atype := .int) (n := 16) (N' := 16) (a0 := (16, .inl (fun _ => 0))) hx hb (hw _ w_arr_int) rfl hK hP hD hS hA (fun _ => rfl) (by decide) (by decide) (by decide) (Nat.le_of_ble_eq_true rfl) (Nat.le_of_ble_eq_true rfl) dX8_init_43 (fun q9 y10 H hK1 hP hD hS => ?_)
  have hP : va_P (dC, dI) cls [(h_td, .inr (5, [.ref q1, .ref q3, .ref q5, .ref q7, .int 0, .null, .null, .null, .null, .int 0]))] H := hP.sub [0] rfl
  have hD : va_D A [(h_td, .inr (5, [.ref q1, .ref q3, .ref q5, .ref q7, .int 0, .null, .null, .null, .null, .int 0]))] := hD.sub [0] (by decide) rfl
  refine va_putF (D := (dC, dI)) (ci := 5) (v := .ref q9) (ty := tyX8 5) (C := RX8) (T := TX8) (N := 10) hx hb hw iwX8 tyX8 tyX8_ok nmX8 hown hK hP hD hS 0 rfl rfl 5 (by decide) (hw _ w_f_X8_25) (fun _ h9 => h9) rfl hin rfl (tyX8_ok 5 (by decide)) rfl rfl (Nat.le_of_ble_eq_true rfl) dX8_init_45 (fun H locs hP hD hS => ?_)
  have hP : va_P (dC, dI) cls [(h_td, .inr (5, [.ref q1, .ref q3, .ref q5, .ref q7, .int 0, .ref q9, .null, .null, .null, .int 0]))] H := hP
  have hD : va_D A [(h_td, .inr (5, [.ref q1, .ref q3, .ref q5, .ref q7, .int 0, .ref q9, .null, .null, .null, .int 0]))] := hD
  refine lv_aload_n hx hb dX8_init_48 rfl (lv_at hl 0 rfl) ?_
  refine lv_bipush (v := 16) hx hb dX8_init_49 (by decide) ?_
  refine va_newa (atype := .int) (n := 16) (N' := 16) (a0 := (16, .inl (fun _ => 0))) hx hb (hw _ w_arr_int) rfl hK hP hD hS hA (fun _ => rfl) (by decide) (by decide) (by decide) (Nat.le_of_ble_eq_true rfl) (Nat.le_of_ble_eq_true rfl) dX8_init_51 (fun q11 y12 H hK1 hP hD hS => ?_)
  have hP : va_P (dC, dI) cls [(h_td, .inr (5, [.ref q1, .ref q3, .ref q5, .ref q7, .int 0, .ref q9, .null, .null, .null, .int 0]))] H := hP.sub [0] rfl
  have hD : va_D A [(h_td, .inr (5, [.ref q1, .ref q3, .ref q5, .ref q7, .int 0, .ref q9, .null, .null, .null, .int 0]))] := hD.sub [0] (by decide) rfl
  refine va_putF (D := (dC, dI)) (ci := 5) (v := .ref q11) (ty := tyX8 6) (C := RX8) (T := TX8) (N := 10) hx hb hw iwX8 tyX8 tyX8_ok nmX8 hown hK hP hD hS 0 rfl rfl 6 (by decide) (hw _ w_f_X8_28) (fun _ h9 => h9) rfl hin rfl (tyX8_ok 6 (by decide)) rfl rfl (Nat.le_of_ble_eq_true rfl) dX8_init_53 (fun H locs hP hD hS => ?_)
  have hP : va_P (dC, dI) cls [(h_td, .inr (5, [.ref q1, .ref q3, .ref q5, .ref q7, .int 0, .ref q9, .ref q11, .null, .null, .int 0]))] H := hP
  have hD : va_D A [(h_td, .inr (5, [.ref q1, .ref q3, .ref q5, .ref q7, .int 0, .ref q9, .ref q11, .null, .null, .int 0]))] := hD
  refine lv_aload_n hx hb dX8_init_56 rfl (lv_at hl 0 rfl) ?_
  refine lv_bipush (v := 16) hx hb dX8_init_57 (by decide) ?_
  refine va_newa (atype := .int) (n := 16) (N' := 16) (a0 := (16, .inl (fun _ => 0))) hx hb (hw _ w_arr_int) rfl hK hP hD hS hA (fun _ => rfl) (by decide) (by decide) (by decide) (Nat.le_of_ble_eq_true rfl) (Nat.le_of_ble_eq_true rfl) dX8_init_59 (fun q13 y14 H hK1 hP hD hS => ?_)
  have hP : va_P (dC, dI) cls [(h_td, .inr (5, [.ref q1, .ref q3, .ref q5, .ref q7, .int 0, .ref q9, .ref q11, .null, .null, .int 0]))] H := hP.sub [0] rfl
  have hD : va_D A [(h_td, .inr (5, [.ref q1, .ref q3, .ref q5, .ref q7, .int 0, .ref q9, .ref q11, .null, .null, .int 0]))] := hD.sub [0] (by decide) rfl
  refine va_putF (D := (dC, dI)) (ci := 5) (v := .ref q13) (ty := tyX8 7) (C := RX8) (T := TX8) (N := 10) hx hb hw iwX8 tyX8 tyX8_ok nmX8 hown hK hP hD hS 0 rfl rfl 7 (by decide) (hw _ w_f_X8_31) (fun _ h9 => h9) rfl hin rfl (tyX8_ok 7 (by decide)) rfl rfl (Nat.le_of_ble_eq_true rfl) dX8_init_61 (fun H locs hP hD hS => ?_)
  have hP : va_P (dC, dI) cls [(h_td, .inr (5, [.ref q1, .ref q3, .ref q5, .ref q7, .int 0, .ref q9, .ref q11, .ref q13, .null, .int 0]))] H := hP
  have hD : va_D A [(h_td, .inr (5, [.ref q1, .ref q3, .ref q5, .ref q7, .int 0, .ref q9, .ref q11, .ref q13, .null, .int 0]))] := hD
  refine lv_aload_n hx hb dX8_init_64 rfl (lv_at hl 0 rfl) ?_
  refine lv_bipush (v := 96) hx hb dX8_init_65 (by decide) ?_
  refine va_newa (atype := .int) (n := 96) (N' := 96) (a0 := (96, .inl (fun _ => 0))) hx hb (hw _ w_arr_int) rfl hK hP hD hS hA (fun _ => rfl) (by decide) (by decide) (by decide) (Nat.le_of_ble_eq_true rfl) (Nat.le_of_ble_eq_true rfl) dX8_init_67 (fun q15 y16 H hK1 hP hD hS => ?_)
  have hP : va_P (dC, dI) cls [(h_td, .inr (5, [.ref q1, .ref q3, .ref q5, .ref q7, .int 0, .ref q9, .ref q11, .ref q13, .null, .int 0]))] H := hP.sub [0] rfl
  have hD : va_D A [(h_td, .inr (5, [.ref q1, .ref q3, .ref q5, .ref q7, .int 0, .ref q9, .ref q11, .ref q13, .null, .int 0]))] := hD.sub [0] (by decide) rfl
  refine va_putF (D := (dC, dI)) (ci := 5) (v := .ref q15) (ty := tyX8 8) (C := RX8) (T := TX8) (N := 10) hx hb hw iwX8 tyX8 tyX8_ok nmX8 hown hK hP hD hS 0 rfl rfl 8 (by decide) (hw _ w_f_X8_34) (fun _ h9 => h9) rfl hin rfl (tyX8_ok 8 (by decide)) rfl rfl (Nat.le_of_ble_eq_true rfl) dX8_init_69 (fun H locs hP hD hS => ?_)
  have hP : va_P (dC, dI) cls [(h_td, .inr (5, [.ref q1, .ref q3, .ref q5, .ref q7, .int 0, .ref q9, .ref q11, .ref q13, .ref q15, .int 0]))] H := hP
  have hD : va_D A [(h_td, .inr (5, [.ref q1, .ref q3, .ref q5, .ref q7, .int 0, .ref q9, .ref q11, .ref q13, .ref q15, .int 0]))] := hD
  refine W.widen (k := 8) (n := 1944) (Nat.le_of_ble_eq_true rfl) (Nat.le_of_ble_eq_true rfl) ?_
  have hK9 := hK.sub (tys' := []) [] rfl
  exact W.vret hx hb hr (fun t ht hW => ⟨⟨(fun k => List.getD [.ref q1, .ref q3, .ref q5, .ref q7, .int 0, .ref q9, .ref q11, .ref q13, .ref q15, .int 0] k .null), rfl, trivial, by rw [ht]; exact hP, va_K.moved hW.alike hK9, hD⟩, hS.F ht⟩) hS.2.2 dX8_init_72

set_option maxHeartbeats 4000000 in
set_option maxRecDepth 100000 in
theorem c_X1_init (l : Launch) (dC : Nat → ClassId) (dI : Nat → Nat → Nat) (sz : Nat) (h_bd : Nat) (p1 : Nat) : Met l yX1_init (Ws yX1_init cX1_init 2 none) ({ frames := 1, cells := 8, slots := 17536, locals := 24 }) (PRE (dC, dI) cls [] [(h_bd, .inr (1, [.null, .null, .null, .int 0, .null, .null, .int 0, .null, .null, .int 0, .null, .null, .int 0]))] sz [.ref h_bd, .ref p1]) (va_Qv (fun (_ : (Nat → Value)) => True) (fun (u : (Nat → Value)) (t : State) => va_P (dC, dI) cls [(h_bd, .inr (1, [.ref p1, (u 1), (u 2), .int 0, (u 4), (u 5), .int 0, (u 7), (u 8), .int 0, (u 10), (u 11), .int 0]))] t.heap ∧ va_K (dC, dI) cls [] t ∧ va_D (va_A [(h_bd, .inr (1, [.null, .null, .null, .int 0, .null, .null, .int 0, .null, .null, .int 0, .null, .null, .int 0]))] sz) [(h_bd, .inr (1, [.ref p1, (u 1), (u 2), .int 0, (u 4), (u 5), .int 0, (u 7), (u 8), .int 0, (u 10), (u 11), .int 0]))]) (va_A [(h_bd, .inr (1, [.null, .null, .null, .int 0, .null, .null, .int 0, .null, .null, .int 0, .null, .null, .int 0]))] sz)) 8 17536 (va_A [(h_bd, .inr (1, [.null, .null, .null, .int 0, .null, .null, .int 0, .null, .null, .int 0, .null, .null, .int 0]))] sz) := by
  refine Met.ofW (cc := cX1_init) (maxL := 2) (ret := none) (by decide) rfl ?_
  intro p e s m args below meth c s₁ B hml hv
  obtain ⟨rfl, hsz, hP, hK, hD0, hN⟩ := hv
  have hx := B.exec
  have hb := B.bytes
  have hr := B.returns
  have hts := atoms_spec (ws := Ws yX1_init cX1_init 2 none) B.pre
  have hT : ∀ w ∈ WALL, w ∈ Ws yX1_init cX1_init 2 none := fun w h => List.mem_cons_of_mem _ h
  have hw := fun w (h : w ∈ WALL) => hts w (hT w h)
  have hown : s.vm.findClass RX1 = some m.cls := findClass_of_methodNamed B.named
  have hlocks := B.notSynchronized
  have hin : meth.name = "<init>" := (name_of_methodNamed B.named B.method).1
  subst hsz
  have hD := hD0.self (sz := s.heap.size)
  generalize hAe : va_A [(h_bd, .inr (1, [.null, .null, .null, .int 0, .null, .null, .int 0, .null, .null, .int 0, .null, .null, .int 0]))] s.heap.size = A at hD ⊢
  have hA : ∀ q : Nat, s.heap.size ≤ q → A q := fun q h => by rw [← hAe]; exact Or.inr h
  have hS : va_S A s.heap s.heap [] := va_S.rf
  have hl := lv_entry ([.ref h_bd, .ref p1]) (n := 2) (Nat.le_of_ble_eq_true rfl)
  rw [lg_entry_eq]
  generalize (lg_sl ([.ref h_bd, .ref p1]) ++ List.replicate (2 - (lg_sl ([.ref h_bd, .ref p1])).length) Slot.unset).toArray = ls at hl ⊢
  have hl : lv_has ls 2 [(0, .ref h_bd), (1, .ref p1)] := hl
  refine lv_aload_n hx hb dX1_init_0 rfl (lv_at hl 0 rfl) ?_
  refine W.objInit hx hb hown (hw _ w_m_X1_3) (hw _ w_instanceMethod_objInit) (hw _ w_code_objInit) rfl (by rw [hml]; exact hl.1) rfl dX1_init_1 (Nat.le_of_ble_eq_true rfl) (Nat.le_of_ble_eq_true rfl) ?_
  refine W.eq (g2 := F0 m 4 ls []) rfl ?_
  refine lv_aload_n hx hb dX1_init_4 rfl (lv_at hl 0 rfl) ?_
  refine lv_sipush (v := 256) hx hb dX1_init_5 (by decide) ?_
  refine va_newa (atype := .int) (n := 256) (N' := 256) (a0 := (256, .inl (fun _ => 0))) hx hb (hw _ w_arr_int) rfl hK hP hD hS hA (fun _ => rfl) (by decide) (by decide) (by decide) (Nat.le_of_ble_eq_true rfl) (Nat.le_of_ble_eq_true rfl) dX1_init_8 (fun q1 y2 H hK1 hP hD hS => ?_)
  have hP : va_P (dC, dI) cls [(h_bd, .inr (1, [.null, .null, .null, .int 0, .null, .null, .int 0, .null, .null, .int 0, .null, .null, .int 0]))] H := hP.sub [0] rfl
  have hD : va_D A [(h_bd, .inr (1, [.null, .null, .null, .int 0, .null, .null, .int 0, .null, .null, .int 0, .null, .null, .int 0]))] := hD.sub [0] (by decide) rfl
  refine va_putF (D := (dC, dI)) (ci := 1) (v := .ref q1) (ty := tyX1 1) (C := RX1) (T := TX1) (N := 13) hx hb hw iwX1 tyX1 tyX1_ok nmX1 hown hK hP hD hS 0 rfl rfl 1 (by decide) (hw _ w_f_X1_9) (fun _ h9 => h9) rfl hin rfl (tyX1_ok 1 (by decide)) rfl rfl (Nat.le_of_ble_eq_true rfl) dX1_init_10 (fun H locs hP hD hS => ?_)
  have hP : va_P (dC, dI) cls [(h_bd, .inr (1, [.null, .ref q1, .null, .int 0, .null, .null, .int 0, .null, .null, .int 0, .null, .null, .int 0]))] H := hP
  have hD : va_D A [(h_bd, .inr (1, [.null, .ref q1, .null, .int 0, .null, .null, .int 0, .null, .null, .int 0, .null, .null, .int 0]))] := hD
  refine lv_aload_n hx hb dX1_init_13 rfl (lv_at hl 0 rfl) ?_
  refine lv_sipush (v := 256) hx hb dX1_init_14 (by decide) ?_
  refine va_newa (atype := .int) (n := 256) (N' := 256) (a0 := (256, .inl (fun _ => 0))) hx hb (hw _ w_arr_int) rfl hK hP hD hS hA (fun _ => rfl) (by decide) (by decide) (by decide) (Nat.le_of_ble_eq_true rfl) (Nat.le_of_ble_eq_true rfl) dX1_init_17 (fun q3 y4 H hK1 hP hD hS => ?_)
  have hP : va_P (dC, dI) cls [(h_bd, .inr (1, [.null, .ref q1, .null, .int 0, .null, .null, .int 0, .null, .null, .int 0, .null, .null, .int 0]))] H := hP.sub [0] rfl
  have hD : va_D A [(h_bd, .inr (1, [.null, .ref q1, .null, .int 0, .null, .null, .int 0, .null, .null, .int 0, .null, .null, .int 0]))] := hD.sub [0] (by decide) rfl
  refine va_putF (D := (dC, dI)) (ci := 1) (v := .ref q3) (ty := tyX1 2) (C := RX1) (T := TX1) (N := 13) hx hb hw iwX1 tyX1 tyX1_ok nmX1 hown hK hP hD hS 0 rfl rfl 2 (by decide) (hw _ w_f_X1_15) (fun _ h9 => h9) rfl hin rfl (tyX1_ok 2 (by decide)) rfl rfl (Nat.le_of_ble_eq_true rfl) dX1_init_19 (fun H locs hP hD hS => ?_)
  have hP : va_P (dC, dI) cls [(h_bd, .inr (1, [.null, .ref q1, .ref q3, .int 0, .null, .null, .int 0, .null, .null, .int 0, .null, .null, .int 0]))] H := hP
  have hD : va_D A [(h_bd, .inr (1, [.null, .ref q1, .ref q3, .int 0, .null, .null, .int 0, .null, .null, .int 0, .null, .null, .int 0]))] := hD
  refine lv_aload_n hx hb dX1_init_22 rfl (lv_at hl 0 rfl) ?_
  refine lv_sipush (v := 9600) hx hb dX1_init_23 (by decide) ?_
  refine va_newa (atype := .int) (n := 9600) (N' := 9600) (a0 := (9600, .inl (fun _ => 0))) hx hb (hw _ w_arr_int) rfl hK hP hD hS hA (fun _ => rfl) (by decide) (by decide) (by decide) (Nat.le_of_ble_eq_true rfl) (Nat.le_of_ble_eq_true rfl) dX1_init_26 (fun q5 y6 H hK1 hP hD hS => ?_)
  have hP : va_P (dC, dI) cls [(h_bd, .inr (1, [.null, .ref q1, .ref q3, .int 0, .null, .null, .int 0, .null, .null, .int 0, .null, .null, .int 0]))] H := hP.sub [0] rfl
  have hD : va_D A [(h_bd, .inr (1, [.null, .ref q1, .ref q3, .int 0, .null, .null, .int 0, .null, .null, .int 0, .null, .null, .int 0]))] := hD.sub [0] (by decide) rfl
  refine va_putF (D := (dC, dI)) (ci := 1) (v := .ref q5) (ty := tyX1 4) (C := RX1) (T := TX1) (N := 13) hx hb hw iwX1 tyX1 tyX1_ok nmX1 hown hK hP hD hS 0 rfl rfl 4 (by decide) (hw _ w_f_X1_18) (fun _ h9 => h9) rfl hin rfl (tyX1_ok 4 (by decide)) rfl rfl (Nat.le_of_ble_eq_true rfl) dX1_init_28 (fun H locs hP hD hS => ?_)
  have hP : va_P (dC, dI) cls [(h_bd, .inr (1, [.null, .ref q1, .ref q3, .int 0, .ref q5, .null, .int 0, .null, .null, .int 0, .null, .null, .int 0]))] H := hP
  have hD : va_D A [(h_bd, .inr (1, [.null, .ref q1, .ref q3, .int 0, .ref q5, .null, .int 0, .null, .null, .int 0, .null, .null, .int 0]))] := hD
  refine lv_aload_n hx hb dX1_init_31 rfl (lv_at hl 0 rfl) ?_
  refine lv_sipush (v := 1024) hx hb dX1_init_32 (by decide) ?_
  refine va_newa (atype := .int) (n := 1024) (N' := 1024) (a0 := (1024, .inl (fun _ => 0))) hx hb (hw _ w_arr_int) rfl hK hP hD hS hA (fun _ => rfl) (by decide) (by decide) (by decide) (Nat.le_of_ble_eq_true rfl) (Nat.le_of_ble_eq_true rfl) dX1_init_35 (fun q7 y8 H hK1 hP hD hS => ?_)
  have hP : va_P (dC, dI) cls [(h_bd, .inr (1, [.null, .ref q1, .ref q3, .int 0, .ref q5, .null, .int 0, .null, .null, .int 0, .null, .null, .int 0]))] H := hP.sub [0] rfl
  have hD : va_D A [(h_bd, .inr (1, [.null, .ref q1, .ref q3, .int 0, .ref q5, .null, .int 0, .null, .null, .int 0, .null, .null, .int 0]))] := hD.sub [0] (by decide) rfl
  refine va_putF (D := (dC, dI)) (ci := 1) (v := .ref q7) (ty := tyX1 5) (C := RX1) (T := TX1) (N := 13) hx hb hw iwX1 tyX1 tyX1_ok nmX1 hown hK hP hD hS 0 rfl rfl 5 (by decide) (hw _ w_f_X1_21) (fun _ h9 => h9) rfl hin rfl (tyX1_ok 5 (by decide)) rfl rfl (Nat.le_of_ble_eq_true rfl) dX1_init_37 (fun H locs hP hD hS => ?_)
  have hP : va_P (dC, dI) cls [(h_bd, .inr (1, [.null, .ref q1, .ref q3, .int 0, .ref q5, .ref q7, .int 0, .null, .null, .int 0, .null, .null, .int 0]))] H := hP
  have hD : va_D A [(h_bd, .inr (1, [.null, .ref q1, .ref q3, .int 0, .ref q5, .ref q7, .int 0, .null, .null, .int 0, .null, .null, .int 0]))] := hD
  refine lv_aload_n hx hb dX1_init_40 rfl (lv_at hl 0 rfl) ?_
  refine lv_sipush (v := 2048) hx hb dX1_init_41 (by decide) ?_
  refine va_newa (atype := .int) (n := 2048) (N' := 2048) (a0 := (2048, .inl (fun _ => 0))) hx hb (hw _ w_arr_int) rfl hK hP hD hS hA (fun _ => rfl) (by decide) (by decide) (by decide) (Nat.le_of_ble_eq_true rfl) (Nat.le_of_ble_eq_true rfl) dX1_init_44 (fun q9 y10 H hK1 hP hD hS => ?_)
  have hP : va_P (dC, dI) cls [(h_bd, .inr (1, [.null, .ref q1, .ref q3, .int 0, .ref q5, .ref q7, .int 0, .null, .null, .int 0, .null, .null, .int 0]))] H := hP.sub [0] rfl
  have hD : va_D A [(h_bd, .inr (1, [.null, .ref q1, .ref q3, .int 0, .ref q5, .ref q7, .int 0, .null, .null, .int 0, .null, .null, .int 0]))] := hD.sub [0] (by decide) rfl
  refine va_putF (D := (dC, dI)) (ci := 1) (v := .ref q9) (ty := tyX1 7) (C := RX1) (T := TX1) (N := 13) hx hb hw iwX1 tyX1 tyX1_ok nmX1 hown hK hP hD hS 0 rfl rfl 7 (by decide) (hw _ w_f_X1_24) (fun _ h9 => h9) rfl hin rfl (tyX1_ok 7 (by decide)) rfl rfl (Nat.le_of_ble_eq_true rfl) dX1_init_46 (fun H locs hP hD hS => ?_)
  have hP : va_P (dC, dI) cls [(h_bd, .inr (1, [.null, .ref q1, .ref q3, .int 0, .ref q5, .ref q7, .int 0, .ref q9, .null, .int 0, .null, .null, .int 0]))] H := hP
  have hD : va_D A [(h_bd, .inr (1, [.null, .ref q1, .ref q3, .int 0, .ref q5, .ref q7, .int 0, .ref q9, .null, .int 0, .null, .null, .int 0]))] := hD
  refine lv_aload_n hx hb dX1_init_49 rfl (lv_at hl 0 rfl) ?_
  refine lv_sipush (v := 2048) hx hb dX1_init_50 (by decide) ?_
  refine va_newa (atype := .int) (n := 2048) (N' := 2048) (a0 := (2048, .inl (fun _ => 0))) hx hb (hw _ w_arr_int) rfl hK hP hD hS hA (fun _ => rfl) (by decide) (by decide) (by decide) (Nat.le_of_ble_eq_true rfl) (Nat.le_of_ble_eq_true rfl) dX1_init_53 (fun q11 y12 H hK1 hP hD hS => ?_)
  have hP : va_P (dC, dI) cls [(h_bd, .inr (1, [.null, .ref q1, .ref q3, .int 0, .ref q5, .ref q7, .int 0, .ref q9, .null, .int 0, .null, .null, .int 0]))] H := hP.sub [0] rfl
  have hD : va_D A [(h_bd, .inr (1, [.null, .ref q1, .ref q3, .int 0, .ref q5, .ref q7, .int 0, .ref q9, .null, .int 0, .null, .null, .int 0]))] := hD.sub [0] (by decide) rfl
  refine va_putF (D := (dC, dI)) (ci := 1) (v := .ref q11) (ty := tyX1 8) (C := RX1) (T := TX1) (N := 13) hx hb hw iwX1 tyX1 tyX1_ok nmX1 hown hK hP hD hS 0 rfl rfl 8 (by decide) (hw _ w_f_X1_27) (fun _ h9 => h9) rfl hin rfl (tyX1_ok 8 (by decide)) rfl rfl (Nat.le_of_ble_eq_true rfl) dX1_init_55 (fun H locs hP hD hS => ?_)
  have hP : va_P (dC, dI) cls [(h_bd, .inr (1, [.null, .ref q1, .ref q3, .int 0, .ref q5, .ref q7, .int 0, .ref q9, .ref q11, .int 0, .null, .null, .int 0]))] H := hP
  have hD : va_D A [(h_bd, .inr (1, [.null, .ref q1, .ref q3, .int 0, .ref q5, .ref q7, .int 0, .ref q9, .ref q11, .int 0, .null, .null, .int 0]))] := hD
  refine lv_aload_n hx hb dX1_init_58 rfl (lv_at hl 0 rfl) ?_
  refine lv_sipush (v := 2048) hx hb dX1_init_59 (by decide) ?_
  refine va_newa (atype := .int) (n := 2048) (N' := 2048) (a0 := (2048, .inl (fun _ => 0))) hx hb (hw _ w_arr_int) rfl hK hP hD hS hA (fun _ => rfl) (by decide) (by decide) (by decide) (Nat.le_of_ble_eq_true rfl) (Nat.le_of_ble_eq_true rfl) dX1_init_62 (fun q13 y14 H hK1 hP hD hS => ?_)
  have hP : va_P (dC, dI) cls [(h_bd, .inr (1, [.null, .ref q1, .ref q3, .int 0, .ref q5, .ref q7, .int 0, .ref q9, .ref q11, .int 0, .null, .null, .int 0]))] H := hP.sub [0] rfl
  have hD : va_D A [(h_bd, .inr (1, [.null, .ref q1, .ref q3, .int 0, .ref q5, .ref q7, .int 0, .ref q9, .ref q11, .int 0, .null, .null, .int 0]))] := hD.sub [0] (by decide) rfl
  refine va_putF (D := (dC, dI)) (ci := 1) (v := .ref q13) (ty := tyX1 10) (C := RX1) (T := TX1) (N := 13) hx hb hw iwX1 tyX1 tyX1_ok nmX1 hown hK hP hD hS 0 rfl rfl 10 (by decide) (hw _ w_f_X1_30) (fun _ h9 => h9) rfl hin rfl (tyX1_ok 10 (by decide)) rfl rfl (Nat.le_of_ble_eq_true rfl) dX1_init_64 (fun H locs hP hD hS => ?_)
  have hP : va_P (dC, dI) cls [(h_bd, .inr (1, [.null, .ref q1, .ref q3, .int 0, .ref q5, .ref q7, .int 0, .ref q9, .ref q11, .int 0, .ref q13, .null, .int 0]))] H := hP
  have hD : va_D A [(h_bd, .inr (1, [.null, .ref q1, .ref q3, .int 0, .ref q5, .ref q7, .int 0, .ref q9, .ref q11, .int 0, .ref q13, .null, .int 0]))] := hD
  refine lv_aload_n hx hb dX1_init_67 rfl (lv_at hl 0 rfl) ?_
  refine lv_sipush (v := 256) hx hb dX1_init_68 (by decide) ?_
  refine va_newa (atype := .int) (n := 256) (N' := 256) (a0 := (256, .inl (fun _ => 0))) hx hb (hw _ w_arr_int) rfl hK hP hD hS hA (fun _ => rfl) (by decide) (by decide) (by decide) (Nat.le_of_ble_eq_true rfl) (Nat.le_of_ble_eq_true rfl) dX1_init_71 (fun q15 y16 H hK1 hP hD hS => ?_)
  have hP : va_P (dC, dI) cls [(h_bd, .inr (1, [.null, .ref q1, .ref q3, .int 0, .ref q5, .ref q7, .int 0, .ref q9, .ref q11, .int 0, .ref q13, .null, .int 0]))] H := hP.sub [0] rfl
  have hD : va_D A [(h_bd, .inr (1, [.null, .ref q1, .ref q3, .int 0, .ref q5, .ref q7, .int 0, .ref q9, .ref q11, .int 0, .ref q13, .null, .int 0]))] := hD.sub [0] (by decide) rfl
  refine va_putF (D := (dC, dI)) (ci := 1) (v := .ref q15) (ty := tyX1 11) (C := RX1) (T := TX1) (N := 13) hx hb hw iwX1 tyX1 tyX1_ok nmX1 hown hK hP hD hS 0 rfl rfl 11 (by decide) (hw _ w_f_X1_33) (fun _ h9 => h9) rfl hin rfl (tyX1_ok 11 (by decide)) rfl rfl (Nat.le_of_ble_eq_true rfl) dX1_init_73 (fun H locs hP hD hS => ?_)
  have hP : va_P (dC, dI) cls [(h_bd, .inr (1, [.null, .ref q1, .ref q3, .int 0, .ref q5, .ref q7, .int 0, .ref q9, .ref q11, .int 0, .ref q13, .ref q15, .int 0]))] H := hP
  have hD : va_D A [(h_bd, .inr (1, [.null, .ref q1, .ref q3, .int 0, .ref q5, .ref q7, .int 0, .ref q9, .ref q11, .int 0, .ref q13, .ref q15, .int 0]))] := hD
  refine lv_aload_n hx hb dX1_init_76 rfl (lv_at hl 0 rfl) ?_
  refine lv_aload_n hx hb dX1_init_77 rfl (lv_at hl 1 rfl) ?_
  refine va_putF (D := (dC, dI)) (ci := 1) (v := .ref p1) (ty := tyX1 0) (C := RX1) (T := TX1) (N := 13) hx hb hw iwX1 tyX1 tyX1_ok nmX1 hown hK hP hD hS 0 rfl rfl 0 (by decide) (hw _ w_f_X1_36) (fun _ h9 => h9) rfl hin rfl (tyX1_ok 0 (by decide)) rfl rfl (Nat.le_of_ble_eq_true rfl) dX1_init_78 (fun H locs hP hD hS => ?_)
  have hP : va_P (dC, dI) cls [(h_bd, .inr (1, [.ref p1, .ref q1, .ref q3, .int 0, .ref q5, .ref q7, .int 0, .ref q9, .ref q11, .int 0, .ref q13, .ref q15, .int 0]))] H := hP
  have hD : va_D A [(h_bd, .inr (1, [.ref p1, .ref q1, .ref q3, .int 0, .ref q5, .ref q7, .int 0, .ref q9, .ref q11, .int 0, .ref q13, .ref q15, .int 0]))] := hD
  refine W.widen (k := 8) (n := 17536) (Nat.le_of_ble_eq_true rfl) (Nat.le_of_ble_eq_true rfl) ?_
  have hK9 := hK.sub (tys' := []) [] rfl
  exact W.vret hx hb hr (fun t ht hW => ⟨⟨(fun k => List.getD [.ref p1, .ref q1, .ref q3, .int 0, .ref q5, .ref q7, .int 0, .ref q9, .ref q11, .int 0, .ref q13, .ref q15, .int 0] k .null), rfl, trivial, by rw [ht]; exact hP, va_K.moved hW.alike hK9, hD⟩, hS.F ht⟩) hS.2.2 dX1_init_81

set_option maxHeartbeats 4000000 in
set_option maxRecDepth 100000 in
theorem c_X9_init (l : Launch) (dC : Nat → ClassId) (dI : Nat → Nat → Nat) (sz : Nat) (h_wr : Nat) (p1 : Nat) (p2 : Nat) : Met l yX9_init (Ws yX9_init cX9_init 3 none) ({ frames := 1, cells := 3, slots := 3264, locals := 24 }) (PRE (dC, dI) cls [] [(h_wr, .inr (6, [.null, .null, .null, .int 0, .null, .int 0, .null, .int 0]))] sz [.ref h_wr, .ref p1, .ref p2]) (va_Qv (fun (_ : (Nat → Value)) => True) (fun (u : (Nat → Value)) (t : State) => va_P (dC, dI) cls [(h_wr, .inr (6, [.ref p1, .ref p2, (u 2), .int 0, (u 4), .int 0, (u 6), .int 0]))] t.heap ∧ va_K (dC, dI) cls [] t ∧ va_D (va_A [(h_wr, .inr (6, [.null, .null, .null, .int 0, .null, .int 0, .null, .int 0]))] sz) [(h_wr, .inr (6, [.ref p1, .ref p2, (u 2), .int 0, (u 4), .int 0, (u 6), .int 0]))]) (va_A [(h_wr, .inr (6, [.null, .null, .null, .int 0, .null, .int 0, .null, .int 0]))] sz)) 3 3264 (va_A [(h_wr, .inr (6, [.null, .null, .null, .int 0, .null, .int 0, .null, .int 0]))] sz) := by
  refine Met.ofW (cc := cX9_init) (maxL := 3) (ret := none) (by decide) rfl ?_
  intro p e s m args below meth c s₁ B hml hv
  obtain ⟨rfl, hsz, hP, hK, hD0, hN⟩ := hv
  have hx := B.exec
  have hb := B.bytes
  have hr := B.returns
  have hts := atoms_spec (ws := Ws yX9_init cX9_init 3 none) B.pre
  have hT : ∀ w ∈ WALL, w ∈ Ws yX9_init cX9_init 3 none := fun w h => List.mem_cons_of_mem _ h
  have hw := fun w (h : w ∈ WALL) => hts w (hT w h)
  have hown : s.vm.findClass RX9 = some m.cls := findClass_of_methodNamed B.named
  have hlocks := B.notSynchronized
  have hin : meth.name = "<init>" := (name_of_methodNamed B.named B.method).1
  subst hsz
  have hD := hD0.self (sz := s.heap.size)
  generalize hAe : va_A [(h_wr, .inr (6, [.null, .null, .null, .int 0, .null, .int 0, .null, .int 0]))] s.heap.size = A at hD ⊢
  have hA : ∀ q : Nat, s.heap.size ≤ q → A q := fun q h => by rw [← hAe]; exact Or.inr h
  have hS : va_S A s.heap s.heap [] := va_S.rf
  have hl := lv_entry ([.ref h_wr, .ref p1, .ref p2]) (n := 3) (Nat.le_of_ble_eq_true rfl)
  rw [lg_entry_eq]
  generalize (lg_sl ([.ref h_wr, .ref p1, .ref p2]) ++ List.replicate (3 - (lg_sl ([.ref h_wr, .ref p1, .ref p2])).length) Slot.unset).toArray = ls at hl ⊢
  have hl : lv_has ls 3 [(0, .ref h_wr), (1, .ref p1), (2, .ref p2)] := hl
  refine lv_aload_n hx hb dX9_init_0 rfl (lv_at hl 0 rfl) ?_
  refine W.objInit hx hb hown (hw _ w_m_X9_3) (hw _ w_instanceMethod_objInit) (hw _ w_code_objInit) rfl (by rw [hml]; exact hl.1) rfl dX9_init_1 (Nat.le_of_ble_eq_true rfl) (Nat.le_of_ble_eq_true rfl) ?_
  refine W.eq (g2 := F0 m 4 ls []) rfl ?_
  refine lv_aload_n hx hb dX9_init_4 rfl (lv_at hl 0 rfl) ?_
  refine lv_sipush (v := 600) hx hb dX9_init_5 (by decide) ?_
  refine va_newa (atype := .int) (n := 600) (N' := 600) (a0 := (600, .inl (fun _ => 0))) hx hb (hw _ w_arr_int) rfl hK hP hD hS hA (fun _ => rfl) (by decide) (by decide) (by decide) (Nat.le_of_ble_eq_true rfl) (Nat.le_of_ble_eq_true rfl) dX9_init_8 (fun q1 y2 H hK1 hP hD hS => ?_)
  have hP : va_P (dC, dI) cls [(h_wr, .inr (6, [.null, .null, .null, .int 0, .null, .int 0, .null, .int 0]))] H := hP.sub [0] rfl
  have hD : va_D A [(h_wr, .inr (6, [.null, .null, .null, .int 0, .null, .int 0, .null, .int 0]))] := hD.sub [0] (by decide) rfl
  refine va_putF (D := (dC, dI)) (ci := 6) (v := .ref q1) (ty := tyX9 2) (C := RX9) (T := TX9) (N := 8) hx hb hw iwX9 tyX9 tyX9_ok nmX9 hown hK hP hD hS 0 rfl rfl 2 (by decide) (hw _ w_f_X9_9) (fun _ h9 => h9) rfl hin rfl (tyX9_ok 2 (by decide)) rfl rfl (Nat.le_of_ble_eq_true rfl) dX9_init_10 (fun H locs hP hD hS => ?_)
  have hP : va_P (dC, dI) cls [(h_wr, .inr (6, [.null, .null, .ref q1, .int 0, .null, .int 0, .null, .int 0]))] H := hP
  have hD : va_D A [(h_wr, .inr (6, [.null, .null, .ref q1, .int 0, .null, .int 0, .null, .int 0]))] := hD
  refine lv_aload_n hx hb dX9_init_13 rfl (lv_at hl 0 rfl) ?_
  refine lv_sipush (v := 616) hx hb dX9_init_14 (by decide) ?_
  refine va_newa (atype := .int) (n := 616) (N' := 616) (a0 := (616, .inl (fun _ => 0))) hx hb (hw _ w_arr_int) rfl hK hP hD hS hA (fun _ => rfl) (by decide) (by decide) (by decide) (Nat.le_of_ble_eq_true rfl) (Nat.le_of_ble_eq_true rfl) dX9_init_17 (fun q3 y4 H hK1 hP hD hS => ?_)
  have hP : va_P (dC, dI) cls [(h_wr, .inr (6, [.null, .null, .ref q1, .int 0, .null, .int 0, .null, .int 0]))] H := hP.sub [0] rfl
  have hD : va_D A [(h_wr, .inr (6, [.null, .null, .ref q1, .int 0, .null, .int 0, .null, .int 0]))] := hD.sub [0] (by decide) rfl
  refine va_putF (D := (dC, dI)) (ci := 6) (v := .ref q3) (ty := tyX9 4) (C := RX9) (T := TX9) (N := 8) hx hb hw iwX9 tyX9 tyX9_ok nmX9 hown hK hP hD hS 0 rfl rfl 4 (by decide) (hw _ w_f_X9_15) (fun _ h9 => h9) rfl hin rfl (tyX9_ok 4 (by decide)) rfl rfl (Nat.le_of_ble_eq_true rfl) dX9_init_19 (fun H locs hP hD hS => ?_)
  have hP : va_P (dC, dI) cls [(h_wr, .inr (6, [.null, .null, .ref q1, .int 0, .ref q3, .int 0, .null, .int 0]))] H := hP
  have hD : va_D A [(h_wr, .inr (6, [.null, .null, .ref q1, .int 0, .ref q3, .int 0, .null, .int 0]))] := hD
  refine lv_aload_n hx hb dX9_init_22 rfl (lv_at hl 0 rfl) ?_
  refine lv_sipush (v := 2048) hx hb dX9_init_23 (by decide) ?_
  refine va_newa (atype := .int) (n := 2048) (N' := 2048) (a0 := (2048, .inl (fun _ => 0))) hx hb (hw _ w_arr_int) rfl hK hP hD hS hA (fun _ => rfl) (by decide) (by decide) (by decide) (Nat.le_of_ble_eq_true rfl) (Nat.le_of_ble_eq_true rfl) dX9_init_26 (fun q5 y6 H hK1 hP hD hS => ?_)
  have hP : va_P (dC, dI) cls [(h_wr, .inr (6, [.null, .null, .ref q1, .int 0, .ref q3, .int 0, .null, .int 0]))] H := hP.sub [0] rfl
  have hD : va_D A [(h_wr, .inr (6, [.null, .null, .ref q1, .int 0, .ref q3, .int 0, .null, .int 0]))] := hD.sub [0] (by decide) rfl
  refine va_putF (D := (dC, dI)) (ci := 6) (v := .ref q5) (ty := tyX9 6) (C := RX9) (T := TX9) (N := 8) hx hb hw iwX9 tyX9 tyX9_ok nmX9 hown hK hP hD hS 0 rfl rfl 6 (by decide) (hw _ w_f_X9_18) (fun _ h9 => h9) rfl hin rfl (tyX9_ok 6 (by decide)) rfl rfl (Nat.le_of_ble_eq_true rfl) dX9_init_28 (fun H locs hP hD hS => ?_)
  have hP : va_P (dC, dI) cls [(h_wr, .inr (6, [.null, .null, .ref q1, .int 0, .ref q3, .int 0, .ref q5, .int 0]))] H := hP
  have hD : va_D A [(h_wr, .inr (6, [.null, .null, .ref q1, .int 0, .ref q3, .int 0, .ref q5, .int 0]))] := hD
  refine lv_aload_n hx hb dX9_init_31 rfl (lv_at hl 0 rfl) ?_
  refine lv_aload_n hx hb dX9_init_32 rfl (lv_at hl 1 rfl) ?_
  refine va_putF (D := (dC, dI)) (ci := 6) (v := .ref p1) (ty := tyX9 0) (C := RX9) (T := TX9) (N := 8) hx hb hw iwX9 tyX9 tyX9_ok nmX9 hown hK hP hD hS 0 rfl rfl 0 (by decide) (hw _ w_f_X9_21) (fun _ h9 => h9) rfl hin rfl (tyX9_ok 0 (by decide)) rfl rfl (Nat.le_of_ble_eq_true rfl) dX9_init_33 (fun H locs hP hD hS => ?_)
  have hP : va_P (dC, dI) cls [(h_wr, .inr (6, [.ref p1, .null, .ref q1, .int 0, .ref q3, .int 0, .ref q5, .int 0]))] H := hP
  have hD : va_D A [(h_wr, .inr (6, [.ref p1, .null, .ref q1, .int 0, .ref q3, .int 0, .ref q5, .int 0]))] := hD
  refine lv_aload_n hx hb dX9_init_36 rfl (lv_at hl 0 rfl) ?_
  refine lv_aload_n hx hb dX9_init_37 rfl (lv_at hl 2 rfl) ?_
  refine va_putF (D := (dC, dI)) (ci := 6) (v := .ref p2) (ty := tyX9 1) (C := RX9) (T := TX9) (N := 8) hx hb hw iwX9 tyX9 tyX9_ok nmX9 hown hK hP hD hS 0 rfl rfl 1 (by decide) (hw _ w_f_X9_25) (fun _ h9 => h9) rfl hin rfl (tyX9_ok 1 (by decide)) rfl rfl (Nat.le_of_ble_eq_true rfl) dX9_init_38 (fun H locs hP hD hS => ?_)
  have hP : va_P (dC, dI) cls [(h_wr, .inr (6, [.ref p1, .ref p2, .ref q1, .int 0, .ref q3, .int 0, .ref q5, .int 0]))] H := hP
  have hD : va_D A [(h_wr, .inr (6, [.ref p1, .ref p2, .ref q1, .int 0, .ref q3, .int 0, .ref q5, .int 0]))] := hD
  refine W.widen (k := 3) (n := 3264) (Nat.le_of_ble_eq_true rfl) (Nat.le_of_ble_eq_true rfl) ?_
  have hK9 := hK.sub (tys' := []) [] rfl
  exact W.vret hx hb hr (fun t ht hW => ⟨⟨(fun k => List.getD [.ref p1, .ref p2, .ref q1, .int 0, .ref q3, .int 0, .ref q5, .int 0] k .null), rfl, trivial, by rw [ht]; exact hP, va_K.moved hW.alike hK9, hD⟩, hS.F ht⟩) hS.2.2 dX9_init_41

set_option maxHeartbeats 4000000 in
set_option maxRecDepth 100000 in
theorem c_X4_init (l : Launch) (dC : Nat → ClassId) (dI : Nat → Nat → Nat) (sz : Nat) (h_pv : Nat) (p1 : Nat) (p2 : Nat) : Met l yX4_init (Ws yX4_init cX4_init 3 none) ({ frames := 1, cells := 4, slots := 781, locals := 24 }) (PRE (dC, dI) cls [] [(h_pv, .inr (3, [.null, .null, .null, .int 0, .null, .int 0, .null, .int 0, .null, .int 0, .int 0, .int 0, .int 0, .int 0, .int 0, .int 0, .int 0, .int 0]))] sz [.ref h_pv, .ref p1, .ref p2]) (va_Qv (fun (_ : (Nat → Value)) => True) (fun (u : (Nat → Value)) (t : State) => va_P (dC, dI) cls [(h_pv, .inr (3, [.ref p1, .ref p2, (u 2), .int 0, (u 4), .int 0, (u 6), .int 0, (u 8), .int 0, .int 0, .int 0, .int 0, .int 0, .int 0, .int 0, .int 0, .int 0]))] t.heap ∧ va_K (dC, dI) cls [] t ∧ va_D (va_A [(h_pv, .inr (3, [.null, .null, .null, .int 0, .null, .int 0, .null, .int 0, .null, .int 0, .int 0, .int 0, .int 0, .int 0, .int 0, .int 0, .int 0, .int 0]))] sz) [(h_pv, .inr (3, [.ref p1, .ref p2, (u 2), .int 0, (u 4), .int 0, (u 6), .int 0, (u 8), .int 0, .int 0, .int 0, .int 0, .int 0, .int 0, .int 0, .int 0, .int 0]))]) (va_A [(h_pv, .inr (3, [.null, .null, .null, .int 0, .null, .int 0, .null, .int 0, .null, .int 0, .int 0, .int 0, .int 0, .int 0, .int 0, .int 0, .int 0, .int 0]))] sz)) 4 781 (va_A [(h_pv, .inr (3, [.null, .null, .null, .int 0, .null, .int 0, .null, .int 0, .null, .int 0, .int 0, .int 0, .int 0, .int 0, .int 0, .int 0, .int 0, .int 0]))] sz) := by
  refine Met.ofW (cc := cX4_init) (maxL := 3) (ret := none) (by decide) rfl ?_
  intro p e s m args below meth c s₁ B hml hv
  obtain ⟨rfl, hsz, hP, hK, hD0, hN⟩ := hv
  have hx := B.exec
  have hb := B.bytes
  have hr := B.returns
  have hts := atoms_spec (ws := Ws yX4_init cX4_init 3 none) B.pre
  have hT : ∀ w ∈ WALL, w ∈ Ws yX4_init cX4_init 3 none := fun w h => List.mem_cons_of_mem _ h
  have hw := fun w (h : w ∈ WALL) => hts w (hT w h)
  have hown : s.vm.findClass RX4 = some m.cls := findClass_of_methodNamed B.named
  have hlocks := B.notSynchronized
  have hin : meth.name = "<init>" := (name_of_methodNamed B.named B.method).1
  subst hsz
  have hD := hD0.self (sz := s.heap.size)
  generalize hAe : va_A [(h_pv, .inr (3, [.null, .null, .null, .int 0, .null, .int 0, .null, .int 0, .null, .int 0, .int 0, .int 0, .int 0, .int 0, .int 0, .int 0, .int 0, .int 0]))] s.heap.size = A at hD ⊢
  have hA : ∀ q : Nat, s.heap.size ≤ q → A q := fun q h => by rw [← hAe]; exact Or.inr h
  have hS : va_S A s.heap s.heap [] := va_S.rf
  have hl := lv_entry ([.ref h_pv, .ref p1, .ref p2]) (n := 3) (Nat.le_of_ble_eq_true rfl)
  rw [lg_entry_eq]
  generalize (lg_sl ([.ref h_pv, .ref p1, .ref p2]) ++ List.replicate (3 - (lg_sl ([.ref h_pv, .ref p1, .ref p2])).length) Slot.unset).toArray = ls at hl ⊢
  have hl : lv_has ls 3 [(0, .ref h_pv), (1, .ref p1), (2, .ref p2)] := hl
  refine lv_aload_n hx hb dX4_init_0 rfl (lv_at hl 0 rfl) ?_
  refine W.objInit hx hb hown (hw _ w_m_X4_3) (hw _ w_instanceMethod_objInit) (hw _ w_code_objInit) rfl (by rw [hml]; exact hl.1) rfl dX4_init_1 (Nat.le_of_ble_eq_true rfl) (Nat.le_of_ble_eq_true rfl) ?_
  refine W.eq (g2 := F0 m 4 ls []) rfl ?_
  refine lv_aload_n hx hb dX4_init_4 rfl (lv_at hl 0 rfl) ?_
  refine lv_sipush (v := 361) hx hb dX4_init_5 (by decide) ?_
  refine va_newq (C := "OppositePairs$Row") (n := 361) (N' := 361) hx hb hown (hw _ w_c_X4_9) (hN _ n_ao_X6) hK hP hD hS hA (by decide) (by decide) (by decide) (Nat.le_of_ble_eq_true rfl) (Nat.le_of_ble_eq_true rfl) dX4_init_8 (fun q1 y2 H hK1 hP hD hS => ?_)
  have hP : va_P (dC, dI) cls [(h_pv, .inr (3, [.null, .null, .null, .int 0, .null, .int 0, .null, .int 0, .null, .int 0, .int 0, .int 0, .int 0, .int 0, .int 0, .int 0, .int 0, .int 0]))] H := hP.sub [0] rfl
  have hD : va_D A [(h_pv, .inr (3, [.null, .null, .null, .int 0, .null, .int 0, .null, .int 0, .null, .int 0, .int 0, .int 0, .int 0, .int 0, .int 0, .int 0, .int 0, .int 0]))] := hD.sub [0] (by decide) rfl
  refine va_putF (D := (dC, dI)) (ci := 3) (v := .ref q1) (ty := tyX4 2) (C := RX4) (T := TX4) (N := 18) hx hb hw iwX4 tyX4 tyX4_ok nmX4 hown hK hP hD hS 0 rfl rfl 2 (by decide) (hw _ w_f_X4_11) (fun _ h9 => h9) rfl hin rfl (tyX4_ok 2 (by decide)) rfl rfl (Nat.le_of_ble_eq_true rfl) dX4_init_11 (fun H locs hP hD hS => ?_)
  have hP : va_P (dC, dI) cls [(h_pv, .inr (3, [.null, .null, .ref q1, .int 0, .null, .int 0, .null, .int 0, .null, .int 0, .int 0, .int 0, .int 0, .int 0, .int 0, .int 0, .int 0, .int 0]))] H := hP
  have hD : va_D A [(h_pv, .inr (3, [.null, .null, .ref q1, .int 0, .null, .int 0, .null, .int 0, .null, .int 0, .int 0, .int 0, .int 0, .int 0, .int 0, .int 0, .int 0, .int 0]))] := hD
  refine lv_aload_n hx hb dX4_init_14 rfl (lv_at hl 0 rfl) ?_
  refine lv_sipush (v := 210) hx hb dX4_init_15 (by decide) ?_
  refine va_newq (C := "OppositePairs$Link") (n := 210) (N' := 210) hx hb hown (hw _ w_c_X4_17) (hN _ n_ao_X2) hK hP hD hS hA (by decide) (by decide) (by decide) (Nat.le_of_ble_eq_true rfl) (Nat.le_of_ble_eq_true rfl) dX4_init_18 (fun q3 y4 H hK1 hP hD hS => ?_)
  have hP : va_P (dC, dI) cls [(h_pv, .inr (3, [.null, .null, .ref q1, .int 0, .null, .int 0, .null, .int 0, .null, .int 0, .int 0, .int 0, .int 0, .int 0, .int 0, .int 0, .int 0, .int 0]))] H := hP.sub [0] rfl
  have hD : va_D A [(h_pv, .inr (3, [.null, .null, .ref q1, .int 0, .null, .int 0, .null, .int 0, .null, .int 0, .int 0, .int 0, .int 0, .int 0, .int 0, .int 0, .int 0, .int 0]))] := hD.sub [0] (by decide) rfl
  refine va_putF (D := (dC, dI)) (ci := 3) (v := .ref q3) (ty := tyX4 4) (C := RX4) (T := TX4) (N := 18) hx hb hw iwX4 tyX4 tyX4_ok nmX4 hown hK hP hD hS 0 rfl rfl 4 (by decide) (hw _ w_f_X4_19) (fun _ h9 => h9) rfl hin rfl (tyX4_ok 4 (by decide)) rfl rfl (Nat.le_of_ble_eq_true rfl) dX4_init_21 (fun H locs hP hD hS => ?_)
  have hP : va_P (dC, dI) cls [(h_pv, .inr (3, [.null, .null, .ref q1, .int 0, .ref q3, .int 0, .null, .int 0, .null, .int 0, .int 0, .int 0, .int 0, .int 0, .int 0, .int 0, .int 0, .int 0]))] H := hP
  have hD : va_D A [(h_pv, .inr (3, [.null, .null, .ref q1, .int 0, .ref q3, .int 0, .null, .int 0, .null, .int 0, .int 0, .int 0, .int 0, .int 0, .int 0, .int 0, .int 0, .int 0]))] := hD
  refine lv_aload_n hx hb dX4_init_24 rfl (lv_at hl 0 rfl) ?_
  refine lv_sipush (v := 180) hx hb dX4_init_25 (by decide) ?_
  refine va_newq (C := "OppositePairs$Step") (n := 180) (N' := 180) hx hb hown (hw _ w_c_X4_23) (hN _ n_ao_X7) hK hP hD hS hA (by decide) (by decide) (by decide) (Nat.le_of_ble_eq_true rfl) (Nat.le_of_ble_eq_true rfl) dX4_init_28 (fun q5 y6 H hK1 hP hD hS => ?_)
  have hP : va_P (dC, dI) cls [(h_pv, .inr (3, [.null, .null, .ref q1, .int 0, .ref q3, .int 0, .null, .int 0, .null, .int 0, .int 0, .int 0, .int 0, .int 0, .int 0, .int 0, .int 0, .int 0]))] H := hP.sub [0] rfl
  have hD : va_D A [(h_pv, .inr (3, [.null, .null, .ref q1, .int 0, .ref q3, .int 0, .null, .int 0, .null, .int 0, .int 0, .int 0, .int 0, .int 0, .int 0, .int 0, .int 0, .int 0]))] := hD.sub [0] (by decide) rfl
  refine va_putF (D := (dC, dI)) (ci := 3) (v := .ref q5) (ty := tyX4 6) (C := RX4) (T := TX4) (N := 18) hx hb hw iwX4 tyX4 tyX4_ok nmX4 hown hK hP hD hS 0 rfl rfl 6 (by decide) (hw _ w_f_X4_25) (fun _ h9 => h9) rfl hin rfl (tyX4_ok 6 (by decide)) rfl rfl (Nat.le_of_ble_eq_true rfl) dX4_init_31 (fun H locs hP hD hS => ?_)
  have hP : va_P (dC, dI) cls [(h_pv, .inr (3, [.null, .null, .ref q1, .int 0, .ref q3, .int 0, .ref q5, .int 0, .null, .int 0, .int 0, .int 0, .int 0, .int 0, .int 0, .int 0, .int 0, .int 0]))] H := hP
  have hD : va_D A [(h_pv, .inr (3, [.null, .null, .ref q1, .int 0, .ref q3, .int 0, .ref q5, .int 0, .null, .int 0, .int 0, .int 0, .int 0, .int 0, .int 0, .int 0, .int 0, .int 0]))] := hD
  refine lv_aload_n hx hb dX4_init_34 rfl (lv_at hl 0 rfl) ?_
  refine lv_bipush (v := 30) hx hb dX4_init_35 (by decide) ?_
  refine va_newa (atype := .int) (n := 30) (N' := 30) (a0 := (30, .inl (fun _ => 0))) hx hb (hw _ w_arr_int) rfl hK hP hD hS hA (fun _ => rfl) (by decide) (by decide) (by decide) (Nat.le_of_ble_eq_true rfl) (Nat.le_of_ble_eq_true rfl) dX4_init_37 (fun q7 y8 H hK1 hP hD hS => ?_)
  have hP : va_P (dC, dI) cls [(h_pv, .inr (3, [.null, .null, .ref q1, .int 0, .ref q3, .int 0, .ref q5, .int 0, .null, .int 0, .int 0, .int 0, .int 0, .int 0, .int 0, .int 0, .int 0, .int 0]))] H := hP.sub [0] rfl
  have hD : va_D A [(h_pv, .inr (3, [.null, .null, .ref q1, .int 0, .ref q3, .int 0, .ref q5, .int 0, .null, .int 0, .int 0, .int 0, .int 0, .int 0, .int 0, .int 0, .int 0, .int 0]))] := hD.sub [0] (by decide) rfl
  refine va_putF (D := (dC, dI)) (ci := 3) (v := .ref q7) (ty := tyX4 8) (C := RX4) (T := TX4) (N := 18) hx hb hw iwX4 tyX4 tyX4_ok nmX4 hown hK hP hD hS 0 rfl rfl 8 (by decide) (hw _ w_f_X4_29) (fun _ h9 => h9) rfl hin rfl (tyX4_ok 8 (by decide)) rfl rfl (Nat.le_of_ble_eq_true rfl) dX4_init_39 (fun H locs hP hD hS => ?_)
  have hP : va_P (dC, dI) cls [(h_pv, .inr (3, [.null, .null, .ref q1, .int 0, .ref q3, .int 0, .ref q5, .int 0, .ref q7, .int 0, .int 0, .int 0, .int 0, .int 0, .int 0, .int 0, .int 0, .int 0]))] H := hP
  have hD : va_D A [(h_pv, .inr (3, [.null, .null, .ref q1, .int 0, .ref q3, .int 0, .ref q5, .int 0, .ref q7, .int 0, .int 0, .int 0, .int 0, .int 0, .int 0, .int 0, .int 0, .int 0]))] := hD
  refine lv_aload_n hx hb dX4_init_42 rfl (lv_at hl 0 rfl) ?_
  refine lv_aload_n hx hb dX4_init_43 rfl (lv_at hl 1 rfl) ?_
  refine va_putF (D := (dC, dI)) (ci := 3) (v := .ref p1) (ty := tyX4 0) (C := RX4) (T := TX4) (N := 18) hx hb hw iwX4 tyX4 tyX4_ok nmX4 hown hK hP hD hS 0 rfl rfl 0 (by decide) (hw _ w_f_X4_33) (fun _ h9 => h9) rfl hin rfl (tyX4_ok 0 (by decide)) rfl rfl (Nat.le_of_ble_eq_true rfl) dX4_init_44 (fun H locs hP hD hS => ?_)
  have hP : va_P (dC, dI) cls [(h_pv, .inr (3, [.ref p1, .null, .ref q1, .int 0, .ref q3, .int 0, .ref q5, .int 0, .ref q7, .int 0, .int 0, .int 0, .int 0, .int 0, .int 0, .int 0, .int 0, .int 0]))] H := hP
  have hD : va_D A [(h_pv, .inr (3, [.ref p1, .null, .ref q1, .int 0, .ref q3, .int 0, .ref q5, .int 0, .ref q7, .int 0, .int 0, .int 0, .int 0, .int 0, .int 0, .int 0, .int 0, .int 0]))] := hD
  refine lv_aload_n hx hb dX4_init_47 rfl (lv_at hl 0 rfl) ?_
  refine lv_aload_n hx hb dX4_init_48 rfl (lv_at hl 2 rfl) ?_
  refine va_putF (D := (dC, dI)) (ci := 3) (v := .ref p2) (ty := tyX4 1) (C := RX4) (T := TX4) (N := 18) hx hb hw iwX4 tyX4 tyX4_ok nmX4 hown hK hP hD hS 0 rfl rfl 1 (by decide) (hw _ w_f_X4_37) (fun _ h9 => h9) rfl hin rfl (tyX4_ok 1 (by decide)) rfl rfl (Nat.le_of_ble_eq_true rfl) dX4_init_49 (fun H locs hP hD hS => ?_)
  have hP : va_P (dC, dI) cls [(h_pv, .inr (3, [.ref p1, .ref p2, .ref q1, .int 0, .ref q3, .int 0, .ref q5, .int 0, .ref q7, .int 0, .int 0, .int 0, .int 0, .int 0, .int 0, .int 0, .int 0, .int 0]))] H := hP
  have hD : va_D A [(h_pv, .inr (3, [.ref p1, .ref p2, .ref q1, .int 0, .ref q3, .int 0, .ref q5, .int 0, .ref q7, .int 0, .int 0, .int 0, .int 0, .int 0, .int 0, .int 0, .int 0, .int 0]))] := hD
  refine W.widen (k := 4) (n := 781) (Nat.le_of_ble_eq_true rfl) (Nat.le_of_ble_eq_true rfl) ?_
  have hK9 := hK.sub (tys' := []) [] rfl
  exact W.vret hx hb hr (fun t ht hW => ⟨⟨(fun k => List.getD [.ref p1, .ref p2, .ref q1, .int 0, .ref q3, .int 0, .ref q5, .int 0, .ref q7, .int 0, .int 0, .int 0, .int 0, .int 0, .int 0, .int 0, .int 0, .int 0] k .null), rfl, trivial, by rw [ht]; exact hP, va_K.moved hW.alike hK9, hD⟩, hS.F ht⟩) hS.2.2 dX4_init_52

set_option maxHeartbeats 4000000 in
set_option maxRecDepth 100000 in
theorem c_X3_init (l : Launch) (dC : Nat → ClassId) (dI : Nat → Nat → Nat) (sz : Nat) (h_mx : Nat) (p1 : Nat) (p2 : Nat) (p3 : Nat) : Met l yX3_init (Ws yX3_init cX3_init 4 none) ({ frames := 1, cells := 5, slots := 600, locals := 24 }) (PRE (dC, dI) cls [] [(h_mx, .inr (2, [.null, .null, .null, .null, .int 0, .null, .int 0, .null, .null, .null, .int 0, .int 0]))] sz [.ref h_mx, .ref p1, .ref p2, .ref p3]) (va_Qv (fun (_ : (Nat → Value)) => True) (fun (u : (Nat → Value)) (t : State) => va_P (dC, dI) cls [(h_mx, .inr (2, [.ref p1, .ref p2, .ref p3, (u 3), .int 0, (u 5), .int 0, (u 7), (u 8), (u 9), .int (-2), .int 0]))] t.heap ∧ va_K (dC, dI) cls [] t ∧ va_D (va_A [(h_mx, .inr (2, [.null, .null, .null, .null, .int 0, .null, .int 0, .null, .null, .null, .int 0, .int 0]))] sz) [(h_mx, .inr (2, [.ref p1, .ref p2, .ref p3, (u 3), .int 0, (u 5), .int 0, (u 7), (u 8), (u 9), .int (-2), .int 0]))]) (va_A [(h_mx, .inr (2, [.null, .null, .null, .null, .int 0, .null, .int 0, .null, .null, .null, .int 0, .int 0]))] sz)) 5 600 (va_A [(h_mx, .inr (2, [.null, .null, .null, .null, .int 0, .null, .int 0, .null, .null, .null, .int 0, .int 0]))] sz) := by
  refine Met.ofW (cc := cX3_init) (maxL := 4) (ret := none) (by decide) rfl ?_
  intro p e s m args below meth c s₁ B hml hv
  obtain ⟨rfl, hsz, hP, hK, hD0, hN⟩ := hv
  have hx := B.exec
  have hb := B.bytes
  have hr := B.returns
  have hts := atoms_spec (ws := Ws yX3_init cX3_init 4 none) B.pre
  have hT : ∀ w ∈ WALL, w ∈ Ws yX3_init cX3_init 4 none := fun w h => List.mem_cons_of_mem _ h
  have hw := fun w (h : w ∈ WALL) => hts w (hT w h)
  have hown : s.vm.findClass RX3 = some m.cls := findClass_of_methodNamed B.named
  have hlocks := B.notSynchronized
  have hin : meth.name = "<init>" := (name_of_methodNamed B.named B.method).1
  subst hsz
  have hD := hD0.self (sz := s.heap.size)
  generalize hAe : va_A [(h_mx, .inr (2, [.null, .null, .null, .null, .int 0, .null, .int 0, .null, .null, .null, .int 0, .int 0]))] s.heap.size = A at hD ⊢
  have hA : ∀ q : Nat, s.heap.size ≤ q → A q := fun q h => by rw [← hAe]; exact Or.inr h
  have hS : va_S A s.heap s.heap [] := va_S.rf
  have hl := lv_entry ([.ref h_mx, .ref p1, .ref p2, .ref p3]) (n := 4) (Nat.le_of_ble_eq_true rfl)
  rw [lg_entry_eq]
  generalize (lg_sl ([.ref h_mx, .ref p1, .ref p2, .ref p3]) ++ List.replicate (4 - (lg_sl ([.ref h_mx, .ref p1, .ref p2, .ref p3])).length) Slot.unset).toArray = ls at hl ⊢
  have hl : lv_has ls 4 [(0, .ref h_mx), (1, .ref p1), (2, .ref p2), (3, .ref p3)] := hl
  refine lv_aload_n hx hb dX3_init_0 rfl (lv_at hl 0 rfl) ?_
  refine W.objInit hx hb hown (hw _ w_m_X3_3) (hw _ w_instanceMethod_objInit) (hw _ w_code_objInit) rfl (by rw [hml]; exact hl.1) rfl dX3_init_1 (Nat.le_of_ble_eq_true rfl) (Nat.le_of_ble_eq_true rfl) ?_
  refine W.eq (g2 := F0 m 4 ls []) rfl ?_
  refine lv_aload_n hx hb dX3_init_4 rfl (lv_at hl 0 rfl) ?_
  refine lv_sipush (v := 180) hx hb dX3_init_5 (by decide) ?_
  refine va_newa (atype := .int) (n := 180) (N' := 180) (a0 := (180, .inl (fun _ => 0))) hx hb (hw _ w_arr_int) rfl hK hP hD hS hA (fun _ => rfl) (by decide) (by decide) (by decide) (Nat.le_of_ble_eq_true rfl) (Nat.le_of_ble_eq_true rfl) dX3_init_8 (fun q1 y2 H hK1 hP hD hS => ?_)
  have hP : va_P (dC, dI) cls [(h_mx, .inr (2, [.null, .null, .null, .null, .int 0, .null, .int 0, .null, .null, .null, .int 0, .int 0]))] H := hP.sub [0] rfl
  have hD : va_D A [(h_mx, .inr (2, [.null, .null, .null, .null, .int 0, .null, .int 0, .null, .null, .null, .int 0, .int 0]))] := hD.sub [0] (by decide) rfl
  refine va_putF (D := (dC, dI)) (ci := 2) (v := .ref q1) (ty := tyX3 3) (C := RX3) (T := TX3) (N := 12) hx hb hw iwX3 tyX3 tyX3_ok nmX3 hown hK hP hD hS 0 rfl rfl 3 (by decide) (hw _ w_f_X3_9) (fun _ h9 => h9) rfl hin rfl (tyX3_ok 3 (by decide)) rfl rfl (Nat.le_of_ble_eq_true rfl) dX3_init_10 (fun H locs hP hD hS => ?_)
  have hP : va_P (dC, dI) cls [(h_mx, .inr (2, [.null, .null, .null, .ref q1, .int 0, .null, .int 0, .null, .null, .null, .int 0, .int 0]))] H := hP
  have hD : va_D A [(h_mx, .inr (2, [.null, .null, .null, .ref q1, .int 0, .null, .int 0, .null, .null, .null, .int 0, .int 0]))] := hD
  refine lv_aload_n hx hb dX3_init_13 rfl (lv_at hl 0 rfl) ?_
  refine lv_bipush (v := 30) hx hb dX3_init_14 (by decide) ?_
  refine va_newa (atype := .int) (n := 30) (N' := 30) (a0 := (30, .inl (fun _ => 0))) hx hb (hw _ w_arr_int) rfl hK hP hD hS hA (fun _ => rfl) (by decide) (by decide) (by decide) (Nat.le_of_ble_eq_true rfl) (Nat.le_of_ble_eq_true rfl) dX3_init_16 (fun q3 y4 H hK1 hP hD hS => ?_)
  have hP : va_P (dC, dI) cls [(h_mx, .inr (2, [.null, .null, .null, .ref q1, .int 0, .null, .int 0, .null, .null, .null, .int 0, .int 0]))] H := hP.sub [0] rfl
  have hD : va_D A [(h_mx, .inr (2, [.null, .null, .null, .ref q1, .int 0, .null, .int 0, .null, .null, .null, .int 0, .int 0]))] := hD.sub [0] (by decide) rfl
  refine va_putF (D := (dC, dI)) (ci := 2) (v := .ref q3) (ty := tyX3 5) (C := RX3) (T := TX3) (N := 12) hx hb hw iwX3 tyX3 tyX3_ok nmX3 hown hK hP hD hS 0 rfl rfl 5 (by decide) (hw _ w_f_X3_15) (fun _ h9 => h9) rfl hin rfl (tyX3_ok 5 (by decide)) rfl rfl (Nat.le_of_ble_eq_true rfl) dX3_init_18 (fun H locs hP hD hS => ?_)
  have hP : va_P (dC, dI) cls [(h_mx, .inr (2, [.null, .null, .null, .ref q1, .int 0, .ref q3, .int 0, .null, .null, .null, .int 0, .int 0]))] H := hP
  have hD : va_D A [(h_mx, .inr (2, [.null, .null, .null, .ref q1, .int 0, .ref q3, .int 0, .null, .null, .null, .int 0, .int 0]))] := hD
  refine lv_aload_n hx hb dX3_init_21 rfl (lv_at hl 0 rfl) ?_
  refine lv_bipush (v := 30) hx hb dX3_init_22 (by decide) ?_
  refine va_newa (atype := .int) (n := 30) (N' := 30) (a0 := (30, .inl (fun _ => 0))) hx hb (hw _ w_arr_int) rfl hK hP hD hS hA (fun _ => rfl) (by decide) (by decide) (by decide) (Nat.le_of_ble_eq_true rfl) (Nat.le_of_ble_eq_true rfl) dX3_init_24 (fun q5 y6 H hK1 hP hD hS => ?_)
  have hP : va_P (dC, dI) cls [(h_mx, .inr (2, [.null, .null, .null, .ref q1, .int 0, .ref q3, .int 0, .null, .null, .null, .int 0, .int 0]))] H := hP.sub [0] rfl
  have hD : va_D A [(h_mx, .inr (2, [.null, .null, .null, .ref q1, .int 0, .ref q3, .int 0, .null, .null, .null, .int 0, .int 0]))] := hD.sub [0] (by decide) rfl
  refine va_putF (D := (dC, dI)) (ci := 2) (v := .ref q5) (ty := tyX3 7) (C := RX3) (T := TX3) (N := 12) hx hb hw iwX3 tyX3 tyX3_ok nmX3 hown hK hP hD hS 0 rfl rfl 7 (by decide) (hw _ w_f_X3_18) (fun _ h9 => h9) rfl hin rfl (tyX3_ok 7 (by decide)) rfl rfl (Nat.le_of_ble_eq_true rfl) dX3_init_26 (fun H locs hP hD hS => ?_)
  have hP : va_P (dC, dI) cls [(h_mx, .inr (2, [.null, .null, .null, .ref q1, .int 0, .ref q3, .int 0, .ref q5, .null, .null, .int 0, .int 0]))] H := hP
  have hD : va_D A [(h_mx, .inr (2, [.null, .null, .null, .ref q1, .int 0, .ref q3, .int 0, .ref q5, .null, .null, .int 0, .int 0]))] := hD
  refine lv_aload_n hx hb dX3_init_29 rfl (lv_at hl 0 rfl) ?_
  refine lv_sipush (v := 180) hx hb dX3_init_30 (by decide) ?_
  refine va_newa (atype := .int) (n := 180) (N' := 180) (a0 := (180, .inl (fun _ => 0))) hx hb (hw _ w_arr_int) rfl hK hP hD hS hA (fun _ => rfl) (by decide) (by decide) (by decide) (Nat.le_of_ble_eq_true rfl) (Nat.le_of_ble_eq_true rfl) dX3_init_33 (fun q7 y8 H hK1 hP hD hS => ?_)
  have hP : va_P (dC, dI) cls [(h_mx, .inr (2, [.null, .null, .null, .ref q1, .int 0, .ref q3, .int 0, .ref q5, .null, .null, .int 0, .int 0]))] H := hP.sub [0] rfl
  have hD : va_D A [(h_mx, .inr (2, [.null, .null, .null, .ref q1, .int 0, .ref q3, .int 0, .ref q5, .null, .null, .int 0, .int 0]))] := hD.sub [0] (by decide) rfl
  refine va_putF (D := (dC, dI)) (ci := 2) (v := .ref q7) (ty := tyX3 8) (C := RX3) (T := TX3) (N := 12) hx hb hw iwX3 tyX3 tyX3_ok nmX3 hown hK hP hD hS 0 rfl rfl 8 (by decide) (hw _ w_f_X3_21) (fun _ h9 => h9) rfl hin rfl (tyX3_ok 8 (by decide)) rfl rfl (Nat.le_of_ble_eq_true rfl) dX3_init_35 (fun H locs hP hD hS => ?_)
  have hP : va_P (dC, dI) cls [(h_mx, .inr (2, [.null, .null, .null, .ref q1, .int 0, .ref q3, .int 0, .ref q5, .ref q7, .null, .int 0, .int 0]))] H := hP
  have hD : va_D A [(h_mx, .inr (2, [.null, .null, .null, .ref q1, .int 0, .ref q3, .int 0, .ref q5, .ref q7, .null, .int 0, .int 0]))] := hD
  refine lv_aload_n hx hb dX3_init_38 rfl (lv_at hl 0 rfl) ?_
  refine lv_sipush (v := 180) hx hb dX3_init_39 (by decide) ?_
  refine va_newa (atype := .int) (n := 180) (N' := 180) (a0 := (180, .inl (fun _ => 0))) hx hb (hw _ w_arr_int) rfl hK hP hD hS hA (fun _ => rfl) (by decide) (by decide) (by decide) (Nat.le_of_ble_eq_true rfl) (Nat.le_of_ble_eq_true rfl) dX3_init_42 (fun q9 y10 H hK1 hP hD hS => ?_)
  have hP : va_P (dC, dI) cls [(h_mx, .inr (2, [.null, .null, .null, .ref q1, .int 0, .ref q3, .int 0, .ref q5, .ref q7, .null, .int 0, .int 0]))] H := hP.sub [0] rfl
  have hD : va_D A [(h_mx, .inr (2, [.null, .null, .null, .ref q1, .int 0, .ref q3, .int 0, .ref q5, .ref q7, .null, .int 0, .int 0]))] := hD.sub [0] (by decide) rfl
  refine va_putF (D := (dC, dI)) (ci := 2) (v := .ref q9) (ty := tyX3 9) (C := RX3) (T := TX3) (N := 12) hx hb hw iwX3 tyX3 tyX3_ok nmX3 hown hK hP hD hS 0 rfl rfl 9 (by decide) (hw _ w_f_X3_24) (fun _ h9 => h9) rfl hin rfl (tyX3_ok 9 (by decide)) rfl rfl (Nat.le_of_ble_eq_true rfl) dX3_init_44 (fun H locs hP hD hS => ?_)
  have hP : va_P (dC, dI) cls [(h_mx, .inr (2, [.null, .null, .null, .ref q1, .int 0, .ref q3, .int 0, .ref q5, .ref q7, .ref q9, .int 0, .int 0]))] H := hP
  have hD : va_D A [(h_mx, .inr (2, [.null, .null, .null, .ref q1, .int 0, .ref q3, .int 0, .ref q5, .ref q7, .ref q9, .int 0, .int 0]))] := hD
  refine lv_aload_n hx hb dX3_init_47 rfl (lv_at hl 0 rfl) ?_
  refine lv_bipush (v := (-2)) hx hb dX3_init_48 (by decide) ?_
  refine va_put (D := (dC, dI)) (ci := 2) (v := .int (-2)) (ty := tyX3 10) (C := RX3) (T := TX3) (N := 12) hx hb hw iwX3 tyX3 tyX3_ok nmX3 hown hK hP hD hS 0 rfl rfl 10 (by decide) (hw _ w_f_X3_27) (fun _ h9 => h9) rfl (tyX3_ok 10 (by decide)) rfl rfl (Nat.le_of_ble_eq_true rfl) dX3_init_50 (fun H locs hP hD hS => ?_)
  have hP : va_P (dC, dI) cls [(h_mx, .inr (2, [.null, .null, .null, .ref q1, .int 0, .ref q3, .int 0, .ref q5, .ref q7, .ref q9, .int (-2), .int 0]))] H := hP
  have hD : va_D A [(h_mx, .inr (2, [.null, .null, .null, .ref q1, .int 0, .ref q3, .int 0, .ref q5, .ref q7, .ref q9, .int (-2), .int 0]))] := hD
  refine lv_aload_n hx hb dX3_init_53 rfl (lv_at hl 0 rfl) ?_
  refine lv_aload_n hx hb dX3_init_54 rfl (lv_at hl 1 rfl) ?_
  refine va_putF (D := (dC, dI)) (ci := 2) (v := .ref p1) (ty := tyX3 0) (C := RX3) (T := TX3) (N := 12) hx hb hw iwX3 tyX3 tyX3_ok nmX3 hown hK hP hD hS 0 rfl rfl 0 (by decide) (hw _ w_f_X3_31) (fun _ h9 => h9) rfl hin rfl (tyX3_ok 0 (by decide)) rfl rfl (Nat.le_of_ble_eq_true rfl) dX3_init_55 (fun H locs hP hD hS => ?_)
  have hP : va_P (dC, dI) cls [(h_mx, .inr (2, [.ref p1, .null, .null, .ref q1, .int 0, .ref q3, .int 0, .ref q5, .ref q7, .ref q9, .int (-2), .int 0]))] H := hP
  have hD : va_D A [(h_mx, .inr (2, [.ref p1, .null, .null, .ref q1, .int 0, .ref q3, .int 0, .ref q5, .ref q7, .ref q9, .int (-2), .int 0]))] := hD
  refine lv_aload_n hx hb dX3_init_58 rfl (lv_at hl 0 rfl) ?_
  refine lv_aload_n hx hb dX3_init_59 rfl (lv_at hl 2 rfl) ?_
  refine va_putF (D := (dC, dI)) (ci := 2) (v := .ref p2) (ty := tyX3 1) (C := RX3) (T := TX3) (N := 12) hx hb hw iwX3 tyX3 tyX3_ok nmX3 hown hK hP hD hS 0 rfl rfl 1 (by decide) (hw _ w_f_X3_35) (fun _ h9 => h9) rfl hin rfl (tyX3_ok 1 (by decide)) rfl rfl (Nat.le_of_ble_eq_true rfl) dX3_init_60 (fun H locs hP hD hS => ?_)
  have hP : va_P (dC, dI) cls [(h_mx, .inr (2, [.ref p1, .ref p2, .null, .ref q1, .int 0, .ref q3, .int 0, .ref q5, .ref q7, .ref q9, .int (-2), .int 0]))] H := hP
  have hD : va_D A [(h_mx, .inr (2, [.ref p1, .ref p2, .null, .ref q1, .int 0, .ref q3, .int 0, .ref q5, .ref q7, .ref q9, .int (-2), .int 0]))] := hD
  refine lv_aload_n hx hb dX3_init_63 rfl (lv_at hl 0 rfl) ?_
  refine lv_aload_n hx hb dX3_init_64 rfl (lv_at hl 3 rfl) ?_
  refine va_putF (D := (dC, dI)) (ci := 2) (v := .ref p3) (ty := tyX3 2) (C := RX3) (T := TX3) (N := 12) hx hb hw iwX3 tyX3 tyX3_ok nmX3 hown hK hP hD hS 0 rfl rfl 2 (by decide) (hw _ w_f_X3_39) (fun _ h9 => h9) rfl hin rfl (tyX3_ok 2 (by decide)) rfl rfl (Nat.le_of_ble_eq_true rfl) dX3_init_65 (fun H locs hP hD hS => ?_)
  have hP : va_P (dC, dI) cls [(h_mx, .inr (2, [.ref p1, .ref p2, .ref p3, .ref q1, .int 0, .ref q3, .int 0, .ref q5, .ref q7, .ref q9, .int (-2), .int 0]))] H := hP
  have hD : va_D A [(h_mx, .inr (2, [.ref p1, .ref p2, .ref p3, .ref q1, .int 0, .ref q3, .int 0, .ref q5, .ref q7, .ref q9, .int (-2), .int 0]))] := hD
  refine W.widen (k := 5) (n := 600) (Nat.le_of_ble_eq_true rfl) (Nat.le_of_ble_eq_true rfl) ?_
  have hK9 := hK.sub (tys' := []) [] rfl
  exact W.vret hx hb hr (fun t ht hW => ⟨⟨(fun k => List.getD [.ref p1, .ref p2, .ref p3, .ref q1, .int 0, .ref q3, .int 0, .ref q5, .ref q7, .ref q9, .int (-2), .int 0] k .null), rfl, trivial, by rw [ht]; exact hP, va_K.moved hW.alike hK9, hD⟩, hS.F ht⟩) hS.2.2 dX3_init_68

set_option maxHeartbeats 4000000 in
set_option maxRecDepth 100000 in
theorem c_X0_init (l : Launch) (dC : Nat → ClassId) (dI : Nat → Nat → Nat) (sz : Nat) (h_an : Nat) : Met l yX0_init (Ws yX0_init cX0_init 1 none) ({ frames := 1, cells := 4, slots := 32, locals := 24 }) (PRE (dC, dI) cls [] [(h_an, .inr (0, [.null, .null, .null, .null, .int 0, .int 0]))] sz [.ref h_an]) (va_Qv (fun (_ : (Nat → Value)) => True) (fun (u : (Nat → Value)) (t : State) => va_P (dC, dI) cls [(h_an, .inr (0, [(u 0), (u 1), (u 2), (u 3), .int 0, .int 0]))] t.heap ∧ va_K (dC, dI) cls [] t ∧ va_D (va_A [(h_an, .inr (0, [.null, .null, .null, .null, .int 0, .int 0]))] sz) [(h_an, .inr (0, [(u 0), (u 1), (u 2), (u 3), .int 0, .int 0]))]) (va_A [(h_an, .inr (0, [.null, .null, .null, .null, .int 0, .int 0]))] sz)) 4 32 (va_A [(h_an, .inr (0, [.null, .null, .null, .null, .int 0, .int 0]))] sz) := by
  refine Met.ofW (cc := cX0_init) (maxL := 1) (ret := none) (by decide) rfl ?_
  intro p e s m args below meth c s₁ B hml hv
  obtain ⟨rfl, hsz, hP, hK, hD0, hN⟩ := hv
  have hx := B.exec
  have hb := B.bytes
  have hr := B.returns
  have hts := atoms_spec (ws := Ws yX0_init cX0_init 1 none) B.pre
  have hT : ∀ w ∈ WALL, w ∈ Ws yX0_init cX0_init 1 none := fun w h => List.mem_cons_of_mem _ h
  have hw := fun w (h : w ∈ WALL) => hts w (hT w h)
  have hown : s.vm.findClass RX0 = some m.cls := findClass_of_methodNamed B.named
  have hlocks := B.notSynchronized
  have hin : meth.name = "<init>" := (name_of_methodNamed B.named B.method).1
  subst hsz
  have hD := hD0.self (sz := s.heap.size)
  generalize hAe : va_A [(h_an, .inr (0, [.null, .null, .null, .null, .int 0, .int 0]))] s.heap.size = A at hD ⊢
  have hA : ∀ q : Nat, s.heap.size ≤ q → A q := fun q h => by rw [← hAe]; exact Or.inr h
  have hS : va_S A s.heap s.heap [] := va_S.rf
  have hl := lv_entry ([.ref h_an]) (n := 1) (Nat.le_of_ble_eq_true rfl)
  rw [lg_entry_eq]
  generalize (lg_sl ([.ref h_an]) ++ List.replicate (1 - (lg_sl ([.ref h_an])).length) Slot.unset).toArray = ls at hl ⊢
  have hl : lv_has ls 1 [(0, .ref h_an)] := hl
  refine lv_aload_n hx hb dX0_init_0 rfl (lv_at hl 0 rfl) ?_
  refine W.objInit hx hb hown (hw _ w_m_X0_3) (hw _ w_instanceMethod_objInit) (hw _ w_code_objInit) rfl (by rw [hml]; exact hl.1) rfl dX0_init_1 (Nat.le_of_ble_eq_true rfl) (Nat.le_of_ble_eq_true rfl) ?_
  refine W.eq (g2 := F0 m 4 ls []) rfl ?_
  refine lv_aload_n hx hb dX0_init_4 rfl (lv_at hl 0 rfl) ?_
  refine lv_bipush (v := 8) hx hb dX0_init_5 (by decide) ?_
  refine va_newa (atype := .int) (n := 8) (N' := 8) (a0 := (8, .inl (fun _ => 0))) hx hb (hw _ w_arr_int) rfl hK hP hD hS hA (fun _ => rfl) (by decide) (by decide) (by decide) (Nat.le_of_ble_eq_true rfl) (Nat.le_of_ble_eq_true rfl) dX0_init_7 (fun q1 y2 H hK1 hP hD hS => ?_)
  have hP : va_P (dC, dI) cls [(h_an, .inr (0, [.null, .null, .null, .null, .int 0, .int 0]))] H := hP.sub [0] rfl
  have hD : va_D A [(h_an, .inr (0, [.null, .null, .null, .null, .int 0, .int 0]))] := hD.sub [0] (by decide) rfl
  refine va_putF (D := (dC, dI)) (ci := 0) (v := .ref q1) (ty := tyX0 0) (C := RX0) (T := TX0) (N := 6) hx hb hw iwX0 tyX0 tyX0_ok nmX0 hown hK hP hD hS 0 rfl rfl 0 (by decide) (hw _ w_f_X0_9) (fun _ h9 => h9) rfl hin rfl (tyX0_ok 0 (by decide)) rfl rfl (Nat.le_of_ble_eq_true rfl) dX0_init_9 (fun H locs hP hD hS => ?_)
  have hP : va_P (dC, dI) cls [(h_an, .inr (0, [.ref q1, .null, .null, .null, .int 0, .int 0]))] H := hP
  have hD : va_D A [(h_an, .inr (0, [.ref q1, .null, .null, .null, .int 0, .int 0]))] := hD
  refine lv_aload_n hx hb dX0_init_12 rfl (lv_at hl 0 rfl) ?_
  refine lv_bipush (v := 8) hx hb dX0_init_13 (by decide) ?_
  refine va_newa (atype := .int) (n := 8) (N' := 8) (a0 := (8, .inl (fun _ => 0))) hx hb (hw _ w_arr_int) rfl hK hP hD hS hA (fun _ => rfl) (by decide) (by decide) (by decide) (Nat.le_of_ble_eq_true rfl) (Nat.le_of_ble_eq_true rfl) dX0_init_15 (fun q3 y4 H hK1 hP hD hS => ?_)
  have hP : va_P (dC, dI) cls [(h_an, .inr (0, [.ref q1, .null, .null, .null, .int 0, .int 0]))] H := hP.sub [0] rfl
  have hD : va_D A [(h_an, .inr (0, [.ref q1, .null, .null, .null, .int 0, .int 0]))] := hD.sub [0] (by decide) rfl
  refine va_putF (D := (dC, dI)) (ci := 0) (v := .ref q3) (ty := tyX0 1) (C := RX0) (T := TX0) (N := 6) hx hb hw iwX0 tyX0 tyX0_ok nmX0 hown hK hP hD hS 0 rfl rfl 1 (by decide) (hw _ w_f_X0_15) (fun _ h9 => h9) rfl hin rfl (tyX0_ok 1 (by decide)) rfl rfl (Nat.le_of_ble_eq_true rfl) dX0_init_17 (fun H locs hP hD hS => ?_)
  have hP : va_P (dC, dI) cls [(h_an, .inr (0, [.ref q1, .ref q3, .null, .null, .int 0, .int 0]))] H := hP
  have hD : va_D A [(h_an, .inr (0, [.ref q1, .ref q3, .null, .null, .int 0, .int 0]))] := hD
  refine lv_aload_n hx hb dX0_init_20 rfl (lv_at hl 0 rfl) ?_
  refine lv_bipush (v := 8) hx hb dX0_init_21 (by decide) ?_
  refine va_newa (atype := .int) (n := 8) (N' := 8) (a0 := (8, .inl (fun _ => 0))) hx hb (hw _ w_arr_int) rfl hK hP hD hS hA (fun _ => rfl) (by decide) (by decide) (by decide) (Nat.le_of_ble_eq_true rfl) (Nat.le_of_ble_eq_true rfl) dX0_init_23 (fun q5 y6 H hK1 hP hD hS => ?_)
  have hP : va_P (dC, dI) cls [(h_an, .inr (0, [.ref q1, .ref q3, .null, .null, .int 0, .int 0]))] H := hP.sub [0] rfl
  have hD : va_D A [(h_an, .inr (0, [.ref q1, .ref q3, .null, .null, .int 0, .int 0]))] := hD.sub [0] (by decide) rfl
  refine va_putF (D := (dC, dI)) (ci := 0) (v := .ref q5) (ty := tyX0 2) (C := RX0) (T := TX0) (N := 6) hx hb hw iwX0 tyX0 tyX0_ok nmX0 hown hK hP hD hS 0 rfl rfl 2 (by decide) (hw _ w_f_X0_18) (fun _ h9 => h9) rfl hin rfl (tyX0_ok 2 (by decide)) rfl rfl (Nat.le_of_ble_eq_true rfl) dX0_init_25 (fun H locs hP hD hS => ?_)
  have hP : va_P (dC, dI) cls [(h_an, .inr (0, [.ref q1, .ref q3, .ref q5, .null, .int 0, .int 0]))] H := hP
  have hD : va_D A [(h_an, .inr (0, [.ref q1, .ref q3, .ref q5, .null, .int 0, .int 0]))] := hD
  refine lv_aload_n hx hb dX0_init_28 rfl (lv_at hl 0 rfl) ?_
  refine lv_bipush (v := 8) hx hb dX0_init_29 (by decide) ?_
  refine va_newa (atype := .int) (n := 8) (N' := 8) (a0 := (8, .inl (fun _ => 0))) hx hb (hw _ w_arr_int) rfl hK hP hD hS hA (fun _ => rfl) (by decide) (by decide) (by decide) (Nat.le_of_ble_eq_true rfl) (Nat.le_of_ble_eq_true rfl) dX0_init_31 (fun q7 y8 H hK1 hP hD hS => ?_)
  have hP : va_P (dC, dI) cls [(h_an, .inr (0, [.ref q1, .ref q3, .ref q5, .null, .int 0, .int 0]))] H := hP.sub [0] rfl
  have hD : va_D A [(h_an, .inr (0, [.ref q1, .ref q3, .ref q5, .null, .int 0, .int 0]))] := hD.sub [0] (by decide) rfl
  refine va_putF (D := (dC, dI)) (ci := 0) (v := .ref q7) (ty := tyX0 3) (C := RX0) (T := TX0) (N := 6) hx hb hw iwX0 tyX0 tyX0_ok nmX0 hown hK hP hD hS 0 rfl rfl 3 (by decide) (hw _ w_f_X0_21) (fun _ h9 => h9) rfl hin rfl (tyX0_ok 3 (by decide)) rfl rfl (Nat.le_of_ble_eq_true rfl) dX0_init_33 (fun H locs hP hD hS => ?_)
  have hP : va_P (dC, dI) cls [(h_an, .inr (0, [.ref q1, .ref q3, .ref q5, .ref q7, .int 0, .int 0]))] H := hP
  have hD : va_D A [(h_an, .inr (0, [.ref q1, .ref q3, .ref q5, .ref q7, .int 0, .int 0]))] := hD
  refine W.widen (k := 4) (n := 32) (Nat.le_of_ble_eq_true rfl) (Nat.le_of_ble_eq_true rfl) ?_
  have hK9 := hK.sub (tys' := []) [] rfl
  exact W.vret hx hb hr (fun t ht hW => ⟨⟨(fun k => List.getD [.ref q1, .ref q3, .ref q5, .ref q7, .int 0, .int 0] k .null), rfl, trivial, by rw [ht]; exact hP, va_K.moved hW.alike hK9, hD⟩, hS.F ht⟩) hS.2.2 dX0_init_36

set_option maxHeartbeats 4000000 in
set_option maxRecDepth 100000 in
theorem c_X10_init (l : Launch) (dC : Nat → ClassId) (dI : Nat → Nat → Nat) (sz : Nat) (h_xx : Nat) : Met l yX10_init (Ws yX10_init cX10_init 1 none) ({ frames := 2, cells := 50, slots := 26797, locals := 47 }) (PRE (dC, dI) cls [] [(h_xx, .inr (7, [.null, .null, .null, .null, .null, .null, .null, .null]))] sz [.ref h_xx]) (va_Qv (fun (_ : (Nat) × (Nat) × (Nat) × (Nat) × (Nat) × (Nat) × (Nat) × (Nat) × (Nat) × (Nat → Value) × (ClassId) × (Nat → Value) × (Nat → Value) × (Nat → Value) × (Nat → Value) × (Nat → Value) × (Nat → Value) × (Nat → Value)) => True) (fun (u : (Nat) × (Nat) × (Nat) × (Nat) × (Nat) × (Nat) × (Nat) × (Nat) × (Nat) × (Nat → Value) × (ClassId) × (Nat → Value) × (Nat → Value) × (Nat → Value) × (Nat → Value) × (Nat → Value) × (Nat → Value) × (Nat → Value)) (t : State) => va_P (dC, dI) cls [(h_xx, .inr (7, [.ref u.1, .ref u.2.1, .ref u.2.2.1, .ref u.2.2.2.1, .ref u.2.2.2.2.1, .ref u.2.2.2.2.2.1, .ref u.2.2.2.2.2.2.1, .ref u.2.2.2.2.2.2.2.1])), (u.1, .inr (4, [.ref u.2.2.2.2.2.2.2.2.1, .int 0, .int 0, .int (-1), .null, (u.2.2.2.2.2.2.2.2.2.1 5), .int 0, .int 0, .int 0, .int 0, .long 0])), (u.2.2.2.2.2.2.2.2.1, .inl (u.2.2.2.2.2.2.2.2.2.2.1, 600, .inl (fun _ => 0))), (u.2.1, .inr (5, [(u.2.2.2.2.2.2.2.2.2.2.2.1 0), (u.2.2.2.2.2.2.2.2.2.2.2.1 1), (u.2.2.2.2.2.2.2.2.2.2.2.1 2), (u.2.2.2.2.2.2.2.2.2.2.2.1 3), .int 0, (u.2.2.2.2.2.2.2.2.2.2.2.1 5), (u.2.2.2.2.2.2.2.2.2.2.2.1 6), (u.2.2.2.2.2.2.2.2.2.2.2.1 7), (u.2.2.2.2.2.2.2.2.2.2.2.1 8), .int 0])), (u.2.2.1, .inr (5, [(u.2.2.2.2.2.2.2.2.2.2.2.2.1 0), (u.2.2.2.2.2.2.2.2.2.2.2.2.1 1), (u.2.2.2.2.2.2.2.2.2.2.2.2.1 2), (u.2.2.2.2.2.2.2.2.2.2.2.2.1 3), .int 0, (u.2.2.2.2.2.2.2.2.2.2.2.2.1 5), (u.2.2.2.2.2.2.2.2.2.2.2.2.1 6), (u.2.2.2.2.2.2.2.2.2.2.2.2.1 7), (u.2.2.2.2.2.2.2.2.2.2.2.2.1 8), .int 0])), (u.2.2.2.1, .inr (1, [.ref u.2.1, (u.2.2.2.2.2.2.2.2.2.2.2.2.2.1 1), (u.2.2.2.2.2.2.2.2.2.2.2.2.2.1 2), .int 0, (u.2.2.2.2.2.2.2.2.2.2.2.2.2.1 4), (u.2.2.2.2.2.2.2.2.2.2.2.2.2.1 5), .int 0, (u.2.2.2.2.2.2.2.2.2.2.2.2.2.1 7), (u.2.2.2.2.2.2.2.2.2.2.2.2.2.1 8), .int 0, (u.2.2.2.2.2.2.2.2.2.2.2.2.2.1 10), (u.2.2.2.2.2.2.2.2.2.2.2.2.2.1 11), .int 0])), (u.2.2.2.2.1, .inr (6, [.ref u.2.1, .ref u.2.2.2.1, (u.2.2.2.2.2.2.2.2.2.2.2.2.2.2.1 2), .int 0, (u.2.2.2.2.2.2.2.2.2.2.2.2.2.2.1 4), .int 0, (u.2.2.2.2.2.2.2.2.2.2.2.2.2.2.1 6), .int 0])), (u.2.2.2.2.2.1, .inr (3, [.ref u.2.1, .ref u.2.2.2.1, (u.2.2.2.2.2.2.2.2.2.2.2.2.2.2.2.1 2), .int 0, (u.2.2.2.2.2.2.2.2.2.2.2.2.2.2.2.1 4), .int 0, (u.2.2.2.2.2.2.2.2.2.2.2.2.2.2.2.1 6), .int 0, (u.2.2.2.2.2.2.2.2.2.2.2.2.2.2.2.1 8), .int 0, .int 0, .int 0, .int 0, .int 0, .int 0, .int 0, .int 0, .int 0])), (u.2.2.2.2.2.2.1, .inr (2, [.ref u.2.1, .ref u.2.2.2.1, .ref u.2.2.2.2.2.1, (u.2.2.2.2.2.2.2.2.2.2.2.2.2.2.2.2.1 3), .int 0, (u.2.2.2.2.2.2.2.2.2.2.2.2.2.2.2.2.1 5), .int 0, (u.2.2.2.2.2.2.2.2.2.2.2.2.2.2.2.2.1 7), (u.2.2.2.2.2.2.2.2.2.2.2.2.2.2.2.2.1 8), (u.2.2.2.2.2.2.2.2.2.2.2.2.2.2.2.2.1 9), .int (-2), .int 0])), (u.2.2.2.2.2.2.2.1, .inr (0, [(u.2.2.2.2.2.2.2.2.2.2.2.2.2.2.2.2.2 0), (u.2.2.2.2.2.2.2.2.2.2.2.2.2.2.2.2.2 1), (u.2.2.2.2.2.2.2.2.2.2.2.2.2.2.2.2.2 2), (u.2.2.2.2.2.2.2.2.2.2.2.2.2.2.2.2.2 3), .int 0, .int 0]))] t.heap ∧ va_K (dC, dI) cls [(u.2.2.2.2.2.2.2.2.2.2.1, .int)] t ∧ va_D (va_A [(h_xx, .inr (7, [.null, .null, .null, .null, .null, .null, .null, .null]))] sz) [(h_xx, .inr (7, [.ref u.1, .ref u.2.1, .ref u.2.2.1, .ref u.2.2.2.1, .ref u.2.2.2.2.1, .ref u.2.2.2.2.2.1, .ref u.2.2.2.2.2.2.1, .ref u.2.2.2.2.2.2.2.1])), (u.1, .inr (4, [.ref u.2.2.2.2.2.2.2.2.1, .int 0, .int 0, .int (-1), .null, (u.2.2.2.2.2.2.2.2.2.1 5), .int 0, .int 0, .int 0, .int 0, .long 0])), (u.2.2.2.2.2.2.2.2.1, .inl (u.2.2.2.2.2.2.2.2.2.2.1, 600, .inl (fun _ => 0))), (u.2.1, .inr (5, [(u.2.2.2.2.2.2.2.2.2.2.2.1 0), (u.2.2.2.2.2.2.2.2.2.2.2.1 1), (u.2.2.2.2.2.2.2.2.2.2.2.1 2), (u.2.2.2.2.2.2.2.2.2.2.2.1 3), .int 0, (u.2.2.2.2.2.2.2.2.2.2.2.1 5), (u.2.2.2.2.2.2.2.2.2.2.2.1 6), (u.2.2.2.2.2.2.2.2.2.2.2.1 7), (u.2.2.2.2.2.2.2.2.2.2.2.1 8), .int 0])), (u.2.2.1, .inr (5, [(u.2.2.2.2.2.2.2.2.2.2.2.2.1 0), (u.2.2.2.2.2.2.2.2.2.2.2.2.1 1), (u.2.2.2.2.2.2.2.2.2.2.2.2.1 2), (u.2.2.2.2.2.2.2.2.2.2.2.2.1 3), .int 0, (u.2.2.2.2.2.2.2.2.2.2.2.2.1 5), (u.2.2.2.2.2.2.2.2.2.2.2.2.1 6), (u.2.2.2.2.2.2.2.2.2.2.2.2.1 7), (u.2.2.2.2.2.2.2.2.2.2.2.2.1 8), .int 0])), (u.2.2.2.1, .inr (1, [.ref u.2.1, (u.2.2.2.2.2.2.2.2.2.2.2.2.2.1 1), (u.2.2.2.2.2.2.2.2.2.2.2.2.2.1 2), .int 0, (u.2.2.2.2.2.2.2.2.2.2.2.2.2.1 4), (u.2.2.2.2.2.2.2.2.2.2.2.2.2.1 5), .int 0, (u.2.2.2.2.2.2.2.2.2.2.2.2.2.1 7), (u.2.2.2.2.2.2.2.2.2.2.2.2.2.1 8), .int 0, (u.2.2.2.2.2.2.2.2.2.2.2.2.2.1 10), (u.2.2.2.2.2.2.2.2.2.2.2.2.2.1 11), .int 0])), (u.2.2.2.2.1, .inr (6, [.ref u.2.1, .ref u.2.2.2.1, (u.2.2.2.2.2.2.2.2.2.2.2.2.2.2.1 2), .int 0, (u.2.2.2.2.2.2.2.2.2.2.2.2.2.2.1 4), .int 0, (u.2.2.2.2.2.2.2.2.2.2.2.2.2.2.1 6), .int 0])), (u.2.2.2.2.2.1, .inr (3, [.ref u.2.1, .ref u.2.2.2.1, (u.2.2.2.2.2.2.2.2.2.2.2.2.2.2.2.1 2), .int 0, (u.2.2.2.2.2.2.2.2.2.2.2.2.2.2.2.1 4), .int 0, (u.2.2.2.2.2.2.2.2.2.2.2.2.2.2.2.1 6), .int 0, (u.2.2.2.2.2.2.2.2.2.2.2.2.2.2.2.1 8), .int 0, .int 0, .int 0, .int 0, .int 0, .int 0, .int 0, .int 0, .int 0])), (u.2.2.2.2.2.2.1, .inr (2, [.ref u.2.1, .ref u.2.2.2.1, .ref u.2.2.2.2.2.1, (u.2.2.2.2.2.2.2.2.2.2.2.2.2.2.2.2.1 3), .int 0, (u.2.2.2.2.2.2.2.2.2.2.2.2.2.2.2.2.1 5), .int 0, (u.2.2.2.2.2.2.2.2.2.2.2.2.2.2.2.2.1 7), (u.2.2.2.2.2.2.2.2.2.2.2.2.2.2.2.2.1 8), (u.2.2.2.2.2.2.2.2.2.2.2.2.2.2.2.2.1 9), .int (-2), .int 0])), (u.2.2.2.2.2.2.2.1, .inr (0, [(u.2.2.2.2.2.2.2.2.2.2.2.2.2.2.2.2.2 0), (u.2.2.2.2.2.2.2.2.2.2.2.2.2.2.2.2.2 1), (u.2.2.2.2.2.2.2.2.2.2.2.2.2.2.2.2.2 2), (u.2.2.2.2.2.2.2.2.2.2.2.2.2.2.2.2.2 3), .int 0, .int 0]))]) (va_A [(h_xx, .inr (7, [.null, .null, .null, .null, .null, .null, .null, .null]))] sz)) 50 26797 (va_A [(h_xx, .inr (7, [.null, .null, .null, .null, .null, .null, .null, .null]))] sz) := by
  refine Met.ofW (cc := cX10_init) (maxL := 1) (ret := none) (by decide) rfl ?_
  intro p e s m args below meth c s₁ B hml hv
  obtain ⟨rfl, hsz, hP, hK, hD0, hN⟩ := hv
  have hx := B.exec
  have hb := B.bytes
  have hr := B.returns
  have hts := atoms_spec (ws := Ws yX10_init cX10_init 1 none) B.pre
  have hT : ∀ w ∈ WALL, w ∈ Ws yX10_init cX10_init 1 none := fun w h => List.mem_cons_of_mem _ h
  have hw := fun w (h : w ∈ WALL) => hts w (hT w h)
  have hown : s.vm.findClass RX10 = some m.cls := findClass_of_methodNamed B.named
  have hlocks := B.notSynchronized
  have hin : meth.name = "<init>" := (name_of_methodNamed B.named B.method).1
  subst hsz
  have hD := hD0.self (sz := s.heap.size)
  generalize hAe : va_A [(h_xx, .inr (7, [.null, .null, .null, .null, .null, .null, .null, .null]))] s.heap.size = A at hD ⊢
  have hA : ∀ q : Nat, s.heap.size ≤ q → A q := fun q h => by rw [← hAe]; exact Or.inr h
  have hS : va_S A s.heap s.heap [] := va_S.rf
  have hl := lv_entry ([.ref h_xx]) (n := 1) (Nat.le_of_ble_eq_true rfl)
  rw [lg_entry_eq]
  generalize (lg_sl ([.ref h_xx]) ++ List.replicate (1 - (lg_sl ([.ref h_xx])).length) Slot.unset).toArray = ls at hl ⊢
  have hl : lv_has ls 1 [(0, .ref h_xx)] := hl
  refine lv_aload_n hx hb dX10_init_0 rfl (lv_at hl 0 rfl) ?_
  refine W.objInit hx hb hown (hw _ w_m_X10_3) (hw _ w_instanceMethod_objInit) (hw _ w_code_objInit) rfl (by rw [hml]; exact hl.1) rfl dX10_init_1 (Nat.le_of_ble_eq_true rfl) (Nat.le_of_ble_eq_true rfl) ?_
  refine W.eq (g2 := F0 m 4 ls []) rfl ?_
  refine lv_aload_n hx hb dX10_init_4 rfl (lv_at hl 0 rfl) ?_
  refine va_new (ci := 4) (fs := [.null, .int 0, .int 0, .int 0, .null, .null, .int 0, .int 0, .int 0, .int 0, .long 0]) (C := RX5) (T := TX5) (N := 11) hx hb hw iwX5 tyX5 tyX5_ok hown (hw _ w_c_X10_9) (hw _ w_in_X5) (hw _ w_ini_X5) hK hP hD hS hA rfl (dfX5) (Nat.le_of_ble_eq_true rfl) (Nat.le_of_ble_eq_true rfl) dX10_init_5 (fun q1 H hP hD hS => ?_)
  have hP : va_P (dC, dI) cls [(h_xx, .inr (7, [.null, .null, .null, .null, .null, .null, .null, .null])), (q1, .inr (4, [.null, .int 0, .int 0, .int 0, .null, .null, .int 0, .int 0, .int 0, .int 0, .long 0]))] H := hP
  have hD : va_D A [(h_xx, .inr (7, [.null, .null, .null, .null, .null, .null, .null, .null])), (q1, .inr (4, [.null, .int 0, .int 0, .int 0, .null, .null, .int 0, .int 0, .int 0, .int 0, .long 0]))] := hD
  refine lv_dup hx hb dX10_init_8 rfl ?_
  have hPc := hP.sub (ws' := [(q1, .inr (4, [.null, .int 0, .int 0, .int 0, .null, .null, .int 0, .int 0, .int 0, .int 0, .long 0]))]) [1] rfl
  have hDc := hD.sub (ws' := [(q1, .inr (4, [.null, .int 0, .int 0, .int 0, .null, .null, .int 0, .int 0, .int 0, .int 0, .long 0]))]) [1] (by decide) rfl
  have hKc := hK.sub (tys' := []) [] rfl
  have hFc := va_free (wc := [(q1, .inr (4, [.null, .int 0, .int 0, .int 0, .null, .null, .int 0, .int 0, .int 0, .int 0, .long 0]))]) hD hS hA [1] rfl
  refine va_callv (va_runIN (As := []) (rest := [.ref q1, .ref h_xx]) ⟨hx, hb, hml, hown, hts⟩ (c_X5_init l dC dI H.size q1) ⟨va_cnB (host := "OppositePairs") 0 hts (gd hT w_code_X5_init) rfl rfl rfl (hN _ n_m_X10_11) (hw _ w_ini_X5) (by decide +kernel) ⟨(Nat.le_of_ble_eq_true rfl), (Nat.le_of_ble_eq_true rfl)⟩, rfl, hw _ w_instanceMethod_X5_init⟩ ⟨pre_blind, pre_of hPc hKc hDc hN⟩ rfl rfl hl.1 rfl (lv_room (Nat.le_of_ble_eq_true rfl)) dX10_init_9 ⟨(Nat.le_of_ble_eq_true rfl), (Nat.le_of_ble_eq_true rfl)⟩) hS (fun q _ h => hFc q h) hFc (fun u t H locs ht hvm hq hB hz1 hk1 hS => ?_)
  obtain ⟨v3, q4, y5⟩ := u
  obtain ⟨hP1, hK1, hD1⟩ := hB
  rw [ht] at hP1
  have hK1 := va_K.moved hvm.symm hK1
  obtain ⟨hP, hD⟩ := va_join (wr := [(h_xx, .inr (7, [.null, .null, .null, .null, .null, .null, .null, .null]))]) (w1 := [(q1, .inr (4, [.ref q4, .int 0, .int 0, .int (-1), .null, (v3 5), .int 0, .int 0, .int 0, .int 0, .long 0])), (q4, .inl (y5, 600, .inl (fun _ => 0)))]) hP hD [1] [0] rfl rfl (by decide) (by decide) hk1 hFc hP1 hD1
  have hK := hK.app hK1
  have hK : va_K (dC, dI) cls [(y5, .int)] s := hK
  have hP : va_P (dC, dI) cls [(h_xx, .inr (7, [.null, .null, .null, .null, .null, .null, .null, .null])), (q1, .inr (4, [.ref q4, .int 0, .int 0, .int (-1), .null, (v3 5), .int 0, .int 0, .int 0, .int 0, .long 0])), (q4, .inl (y5, 600, .inl (fun _ => 0)))] H := hP
  have hD : va_D A [(h_xx, .inr (7, [.null, .null, .null, .null, .null, .null, .null, .null])), (q1, .inr (4, [.ref q4, .int 0, .int 0, .int (-1), .null, (v3 5), .int 0, .int 0, .int 0, .int 0, .long 0])), (q4, .inl (y5, 600, .inl (fun _ => 0)))] := hD
  refine va_putF (D := (dC, dI)) (ci := 7) (v := .ref q1) (ty := tyX10 0) (C := RX10) (T := TX10) (N := 8) hx hb hw iwX10 tyX10 tyX10_ok nmX10 hown hK hP hD hS 0 rfl rfl 0 (by decide) (hw _ w_f_X10_12) (fun _ h9 => h9) rfl hin rfl (tyX10_ok 0 (by decide)) rfl rfl (Nat.le_of_ble_eq_true rfl) dX10_init_12 (fun H locs hP hD hS => ?_)
  have hP : va_P (dC, dI) cls [(h_xx, .inr (7, [.ref q1, .null, .null, .null, .null, .null, .null, .null])), (q1, .inr (4, [.ref q4, .int 0, .int 0, .int (-1), .null, (v3 5), .int 0, .int 0, .int 0, .int 0, .long 0])), (q4, .inl (y5, 600, .inl (fun _ => 0)))] H := hP
  have hD : va_D A [(h_xx, .inr (7, [.ref q1, .null, .null, .null, .null, .null, .null, .null])), (q1, .inr (4, [.ref q4, .int 0, .int 0, .int (-1), .null, (v3 5), .int 0, .int 0, .int 0, .int 0, .long 0])), (q4, .inl (y5, 600, .inl (fun _ => 0)))] := hD
  refine lv_aload_n hx hb dX10_init_15 rfl (lv_at hl 0 rfl) ?_
  refine va_new (ci := 5) (fs := [.null, .null, .null, .null, .int 0, .null, .null, .null, .null, .int 0]) (C := RX8) (T := TX8) (N := 10) hx hb hw iwX8 tyX8 tyX8_ok hown (hw _ w_c_X10_16) (hw _ w_in_X8) (hw _ w_ini_X8) hK hP hD hS hA rfl (dfX8) (Nat.le_of_ble_eq_true rfl) (Nat.le_of_ble_eq_true rfl) dX10_init_16 (fun q6 H hP hD hS => ?_)
  have hP : va_P (dC, dI) cls [(h_xx, .inr (7, [.ref q1, .null, .null, .null, .null, .null, .null, .null])), (q1, .inr (4, [.ref q4, .int 0, .int 0, .int (-1), .null, (v3 5), .int 0, .int 0, .int 0, .int 0, .long 0])), (q4, .inl (y5, 600, .inl (fun _ => 0))), (q6, .inr (5, [.null, .null, .null, .null, .int 0, .null, .null, .null, .null, .int 0]))] H := hP
  have hD : va_D A [(h_xx, .inr (7, [.ref q1, .null, .null, .null, .null, .null, .null, .null])), (q1, .inr (4, [.ref q4, .int 0, .int 0, .int (-1), .null, (v3 5), .int 0, .int 0, .int 0, .int 0, .long 0])), (q4, .inl (y5, 600, .inl (fun _ => 0))), (q6, .inr (5, [.null, .null, .null, .null, .int 0, .null, .null, .null, .null, .int 0]))] := hD
  refine lv_dup hx hb dX10_init_19 rfl ?_
  have hPc := hP.sub (ws' := [(q6, .inr (5, [.null, .null, .null, .null, .int 0, .null, .null, .null, .null, .int 0]))]) [3] rfl
  have hDc := hD.sub (ws' := [(q6, .inr (5, [.null, .null, .null, .null, .int 0, .null, .null, .null, .null, .int 0]))]) [3] (by decide) rfl
  have hKc := hK.sub (tys' := []) [] rfl
  have hFc := va_free (wc := [(q6, .inr (5, [.null, .null, .null, .null, .int 0, .null, .null, .null, .null, .int 0]))]) hD hS hA [3] rfl
  refine va_callv (va_runIN (As := []) (rest := [.ref q6, .ref h_xx]) ⟨hx, hb, hml, hown, hts⟩ (c_X8_init l dC dI H.size q6) ⟨va_cnB (host := "OppositePairs") 0 hts (gd hT w_code_X8_init) rfl rfl rfl (hN _ n_m_X10_18) (hw _ w_ini_X8) (by decide +kernel) ⟨(Nat.le_of_ble_eq_true rfl), (Nat.le_of_ble_eq_true rfl)⟩, rfl, hw _ w_instanceMethod_X8_init⟩ ⟨pre_blind, pre_of hPc hKc hDc hN⟩ rfl rfl hl.1 rfl (lv_room (Nat.le_of_ble_eq_true rfl)) dX10_init_20 ⟨(Nat.le_of_ble_eq_true rfl), (Nat.le_of_ble_eq_true rfl)⟩) hS (fun q _ h => hFc q h) hFc (fun u t H locs ht hvm hq hB hz1 hk1 hS => ?_)
  obtain ⟨v8, rfl⟩ : ∃ z, z = u := ⟨_, rfl⟩
  obtain ⟨hP1, hK1, hD1⟩ := hB
  rw [ht] at hP1
  have hK1 := va_K.moved hvm.symm hK1
  obtain ⟨hP, hD⟩ := va_join (wr := [(h_xx, .inr (7, [.ref q1, .null, .null, .null, .null, .null, .null, .null])), (q1, .inr (4, [.ref q4, .int 0, .int 0, .int (-1), .null, (v3 5), .int 0, .int 0, .int 0, .int 0, .long 0])), (q4, .inl (y5, 600, .inl (fun _ => 0)))]) (w1 := [(q6, .inr (5, [(v8 0), (v8 1), (v8 2), (v8 3), .int 0, (v8 5), (v8 6), (v8 7), (v8 8), .int 0]))]) hP hD [3] [0, 1, 2] rfl rfl (by decide) (by decide) hk1 hFc hP1 hD1
  have hP : va_P (dC, dI) cls [(h_xx, .inr (7, [.ref q1, .null, .null, .null, .null, .null, .null, .null])), (q1, .inr (4, [.ref q4, .int 0, .int 0, .int (-1), .null, (v3 5), .int 0, .int 0, .int 0, .int 0, .long 0])), (q4, .inl (y5, 600, .inl (fun _ => 0))), (q6, .inr (5, [(v8 0), (v8 1), (v8 2), (v8 3), .int 0, (v8 5), (v8 6), (v8 7), (v8 8), .int 0]))] H := hP
  have hD : va_D A [(h_xx, .inr (7, [.ref q1, .null, .null, .null, .null, .null, .null, .null])), (q1, .inr (4, [.ref q4, .int 0, .int 0, .int (-1), .null, (v3 5), .int 0, .int 0, .int 0, .int 0, .long 0])), (q4, .inl (y5, 600, .inl (fun _ => 0))), (q6, .inr (5, [(v8 0), (v8 1), (v8 2), (v8 3), .int 0, (v8 5), (v8 6), (v8 7), (v8 8), .int 0]))] := hD
  refine va_putF (D := (dC, dI)) (ci := 7) (v := .ref q6) (ty := tyX10 1) (C := RX10) (T := TX10) (N := 8) hx hb hw iwX10 tyX10 tyX10_ok nmX10 hown hK hP hD hS 0 rfl rfl 1 (by decide) (hw _ w_f_X10_19) (fun _ h9 => h9) rfl hin rfl (tyX10_ok 1 (by decide)) rfl rfl (Nat.le_of_ble_eq_true rfl) dX10_init_23 (fun H locs hP hD hS => ?_)
  have hP : va_P (dC, dI) cls [(h_xx, .inr (7, [.ref q1, .ref q6, .null, .null, .null, .null, .null, .null])), (q1, .inr (4, [.ref q4, .int 0, .int 0, .int (-1), .null, (v3 5), .int 0, .int 0, .int 0, .int 0, .long 0])), (q4, .inl (y5, 600, .inl (fun _ => 0))), (q6, .inr (5, [(v8 0), (v8 1), (v8 2), (v8 3), .int 0, (v8 5), (v8 6), (v8 7), (v8 8), .int 0]))] H := hP
  have hD : va_D A [(h_xx, .inr (7, [.ref q1, .ref q6, .null, .null, .null, .null, .null, .null])), (q1, .inr (4, [.ref q4, .int 0, .int 0, .int (-1), .null, (v3 5), .int 0, .int 0, .int 0, .int 0, .long 0])), (q4, .inl (y5, 600, .inl (fun _ => 0))), (q6, .inr (5, [(v8 0), (v8 1), (v8 2), (v8 3), .int 0, (v8 5), (v8 6), (v8 7), (v8 8), .int 0]))] := hD
  refine lv_aload_n hx hb dX10_init_26 rfl (lv_at hl 0 rfl) ?_
  refine va_new (ci := 5) (fs := [.null, .null, .null, .null, .int 0, .null, .null, .null, .null, .int 0]) (C := RX8) (T := TX8) (N := 10) hx hb hw iwX8 tyX8 tyX8_ok hown (hw _ w_c_X10_16) (hw _ w_in_X8) (hw _ w_ini_X8) hK hP hD hS hA rfl (dfX8) (Nat.le_of_ble_eq_true rfl) (Nat.le_of_ble_eq_true rfl) dX10_init_27 (fun q9 H hP hD hS => ?_)
  have hP : va_P (dC, dI) cls [(h_xx, .inr (7, [.ref q1, .ref q6, .null, .null, .null, .null, .null, .null])), (q1, .inr (4, [.ref q4, .int 0, .int 0, .int (-1), .null, (v3 5), .int 0, .int 0, .int 0, .int 0, .long 0])), (q4, .inl (y5, 600, .inl (fun _ => 0))), (q6, .inr (5, [(v8 0), (v8 1), (v8 2), (v8 3), .int 0, (v8 5), (v8 6), (v8 7), (v8 8), .int 0])), (q9, .inr (5, [.null, .null, .null, .null, .int 0, .null, .null, .null, .null, .int 0]))] H := hP
  have hD : va_D A [(h_xx, .inr (7, [.ref q1, .ref q6, .null, .null, .null, .null, .null, .null])), (q1, .inr (4, [.ref q4, .int 0, .int 0, .int (-1), .null, (v3 5), .int 0, .int 0, .int 0, .int 0, .long 0])), (q4, .inl (y5, 600, .inl (fun _ => 0))), (q6, .inr (5, [(v8 0), (v8 1), (v8 2), (v8 3), .int 0, (v8 5), (v8 6), (v8 7), (v8 8), .int 0])), (q9, .inr (5, [.null, .null, .null, .null, .int 0, .null, .null, .null, .null, .int 0]))] := hD
  refine lv_dup hx hb dX10_init_30 rfl ?_
  have hPc := hP.sub (ws' := [(q9, .inr (5, [.null, .null, .null, .null, .int 0, .null, .null, .null, .null, .int 0]))]) [4] rfl
  have hDc := hD.sub (ws' := [(q9, .inr (5, [.null, .null, .null, .null, .int 0, .null, .null, .null, .null, .int 0]))]) [4] (by decide) rfl
  have hKc := hK.sub (tys' := []) [] rfl
  have hFc := va_free (wc := [(q9, .inr (5, [.null, .null, .null, .null, .int 0, .null, .null, .null, .null, .int 0]))]) hD hS hA [4] rfl
  refine va_callv (va_runIN (As := []) (rest := [.ref q9, .ref h_xx]) ⟨hx, hb, hml, hown, hts⟩ (c_X8_init l dC dI H.size q9) ⟨va_cnB (host := "OppositePairs") 0 hts (gd hT w_code_X8_init) rfl rfl rfl (hN _ n_m_X10_18) (hw _ w_ini_X8) (by decide +kernel) ⟨(Nat.le_of_ble_eq_true rfl), (Nat.le_of_ble_eq_true rfl)⟩, rfl, hw _ w_instanceMethod_X8_init⟩ ⟨pre_blind, pre_of hPc hKc hDc hN⟩ rfl rfl hl.1 rfl (lv_room (Nat.le_of_ble_eq_true rfl)) dX10_init_31 ⟨(Nat.le_of_ble_eq_true rfl), (Nat.le_of_ble_eq_true rfl)⟩) hS (fun q _ h => hFc q h) hFc (fun u t H locs ht hvm hq hB hz1 hk1 hS => ?_)
  obtain ⟨v11, rfl⟩ : ∃ z, z = u := ⟨_, rfl⟩
  obtain ⟨hP1, hK1, hD1⟩ := hB
  rw [ht] at hP1
  have hK1 := va_K.moved hvm.symm hK1
  obtain ⟨hP, hD⟩ := va_join (wr := [(h_xx, .inr (7, [.ref q1, .ref q6, .null, .null, .null, .null, .null, .null])), (q1, .inr (4, [.ref q4, .int 0, .int 0, .int (-1), .null, (v3 5), .int 0, .int 0, .int 0, .int 0, .long 0])), (q4, .inl (y5, 600, .inl (fun _ => 0))), (q6, .inr (5, [(v8 0), (v8 1), (v8 2), (v8 3), .int 0, (v8 5), (v8 6), (v8 7), (v8 8), .int 0]))]) (w1 := [(q9, .inr (5, [(v11 0), (v11 1), (v11 2), (v11 3), .int 0, (v11 5), (v11 6), (v11 7), (v11 8), .int 0]))]) hP hD [4] [0, 1, 2, 3] rfl rfl (by decide) (by decide) hk1 hFc hP1 hD1
  have hP : va_P (dC, dI) cls [(h_xx, .inr (7, [.ref q1, .ref q6, .null, .null, .null, .null, .null, .null])), (q1, .inr (4, [.ref q4, .int 0, .int 0, .int (-1), .null, (v3 5), .int 0, .int 0, .int 0, .int 0, .long 0])), (q4, .inl (y5, 600, .inl (fun _ => 0))), (q6, .inr (5, [(v8 0), (v8 1), (v8 2), (v8 3), .int 0, (v8 5), (v8 6), (v8 7), (v8 8), .int 0])), (q9, .inr (5, [(v11 0), (v11 1), (v11 2), (v11 3), .int 0, (v11 5), (v11 6), (v11 7), (v11 8), .int 0]))] H := hP
  have hD : va_D A [(h_xx, .inr (7, [.ref q1, .ref q6, .null, .null, .null, .null, .null, .null])), (q1, .inr (4, [.ref q4, .int 0, .int 0, .int (-1), .null, (v3 5), .int 0, .int 0, .int 0, .int 0, .long 0])), (q4, .inl (y5, 600, .inl (fun _ => 0))), (q6, .inr (5, [(v8 0), (v8 1), (v8 2), (v8 3), .int 0, (v8 5), (v8 6), (v8 7), (v8 8), .int 0])), (q9, .inr (5, [(v11 0), (v11 1), (v11 2), (v11 3), .int 0, (v11 5), (v11 6), (v11 7), (v11 8), .int 0]))] := hD
  refine va_putF (D := (dC, dI)) (ci := 7) (v := .ref q9) (ty := tyX10 2) (C := RX10) (T := TX10) (N := 8) hx hb hw iwX10 tyX10 tyX10_ok nmX10 hown hK hP hD hS 0 rfl rfl 2 (by decide) (hw _ w_f_X10_23) (fun _ h9 => h9) rfl hin rfl (tyX10_ok 2 (by decide)) rfl rfl (Nat.le_of_ble_eq_true rfl) dX10_init_34 (fun H locs hP hD hS => ?_)
  have hP : va_P (dC, dI) cls [(h_xx, .inr (7, [.ref q1, .ref q6, .ref q9, .null, .null, .null, .null, .null])), (q1, .inr (4, [.ref q4, .int 0, .int 0, .int (-1), .null, (v3 5), .int 0, .int 0, .int 0, .int 0, .long 0])), (q4, .inl (y5, 600, .inl (fun _ => 0))), (q6, .inr (5, [(v8 0), (v8 1), (v8 2), (v8 3), .int 0, (v8 5), (v8 6), (v8 7), (v8 8), .int 0])), (q9, .inr (5, [(v11 0), (v11 1), (v11 2), (v11 3), .int 0, (v11 5), (v11 6), (v11 7), (v11 8), .int 0]))] H := hP
  have hD : va_D A [(h_xx, .inr (7, [.ref q1, .ref q6, .ref q9, .null, .null, .null, .null, .null])), (q1, .inr (4, [.ref q4, .int 0, .int 0, .int (-1), .null, (v3 5), .int 0, .int 0, .int 0, .int 0, .long 0])), (q4, .inl (y5, 600, .inl (fun _ => 0))), (q6, .inr (5, [(v8 0), (v8 1), (v8 2), (v8 3), .int 0, (v8 5), (v8 6), (v8 7), (v8 8), .int 0])), (q9, .inr (5, [(v11 0), (v11 1), (v11 2), (v11 3), .int 0, (v11 5), (v11 6), (v11 7), (v11 8), .int 0]))] := hD
  refine lv_aload_n hx hb dX10_init_37 rfl (lv_at hl 0 rfl) ?_
  refine va_new (ci := 1) (fs := [.null, .null, .null, .int 0, .null, .null, .int 0, .null, .null, .int 0, .null, .null, .int 0]) (C := RX1) (T := TX1) (N := 13) hx hb hw iwX1 tyX1 tyX1_ok hown (hw _ w_c_X10_26) (hw _ w_in_X1) (hw _ w_ini_X1) hK hP hD hS hA rfl (dfX1) (Nat.le_of_ble_eq_true rfl) (Nat.le_of_ble_eq_true rfl) dX10_init_38 (fun q12 H hP hD hS => ?_)
  have hP : va_P (dC, dI) cls [(h_xx, .inr (7, [.ref q1, .ref q6, .ref q9, .null, .null, .null, .null, .null])), (q1, .inr (4, [.ref q4, .int 0, .int 0, .int (-1), .null, (v3 5), .int 0, .int 0, .int 0, .int 0, .long 0])), (q4, .inl (y5, 600, .inl (fun _ => 0))), (q6, .inr (5, [(v8 0), (v8 1), (v8 2), (v8 3), .int 0, (v8 5), (v8 6), (v8 7), (v8 8), .int 0])), (q9, .inr (5, [(v11 0), (v11 1), (v11 2), (v11 3), .int 0, (v11 5), (v11 6), (v11 7), (v11 8), .int 0])), (q12, .inr (1, [.null, .null, .null, .int 0, .null, .null, .int 0, .null, .null, .int 0, .null, .null, .int 0]))] H := hP
  have hD : va_D A [(h_xx, .inr (7, [.ref q1, .ref q6, .ref q9, .null, .null, .null, .null, .null])), (q1, .inr (4, [.ref q4, .int 0, .int 0, .int (-1), .null, (v3 5), .int 0, .int 0, .int 0, .int 0, .long 0])), (q4, .inl (y5, 600, .inl (fun _ => 0))), (q6, .inr (5, [(v8 0), (v8 1), (v8 2), (v8 3), .int 0, (v8 5), (v8 6), (v8 7), (v8 8), .int 0])), (q9, .inr (5, [(v11 0), (v11 1), (v11 2), (v11 3), .int 0, (v11 5), (v11 6), (v11 7), (v11 8), .int 0])), (q12, .inr (1, [.null, .null, .null, .int 0, .null, .null, .int 0, .null, .null, .int 0, .null, .null, .int 0]))] := hD
  refine lv_dup hx hb dX10_init_41 rfl ?_
  refine lv_aload_n hx hb dX10_init_42 rfl (lv_at hl 0 rfl) ?_
  refine va_get (D := (dC, dI)) (ci := 7) (v := .ref q6) (C := RX10) (T := TX10) (N := 8) hx hb hw iwX10 hown hK hP 0 rfl rfl 1 (by decide) (hw _ w_f_X10_19) (fun _ h9 => h9) rfl dX10_init_43 ?_
  have hPc := hP.sub (ws' := [(q12, .inr (1, [.null, .null, .null, .int 0, .null, .null, .int 0, .null, .null, .int 0, .null, .null, .int 0]))]) [5] rfl
  have hDc := hD.sub (ws' := [(q12, .inr (1, [.null, .null, .null, .int 0, .null, .null, .int 0, .null, .null, .int 0, .null, .null, .int 0]))]) [5] (by decide) rfl
  have hKc := hK.sub (tys' := []) [] rfl
  have hFc := va_free (wc := [(q12, .inr (1, [.null, .null, .null, .int 0, .null, .null, .int 0, .null, .null, .int 0, .null, .null, .int 0]))]) hD hS hA [5] rfl
  refine va_callv (va_runIN (As := [.ref q6]) (rest := [.ref q12, .ref h_xx]) ⟨hx, hb, hml, hown, hts⟩ (c_X1_init l dC dI H.size q12 q6) ⟨va_cnB (host := "OppositePairs") 1 hts (gd hT w_code_X1_init) rfl rfl rfl (hN _ n_m_X10_28) (hw _ w_ini_X1) (by decide +kernel) ⟨(Nat.le_of_ble_eq_true rfl), (Nat.le_of_ble_eq_true rfl)⟩, rfl, hw _ w_instanceMethod_X1_init⟩ ⟨pre_blind, pre_of hPc hKc hDc hN⟩ rfl rfl hl.1 rfl (lv_room (Nat.le_of_ble_eq_true rfl)) dX10_init_46 ⟨(Nat.le_of_ble_eq_true rfl), (Nat.le_of_ble_eq_true rfl)⟩) hS (fun q _ h => hFc q h) hFc (fun u t H locs ht hvm hq hB hz1 hk1 hS => ?_)
  obtain ⟨v14, rfl⟩ : ∃ z, z = u := ⟨_, rfl⟩
  obtain ⟨hP1, hK1, hD1⟩ := hB
  rw [ht] at hP1
  have hK1 := va_K.moved hvm.symm hK1
  obtain ⟨hP, hD⟩ := va_join (wr := [(h_xx, .inr (7, [.ref q1, .ref q6, .ref q9, .null, .null, .null, .null, .null])), (q1, .inr (4, [.ref q4, .int 0, .int 0, .int (-1), .null, (v3 5), .int 0, .int 0, .int 0, .int 0, .long 0])), (q4, .inl (y5, 600, .inl (fun _ => 0))), (q6, .inr (5, [(v8 0), (v8 1), (v8 2), (v8 3), .int 0, (v8 5), (v8 6), (v8 7), (v8 8), .int 0])), (q9, .inr (5, [(v11 0), (v11 1), (v11 2), (v11 3), .int 0, (v11 5), (v11 6), (v11 7), (v11 8), .int 0]))]) (w1 := [(q12, .inr (1, [.ref q6, (v14 1), (v14 2), .int 0, (v14 4), (v14 5), .int 0, (v14 7), (v14 8), .int 0, (v14 10), (v14 11), .int 0]))]) hP hD [5] [0, 1, 2, 3, 4] rfl rfl (by decide) (by decide) hk1 hFc hP1 hD1
  have hP : va_P (dC, dI) cls [(h_xx, .inr (7, [.ref q1, .ref q6, .ref q9, .null, .null, .null, .null, .null])), (q1, .inr (4, [.ref q4, .int 0, .int 0, .int (-1), .null, (v3 5), .int 0, .int 0, .int 0, .int 0, .long 0])), (q4, .inl (y5, 600, .inl (fun _ => 0))), (q6, .inr (5, [(v8 0), (v8 1), (v8 2), (v8 3), .int 0, (v8 5), (v8 6), (v8 7), (v8 8), .int 0])), (q9, .inr (5, [(v11 0), (v11 1), (v11 2), (v11 3), .int 0, (v11 5), (v11 6), (v11 7), (v11 8), .int 0])), (q12, .inr (1, [.ref q6, (v14 1), (v14 2), .int 0, (v14 4), (v14 5), .int 0, (v14 7), (v14 8), .int 0, (v14 10), (v14 11), .int 0]))] H := hP
  have hD : va_D A [(h_xx, .inr (7, [.ref q1, .ref q6, .ref q9, .null, .null, .null, .null, .null])), (q1, .inr (4, [.ref q4, .int 0, .int 0, .int (-1), .null, (v3 5), .int 0, .int 0, .int 0, .int 0, .long 0])), (q4, .inl (y5, 600, .inl (fun _ => 0))), (q6, .inr (5, [(v8 0), (v8 1), (v8 2), (v8 3), .int 0, (v8 5), (v8 6), (v8 7), (v8 8), .int 0])), (q9, .inr (5, [(v11 0), (v11 1), (v11 2), (v11 3), .int 0, (v11 5), (v11 6), (v11 7), (v11 8), .int 0])), (q12, .inr (1, [.ref q6, (v14 1), (v14 2), .int 0, (v14 4), (v14 5), .int 0, (v14 7), (v14 8), .int 0, (v14 10), (v14 11), .int 0]))] := hD
  refine va_putF (D := (dC, dI)) (ci := 7) (v := .ref q12) (ty := tyX10 3) (C := RX10) (T := TX10) (N := 8) hx hb hw iwX10 tyX10 tyX10_ok nmX10 hown hK hP hD hS 0 rfl rfl 3 (by decide) (hw _ w_f_X10_31) (fun _ h9 => h9) rfl hin rfl (tyX10_ok 3 (by decide)) rfl rfl (Nat.le_of_ble_eq_true rfl) dX10_init_49 (fun H locs hP hD hS => ?_)
  have hP : va_P (dC, dI) cls [(h_xx, .inr (7, [.ref q1, .ref q6, .ref q9, .ref q12, .null, .null, .null, .null])), (q1, .inr (4, [.ref q4, .int 0, .int 0, .int (-1), .null, (v3 5), .int 0, .int 0, .int 0, .int 0, .long 0])), (q4, .inl (y5, 600, .inl (fun _ => 0))), (q6, .inr (5, [(v8 0), (v8 1), (v8 2), (v8 3), .int 0, (v8 5), (v8 6), (v8 7), (v8 8), .int 0])), (q9, .inr (5, [(v11 0), (v11 1), (v11 2), (v11 3), .int 0, (v11 5), (v11 6), (v11 7), (v11 8), .int 0])), (q12, .inr (1, [.ref q6, (v14 1), (v14 2), .int 0, (v14 4), (v14 5), .int 0, (v14 7), (v14 8), .int 0, (v14 10), (v14 11), .int 0]))] H := hP
  have hD : va_D A [(h_xx, .inr (7, [.ref q1, .ref q6, .ref q9, .ref q12, .null, .null, .null, .null])), (q1, .inr (4, [.ref q4, .int 0, .int 0, .int (-1), .null, (v3 5), .int 0, .int 0, .int 0, .int 0, .long 0])), (q4, .inl (y5, 600, .inl (fun _ => 0))), (q6, .inr (5, [(v8 0), (v8 1), (v8 2), (v8 3), .int 0, (v8 5), (v8 6), (v8 7), (v8 8), .int 0])), (q9, .inr (5, [(v11 0), (v11 1), (v11 2), (v11 3), .int 0, (v11 5), (v11 6), (v11 7), (v11 8), .int 0])), (q12, .inr (1, [.ref q6, (v14 1), (v14 2), .int 0, (v14 4), (v14 5), .int 0, (v14 7), (v14 8), .int 0, (v14 10), (v14 11), .int 0]))] := hD
  refine lv_aload_n hx hb dX10_init_52 rfl (lv_at hl 0 rfl) ?_
  refine va_new (ci := 6) (fs := [.null, .null, .null, .int 0, .null, .int 0, .null, .int 0]) (C := RX9) (T := TX9) (N := 8) hx hb hw iwX9 tyX9 tyX9_ok hown (hw _ w_c_X10_35) (hw _ w_in_X9) (hw _ w_ini_X9) hK hP hD hS hA rfl (dfX9) (Nat.le_of_ble_eq_true rfl) (Nat.le_of_ble_eq_true rfl) dX10_init_53 (fun q15 H hP hD hS => ?_)
  have hP : va_P (dC, dI) cls [(h_xx, .inr (7, [.ref q1, .ref q6, .ref q9, .ref q12, .null, .null, .null, .null])), (q1, .inr (4, [.ref q4, .int 0, .int 0, .int (-1), .null, (v3 5), .int 0, .int 0, .int 0, .int 0, .long 0])), (q4, .inl (y5, 600, .inl (fun _ => 0))), (q6, .inr (5, [(v8 0), (v8 1), (v8 2), (v8 3), .int 0, (v8 5), (v8 6), (v8 7), (v8 8), .int 0])), (q9, .inr (5, [(v11 0), (v11 1), (v11 2), (v11 3), .int 0, (v11 5), (v11 6), (v11 7), (v11 8), .int 0])), (q12, .inr (1, [.ref q6, (v14 1), (v14 2), .int 0, (v14 4), (v14 5), .int 0, (v14 7), (v14 8), .int 0, (v14 10), (v14 11), .int 0])), (q15, .inr (6, [.null, .null, .null, .int 0, .null, .int 0, .null, .int 0]))] H := hP
  have hD : va_D A [(h_xx, .inr (7, [.ref q1, .ref q6, .ref q9, .ref q12, .null, .null, .null, .null])), (q1, .inr (4, [.ref q4, .int 0, .int 0, .int (-1), .null, (v3 5), .int 0, .int 0, .int 0, .int 0, .long 0])), (q4, .inl (y5, 600, .inl (fun _ => 0))), (q6, .inr (5, [(v8 0), (v8 1), (v8 2), (v8 3), .int 0, (v8 5), (v8 6), (v8 7), (v8 8), .int 0])), (q9, .inr (5, [(v11 0), (v11 1), (v11 2), (v11 3), .int 0, (v11 5), (v11 6), (v11 7), (v11 8), .int 0])), (q12, .inr (1, [.ref q6, (v14 1), (v14 2), .int 0, (v14 4), (v14 5), .int 0, (v14 7), (v14 8), .int 0, (v14 10), (v14 11), .int 0])), (q15, .inr (6, [.null, .null, .null, .int 0, .null, .int 0, .null, .int 0]))] := hD
  refine lv_dup hx hb dX10_init_56 rfl ?_
  refine lv_aload_n hx hb dX10_init_57 rfl (lv_at hl 0 rfl) ?_
  refine va_get (D := (dC, dI)) (ci := 7) (v := .ref q6) (C := RX10) (T := TX10) (N := 8) hx hb hw iwX10 hown hK hP 0 rfl rfl 1 (by decide) (hw _ w_f_X10_19) (fun _ h9 => h9) rfl dX10_init_58 ?_
  refine lv_aload_n hx hb dX10_init_61 rfl (lv_at hl 0 rfl) ?_
  refine va_get (D := (dC, dI)) (ci := 7) (v := .ref q12) (C := RX10) (T := TX10) (N := 8) hx hb hw iwX10 hown hK hP 0 rfl rfl 3 (by decide) (hw _ w_f_X10_31) (fun _ h9 => h9) rfl dX10_init_62 ?_
  have hPc := hP.sub (ws' := [(q15, .inr (6, [.null, .null, .null, .int 0, .null, .int 0, .null, .int 0]))]) [6] rfl
  have hDc := hD.sub (ws' := [(q15, .inr (6, [.null, .null, .null, .int 0, .null, .int 0, .null, .int 0]))]) [6] (by decide) rfl
  have hKc := hK.sub (tys' := []) [] rfl
  have hFc := va_free (wc := [(q15, .inr (6, [.null, .null, .null, .int 0, .null, .int 0, .null, .int 0]))]) hD hS hA [6] rfl
  refine va_callv (va_runIN (As := [.ref q6, .ref q12]) (rest := [.ref q15, .ref h_xx]) ⟨hx, hb, hml, hown, hts⟩ (c_X9_init l dC dI H.size q15 q6 q12) ⟨va_cnB (host := "OppositePairs") 2 hts (gd hT w_code_X9_init) rfl rfl rfl (hN _ n_m_X10_37) (hw _ w_ini_X9) (by decide +kernel) ⟨(Nat.le_of_ble_eq_true rfl), (Nat.le_of_ble_eq_true rfl)⟩, rfl, hw _ w_instanceMethod_X9_init⟩ ⟨pre_blind, pre_of hPc hKc hDc hN⟩ rfl rfl hl.1 rfl (lv_room (Nat.le_of_ble_eq_true rfl)) dX10_init_65 ⟨(Nat.le_of_ble_eq_true rfl), (Nat.le_of_ble_eq_true rfl)⟩) hS (fun q _ h => hFc q h) hFc (fun u t H locs ht hvm hq hB hz1 hk1 hS => ?_)
  obtain ⟨v17, rfl⟩ : ∃ z, z = u := ⟨_, rfl⟩
  obtain ⟨hP1, hK1, hD1⟩ := hB
  rw [ht] at hP1
  have hK1 := va_K.moved hvm.symm hK1
  obtain ⟨hP, hD⟩ := va_join (wr := [(h_xx, .inr (7, [.ref q1, .ref q6, .ref q9, .ref q12, .null, .null, .null, .null])), (q1, .inr (4, [.ref q4, .int 0, .int 0, .int (-1), .null, (v3 5), .int 0, .int 0, .int 0, .int 0, .long 0])), (q4, .inl (y5, 600, .inl (fun _ => 0))), (q6, .inr (5, [(v8 0), (v8 1), (v8 2), (v8 3), .int 0, (v8 5), (v8 6), (v8 7), (v8 8), .int 0])), (q9, .inr (5, [(v11 0), (v11 1), (v11 2), (v11 3), .int 0, (v11 5), (v11 6), (v11 7), (v11 8), .int 0])), (q12, .inr (1, [.ref q6, (v14 1), (v14 2), .int 0, (v14 4), (v14 5), .int 0, (v14 7), (v14 8), .int 0, (v14 10), (v14 11), .int 0]))]) (w1 := [(q15, .inr (6, [.ref q6, .ref q12, (v17 2), .int 0, (v17 4), .int 0, (v17 6), .int 0]))]) hP hD [6] [0, 1, 2, 3, 4, 5] rfl rfl (by decide) (by decide) hk1 hFc hP1 hD1
  have hP : va_P (dC, dI) cls [(h_xx, .inr (7, [.ref q1, .ref q6, .ref q9, .ref q12, .null, .null, .null, .null])), (q1, .inr (4, [.ref q4, .int 0, .int 0, .int (-1), .null, (v3 5), .int 0, .int 0, .int 0, .int 0, .long 0])), (q4, .inl (y5, 600, .inl (fun _ => 0))), (q6, .inr (5, [(v8 0), (v8 1), (v8 2), (v8 3), .int 0, (v8 5), (v8 6), (v8 7), (v8 8), .int 0])), (q9, .inr (5, [(v11 0), (v11 1), (v11 2), (v11 3), .int 0, (v11 5), (v11 6), (v11 7), (v11 8), .int 0])), (q12, .inr (1, [.ref q6, (v14 1), (v14 2), .int 0, (v14 4), (v14 5), .int 0, (v14 7), (v14 8), .int 0, (v14 10), (v14 11), .int 0])), (q15, .inr (6, [.ref q6, .ref q12, (v17 2), .int 0, (v17 4), .int 0, (v17 6), .int 0]))] H := hP
  have hD : va_D A [(h_xx, .inr (7, [.ref q1, .ref q6, .ref q9, .ref q12, .null, .null, .null, .null])), (q1, .inr (4, [.ref q4, .int 0, .int 0, .int (-1), .null, (v3 5), .int 0, .int 0, .int 0, .int 0, .long 0])), (q4, .inl (y5, 600, .inl (fun _ => 0))), (q6, .inr (5, [(v8 0), (v8 1), (v8 2), (v8 3), .int 0, (v8 5), (v8 6), (v8 7), (v8 8), .int 0])), (q9, .inr (5, [(v11 0), (v11 1), (v11 2), (v11 3), .int 0, (v11 5), (v11 6), (v11 7), (v11 8), .int 0])), (q12, .inr (1, [.ref q6, (v14 1), (v14 2), .int 0, (v14 4), (v14 5), .int 0, (v14 7), (v14 8), .int 0, (v14 10), (v14 11), .int 0])), (q15, .inr (6, [.ref q6, .ref q12, (v17 2), .int 0, (v17 4), .int 0, (v17 6), .int 0]))] := hD
  refine va_putF (D := (dC, dI)) (ci := 7) (v := .ref q15) (ty := tyX10 4) (C := RX10) (T := TX10) (N := 8) hx hb hw iwX10 tyX10 tyX10_ok nmX10 hown hK hP hD hS 0 rfl rfl 4 (by decide) (hw _ w_f_X10_40) (fun _ h9 => h9) rfl hin rfl (tyX10_ok 4 (by decide)) rfl rfl (Nat.le_of_ble_eq_true rfl) dX10_init_68 (fun H locs hP hD hS => ?_)
  have hP : va_P (dC, dI) cls [(h_xx, .inr (7, [.ref q1, .ref q6, .ref q9, .ref q12, .ref q15, .null, .null, .null])), (q1, .inr (4, [.ref q4, .int 0, .int 0, .int (-1), .null, (v3 5), .int 0, .int 0, .int 0, .int 0, .long 0])), (q4, .inl (y5, 600, .inl (fun _ => 0))), (q6, .inr (5, [(v8 0), (v8 1), (v8 2), (v8 3), .int 0, (v8 5), (v8 6), (v8 7), (v8 8), .int 0])), (q9, .inr (5, [(v11 0), (v11 1), (v11 2), (v11 3), .int 0, (v11 5), (v11 6), (v11 7), (v11 8), .int 0])), (q12, .inr (1, [.ref q6, (v14 1), (v14 2), .int 0, (v14 4), (v14 5), .int 0, (v14 7), (v14 8), .int 0, (v14 10), (v14 11), .int 0])), (q15, .inr (6, [.ref q6, .ref q12, (v17 2), .int 0, (v17 4), .int 0, (v17 6), .int 0]))] H := hP
  have hD : va_D A [(h_xx, .inr (7, [.ref q1, .ref q6, .ref q9, .ref q12, .ref q15, .null, .null, .null])), (q1, .inr (4, [.ref q4, .int 0, .int 0, .int (-1), .null, (v3 5), .int 0, .int 0, .int 0, .int 0, .long 0])), (q4, .inl (y5, 600, .inl (fun _ => 0))), (q6, .inr (5, [(v8 0), (v8 1), (v8 2), (v8 3), .int 0, (v8 5), (v8 6), (v8 7), (v8 8), .int 0])), (q9, .inr (5, [(v11 0), (v11 1), (v11 2), (v11 3), .int 0, (v11 5), (v11 6), (v11 7), (v11 8), .int 0])), (q12, .inr (1, [.ref q6, (v14 1), (v14 2), .int 0, (v14 4), (v14 5), .int 0, (v14 7), (v14 8), .int 0, (v14 10), (v14 11), .int 0])), (q15, .inr (6, [.ref q6, .ref q12, (v17 2), .int 0, (v17 4), .int 0, (v17 6), .int 0]))] := hD
  refine lv_aload_n hx hb dX10_init_71 rfl (lv_at hl 0 rfl) ?_
  refine va_new (ci := 3) (fs := [.null, .null, .null, .int 0, .null, .int 0, .null, .int 0, .null, .int 0, .int 0, .int 0, .int 0, .int 0, .int 0, .int 0, .int 0, .int 0]) (C := RX4) (T := TX4) (N := 18) hx hb hw iwX4 tyX4 tyX4_ok hown (hw _ w_c_X10_44) (hw _ w_in_X4) (hw _ w_ini_X4) hK hP hD hS hA rfl (dfX4) (Nat.le_of_ble_eq_true rfl) (Nat.le_of_ble_eq_true rfl) dX10_init_72 (fun q18 H hP hD hS => ?_)
  have hP : va_P (dC, dI) cls [(h_xx, .inr (7, [.ref q1, .ref q6, .ref q9, .ref q12, .ref q15, .null, .null, .null])), (q1, .inr (4, [.ref q4, .int 0, .int 0, .int (-1), .null, (v3 5), .int 0, .int 0, .int 0, .int 0, .long 0])), (q4, .inl (y5, 600, .inl (fun _ => 0))), (q6, .inr (5, [(v8 0), (v8 1), (v8 2), (v8 3), .int 0, (v8 5), (v8 6), (v8 7), (v8 8), .int 0])), (q9, .inr (5, [(v11 0), (v11 1), (v11 2), (v11 3), .int 0, (v11 5), (v11 6), (v11 7), (v11 8), .int 0])), (q12, .inr (1, [.ref q6, (v14 1), (v14 2), .int 0, (v14 4), (v14 5), .int 0, (v14 7), (v14 8), .int 0, (v14 10), (v14 11), .int 0])), (q15, .inr (6, [.ref q6, .ref q12, (v17 2), .int 0, (v17 4), .int 0, (v17 6), .int 0])), (q18, .inr (3, [.null, .null, .null, .int 0, .null, .int 0, .null, .int 0, .null, .int 0, .int 0, .int 0, .int 0, .int 0, .int 0, .int 0, .int 0, .int 0]))] H := hP
  have hD : va_D A [(h_xx, .inr (7, [.ref q1, .ref q6, .ref q9, .ref q12, .ref q15, .null, .null, .null])), (q1, .inr (4, [.ref q4, .int 0, .int 0, .int (-1), .null, (v3 5), .int 0, .int 0, .int 0, .int 0, .long 0])), (q4, .inl (y5, 600, .inl (fun _ => 0))), (q6, .inr (5, [(v8 0), (v8 1), (v8 2), (v8 3), .int 0, (v8 5), (v8 6), (v8 7), (v8 8), .int 0])), (q9, .inr (5, [(v11 0), (v11 1), (v11 2), (v11 3), .int 0, (v11 5), (v11 6), (v11 7), (v11 8), .int 0])), (q12, .inr (1, [.ref q6, (v14 1), (v14 2), .int 0, (v14 4), (v14 5), .int 0, (v14 7), (v14 8), .int 0, (v14 10), (v14 11), .int 0])), (q15, .inr (6, [.ref q6, .ref q12, (v17 2), .int 0, (v17 4), .int 0, (v17 6), .int 0])), (q18, .inr (3, [.null, .null, .null, .int 0, .null, .int 0, .null, .int 0, .null, .int 0, .int 0, .int 0, .int 0, .int 0, .int 0, .int 0, .int 0, .int 0]))] := hD
  refine lv_dup hx hb dX10_init_75 rfl ?_
  refine lv_aload_n hx hb dX10_init_76 rfl (lv_at hl 0 rfl) ?_
  refine va_get (D := (dC, dI)) (ci := 7) (v := .ref q6) (C := RX10) (T := TX10) (N := 8) hx hb hw iwX10 hown hK hP 0 rfl rfl 1 (by decide) (hw _ w_f_X10_19) (fun _ h9 => h9) rfl dX10_init_77 ?_
  refine lv_aload_n hx hb dX10_init_80 rfl (lv_at hl 0 rfl) ?_
  refine va_get (D := (dC, dI)) (ci := 7) (v := .ref q12) (C := RX10) (T := TX10) (N := 8) hx hb hw iwX10 hown hK hP 0 rfl rfl 3 (by decide) (hw _ w_f_X10_31) (fun _ h9 => h9) rfl dX10_init_81 ?_
  have hPc := hP.sub (ws' := [(q18, .inr (3, [.null, .null, .null, .int 0, .null, .int 0, .null, .int 0, .null, .int 0, .int 0, .int 0, .int 0, .int 0, .int 0, .int 0, .int 0, .int 0]))]) [7] rfl
  have hDc := hD.sub (ws' := [(q18, .inr (3, [.null, .null, .null, .int 0, .null, .int 0, .null, .int 0, .null, .int 0, .int 0, .int 0, .int 0, .int 0, .int 0, .int 0, .int 0, .int 0]))]) [7] (by decide) rfl
  have hKc := hK.sub (tys' := []) [] rfl
  have hFc := va_free (wc := [(q18, .inr (3, [.null, .null, .null, .int 0, .null, .int 0, .null, .int 0, .null, .int 0, .int 0, .int 0, .int 0, .int 0, .int 0, .int 0, .int 0, .int 0]))]) hD hS hA [7] rfl
  refine va_callv (va_runIN (As := [.ref q6, .ref q12]) (rest := [.ref q18, .ref h_xx]) ⟨hx, hb, hml, hown, hts⟩ (c_X4_init l dC dI H.size q18 q6 q12) ⟨va_cnB (host := "OppositePairs") 2 hts (gd hT w_code_X4_init) rfl rfl rfl (hN _ n_m_X10_46) (hw _ w_ini_X4) (by decide +kernel) ⟨(Nat.le_of_ble_eq_true rfl), (Nat.le_of_ble_eq_true rfl)⟩, rfl, hw _ w_instanceMethod_X4_init⟩ ⟨pre_blind, pre_of hPc hKc hDc hN⟩ rfl rfl hl.1 rfl (lv_room (Nat.le_of_ble_eq_true rfl)) dX10_init_84 ⟨(Nat.le_of_ble_eq_true rfl), (Nat.le_of_ble_eq_true rfl)⟩) hS (fun q _ h => hFc q h) hFc (fun u t H locs ht hvm hq hB hz1 hk1 hS => ?_)
  obtain ⟨v20, rfl⟩ : ∃ z, z = u := ⟨_, rfl⟩
  obtain ⟨hP1, hK1, hD1⟩ := hB
  rw [ht] at hP1
  have hK1 := va_K.moved hvm.symm hK1
  obtain ⟨hP, hD⟩ := va_join (wr := [(h_xx, .inr (7, [.ref q1, .ref q6, .ref q9, .ref q12, .ref q15, .null, .null, .null])), (q1, .inr (4, [.ref q4, .int 0, .int 0, .int (-1), .null, (v3 5), .int 0, .int 0, .int 0, .int 0, .long 0])), (q4, .inl (y5, 600, .inl (fun _ => 0))), (q6, .inr (5, [(v8 0), (v8 1), (v8 2), (v8 3), .int 0, (v8 5), (v8 6), (v8 7), (v8 8), .int 0])), (q9, .inr (5, [(v11 0), (v11 1), (v11 2), (v11 3), .int 0, (v11 5), (v11 6), (v11 7), (v11 8), .int 0])), (q12, .inr (1, [.ref q6, (v14 1), (v14 2), .int 0, (v14 4), (v14 5), .int 0, (v14 7), (v14 8), .int 0, (v14 10), (v14 11), .int 0])), (q15, .inr (6, [.ref q6, .ref q12, (v17 2), .int 0, (v17 4), .int 0, (v17 6), .int 0]))]) (w1 := [(q18, .inr (3, [.ref q6, .ref q12, (v20 2), .int 0, (v20 4), .int 0, (v20 6), .int 0, (v20 8), .int 0, .int 0, .int 0, .int 0, .int 0, .int 0, .int 0, .int 0, .int 0]))]) hP hD [7] [0, 1, 2, 3, 4, 5, 6] rfl rfl (by decide) (by decide) hk1 hFc hP1 hD1
  have hP : va_P (dC, dI) cls [(h_xx, .inr (7, [.ref q1, .ref q6, .ref q9, .ref q12, .ref q15, .null, .null, .null])), (q1, .inr (4, [.ref q4, .int 0, .int 0, .int (-1), .null, (v3 5), .int 0, .int 0, .int 0, .int 0, .long 0])), (q4, .inl (y5, 600, .inl (fun _ => 0))), (q6, .inr (5, [(v8 0), (v8 1), (v8 2), (v8 3), .int 0, (v8 5), (v8 6), (v8 7), (v8 8), .int 0])), (q9, .inr (5, [(v11 0), (v11 1), (v11 2), (v11 3), .int 0, (v11 5), (v11 6), (v11 7), (v11 8), .int 0])), (q12, .inr (1, [.ref q6, (v14 1), (v14 2), .int 0, (v14 4), (v14 5), .int 0, (v14 7), (v14 8), .int 0, (v14 10), (v14 11), .int 0])), (q15, .inr (6, [.ref q6, .ref q12, (v17 2), .int 0, (v17 4), .int 0, (v17 6), .int 0])), (q18, .inr (3, [.ref q6, .ref q12, (v20 2), .int 0, (v20 4), .int 0, (v20 6), .int 0, (v20 8), .int 0, .int 0, .int 0, .int 0, .int 0, .int 0, .int 0, .int 0, .int 0]))] H := hP
  have hD : va_D A [(h_xx, .inr (7, [.ref q1, .ref q6, .ref q9, .ref q12, .ref q15, .null, .null, .null])), (q1, .inr (4, [.ref q4, .int 0, .int 0, .int (-1), .null, (v3 5), .int 0, .int 0, .int 0, .int 0, .long 0])), (q4, .inl (y5, 600, .inl (fun _ => 0))), (q6, .inr (5, [(v8 0), (v8 1), (v8 2), (v8 3), .int 0, (v8 5), (v8 6), (v8 7), (v8 8), .int 0])), (q9, .inr (5, [(v11 0), (v11 1), (v11 2), (v11 3), .int 0, (v11 5), (v11 6), (v11 7), (v11 8), .int 0])), (q12, .inr (1, [.ref q6, (v14 1), (v14 2), .int 0, (v14 4), (v14 5), .int 0, (v14 7), (v14 8), .int 0, (v14 10), (v14 11), .int 0])), (q15, .inr (6, [.ref q6, .ref q12, (v17 2), .int 0, (v17 4), .int 0, (v17 6), .int 0])), (q18, .inr (3, [.ref q6, .ref q12, (v20 2), .int 0, (v20 4), .int 0, (v20 6), .int 0, (v20 8), .int 0, .int 0, .int 0, .int 0, .int 0, .int 0, .int 0, .int 0, .int 0]))] := hD
  refine va_putF (D := (dC, dI)) (ci := 7) (v := .ref q18) (ty := tyX10 5) (C := RX10) (T := TX10) (N := 8) hx hb hw iwX10 tyX10 tyX10_ok nmX10 hown hK hP hD hS 0 rfl rfl 5 (by decide) (hw _ w_f_X10_47) (fun _ h9 => h9) rfl hin rfl (tyX10_ok 5 (by decide)) rfl rfl (Nat.le_of_ble_eq_true rfl) dX10_init_87 (fun H locs hP hD hS => ?_)
  have hP : va_P (dC, dI) cls [(h_xx, .inr (7, [.ref q1, .ref q6, .ref q9, .ref q12, .ref q15, .ref q18, .null, .null])), (q1, .inr (4, [.ref q4, .int 0, .int 0, .int (-1), .null, (v3 5), .int 0, .int 0, .int 0, .int 0, .long 0])), (q4, .inl (y5, 600, .inl (fun _ => 0))), (q6, .inr (5, [(v8 0), (v8 1), (v8 2), (v8 3), .int 0, (v8 5), (v8 6), (v8 7), (v8 8), .int 0])), (q9, .inr (5, [(v11 0), (v11 1), (v11 2), (v11 3), .int 0, (v11 5), (v11 6), (v11 7), (v11 8), .int 0])), (q12, .inr (1, [.ref q6, (v14 1), (v14 2), .int 0, (v14 4), (v14 5), .int 0, (v14 7), (v14 8), .int 0, (v14 10), (v14 11), .int 0])), (q15, .inr (6, [.ref q6, .ref q12, (v17 2), .int 0, (v17 4), .int 0, (v17 6), .int 0])), (q18, .inr (3, [.ref q6, .ref q12, (v20 2), .int 0, (v20 4), .int 0, (v20 6), .int 0, (v20 8), .int 0, .int 0, .int 0, .int 0, .int 0, .int 0, .int 0, .int 0, .int 0]))] H := hP
  have hD : va_D A [(h_xx, .inr (7, [.ref q1, .ref q6, .ref q9, .ref q12, .ref q15, .ref q18, .null, .null])), (q1, .inr (4, [.ref q4, .int 0, .int 0, .int (-1), .null, (v3 5), .int 0, .int 0, .int 0, .int 0, .long 0])), (q4, .inl (y5, 600, .inl (fun _ => 0))), (q6, .inr (5, [(v8 0), (v8 1), (v8 2), (v8 3), .int 0, (v8 5), (v8 6), (v8 7), (v8 8), .int 0])), (q9, .inr (5, [(v11 0), (v11 1), (v11 2), (v11 3), .int 0, (v11 5), (v11 6), (v11 7), (v11 8), .int 0])), (q12, .inr (1, [.ref q6, (v14 1), (v14 2), .int 0, (v14 4), (v14 5), .int 0, (v14 7), (v14 8), .int 0, (v14 10), (v14 11), .int 0])), (q15, .inr (6, [.ref q6, .ref q12, (v17 2), .int 0, (v17 4), .int 0, (v17 6), .int 0])), (q18, .inr (3, [.ref q6, .ref q12, (v20 2), .int 0, (v20 4), .int 0, (v20 6), .int 0, (v20 8), .int 0, .int 0, .int 0, .int 0, .int 0, .int 0, .int 0, .int 0, .int 0]))] := hD
  refine lv_aload_n hx hb dX10_init_90 rfl (lv_at hl 0 rfl) ?_
  refine va_new (ci := 2) (fs := [.null, .null, .null, .null, .int 0, .null, .int 0, .null, .null, .null, .int 0, .int 0]) (C := RX3) (T := TX3) (N := 12) hx hb hw iwX3 tyX3 tyX3_ok hown (hw _ w_c_X10_51) (hw _ w_in_X3) (hw _ w_ini_X3) hK hP hD hS hA rfl (dfX3) (Nat.le_of_ble_eq_true rfl) (Nat.le_of_ble_eq_true rfl) dX10_init_91 (fun q21 H hP hD hS => ?_)
  have hP : va_P (dC, dI) cls [(h_xx, .inr (7, [.ref q1, .ref q6, .ref q9, .ref q12, .ref q15, .ref q18, .null, .null])), (q1, .inr (4, [.ref q4, .int 0, .int 0, .int (-1), .null, (v3 5), .int 0, .int 0, .int 0, .int 0, .long 0])), (q4, .inl (y5, 600, .inl (fun _ => 0))), (q6, .inr (5, [(v8 0), (v8 1), (v8 2), (v8 3), .int 0, (v8 5), (v8 6), (v8 7), (v8 8), .int 0])), (q9, .inr (5, [(v11 0), (v11 1), (v11 2), (v11 3), .int 0, (v11 5), (v11 6), (v11 7), (v11 8), .int 0])), (q12, .inr (1, [.ref q6, (v14 1), (v14 2), .int 0, (v14 4), (v14 5), .int 0, (v14 7), (v14 8), .int 0, (v14 10), (v14 11), .int 0])), (q15, .inr (6, [.ref q6, .ref q12, (v17 2), .int 0, (v17 4), .int 0, (v17 6), .int 0])), (q18, .inr (3, [.ref q6, .ref q12, (v20 2), .int 0, (v20 4), .int 0, (v20 6), .int 0, (v20 8), .int 0, .int 0, .int 0, .int 0, .int 0, .int 0, .int 0, .int 0, .int 0])), (q21, .inr (2, [.null, .null, .null, .null, .int 0, .null, .int 0, .null, .null, .null, .int 0, .int 0]))] H := hP
  have hD : va_D A [(h_xx, .inr (7, [.ref q1, .ref q6, .ref q9, .ref q12, .ref q15, .ref q18, .null, .null])), (q1, .inr (4, [.ref q4, .int 0, .int 0, .int (-1), .null, (v3 5), .int 0, .int 0, .int 0, .int 0, .long 0])), (q4, .inl (y5, 600, .inl (fun _ => 0))), (q6, .inr (5, [(v8 0), (v8 1), (v8 2), (v8 3), .int 0, (v8 5), (v8 6), (v8 7), (v8 8), .int 0])), (q9, .inr (5, [(v11 0), (v11 1), (v11 2), (v11 3), .int 0, (v11 5), (v11 6), (v11 7), (v11 8), .int 0])), (q12, .inr (1, [.ref q6, (v14 1), (v14 2), .int 0, (v14 4), (v14 5), .int 0, (v14 7), (v14 8), .int 0, (v14 10), (v14 11), .int 0])), (q15, .inr (6, [.ref q6, .ref q12, (v17 2), .int 0, (v17 4), .int 0, (v17 6), .int 0])), (q18, .inr (3, [.ref q6, .ref q12, (v20 2), .int 0, (v20 4), .int 0, (v20 6), .int 0, (v20 8), .int 0, .int 0, .int 0, .int 0, .int 0, .int 0, .int 0, .int 0, .int 0])), (q21, .inr (2, [.null, .null, .null, .null, .int 0, .null, .int 0, .null, .null, .null, .int 0, .int 0]))] := hD
  refine lv_dup hx hb dX10_init_94 rfl ?_
  refine lv_aload_n hx hb dX10_init_95 rfl (lv_at hl 0 rfl) ?_
  refine va_get (D := (dC, dI)) (ci := 7) (v := .ref q6) (C := RX10) (T := TX10) (N := 8) hx hb hw iwX10 hown hK hP 0 rfl rfl 1 (by decide) (hw _ w_f_X10_19) (fun _ h9 => h9) rfl dX10_init_96 ?_
  refine lv_aload_n hx hb dX10_init_99 rfl (lv_at hl 0 rfl) ?_
  refine va_get (D := (dC, dI)) (ci := 7) (v := .ref q12) (C := RX10) (T := TX10) (N := 8) hx hb hw iwX10 hown hK hP 0 rfl rfl 3 (by decide) (hw _ w_f_X10_31) (fun _ h9 => h9) rfl dX10_init_100 ?_
  refine lv_aload_n hx hb dX10_init_103 rfl (lv_at hl 0 rfl) ?_
  refine va_get (D := (dC, dI)) (ci := 7) (v := .ref q18) (C := RX10) (T := TX10) (N := 8) hx hb hw iwX10 hown hK hP 0 rfl rfl 5 (by decide) (hw _ w_f_X10_47) (fun _ h9 => h9) rfl dX10_init_104 ?_
  have hPc := hP.sub (ws' := [(q21, .inr (2, [.null, .null, .null, .null, .int 0, .null, .int 0, .null, .null, .null, .int 0, .int 0]))]) [8] rfl
  have hDc := hD.sub (ws' := [(q21, .inr (2, [.null, .null, .null, .null, .int 0, .null, .int 0, .null, .null, .null, .int 0, .int 0]))]) [8] (by decide) rfl
  have hKc := hK.sub (tys' := []) [] rfl
  have hFc := va_free (wc := [(q21, .inr (2, [.null, .null, .null, .null, .int 0, .null, .int 0, .null, .null, .null, .int 0, .int 0]))]) hD hS hA [8] rfl
  refine va_callv (va_runIN (As := [.ref q6, .ref q12, .ref q18]) (rest := [.ref q21, .ref h_xx]) ⟨hx, hb, hml, hown, hts⟩ (c_X3_init l dC dI H.size q21 q6 q12 q18) ⟨va_cnB (host := "OppositePairs") 3 hts (gd hT w_code_X3_init) rfl rfl rfl (hN _ n_m_X10_53) (hw _ w_ini_X3) (by decide +kernel) ⟨(Nat.le_of_ble_eq_true rfl), (Nat.le_of_ble_eq_true rfl)⟩, rfl, hw _ w_instanceMethod_X3_init⟩ ⟨pre_blind, pre_of hPc hKc hDc hN⟩ rfl rfl hl.1 rfl (lv_room (Nat.le_of_ble_eq_true rfl)) dX10_init_107 ⟨(Nat.le_of_ble_eq_true rfl), (Nat.le_of_ble_eq_true rfl)⟩) hS (fun q _ h => hFc q h) hFc (fun u t H locs ht hvm hq hB hz1 hk1 hS => ?_)
  obtain ⟨v23, rfl⟩ : ∃ z, z = u := ⟨_, rfl⟩
  obtain ⟨hP1, hK1, hD1⟩ := hB
  rw [ht] at hP1
  have hK1 := va_K.moved hvm.symm hK1
  obtain ⟨hP, hD⟩ := va_join (wr := [(h_xx, .inr (7, [.ref q1, .ref q6, .ref q9, .ref q12, .ref q15, .ref q18, .null, .null])), (q1, .inr (4, [.ref q4, .int 0, .int 0, .int (-1), .null, (v3 5), .int 0, .int 0, .int 0, .int 0, .long 0])), (q4, .inl (y5, 600, .inl (fun _ => 0))), (q6, .inr (5, [(v8 0), (v8 1), (v8 2), (v8 3), .int 0, (v8 5), (v8 6), (v8 7), (v8 8), .int 0])), (q9, .inr (5, [(v11 0), (v11 1), (v11 2), (v11 3), .int 0, (v11 5), (v11 6), (v11 7), (v11 8), .int 0])), (q12, .inr (1, [.ref q6, (v14 1), (v14 2), .int 0, (v14 4), (v14 5), .int 0, (v14 7), (v14 8), .int 0, (v14 10), (v14 11), .int 0])), (q15, .inr (6, [.ref q6, .ref q12, (v17 2), .int 0, (v17 4), .int 0, (v17 6), .int 0])), (q18, .inr (3, [.ref q6, .ref q12, (v20 2), .int 0, (v20 4), .int 0, (v20 6), .int 0, (v20 8), .int 0, .int 0, .int 0, .int 0, .int 0, .int 0, .int 0, .int 0, .int 0]))]) (w1 := [(q21, .inr (2, [.ref q6, .ref q12, .ref q18, (v23 3), .int 0, (v23 5), .int 0, (v23 7), (v23 8), (v23 9), .int (-2), .int 0]))]) hP hD [8] [0, 1, 2, 3, 4, 5, 6, 7] rfl rfl (by decide) (by decide) hk1 hFc hP1 hD1
  have hP : va_P (dC, dI) cls [(h_xx, .inr (7, [.ref q1, .ref q6, .ref q9, .ref q12, .ref q15, .ref q18, .null, .null])), (q1, .inr (4, [.ref q4, .int 0, .int 0, .int (-1), .null, (v3 5), .int 0, .int 0, .int 0, .int 0, .long 0])), (q4, .inl (y5, 600, .inl (fun _ => 0))), (q6, .inr (5, [(v8 0), (v8 1), (v8 2), (v8 3), .int 0, (v8 5), (v8 6), (v8 7), (v8 8), .int 0])), (q9, .inr (5, [(v11 0), (v11 1), (v11 2), (v11 3), .int 0, (v11 5), (v11 6), (v11 7), (v11 8), .int 0])), (q12, .inr (1, [.ref q6, (v14 1), (v14 2), .int 0, (v14 4), (v14 5), .int 0, (v14 7), (v14 8), .int 0, (v14 10), (v14 11), .int 0])), (q15, .inr (6, [.ref q6, .ref q12, (v17 2), .int 0, (v17 4), .int 0, (v17 6), .int 0])), (q18, .inr (3, [.ref q6, .ref q12, (v20 2), .int 0, (v20 4), .int 0, (v20 6), .int 0, (v20 8), .int 0, .int 0, .int 0, .int 0, .int 0, .int 0, .int 0, .int 0, .int 0])), (q21, .inr (2, [.ref q6, .ref q12, .ref q18, (v23 3), .int 0, (v23 5), .int 0, (v23 7), (v23 8), (v23 9), .int (-2), .int 0]))] H := hP
  have hD : va_D A [(h_xx, .inr (7, [.ref q1, .ref q6, .ref q9, .ref q12, .ref q15, .ref q18, .null, .null])), (q1, .inr (4, [.ref q4, .int 0, .int 0, .int (-1), .null, (v3 5), .int 0, .int 0, .int 0, .int 0, .long 0])), (q4, .inl (y5, 600, .inl (fun _ => 0))), (q6, .inr (5, [(v8 0), (v8 1), (v8 2), (v8 3), .int 0, (v8 5), (v8 6), (v8 7), (v8 8), .int 0])), (q9, .inr (5, [(v11 0), (v11 1), (v11 2), (v11 3), .int 0, (v11 5), (v11 6), (v11 7), (v11 8), .int 0])), (q12, .inr (1, [.ref q6, (v14 1), (v14 2), .int 0, (v14 4), (v14 5), .int 0, (v14 7), (v14 8), .int 0, (v14 10), (v14 11), .int 0])), (q15, .inr (6, [.ref q6, .ref q12, (v17 2), .int 0, (v17 4), .int 0, (v17 6), .int 0])), (q18, .inr (3, [.ref q6, .ref q12, (v20 2), .int 0, (v20 4), .int 0, (v20 6), .int 0, (v20 8), .int 0, .int 0, .int 0, .int 0, .int 0, .int 0, .int 0, .int 0, .int 0])), (q21, .inr (2, [.ref q6, .ref q12, .ref q18, (v23 3), .int 0, (v23 5), .int 0, (v23 7), (v23 8), (v23 9), .int (-2), .int 0]))] := hD
  refine va_putF (D := (dC, dI)) (ci := 7) (v := .ref q21) (ty := tyX10 6) (C := RX10) (T := TX10) (N := 8) hx hb hw iwX10 tyX10 tyX10_ok nmX10 hown hK hP hD hS 0 rfl rfl 6 (by decide) (hw _ w_f_X10_56) (fun _ h9 => h9) rfl hin rfl (tyX10_ok 6 (by decide)) rfl rfl (Nat.le_of_ble_eq_true rfl) dX10_init_110 (fun H locs hP hD hS => ?_)
  have hP : va_P (dC, dI) cls [(h_xx, .inr (7, [.ref q1, .ref q6, .ref q9, .ref q12, .ref q15, .ref q18, .ref q21, .null])), (q1, .inr (4, [.ref q4, .int 0, .int 0, .int (-1), .null, (v3 5), .int 0, .int 0, .int 0, .int 0, .long 0])), (q4, .inl (y5, 600, .inl (fun _ => 0))), (q6, .inr (5, [(v8 0), (v8 1), (v8 2), (v8 3), .int 0, (v8 5), (v8 6), (v8 7), (v8 8), .int 0])), (q9, .inr (5, [(v11 0), (v11 1), (v11 2), (v11 3), .int 0, (v11 5), (v11 6), (v11 7), (v11 8), .int 0])), (q12, .inr (1, [.ref q6, (v14 1), (v14 2), .int 0, (v14 4), (v14 5), .int 0, (v14 7), (v14 8), .int 0, (v14 10), (v14 11), .int 0])), (q15, .inr (6, [.ref q6, .ref q12, (v17 2), .int 0, (v17 4), .int 0, (v17 6), .int 0])), (q18, .inr (3, [.ref q6, .ref q12, (v20 2), .int 0, (v20 4), .int 0, (v20 6), .int 0, (v20 8), .int 0, .int 0, .int 0, .int 0, .int 0, .int 0, .int 0, .int 0, .int 0])), (q21, .inr (2, [.ref q6, .ref q12, .ref q18, (v23 3), .int 0, (v23 5), .int 0, (v23 7), (v23 8), (v23 9), .int (-2), .int 0]))] H := hP
  have hD : va_D A [(h_xx, .inr (7, [.ref q1, .ref q6, .ref q9, .ref q12, .ref q15, .ref q18, .ref q21, .null])), (q1, .inr (4, [.ref q4, .int 0, .int 0, .int (-1), .null, (v3 5), .int 0, .int 0, .int 0, .int 0, .long 0])), (q4, .inl (y5, 600, .inl (fun _ => 0))), (q6, .inr (5, [(v8 0), (v8 1), (v8 2), (v8 3), .int 0, (v8 5), (v8 6), (v8 7), (v8 8), .int 0])), (q9, .inr (5, [(v11 0), (v11 1), (v11 2), (v11 3), .int 0, (v11 5), (v11 6), (v11 7), (v11 8), .int 0])), (q12, .inr (1, [.ref q6, (v14 1), (v14 2), .int 0, (v14 4), (v14 5), .int 0, (v14 7), (v14 8), .int 0, (v14 10), (v14 11), .int 0])), (q15, .inr (6, [.ref q6, .ref q12, (v17 2), .int 0, (v17 4), .int 0, (v17 6), .int 0])), (q18, .inr (3, [.ref q6, .ref q12, (v20 2), .int 0, (v20 4), .int 0, (v20 6), .int 0, (v20 8), .int 0, .int 0, .int 0, .int 0, .int 0, .int 0, .int 0, .int 0, .int 0])), (q21, .inr (2, [.ref q6, .ref q12, .ref q18, (v23 3), .int 0, (v23 5), .int 0, (v23 7), (v23 8), (v23 9), .int (-2), .int 0]))] := hD
  refine lv_aload_n hx hb dX10_init_113 rfl (lv_at hl 0 rfl) ?_
  refine va_new (ci := 0) (fs := [.null, .null, .null, .null, .int 0, .int 0]) (C := RX0) (T := TX0) (N := 6) hx hb hw iwX0 tyX0 tyX0_ok hown (hw _ w_c_X10_60) (hw _ w_in_X0) (hw _ w_ini_X0) hK hP hD hS hA rfl (dfX0) (Nat.le_of_ble_eq_true rfl) (Nat.le_of_ble_eq_true rfl) dX10_init_114 (fun q24 H hP hD hS => ?_)
  have hP : va_P (dC, dI) cls [(h_xx, .inr (7, [.ref q1, .ref q6, .ref q9, .ref q12, .ref q15, .ref q18, .ref q21, .null])), (q1, .inr (4, [.ref q4, .int 0, .int 0, .int (-1), .null, (v3 5), .int 0, .int 0, .int 0, .int 0, .long 0])), (q4, .inl (y5, 600, .inl (fun _ => 0))), (q6, .inr (5, [(v8 0), (v8 1), (v8 2), (v8 3), .int 0, (v8 5), (v8 6), (v8 7), (v8 8), .int 0])), (q9, .inr (5, [(v11 0), (v11 1), (v11 2), (v11 3), .int 0, (v11 5), (v11 6), (v11 7), (v11 8), .int 0])), (q12, .inr (1, [.ref q6, (v14 1), (v14 2), .int 0, (v14 4), (v14 5), .int 0, (v14 7), (v14 8), .int 0, (v14 10), (v14 11), .int 0])), (q15, .inr (6, [.ref q6, .ref q12, (v17 2), .int 0, (v17 4), .int 0, (v17 6), .int 0])), (q18, .inr (3, [.ref q6, .ref q12, (v20 2), .int 0, (v20 4), .int 0, (v20 6), .int 0, (v20 8), .int 0, .int 0, .int 0, .int 0, .int 0, .int 0, .int 0, .int 0, .int 0])), (q21, .inr (2, [.ref q6, .ref q12, .ref q18, (v23 3), .int 0, (v23 5), .int 0, (v23 7), (v23 8), (v23 9), .int (-2), .int 0])), (q24, .inr (0, [.null, .null, .null, .null, .int 0, .int 0]))] H := hP
  have hD : va_D A [(h_xx, .inr (7, [.ref q1, .ref q6, .ref q9, .ref q12, .ref q15, .ref q18, .ref q21, .null])), (q1, .inr (4, [.ref q4, .int 0, .int 0, .int (-1), .null, (v3 5), .int 0, .int 0, .int 0, .int 0, .long 0])), (q4, .inl (y5, 600, .inl (fun _ => 0))), (q6, .inr (5, [(v8 0), (v8 1), (v8 2), (v8 3), .int 0, (v8 5), (v8 6), (v8 7), (v8 8), .int 0])), (q9, .inr (5, [(v11 0), (v11 1), (v11 2), (v11 3), .int 0, (v11 5), (v11 6), (v11 7), (v11 8), .int 0])), (q12, .inr (1, [.ref q6, (v14 1), (v14 2), .int 0, (v14 4), (v14 5), .int 0, (v14 7), (v14 8), .int 0, (v14 10), (v14 11), .int 0])), (q15, .inr (6, [.ref q6, .ref q12, (v17 2), .int 0, (v17 4), .int 0, (v17 6), .int 0])), (q18, .inr (3, [.ref q6, .ref q12, (v20 2), .int 0, (v20 4), .int 0, (v20 6), .int 0, (v20 8), .int 0, .int 0, .int 0, .int 0, .int 0, .int 0, .int 0, .int 0, .int 0])), (q21, .inr (2, [.ref q6, .ref q12, .ref q18, (v23 3), .int 0, (v23 5), .int 0, (v23 7), (v23 8), (v23 9), .int (-2), .int 0])), (q24, .inr (0, [.null, .null, .null, .null, .int 0, .int 0]))] := hD
  refine lv_dup hx hb dX10_init_117 rfl ?_
  have hPc := hP.sub (ws' := [(q24, .inr (0, [.null, .null, .null, .null, .int 0, .int 0]))]) [9] rfl
  have hDc := hD.sub (ws' := [(q24, .inr (0, [.null, .null, .null, .null, .int 0, .int 0]))]) [9] (by decide) rfl
  have hKc := hK.sub (tys' := []) [] rfl
  have hFc := va_free (wc := [(q24, .inr (0, [.null, .null, .null, .null, .int 0, .int 0]))]) hD hS hA [9] rfl
  refine va_callv (va_runIN (As := []) (rest := [.ref q24, .ref h_xx]) ⟨hx, hb, hml, hown, hts⟩ (c_X0_init l dC dI H.size q24) ⟨va_cnB (host := "OppositePairs") 0 hts (gd hT w_code_X0_init) rfl rfl rfl (hN _ n_m_X10_62) (hw _ w_ini_X0) (by decide +kernel) ⟨(Nat.le_of_ble_eq_true rfl), (Nat.le_of_ble_eq_true rfl)⟩, rfl, hw _ w_instanceMethod_X0_init⟩ ⟨pre_blind, pre_of hPc hKc hDc hN⟩ rfl rfl hl.1 rfl (lv_room (Nat.le_of_ble_eq_true rfl)) dX10_init_118 ⟨(Nat.le_of_ble_eq_true rfl), (Nat.le_of_ble_eq_true rfl)⟩) hS (fun q _ h => hFc q h) hFc (fun u t H locs ht hvm hq hB hz1 hk1 hS => ?_)
  obtain ⟨v26, rfl⟩ : ∃ z, z = u := ⟨_, rfl⟩
  obtain ⟨hP1, hK1, hD1⟩ := hB
  rw [ht] at hP1
  have hK1 := va_K.moved hvm.symm hK1
  obtain ⟨hP, hD⟩ := va_join (wr := [(h_xx, .inr (7, [.ref q1, .ref q6, .ref q9, .ref q12, .ref q15, .ref q18, .ref q21, .null])), (q1, .inr (4, [.ref q4, .int 0, .int 0, .int (-1), .null, (v3 5), .int 0, .int 0, .int 0, .int 0, .long 0])), (q4, .inl (y5, 600, .inl (fun _ => 0))), (q6, .inr (5, [(v8 0), (v8 1), (v8 2), (v8 3), .int 0, (v8 5), (v8 6), (v8 7), (v8 8), .int 0])), (q9, .inr (5, [(v11 0), (v11 1), (v11 2), (v11 3), .int 0, (v11 5), (v11 6), (v11 7), (v11 8), .int 0])), (q12, .inr (1, [.ref q6, (v14 1), (v14 2), .int 0, (v14 4), (v14 5), .int 0, (v14 7), (v14 8), .int 0, (v14 10), (v14 11), .int 0])), (q15, .inr (6, [.ref q6, .ref q12, (v17 2), .int 0, (v17 4), .int 0, (v17 6), .int 0])), (q18, .inr (3, [.ref q6, .ref q12, (v20 2), .int 0, (v20 4), .int 0, (v20 6), .int 0, (v20 8), .int 0, .int 0, .int 0, .int 0, .int 0, .int 0, .int 0, .int 0, .int 0])), (q21, .inr (2, [.ref q6, .ref q12, .ref q18, (v23 3), .int 0, (v23 5), .int 0, (v23 7), (v23 8), (v23 9), .int (-2), .int 0]))]) (w1 := [(q24, .inr (0, [(v26 0), (v26 1), (v26 2), (v26 3), .int 0, .int 0]))]) hP hD [9] [0, 1, 2, 3, 4, 5, 6, 7, 8] rfl rfl (by decide) (by decide) hk1 hFc hP1 hD1
  have hP : va_P (dC, dI) cls [(h_xx, .inr (7, [.ref q1, .ref q6, .ref q9, .ref q12, .ref q15, .ref q18, .ref q21, .null])), (q1, .inr (4, [.ref q4, .int 0, .int 0, .int (-1), .null, (v3 5), .int 0, .int 0, .int 0, .int 0, .long 0])), (q4, .inl (y5, 600, .inl (fun _ => 0))), (q6, .inr (5, [(v8 0), (v8 1), (v8 2), (v8 3), .int 0, (v8 5), (v8 6), (v8 7), (v8 8), .int 0])), (q9, .inr (5, [(v11 0), (v11 1), (v11 2), (v11 3), .int 0, (v11 5), (v11 6), (v11 7), (v11 8), .int 0])), (q12, .inr (1, [.ref q6, (v14 1), (v14 2), .int 0, (v14 4), (v14 5), .int 0, (v14 7), (v14 8), .int 0, (v14 10), (v14 11), .int 0])), (q15, .inr (6, [.ref q6, .ref q12, (v17 2), .int 0, (v17 4), .int 0, (v17 6), .int 0])), (q18, .inr (3, [.ref q6, .ref q12, (v20 2), .int 0, (v20 4), .int 0, (v20 6), .int 0, (v20 8), .int 0, .int 0, .int 0, .int 0, .int 0, .int 0, .int 0, .int 0, .int 0])), (q21, .inr (2, [.ref q6, .ref q12, .ref q18, (v23 3), .int 0, (v23 5), .int 0, (v23 7), (v23 8), (v23 9), .int (-2), .int 0])), (q24, .inr (0, [(v26 0), (v26 1), (v26 2), (v26 3), .int 0, .int 0]))] H := hP
  have hD : va_D A [(h_xx, .inr (7, [.ref q1, .ref q6, .ref q9, .ref q12, .ref q15, .ref q18, .ref q21, .null])), (q1, .inr (4, [.ref q4, .int 0, .int 0, .int (-1), .null, (v3 5), .int 0, .int 0, .int 0, .int 0, .long 0])), (q4, .inl (y5, 600, .inl (fun _ => 0))), (q6, .inr (5, [(v8 0), (v8 1), (v8 2), (v8 3), .int 0, (v8 5), (v8 6), (v8 7), (v8 8), .int 0])), (q9, .inr (5, [(v11 0), (v11 1), (v11 2), (v11 3), .int 0, (v11 5), (v11 6), (v11 7), (v11 8), .int 0])), (q12, .inr (1, [.ref q6, (v14 1), (v14 2), .int 0, (v14 4), (v14 5), .int 0, (v14 7), (v14 8), .int 0, (v14 10), (v14 11), .int 0])), (q15, .inr (6, [.ref q6, .ref q12, (v17 2), .int 0, (v17 4), .int 0, (v17 6), .int 0])), (q18, .inr (3, [.ref q6, .ref q12, (v20 2), .int 0, (v20 4), .int 0, (v20 6), .int 0, (v20 8), .int 0, .int 0, .int 0, .int 0, .int 0, .int 0, .int 0, .int 0, .int 0])), (q21, .inr (2, [.ref q6, .ref q12, .ref q18, (v23 3), .int 0, (v23 5), .int 0, (v23 7), (v23 8), (v23 9), .int (-2), .int 0])), (q24, .inr (0, [(v26 0), (v26 1), (v26 2), (v26 3), .int 0, .int 0]))] := hD
  refine va_putF (D := (dC, dI)) (ci := 7) (v := .ref q24) (ty := tyX10 7) (C := RX10) (T := TX10) (N := 8) hx hb hw iwX10 tyX10 tyX10_ok nmX10 hown hK hP hD hS 0 rfl rfl 7 (by decide) (hw _ w_f_X10_63) (fun _ h9 => h9) rfl hin rfl (tyX10_ok 7 (by decide)) rfl rfl (Nat.le_of_ble_eq_true rfl) dX10_init_121 (fun H locs hP hD hS => ?_)
  have hP : va_P (dC, dI) cls [(h_xx, .inr (7, [.ref q1, .ref q6, .ref q9, .ref q12, .ref q15, .ref q18, .ref q21, .ref q24])), (q1, .inr (4, [.ref q4, .int 0, .int 0, .int (-1), .null, (v3 5), .int 0, .int 0, .int 0, .int 0, .long 0])), (q4, .inl (y5, 600, .inl (fun _ => 0))), (q6, .inr (5, [(v8 0), (v8 1), (v8 2), (v8 3), .int 0, (v8 5), (v8 6), (v8 7), (v8 8), .int 0])), (q9, .inr (5, [(v11 0), (v11 1), (v11 2), (v11 3), .int 0, (v11 5), (v11 6), (v11 7), (v11 8), .int 0])), (q12, .inr (1, [.ref q6, (v14 1), (v14 2), .int 0, (v14 4), (v14 5), .int 0, (v14 7), (v14 8), .int 0, (v14 10), (v14 11), .int 0])), (q15, .inr (6, [.ref q6, .ref q12, (v17 2), .int 0, (v17 4), .int 0, (v17 6), .int 0])), (q18, .inr (3, [.ref q6, .ref q12, (v20 2), .int 0, (v20 4), .int 0, (v20 6), .int 0, (v20 8), .int 0, .int 0, .int 0, .int 0, .int 0, .int 0, .int 0, .int 0, .int 0])), (q21, .inr (2, [.ref q6, .ref q12, .ref q18, (v23 3), .int 0, (v23 5), .int 0, (v23 7), (v23 8), (v23 9), .int (-2), .int 0])), (q24, .inr (0, [(v26 0), (v26 1), (v26 2), (v26 3), .int 0, .int 0]))] H := hP
  have hD : va_D A [(h_xx, .inr (7, [.ref q1, .ref q6, .ref q9, .ref q12, .ref q15, .ref q18, .ref q21, .ref q24])), (q1, .inr (4, [.ref q4, .int 0, .int 0, .int (-1), .null, (v3 5), .int 0, .int 0, .int 0, .int 0, .long 0])), (q4, .inl (y5, 600, .inl (fun _ => 0))), (q6, .inr (5, [(v8 0), (v8 1), (v8 2), (v8 3), .int 0, (v8 5), (v8 6), (v8 7), (v8 8), .int 0])), (q9, .inr (5, [(v11 0), (v11 1), (v11 2), (v11 3), .int 0, (v11 5), (v11 6), (v11 7), (v11 8), .int 0])), (q12, .inr (1, [.ref q6, (v14 1), (v14 2), .int 0, (v14 4), (v14 5), .int 0, (v14 7), (v14 8), .int 0, (v14 10), (v14 11), .int 0])), (q15, .inr (6, [.ref q6, .ref q12, (v17 2), .int 0, (v17 4), .int 0, (v17 6), .int 0])), (q18, .inr (3, [.ref q6, .ref q12, (v20 2), .int 0, (v20 4), .int 0, (v20 6), .int 0, (v20 8), .int 0, .int 0, .int 0, .int 0, .int 0, .int 0, .int 0, .int 0, .int 0])), (q21, .inr (2, [.ref q6, .ref q12, .ref q18, (v23 3), .int 0, (v23 5), .int 0, (v23 7), (v23 8), (v23 9), .int (-2), .int 0])), (q24, .inr (0, [(v26 0), (v26 1), (v26 2), (v26 3), .int 0, .int 0]))] := hD
  refine W.widen (k := 50) (n := 26797) (Nat.le_of_ble_eq_true rfl) (Nat.le_of_ble_eq_true rfl) ?_
  have hK9 := hK.sub (tys' := [(y5, .int)]) [0] rfl
  exact W.vret hx hb hr (fun t ht hW => ⟨⟨(q1, q6, q9, q12, q15, q18, q21, q24, q4, v3, y5, v8, v11, v14, v17, v20, v23, v26), rfl, trivial, by rw [ht]; exact hP, va_K.moved hW.alike hK9, hD⟩, hS.F ht⟩) hS.2.2 dX10_init_124
end
section
set_option maxHeartbeats 4000000 in
set_option maxRecDepth 100000 in
theorem c_X5_take_0 (l : Launch) (dC : Nat → ClassId) (dI : Nat → Nat → Nat) (sz : Nat) (h_rd : Nat) (h_by : Nat) (v_rd : Nat → Value) (cy_by : ClassId) (f_by : Nat → Int32) (p1 : Int32) : Met l yX5_take (Ws yX5_take cX5_take 3 none) ({ frames := 0, cells := 0, slots := 0, locals := 0 }) (PRE (dC, dI) cls [(cy_by, .int)] [(h_rd, .inr (4, [.ref h_by, .int 0, (v_rd 2), (v_rd 3), (v_rd 4), (v_rd 5), (v_rd 6), (v_rd 7), (v_rd 8), (v_rd 9), (v_rd 10)])), (h_by, .inl (cy_by, 600, .inl f_by))] sz [.ref h_rd, .int p1]) (va_Qv (fun (_ : (Nat → Int32)) => True) (fun (u : (Nat → Int32)) (t : State) => va_P (dC, dI) cls [(h_rd, .inr (4, [.ref h_by, .int 4, (v_rd 2), (v_rd 3), (v_rd 4), (v_rd 5), (v_rd 6), (v_rd 7), (v_rd 8), (v_rd 9), (v_rd 10)])), (h_by, .inl (cy_by, 600, .inl u))] t.heap ∧ va_K (dC, dI) cls [] t ∧ va_D (va_A [(h_rd, .inr (4, [.ref h_by, .int 0, (v_rd 2), (v_rd 3), (v_rd 4), (v_rd 5), (v_rd 6), (v_rd 7), (v_rd 8), (v_rd 9), (v_rd 10)])), (h_by, .inl (cy_by, 600, .inl f_by))] sz) [(h_rd, .inr (4, [.ref h_by, .int 4, (v_rd 2), (v_rd 3), (v_rd 4), (v_rd 5), (v_rd 6), (v_rd 7), (v_rd 8), (v_rd 9), (v_rd 10)])), (h_by, .inl (cy_by, 600, .inl u))]) (va_A [(h_rd, .inr (4, [.ref h_by, .int 0, (v_rd 2), (v_rd 3), (v_rd 4), (v_rd 5), (v_rd 6), (v_rd 7), (v_rd 8), (v_rd 9), (v_rd 10)])), (h_by, .inl (cy_by, 600, .inl f_by))] sz)) 0 0 (va_A [(h_rd, .inr (4, [.ref h_by, .int 0, (v_rd 2), (v_rd 3), (v_rd 4), (v_rd 5), (v_rd 6), (v_rd 7), (v_rd 8), (v_rd 9), (v_rd 10)])), (h_by, .inl (cy_by, 600, .inl f_by))] sz) := by
  refine Met.ofW (cc := cX5_take) (maxL := 3) (ret := none) (by decide) rfl ?_
  intro p e s m args below meth c s₁ B hml hv
  obtain ⟨rfl, hsz, hP, hK, hD0, hN⟩ := hv
  have hx := B.exec
  have hb := B.bytes
  have hr := B.returns
  have hts := atoms_spec (ws := Ws yX5_take cX5_take 3 none) B.pre
  have hT : ∀ w ∈ WALL, w ∈ Ws yX5_take cX5_take 3 none := fun w h => List.mem_cons_of_mem _ h
  have hw := fun w (h : w ∈ WALL) => hts w (hT w h)
  have hown : s.vm.findClass RX5 = some m.cls := findClass_of_methodNamed B.named
  have hlocks := B.notSynchronized
  subst hsz
  have hD := hD0.self (sz := s.heap.size)
  generalize hAe : va_A [(h_rd, .inr (4, [.ref h_by, .int 0, (v_rd 2), (v_rd 3), (v_rd 4), (v_rd 5), (v_rd 6), (v_rd 7), (v_rd 8), (v_rd 9), (v_rd 10)])), (h_by, .inl (cy_by, 600, .inl f_by))] s.heap.size = A at hD ⊢
  have hA : ∀ q : Nat, s.heap.size ≤ q → A q := fun q h => by rw [← hAe]; exact Or.inr h
  have hS : va_S A s.heap s.heap [] := va_S.rf
  have hl := lv_entry ([.ref h_rd, .int p1]) (n := 3) (Nat.le_of_ble_eq_true rfl)
  rw [lg_entry_eq]
  generalize (lg_sl ([.ref h_rd, .int p1]) ++ List.replicate (3 - (lg_sl ([.ref h_rd, .int p1])).length) Slot.unset).toArray = ls at hl ⊢
  have hl : lv_has ls 3 [(0, .ref h_rd), (1, .int p1)] := hl
  refine lv_bipush (v := 24) hx hb dX5_take_0 (by decide) ?_
  refine lv_istore_n (lv' := [(2, .int 24), (0, .ref h_rd), (1, .int p1)]) hx hb dX5_take_2 rfl hl (by decide) rfl (fun ls hl => ?_)
  refine lv_iload_n hx hb dX5_take_3 rfl (lv_at hl 0 rfl) ?_
  refine lv_if_lt (tgt := 46) hx hb dX5_take_4 (by decide) (fun c9 => absurd c9 (by decide)) (fun _ => ?_)
  refine lv_aload_n hx hb dX5_take_7 rfl (lv_at hl 1 rfl) ?_
  refine va_get (D := (dC, dI)) (ci := 4) (v := .int 0) (C := RX5) (T := TX5) (N := 11) hx hb hw iwX5 hown hK hP 0 rfl rfl 1 (by decide) (hw _ w_f_X5_22) (fun _ h9 => h9) rfl dX5_take_8 ?_
  refine lv_sipush (v := 600) hx hb dX5_take_11 (by decide) ?_
  refine lv_icmp_ge (tgt := 46) hx hb dX5_take_14 (by decide) (fun c9 => absurd c9 (by decide)) (fun _ => ?_)
  refine lv_aload_n hx hb dX5_take_17 rfl (lv_at hl 1 rfl) ?_
  refine va_get (D := (dC, dI)) (ci := 4) (v := .ref h_by) (C := RX5) (T := TX5) (N := 11) hx hb hw iwX5 hown hK hP 0 rfl rfl 0 (by decide) (hw _ w_f_X5_9) (fun _ h9 => h9) rfl dX5_take_18 ?_
  refine lv_aload_n hx hb dX5_take_21 rfl (lv_at hl 1 rfl) ?_
  refine lv_dup hx hb dX5_take_22 rfl ?_
  refine va_get (D := (dC, dI)) (ci := 4) (v := .int 0) (C := RX5) (T := TX5) (N := 11) hx hb hw iwX5 hown hK hP 0 rfl rfl 1 (by decide) (hw _ w_f_X5_22) (fun _ h9 => h9) rfl dX5_take_23 ?_
  refine lv_dup_x1 hx hb dX5_take_26 rfl rfl ?_
  refine lv_iconst (v := 1) hx hb dX5_take_27 (by decide) ?_
  refine lv_iadd hx hb dX5_take_28 ?_
  refine lv_topi (fun z1 ez1 => ?_)
  obtain rfl : z1 = 1 := ez1.trans (by decide)
  refine va_put (D := (dC, dI)) (ci := 4) (v := .int 1) (ty := tyX5 1) (C := RX5) (T := TX5) (N := 11) hx hb hw iwX5 tyX5 tyX5_ok nmX5 hown hK hP hD hS 0 rfl rfl 1 (by decide) (hw _ w_f_X5_22) (fun _ h9 => h9) rfl (tyX5_ok 1 (by decide)) rfl rfl (Nat.le_of_ble_eq_true rfl) dX5_take_29 (fun H locs hP hD hS => ?_)
  have hP : va_P (dC, dI) cls [(h_rd, .inr (4, [.ref h_by, .int 1, (v_rd 2), (v_rd 3), (v_rd 4), (v_rd 5), (v_rd 6), (v_rd 7), (v_rd 8), (v_rd 9), (v_rd 10)])), (h_by, .inl (cy_by, 600, .inl f_by))] H := hP
  have hD : va_D A [(h_rd, .inr (4, [.ref h_by, .int 1, (v_rd 2), (v_rd 3), (v_rd 4), (v_rd 5), (v_rd 6), (v_rd 7), (v_rd 8), (v_rd 9), (v_rd 10)])), (h_by, .inl (cy_by, 600, .inl f_by))] := hD
  refine lv_iload_n hx hb dX5_take_32 rfl (lv_at hl 2 rfl) ?_
  refine lv_iload_n hx hb dX5_take_33 rfl (lv_at hl 0 rfl) ?_
  refine lv_ishr hx hb dX5_take_34 ?_
  refine lv_topi (fun z2 ez2 => ?_)
  refine lv_sipush (v := 255) hx hb dX5_take_35 (by decide) ?_
  refine lv_iand hx hb dX5_take_38 ?_
  refine lv_topi (fun z3 ez3 => ?_)
  refine va_iast hx hb hK hP hD hS 1 0 rfl rfl (i := 0) (x := z3) (show ¬ _ from by decide) dX5_take_39 (fun H locs hP hD hS => ?_)
  obtain ⟨f4, ef4⟩ : ∃ g : Nat → Int32, g = upd f_by (Int32.toNatClampNeg 0) z3 := ⟨_, rfl⟩
  have hP : va_P (dC, dI) cls [(h_rd, .inr (4, [.ref h_by, .int 1, (v_rd 2), (v_rd 3), (v_rd 4), (v_rd 5), (v_rd 6), (v_rd 7), (v_rd 8), (v_rd 9), (v_rd 10)])), (h_by, .inl (cy_by, 600, .inl f4))] H := by rw [ef4]; exact hP
  have hD : va_D A [(h_rd, .inr (4, [.ref h_by, .int 1, (v_rd 2), (v_rd 3), (v_rd 4), (v_rd 5), (v_rd 6), (v_rd 7), (v_rd 8), (v_rd 9), (v_rd 10)])), (h_by, .inl (cy_by, 600, .inl f4))] := by rw [ef4]; exact hD
  clear ef4
  refine lv_iinc (v := 16) (lv' := [(2, .int 16), (0, .ref h_rd), (1, .int p1)]) hx hb dX5_take_40 hl (k := 0) rfl (by decide) (by decide) rfl (fun ls hl => ?_)
  refine lv_goto (tgt := 3) hx hb dX5_take_43 (by decide) ?_
  refine lv_iload_n hx hb dX5_take_3 rfl (lv_at hl 0 rfl) ?_
  refine lv_if_lt (tgt := 46) hx hb dX5_take_4 (by decide) (fun c9 => absurd c9 (by decide)) (fun _ => ?_)
  refine lv_aload_n hx hb dX5_take_7 rfl (lv_at hl 1 rfl) ?_
  refine va_get (D := (dC, dI)) (ci := 4) (v := .int 1) (C := RX5) (T := TX5) (N := 11) hx hb hw iwX5 hown hK hP 0 rfl rfl 1 (by decide) (hw _ w_f_X5_22) (fun _ h9 => h9) rfl dX5_take_8 ?_
  refine lv_sipush (v := 600) hx hb dX5_take_11 (by decide) ?_
  refine lv_icmp_ge (tgt := 46) hx hb dX5_take_14 (by decide) (fun c9 => absurd c9 (by decide)) (fun _ => ?_)
  refine lv_aload_n hx hb dX5_take_17 rfl (lv_at hl 1 rfl) ?_
  refine va_get (D := (dC, dI)) (ci := 4) (v := .ref h_by) (C := RX5) (T := TX5) (N := 11) hx hb hw iwX5 hown hK hP 0 rfl rfl 0 (by decide) (hw _ w_f_X5_9) (fun _ h9 => h9) rfl dX5_take_18 ?_
  refine lv_aload_n hx hb dX5_take_21 rfl (lv_at hl 1 rfl) ?_
  refine lv_dup hx hb dX5_take_22 rfl ?_
  refine va_get (D := (dC, dI)) (ci := 4) (v := .int 1) (C := RX5) (T := TX5) (N := 11) hx hb hw iwX5 hown hK hP 0 rfl rfl 1 (by decide) (hw _ w_f_X5_22) (fun _ h9 => h9) rfl dX5_take_23 ?_
  refine lv_dup_x1 hx hb dX5_take_26 rfl rfl ?_
  refine lv_iconst (v := 1) hx hb dX5_take_27 (by decide) ?_
  refine lv_iadd hx hb dX5_take_28 ?_
  refine lv_topi (fun z5 ez5 => ?_)
  obtain rfl : z5 = 2 := ez5.trans (by decide)
  refine va_put (D := (dC, dI)) (ci := 4) (v := .int 2) (ty := tyX5 1) (C := RX5) (T := TX5) (N := 11) hx hb hw iwX5 tyX5 tyX5_ok nmX5 hown hK hP hD hS 0 rfl rfl 1 (by decide) (hw _ w_f_X5_22) (fun _ h9 => h9) rfl (tyX5_ok 1 (by decide)) rfl rfl (Nat.le_of_ble_eq_true rfl) dX5_take_29 (fun H locs hP hD hS => ?_)
  have hP : va_P (dC, dI) cls [(h_rd, .inr (4, [.ref h_by, .int 2, (v_rd 2), (v_rd 3), (v_rd 4), (v_rd 5), (v_rd 6), (v_rd 7), (v_rd 8), (v_rd 9), (v_rd 10)])), (h_by, .inl (cy_by, 600, .inl f4))] H := hP
  have hD : va_D A [(h_rd, .inr (4, [.ref h_by, .int 2, (v_rd 2), (v_rd 3), (v_rd 4), (v_rd 5), (v_rd 6), (v_rd 7), (v_rd 8), (v_rd 9), (v_rd 10)])), (h_by, .inl (cy_by, 600, .inl f4))] := hD
  refine lv_iload_n hx hb dX5_take_32 rfl (lv_at hl 2 rfl) ?_
  refine lv_iload_n hx hb dX5_take_33 rfl (lv_at hl 0 rfl) ?_
  refine lv_ishr hx hb dX5_take_34 ?_
  refine lv_topi (fun z6 ez6 => ?_)
  refine lv_sipush (v := 255) hx hb dX5_take_35 (by decide) ?_
  refine lv_iand hx hb dX5_take_38 ?_
  refine lv_topi (fun z7 ez7 => ?_)
  refine va_iast hx hb hK hP hD hS 1 0 rfl rfl (i := 1) (x := z7) (show ¬ _ from by decide) dX5_take_39 (fun H locs hP hD hS => ?_)
  obtain ⟨f8, ef8⟩ : ∃ g : Nat → Int32, g = upd f4 (Int32.toNatClampNeg 1) z7 := ⟨_, rfl⟩
  have hP : va_P (dC, dI) cls [(h_rd, .inr (4, [.ref h_by, .int 2, (v_rd 2), (v_rd 3), (v_rd 4), (v_rd 5), (v_rd 6), (v_rd 7), (v_rd 8), (v_rd 9), (v_rd 10)])), (h_by, .inl (cy_by, 600, .inl f8))] H := by rw [ef8]; exact hP
  have hD : va_D A [(h_rd, .inr (4, [.ref h_by, .int 2, (v_rd 2), (v_rd 3), (v_rd 4), (v_rd 5), (v_rd 6), (v_rd 7), (v_rd 8), (v_rd 9), (v_rd 10)])), (h_by, .inl (cy_by, 600, .inl f8))] := by rw [ef8]; exact hD
  clear ef8
  refine lv_iinc (v := 8) (lv' := [(2, .int 8), (0, .ref h_rd), (1, .int p1)]) hx hb dX5_take_40 hl (k := 0) rfl (by decide) (by decide) rfl (fun ls hl => ?_)
  refine lv_goto (tgt := 3) hx hb dX5_take_43 (by decide) ?_
  refine lv_iload_n hx hb dX5_take_3 rfl (lv_at hl 0 rfl) ?_
  refine lv_if_lt (tgt := 46) hx hb dX5_take_4 (by decide) (fun c9 => absurd c9 (by decide)) (fun _ => ?_)
  refine lv_aload_n hx hb dX5_take_7 rfl (lv_at hl 1 rfl) ?_
  refine va_get (D := (dC, dI)) (ci := 4) (v := .int 2) (C := RX5) (T := TX5) (N := 11) hx hb hw iwX5 hown hK hP 0 rfl rfl 1 (by decide) (hw _ w_f_X5_22) (fun _ h9 => h9) rfl dX5_take_8 ?_
  refine lv_sipush (v := 600) hx hb dX5_take_11 (by decide) ?_
  refine lv_icmp_ge (tgt := 46) hx hb dX5_take_14 (by decide) (fun c9 => absurd c9 (by decide)) (fun _ => ?_)
  refine lv_aload_n hx hb dX5_take_17 rfl (lv_at hl 1 rfl) ?_
  refine va_get (D := (dC, dI)) (ci := 4) (v := .ref h_by) (C := RX5) (T := TX5) (N := 11) hx hb hw iwX5 hown hK hP 0 rfl rfl 0 (by decide) (hw _ w_f_X5_9) (fun _ h9 => h9) rfl dX5_take_18 ?_
  refine lv_aload_n hx hb dX5_take_21 rfl (lv_at hl 1 rfl) ?_
  refine lv_dup hx hb dX5_take_22 rfl ?_
  refine va_get (D := (dC, dI)) (ci := 4) (v := .int 2) (C := RX5) (T := TX5) (N := 11) hx hb hw iwX5 hown hK hP 0 rfl rfl 1 (by decide) (hw _ w_f_X5_22) (fun _ h9 => h9) rfl dX5_take_23 ?_
  refine lv_dup_x1 hx hb dX5_take_26 rfl rfl ?_
  refine lv_iconst (v := 1) hx hb dX5_take_27 (by decide) ?_
  refine lv_iadd hx hb dX5_take_28 ?_
  refine lv_topi (fun z9 ez9 => ?_)
  obtain rfl : z9 = 3 := ez9.trans (by decide)
  refine va_put (D := (dC, dI)) (ci := 4) (v := .int 3) (ty := tyX5 1) (C := RX5) (T := TX5) (N := 11) hx hb hw iwX5 tyX5 tyX5_ok nmX5 hown hK hP hD hS 0 rfl rfl 1 (by decide) (hw _ w_f_X5_22) (fun _ h9 => h9) rfl (tyX5_ok 1 (by decide)) rfl rfl (Nat.le_of_ble_eq_true rfl) dX5_take_29 (fun H locs hP hD hS => ?_)
  have hP : va_P (dC, dI) cls [(h_rd, .inr (4, [.ref h_by, .int 3, (v_rd 2), (v_rd 3), (v_rd 4), (v_rd 5), (v_rd 6), (v_rd 7), (v_rd 8), (v_rd 9), (v_rd 10)])), (h_by, .inl (cy_by, 600, .inl f8))] H := hP
  have hD : va_D A [(h_rd, .inr (4, [.ref h_by, .int 3, (v_rd 2), (v_rd 3), (v_rd 4), (v_rd 5), (v_rd 6), (v_rd 7), (v_rd 8), (v_rd 9), (v_rd 10)])), (h_by, .inl (cy_by, 600, .inl f8))] := hD
  refine lv_iload_n hx hb dX5_take_32 rfl (lv_at hl 2 rfl) ?_
  refine lv_iload_n hx hb dX5_take_33 rfl (lv_at hl 0 rfl) ?_
  refine lv_ishr hx hb dX5_take_34 ?_
  refine lv_topi (fun z10 ez10 => ?_)
  refine lv_sipush (v := 255) hx hb dX5_take_35 (by decide) ?_
  refine lv_iand hx hb dX5_take_38 ?_
  refine lv_topi (fun z11 ez11 => ?_)
  refine va_iast hx hb hK hP hD hS 1 0 rfl rfl (i := 2) (x := z11) (show ¬ _ from by decide) dX5_take_39 (fun H locs hP hD hS => ?_)
  obtain ⟨f12, ef12⟩ : ∃ g : Nat → Int32, g = upd f8 (Int32.toNatClampNeg 2) z11 := ⟨_, rfl⟩
  have hP : va_P (dC, dI) cls [(h_rd, .inr (4, [.ref h_by, .int 3, (v_rd 2), (v_rd 3), (v_rd 4), (v_rd 5), (v_rd 6), (v_rd 7), (v_rd 8), (v_rd 9), (v_rd 10)])), (h_by, .inl (cy_by, 600, .inl f12))] H := by rw [ef12]; exact hP
  have hD : va_D A [(h_rd, .inr (4, [.ref h_by, .int 3, (v_rd 2), (v_rd 3), (v_rd 4), (v_rd 5), (v_rd 6), (v_rd 7), (v_rd 8), (v_rd 9), (v_rd 10)])), (h_by, .inl (cy_by, 600, .inl f12))] := by rw [ef12]; exact hD
  clear ef12
  refine lv_iinc (v := 0) (lv' := [(2, .int 0), (0, .ref h_rd), (1, .int p1)]) hx hb dX5_take_40 hl (k := 0) rfl (by decide) (by decide) rfl (fun ls hl => ?_)
  refine lv_goto (tgt := 3) hx hb dX5_take_43 (by decide) ?_
  refine lv_iload_n hx hb dX5_take_3 rfl (lv_at hl 0 rfl) ?_
  refine lv_if_lt (tgt := 46) hx hb dX5_take_4 (by decide) (fun c9 => absurd c9 (by decide)) (fun _ => ?_)
  refine lv_aload_n hx hb dX5_take_7 rfl (lv_at hl 1 rfl) ?_
  refine va_get (D := (dC, dI)) (ci := 4) (v := .int 3) (C := RX5) (T := TX5) (N := 11) hx hb hw iwX5 hown hK hP 0 rfl rfl 1 (by decide) (hw _ w_f_X5_22) (fun _ h9 => h9) rfl dX5_take_8 ?_
  refine lv_sipush (v := 600) hx hb dX5_take_11 (by decide) ?_
  refine lv_icmp_ge (tgt := 46) hx hb dX5_take_14 (by decide) (fun c9 => absurd c9 (by decide)) (fun _ => ?_)
  refine lv_aload_n hx hb dX5_take_17 rfl (lv_at hl 1 rfl) ?_
  refine va_get (D := (dC, dI)) (ci := 4) (v := .ref h_by) (C := RX5) (T := TX5) (N := 11) hx hb hw iwX5 hown hK hP 0 rfl rfl 0 (by decide) (hw _ w_f_X5_9) (fun _ h9 => h9) rfl dX5_take_18 ?_
  refine lv_aload_n hx hb dX5_take_21 rfl (lv_at hl 1 rfl) ?_
  refine lv_dup hx hb dX5_take_22 rfl ?_
  refine va_get (D := (dC, dI)) (ci := 4) (v := .int 3) (C := RX5) (T := TX5) (N := 11) hx hb hw iwX5 hown hK hP 0 rfl rfl 1 (by decide) (hw _ w_f_X5_22) (fun _ h9 => h9) rfl dX5_take_23 ?_
  refine lv_dup_x1 hx hb dX5_take_26 rfl rfl ?_
  refine lv_iconst (v := 1) hx hb dX5_take_27 (by decide) ?_
  refine lv_iadd hx hb dX5_take_28 ?_
  refine lv_topi (fun z13 ez13 => ?_)
  obtain rfl : z13 = 4 := ez13.trans (by decide)
  refine va_put (D := (dC, dI)) (ci := 4) (v := .int 4) (ty := tyX5 1) (C := RX5) (T := TX5) (N := 11) hx hb hw iwX5 tyX5 tyX5_ok nmX5 hown hK hP hD hS 0 rfl rfl 1 (by decide) (hw _ w_f_X5_22) (fun _ h9 => h9) rfl (tyX5_ok 1 (by decide)) rfl rfl (Nat.le_of_ble_eq_true rfl) dX5_take_29 (fun H locs hP hD hS => ?_)
  have hP : va_P (dC, dI) cls [(h_rd, .inr (4, [.ref h_by, .int 4, (v_rd 2), (v_rd 3), (v_rd 4), (v_rd 5), (v_rd 6), (v_rd 7), (v_rd 8), (v_rd 9), (v_rd 10)])), (h_by, .inl (cy_by, 600, .inl f12))] H := hP
  have hD : va_D A [(h_rd, .inr (4, [.ref h_by, .int 4, (v_rd 2), (v_rd 3), (v_rd 4), (v_rd 5), (v_rd 6), (v_rd 7), (v_rd 8), (v_rd 9), (v_rd 10)])), (h_by, .inl (cy_by, 600, .inl f12))] := hD
  refine lv_iload_n hx hb dX5_take_32 rfl (lv_at hl 2 rfl) ?_
  refine lv_iload_n hx hb dX5_take_33 rfl (lv_at hl 0 rfl) ?_
  refine lv_ishr hx hb dX5_take_34 ?_
  refine lv_topi (fun z14 ez14 => ?_)
  refine lv_sipush (v := 255) hx hb dX5_take_35 (by decide) ?_
  refine lv_iand hx hb dX5_take_38 ?_
  refine lv_topi (fun z15 ez15 => ?_)
  refine va_iast hx hb hK hP hD hS 1 0 rfl rfl (i := 3) (x := z15) (show ¬ _ from by decide) dX5_take_39 (fun H locs hP hD hS => ?_)
  obtain ⟨f16, ef16⟩ : ∃ g : Nat → Int32, g = upd f12 (Int32.toNatClampNeg 3) z15 := ⟨_, rfl⟩
  have hP : va_P (dC, dI) cls [(h_rd, .inr (4, [.ref h_by, .int 4, (v_rd 2), (v_rd 3), (v_rd 4), (v_rd 5), (v_rd 6), (v_rd 7), (v_rd 8), (v_rd 9), (v_rd 10)])), (h_by, .inl (cy_by, 600, .inl f16))] H := by rw [ef16]; exact hP
  have hD : va_D A [(h_rd, .inr (4, [.ref h_by, .int 4, (v_rd 2), (v_rd 3), (v_rd 4), (v_rd 5), (v_rd 6), (v_rd 7), (v_rd 8), (v_rd 9), (v_rd 10)])), (h_by, .inl (cy_by, 600, .inl f16))] := by rw [ef16]; exact hD
  clear ef16
  refine lv_iinc (v := (-8)) (lv' := [(2, .int (-8)), (0, .ref h_rd), (1, .int p1)]) hx hb dX5_take_40 hl (k := 0) rfl (by decide) (by decide) rfl (fun ls hl => ?_)
  refine lv_goto (tgt := 3) hx hb dX5_take_43 (by decide) ?_
  refine lv_iload_n hx hb dX5_take_3 rfl (lv_at hl 0 rfl) ?_
  refine lv_if_lt (tgt := 46) hx hb dX5_take_4 (by decide) (fun _ => ?_) (fun c9 => absurd c9 (by decide))
  refine W.widen (k := 0) (n := 0) (Nat.le_of_ble_eq_true rfl) (Nat.le_of_ble_eq_true rfl) ?_
  have hK9 := hK.sub (tys' := []) [] rfl
  exact W.vret hx hb hr (fun t ht hW => ⟨⟨f16, rfl, trivial, by rw [ht]; exact hP, va_K.moved hW.alike hK9, hD⟩, hS.F ht⟩) hS.2.2 dX5_take_46

set_option maxHeartbeats 4000000 in
set_option maxRecDepth 100000 in
theorem c_X5_take_4 (l : Launch) (dC : Nat → ClassId) (dI : Nat → Nat → Nat) (sz : Nat) (h_rd : Nat) (h_by : Nat) (v_rd : Nat → Value) (cy_by : ClassId) (f_by : Nat → Int32) (p1 : Int32) : Met l yX5_take (Ws yX5_take cX5_take 3 none) ({ frames := 0, cells := 0, slots := 0, locals := 0 }) (PRE (dC, dI) cls [(cy_by, .int)] [(h_rd, .inr (4, [.ref h_by, .int 4, (v_rd 2), (v_rd 3), (v_rd 4), (v_rd 5), (v_rd 6), (v_rd 7), (v_rd 8), (v_rd 9), (v_rd 10)])), (h_by, .inl (cy_by, 600, .inl f_by))] sz [.ref h_rd, .int p1]) (va_Qv (fun (_ : (Nat → Int32)) => True) (fun (u : (Nat → Int32)) (t : State) => va_P (dC, dI) cls [(h_rd, .inr (4, [.ref h_by, .int 8, (v_rd 2), (v_rd 3), (v_rd 4), (v_rd 5), (v_rd 6), (v_rd 7), (v_rd 8), (v_rd 9), (v_rd 10)])), (h_by, .inl (cy_by, 600, .inl u))] t.heap ∧ va_K (dC, dI) cls [] t ∧ va_D (va_A [(h_rd, .inr (4, [.ref h_by, .int 4, (v_rd 2), (v_rd 3), (v_rd 4), (v_rd 5), (v_rd 6), (v_rd 7), (v_rd 8), (v_rd 9), (v_rd 10)])), (h_by, .inl (cy_by, 600, .inl f_by))] sz) [(h_rd, .inr (4, [.ref h_by, .int 8, (v_rd 2), (v_rd 3), (v_rd 4), (v_rd 5), (v_rd 6), (v_rd 7), (v_rd 8), (v_rd 9), (v_rd 10)])), (h_by, .inl (cy_by, 600, .inl u))]) (va_A [(h_rd, .inr (4, [.ref h_by, .int 4, (v_rd 2), (v_rd 3), (v_rd 4), (v_rd 5), (v_rd 6), (v_rd 7), (v_rd 8), (v_rd 9), (v_rd 10)])), (h_by, .inl (cy_by, 600, .inl f_by))] sz)) 0 0 (va_A [(h_rd, .inr (4, [.ref h_by, .int 4, (v_rd 2), (v_rd 3), (v_rd 4), (v_rd 5), (v_rd 6), (v_rd 7), (v_rd 8), (v_rd 9), (v_rd 10)])), (h_by, .inl (cy_by, 600, .inl f_by))] sz) := by
  refine Met.ofW (cc := cX5_take) (maxL := 3) (ret := none) (by decide) rfl ?_
  intro p e s m args below meth c s₁ B hml hv
  obtain ⟨rfl, hsz, hP, hK, hD0, hN⟩ := hv
  have hx := B.exec
  have hb := B.bytes
  have hr := B.returns
  have hts := atoms_spec (ws := Ws yX5_take cX5_take 3 none) B.pre
  have hT : ∀ w ∈ WALL, w ∈ Ws yX5_take cX5_take 3 none := fun w h => List.mem_cons_of_mem _ h
  have hw := fun w (h : w ∈ WALL) => hts w (hT w h)
  have hown : s.vm.findClass RX5 = some m.cls := findClass_of_methodNamed B.named
  have hlocks := B.notSynchronized
  subst hsz
  have hD := hD0.self (sz := s.heap.size)
  generalize hAe : va_A [(h_rd, .inr (4, [.ref h_by, .int 4, (v_rd 2), (v_rd 3), (v_rd 4), (v_rd 5), (v_rd 6), (v_rd 7), (v_rd 8), (v_rd 9), (v_rd 10)])), (h_by, .inl (cy_by, 600, .inl f_by))] s.heap.size = A at hD ⊢
  have hA : ∀ q : Nat, s.heap.size ≤ q → A q := fun q h => by rw [← hAe]; exact Or.inr h
  have hS : va_S A s.heap s.heap [] := va_S.rf
  have hl := lv_entry ([.ref h_rd, .int p1]) (n := 3) (Nat.le_of_ble_eq_true rfl)
  rw [lg_entry_eq]
  generalize (lg_sl ([.ref h_rd, .int p1]) ++ List.replicate (3 - (lg_sl ([.ref h_rd, .int p1])).length) Slot.unset).toArray = ls at hl ⊢
  have hl : lv_has ls 3 [(0, .ref h_rd), (1, .int p1)] := hl
  refine lv_bipush (v := 24) hx hb dX5_take_0 (by decide) ?_
  refine lv_istore_n (lv' := [(2, .int 24), (0, .ref h_rd), (1, .int p1)]) hx hb dX5_take_2 rfl hl (by decide) rfl (fun ls hl => ?_)
  refine lv_iload_n hx hb dX5_take_3 rfl (lv_at hl 0 rfl) ?_
  refine lv_if_lt (tgt := 46) hx hb dX5_take_4 (by decide) (fun c9 => absurd c9 (by decide)) (fun _ => ?_)
  refine lv_aload_n hx hb dX5_take_7 rfl (lv_at hl 1 rfl) ?_
  refine va_get (D := (dC, dI)) (ci := 4) (v := .int 4) (C := RX5) (T := TX5) (N := 11) hx hb hw iwX5 hown hK hP 0 rfl rfl 1 (by decide) (hw _ w_f_X5_22) (fun _ h9 => h9) rfl dX5_take_8 ?_
  refine lv_sipush (v := 600) hx hb dX5_take_11 (by decide) ?_
  refine lv_icmp_ge (tgt := 46) hx hb dX5_take_14 (by decide) (fun c9 => absurd c9 (by decide)) (fun _ => ?_)
  refine lv_aload_n hx hb dX5_take_17 rfl (lv_at hl 1 rfl) ?_
  refine va_get (D := (dC, dI)) (ci := 4) (v := .ref h_by) (C := RX5) (T := TX5) (N := 11) hx hb hw iwX5 hown hK hP 0 rfl rfl 0 (by decide) (hw _ w_f_X5_9) (fun _ h9 => h9) rfl dX5_take_18 ?_
  refine lv_aload_n hx hb dX5_take_21 rfl (lv_at hl 1 rfl) ?_
  refine lv_dup hx hb dX5_take_22 rfl ?_
  refine va_get (D := (dC, dI)) (ci := 4) (v := .int 4) (C := RX5) (T := TX5) (N := 11) hx hb hw iwX5 hown hK hP 0 rfl rfl 1 (by decide) (hw _ w_f_X5_22) (fun _ h9 => h9) rfl dX5_take_23 ?_
  refine lv_dup_x1 hx hb dX5_take_26 rfl rfl ?_
  refine lv_iconst (v := 1) hx hb dX5_take_27 (by decide) ?_
  refine lv_iadd hx hb dX5_take_28 ?_
  refine lv_topi (fun z1 ez1 => ?_)
  obtain rfl : z1 = 5 := ez1.trans (by decide)
  refine va_put (D := (dC, dI)) (ci := 4) (v := .int 5) (ty := tyX5 1) (C := RX5) (T := TX5) (N := 11) hx hb hw iwX5 tyX5 tyX5_ok nmX5 hown hK hP hD hS 0 rfl rfl 1 (by decide) (hw _ w_f_X5_22) (fun _ h9 => h9) rfl (tyX5_ok 1 (by decide)) rfl rfl (Nat.le_of_ble_eq_true rfl) dX5_take_29 (fun H locs hP hD hS => ?_)
  have hP : va_P (dC, dI) cls [(h_rd, .inr (4, [.ref h_by, .int 5, (v_rd 2), (v_rd 3), (v_rd 4), (v_rd 5), (v_rd 6), (v_rd 7), (v_rd 8), (v_rd 9), (v_rd 10)])), (h_by, .inl (cy_by, 600, .inl f_by))] H := hP
  have hD : va_D A [(h_rd, .inr (4, [.ref h_by, .int 5, (v_rd 2), (v_rd 3), (v_rd 4), (v_rd 5), (v_rd 6), (v_rd 7), (v_rd 8), (v_rd 9), (v_rd 10)])), (h_by, .inl (cy_by, 600, .inl f_by))] := hD
  refine lv_iload_n hx hb dX5_take_32 rfl (lv_at hl 2 rfl) ?_
  refine lv_iload_n hx hb dX5_take_33 rfl (lv_at hl 0 rfl) ?_
  refine lv_ishr hx hb dX5_take_34 ?_
  refine lv_topi (fun z2 ez2 => ?_)
  refine lv_sipush (v := 255) hx hb dX5_take_35 (by decide) ?_
  refine lv_iand hx hb dX5_take_38 ?_
  refine lv_topi (fun z3 ez3 => ?_)
  refine va_iast hx hb hK hP hD hS 1 0 rfl rfl (i := 4) (x := z3) (show ¬ _ from by decide) dX5_take_39 (fun H locs hP hD hS => ?_)
  obtain ⟨f4, ef4⟩ : ∃ g : Nat → Int32, g = upd f_by (Int32.toNatClampNeg 4) z3 := ⟨_, rfl⟩
  have hP : va_P (dC, dI) cls [(h_rd, .inr (4, [.ref h_by, .int 5, (v_rd 2), (v_rd 3), (v_rd 4), (v_rd 5), (v_rd 6), (v_rd 7), (v_rd 8), (v_rd 9), (v_rd 10)])), (h_by, .inl (cy_by, 600, .inl f4))] H := by rw [ef4]; exact hP
  have hD : va_D A [(h_rd, .inr (4, [.ref h_by, .int 5, (v_rd 2), (v_rd 3), (v_rd 4), (v_rd 5), (v_rd 6), (v_rd 7), (v_rd 8), (v_rd 9), (v_rd 10)])), (h_by, .inl (cy_by, 600, .inl f4))] := by rw [ef4]; exact hD
  clear ef4
  refine lv_iinc (v := 16) (lv' := [(2, .int 16), (0, .ref h_rd), (1, .int p1)]) hx hb dX5_take_40 hl (k := 0) rfl (by decide) (by decide) rfl (fun ls hl => ?_)
  refine lv_goto (tgt := 3) hx hb dX5_take_43 (by decide) ?_
  refine lv_iload_n hx hb dX5_take_3 rfl (lv_at hl 0 rfl) ?_
  refine lv_if_lt (tgt := 46) hx hb dX5_take_4 (by decide) (fun c9 => absurd c9 (by decide)) (fun _ => ?_)
  refine lv_aload_n hx hb dX5_take_7 rfl (lv_at hl 1 rfl) ?_
  refine va_get (D := (dC, dI)) (ci := 4) (v := .int 5) (C := RX5) (T := TX5) (N := 11) hx hb hw iwX5 hown hK hP 0 rfl rfl 1 (by decide) (hw _ w_f_X5_22) (fun _ h9 => h9) rfl dX5_take_8 ?_
  refine lv_sipush (v := 600) hx hb dX5_take_11 (by decide) ?_
  refine lv_icmp_ge (tgt := 46) hx hb dX5_take_14 (by decide) (fun c9 => absurd c9 (by decide)) (fun _ => ?_)
  refine lv_aload_n hx hb dX5_take_17 rfl (lv_at hl 1 rfl) ?_
  refine va_get (D := (dC, dI)) (ci := 4) (v := .ref h_by) (C := RX5) (T := TX5) (N := 11) hx hb hw iwX5 hown hK hP 0 rfl rfl 0 (by decide) (hw _ w_f_X5_9) (fun _ h9 => h9) rfl dX5_take_18 ?_
  refine lv_aload_n hx hb dX5_take_21 rfl (lv_at hl 1 rfl) ?_
  refine lv_dup hx hb dX5_take_22 rfl ?_
  refine va_get (D := (dC, dI)) (ci := 4) (v := .int 5) (C := RX5) (T := TX5) (N := 11) hx hb hw iwX5 hown hK hP 0 rfl rfl 1 (by decide) (hw _ w_f_X5_22) (fun _ h9 => h9) rfl dX5_take_23 ?_
  refine lv_dup_x1 hx hb dX5_take_26 rfl rfl ?_
  refine lv_iconst (v := 1) hx hb dX5_take_27 (by decide) ?_
  refine lv_iadd hx hb dX5_take_28 ?_
  refine lv_topi (fun z5 ez5 => ?_)
  obtain rfl : z5 = 6 := ez5.trans (by decide)
  refine va_put (D := (dC, dI)) (ci := 4) (v := .int 6) (ty := tyX5 1) (C := RX5) (T := TX5) (N := 11) hx hb hw iwX5 tyX5 tyX5_ok nmX5 hown hK hP hD hS 0 rfl rfl 1 (by decide) (hw _ w_f_X5_22) (fun _ h9 => h9) rfl (tyX5_ok 1 (by decide)) rfl rfl (Nat.le_of_ble_eq_true rfl) dX5_take_29 (fun H locs hP hD hS => ?_)
  have hP : va_P (dC, dI) cls [(h_rd, .inr (4, [.ref h_by, .int 6, (v_rd 2), (v_rd 3), (v_rd 4), (v_rd 5), (v_rd 6), (v_rd 7), (v_rd 8), (v_rd 9), (v_rd 10)])), (h_by, .inl (cy_by, 600, .inl f4))] H := hP
  have hD : va_D A [(h_rd, .inr (4, [.ref h_by, .int 6, (v_rd 2), (v_rd 3), (v_rd 4), (v_rd 5), (v_rd 6), (v_rd 7), (v_rd 8), (v_rd 9), (v_rd 10)])), (h_by, .inl (cy_by, 600, .inl f4))] := hD
  refine lv_iload_n hx hb dX5_take_32 rfl (lv_at hl 2 rfl) ?_
  refine lv_iload_n hx hb dX5_take_33 rfl (lv_at hl 0 rfl) ?_
  refine lv_ishr hx hb dX5_take_34 ?_
  refine lv_topi (fun z6 ez6 => ?_)
  refine lv_sipush (v := 255) hx hb dX5_take_35 (by decide) ?_
  refine lv_iand hx hb dX5_take_38 ?_
  refine lv_topi (fun z7 ez7 => ?_)
  refine va_iast hx hb hK hP hD hS 1 0 rfl rfl (i := 5) (x := z7) (show ¬ _ from by decide) dX5_take_39 (fun H locs hP hD hS => ?_)
  obtain ⟨f8, ef8⟩ : ∃ g : Nat → Int32, g = upd f4 (Int32.toNatClampNeg 5) z7 := ⟨_, rfl⟩
  have hP : va_P (dC, dI) cls [(h_rd, .inr (4, [.ref h_by, .int 6, (v_rd 2), (v_rd 3), (v_rd 4), (v_rd 5), (v_rd 6), (v_rd 7), (v_rd 8), (v_rd 9), (v_rd 10)])), (h_by, .inl (cy_by, 600, .inl f8))] H := by rw [ef8]; exact hP
  have hD : va_D A [(h_rd, .inr (4, [.ref h_by, .int 6, (v_rd 2), (v_rd 3), (v_rd 4), (v_rd 5), (v_rd 6), (v_rd 7), (v_rd 8), (v_rd 9), (v_rd 10)])), (h_by, .inl (cy_by, 600, .inl f8))] := by rw [ef8]; exact hD
  clear ef8
  refine lv_iinc (v := 8) (lv' := [(2, .int 8), (0, .ref h_rd), (1, .int p1)]) hx hb dX5_take_40 hl (k := 0) rfl (by decide) (by decide) rfl (fun ls hl => ?_)
  refine lv_goto (tgt := 3) hx hb dX5_take_43 (by decide) ?_
  refine lv_iload_n hx hb dX5_take_3 rfl (lv_at hl 0 rfl) ?_
  refine lv_if_lt (tgt := 46) hx hb dX5_take_4 (by decide) (fun c9 => absurd c9 (by decide)) (fun _ => ?_)
  refine lv_aload_n hx hb dX5_take_7 rfl (lv_at hl 1 rfl) ?_
  refine va_get (D := (dC, dI)) (ci := 4) (v := .int 6) (C := RX5) (T := TX5) (N := 11) hx hb hw iwX5 hown hK hP 0 rfl rfl 1 (by decide) (hw _ w_f_X5_22) (fun _ h9 => h9) rfl dX5_take_8 ?_
  refine lv_sipush (v := 600) hx hb dX5_take_11 (by decide) ?_
  refine lv_icmp_ge (tgt := 46) hx hb dX5_take_14 (by decide) (fun c9 => absurd c9 (by decide)) (fun _ => ?_)
  refine lv_aload_n hx hb dX5_take_17 rfl (lv_at hl 1 rfl) ?_
  refine va_get (D := (dC, dI)) (ci := 4) (v := .ref h_by) (C := RX5) (T := TX5) (N := 11) hx hb hw iwX5 hown hK hP 0 rfl rfl 0 (by decide) (hw _ w_f_X5_9) (fun _ h9 => h9) rfl dX5_take_18 ?_
  refine lv_aload_n hx hb dX5_take_21 rfl (lv_at hl 1 rfl) ?_
  refine lv_dup hx hb dX5_take_22 rfl ?_
  refine va_get (D := (dC, dI)) (ci := 4) (v := .int 6) (C := RX5) (T := TX5) (N := 11) hx hb hw iwX5 hown hK hP 0 rfl rfl 1 (by decide) (hw _ w_f_X5_22) (fun _ h9 => h9) rfl dX5_take_23 ?_
  refine lv_dup_x1 hx hb dX5_take_26 rfl rfl ?_
  refine lv_iconst (v := 1) hx hb dX5_take_27 (by decide) ?_
  refine lv_iadd hx hb dX5_take_28 ?_
  refine lv_topi (fun z9 ez9 => ?_)
  obtain rfl : z9 = 7 := ez9.trans (by decide)
  refine va_put (D := (dC, dI)) (ci := 4) (v := .int 7) (ty := tyX5 1) (C := RX5) (T := TX5) (N := 11) hx hb hw iwX5 tyX5 tyX5_ok nmX5 hown hK hP hD hS 0 rfl rfl 1 (by decide) (hw _ w_f_X5_22) (fun _ h9 => h9) rfl (tyX5_ok 1 (by decide)) rfl rfl (Nat.le_of_ble_eq_true rfl) dX5_take_29 (fun H locs hP hD hS => ?_)
  have hP : va_P (dC, dI) cls [(h_rd, .inr (4, [.ref h_by, .int 7, (v_rd 2), (v_rd 3), (v_rd 4), (v_rd 5), (v_rd 6), (v_rd 7), (v_rd 8), (v_rd 9), (v_rd 10)])), (h_by, .inl (cy_by, 600, .inl f8))] H := hP
  have hD : va_D A [(h_rd, .inr (4, [.ref h_by, .int 7, (v_rd 2), (v_rd 3), (v_rd 4), (v_rd 5), (v_rd 6), (v_rd 7), (v_rd 8), (v_rd 9), (v_rd 10)])), (h_by, .inl (cy_by, 600, .inl f8))] := hD
  refine lv_iload_n hx hb dX5_take_32 rfl (lv_at hl 2 rfl) ?_
  refine lv_iload_n hx hb dX5_take_33 rfl (lv_at hl 0 rfl) ?_
  refine lv_ishr hx hb dX5_take_34 ?_
  refine lv_topi (fun z10 ez10 => ?_)
  refine lv_sipush (v := 255) hx hb dX5_take_35 (by decide) ?_
  refine lv_iand hx hb dX5_take_38 ?_
  refine lv_topi (fun z11 ez11 => ?_)
  refine va_iast hx hb hK hP hD hS 1 0 rfl rfl (i := 6) (x := z11) (show ¬ _ from by decide) dX5_take_39 (fun H locs hP hD hS => ?_)
  obtain ⟨f12, ef12⟩ : ∃ g : Nat → Int32, g = upd f8 (Int32.toNatClampNeg 6) z11 := ⟨_, rfl⟩
  have hP : va_P (dC, dI) cls [(h_rd, .inr (4, [.ref h_by, .int 7, (v_rd 2), (v_rd 3), (v_rd 4), (v_rd 5), (v_rd 6), (v_rd 7), (v_rd 8), (v_rd 9), (v_rd 10)])), (h_by, .inl (cy_by, 600, .inl f12))] H := by rw [ef12]; exact hP
  have hD : va_D A [(h_rd, .inr (4, [.ref h_by, .int 7, (v_rd 2), (v_rd 3), (v_rd 4), (v_rd 5), (v_rd 6), (v_rd 7), (v_rd 8), (v_rd 9), (v_rd 10)])), (h_by, .inl (cy_by, 600, .inl f12))] := by rw [ef12]; exact hD
  clear ef12
  refine lv_iinc (v := 0) (lv' := [(2, .int 0), (0, .ref h_rd), (1, .int p1)]) hx hb dX5_take_40 hl (k := 0) rfl (by decide) (by decide) rfl (fun ls hl => ?_)
  refine lv_goto (tgt := 3) hx hb dX5_take_43 (by decide) ?_
  refine lv_iload_n hx hb dX5_take_3 rfl (lv_at hl 0 rfl) ?_
  refine lv_if_lt (tgt := 46) hx hb dX5_take_4 (by decide) (fun c9 => absurd c9 (by decide)) (fun _ => ?_)
  refine lv_aload_n hx hb dX5_take_7 rfl (lv_at hl 1 rfl) ?_
  refine va_get (D := (dC, dI)) (ci := 4) (v := .int 7) (C := RX5) (T := TX5) (N := 11) hx hb hw iwX5 hown hK hP 0 rfl rfl 1 (by decide) (hw _ w_f_X5_22) (fun _ h9 => h9) rfl dX5_take_8 ?_
  refine lv_sipush (v := 600) hx hb dX5_take_11 (by decide) ?_
  refine lv_icmp_ge (tgt := 46) hx hb dX5_take_14 (by decide) (fun c9 => absurd c9 (by decide)) (fun _ => ?_)
  refine lv_aload_n hx hb dX5_take_17 rfl (lv_at hl 1 rfl) ?_
  refine va_get (D := (dC, dI)) (ci := 4) (v := .ref h_by) (C := RX5) (T := TX5) (N := 11) hx hb hw iwX5 hown hK hP 0 rfl rfl 0 (by decide) (hw _ w_f_X5_9) (fun _ h9 => h9) rfl dX5_take_18 ?_
  refine lv_aload_n hx hb dX5_take_21 rfl (lv_at hl 1 rfl) ?_
  refine lv_dup hx hb dX5_take_22 rfl ?_
  refine va_get (D := (dC, dI)) (ci := 4) (v := .int 7) (C := RX5) (T := TX5) (N := 11) hx hb hw iwX5 hown hK hP 0 rfl rfl 1 (by decide) (hw _ w_f_X5_22) (fun _ h9 => h9) rfl dX5_take_23 ?_
  refine lv_dup_x1 hx hb dX5_take_26 rfl rfl ?_
  refine lv_iconst (v := 1) hx hb dX5_take_27 (by decide) ?_
  refine lv_iadd hx hb dX5_take_28 ?_
  refine lv_topi (fun z13 ez13 => ?_)
  obtain rfl : z13 = 8 := ez13.trans (by decide)
  refine va_put (D := (dC, dI)) (ci := 4) (v := .int 8) (ty := tyX5 1) (C := RX5) (T := TX5) (N := 11) hx hb hw iwX5 tyX5 tyX5_ok nmX5 hown hK hP hD hS 0 rfl rfl 1 (by decide) (hw _ w_f_X5_22) (fun _ h9 => h9) rfl (tyX5_ok 1 (by decide)) rfl rfl (Nat.le_of_ble_eq_true rfl) dX5_take_29 (fun H locs hP hD hS => ?_)
  have hP : va_P (dC, dI) cls [(h_rd, .inr (4, [.ref h_by, .int 8, (v_rd 2), (v_rd 3), (v_rd 4), (v_rd 5), (v_rd 6), (v_rd 7), (v_rd 8), (v_rd 9), (v_rd 10)])), (h_by, .inl (cy_by, 600, .inl f12))] H := hP
  have hD : va_D A [(h_rd, .inr (4, [.ref h_by, .int 8, (v_rd 2), (v_rd 3), (v_rd 4), (v_rd 5), (v_rd 6), (v_rd 7), (v_rd 8), (v_rd 9), (v_rd 10)])), (h_by, .inl (cy_by, 600, .inl f12))] := hD
  refine lv_iload_n hx hb dX5_take_32 rfl (lv_at hl 2 rfl) ?_
  refine lv_iload_n hx hb dX5_take_33 rfl (lv_at hl 0 rfl) ?_
  refine lv_ishr hx hb dX5_take_34 ?_
  refine lv_topi (fun z14 ez14 => ?_)
  refine lv_sipush (v := 255) hx hb dX5_take_35 (by decide) ?_
  refine lv_iand hx hb dX5_take_38 ?_
  refine lv_topi (fun z15 ez15 => ?_)
  refine va_iast hx hb hK hP hD hS 1 0 rfl rfl (i := 7) (x := z15) (show ¬ _ from by decide) dX5_take_39 (fun H locs hP hD hS => ?_)
  obtain ⟨f16, ef16⟩ : ∃ g : Nat → Int32, g = upd f12 (Int32.toNatClampNeg 7) z15 := ⟨_, rfl⟩
  have hP : va_P (dC, dI) cls [(h_rd, .inr (4, [.ref h_by, .int 8, (v_rd 2), (v_rd 3), (v_rd 4), (v_rd 5), (v_rd 6), (v_rd 7), (v_rd 8), (v_rd 9), (v_rd 10)])), (h_by, .inl (cy_by, 600, .inl f16))] H := by rw [ef16]; exact hP
  have hD : va_D A [(h_rd, .inr (4, [.ref h_by, .int 8, (v_rd 2), (v_rd 3), (v_rd 4), (v_rd 5), (v_rd 6), (v_rd 7), (v_rd 8), (v_rd 9), (v_rd 10)])), (h_by, .inl (cy_by, 600, .inl f16))] := by rw [ef16]; exact hD
  clear ef16
  refine lv_iinc (v := (-8)) (lv' := [(2, .int (-8)), (0, .ref h_rd), (1, .int p1)]) hx hb dX5_take_40 hl (k := 0) rfl (by decide) (by decide) rfl (fun ls hl => ?_)
  refine lv_goto (tgt := 3) hx hb dX5_take_43 (by decide) ?_
  refine lv_iload_n hx hb dX5_take_3 rfl (lv_at hl 0 rfl) ?_
  refine lv_if_lt (tgt := 46) hx hb dX5_take_4 (by decide) (fun _ => ?_) (fun c9 => absurd c9 (by decide))
  refine W.widen (k := 0) (n := 0) (Nat.le_of_ble_eq_true rfl) (Nat.le_of_ble_eq_true rfl) ?_
  have hK9 := hK.sub (tys' := []) [] rfl
  exact W.vret hx hb hr (fun t ht hW => ⟨⟨f16, rfl, trivial, by rw [ht]; exact hP, va_K.moved hW.alike hK9, hD⟩, hS.F ht⟩) hS.2.2 dX5_take_46

set_option maxHeartbeats 4000000 in
set_option maxRecDepth 100000 in
theorem c_X5_take_8 (l : Launch) (dC : Nat → ClassId) (dI : Nat → Nat → Nat) (sz : Nat) (h_rd : Nat) (h_by : Nat) (v_rd : Nat → Value) (cy_by : ClassId) (f_by : Nat → Int32) (p1 : Int32) : Met l yX5_take (Ws yX5_take cX5_take 3 none) ({ frames := 0, cells := 0, slots := 0, locals := 0 }) (PRE (dC, dI) cls [(cy_by, .int)] [(h_rd, .inr (4, [.ref h_by, .int 8, (v_rd 2), (v_rd 3), (v_rd 4), (v_rd 5), (v_rd 6), (v_rd 7), (v_rd 8), (v_rd 9), (v_rd 10)])), (h_by, .inl (cy_by, 600, .inl f_by))] sz [.ref h_rd, .int p1]) (va_Qv (fun (_ : (Nat → Int32)) => True) (fun (u : (Nat → Int32)) (t : State) => va_P (dC, dI) cls [(h_rd, .inr (4, [.ref h_by, .int 12, (v_rd 2), (v_rd 3), (v_rd 4), (v_rd 5), (v_rd 6), (v_rd 7), (v_rd 8), (v_rd 9), (v_rd 10)])), (h_by, .inl (cy_by, 600, .inl u))] t.heap ∧ va_K (dC, dI) cls [] t ∧ va_D (va_A [(h_rd, .inr (4, [.ref h_by, .int 8, (v_rd 2), (v_rd 3), (v_rd 4), (v_rd 5), (v_rd 6), (v_rd 7), (v_rd 8), (v_rd 9), (v_rd 10)])), (h_by, .inl (cy_by, 600, .inl f_by))] sz) [(h_rd, .inr (4, [.ref h_by, .int 12, (v_rd 2), (v_rd 3), (v_rd 4), (v_rd 5), (v_rd 6), (v_rd 7), (v_rd 8), (v_rd 9), (v_rd 10)])), (h_by, .inl (cy_by, 600, .inl u))]) (va_A [(h_rd, .inr (4, [.ref h_by, .int 8, (v_rd 2), (v_rd 3), (v_rd 4), (v_rd 5), (v_rd 6), (v_rd 7), (v_rd 8), (v_rd 9), (v_rd 10)])), (h_by, .inl (cy_by, 600, .inl f_by))] sz)) 0 0 (va_A [(h_rd, .inr (4, [.ref h_by, .int 8, (v_rd 2), (v_rd 3), (v_rd 4), (v_rd 5), (v_rd 6), (v_rd 7), (v_rd 8), (v_rd 9), (v_rd 10)])), (h_by, .inl (cy_by, 600, .inl f_by))] sz) := by
  refine Met.ofW (cc := cX5_take) (maxL := 3) (ret := none) (by decide) rfl ?_
  intro p e s m args below meth c s₁ B hml hv
  obtain ⟨rfl, hsz, hP, hK, hD0, hN⟩ := hv
  have hx := B.exec
  have hb := B.bytes
  have hr := B.returns
  have hts := atoms_spec (ws := Ws yX5_take cX5_take 3 none) B.pre
  have hT : ∀ w ∈ WALL, w ∈ Ws yX5_take cX5_take 3 none := fun w h => List.mem_cons_of_mem _ h
  have hw := fun w (h : w ∈ WALL) => hts w (hT w h)
  have hown : s.vm.findClass RX5 = some m.cls := findClass_of_methodNamed B.named
  have hlocks := B.notSynchronized
  subst hsz
  have hD := hD0.self (sz := s.heap.size)
  generalize hAe : va_A [(h_rd, .inr (4, [.ref h_by, .int 8, (v_rd 2), (v_rd 3), (v_rd 4), (v_rd 5), (v_rd 6), (v_rd 7), (v_rd 8), (v_rd 9), (v_rd 10)])), (h_by, .inl (cy_by, 600, .inl f_by))] s.heap.size = A at hD ⊢
  have hA : ∀ q : Nat, s.heap.size ≤ q → A q := fun q h => by rw [← hAe]; exact Or.inr h
  have hS : va_S A s.heap s.heap [] := va_S.rf
  have hl := lv_entry ([.ref h_rd, .int p1]) (n := 3) (Nat.le_of_ble_eq_true rfl)
  rw [lg_entry_eq]
  generalize (lg_sl ([.ref h_rd, .int p1]) ++ List.replicate (3 - (lg_sl ([.ref h_rd, .int p1])).length) Slot.unset).toArray = ls at hl ⊢
  have hl : lv_has ls 3 [(0, .ref h_rd), (1, .int p1)] := hl
  refine lv_bipush (v := 24) hx hb dX5_take_0 (by decide) ?_
  refine lv_istore_n (lv' := [(2, .int 24), (0, .ref h_rd), (1, .int p1)]) hx hb dX5_take_2 rfl hl (by decide) rfl (fun ls hl => ?_)
  refine lv_iload_n hx hb dX5_take_3 rfl (lv_at hl 0 rfl) ?_
  refine lv_if_lt (tgt := 46) hx hb dX5_take_4 (by decide) (fun c9 => absurd c9 (by decide)) (fun _ => ?_)
  refine lv_aload_n hx hb dX5_take_7 rfl (lv_at hl 1 rfl) ?_
  refine va_get (D := (dC, dI)) (ci := 4) (v := .int 8) (C := RX5) (T := TX5) (N := 11) hx hb hw iwX5 hown hK hP 0 rfl rfl 1 (by decide) (hw _ w_f_X5_22) (fun _ h9 => h9) rfl dX5_take_8 ?_
  refine lv_sipush (v := 600) hx hb dX5_take_11 (by decide) ?_
  refine lv_icmp_ge (tgt := 46) hx hb dX5_take_14 (by decide) (fun c9 => absurd c9 (by decide)) (fun _ => ?_)
  refine lv_aload_n hx hb dX5_take_17 rfl (lv_at hl 1 rfl) ?_
  refine va_get (D := (dC, dI)) (ci := 4) (v := .ref h_by) (C := RX5) (T := TX5) (N := 11) hx hb hw iwX5 hown hK hP 0 rfl rfl 0 (by decide) (hw _ w_f_X5_9) (fun _ h9 => h9) rfl dX5_take_18 ?_
  refine lv_aload_n hx hb dX5_take_21 rfl (lv_at hl 1 rfl) ?_
  refine lv_dup hx hb dX5_take_22 rfl ?_
  refine va_get (D := (dC, dI)) (ci := 4) (v := .int 8) (C := RX5) (T := TX5) (N := 11) hx hb hw iwX5 hown hK hP 0 rfl rfl 1 (by decide) (hw _ w_f_X5_22) (fun _ h9 => h9) rfl dX5_take_23 ?_
  refine lv_dup_x1 hx hb dX5_take_26 rfl rfl ?_
  refine lv_iconst (v := 1) hx hb dX5_take_27 (by decide) ?_
  refine lv_iadd hx hb dX5_take_28 ?_
  refine lv_topi (fun z1 ez1 => ?_)
  obtain rfl : z1 = 9 := ez1.trans (by decide)
  refine va_put (D := (dC, dI)) (ci := 4) (v := .int 9) (ty := tyX5 1) (C := RX5) (T := TX5) (N := 11) hx hb hw iwX5 tyX5 tyX5_ok nmX5 hown hK hP hD hS 0 rfl rfl 1 (by decide) (hw _ w_f_X5_22) (fun _ h9 => h9) rfl (tyX5_ok 1 (by decide)) rfl rfl (Nat.le_of_ble_eq_true rfl) dX5_take_29 (fun H locs hP hD hS => ?_)
  have hP : va_P (dC, dI) cls [(h_rd, .inr (4, [.ref h_by, .int 9, (v_rd 2), (v_rd 3), (v_rd 4), (v_rd 5), (v_rd 6), (v_rd 7), (v_rd 8), (v_rd 9), (v_rd 10)])), (h_by, .inl (cy_by, 600, .inl f_by))] H := hP
  have hD : va_D A [(h_rd, .inr (4, [.ref h_by, .int 9, (v_rd 2), (v_rd 3), (v_rd 4), (v_rd 5), (v_rd 6), (v_rd 7), (v_rd 8), (v_rd 9), (v_rd 10)])), (h_by, .inl (cy_by, 600, .inl f_by))] := hD
  refine lv_iload_n hx hb dX5_take_32 rfl (lv_at hl 2 rfl) ?_
  refine lv_iload_n hx hb dX5_take_33 rfl (lv_at hl 0 rfl) ?_
  refine lv_ishr hx hb dX5_take_34 ?_
  refine lv_topi (fun z2 ez2 => ?_)
  refine lv_sipush (v := 255) hx hb dX5_take_35 (by decide) ?_
  refine lv_iand hx hb dX5_take_38 ?_
  refine lv_topi (fun z3 ez3 => ?_)
  refine va_iast hx hb hK hP hD hS 1 0 rfl rfl (i := 8) (x := z3) (show ¬ _ from by decide) dX5_take_39 (fun H locs hP hD hS => ?_)
  obtain ⟨f4, ef4⟩ : ∃ g : Nat → Int32, g = upd f_by (Int32.toNatClampNeg 8) z3 := ⟨_, rfl⟩
  have hP : va_P (dC, dI) cls [(h_rd, .inr (4, [.ref h_by, .int 9, (v_rd 2), (v_rd 3), (v_rd 4), (v_rd 5), (v_rd 6), (v_rd 7), (v_rd 8), (v_rd 9), (v_rd 10)])), (h_by, .inl (cy_by, 600, .inl f4))] H := by rw [ef4]; exact hP
  have hD : va_D A [(h_rd, .inr (4, [.ref h_by, .int 9, (v_rd 2), (v_rd 3), (v_rd 4), (v_rd 5), (v_rd 6), (v_rd 7), (v_rd 8), (v_rd 9), (v_rd 10)])), (h_by, .inl (cy_by, 600, .inl f4))] := by rw [ef4]; exact hD
  clear ef4
  refine lv_iinc (v := 16) (lv' := [(2, .int 16), (0, .ref h_rd), (1, .int p1)]) hx hb dX5_take_40 hl (k := 0) rfl (by decide) (by decide) rfl (fun ls hl => ?_)
  refine lv_goto (tgt := 3) hx hb dX5_take_43 (by decide) ?_
  refine lv_iload_n hx hb dX5_take_3 rfl (lv_at hl 0 rfl) ?_
  refine lv_if_lt (tgt := 46) hx hb dX5_take_4 (by decide) (fun c9 => absurd c9 (by decide)) (fun _ => ?_)
  refine lv_aload_n hx hb dX5_take_7 rfl (lv_at hl 1 rfl) ?_
  refine va_get (D := (dC, dI)) (ci := 4) (v := .int 9) (C := RX5) (T := TX5) (N := 11) hx hb hw iwX5 hown hK hP 0 rfl rfl 1 (by decide) (hw _ w_f_X5_22) (fun _ h9 => h9) rfl dX5_take_8 ?_
  refine lv_sipush (v := 600) hx hb dX5_take_11 (by decide) ?_
  refine lv_icmp_ge (tgt := 46) hx hb dX5_take_14 (by decide) (fun c9 => absurd c9 (by decide)) (fun _ => ?_)
  refine lv_aload_n hx hb dX5_take_17 rfl (lv_at hl 1 rfl) ?_
  refine va_get (D := (dC, dI)) (ci := 4) (v := .ref h_by) (C := RX5) (T := TX5) (N := 11) hx hb hw iwX5 hown hK hP 0 rfl rfl 0 (by decide) (hw _ w_f_X5_9) (fun _ h9 => h9) rfl dX5_take_18 ?_
  refine lv_aload_n hx hb dX5_take_21 rfl (lv_at hl 1 rfl) ?_
  refine lv_dup hx hb dX5_take_22 rfl ?_
  refine va_get (D := (dC, dI)) (ci := 4) (v := .int 9) (C := RX5) (T := TX5) (N := 11) hx hb hw iwX5 hown hK hP 0 rfl rfl 1 (by decide) (hw _ w_f_X5_22) (fun _ h9 => h9) rfl dX5_take_23 ?_
  refine lv_dup_x1 hx hb dX5_take_26 rfl rfl ?_
  refine lv_iconst (v := 1) hx hb dX5_take_27 (by decide) ?_
  refine lv_iadd hx hb dX5_take_28 ?_
  refine lv_topi (fun z5 ez5 => ?_)
  obtain rfl : z5 = 10 := ez5.trans (by decide)
  refine va_put (D := (dC, dI)) (ci := 4) (v := .int 10) (ty := tyX5 1) (C := RX5) (T := TX5) (N := 11) hx hb hw iwX5 tyX5 tyX5_ok nmX5 hown hK hP hD hS 0 rfl rfl 1 (by decide) (hw _ w_f_X5_22) (fun _ h9 => h9) rfl (tyX5_ok 1 (by decide)) rfl rfl (Nat.le_of_ble_eq_true rfl) dX5_take_29 (fun H locs hP hD hS => ?_)
  have hP : va_P (dC, dI) cls [(h_rd, .inr (4, [.ref h_by, .int 10, (v_rd 2), (v_rd 3), (v_rd 4), (v_rd 5), (v_rd 6), (v_rd 7), (v_rd 8), (v_rd 9), (v_rd 10)])), (h_by, .inl (cy_by, 600, .inl f4))] H := hP
  have hD : va_D A [(h_rd, .inr (4, [.ref h_by, .int 10, (v_rd 2), (v_rd 3), (v_rd 4), (v_rd 5), (v_rd 6), (v_rd 7), (v_rd 8), (v_rd 9), (v_rd 10)])), (h_by, .inl (cy_by, 600, .inl f4))] := hD
  refine lv_iload_n hx hb dX5_take_32 rfl (lv_at hl 2 rfl) ?_
  refine lv_iload_n hx hb dX5_take_33 rfl (lv_at hl 0 rfl) ?_
  refine lv_ishr hx hb dX5_take_34 ?_
  refine lv_topi (fun z6 ez6 => ?_)
  refine lv_sipush (v := 255) hx hb dX5_take_35 (by decide) ?_
  refine lv_iand hx hb dX5_take_38 ?_
  refine lv_topi (fun z7 ez7 => ?_)
  refine va_iast hx hb hK hP hD hS 1 0 rfl rfl (i := 9) (x := z7) (show ¬ _ from by decide) dX5_take_39 (fun H locs hP hD hS => ?_)
  obtain ⟨f8, ef8⟩ : ∃ g : Nat → Int32, g = upd f4 (Int32.toNatClampNeg 9) z7 := ⟨_, rfl⟩
  have hP : va_P (dC, dI) cls [(h_rd, .inr (4, [.ref h_by, .int 10, (v_rd 2), (v_rd 3), (v_rd 4), (v_rd 5), (v_rd 6), (v_rd 7), (v_rd 8), (v_rd 9), (v_rd 10)])), (h_by, .inl (cy_by, 600, .inl f8))] H := by rw [ef8]; exact hP
  have hD : va_D A [(h_rd, .inr (4, [.ref h_by, .int 10, (v_rd 2), (v_rd 3), (v_rd 4), (v_rd 5), (v_rd 6), (v_rd 7), (v_rd 8), (v_rd 9), (v_rd 10)])), (h_by, .inl (cy_by, 600, .inl f8))] := by rw [ef8]; exact hD
  clear ef8
  refine lv_iinc (v := 8) (lv' := [(2, .int 8), (0, .ref h_rd), (1, .int p1)]) hx hb dX5_take_40 hl (k := 0) rfl (by decide) (by decide) rfl (fun ls hl => ?_)
  refine lv_goto (tgt := 3) hx hb dX5_take_43 (by decide) ?_
  refine lv_iload_n hx hb dX5_take_3 rfl (lv_at hl 0 rfl) ?_
  refine lv_if_lt (tgt := 46) hx hb dX5_take_4 (by decide) (fun c9 => absurd c9 (by decide)) (fun _ => ?_)
  refine lv_aload_n hx hb dX5_take_7 rfl (lv_at hl 1 rfl) ?_
  refine va_get (D := (dC, dI)) (ci := 4) (v := .int 10) (C := RX5) (T := TX5) (N := 11) hx hb hw iwX5 hown hK hP 0 rfl rfl 1 (by decide) (hw _ w_f_X5_22) (fun _ h9 => h9) rfl dX5_take_8 ?_
  refine lv_sipush (v := 600) hx hb dX5_take_11 (by decide) ?_
  refine lv_icmp_ge (tgt := 46) hx hb dX5_take_14 (by decide) (fun c9 => absurd c9 (by decide)) (fun _ => ?_)
  refine lv_aload_n hx hb dX5_take_17 rfl (lv_at hl 1 rfl) ?_
  refine va_get (D := (dC, dI)) (ci := 4) (v := .ref h_by) (C := RX5) (T := TX5) (N := 11) hx hb hw iwX5 hown hK hP 0 rfl rfl 0 (by decide) (hw _ w_f_X5_9) (fun _ h9 => h9) rfl dX5_take_18 ?_
  refine lv_aload_n hx hb dX5_take_21 rfl (lv_at hl 1 rfl) ?_
  refine lv_dup hx hb dX5_take_22 rfl ?_
  refine va_get (D := (dC, dI)) (ci := 4) (v := .int 10) (C := RX5) (T := TX5) (N := 11) hx hb hw iwX5 hown hK hP 0 rfl rfl 1 (by decide) (hw _ w_f_X5_22) (fun _ h9 => h9) rfl dX5_take_23 ?_
  refine lv_dup_x1 hx hb dX5_take_26 rfl rfl ?_
  refine lv_iconst (v := 1) hx hb dX5_take_27 (by decide) ?_
  refine lv_iadd hx hb dX5_take_28 ?_
  refine lv_topi (fun z9 ez9 => ?_)
  obtain rfl : z9 = 11 := ez9.trans (by decide)
  refine va_put (D := (dC, dI)) (ci := 4) (v := .int 11) (ty := tyX5 1) (C := RX5) (T := TX5) (N := 11) hx hb hw iwX5 tyX5 tyX5_ok nmX5 hown hK hP hD hS 0 rfl rfl 1 (by decide) (hw _ w_f_X5_22) (fun _ h9 => h9) rfl (tyX5_ok 1 (by decide)) rfl rfl (Nat.le_of_ble_eq_true rfl) dX5_take_29 (fun H locs hP hD hS => ?_)
  have hP : va_P (dC, dI) cls [(h_rd, .inr (4, [.ref h_by, .int 11, (v_rd 2), (v_rd 3), (v_rd 4), (v_rd 5), (v_rd 6), (v_rd 7), (v_rd 8), (v_rd 9), (v_rd 10)])), (h_by, .inl (cy_by, 600, .inl f8))] H := hP
  have hD : va_D A [(h_rd, .inr (4, [.ref h_by, .int 11, (v_rd 2), (v_rd 3), (v_rd 4), (v_rd 5), (v_rd 6), (v_rd 7), (v_rd 8), (v_rd 9), (v_rd 10)])), (h_by, .inl (cy_by, 600, .inl f8))] := hD
  refine lv_iload_n hx hb dX5_take_32 rfl (lv_at hl 2 rfl) ?_
  refine lv_iload_n hx hb dX5_take_33 rfl (lv_at hl 0 rfl) ?_
  refine lv_ishr hx hb dX5_take_34 ?_
  refine lv_topi (fun z10 ez10 => ?_)
  refine lv_sipush (v := 255) hx hb dX5_take_35 (by decide) ?_
  refine lv_iand hx hb dX5_take_38 ?_
  refine lv_topi (fun z11 ez11 => ?_)
  refine va_iast hx hb hK hP hD hS 1 0 rfl rfl (i := 10) (x := z11) (show ¬ _ from by decide) dX5_take_39 (fun H locs hP hD hS => ?_)
  obtain ⟨f12, ef12⟩ : ∃ g : Nat → Int32, g = upd f8 (Int32.toNatClampNeg 10) z11 := ⟨_, rfl⟩
  have hP : va_P (dC, dI) cls [(h_rd, .inr (4, [.ref h_by, .int 11, (v_rd 2), (v_rd 3), (v_rd 4), (v_rd 5), (v_rd 6), (v_rd 7), (v_rd 8), (v_rd 9), (v_rd 10)])), (h_by, .inl (cy_by, 600, .inl f12))] H := by rw [ef12]; exact hP
  have hD : va_D A [(h_rd, .inr (4, [.ref h_by, .int 11, (v_rd 2), (v_rd 3), (v_rd 4), (v_rd 5), (v_rd 6), (v_rd 7), (v_rd 8), (v_rd 9), (v_rd 10)])), (h_by, .inl (cy_by, 600, .inl f12))] := by rw [ef12]; exact hD
  clear ef12
  refine lv_iinc (v := 0) (lv' := [(2, .int 0), (0, .ref h_rd), (1, .int p1)]) hx hb dX5_take_40 hl (k := 0) rfl (by decide) (by decide) rfl (fun ls hl => ?_)
  refine lv_goto (tgt := 3) hx hb dX5_take_43 (by decide) ?_
  refine lv_iload_n hx hb dX5_take_3 rfl (lv_at hl 0 rfl) ?_
  refine lv_if_lt (tgt := 46) hx hb dX5_take_4 (by decide) (fun c9 => absurd c9 (by decide)) (fun _ => ?_)
  refine lv_aload_n hx hb dX5_take_7 rfl (lv_at hl 1 rfl) ?_
  refine va_get (D := (dC, dI)) (ci := 4) (v := .int 11) (C := RX5) (T := TX5) (N := 11) hx hb hw iwX5 hown hK hP 0 rfl rfl 1 (by decide) (hw _ w_f_X5_22) (fun _ h9 => h9) rfl dX5_take_8 ?_
  refine lv_sipush (v := 600) hx hb dX5_take_11 (by decide) ?_
  refine lv_icmp_ge (tgt := 46) hx hb dX5_take_14 (by decide) (fun c9 => absurd c9 (by decide)) (fun _ => ?_)
  refine lv_aload_n hx hb dX5_take_17 rfl (lv_at hl 1 rfl) ?_
  refine va_get (D := (dC, dI)) (ci := 4) (v := .ref h_by) (C := RX5) (T := TX5) (N := 11) hx hb hw iwX5 hown hK hP 0 rfl rfl 0 (by decide) (hw _ w_f_X5_9) (fun _ h9 => h9) rfl dX5_take_18 ?_
  refine lv_aload_n hx hb dX5_take_21 rfl (lv_at hl 1 rfl) ?_
  refine lv_dup hx hb dX5_take_22 rfl ?_
  refine va_get (D := (dC, dI)) (ci := 4) (v := .int 11) (C := RX5) (T := TX5) (N := 11) hx hb hw iwX5 hown hK hP 0 rfl rfl 1 (by decide) (hw _ w_f_X5_22) (fun _ h9 => h9) rfl dX5_take_23 ?_
  refine lv_dup_x1 hx hb dX5_take_26 rfl rfl ?_
  refine lv_iconst (v := 1) hx hb dX5_take_27 (by decide) ?_
  refine lv_iadd hx hb dX5_take_28 ?_
  refine lv_topi (fun z13 ez13 => ?_)
  obtain rfl : z13 = 12 := ez13.trans (by decide)
  refine va_put (D := (dC, dI)) (ci := 4) (v := .int 12) (ty := tyX5 1) (C := RX5) (T := TX5) (N := 11) hx hb hw iwX5 tyX5 tyX5_ok nmX5 hown hK hP hD hS 0 rfl rfl 1 (by decide) (hw _ w_f_X5_22) (fun _ h9 => h9) rfl (tyX5_ok 1 (by decide)) rfl rfl (Nat.le_of_ble_eq_true rfl) dX5_take_29 (fun H locs hP hD hS => ?_)
  have hP : va_P (dC, dI) cls [(h_rd, .inr (4, [.ref h_by, .int 12, (v_rd 2), (v_rd 3), (v_rd 4), (v_rd 5), (v_rd 6), (v_rd 7), (v_rd 8), (v_rd 9), (v_rd 10)])), (h_by, .inl (cy_by, 600, .inl f12))] H := hP
  have hD : va_D A [(h_rd, .inr (4, [.ref h_by, .int 12, (v_rd 2), (v_rd 3), (v_rd 4), (v_rd 5), (v_rd 6), (v_rd 7), (v_rd 8), (v_rd 9), (v_rd 10)])), (h_by, .inl (cy_by, 600, .inl f12))] := hD
  refine lv_iload_n hx hb dX5_take_32 rfl (lv_at hl 2 rfl) ?_
  refine lv_iload_n hx hb dX5_take_33 rfl (lv_at hl 0 rfl) ?_
  refine lv_ishr hx hb dX5_take_34 ?_
  refine lv_topi (fun z14 ez14 => ?_)
  refine lv_sipush (v := 255) hx hb dX5_take_35 (by decide) ?_
  refine lv_iand hx hb dX5_take_38 ?_
  refine lv_topi (fun z15 ez15 => ?_)
  refine va_iast hx hb hK hP hD hS 1 0 rfl rfl (i := 11) (x := z15) (show ¬ _ from by decide) dX5_take_39 (fun H locs hP hD hS => ?_)
  obtain ⟨f16, ef16⟩ : ∃ g : Nat → Int32, g = upd f12 (Int32.toNatClampNeg 11) z15 := ⟨_, rfl⟩
  have hP : va_P (dC, dI) cls [(h_rd, .inr (4, [.ref h_by, .int 12, (v_rd 2), (v_rd 3), (v_rd 4), (v_rd 5), (v_rd 6), (v_rd 7), (v_rd 8), (v_rd 9), (v_rd 10)])), (h_by, .inl (cy_by, 600, .inl f16))] H := by rw [ef16]; exact hP
  have hD : va_D A [(h_rd, .inr (4, [.ref h_by, .int 12, (v_rd 2), (v_rd 3), (v_rd 4), (v_rd 5), (v_rd 6), (v_rd 7), (v_rd 8), (v_rd 9), (v_rd 10)])), (h_by, .inl (cy_by, 600, .inl f16))] := by rw [ef16]; exact hD
  clear ef16
  refine lv_iinc (v := (-8)) (lv' := [(2, .int (-8)), (0, .ref h_rd), (1, .int p1)]) hx hb dX5_take_40 hl (k := 0) rfl (by decide) (by decide) rfl (fun ls hl => ?_)
  refine lv_goto (tgt := 3) hx hb dX5_take_43 (by decide) ?_
  refine lv_iload_n hx hb dX5_take_3 rfl (lv_at hl 0 rfl) ?_
  refine lv_if_lt (tgt := 46) hx hb dX5_take_4 (by decide) (fun _ => ?_) (fun c9 => absurd c9 (by decide))
  refine W.widen (k := 0) (n := 0) (Nat.le_of_ble_eq_true rfl) (Nat.le_of_ble_eq_true rfl) ?_
  have hK9 := hK.sub (tys' := []) [] rfl
  exact W.vret hx hb hr (fun t ht hW => ⟨⟨f16, rfl, trivial, by rw [ht]; exact hP, va_K.moved hW.alike hK9, hD⟩, hS.F ht⟩) hS.2.2 dX5_take_46

set_option maxHeartbeats 4000000 in
set_option maxRecDepth 100000 in
theorem c_X5_take_12 (l : Launch) (dC : Nat → ClassId) (dI : Nat → Nat → Nat) (sz : Nat) (h_rd : Nat) (h_by : Nat) (v_rd : Nat → Value) (cy_by : ClassId) (f_by : Nat → Int32) (p1 : Int32) : Met l yX5_take (Ws yX5_take cX5_take 3 none) ({ frames := 0, cells := 0, slots := 0, locals := 0 }) (PRE (dC, dI) cls [(cy_by, .int)] [(h_rd, .inr (4, [.ref h_by, .int 12, (v_rd 2), (v_rd 3), (v_rd 4), (v_rd 5), (v_rd 6), (v_rd 7), (v_rd 8), (v_rd 9), (v_rd 10)])), (h_by, .inl (cy_by, 600, .inl f_by))] sz [.ref h_rd, .int p1]) (va_Qv (fun (_ : (Nat → Int32)) => True) (fun (u : (Nat → Int32)) (t : State) => va_P (dC, dI) cls [(h_rd, .inr (4, [.ref h_by, .int 16, (v_rd 2), (v_rd 3), (v_rd 4), (v_rd 5), (v_rd 6), (v_rd 7), (v_rd 8), (v_rd 9), (v_rd 10)])), (h_by, .inl (cy_by, 600, .inl u))] t.heap ∧ va_K (dC, dI) cls [] t ∧ va_D (va_A [(h_rd, .inr (4, [.ref h_by, .int 12, (v_rd 2), (v_rd 3), (v_rd 4), (v_rd 5), (v_rd 6), (v_rd 7), (v_rd 8), (v_rd 9), (v_rd 10)])), (h_by, .inl (cy_by, 600, .inl f_by))] sz) [(h_rd, .inr (4, [.ref h_by, .int 16, (v_rd 2), (v_rd 3), (v_rd 4), (v_rd 5), (v_rd 6), (v_rd 7), (v_rd 8), (v_rd 9), (v_rd 10)])), (h_by, .inl (cy_by, 600, .inl u))]) (va_A [(h_rd, .inr (4, [.ref h_by, .int 12, (v_rd 2), (v_rd 3), (v_rd 4), (v_rd 5), (v_rd 6), (v_rd 7), (v_rd 8), (v_rd 9), (v_rd 10)])), (h_by, .inl (cy_by, 600, .inl f_by))] sz)) 0 0 (va_A [(h_rd, .inr (4, [.ref h_by, .int 12, (v_rd 2), (v_rd 3), (v_rd 4), (v_rd 5), (v_rd 6), (v_rd 7), (v_rd 8), (v_rd 9), (v_rd 10)])), (h_by, .inl (cy_by, 600, .inl f_by))] sz) := by
  refine Met.ofW (cc := cX5_take) (maxL := 3) (ret := none) (by decide) rfl ?_
  intro p e s m args below meth c s₁ B hml hv
  obtain ⟨rfl, hsz, hP, hK, hD0, hN⟩ := hv
  have hx := B.exec
  have hb := B.bytes
  have hr := B.returns
  have hts := atoms_spec (ws := Ws yX5_take cX5_take 3 none) B.pre
  have hT : ∀ w ∈ WALL, w ∈ Ws yX5_take cX5_take 3 none := fun w h => List.mem_cons_of_mem _ h
  have hw := fun w (h : w ∈ WALL) => hts w (hT w h)
  have hown : s.vm.findClass RX5 = some m.cls := findClass_of_methodNamed B.named
  have hlocks := B.notSynchronized
  subst hsz
  have hD := hD0.self (sz := s.heap.size)
  generalize hAe : va_A [(h_rd, .inr (4, [.ref h_by, .int 12, (v_rd 2), (v_rd 3), (v_rd 4), (v_rd 5), (v_rd 6), (v_rd 7), (v_rd 8), (v_rd 9), (v_rd 10)])), (h_by, .inl (cy_by, 600, .inl f_by))] s.heap.size = A at hD ⊢
  have hA : ∀ q : Nat, s.heap.size ≤ q → A q := fun q h => by rw [← hAe]; exact Or.inr h
  have hS : va_S A s.heap s.heap [] := va_S.rf
  have hl := lv_entry ([.ref h_rd, .int p1]) (n := 3) (Nat.le_of_ble_eq_true rfl)
  rw [lg_entry_eq]
  generalize (lg_sl ([.ref h_rd, .int p1]) ++ List.replicate (3 - (lg_sl ([.ref h_rd, .int p1])).length) Slot.unset).toArray = ls at hl ⊢
  have hl : lv_has ls 3 [(0, .ref h_rd), (1, .int p1)] := hl
  refine lv_bipush (v := 24) hx hb dX5_take_0 (by decide) ?_
  refine lv_istore_n (lv' := [(2, .int 24), (0, .ref h_rd), (1, .int p1)]) hx hb dX5_take_2 rfl hl (by decide) rfl (fun ls hl => ?_)
  refine lv_iload_n hx hb dX5_take_3 rfl (lv_at hl 0 rfl) ?_
  refine lv_if_lt (tgt := 46) hx hb dX5_take_4 (by decide) (fun c9 => absurd c9 (by decide)) (fun _ => ?_)
  refine lv_aload_n hx hb dX5_take_7 rfl (lv_at hl 1 rfl) ?_
  refine va_get (D := (dC, dI)) (ci := 4) (v := .int 12) (C := RX5) (T := TX5) (N := 11) hx hb hw iwX5 hown hK hP 0 rfl rfl 1 (by decide) (hw _ w_f_X5_22) (fun _ h9 => h9) rfl dX5_take_8 ?_
  refine lv_sipush (v := 600) hx hb dX5_take_11 (by decide) ?_
  refine lv_icmp_ge (tgt := 46) hx hb dX5_take_14 (by decide) (fun c9 => absurd c9 (by decide)) (fun _ => ?_)
  refine lv_aload_n hx hb dX5_take_17 rfl (lv_at hl 1 rfl) ?_
  refine va_get (D := (dC, dI)) (ci := 4) (v := .ref h_by) (C := RX5) (T := TX5) (N := 11) hx hb hw iwX5 hown hK hP 0 rfl rfl 0 (by decide) (hw _ w_f_X5_9) (fun _ h9 => h9) rfl dX5_take_18 ?_
  refine lv_aload_n hx hb dX5_take_21 rfl (lv_at hl 1 rfl) ?_
  refine lv_dup hx hb dX5_take_22 rfl ?_
  refine va_get (D := (dC, dI)) (ci := 4) (v := .int 12) (C := RX5) (T := TX5) (N := 11) hx hb hw iwX5 hown hK hP 0 rfl rfl 1 (by decide) (hw _ w_f_X5_22) (fun _ h9 => h9) rfl dX5_take_23 ?_
  refine lv_dup_x1 hx hb dX5_take_26 rfl rfl ?_
  refine lv_iconst (v := 1) hx hb dX5_take_27 (by decide) ?_
  refine lv_iadd hx hb dX5_take_28 ?_
  refine lv_topi (fun z1 ez1 => ?_)
  obtain rfl : z1 = 13 := ez1.trans (by decide)
  refine va_put (D := (dC, dI)) (ci := 4) (v := .int 13) (ty := tyX5 1) (C := RX5) (T := TX5) (N := 11) hx hb hw iwX5 tyX5 tyX5_ok nmX5 hown hK hP hD hS 0 rfl rfl 1 (by decide) (hw _ w_f_X5_22) (fun _ h9 => h9) rfl (tyX5_ok 1 (by decide)) rfl rfl (Nat.le_of_ble_eq_true rfl) dX5_take_29 (fun H locs hP hD hS => ?_)
  have hP : va_P (dC, dI) cls [(h_rd, .inr (4, [.ref h_by, .int 13, (v_rd 2), (v_rd 3), (v_rd 4), (v_rd 5), (v_rd 6), (v_rd 7), (v_rd 8), (v_rd 9), (v_rd 10)])), (h_by, .inl (cy_by, 600, .inl f_by))] H := hP
  have hD : va_D A [(h_rd, .inr (4, [.ref h_by, .int 13, (v_rd 2), (v_rd 3), (v_rd 4), (v_rd 5), (v_rd 6), (v_rd 7), (v_rd 8), (v_rd 9), (v_rd 10)])), (h_by, .inl (cy_by, 600, .inl f_by))] := hD
  refine lv_iload_n hx hb dX5_take_32 rfl (lv_at hl 2 rfl) ?_
  refine lv_iload_n hx hb dX5_take_33 rfl (lv_at hl 0 rfl) ?_
  refine lv_ishr hx hb dX5_take_34 ?_
  refine lv_topi (fun z2 ez2 => ?_)
  refine lv_sipush (v := 255) hx hb dX5_take_35 (by decide) ?_
  refine lv_iand hx hb dX5_take_38 ?_
  refine lv_topi (fun z3 ez3 => ?_)
  refine va_iast hx hb hK hP hD hS 1 0 rfl rfl (i := 12) (x := z3) (show ¬ _ from by decide) dX5_take_39 (fun H locs hP hD hS => ?_)
  obtain ⟨f4, ef4⟩ : ∃ g : Nat → Int32, g = upd f_by (Int32.toNatClampNeg 12) z3 := ⟨_, rfl⟩
  have hP : va_P (dC, dI) cls [(h_rd, .inr (4, [.ref h_by, .int 13, (v_rd 2), (v_rd 3), (v_rd 4), (v_rd 5), (v_rd 6), (v_rd 7), (v_rd 8), (v_rd 9), (v_rd 10)])), (h_by, .inl (cy_by, 600, .inl f4))] H := by rw [ef4]; exact hP
  have hD : va_D A [(h_rd, .inr (4, [.ref h_by, .int 13, (v_rd 2), (v_rd 3), (v_rd 4), (v_rd 5), (v_rd 6), (v_rd 7), (v_rd 8), (v_rd 9), (v_rd 10)])), (h_by, .inl (cy_by, 600, .inl f4))] := by rw [ef4]; exact hD
  clear ef4
  refine lv_iinc (v := 16) (lv' := [(2, .int 16), (0, .ref h_rd), (1, .int p1)]) hx hb dX5_take_40 hl (k := 0) rfl (by decide) (by decide) rfl (fun ls hl => ?_)
  refine lv_goto (tgt := 3) hx hb dX5_take_43 (by decide) ?_
  refine lv_iload_n hx hb dX5_take_3 rfl (lv_at hl 0 rfl) ?_
  refine lv_if_lt (tgt := 46) hx hb dX5_take_4 (by decide) (fun c9 => absurd c9 (by decide)) (fun _ => ?_)
  refine lv_aload_n hx hb dX5_take_7 rfl (lv_at hl 1 rfl) ?_
  refine va_get (D := (dC, dI)) (ci := 4) (v := .int 13) (C := RX5) (T := TX5) (N := 11) hx hb hw iwX5 hown hK hP 0 rfl rfl 1 (by decide) (hw _ w_f_X5_22) (fun _ h9 => h9) rfl dX5_take_8 ?_
  refine lv_sipush (v := 600) hx hb dX5_take_11 (by decide) ?_
  refine lv_icmp_ge (tgt := 46) hx hb dX5_take_14 (by decide) (fun c9 => absurd c9 (by decide)) (fun _ => ?_)
  refine lv_aload_n hx hb dX5_take_17 rfl (lv_at hl 1 rfl) ?_
  refine va_get (D := (dC, dI)) (ci := 4) (v := .ref h_by) (C := RX5) (T := TX5) (N := 11) hx hb hw iwX5 hown hK hP 0 rfl rfl 0 (by decide) (hw _ w_f_X5_9) (fun _ h9 => h9) rfl dX5_take_18 ?_
  refine lv_aload_n hx hb dX5_take_21 rfl (lv_at hl 1 rfl) ?_
  refine lv_dup hx hb dX5_take_22 rfl ?_
  refine va_get (D := (dC, dI)) (ci := 4) (v := .int 13) (C := RX5) (T := TX5) (N := 11) hx hb hw iwX5 hown hK hP 0 rfl rfl 1 (by decide) (hw _ w_f_X5_22) (fun _ h9 => h9) rfl dX5_take_23 ?_
  refine lv_dup_x1 hx hb dX5_take_26 rfl rfl ?_
  refine lv_iconst (v := 1) hx hb dX5_take_27 (by decide) ?_
  refine lv_iadd hx hb dX5_take_28 ?_
  refine lv_topi (fun z5 ez5 => ?_)
  obtain rfl : z5 = 14 := ez5.trans (by decide)
  refine va_put (D := (dC, dI)) (ci := 4) (v := .int 14) (ty := tyX5 1) (C := RX5) (T := TX5) (N := 11) hx hb hw iwX5 tyX5 tyX5_ok nmX5 hown hK hP hD hS 0 rfl rfl 1 (by decide) (hw _ w_f_X5_22) (fun _ h9 => h9) rfl (tyX5_ok 1 (by decide)) rfl rfl (Nat.le_of_ble_eq_true rfl) dX5_take_29 (fun H locs hP hD hS => ?_)
  have hP : va_P (dC, dI) cls [(h_rd, .inr (4, [.ref h_by, .int 14, (v_rd 2), (v_rd 3), (v_rd 4), (v_rd 5), (v_rd 6), (v_rd 7), (v_rd 8), (v_rd 9), (v_rd 10)])), (h_by, .inl (cy_by, 600, .inl f4))] H := hP
  have hD : va_D A [(h_rd, .inr (4, [.ref h_by, .int 14, (v_rd 2), (v_rd 3), (v_rd 4), (v_rd 5), (v_rd 6), (v_rd 7), (v_rd 8), (v_rd 9), (v_rd 10)])), (h_by, .inl (cy_by, 600, .inl f4))] := hD
  refine lv_iload_n hx hb dX5_take_32 rfl (lv_at hl 2 rfl) ?_
  refine lv_iload_n hx hb dX5_take_33 rfl (lv_at hl 0 rfl) ?_
  refine lv_ishr hx hb dX5_take_34 ?_
  refine lv_topi (fun z6 ez6 => ?_)
  refine lv_sipush (v := 255) hx hb dX5_take_35 (by decide) ?_
  refine lv_iand hx hb dX5_take_38 ?_
  refine lv_topi (fun z7 ez7 => ?_)
  refine va_iast hx hb hK hP hD hS 1 0 rfl rfl (i := 13) (x := z7) (show ¬ _ from by decide) dX5_take_39 (fun H locs hP hD hS => ?_)
  obtain ⟨f8, ef8⟩ : ∃ g : Nat → Int32, g = upd f4 (Int32.toNatClampNeg 13) z7 := ⟨_, rfl⟩
  have hP : va_P (dC, dI) cls [(h_rd, .inr (4, [.ref h_by, .int 14, (v_rd 2), (v_rd 3), (v_rd 4), (v_rd 5), (v_rd 6), (v_rd 7), (v_rd 8), (v_rd 9), (v_rd 10)])), (h_by, .inl (cy_by, 600, .inl f8))] H := by rw [ef8]; exact hP
  have hD : va_D A [(h_rd, .inr (4, [.ref h_by, .int 14, (v_rd 2), (v_rd 3), (v_rd 4), (v_rd 5), (v_rd 6), (v_rd 7), (v_rd 8), (v_rd 9), (v_rd 10)])), (h_by, .inl (cy_by, 600, .inl f8))] := by rw [ef8]; exact hD
  clear ef8
  refine lv_iinc (v := 8) (lv' := [(2, .int 8), (0, .ref h_rd), (1, .int p1)]) hx hb dX5_take_40 hl (k := 0) rfl (by decide) (by decide) rfl (fun ls hl => ?_)
  refine lv_goto (tgt := 3) hx hb dX5_take_43 (by decide) ?_
  refine lv_iload_n hx hb dX5_take_3 rfl (lv_at hl 0 rfl) ?_
  refine lv_if_lt (tgt := 46) hx hb dX5_take_4 (by decide) (fun c9 => absurd c9 (by decide)) (fun _ => ?_)
  refine lv_aload_n hx hb dX5_take_7 rfl (lv_at hl 1 rfl) ?_
  refine va_get (D := (dC, dI)) (ci := 4) (v := .int 14) (C := RX5) (T := TX5) (N := 11) hx hb hw iwX5 hown hK hP 0 rfl rfl 1 (by decide) (hw _ w_f_X5_22) (fun _ h9 => h9) rfl dX5_take_8 ?_
  refine lv_sipush (v := 600) hx hb dX5_take_11 (by decide) ?_
  refine lv_icmp_ge (tgt := 46) hx hb dX5_take_14 (by decide) (fun c9 => absurd c9 (by decide)) (fun _ => ?_)
  refine lv_aload_n hx hb dX5_take_17 rfl (lv_at hl 1 rfl) ?_
  refine va_get (D := (dC, dI)) (ci := 4) (v := .ref h_by) (C := RX5) (T := TX5) (N := 11) hx hb hw iwX5 hown hK hP 0 rfl rfl 0 (by decide) (hw _ w_f_X5_9) (fun _ h9 => h9) rfl dX5_take_18 ?_
  refine lv_aload_n hx hb dX5_take_21 rfl (lv_at hl 1 rfl) ?_
  refine lv_dup hx hb dX5_take_22 rfl ?_
  refine va_get (D := (dC, dI)) (ci := 4) (v := .int 14) (C := RX5) (T := TX5) (N := 11) hx hb hw iwX5 hown hK hP 0 rfl rfl 1 (by decide) (hw _ w_f_X5_22) (fun _ h9 => h9) rfl dX5_take_23 ?_
  refine lv_dup_x1 hx hb dX5_take_26 rfl rfl ?_
  refine lv_iconst (v := 1) hx hb dX5_take_27 (by decide) ?_
  refine lv_iadd hx hb dX5_take_28 ?_
  refine lv_topi (fun z9 ez9 => ?_)
  obtain rfl : z9 = 15 := ez9.trans (by decide)
  refine va_put (D := (dC, dI)) (ci := 4) (v := .int 15) (ty := tyX5 1) (C := RX5) (T := TX5) (N := 11) hx hb hw iwX5 tyX5 tyX5_ok nmX5 hown hK hP hD hS 0 rfl rfl 1 (by decide) (hw _ w_f_X5_22) (fun _ h9 => h9) rfl (tyX5_ok 1 (by decide)) rfl rfl (Nat.le_of_ble_eq_true rfl) dX5_take_29 (fun H locs hP hD hS => ?_)
  have hP : va_P (dC, dI) cls [(h_rd, .inr (4, [.ref h_by, .int 15, (v_rd 2), (v_rd 3), (v_rd 4), (v_rd 5), (v_rd 6), (v_rd 7), (v_rd 8), (v_rd 9), (v_rd 10)])), (h_by, .inl (cy_by, 600, .inl f8))] H := hP
  have hD : va_D A [(h_rd, .inr (4, [.ref h_by, .int 15, (v_rd 2), (v_rd 3), (v_rd 4), (v_rd 5), (v_rd 6), (v_rd 7), (v_rd 8), (v_rd 9), (v_rd 10)])), (h_by, .inl (cy_by, 600, .inl f8))] := hD
  refine lv_iload_n hx hb dX5_take_32 rfl (lv_at hl 2 rfl) ?_
  refine lv_iload_n hx hb dX5_take_33 rfl (lv_at hl 0 rfl) ?_
  refine lv_ishr hx hb dX5_take_34 ?_
  refine lv_topi (fun z10 ez10 => ?_)
  refine lv_sipush (v := 255) hx hb dX5_take_35 (by decide) ?_
  refine lv_iand hx hb dX5_take_38 ?_
  refine lv_topi (fun z11 ez11 => ?_)
  refine va_iast hx hb hK hP hD hS 1 0 rfl rfl (i := 14) (x := z11) (show ¬ _ from by decide) dX5_take_39 (fun H locs hP hD hS => ?_)
  obtain ⟨f12, ef12⟩ : ∃ g : Nat → Int32, g = upd f8 (Int32.toNatClampNeg 14) z11 := ⟨_, rfl⟩
  have hP : va_P (dC, dI) cls [(h_rd, .inr (4, [.ref h_by, .int 15, (v_rd 2), (v_rd 3), (v_rd 4), (v_rd 5), (v_rd 6), (v_rd 7), (v_rd 8), (v_rd 9), (v_rd 10)])), (h_by, .inl (cy_by, 600, .inl f12))] H := by rw [ef12]; exact hP
  have hD : va_D A [(h_rd, .inr (4, [.ref h_by, .int 15, (v_rd 2), (v_rd 3), (v_rd 4), (v_rd 5), (v_rd 6), (v_rd 7), (v_rd 8), (v_rd 9), (v_rd 10)])), (h_by, .inl (cy_by, 600, .inl f12))] := by rw [ef12]; exact hD
  clear ef12
  refine lv_iinc (v := 0) (lv' := [(2, .int 0), (0, .ref h_rd), (1, .int p1)]) hx hb dX5_take_40 hl (k := 0) rfl (by decide) (by decide) rfl (fun ls hl => ?_)
  refine lv_goto (tgt := 3) hx hb dX5_take_43 (by decide) ?_
  refine lv_iload_n hx hb dX5_take_3 rfl (lv_at hl 0 rfl) ?_
  refine lv_if_lt (tgt := 46) hx hb dX5_take_4 (by decide) (fun c9 => absurd c9 (by decide)) (fun _ => ?_)
  refine lv_aload_n hx hb dX5_take_7 rfl (lv_at hl 1 rfl) ?_
  refine va_get (D := (dC, dI)) (ci := 4) (v := .int 15) (C := RX5) (T := TX5) (N := 11) hx hb hw iwX5 hown hK hP 0 rfl rfl 1 (by decide) (hw _ w_f_X5_22) (fun _ h9 => h9) rfl dX5_take_8 ?_
  refine lv_sipush (v := 600) hx hb dX5_take_11 (by decide) ?_
  refine lv_icmp_ge (tgt := 46) hx hb dX5_take_14 (by decide) (fun c9 => absurd c9 (by decide)) (fun _ => ?_)
  refine lv_aload_n hx hb dX5_take_17 rfl (lv_at hl 1 rfl) ?_
  refine va_get (D := (dC, dI)) (ci := 4) (v := .ref h_by) (C := RX5) (T := TX5) (N := 11) hx hb hw iwX5 hown hK hP 0 rfl rfl 0 (by decide) (hw _ w_f_X5_9) (fun _ h9 => h9) rfl dX5_take_18 ?_
  refine lv_aload_n hx hb dX5_take_21 rfl (lv_at hl 1 rfl) ?_
  refine lv_dup hx hb dX5_take_22 rfl ?_
  refine va_get (D := (dC, dI)) (ci := 4) (v := .int 15) (C := RX5) (T := TX5) (N := 11) hx hb hw iwX5 hown hK hP 0 rfl rfl 1 (by decide) (hw _ w_f_X5_22) (fun _ h9 => h9) rfl dX5_take_23 ?_
  refine lv_dup_x1 hx hb dX5_take_26 rfl rfl ?_
  refine lv_iconst (v := 1) hx hb dX5_take_27 (by decide) ?_
  refine lv_iadd hx hb dX5_take_28 ?_
  refine lv_topi (fun z13 ez13 => ?_)
  obtain rfl : z13 = 16 := ez13.trans (by decide)
  refine va_put (D := (dC, dI)) (ci := 4) (v := .int 16) (ty := tyX5 1) (C := RX5) (T := TX5) (N := 11) hx hb hw iwX5 tyX5 tyX5_ok nmX5 hown hK hP hD hS 0 rfl rfl 1 (by decide) (hw _ w_f_X5_22) (fun _ h9 => h9) rfl (tyX5_ok 1 (by decide)) rfl rfl (Nat.le_of_ble_eq_true rfl) dX5_take_29 (fun H locs hP hD hS => ?_)
  have hP : va_P (dC, dI) cls [(h_rd, .inr (4, [.ref h_by, .int 16, (v_rd 2), (v_rd 3), (v_rd 4), (v_rd 5), (v_rd 6), (v_rd 7), (v_rd 8), (v_rd 9), (v_rd 10)])), (h_by, .inl (cy_by, 600, .inl f12))] H := hP
  have hD : va_D A [(h_rd, .inr (4, [.ref h_by, .int 16, (v_rd 2), (v_rd 3), (v_rd 4), (v_rd 5), (v_rd 6), (v_rd 7), (v_rd 8), (v_rd 9), (v_rd 10)])), (h_by, .inl (cy_by, 600, .inl f12))] := hD
  refine lv_iload_n hx hb dX5_take_32 rfl (lv_at hl 2 rfl) ?_
  refine lv_iload_n hx hb dX5_take_33 rfl (lv_at hl 0 rfl) ?_
  refine lv_ishr hx hb dX5_take_34 ?_
  refine lv_topi (fun z14 ez14 => ?_)
  refine lv_sipush (v := 255) hx hb dX5_take_35 (by decide) ?_
  refine lv_iand hx hb dX5_take_38 ?_
  refine lv_topi (fun z15 ez15 => ?_)
  refine va_iast hx hb hK hP hD hS 1 0 rfl rfl (i := 15) (x := z15) (show ¬ _ from by decide) dX5_take_39 (fun H locs hP hD hS => ?_)
  obtain ⟨f16, ef16⟩ : ∃ g : Nat → Int32, g = upd f12 (Int32.toNatClampNeg 15) z15 := ⟨_, rfl⟩
  have hP : va_P (dC, dI) cls [(h_rd, .inr (4, [.ref h_by, .int 16, (v_rd 2), (v_rd 3), (v_rd 4), (v_rd 5), (v_rd 6), (v_rd 7), (v_rd 8), (v_rd 9), (v_rd 10)])), (h_by, .inl (cy_by, 600, .inl f16))] H := by rw [ef16]; exact hP
  have hD : va_D A [(h_rd, .inr (4, [.ref h_by, .int 16, (v_rd 2), (v_rd 3), (v_rd 4), (v_rd 5), (v_rd 6), (v_rd 7), (v_rd 8), (v_rd 9), (v_rd 10)])), (h_by, .inl (cy_by, 600, .inl f16))] := by rw [ef16]; exact hD
  clear ef16
  refine lv_iinc (v := (-8)) (lv' := [(2, .int (-8)), (0, .ref h_rd), (1, .int p1)]) hx hb dX5_take_40 hl (k := 0) rfl (by decide) (by decide) rfl (fun ls hl => ?_)
  refine lv_goto (tgt := 3) hx hb dX5_take_43 (by decide) ?_
  refine lv_iload_n hx hb dX5_take_3 rfl (lv_at hl 0 rfl) ?_
  refine lv_if_lt (tgt := 46) hx hb dX5_take_4 (by decide) (fun _ => ?_) (fun c9 => absurd c9 (by decide))
  refine W.widen (k := 0) (n := 0) (Nat.le_of_ble_eq_true rfl) (Nat.le_of_ble_eq_true rfl) ?_
  have hK9 := hK.sub (tys' := []) [] rfl
  exact W.vret hx hb hr (fun t ht hW => ⟨⟨f16, rfl, trivial, by rw [ht]; exact hP, va_K.moved hW.alike hK9, hD⟩, hS.F ht⟩) hS.2.2 dX5_take_46

set_option maxHeartbeats 4000000 in
set_option maxRecDepth 100000 in
theorem c_X5_take_16 (l : Launch) (dC : Nat → ClassId) (dI : Nat → Nat → Nat) (sz : Nat) (h_rd : Nat) (h_by : Nat) (v_rd : Nat → Value) (cy_by : ClassId) (f_by : Nat → Int32) (p1 : Int32) : Met l yX5_take (Ws yX5_take cX5_take 3 none) ({ frames := 0, cells := 0, slots := 0, locals := 0 }) (PRE (dC, dI) cls [(cy_by, .int)] [(h_rd, .inr (4, [.ref h_by, .int 16, (v_rd 2), (v_rd 3), (v_rd 4), (v_rd 5), (v_rd 6), (v_rd 7), (v_rd 8), (v_rd 9), (v_rd 10)])), (h_by, .inl (cy_by, 600, .inl f_by))] sz [.ref h_rd, .int p1]) (va_Qv (fun (_ : (Nat → Int32)) => True) (fun (u : (Nat → Int32)) (t : State) => va_P (dC, dI) cls [(h_rd, .inr (4, [.ref h_by, .int 20, (v_rd 2), (v_rd 3), (v_rd 4), (v_rd 5), (v_rd 6), (v_rd 7), (v_rd 8), (v_rd 9), (v_rd 10)])), (h_by, .inl (cy_by, 600, .inl u))] t.heap ∧ va_K (dC, dI) cls [] t ∧ va_D (va_A [(h_rd, .inr (4, [.ref h_by, .int 16, (v_rd 2), (v_rd 3), (v_rd 4), (v_rd 5), (v_rd 6), (v_rd 7), (v_rd 8), (v_rd 9), (v_rd 10)])), (h_by, .inl (cy_by, 600, .inl f_by))] sz) [(h_rd, .inr (4, [.ref h_by, .int 20, (v_rd 2), (v_rd 3), (v_rd 4), (v_rd 5), (v_rd 6), (v_rd 7), (v_rd 8), (v_rd 9), (v_rd 10)])), (h_by, .inl (cy_by, 600, .inl u))]) (va_A [(h_rd, .inr (4, [.ref h_by, .int 16, (v_rd 2), (v_rd 3), (v_rd 4), (v_rd 5), (v_rd 6), (v_rd 7), (v_rd 8), (v_rd 9), (v_rd 10)])), (h_by, .inl (cy_by, 600, .inl f_by))] sz)) 0 0 (va_A [(h_rd, .inr (4, [.ref h_by, .int 16, (v_rd 2), (v_rd 3), (v_rd 4), (v_rd 5), (v_rd 6), (v_rd 7), (v_rd 8), (v_rd 9), (v_rd 10)])), (h_by, .inl (cy_by, 600, .inl f_by))] sz) := by
  refine Met.ofW (cc := cX5_take) (maxL := 3) (ret := none) (by decide) rfl ?_
  intro p e s m args below meth c s₁ B hml hv
  obtain ⟨rfl, hsz, hP, hK, hD0, hN⟩ := hv
  have hx := B.exec
  have hb := B.bytes
  have hr := B.returns
  have hts := atoms_spec (ws := Ws yX5_take cX5_take 3 none) B.pre
  have hT : ∀ w ∈ WALL, w ∈ Ws yX5_take cX5_take 3 none := fun w h => List.mem_cons_of_mem _ h
  have hw := fun w (h : w ∈ WALL) => hts w (hT w h)
  have hown : s.vm.findClass RX5 = some m.cls := findClass_of_methodNamed B.named
  have hlocks := B.notSynchronized
  subst hsz
  have hD := hD0.self (sz := s.heap.size)
  generalize hAe : va_A [(h_rd, .inr (4, [.ref h_by, .int 16, (v_rd 2), (v_rd 3), (v_rd 4), (v_rd 5), (v_rd 6), (v_rd 7), (v_rd 8), (v_rd 9), (v_rd 10)])), (h_by, .inl (cy_by, 600, .inl f_by))] s.heap.size = A at hD ⊢
  have hA : ∀ q : Nat, s.heap.size ≤ q → A q := fun q h => by rw [← hAe]; exact Or.inr h
  have hS : va_S A s.heap s.heap [] := va_S.rf
  have hl := lv_entry ([.ref h_rd, .int p1]) (n := 3) (Nat.le_of_ble_eq_true rfl)
  rw [lg_entry_eq]
  generalize (lg_sl ([.ref h_rd, .int p1]) ++ List.replicate (3 - (lg_sl ([.ref h_rd, .int p1])).length) Slot.unset).toArray = ls at hl ⊢
  have hl : lv_has ls 3 [(0, .ref h_rd), (1, .int p1)] := hl
  refine lv_bipush (v := 24) hx hb dX5_take_0 (by decide) ?_
  refine lv_istore_n (lv' := [(2, .int 24), (0, .ref h_rd), (1, .int p1)]) hx hb dX5_take_2 rfl hl (by decide) rfl (fun ls hl => ?_)
  refine lv_iload_n hx hb dX5_take_3 rfl (lv_at hl 0 rfl) ?_
  refine lv_if_lt (tgt := 46) hx hb dX5_take_4 (by decide) (fun c9 => absurd c9 (by decide)) (fun _ => ?_)
  refine lv_aload_n hx hb dX5_take_7 rfl (lv_at hl 1 rfl) ?_
  refine va_get (D := (dC, dI)) (ci := 4) (v := .int 16) (C := RX5) (T := TX5) (N := 11) hx hb hw iwX5 hown hK hP 0 rfl rfl 1 (by decide) (hw _ w_f_X5_22) (fun _ h9 => h9) rfl dX5_take_8 ?_
  refine lv_sipush (v := 600) hx hb dX5_take_11 (by decide) ?_
  refine lv_icmp_ge (tgt := 46) hx hb dX5_take_14 (by decide) (fun c9 => absurd c9 (by decide)) (fun _ => ?_)
  refine lv_aload_n hx hb dX5_take_17 rfl (lv_at hl 1 rfl) ?_
  refine va_get (D := (dC, dI)) (ci := 4) (v := .ref h_by) (C := RX5) (T := TX5) (N := 11) hx hb hw iwX5 hown hK hP 0 rfl rfl 0 (by decide) (hw _ w_f_X5_9) (fun _ h9 => h9) rfl dX5_take_18 ?_
  refine lv_aload_n hx hb dX5_take_21 rfl (lv_at hl 1 rfl) ?_
  refine lv_dup hx hb dX5_take_22 rfl ?_
  refine va_get (D := (dC, dI)) (ci := 4) (v := .int 16) (C := RX5) (T := TX5) (N := 11) hx hb hw iwX5 hown hK hP 0 rfl rfl 1 (by decide) (hw _ w_f_X5_22) (fun _ h9 => h9) rfl dX5_take_23 ?_
  refine lv_dup_x1 hx hb dX5_take_26 rfl rfl ?_
  refine lv_iconst (v := 1) hx hb dX5_take_27 (by decide) ?_
  refine lv_iadd hx hb dX5_take_28 ?_
  refine lv_topi (fun z1 ez1 => ?_)
  obtain rfl : z1 = 17 := ez1.trans (by decide)
  refine va_put (D := (dC, dI)) (ci := 4) (v := .int 17) (ty := tyX5 1) (C := RX5) (T := TX5) (N := 11) hx hb hw iwX5 tyX5 tyX5_ok nmX5 hown hK hP hD hS 0 rfl rfl 1 (by decide) (hw _ w_f_X5_22) (fun _ h9 => h9) rfl (tyX5_ok 1 (by decide)) rfl rfl (Nat.le_of_ble_eq_true rfl) dX5_take_29 (fun H locs hP hD hS => ?_)
  have hP : va_P (dC, dI) cls [(h_rd, .inr (4, [.ref h_by, .int 17, (v_rd 2), (v_rd 3), (v_rd 4), (v_rd 5), (v_rd 6), (v_rd 7), (v_rd 8), (v_rd 9), (v_rd 10)])), (h_by, .inl (cy_by, 600, .inl f_by))] H := hP
  have hD : va_D A [(h_rd, .inr (4, [.ref h_by, .int 17, (v_rd 2), (v_rd 3), (v_rd 4), (v_rd 5), (v_rd 6), (v_rd 7), (v_rd 8), (v_rd 9), (v_rd 10)])), (h_by, .inl (cy_by, 600, .inl f_by))] := hD
  refine lv_iload_n hx hb dX5_take_32 rfl (lv_at hl 2 rfl) ?_
  refine lv_iload_n hx hb dX5_take_33 rfl (lv_at hl 0 rfl) ?_
  refine lv_ishr hx hb dX5_take_34 ?_
  refine lv_topi (fun z2 ez2 => ?_)
  refine lv_sipush (v := 255) hx hb dX5_take_35 (by decide) ?_
  refine lv_iand hx hb dX5_take_38 ?_
  refine lv_topi (fun z3 ez3 => ?_)
  refine va_iast hx hb hK hP hD hS 1 0 rfl rfl (i := 16) (x := z3) (show ¬ _ from by decide) dX5_take_39 (fun H locs hP hD hS => ?_)
  obtain ⟨f4, ef4⟩ : ∃ g : Nat → Int32, g = upd f_by (Int32.toNatClampNeg 16) z3 := ⟨_, rfl⟩
  have hP : va_P (dC, dI) cls [(h_rd, .inr (4, [.ref h_by, .int 17, (v_rd 2), (v_rd 3), (v_rd 4), (v_rd 5), (v_rd 6), (v_rd 7), (v_rd 8), (v_rd 9), (v_rd 10)])), (h_by, .inl (cy_by, 600, .inl f4))] H := by rw [ef4]; exact hP
  have hD : va_D A [(h_rd, .inr (4, [.ref h_by, .int 17, (v_rd 2), (v_rd 3), (v_rd 4), (v_rd 5), (v_rd 6), (v_rd 7), (v_rd 8), (v_rd 9), (v_rd 10)])), (h_by, .inl (cy_by, 600, .inl f4))] := by rw [ef4]; exact hD
  clear ef4
  refine lv_iinc (v := 16) (lv' := [(2, .int 16), (0, .ref h_rd), (1, .int p1)]) hx hb dX5_take_40 hl (k := 0) rfl (by decide) (by decide) rfl (fun ls hl => ?_)
  refine lv_goto (tgt := 3) hx hb dX5_take_43 (by decide) ?_
  refine lv_iload_n hx hb dX5_take_3 rfl (lv_at hl 0 rfl) ?_
  refine lv_if_lt (tgt := 46) hx hb dX5_take_4 (by decide) (fun c9 => absurd c9 (by decide)) (fun _ => ?_)
  refine lv_aload_n hx hb dX5_take_7 rfl (lv_at hl 1 rfl) ?_
  refine va_get (D := (dC, dI)) (ci := 4) (v := .int 17) (C := RX5) (T := TX5) (N := 11) hx hb hw iwX5 hown hK hP 0 rfl rfl 1 (by decide) (hw _ w_f_X5_22) (fun _ h9 => h9) rfl dX5_take_8 ?_
  refine lv_sipush (v := 600) hx hb dX5_take_11 (by decide) ?_
  refine lv_icmp_ge (tgt := 46) hx hb dX5_take_14 (by decide) (fun c9 => absurd c9 (by decide)) (fun _ => ?_)
  refine lv_aload_n hx hb dX5_take_17 rfl (lv_at hl 1 rfl) ?_
  refine va_get (D := (dC, dI)) (ci := 4) (v := .ref h_by) (C := RX5) (T := TX5) (N := 11) hx hb hw iwX5 hown hK hP 0 rfl rfl 0 (by decide) (hw _ w_f_X5_9) (fun _ h9 => h9) rfl dX5_take_18 ?_
  refine lv_aload_n hx hb dX5_take_21 rfl (lv_at hl 1 rfl) ?_
  refine lv_dup hx hb dX5_take_22 rfl ?_
  refine va_get (D := (dC, dI)) (ci := 4) (v := .int 17) (C := RX5) (T := TX5) (N := 11) hx hb hw iwX5 hown hK hP 0 rfl rfl 1 (by decide) (hw _ w_f_X5_22) (fun _ h9 => h9) rfl dX5_take_23 ?_
  refine lv_dup_x1 hx hb dX5_take_26 rfl rfl ?_
  refine lv_iconst (v := 1) hx hb dX5_take_27 (by decide) ?_
  refine lv_iadd hx hb dX5_take_28 ?_
  refine lv_topi (fun z5 ez5 => ?_)
  obtain rfl : z5 = 18 := ez5.trans (by decide)
  refine va_put (D := (dC, dI)) (ci := 4) (v := .int 18) (ty := tyX5 1) (C := RX5) (T := TX5) (N := 11) hx hb hw iwX5 tyX5 tyX5_ok nmX5 hown hK hP hD hS 0 rfl rfl 1 (by decide) (hw _ w_f_X5_22) (fun _ h9 => h9) rfl (tyX5_ok 1 (by decide)) rfl rfl (Nat.le_of_ble_eq_true rfl) dX5_take_29 (fun H locs hP hD hS => ?_)
  have hP : va_P (dC, dI) cls [(h_rd, .inr (4, [.ref h_by, .int 18, (v_rd 2), (v_rd 3), (v_rd 4), (v_rd 5), (v_rd 6), (v_rd 7), (v_rd 8), (v_rd 9), (v_rd 10)])), (h_by, .inl (cy_by, 600, .inl f4))] H := hP
  have hD : va_D A [(h_rd, .inr (4, [.ref h_by, .int 18, (v_rd 2), (v_rd 3), (v_rd 4), (v_rd 5), (v_rd 6), (v_rd 7), (v_rd 8), (v_rd 9), (v_rd 10)])), (h_by, .inl (cy_by, 600, .inl f4))] := hD
  refine lv_iload_n hx hb dX5_take_32 rfl (lv_at hl 2 rfl) ?_
  refine lv_iload_n hx hb dX5_take_33 rfl (lv_at hl 0 rfl) ?_
  refine lv_ishr hx hb dX5_take_34 ?_
  refine lv_topi (fun z6 ez6 => ?_)
  refine lv_sipush (v := 255) hx hb dX5_take_35 (by decide) ?_
  refine lv_iand hx hb dX5_take_38 ?_
  refine lv_topi (fun z7 ez7 => ?_)
  refine va_iast hx hb hK hP hD hS 1 0 rfl rfl (i := 17) (x := z7) (show ¬ _ from by decide) dX5_take_39 (fun H locs hP hD hS => ?_)
  obtain ⟨f8, ef8⟩ : ∃ g : Nat → Int32, g = upd f4 (Int32.toNatClampNeg 17) z7 := ⟨_, rfl⟩
  have hP : va_P (dC, dI) cls [(h_rd, .inr (4, [.ref h_by, .int 18, (v_rd 2), (v_rd 3), (v_rd 4), (v_rd 5), (v_rd 6), (v_rd 7), (v_rd 8), (v_rd 9), (v_rd 10)])), (h_by, .inl (cy_by, 600, .inl f8))] H := by rw [ef8]; exact hP
  have hD : va_D A [(h_rd, .inr (4, [.ref h_by, .int 18, (v_rd 2), (v_rd 3), (v_rd 4), (v_rd 5), (v_rd 6), (v_rd 7), (v_rd 8), (v_rd 9), (v_rd 10)])), (h_by, .inl (cy_by, 600, .inl f8))] := by rw [ef8]; exact hD
  clear ef8
  refine lv_iinc (v := 8) (lv' := [(2, .int 8), (0, .ref h_rd), (1, .int p1)]) hx hb dX5_take_40 hl (k := 0) rfl (by decide) (by decide) rfl (fun ls hl => ?_)
  refine lv_goto (tgt := 3) hx hb dX5_take_43 (by decide) ?_
  refine lv_iload_n hx hb dX5_take_3 rfl (lv_at hl 0 rfl) ?_
  refine lv_if_lt (tgt := 46) hx hb dX5_take_4 (by decide) (fun c9 => absurd c9 (by decide)) (fun _ => ?_)
  refine lv_aload_n hx hb dX5_take_7 rfl (lv_at hl 1 rfl) ?_
  refine va_get (D := (dC, dI)) (ci := 4) (v := .int 18) (C := RX5) (T := TX5) (N := 11) hx hb hw iwX5 hown hK hP 0 rfl rfl 1 (by decide) (hw _ w_f_X5_22) (fun _ h9 => h9) rfl dX5_take_8 ?_
  refine lv_sipush (v := 600) hx hb dX5_take_11 (by decide) ?_
  refine lv_icmp_ge (tgt := 46) hx hb dX5_take_14 (by decide) (fun c9 => absurd c9 (by decide)) (fun _ => ?_)
  refine lv_aload_n hx hb dX5_take_17 rfl (lv_at hl 1 rfl) ?_
  refine va_get (D := (dC, dI)) (ci := 4) (v := .ref h_by) (C := RX5) (T := TX5) (N := 11) hx hb hw iwX5 hown hK hP 0 rfl rfl 0 (by decide) (hw _ w_f_X5_9) (fun _ h9 => h9) rfl dX5_take_18 ?_
  refine lv_aload_n hx hb dX5_take_21 rfl (lv_at hl 1 rfl) ?_
  refine lv_dup hx hb dX5_take_22 rfl ?_
  refine va_get (D := (dC, dI)) (ci := 4) (v := .int 18) (C := RX5) (T := TX5) (N := 11) hx hb hw iwX5 hown hK hP 0 rfl rfl 1 (by decide) (hw _ w_f_X5_22) (fun _ h9 => h9) rfl dX5_take_23 ?_
  refine lv_dup_x1 hx hb dX5_take_26 rfl rfl ?_
  refine lv_iconst (v := 1) hx hb dX5_take_27 (by decide) ?_
  refine lv_iadd hx hb dX5_take_28 ?_
  refine lv_topi (fun z9 ez9 => ?_)
  obtain rfl : z9 = 19 := ez9.trans (by decide)
  refine va_put (D := (dC, dI)) (ci := 4) (v := .int 19) (ty := tyX5 1) (C := RX5) (T := TX5) (N := 11) hx hb hw iwX5 tyX5 tyX5_ok nmX5 hown hK hP hD hS 0 rfl rfl 1 (by decide) (hw _ w_f_X5_22) (fun _ h9 => h9) rfl (tyX5_ok 1 (by decide)) rfl rfl (Nat.le_of_ble_eq_true rfl) dX5_take_29 (fun H locs hP hD hS => ?_)
  have hP : va_P (dC, dI) cls [(h_rd, .inr (4, [.ref h_by, .int 19, (v_rd 2), (v_rd 3), (v_rd 4), (v_rd 5), (v_rd 6), (v_rd 7), (v_rd 8), (v_rd 9), (v_rd 10)])), (h_by, .inl (cy_by, 600, .inl f8))] H := hP
  have hD : va_D A [(h_rd, .inr (4, [.ref h_by, .int 19, (v_rd 2), (v_rd 3), (v_rd 4), (v_rd 5), (v_rd 6), (v_rd 7), (v_rd 8), (v_rd 9), (v_rd 10)])), (h_by, .inl (cy_by, 600, .inl f8))] := hD
  refine lv_iload_n hx hb dX5_take_32 rfl (lv_at hl 2 rfl) ?_
  refine lv_iload_n hx hb dX5_take_33 rfl (lv_at hl 0 rfl) ?_
  refine lv_ishr hx hb dX5_take_34 ?_
  refine lv_topi (fun z10 ez10 => ?_)
  refine lv_sipush (v := 255) hx hb dX5_take_35 (by decide) ?_
  refine lv_iand hx hb dX5_take_38 ?_
  refine lv_topi (fun z11 ez11 => ?_)
  refine va_iast hx hb hK hP hD hS 1 0 rfl rfl (i := 18) (x := z11) (show ¬ _ from by decide) dX5_take_39 (fun H locs hP hD hS => ?_)
  obtain ⟨f12, ef12⟩ : ∃ g : Nat → Int32, g = upd f8 (Int32.toNatClampNeg 18) z11 := ⟨_, rfl⟩
  have hP : va_P (dC, dI) cls [(h_rd, .inr (4, [.ref h_by, .int 19, (v_rd 2), (v_rd 3), (v_rd 4), (v_rd 5), (v_rd 6), (v_rd 7), (v_rd 8), (v_rd 9), (v_rd 10)])), (h_by, .inl (cy_by, 600, .inl f12))] H := by rw [ef12]; exact hP
  have hD : va_D A [(h_rd, .inr (4, [.ref h_by, .int 19, (v_rd 2), (v_rd 3), (v_rd 4), (v_rd 5), (v_rd 6), (v_rd 7), (v_rd 8), (v_rd 9), (v_rd 10)])), (h_by, .inl (cy_by, 600, .inl f12))] := by rw [ef12]; exact hD
  clear ef12
  refine lv_iinc (v := 0) (lv' := [(2, .int 0), (0, .ref h_rd), (1, .int p1)]) hx hb dX5_take_40 hl (k := 0) rfl (by decide) (by decide) rfl (fun ls hl => ?_)
  refine lv_goto (tgt := 3) hx hb dX5_take_43 (by decide) ?_
  refine lv_iload_n hx hb dX5_take_3 rfl (lv_at hl 0 rfl) ?_
  refine lv_if_lt (tgt := 46) hx hb dX5_take_4 (by decide) (fun c9 => absurd c9 (by decide)) (fun _ => ?_)
  refine lv_aload_n hx hb dX5_take_7 rfl (lv_at hl 1 rfl) ?_
  refine va_get (D := (dC, dI)) (ci := 4) (v := .int 19) (C := RX5) (T := TX5) (N := 11) hx hb hw iwX5 hown hK hP 0 rfl rfl 1 (by decide) (hw _ w_f_X5_22) (fun _ h9 => h9) rfl dX5_take_8 ?_
  refine lv_sipush (v := 600) hx hb dX5_take_11 (by decide) ?_
  refine lv_icmp_ge (tgt := 46) hx hb dX5_take_14 (by decide) (fun c9 => absurd c9 (by decide)) (fun _ => ?_)
  refine lv_aload_n hx hb dX5_take_17 rfl (lv_at hl 1 rfl) ?_
  refine va_get (D := (dC, dI)) (ci := 4) (v := .ref h_by) (C := RX5) (T := TX5) (N := 11) hx hb hw iwX5 hown hK hP 0 rfl rfl 0 (by decide) (hw _ w_f_X5_9) (fun _ h9 => h9) rfl dX5_take_18 ?_
  refine lv_aload_n hx hb dX5_take_21 rfl (lv_at hl 1 rfl) ?_
  refine lv_dup hx hb dX5_take_22 rfl ?_
  refine va_get (D := (dC, dI)) (ci := 4) (v := .int 19) (C := RX5) (T := TX5) (N := 11) hx hb hw iwX5 hown hK hP 0 rfl rfl 1 (by decide) (hw _ w_f_X5_22) (fun _ h9 => h9) rfl dX5_take_23 ?_
  refine lv_dup_x1 hx hb dX5_take_26 rfl rfl ?_
  refine lv_iconst (v := 1) hx hb dX5_take_27 (by decide) ?_
  refine lv_iadd hx hb dX5_take_28 ?_
  refine lv_topi (fun z13 ez13 => ?_)
  obtain rfl : z13 = 20 := ez13.trans (by decide)
  refine va_put (D := (dC, dI)) (ci := 4) (v := .int 20) (ty := tyX5 1) (C := RX5) (T := TX5) (N := 11) hx hb hw iwX5 tyX5 tyX5_ok nmX5 hown hK hP hD hS 0 rfl rfl 1 (by decide) (hw _ w_f_X5_22) (fun _ h9 => h9) rfl (tyX5_ok 1 (by decide)) rfl rfl (Nat.le_of_ble_eq_true rfl) dX5_take_29 (fun H locs hP hD hS => ?_)
  have hP : va_P (dC, dI) cls [(h_rd, .inr (4, [.ref h_by, .int 20, (v_rd 2), (v_rd 3), (v_rd 4), (v_rd 5), (v_rd 6), (v_rd 7), (v_rd 8), (v_rd 9), (v_rd 10)])), (h_by, .inl (cy_by, 600, .inl f12))] H := hP
  have hD : va_D A [(h_rd, .inr (4, [.ref h_by, .int 20, (v_rd 2), (v_rd 3), (v_rd 4), (v_rd 5), (v_rd 6), (v_rd 7), (v_rd 8), (v_rd 9), (v_rd 10)])), (h_by, .inl (cy_by, 600, .inl f12))] := hD
  refine lv_iload_n hx hb dX5_take_32 rfl (lv_at hl 2 rfl) ?_
  refine lv_iload_n hx hb dX5_take_33 rfl (lv_at hl 0 rfl) ?_
  refine lv_ishr hx hb dX5_take_34 ?_
  refine lv_topi (fun z14 ez14 => ?_)
  refine lv_sipush (v := 255) hx hb dX5_take_35 (by decide) ?_
  refine lv_iand hx hb dX5_take_38 ?_
  refine lv_topi (fun z15 ez15 => ?_)
  refine va_iast hx hb hK hP hD hS 1 0 rfl rfl (i := 19) (x := z15) (show ¬ _ from by decide) dX5_take_39 (fun H locs hP hD hS => ?_)
  obtain ⟨f16, ef16⟩ : ∃ g : Nat → Int32, g = upd f12 (Int32.toNatClampNeg 19) z15 := ⟨_, rfl⟩
  have hP : va_P (dC, dI) cls [(h_rd, .inr (4, [.ref h_by, .int 20, (v_rd 2), (v_rd 3), (v_rd 4), (v_rd 5), (v_rd 6), (v_rd 7), (v_rd 8), (v_rd 9), (v_rd 10)])), (h_by, .inl (cy_by, 600, .inl f16))] H := by rw [ef16]; exact hP
  have hD : va_D A [(h_rd, .inr (4, [.ref h_by, .int 20, (v_rd 2), (v_rd 3), (v_rd 4), (v_rd 5), (v_rd 6), (v_rd 7), (v_rd 8), (v_rd 9), (v_rd 10)])), (h_by, .inl (cy_by, 600, .inl f16))] := by rw [ef16]; exact hD
  clear ef16
  refine lv_iinc (v := (-8)) (lv' := [(2, .int (-8)), (0, .ref h_rd), (1, .int p1)]) hx hb dX5_take_40 hl (k := 0) rfl (by decide) (by decide) rfl (fun ls hl => ?_)
  refine lv_goto (tgt := 3) hx hb dX5_take_43 (by decide) ?_
  refine lv_iload_n hx hb dX5_take_3 rfl (lv_at hl 0 rfl) ?_
  refine lv_if_lt (tgt := 46) hx hb dX5_take_4 (by decide) (fun _ => ?_) (fun c9 => absurd c9 (by decide))
  refine W.widen (k := 0) (n := 0) (Nat.le_of_ble_eq_true rfl) (Nat.le_of_ble_eq_true rfl) ?_
  have hK9 := hK.sub (tys' := []) [] rfl
  exact W.vret hx hb hr (fun t ht hW => ⟨⟨f16, rfl, trivial, by rw [ht]; exact hP, va_K.moved hW.alike hK9, hD⟩, hS.F ht⟩) hS.2.2 dX5_take_46

set_option maxHeartbeats 4000000 in
set_option maxRecDepth 100000 in
theorem c_X5_nextToken (l : Launch) (dC : Nat → ClassId) (dI : Nat → Nat → Nat) (sz : Nat) (h_rd : Nat) (v_rd : Nat → Value) : Met l yX5_nextToken (Ws yX5_nextToken cX5_nextToken 1 none) ({ frames := 0, cells := 0, slots := 0, locals := 0 }) (PRE (dC, dI) cls [] [(h_rd, .inr (4, [(v_rd 0), .int 0, (v_rd 2), (v_rd 3), (v_rd 4), (v_rd 5), (v_rd 6), (v_rd 7), .int 0, (v_rd 9), (v_rd 10)]))] sz [.ref h_rd]) (va_Qv (fun (_ : Unit) => True) (fun (u : Unit) (t : State) => va_P (dC, dI) cls [(h_rd, .inr (4, [(v_rd 0), .int 0, (v_rd 2), (v_rd 3), (v_rd 4), (v_rd 5), (v_rd 6), .int 0, .int 0, .int (-1), (v_rd 10)]))] t.heap ∧ va_K (dC, dI) cls [] t ∧ va_D (va_A [(h_rd, .inr (4, [(v_rd 0), .int 0, (v_rd 2), (v_rd 3), (v_rd 4), (v_rd 5), (v_rd 6), (v_rd 7), .int 0, (v_rd 9), (v_rd 10)]))] sz) [(h_rd, .inr (4, [(v_rd 0), .int 0, (v_rd 2), (v_rd 3), (v_rd 4), (v_rd 5), (v_rd 6), .int 0, .int 0, .int (-1), (v_rd 10)]))]) (va_A [(h_rd, .inr (4, [(v_rd 0), .int 0, (v_rd 2), (v_rd 3), (v_rd 4), (v_rd 5), (v_rd 6), (v_rd 7), .int 0, (v_rd 9), (v_rd 10)]))] sz)) 0 0 (va_A [(h_rd, .inr (4, [(v_rd 0), .int 0, (v_rd 2), (v_rd 3), (v_rd 4), (v_rd 5), (v_rd 6), (v_rd 7), .int 0, (v_rd 9), (v_rd 10)]))] sz) := by
  refine Met.ofW (cc := cX5_nextToken) (maxL := 1) (ret := none) (by decide) rfl ?_
  intro p e s m args below meth c s₁ B hml hv
  obtain ⟨rfl, hsz, hP, hK, hD0, hN⟩ := hv
  have hx := B.exec
  have hb := B.bytes
  have hr := B.returns
  have hts := atoms_spec (ws := Ws yX5_nextToken cX5_nextToken 1 none) B.pre
  have hT : ∀ w ∈ WALL, w ∈ Ws yX5_nextToken cX5_nextToken 1 none := fun w h => List.mem_cons_of_mem _ h
  have hw := fun w (h : w ∈ WALL) => hts w (hT w h)
  have hown : s.vm.findClass RX5 = some m.cls := findClass_of_methodNamed B.named
  have hlocks := B.notSynchronized
  subst hsz
  have hD := hD0.self (sz := s.heap.size)
  generalize hAe : va_A [(h_rd, .inr (4, [(v_rd 0), .int 0, (v_rd 2), (v_rd 3), (v_rd 4), (v_rd 5), (v_rd 6), (v_rd 7), .int 0, (v_rd 9), (v_rd 10)]))] s.heap.size = A at hD ⊢
  have hA : ∀ q : Nat, s.heap.size ≤ q → A q := fun q h => by rw [← hAe]; exact Or.inr h
  have hS : va_S A s.heap s.heap [] := va_S.rf
  have hl := lv_entry ([.ref h_rd]) (n := 1) (Nat.le_of_ble_eq_true rfl)
  rw [lg_entry_eq]
  generalize (lg_sl ([.ref h_rd]) ++ List.replicate (1 - (lg_sl ([.ref h_rd])).length) Slot.unset).toArray = ls at hl ⊢
  have hl : lv_has ls 1 [(0, .ref h_rd)] := hl
  refine lv_aload_n hx hb dX5_nextToken_0 rfl (lv_at hl 0 rfl) ?_
  refine lv_aload_n hx hb dX5_nextToken_1 rfl (lv_at hl 0 rfl) ?_
  refine va_get (D := (dC, dI)) (ci := 4) (v := .int 0) (C := RX5) (T := TX5) (N := 11) hx hb hw iwX5 hown hK hP 0 rfl rfl 8 (by decide) (hw _ w_f_X5_37) (fun _ h9 => h9) rfl dX5_nextToken_2 ?_
  refine va_put (D := (dC, dI)) (ci := 4) (v := .int 0) (ty := tyX5 7) (C := RX5) (T := TX5) (N := 11) hx hb hw iwX5 tyX5 tyX5_ok nmX5 hown hK hP hD hS 0 rfl rfl 7 (by decide) (hw _ w_f_X5_49) (fun _ h9 => h9) rfl (tyX5_ok 7 (by decide)) rfl rfl (Nat.le_of_ble_eq_true rfl) dX5_nextToken_5 (fun H locs hP hD hS => ?_)
  have hP : va_P (dC, dI) cls [(h_rd, .inr (4, [(v_rd 0), .int 0, (v_rd 2), (v_rd 3), (v_rd 4), (v_rd 5), (v_rd 6), .int 0, .int 0, (v_rd 9), (v_rd 10)]))] H := hP
  have hD : va_D A [(h_rd, .inr (4, [(v_rd 0), .int 0, (v_rd 2), (v_rd 3), (v_rd 4), (v_rd 5), (v_rd 6), .int 0, .int 0, (v_rd 9), (v_rd 10)]))] := hD
  refine lv_aload_n hx hb dX5_nextToken_8 rfl (lv_at hl 0 rfl) ?_
  refine va_get (D := (dC, dI)) (ci := 4) (v := .int 0) (C := RX5) (T := TX5) (N := 11) hx hb hw iwX5 hown hK hP 0 rfl rfl 7 (by decide) (hw _ w_f_X5_49) (fun _ h9 => h9) rfl dX5_nextToken_9 ?_
  refine lv_aload_n hx hb dX5_nextToken_12 rfl (lv_at hl 0 rfl) ?_
  refine va_get (D := (dC, dI)) (ci := 4) (v := .int 0) (C := RX5) (T := TX5) (N := 11) hx hb hw iwX5 hown hK hP 0 rfl rfl 1 (by decide) (hw _ w_f_X5_22) (fun _ h9 => h9) rfl dX5_nextToken_13 ?_
  refine lv_icmp_ge (tgt := 60) hx hb dX5_nextToken_16 (by decide) (fun _ => ?_) (fun c9 => absurd c9 (by decide))
  refine lv_aload_n hx hb dX5_nextToken_60 rfl (lv_at hl 0 rfl) ?_
  refine va_get (D := (dC, dI)) (ci := 4) (v := .int 0) (C := RX5) (T := TX5) (N := 11) hx hb hw iwX5 hown hK hP 0 rfl rfl 7 (by decide) (hw _ w_f_X5_49) (fun _ h9 => h9) rfl dX5_nextToken_61 ?_
  refine lv_aload_n hx hb dX5_nextToken_64 rfl (lv_at hl 0 rfl) ?_
  refine va_get (D := (dC, dI)) (ci := 4) (v := .int 0) (C := RX5) (T := TX5) (N := 11) hx hb hw iwX5 hown hK hP 0 rfl rfl 1 (by decide) (hw _ w_f_X5_22) (fun _ h9 => h9) rfl dX5_nextToken_65 ?_
  refine lv_icmp_lt (tgt := 79) hx hb dX5_nextToken_68 (by decide) (fun c9 => absurd c9 (by decide)) (fun _ => ?_)
  refine lv_aload_n hx hb dX5_nextToken_71 rfl (lv_at hl 0 rfl) ?_
  refine lv_iconst (v := (-1)) hx hb dX5_nextToken_72 (by decide) ?_
  refine va_put (D := (dC, dI)) (ci := 4) (v := .int (-1)) (ty := tyX5 9) (C := RX5) (T := TX5) (N := 11) hx hb hw iwX5 tyX5 tyX5_ok nmX5 hown hK hP hD hS 0 rfl rfl 9 (by decide) (hw _ w_f_X5_43) (fun _ h9 => h9) rfl (tyX5_ok 9 (by decide)) rfl rfl (Nat.le_of_ble_eq_true rfl) dX5_nextToken_73 (fun H locs hP hD hS => ?_)
  have hP : va_P (dC, dI) cls [(h_rd, .inr (4, [(v_rd 0), .int 0, (v_rd 2), (v_rd 3), (v_rd 4), (v_rd 5), (v_rd 6), .int 0, .int 0, .int (-1), (v_rd 10)]))] H := hP
  have hD : va_D A [(h_rd, .inr (4, [(v_rd 0), .int 0, (v_rd 2), (v_rd 3), (v_rd 4), (v_rd 5), (v_rd 6), .int 0, .int 0, .int (-1), (v_rd 10)]))] := hD
  refine lv_goto (tgt := 139) hx hb dX5_nextToken_76 (by decide) ?_
  refine W.widen (k := 0) (n := 0) (Nat.le_of_ble_eq_true rfl) (Nat.le_of_ble_eq_true rfl) ?_
  have hK9 := hK.sub (tys' := []) [] rfl
  exact W.vret hx hb hr (fun t ht hW => ⟨⟨(), rfl, trivial, by rw [ht]; exact hP, va_K.moved hW.alike hK9, hD⟩, hS.F ht⟩) hS.2.2 dX5_nextToken_139

set_option maxHeartbeats 4000000 in
set_option maxRecDepth 100000 in
theorem c_X8_clear (l : Launch) (dC : Nat → ClassId) (dI : Nat → Nat → Nat) (sz : Nat) (h_td : Nat) (v_td : Nat → Value) : Met l yX8_clear (Ws yX8_clear cX8_clear 1 none) ({ frames := 0, cells := 0, slots := 0, locals := 0 }) (PRE (dC, dI) cls [] [(h_td, .inr (5, [(v_td 0), (v_td 1), (v_td 2), (v_td 3), (v_td 4), (v_td 5), (v_td 6), (v_td 7), (v_td 8), (v_td 9)]))] sz [.ref h_td]) (va_Qv (fun (_ : Unit) => True) (fun (u : Unit) (t : State) => va_P (dC, dI) cls [(h_td, .inr (5, [(v_td 0), (v_td 1), (v_td 2), (v_td 3), .int 0, (v_td 5), (v_td 6), (v_td 7), (v_td 8), .int 0]))] t.heap ∧ va_K (dC, dI) cls [] t ∧ va_D (va_A [(h_td, .inr (5, [(v_td 0), (v_td 1), (v_td 2), (v_td 3), (v_td 4), (v_td 5), (v_td 6), (v_td 7), (v_td 8), (v_td 9)]))] sz) [(h_td, .inr (5, [(v_td 0), (v_td 1), (v_td 2), (v_td 3), .int 0, (v_td 5), (v_td 6), (v_td 7), (v_td 8), .int 0]))]) (va_A [(h_td, .inr (5, [(v_td 0), (v_td 1), (v_td 2), (v_td 3), (v_td 4), (v_td 5), (v_td 6), (v_td 7), (v_td 8), (v_td 9)]))] sz)) 0 0 (va_A [(h_td, .inr (5, [(v_td 0), (v_td 1), (v_td 2), (v_td 3), (v_td 4), (v_td 5), (v_td 6), (v_td 7), (v_td 8), (v_td 9)]))] sz) := by
  refine Met.ofW (cc := cX8_clear) (maxL := 1) (ret := none) (by decide) rfl ?_
  intro p e s m args below meth c s₁ B hml hv
  obtain ⟨rfl, hsz, hP, hK, hD0, hN⟩ := hv
  have hx := B.exec
  have hb := B.bytes
  have hr := B.returns
  have hts := atoms_spec (ws := Ws yX8_clear cX8_clear 1 none) B.pre
  have hT : ∀ w ∈ WALL, w ∈ Ws yX8_clear cX8_clear 1 none := fun w h => List.mem_cons_of_mem _ h
  have hw := fun w (h : w ∈ WALL) => hts w (hT w h)
  have hown : s.vm.findClass RX8 = some m.cls := findClass_of_methodNamed B.named
  have hlocks := B.notSynchronized
  subst hsz
  have hD := hD0.self (sz := s.heap.size)
  generalize hAe : va_A [(h_td, .inr (5, [(v_td 0), (v_td 1), (v_td 2), (v_td 3), (v_td 4), (v_td 5), (v_td 6), (v_td 7), (v_td 8), (v_td 9)]))] s.heap.size = A at hD ⊢
  have hA : ∀ q : Nat, s.heap.size ≤ q → A q := fun q h => by rw [← hAe]; exact Or.inr h
  have hS : va_S A s.heap s.heap [] := va_S.rf
  have hl := lv_entry ([.ref h_td]) (n := 1) (Nat.le_of_ble_eq_true rfl)
  rw [lg_entry_eq]
  generalize (lg_sl ([.ref h_td]) ++ List.replicate (1 - (lg_sl ([.ref h_td])).length) Slot.unset).toArray = ls at hl ⊢
  have hl : lv_has ls 1 [(0, .ref h_td)] := hl
  refine lv_aload_n hx hb dX8_clear_0 rfl (lv_at hl 0 rfl) ?_
  refine lv_iconst (v := 0) hx hb dX8_clear_1 (by decide) ?_
  refine va_put (D := (dC, dI)) (ci := 5) (v := .int 0) (ty := tyX8 4) (C := RX8) (T := TX8) (N := 10) hx hb hw iwX8 tyX8 tyX8_ok nmX8 hown hK hP hD hS 0 rfl rfl 4 (by decide) (hw _ w_f_X8_37) (fun _ h9 => h9) rfl (tyX8_ok 4 (by decide)) rfl rfl (Nat.le_of_ble_eq_true rfl) dX8_clear_2 (fun H locs hP hD hS => ?_)
  have hP : va_P (dC, dI) cls [(h_td, .inr (5, [(v_td 0), (v_td 1), (v_td 2), (v_td 3), .int 0, (v_td 5), (v_td 6), (v_td 7), (v_td 8), (v_td 9)]))] H := hP
  have hD : va_D A [(h_td, .inr (5, [(v_td 0), (v_td 1), (v_td 2), (v_td 3), .int 0, (v_td 5), (v_td 6), (v_td 7), (v_td 8), (v_td 9)]))] := hD
  refine lv_aload_n hx hb dX8_clear_5 rfl (lv_at hl 0 rfl) ?_
  refine lv_iconst (v := 0) hx hb dX8_clear_6 (by decide) ?_
  refine va_put (D := (dC, dI)) (ci := 5) (v := .int 0) (ty := tyX8 9) (C := RX8) (T := TX8) (N := 10) hx hb hw iwX8 tyX8 tyX8_ok nmX8 hown hK hP hD hS 0 rfl rfl 9 (by decide) (hw _ w_f_X8_41) (fun _ h9 => h9) rfl (tyX8_ok 9 (by decide)) rfl rfl (Nat.le_of_ble_eq_true rfl) dX8_clear_7 (fun H locs hP hD hS => ?_)
  have hP : va_P (dC, dI) cls [(h_td, .inr (5, [(v_td 0), (v_td 1), (v_td 2), (v_td 3), .int 0, (v_td 5), (v_td 6), (v_td 7), (v_td 8), .int 0]))] H := hP
  have hD : va_D A [(h_td, .inr (5, [(v_td 0), (v_td 1), (v_td 2), (v_td 3), .int 0, (v_td 5), (v_td 6), (v_td 7), (v_td 8), .int 0]))] := hD
  refine W.widen (k := 0) (n := 0) (Nat.le_of_ble_eq_true rfl) (Nat.le_of_ble_eq_true rfl) ?_
  have hK9 := hK.sub (tys' := []) [] rfl
  exact W.vret hx hb hr (fun t ht hW => ⟨⟨(), rfl, trivial, by rw [ht]; exact hP, va_K.moved hW.alike hK9, hD⟩, hS.F ht⟩) hS.2.2 dX8_clear_10

set_option maxHeartbeats 4000000 in
set_option maxRecDepth 100000 in
theorem c_X5_read (l : Launch) (dC : Nat → ClassId) (dI : Nat → Nat → Nat) (sz : Nat) (h_rd : Nat) (h_td : Nat) (v_rd : Nat → Value) (v_td : Nat → Value) : Met l yX5_read (Ws yX5_read cX5_read 3 none) ({ frames := 1, cells := 0, slots := 0, locals := 20 }) (PRE (dC, dI) cls [] [(h_rd, .inr (4, [(v_rd 0), .int 0, (v_rd 2), (v_rd 3), (v_rd 4), (v_rd 5), (v_rd 6), (v_rd 7), (v_rd 8), (v_rd 9), (v_rd 10)])), (h_td, .inr (5, [(v_td 0), (v_td 1), (v_td 2), (v_td 3), (v_td 4), (v_td 5), (v_td 6), (v_td 7), (v_td 8), (v_td 9)]))] sz [.ref h_rd, .ref h_td]) (va_Qv (fun (_ : Unit) => True) (fun (u : Unit) (t : State) => va_P (dC, dI) cls [(h_td, .inr (5, [(v_td 0), (v_td 1), (v_td 2), (v_td 3), .int 0, (v_td 5), (v_td 6), (v_td 7), (v_td 8), .int 0])), (h_rd, .inr (4, [(v_rd 0), .int 0, .int 0, .int (-1), .ref h_td, (v_rd 5), (v_rd 6), .int 0, .int 0, .int (-1), (v_rd 10)]))] t.heap ∧ va_K (dC, dI) cls [] t ∧ va_D (va_A [(h_rd, .inr (4, [(v_rd 0), .int 0, (v_rd 2), (v_rd 3), (v_rd 4), (v_rd 5), (v_rd 6), (v_rd 7), (v_rd 8), (v_rd 9), (v_rd 10)])), (h_td, .inr (5, [(v_td 0), (v_td 1), (v_td 2), (v_td 3), (v_td 4), (v_td 5), (v_td 6), (v_td 7), (v_td 8), (v_td 9)]))] sz) [(h_td, .inr (5, [(v_td 0), (v_td 1), (v_td 2), (v_td 3), .int 0, (v_td 5), (v_td 6), (v_td 7), (v_td 8), .int 0])), (h_rd, .inr (4, [(v_rd 0), .int 0, .int 0, .int (-1), .ref h_td, (v_rd 5), (v_rd 6), .int 0, .int 0, .int (-1), (v_rd 10)]))]) (va_A [(h_rd, .inr (4, [(v_rd 0), .int 0, (v_rd 2), (v_rd 3), (v_rd 4), (v_rd 5), (v_rd 6), (v_rd 7), (v_rd 8), (v_rd 9), (v_rd 10)])), (h_td, .inr (5, [(v_td 0), (v_td 1), (v_td 2), (v_td 3), (v_td 4), (v_td 5), (v_td 6), (v_td 7), (v_td 8), (v_td 9)]))] sz)) 0 0 (va_A [(h_rd, .inr (4, [(v_rd 0), .int 0, (v_rd 2), (v_rd 3), (v_rd 4), (v_rd 5), (v_rd 6), (v_rd 7), (v_rd 8), (v_rd 9), (v_rd 10)])), (h_td, .inr (5, [(v_td 0), (v_td 1), (v_td 2), (v_td 3), (v_td 4), (v_td 5), (v_td 6), (v_td 7), (v_td 8), (v_td 9)]))] sz) := by
  refine Met.ofW (cc := cX5_read) (maxL := 3) (ret := none) (by decide) rfl ?_
  intro p e s m args below meth c s₁ B hml hv
  obtain ⟨rfl, hsz, hP, hK, hD0, hN⟩ := hv
  have hx := B.exec
  have hb := B.bytes
  have hr := B.returns
  have hts := atoms_spec (ws := Ws yX5_read cX5_read 3 none) B.pre
  have hT : ∀ w ∈ WALL, w ∈ Ws yX5_read cX5_read 3 none := fun w h => List.mem_cons_of_mem _ h
  have hw := fun w (h : w ∈ WALL) => hts w (hT w h)
  have hown : s.vm.findClass RX5 = some m.cls := findClass_of_methodNamed B.named
  have hlocks := B.notSynchronized
  subst hsz
  have hD := hD0.self (sz := s.heap.size)
  generalize hAe : va_A [(h_rd, .inr (4, [(v_rd 0), .int 0, (v_rd 2), (v_rd 3), (v_rd 4), (v_rd 5), (v_rd 6), (v_rd 7), (v_rd 8), (v_rd 9), (v_rd 10)])), (h_td, .inr (5, [(v_td 0), (v_td 1), (v_td 2), (v_td 3), (v_td 4), (v_td 5), (v_td 6), (v_td 7), (v_td 8), (v_td 9)]))] s.heap.size = A at hD ⊢
  have hA : ∀ q : Nat, s.heap.size ≤ q → A q := fun q h => by rw [← hAe]; exact Or.inr h
  have hS : va_S A s.heap s.heap [] := va_S.rf
  have hl := lv_entry ([.ref h_rd, .ref h_td]) (n := 3) (Nat.le_of_ble_eq_true rfl)
  rw [lg_entry_eq]
  generalize (lg_sl ([.ref h_rd, .ref h_td]) ++ List.replicate (3 - (lg_sl ([.ref h_rd, .ref h_td])).length) Slot.unset).toArray = ls at hl ⊢
  have hl : lv_has ls 3 [(0, .ref h_rd), (1, .ref h_td)] := hl
  refine lv_aload_n hx hb dX5_read_0 rfl (lv_at hl 0 rfl) ?_
  refine lv_aload_n hx hb dX5_read_1 rfl (lv_at hl 1 rfl) ?_
  refine va_put (D := (dC, dI)) (ci := 4) (v := .ref h_td) (ty := tyX5 4) (C := RX5) (T := TX5) (N := 11) hx hb hw iwX5 tyX5 tyX5_ok nmX5 hown hK hP hD hS 0 rfl rfl 4 (by decide) (hw _ w_f_X5_25) (fun _ h9 => h9) rfl (tyX5_ok 4 (by decide)) rfl rfl (Nat.le_of_ble_eq_true rfl) dX5_read_2 (fun H locs hP hD hS => ?_)
  have hP : va_P (dC, dI) cls [(h_rd, .inr (4, [(v_rd 0), .int 0, (v_rd 2), (v_rd 3), .ref h_td, (v_rd 5), (v_rd 6), (v_rd 7), (v_rd 8), (v_rd 9), (v_rd 10)])), (h_td, .inr (5, [(v_td 0), (v_td 1), (v_td 2), (v_td 3), (v_td 4), (v_td 5), (v_td 6), (v_td 7), (v_td 8), (v_td 9)]))] H := hP
  have hD : va_D A [(h_rd, .inr (4, [(v_rd 0), .int 0, (v_rd 2), (v_rd 3), .ref h_td, (v_rd 5), (v_rd 6), (v_rd 7), (v_rd 8), (v_rd 9), (v_rd 10)])), (h_td, .inr (5, [(v_td 0), (v_td 1), (v_td 2), (v_td 3), (v_td 4), (v_td 5), (v_td 6), (v_td 7), (v_td 8), (v_td 9)]))] := hD
  refine lv_aload_n hx hb dX5_read_5 rfl (lv_at hl 0 rfl) ?_
  refine va_get (D := (dC, dI)) (ci := 4) (v := .ref h_td) (C := RX5) (T := TX5) (N := 11) hx hb hw iwX5 hown hK hP 0 rfl rfl 4 (by decide) (hw _ w_f_X5_25) (fun _ h9 => h9) rfl dX5_read_6 ?_
  have hPc := hP.sub (ws' := [(h_td, .inr (5, [(v_td 0), (v_td 1), (v_td 2), (v_td 3), (v_td 4), (v_td 5), (v_td 6), (v_td 7), (v_td 8), (v_td 9)]))]) [1] rfl
  have hDc := hD.sub (ws' := [(h_td, .inr (5, [(v_td 0), (v_td 1), (v_td 2), (v_td 3), (v_td 4), (v_td 5), (v_td 6), (v_td 7), (v_td 8), (v_td 9)]))]) [1] (by decide) rfl
  have hKc := hK.sub (tys' := []) [] rfl
  have hFc := va_free (wc := [(h_td, .inr (5, [(v_td 0), (v_td 1), (v_td 2), (v_td 3), (v_td 4), (v_td 5), (v_td 6), (v_td 7), (v_td 8), (v_td 9)]))]) hD hS hA [1] rfl
  refine va_callv (va_runVN (As := []) (rest := []) ⟨hx, hb, hml, hown, hts⟩ (c_X8_clear l dC dI H.size h_td v_td) ⟨va_cnB (host := "OppositePairs") 0 hts (gd hT w_code_X8_clear) rfl rfl rfl (hN _ n_m_X5_29) (hw _ w_ini_X8) (by decide +kernel) ⟨(Nat.le_of_ble_eq_true rfl), (Nat.le_of_ble_eq_true rfl)⟩, hw _ w_instanceMethod_X8_clear, hw _ ws_sel_X8_clear⟩ ⟨pre_blind, va_recv hK hP (ci := 5) (q0 := 1) rfl rfl, pre_of hPc hKc hDc hN⟩ rfl rfl hl.1 rfl (lv_room (Nat.le_of_ble_eq_true rfl)) dX5_read_9 ⟨(Nat.le_of_ble_eq_true rfl), (Nat.le_of_ble_eq_true rfl)⟩) hS (fun q _ h => hFc q h) hFc (fun u t H locs ht hvm hq hB hz1 hk1 hS => ?_)
  obtain ⟨hP1, hK1, hD1⟩ := hB
  rw [ht] at hP1
  have hK1 := va_K.moved hvm.symm hK1
  obtain ⟨hP, hD⟩ := va_join (wr := [(h_rd, .inr (4, [(v_rd 0), .int 0, (v_rd 2), (v_rd 3), .ref h_td, (v_rd 5), (v_rd 6), (v_rd 7), (v_rd 8), (v_rd 9), (v_rd 10)]))]) (w1 := [(h_td, .inr (5, [(v_td 0), (v_td 1), (v_td 2), (v_td 3), .int 0, (v_td 5), (v_td 6), (v_td 7), (v_td 8), .int 0]))]) hP hD [1] [0] rfl rfl (by decide) (by decide) hk1 hFc hP1 hD1
  have hP : va_P (dC, dI) cls [(h_rd, .inr (4, [(v_rd 0), .int 0, (v_rd 2), (v_rd 3), .ref h_td, (v_rd 5), (v_rd 6), (v_rd 7), (v_rd 8), (v_rd 9), (v_rd 10)])), (h_td, .inr (5, [(v_td 0), (v_td 1), (v_td 2), (v_td 3), .int 0, (v_td 5), (v_td 6), (v_td 7), (v_td 8), .int 0]))] H := hP
  have hD : va_D A [(h_rd, .inr (4, [(v_rd 0), .int 0, (v_rd 2), (v_rd 3), .ref h_td, (v_rd 5), (v_rd 6), (v_rd 7), (v_rd 8), (v_rd 9), (v_rd 10)])), (h_td, .inr (5, [(v_td 0), (v_td 1), (v_td 2), (v_td 3), .int 0, (v_td 5), (v_td 6), (v_td 7), (v_td 8), .int 0]))] := hD
  refine lv_aload_n hx hb dX5_read_12 rfl (lv_at hl 0 rfl) ?_
  refine lv_iconst (v := 0) hx hb dX5_read_13 (by decide) ?_
  refine va_put (D := (dC, dI)) (ci := 4) (v := .int 0) (ty := tyX5 2) (C := RX5) (T := TX5) (N := 11) hx hb hw iwX5 tyX5 tyX5_ok nmX5 hown hK hP hD hS 0 rfl rfl 2 (by decide) (hw _ w_f_X5_34) (fun _ h9 => h9) rfl (tyX5_ok 2 (by decide)) rfl rfl (Nat.le_of_ble_eq_true rfl) dX5_read_14 (fun H locs hP hD hS => ?_)
  have hP : va_P (dC, dI) cls [(h_rd, .inr (4, [(v_rd 0), .int 0, .int 0, (v_rd 3), .ref h_td, (v_rd 5), (v_rd 6), (v_rd 7), (v_rd 8), (v_rd 9), (v_rd 10)])), (h_td, .inr (5, [(v_td 0), (v_td 1), (v_td 2), (v_td 3), .int 0, (v_td 5), (v_td 6), (v_td 7), (v_td 8), .int 0]))] H := hP
  have hD : va_D A [(h_rd, .inr (4, [(v_rd 0), .int 0, .int 0, (v_rd 3), .ref h_td, (v_rd 5), (v_rd 6), (v_rd 7), (v_rd 8), (v_rd 9), (v_rd 10)])), (h_td, .inr (5, [(v_td 0), (v_td 1), (v_td 2), (v_td 3), .int 0, (v_td 5), (v_td 6), (v_td 7), (v_td 8), .int 0]))] := hD
  refine lv_aload_n hx hb dX5_read_17 rfl (lv_at hl 0 rfl) ?_
  refine lv_iconst (v := (-1)) hx hb dX5_read_18 (by decide) ?_
  refine va_put (D := (dC, dI)) (ci := 4) (v := .int (-1)) (ty := tyX5 3) (C := RX5) (T := TX5) (N := 11) hx hb hw iwX5 tyX5 tyX5_ok nmX5 hown hK hP hD hS 0 rfl rfl 3 (by decide) (hw _ w_f_X5_15) (fun _ h9 => h9) rfl (tyX5_ok 3 (by decide)) rfl rfl (Nat.le_of_ble_eq_true rfl) dX5_read_19 (fun H locs hP hD hS => ?_)
  have hP : va_P (dC, dI) cls [(h_rd, .inr (4, [(v_rd 0), .int 0, .int 0, .int (-1), .ref h_td, (v_rd 5), (v_rd 6), (v_rd 7), (v_rd 8), (v_rd 9), (v_rd 10)])), (h_td, .inr (5, [(v_td 0), (v_td 1), (v_td 2), (v_td 3), .int 0, (v_td 5), (v_td 6), (v_td 7), (v_td 8), .int 0]))] H := hP
  have hD : va_D A [(h_rd, .inr (4, [(v_rd 0), .int 0, .int 0, .int (-1), .ref h_td, (v_rd 5), (v_rd 6), (v_rd 7), (v_rd 8), (v_rd 9), (v_rd 10)])), (h_td, .inr (5, [(v_td 0), (v_td 1), (v_td 2), (v_td 3), .int 0, (v_td 5), (v_td 6), (v_td 7), (v_td 8), .int 0]))] := hD
  refine lv_aload_n hx hb dX5_read_22 rfl (lv_at hl 0 rfl) ?_
  refine lv_iconst (v := 0) hx hb dX5_read_23 (by decide) ?_
  refine va_put (D := (dC, dI)) (ci := 4) (v := .int 0) (ty := tyX5 8) (C := RX5) (T := TX5) (N := 11) hx hb hw iwX5 tyX5 tyX5_ok nmX5 hown hK hP hD hS 0 rfl rfl 8 (by decide) (hw _ w_f_X5_37) (fun _ h9 => h9) rfl (tyX5_ok 8 (by decide)) rfl rfl (Nat.le_of_ble_eq_true rfl) dX5_read_24 (fun H locs hP hD hS => ?_)
  have hP : va_P (dC, dI) cls [(h_rd, .inr (4, [(v_rd 0), .int 0, .int 0, .int (-1), .ref h_td, (v_rd 5), (v_rd 6), (v_rd 7), .int 0, (v_rd 9), (v_rd 10)])), (h_td, .inr (5, [(v_td 0), (v_td 1), (v_td 2), (v_td 3), .int 0, (v_td 5), (v_td 6), (v_td 7), (v_td 8), .int 0]))] H := hP
  have hD : va_D A [(h_rd, .inr (4, [(v_rd 0), .int 0, .int 0, .int (-1), .ref h_td, (v_rd 5), (v_rd 6), (v_rd 7), .int 0, (v_rd 9), (v_rd 10)])), (h_td, .inr (5, [(v_td 0), (v_td 1), (v_td 2), (v_td 3), .int 0, (v_td 5), (v_td 6), (v_td 7), (v_td 8), .int 0]))] := hD
  refine lv_aload_n hx hb dX5_read_27 rfl (lv_at hl 0 rfl) ?_
  have hPc := hP.sub (ws' := [(h_rd, .inr (4, [(v_rd 0), .int 0, .int 0, .int (-1), .ref h_td, (v_rd 5), (v_rd 6), (v_rd 7), .int 0, (v_rd 9), (v_rd 10)]))]) [0] rfl
  have hDc := hD.sub (ws' := [(h_rd, .inr (4, [(v_rd 0), .int 0, .int 0, .int (-1), .ref h_td, (v_rd 5), (v_rd 6), (v_rd 7), .int 0, (v_rd 9), (v_rd 10)]))]) [0] (by decide) rfl
  have hKc := hK.sub (tys' := []) [] rfl
  have hFc := va_free (wc := [(h_rd, .inr (4, [(v_rd 0), .int 0, .int 0, .int (-1), .ref h_td, (v_rd 5), (v_rd 6), (v_rd 7), .int 0, (v_rd 9), (v_rd 10)]))]) hD hS hA [0] rfl
  refine va_callv (va_runV (As := []) (rest := []) ⟨hx, hb, hml, hown, hts⟩ (c_X5_nextToken l dC dI H.size h_rd (fun k => List.getD [(v_rd 0), .int 0, .int 0, .int (-1), .ref h_td, (v_rd 5), (v_rd 6), (v_rd 7), .int 0, (v_rd 9), (v_rd 10)] k .null)) (cwV 0 hts (gv hT w_m_X5_40 w_instanceMethod_X5_nextToken ws_sel_X5_nextToken w_ini_X5 w_code_X5_nextToken) rfl rfl rfl (by decide +kernel) ⟨(Nat.le_of_ble_eq_true rfl), (Nat.le_of_ble_eq_true rfl)⟩) ⟨pre_blind, va_recv hK hP (ci := 4) (q0 := 0) rfl rfl, pre_of hPc hKc hDc hN⟩ rfl rfl hl.1 rfl (lv_room (Nat.le_of_ble_eq_true rfl)) dX5_read_28 ⟨(Nat.le_of_ble_eq_true rfl), (Nat.le_of_ble_eq_true rfl)⟩) hS (fun q _ h => hFc q h) hFc (fun u t H locs ht hvm hq hB hz1 hk1 hS => ?_)
  obtain ⟨hP1, hK1, hD1⟩ := hB
  rw [ht] at hP1
  have hK1 := va_K.moved hvm.symm hK1
  obtain ⟨hP, hD⟩ := va_join (wr := [(h_td, .inr (5, [(v_td 0), (v_td 1), (v_td 2), (v_td 3), .int 0, (v_td 5), (v_td 6), (v_td 7), (v_td 8), .int 0]))]) (w1 := [(h_rd, .inr (4, [(v_rd 0), .int 0, .int 0, .int (-1), .ref h_td, (v_rd 5), (v_rd 6), .int 0, .int 0, .int (-1), (v_rd 10)]))]) hP hD [0] [1] rfl rfl (by decide) (by decide) hk1 hFc hP1 hD1
  have hP : va_P (dC, dI) cls [(h_td, .inr (5, [(v_td 0), (v_td 1), (v_td 2), (v_td 3), .int 0, (v_td 5), (v_td 6), (v_td 7), (v_td 8), .int 0])), (h_rd, .inr (4, [(v_rd 0), .int 0, .int 0, .int (-1), .ref h_td, (v_rd 5), (v_rd 6), .int 0, .int 0, .int (-1), (v_rd 10)]))] H := hP
  have hD : va_D A [(h_td, .inr (5, [(v_td 0), (v_td 1), (v_td 2), (v_td 3), .int 0, (v_td 5), (v_td 6), (v_td 7), (v_td 8), .int 0])), (h_rd, .inr (4, [(v_rd 0), .int 0, .int 0, .int (-1), .ref h_td, (v_rd 5), (v_rd 6), .int 0, .int 0, .int (-1), (v_rd 10)]))] := hD
  refine lv_iconst (v := 0) hx hb dX5_read_31 (by decide) ?_
  refine lv_istore_n (lv' := [(2, .int 0), (0, .ref h_rd), (1, .ref h_td)]) hx hb dX5_read_32 rfl hl (by decide) rfl (fun ls hl => ?_)
  refine lv_iload_n hx hb dX5_read_33 rfl (lv_at hl 0 rfl) ?_
  refine lv_sipush (v := 600) hx hb dX5_read_34 (by decide) ?_
  refine lv_icmp_ge (tgt := 65) hx hb dX5_read_37 (by decide) (fun c9 => absurd c9 (by decide)) (fun _ => ?_)
  refine lv_aload_n hx hb dX5_read_40 rfl (lv_at hl 1 rfl) ?_
  refine va_get (D := (dC, dI)) (ci := 4) (v := .int 0) (C := RX5) (T := TX5) (N := 11) hx hb hw iwX5 hown hK hP 1 rfl rfl 2 (by decide) (hw _ w_f_X5_34) (fun _ h9 => h9) rfl dX5_read_41 ?_
  refine lv_if_ne (tgt := 65) hx hb dX5_read_44 (by decide) (fun c9 => absurd c9 (by decide)) (fun _ => ?_)
  refine lv_aload_n hx hb dX5_read_47 rfl (lv_at hl 1 rfl) ?_
  refine va_get (D := (dC, dI)) (ci := 4) (v := .int (-1)) (C := RX5) (T := TX5) (N := 11) hx hb hw iwX5 hown hK hP 1 rfl rfl 9 (by decide) (hw _ w_f_X5_43) (fun _ h9 => h9) rfl dX5_read_48 ?_
  refine lv_iconst (v := (-1)) hx hb dX5_read_51 (by decide) ?_
  refine lv_icmp_eq (tgt := 65) hx hb dX5_read_52 (by decide) (fun _ => ?_) (fun c9 => absurd c9 (by decide))
  refine W.widen (k := 0) (n := 0) (Nat.le_of_ble_eq_true rfl) (Nat.le_of_ble_eq_true rfl) ?_
  have hK9 := hK.sub (tys' := []) [] rfl
  exact W.vret hx hb hr (fun t ht hW => ⟨⟨(), rfl, trivial, by rw [ht]; exact hP, va_K.moved hW.alike hK9, hD⟩, hS.F ht⟩) hS.2.2 dX5_read_65

set_option maxHeartbeats 4000000 in
set_option maxRecDepth 100000 in
theorem c_X3_forget (l : Launch) (dC : Nat → ClassId) (dI : Nat → Nat → Nat) (sz : Nat) (h_mx : Nat) (v_mx : Nat → Value) : Met l yX3_forget (Ws yX3_forget cX3_forget 1 none) ({ frames := 0, cells := 0, slots := 0, locals := 0 }) (PRE (dC, dI) cls [] [(h_mx, .inr (2, [(v_mx 0), (v_mx 1), (v_mx 2), (v_mx 3), (v_mx 4), (v_mx 5), (v_mx 6), (v_mx 7), (v_mx 8), (v_mx 9), (v_mx 10), (v_mx 11)]))] sz [.ref h_mx]) (va_Qv (fun (_ : Unit) => True) (fun (u : Unit) (t : State) => va_P (dC, dI) cls [(h_mx, .inr (2, [(v_mx 0), (v_mx 1), (v_mx 2), (v_mx 3), .int 0, (v_mx 5), (v_mx 6), (v_mx 7), (v_mx 8), (v_mx 9), .int (-2), (v_mx 11)]))] t.heap ∧ va_K (dC, dI) cls [] t ∧ va_D (va_A [(h_mx, .inr (2, [(v_mx 0), (v_mx 1), (v_mx 2), (v_mx 3), (v_mx 4), (v_mx 5), (v_mx 6), (v_mx 7), (v_mx 8), (v_mx 9), (v_mx 10), (v_mx 11)]))] sz) [(h_mx, .inr (2, [(v_mx 0), (v_mx 1), (v_mx 2), (v_mx 3), .int 0, (v_mx 5), (v_mx 6), (v_mx 7), (v_mx 8), (v_mx 9), .int (-2), (v_mx 11)]))]) (va_A [(h_mx, .inr (2, [(v_mx 0), (v_mx 1), (v_mx 2), (v_mx 3), (v_mx 4), (v_mx 5), (v_mx 6), (v_mx 7), (v_mx 8), (v_mx 9), (v_mx 10), (v_mx 11)]))] sz)) 0 0 (va_A [(h_mx, .inr (2, [(v_mx 0), (v_mx 1), (v_mx 2), (v_mx 3), (v_mx 4), (v_mx 5), (v_mx 6), (v_mx 7), (v_mx 8), (v_mx 9), (v_mx 10), (v_mx 11)]))] sz) := by
  refine Met.ofW (cc := cX3_forget) (maxL := 1) (ret := none) (by decide) rfl ?_
  intro p e s m args below meth c s₁ B hml hv
  obtain ⟨rfl, hsz, hP, hK, hD0, hN⟩ := hv
  have hx := B.exec
  have hb := B.bytes
  have hr := B.returns
  have hts := atoms_spec (ws := Ws yX3_forget cX3_forget 1 none) B.pre
  have hT : ∀ w ∈ WALL, w ∈ Ws yX3_forget cX3_forget 1 none := fun w h => List.mem_cons_of_mem _ h
  have hw := fun w (h : w ∈ WALL) => hts w (hT w h)
  have hown : s.vm.findClass RX3 = some m.cls := findClass_of_methodNamed B.named
  have hlocks := B.notSynchronized
  subst hsz
  have hD := hD0.self (sz := s.heap.size)
  generalize hAe : va_A [(h_mx, .inr (2, [(v_mx 0), (v_mx 1), (v_mx 2), (v_mx 3), (v_mx 4), (v_mx 5), (v_mx 6), (v_mx 7), (v_mx 8), (v_mx 9), (v_mx 10), (v_mx 11)]))] s.heap.size = A at hD ⊢
  have hA : ∀ q : Nat, s.heap.size ≤ q → A q := fun q h => by rw [← hAe]; exact Or.inr h
  have hS : va_S A s.heap s.heap [] := va_S.rf
  have hl := lv_entry ([.ref h_mx]) (n := 1) (Nat.le_of_ble_eq_true rfl)
  rw [lg_entry_eq]
  generalize (lg_sl ([.ref h_mx]) ++ List.replicate (1 - (lg_sl ([.ref h_mx])).length) Slot.unset).toArray = ls at hl ⊢
  have hl : lv_has ls 1 [(0, .ref h_mx)] := hl
  refine lv_aload_n hx hb dX3_forget_0 rfl (lv_at hl 0 rfl) ?_
  refine lv_iconst (v := 0) hx hb dX3_forget_1 (by decide) ?_
  refine va_put (D := (dC, dI)) (ci := 2) (v := .int 0) (ty := tyX3 4) (C := RX3) (T := TX3) (N := 12) hx hb hw iwX3 tyX3 tyX3_ok nmX3 hown hK hP hD hS 0 rfl rfl 4 (by decide) (hw _ w_f_X3_43) (fun _ h9 => h9) rfl (tyX3_ok 4 (by decide)) rfl rfl (Nat.le_of_ble_eq_true rfl) dX3_forget_2 (fun H locs hP hD hS => ?_)
  have hP : va_P (dC, dI) cls [(h_mx, .inr (2, [(v_mx 0), (v_mx 1), (v_mx 2), (v_mx 3), .int 0, (v_mx 5), (v_mx 6), (v_mx 7), (v_mx 8), (v_mx 9), (v_mx 10), (v_mx 11)]))] H := hP
  have hD : va_D A [(h_mx, .inr (2, [(v_mx 0), (v_mx 1), (v_mx 2), (v_mx 3), .int 0, (v_mx 5), (v_mx 6), (v_mx 7), (v_mx 8), (v_mx 9), (v_mx 10), (v_mx 11)]))] := hD
  refine lv_aload_n hx hb dX3_forget_5 rfl (lv_at hl 0 rfl) ?_
  refine lv_bipush (v := (-2)) hx hb dX3_forget_6 (by decide) ?_
  refine va_put (D := (dC, dI)) (ci := 2) (v := .int (-2)) (ty := tyX3 10) (C := RX3) (T := TX3) (N := 12) hx hb hw iwX3 tyX3 tyX3_ok nmX3 hown hK hP hD hS 0 rfl rfl 10 (by decide) (hw _ w_f_X3_27) (fun _ h9 => h9) rfl (tyX3_ok 10 (by decide)) rfl rfl (Nat.le_of_ble_eq_true rfl) dX3_forget_8 (fun H locs hP hD hS => ?_)
  have hP : va_P (dC, dI) cls [(h_mx, .inr (2, [(v_mx 0), (v_mx 1), (v_mx 2), (v_mx 3), .int 0, (v_mx 5), (v_mx 6), (v_mx 7), (v_mx 8), (v_mx 9), .int (-2), (v_mx 11)]))] H := hP
  have hD : va_D A [(h_mx, .inr (2, [(v_mx 0), (v_mx 1), (v_mx 2), (v_mx 3), .int 0, (v_mx 5), (v_mx 6), (v_mx 7), (v_mx 8), (v_mx 9), .int (-2), (v_mx 11)]))] := hD
  refine W.widen (k := 0) (n := 0) (Nat.le_of_ble_eq_true rfl) (Nat.le_of_ble_eq_true rfl) ?_
  have hK9 := hK.sub (tys' := []) [] rfl
  exact W.vret hx hb hr (fun t ht hW => ⟨⟨(), rfl, trivial, by rw [ht]; exact hP, va_K.moved hW.alike hK9, hD⟩, hS.F ht⟩) hS.2.2 dX3_forget_11

set_option maxHeartbeats 4000000 in
set_option maxRecDepth 100000 in
theorem c_X4_forgetCounts (l : Launch) (dC : Nat → ClassId) (dI : Nat → Nat → Nat) (sz : Nat) (h_pv : Nat) (v_pv : Nat → Value) : Met l yX4_forgetCounts (Ws yX4_forgetCounts cX4_forgetCounts 1 none) ({ frames := 0, cells := 0, slots := 0, locals := 0 }) (PRE (dC, dI) cls [] [(h_pv, .inr (3, [(v_pv 0), (v_pv 1), (v_pv 2), (v_pv 3), (v_pv 4), (v_pv 5), (v_pv 6), (v_pv 7), (v_pv 8), (v_pv 9), (v_pv 10), (v_pv 11), (v_pv 12), (v_pv 13), (v_pv 14), (v_pv 15), (v_pv 16), (v_pv 17)]))] sz [.ref h_pv]) (va_Qv (fun (_ : Unit) => True) (fun (u : Unit) (t : State) => va_P (dC, dI) cls [(h_pv, .inr (3, [(v_pv 0), (v_pv 1), (v_pv 2), (v_pv 3), (v_pv 4), (v_pv 5), (v_pv 6), (v_pv 7), (v_pv 8), (v_pv 9), (v_pv 10), (v_pv 11), .int 0, .int 0, .int 0, .int 0, (v_pv 16), .int 0]))] t.heap ∧ va_K (dC, dI) cls [] t ∧ va_D (va_A [(h_pv, .inr (3, [(v_pv 0), (v_pv 1), (v_pv 2), (v_pv 3), (v_pv 4), (v_pv 5), (v_pv 6), (v_pv 7), (v_pv 8), (v_pv 9), (v_pv 10), (v_pv 11), (v_pv 12), (v_pv 13), (v_pv 14), (v_pv 15), (v_pv 16), (v_pv 17)]))] sz) [(h_pv, .inr (3, [(v_pv 0), (v_pv 1), (v_pv 2), (v_pv 3), (v_pv 4), (v_pv 5), (v_pv 6), (v_pv 7), (v_pv 8), (v_pv 9), (v_pv 10), (v_pv 11), .int 0, .int 0, .int 0, .int 0, (v_pv 16), .int 0]))]) (va_A [(h_pv, .inr (3, [(v_pv 0), (v_pv 1), (v_pv 2), (v_pv 3), (v_pv 4), (v_pv 5), (v_pv 6), (v_pv 7), (v_pv 8), (v_pv 9), (v_pv 10), (v_pv 11), (v_pv 12), (v_pv 13), (v_pv 14), (v_pv 15), (v_pv 16), (v_pv 17)]))] sz)) 0 0 (va_A [(h_pv, .inr (3, [(v_pv 0), (v_pv 1), (v_pv 2), (v_pv 3), (v_pv 4), (v_pv 5), (v_pv 6), (v_pv 7), (v_pv 8), (v_pv 9), (v_pv 10), (v_pv 11), (v_pv 12), (v_pv 13), (v_pv 14), (v_pv 15), (v_pv 16), (v_pv 17)]))] sz) := by
  refine Met.ofW (cc := cX4_forgetCounts) (maxL := 1) (ret := none) (by decide) rfl ?_
  intro p e s m args below meth c s₁ B hml hv
  obtain ⟨rfl, hsz, hP, hK, hD0, hN⟩ := hv
  have hx := B.exec
  have hb := B.bytes
  have hr := B.returns
  have hts := atoms_spec (ws := Ws yX4_forgetCounts cX4_forgetCounts 1 none) B.pre
  have hT : ∀ w ∈ WALL, w ∈ Ws yX4_forgetCounts cX4_forgetCounts 1 none := fun w h => List.mem_cons_of_mem _ h
  have hw := fun w (h : w ∈ WALL) => hts w (hT w h)
  have hown : s.vm.findClass RX4 = some m.cls := findClass_of_methodNamed B.named
  have hlocks := B.notSynchronized
  subst hsz
  have hD := hD0.self (sz := s.heap.size)
  generalize hAe : va_A [(h_pv, .inr (3, [(v_pv 0), (v_pv 1), (v_pv 2), (v_pv 3), (v_pv 4), (v_pv 5), (v_pv 6), (v_pv 7), (v_pv 8), (v_pv 9), (v_pv 10), (v_pv 11), (v_pv 12), (v_pv 13), (v_pv 14), (v_pv 15), (v_pv 16), (v_pv 17)]))] s.heap.size = A at hD ⊢
  have hA : ∀ q : Nat, s.heap.size ≤ q → A q := fun q h => by rw [← hAe]; exact Or.inr h
  have hS : va_S A s.heap s.heap [] := va_S.rf
  have hl := lv_entry ([.ref h_pv]) (n := 1) (Nat.le_of_ble_eq_true rfl)
  rw [lg_entry_eq]
  generalize (lg_sl ([.ref h_pv]) ++ List.replicate (1 - (lg_sl ([.ref h_pv])).length) Slot.unset).toArray = ls at hl ⊢
  have hl : lv_has ls 1 [(0, .ref h_pv)] := hl
  refine lv_aload_n hx hb dX4_forgetCounts_0 rfl (lv_at hl 0 rfl) ?_
  refine lv_iconst (v := 0) hx hb dX4_forgetCounts_1 (by decide) ?_
  refine va_put (D := (dC, dI)) (ci := 3) (v := .int 0) (ty := tyX4 17) (C := RX4) (T := TX4) (N := 18) hx hb hw iwX4 tyX4 tyX4_ok nmX4 hown hK hP hD hS 0 rfl rfl 17 (by decide) (hw _ w_f_X4_41) (fun _ h9 => h9) rfl (tyX4_ok 17 (by decide)) rfl rfl (Nat.le_of_ble_eq_true rfl) dX4_forgetCounts_2 (fun H locs hP hD hS => ?_)
  have hP : va_P (dC, dI) cls [(h_pv, .inr (3, [(v_pv 0), (v_pv 1), (v_pv 2), (v_pv 3), (v_pv 4), (v_pv 5), (v_pv 6), (v_pv 7), (v_pv 8), (v_pv 9), (v_pv 10), (v_pv 11), (v_pv 12), (v_pv 13), (v_pv 14), (v_pv 15), (v_pv 16), .int 0]))] H := hP
  have hD : va_D A [(h_pv, .inr (3, [(v_pv 0), (v_pv 1), (v_pv 2), (v_pv 3), (v_pv 4), (v_pv 5), (v_pv 6), (v_pv 7), (v_pv 8), (v_pv 9), (v_pv 10), (v_pv 11), (v_pv 12), (v_pv 13), (v_pv 14), (v_pv 15), (v_pv 16), .int 0]))] := hD
  refine lv_aload_n hx hb dX4_forgetCounts_5 rfl (lv_at hl 0 rfl) ?_
  refine lv_iconst (v := 0) hx hb dX4_forgetCounts_6 (by decide) ?_
  refine va_put (D := (dC, dI)) (ci := 3) (v := .int 0) (ty := tyX4 12) (C := RX4) (T := TX4) (N := 18) hx hb hw iwX4 tyX4 tyX4_ok nmX4 hown hK hP hD hS 0 rfl rfl 12 (by decide) (hw _ w_f_X4_45) (fun _ h9 => h9) rfl (tyX4_ok 12 (by decide)) rfl rfl (Nat.le_of_ble_eq_true rfl) dX4_forgetCounts_7 (fun H locs hP hD hS => ?_)
  have hP : va_P (dC, dI) cls [(h_pv, .inr (3, [(v_pv 0), (v_pv 1), (v_pv 2), (v_pv 3), (v_pv 4), (v_pv 5), (v_pv 6), (v_pv 7), (v_pv 8), (v_pv 9), (v_pv 10), (v_pv 11), .int 0, (v_pv 13), (v_pv 14), (v_pv 15), (v_pv 16), .int 0]))] H := hP
  have hD : va_D A [(h_pv, .inr (3, [(v_pv 0), (v_pv 1), (v_pv 2), (v_pv 3), (v_pv 4), (v_pv 5), (v_pv 6), (v_pv 7), (v_pv 8), (v_pv 9), (v_pv 10), (v_pv 11), .int 0, (v_pv 13), (v_pv 14), (v_pv 15), (v_pv 16), .int 0]))] := hD
  refine lv_aload_n hx hb dX4_forgetCounts_10 rfl (lv_at hl 0 rfl) ?_
  refine lv_iconst (v := 0) hx hb dX4_forgetCounts_11 (by decide) ?_
  refine va_put (D := (dC, dI)) (ci := 3) (v := .int 0) (ty := tyX4 13) (C := RX4) (T := TX4) (N := 18) hx hb hw iwX4 tyX4 tyX4_ok nmX4 hown hK hP hD hS 0 rfl rfl 13 (by decide) (hw _ w_f_X4_49) (fun _ h9 => h9) rfl (tyX4_ok 13 (by decide)) rfl rfl (Nat.le_of_ble_eq_true rfl) dX4_forgetCounts_12 (fun H locs hP hD hS => ?_)
  have hP : va_P (dC, dI) cls [(h_pv, .inr (3, [(v_pv 0), (v_pv 1), (v_pv 2), (v_pv 3), (v_pv 4), (v_pv 5), (v_pv 6), (v_pv 7), (v_pv 8), (v_pv 9), (v_pv 10), (v_pv 11), .int 0, .int 0, (v_pv 14), (v_pv 15), (v_pv 16), .int 0]))] H := hP
  have hD : va_D A [(h_pv, .inr (3, [(v_pv 0), (v_pv 1), (v_pv 2), (v_pv 3), (v_pv 4), (v_pv 5), (v_pv 6), (v_pv 7), (v_pv 8), (v_pv 9), (v_pv 10), (v_pv 11), .int 0, .int 0, (v_pv 14), (v_pv 15), (v_pv 16), .int 0]))] := hD
  refine lv_aload_n hx hb dX4_forgetCounts_15 rfl (lv_at hl 0 rfl) ?_
  refine lv_iconst (v := 0) hx hb dX4_forgetCounts_16 (by decide) ?_
  refine va_put (D := (dC, dI)) (ci := 3) (v := .int 0) (ty := tyX4 14) (C := RX4) (T := TX4) (N := 18) hx hb hw iwX4 tyX4 tyX4_ok nmX4 hown hK hP hD hS 0 rfl rfl 14 (by decide) (hw _ w_f_X4_52) (fun _ h9 => h9) rfl (tyX4_ok 14 (by decide)) rfl rfl (Nat.le_of_ble_eq_true rfl) dX4_forgetCounts_17 (fun H locs hP hD hS => ?_)
  have hP : va_P (dC, dI) cls [(h_pv, .inr (3, [(v_pv 0), (v_pv 1), (v_pv 2), (v_pv 3), (v_pv 4), (v_pv 5), (v_pv 6), (v_pv 7), (v_pv 8), (v_pv 9), (v_pv 10), (v_pv 11), .int 0, .int 0, .int 0, (v_pv 15), (v_pv 16), .int 0]))] H := hP
  have hD : va_D A [(h_pv, .inr (3, [(v_pv 0), (v_pv 1), (v_pv 2), (v_pv 3), (v_pv 4), (v_pv 5), (v_pv 6), (v_pv 7), (v_pv 8), (v_pv 9), (v_pv 10), (v_pv 11), .int 0, .int 0, .int 0, (v_pv 15), (v_pv 16), .int 0]))] := hD
  refine lv_aload_n hx hb dX4_forgetCounts_20 rfl (lv_at hl 0 rfl) ?_
  refine lv_iconst (v := 0) hx hb dX4_forgetCounts_21 (by decide) ?_
  refine va_put (D := (dC, dI)) (ci := 3) (v := .int 0) (ty := tyX4 15) (C := RX4) (T := TX4) (N := 18) hx hb hw iwX4 tyX4 tyX4_ok nmX4 hown hK hP hD hS 0 rfl rfl 15 (by decide) (hw _ w_f_X4_55) (fun _ h9 => h9) rfl (tyX4_ok 15 (by decide)) rfl rfl (Nat.le_of_ble_eq_true rfl) dX4_forgetCounts_22 (fun H locs hP hD hS => ?_)
  have hP : va_P (dC, dI) cls [(h_pv, .inr (3, [(v_pv 0), (v_pv 1), (v_pv 2), (v_pv 3), (v_pv 4), (v_pv 5), (v_pv 6), (v_pv 7), (v_pv 8), (v_pv 9), (v_pv 10), (v_pv 11), .int 0, .int 0, .int 0, .int 0, (v_pv 16), .int 0]))] H := hP
  have hD : va_D A [(h_pv, .inr (3, [(v_pv 0), (v_pv 1), (v_pv 2), (v_pv 3), (v_pv 4), (v_pv 5), (v_pv 6), (v_pv 7), (v_pv 8), (v_pv 9), (v_pv 10), (v_pv 11), .int 0, .int 0, .int 0, .int 0, (v_pv 16), .int 0]))] := hD
  refine W.widen (k := 0) (n := 0) (Nat.le_of_ble_eq_true rfl) (Nat.le_of_ble_eq_true rfl) ?_
  have hK9 := hK.sub (tys' := []) [] rfl
  exact W.vret hx hb hr (fun t ht hW => ⟨⟨(), rfl, trivial, by rw [ht]; exact hP, va_K.moved hW.alike hK9, hD⟩, hS.F ht⟩) hS.2.2 dX4_forgetCounts_25

set_option maxHeartbeats 4000000 in
set_option maxRecDepth 100000 in
theorem c_X10_forgetAll (l : Launch) (dC : Nat → ClassId) (dI : Nat → Nat → Nat) (sz : Nat) (h_xx : Nat) (h_pv : Nat) (h_mx : Nat) (h_an : Nat) (v_xx : Nat → Value) (v_pv : Nat → Value) (v_mx : Nat → Value) (v_an : Nat → Value) : Met l yX10_forgetAll (Ws yX10_forgetAll cX10_forgetAll 1 none) ({ frames := 1, cells := 0, slots := 0, locals := 20 }) (PRE (dC, dI) cls [] [(h_xx, .inr (7, [(v_xx 0), (v_xx 1), (v_xx 2), (v_xx 3), (v_xx 4), .ref h_pv, .ref h_mx, .ref h_an])), (h_pv, .inr (3, [(v_pv 0), (v_pv 1), (v_pv 2), (v_pv 3), (v_pv 4), (v_pv 5), (v_pv 6), (v_pv 7), (v_pv 8), (v_pv 9), (v_pv 10), (v_pv 11), (v_pv 12), (v_pv 13), (v_pv 14), (v_pv 15), (v_pv 16), (v_pv 17)])), (h_mx, .inr (2, [(v_mx 0), (v_mx 1), (v_mx 2), (v_mx 3), (v_mx 4), (v_mx 5), (v_mx 6), (v_mx 7), (v_mx 8), (v_mx 9), (v_mx 10), (v_mx 11)])), (h_an, .inr (0, [(v_an 0), (v_an 1), (v_an 2), (v_an 3), (v_an 4), (v_an 5)]))] sz [.ref h_xx]) (va_Qv (fun (_ : Unit) => True) (fun (u : Unit) (t : State) => va_P (dC, dI) cls [(h_xx, .inr (7, [(v_xx 0), (v_xx 1), (v_xx 2), (v_xx 3), (v_xx 4), .ref h_pv, .ref h_mx, .ref h_an])), (h_pv, .inr (3, [(v_pv 0), (v_pv 1), (v_pv 2), (v_pv 3), (v_pv 4), (v_pv 5), (v_pv 6), (v_pv 7), (v_pv 8), (v_pv 9), (v_pv 10), (v_pv 11), (v_pv 12), (v_pv 13), (v_pv 14), (v_pv 15), (v_pv 16), .int 0])), (h_an, .inr (0, [(v_an 0), (v_an 1), (v_an 2), (v_an 3), .int 0, (v_an 5)])), (h_mx, .inr (2, [(v_mx 0), (v_mx 1), (v_mx 2), (v_mx 3), .int 0, (v_mx 5), (v_mx 6), (v_mx 7), (v_mx 8), (v_mx 9), .int (-2), (v_mx 11)]))] t.heap ∧ va_K (dC, dI) cls [] t ∧ va_D (va_A [(h_xx, .inr (7, [(v_xx 0), (v_xx 1), (v_xx 2), (v_xx 3), (v_xx 4), .ref h_pv, .ref h_mx, .ref h_an])), (h_pv, .inr (3, [(v_pv 0), (v_pv 1), (v_pv 2), (v_pv 3), (v_pv 4), (v_pv 5), (v_pv 6), (v_pv 7), (v_pv 8), (v_pv 9), (v_pv 10), (v_pv 11), (v_pv 12), (v_pv 13), (v_pv 14), (v_pv 15), (v_pv 16), (v_pv 17)])), (h_mx, .inr (2, [(v_mx 0), (v_mx 1), (v_mx 2), (v_mx 3), (v_mx 4), (v_mx 5), (v_mx 6), (v_mx 7), (v_mx 8), (v_mx 9), (v_mx 10), (v_mx 11)])), (h_an, .inr (0, [(v_an 0), (v_an 1), (v_an 2), (v_an 3), (v_an 4), (v_an 5)]))] sz) [(h_xx, .inr (7, [(v_xx 0), (v_xx 1), (v_xx 2), (v_xx 3), (v_xx 4), .ref h_pv, .ref h_mx, .ref h_an])), (h_pv, .inr (3, [(v_pv 0), (v_pv 1), (v_pv 2), (v_pv 3), (v_pv 4), (v_pv 5), (v_pv 6), (v_pv 7), (v_pv 8), (v_pv 9), (v_pv 10), (v_pv 11), (v_pv 12), (v_pv 13), (v_pv 14), (v_pv 15), (v_pv 16), .int 0])), (h_an, .inr (0, [(v_an 0), (v_an 1), (v_an 2), (v_an 3), .int 0, (v_an 5)])), (h_mx, .inr (2, [(v_mx 0), (v_mx 1), (v_mx 2), (v_mx 3), .int 0, (v_mx 5), (v_mx 6), (v_mx 7), (v_mx 8), (v_mx 9), .int (-2), (v_mx 11)]))]) (va_A [(h_xx, .inr (7, [(v_xx 0), (v_xx 1), (v_xx 2), (v_xx 3), (v_xx 4), .ref h_pv, .ref h_mx, .ref h_an])), (h_pv, .inr (3, [(v_pv 0), (v_pv 1), (v_pv 2), (v_pv 3), (v_pv 4), (v_pv 5), (v_pv 6), (v_pv 7), (v_pv 8), (v_pv 9), (v_pv 10), (v_pv 11), (v_pv 12), (v_pv 13), (v_pv 14), (v_pv 15), (v_pv 16), (v_pv 17)])), (h_mx, .inr (2, [(v_mx 0), (v_mx 1), (v_mx 2), (v_mx 3), (v_mx 4), (v_mx 5), (v_mx 6), (v_mx 7), (v_mx 8), (v_mx 9), (v_mx 10), (v_mx 11)])), (h_an, .inr (0, [(v_an 0), (v_an 1), (v_an 2), (v_an 3), (v_an 4), (v_an 5)]))] sz)) 0 0 (va_A [(h_xx, .inr (7, [(v_xx 0), (v_xx 1), (v_xx 2), (v_xx 3), (v_xx 4), .ref h_pv, .ref h_mx, .ref h_an])), (h_pv, .inr (3, [(v_pv 0), (v_pv 1), (v_pv 2), (v_pv 3), (v_pv 4), (v_pv 5), (v_pv 6), (v_pv 7), (v_pv 8), (v_pv 9), (v_pv 10), (v_pv 11), (v_pv 12), (v_pv 13), (v_pv 14), (v_pv 15), (v_pv 16), (v_pv 17)])), (h_mx, .inr (2, [(v_mx 0), (v_mx 1), (v_mx 2), (v_mx 3), (v_mx 4), (v_mx 5), (v_mx 6), (v_mx 7), (v_mx 8), (v_mx 9), (v_mx 10), (v_mx 11)])), (h_an, .inr (0, [(v_an 0), (v_an 1), (v_an 2), (v_an 3), (v_an 4), (v_an 5)]))] sz) := by
  refine Met.ofW (cc := cX10_forgetAll) (maxL := 1) (ret := none) (by decide) rfl ?_
  intro p e s m args below meth c s₁ B hml hv
  obtain ⟨rfl, hsz, hP, hK, hD0, hN⟩ := hv
  have hx := B.exec
  have hb := B.bytes
  have hr := B.returns
  have hts := atoms_spec (ws := Ws yX10_forgetAll cX10_forgetAll 1 none) B.pre
  have hT : ∀ w ∈ WALL, w ∈ Ws yX10_forgetAll cX10_forgetAll 1 none := fun w h => List.mem_cons_of_mem _ h
  have hw := fun w (h : w ∈ WALL) => hts w (hT w h)
  have hown : s.vm.findClass RX10 = some m.cls := findClass_of_methodNamed B.named
  have hlocks := B.notSynchronized
  subst hsz
  have hD := hD0.self (sz := s.heap.size)
  generalize hAe : va_A [(h_xx, .inr (7, [(v_xx 0), (v_xx 1), (v_xx 2), (v_xx 3), (v_xx 4), .ref h_pv, .ref h_mx, .ref h_an])), (h_pv, .inr (3, [(v_pv 0), (v_pv 1), (v_pv 2), (v_pv 3), (v_pv 4), (v_pv 5), (v_pv 6), (v_pv 7), (v_pv 8), (v_pv 9), (v_pv 10), (v_pv 11), (v_pv 12), (v_pv 13), (v_pv 14), (v_pv 15), (v_pv 16), (v_pv 17)])), (h_mx, .inr (2, [(v_mx 0), (v_mx 1), (v_mx 2), (v_mx 3), (v_mx 4), (v_mx 5), (v_mx 6), (v_mx 7), (v_mx 8), (v_mx 9), (v_mx 10), (v_mx 11)])), (h_an, .inr (0, [(v_an 0), (v_an 1), (v_an 2), (v_an 3), (v_an 4), (v_an 5)]))] s.heap.size = A at hD ⊢
  have hA : ∀ q : Nat, s.heap.size ≤ q → A q := fun q h => by rw [← hAe]; exact Or.inr h
  have hS : va_S A s.heap s.heap [] := va_S.rf
  have hl := lv_entry ([.ref h_xx]) (n := 1) (Nat.le_of_ble_eq_true rfl)
  rw [lg_entry_eq]
  generalize (lg_sl ([.ref h_xx]) ++ List.replicate (1 - (lg_sl ([.ref h_xx])).length) Slot.unset).toArray = ls at hl ⊢
  have hl : lv_has ls 1 [(0, .ref h_xx)] := hl
  refine lv_aload_n hx hb dX10_forgetAll_0 rfl (lv_at hl 0 rfl) ?_
  refine va_get (D := (dC, dI)) (ci := 7) (v := .ref h_pv) (C := RX10) (T := TX10) (N := 8) hx hb hw iwX10 hown hK hP 0 rfl rfl 5 (by decide) (hw _ w_f_X10_47) (fun _ h9 => h9) rfl dX10_forgetAll_1 ?_
  refine lv_iconst (v := 0) hx hb dX10_forgetAll_4 (by decide) ?_
  refine va_putN (D := (dC, dI)) (ci := 3) (v := .int 0) (ty := tyX4 17) (C := RX4) (T := TX4) (N := 18) (host := "OppositePairs") hx hb hw iwX4 tyX4 tyX4_ok nmX4 hown hK hP hD hS 1 rfl rfl 17 (by decide) (hN.use n_f_X10_175 rfl) (fun _ h9 => h9) rfl (tyX4_ok 17 (by decide)) rfl rfl (Nat.le_of_ble_eq_true rfl) dX10_forgetAll_5 (fun H locs hP hD hS => ?_)
  have hP : va_P (dC, dI) cls [(h_xx, .inr (7, [(v_xx 0), (v_xx 1), (v_xx 2), (v_xx 3), (v_xx 4), .ref h_pv, .ref h_mx, .ref h_an])), (h_pv, .inr (3, [(v_pv 0), (v_pv 1), (v_pv 2), (v_pv 3), (v_pv 4), (v_pv 5), (v_pv 6), (v_pv 7), (v_pv 8), (v_pv 9), (v_pv 10), (v_pv 11), (v_pv 12), (v_pv 13), (v_pv 14), (v_pv 15), (v_pv 16), .int 0])), (h_mx, .inr (2, [(v_mx 0), (v_mx 1), (v_mx 2), (v_mx 3), (v_mx 4), (v_mx 5), (v_mx 6), (v_mx 7), (v_mx 8), (v_mx 9), (v_mx 10), (v_mx 11)])), (h_an, .inr (0, [(v_an 0), (v_an 1), (v_an 2), (v_an 3), (v_an 4), (v_an 5)]))] H := hP
  have hD : va_D A [(h_xx, .inr (7, [(v_xx 0), (v_xx 1), (v_xx 2), (v_xx 3), (v_xx 4), .ref h_pv, .ref h_mx, .ref h_an])), (h_pv, .inr (3, [(v_pv 0), (v_pv 1), (v_pv 2), (v_pv 3), (v_pv 4), (v_pv 5), (v_pv 6), (v_pv 7), (v_pv 8), (v_pv 9), (v_pv 10), (v_pv 11), (v_pv 12), (v_pv 13), (v_pv 14), (v_pv 15), (v_pv 16), .int 0])), (h_mx, .inr (2, [(v_mx 0), (v_mx 1), (v_mx 2), (v_mx 3), (v_mx 4), (v_mx 5), (v_mx 6), (v_mx 7), (v_mx 8), (v_mx 9), (v_mx 10), (v_mx 11)])), (h_an, .inr (0, [(v_an 0), (v_an 1), (v_an 2), (v_an 3), (v_an 4), (v_an 5)]))] := hD
  refine lv_aload_n hx hb dX10_forgetAll_8 rfl (lv_at hl 0 rfl) ?_
  refine va_get (D := (dC, dI)) (ci := 7) (v := .ref h_mx) (C := RX10) (T := TX10) (N := 8) hx hb hw iwX10 hown hK hP 0 rfl rfl 6 (by decide) (hw _ w_f_X10_56) (fun _ h9 => h9) rfl dX10_forgetAll_9 ?_
  have hPc := hP.sub (ws' := [(h_mx, .inr (2, [(v_mx 0), (v_mx 1), (v_mx 2), (v_mx 3), (v_mx 4), (v_mx 5), (v_mx 6), (v_mx 7), (v_mx 8), (v_mx 9), (v_mx 10), (v_mx 11)]))]) [2] rfl
  have hDc := hD.sub (ws' := [(h_mx, .inr (2, [(v_mx 0), (v_mx 1), (v_mx 2), (v_mx 3), (v_mx 4), (v_mx 5), (v_mx 6), (v_mx 7), (v_mx 8), (v_mx 9), (v_mx 10), (v_mx 11)]))]) [2] (by decide) rfl
  have hKc := hK.sub (tys' := []) [] rfl
  have hFc := va_free (wc := [(h_mx, .inr (2, [(v_mx 0), (v_mx 1), (v_mx 2), (v_mx 3), (v_mx 4), (v_mx 5), (v_mx 6), (v_mx 7), (v_mx 8), (v_mx 9), (v_mx 10), (v_mx 11)]))]) hD hS hA [2] rfl
  refine va_callv (va_runVN (As := []) (rest := []) ⟨hx, hb, hml, hown, hts⟩ (c_X3_forget l dC dI H.size h_mx v_mx) ⟨va_cnB (host := "OppositePairs") 0 hts (gd hT w_code_X3_forget) rfl rfl rfl (hN _ n_m_X10_259) (hw _ w_ini_X3) (by decide +kernel) ⟨(Nat.le_of_ble_eq_true rfl), (Nat.le_of_ble_eq_true rfl)⟩, hw _ w_instanceMethod_X3_forget, hw _ ws_sel_X3_forget⟩ ⟨pre_blind, va_recv hK hP (ci := 2) (q0 := 2) rfl rfl, pre_of hPc hKc hDc hN⟩ rfl rfl hl.1 rfl (lv_room (Nat.le_of_ble_eq_true rfl)) dX10_forgetAll_12 ⟨(Nat.le_of_ble_eq_true rfl), (Nat.le_of_ble_eq_true rfl)⟩) hS (fun q _ h => hFc q h) hFc (fun u t H locs ht hvm hq hB hz1 hk1 hS => ?_)
  obtain ⟨hP1, hK1, hD1⟩ := hB
  rw [ht] at hP1
  have hK1 := va_K.moved hvm.symm hK1
  obtain ⟨hP, hD⟩ := va_join (wr := [(h_xx, .inr (7, [(v_xx 0), (v_xx 1), (v_xx 2), (v_xx 3), (v_xx 4), .ref h_pv, .ref h_mx, .ref h_an])), (h_pv, .inr (3, [(v_pv 0), (v_pv 1), (v_pv 2), (v_pv 3), (v_pv 4), (v_pv 5), (v_pv 6), (v_pv 7), (v_pv 8), (v_pv 9), (v_pv 10), (v_pv 11), (v_pv 12), (v_pv 13), (v_pv 14), (v_pv 15), (v_pv 16), .int 0])), (h_an, .inr (0, [(v_an 0), (v_an 1), (v_an 2), (v_an 3), (v_an 4), (v_an 5)]))]) (w1 := [(h_mx, .inr (2, [(v_mx 0), (v_mx 1), (v_mx 2), (v_mx 3), .int 0, (v_mx 5), (v_mx 6), (v_mx 7), (v_mx 8), (v_mx 9), .int (-2), (v_mx 11)]))]) hP hD [2] [0, 1, 3] rfl rfl (by decide) (by decide) hk1 hFc hP1 hD1
  have hP : va_P (dC, dI) cls [(h_xx, .inr (7, [(v_xx 0), (v_xx 1), (v_xx 2), (v_xx 3), (v_xx 4), .ref h_pv, .ref h_mx, .ref h_an])), (h_pv, .inr (3, [(v_pv 0), (v_pv 1), (v_pv 2), (v_pv 3), (v_pv 4), (v_pv 5), (v_pv 6), (v_pv 7), (v_pv 8), (v_pv 9), (v_pv 10), (v_pv 11), (v_pv 12), (v_pv 13), (v_pv 14), (v_pv 15), (v_pv 16), .int 0])), (h_an, .inr (0, [(v_an 0), (v_an 1), (v_an 2), (v_an 3), (v_an 4), (v_an 5)])), (h_mx, .inr (2, [(v_mx 0), (v_mx 1), (v_mx 2), (v_mx 3), .int 0, (v_mx 5), (v_mx 6), (v_mx 7), (v_mx 8), (v_mx 9), .int (-2), (v_mx 11)]))] H := hP
  have hD : va_D A [(h_xx, .inr (7, [(v_xx 0), (v_xx 1), (v_xx 2), (v_xx 3), (v_xx 4), .ref h_pv, .ref h_mx, .ref h_an])), (h_pv, .inr (3, [(v_pv 0), (v_pv 1), (v_pv 2), (v_pv 3), (v_pv 4), (v_pv 5), (v_pv 6), (v_pv 7), (v_pv 8), (v_pv 9), (v_pv 10), (v_pv 11), (v_pv 12), (v_pv 13), (v_pv 14), (v_pv 15), (v_pv 16), .int 0])), (h_an, .inr (0, [(v_an 0), (v_an 1), (v_an 2), (v_an 3), (v_an 4), (v_an 5)])), (h_mx, .inr (2, [(v_mx 0), (v_mx 1), (v_mx 2), (v_mx 3), .int 0, (v_mx 5), (v_mx 6), (v_mx 7), (v_mx 8), (v_mx 9), .int (-2), (v_mx 11)]))] := hD
  refine lv_aload_n hx hb dX10_forgetAll_15 rfl (lv_at hl 0 rfl) ?_
  refine va_get (D := (dC, dI)) (ci := 7) (v := .ref h_an) (C := RX10) (T := TX10) (N := 8) hx hb hw iwX10 hown hK hP 0 rfl rfl 7 (by decide) (hw _ w_f_X10_63) (fun _ h9 => h9) rfl dX10_forgetAll_16 ?_
  refine lv_iconst (v := 0) hx hb dX10_forgetAll_19 (by decide) ?_
  refine va_putN (D := (dC, dI)) (ci := 0) (v := .int 0) (ty := tyX0 4) (C := RX0) (T := TX0) (N := 6) (host := "OppositePairs") hx hb hw iwX0 tyX0 tyX0_ok nmX0 hown hK hP hD hS 2 rfl rfl 4 (by decide) (hN.use n_f_X10_232 rfl) (fun _ h9 => h9) rfl (tyX0_ok 4 (by decide)) rfl rfl (Nat.le_of_ble_eq_true rfl) dX10_forgetAll_20 (fun H locs hP hD hS => ?_)
  have hP : va_P (dC, dI) cls [(h_xx, .inr (7, [(v_xx 0), (v_xx 1), (v_xx 2), (v_xx 3), (v_xx 4), .ref h_pv, .ref h_mx, .ref h_an])), (h_pv, .inr (3, [(v_pv 0), (v_pv 1), (v_pv 2), (v_pv 3), (v_pv 4), (v_pv 5), (v_pv 6), (v_pv 7), (v_pv 8), (v_pv 9), (v_pv 10), (v_pv 11), (v_pv 12), (v_pv 13), (v_pv 14), (v_pv 15), (v_pv 16), .int 0])), (h_an, .inr (0, [(v_an 0), (v_an 1), (v_an 2), (v_an 3), .int 0, (v_an 5)])), (h_mx, .inr (2, [(v_mx 0), (v_mx 1), (v_mx 2), (v_mx 3), .int 0, (v_mx 5), (v_mx 6), (v_mx 7), (v_mx 8), (v_mx 9), .int (-2), (v_mx 11)]))] H := hP
  have hD : va_D A [(h_xx, .inr (7, [(v_xx 0), (v_xx 1), (v_xx 2), (v_xx 3), (v_xx 4), .ref h_pv, .ref h_mx, .ref h_an])), (h_pv, .inr (3, [(v_pv 0), (v_pv 1), (v_pv 2), (v_pv 3), (v_pv 4), (v_pv 5), (v_pv 6), (v_pv 7), (v_pv 8), (v_pv 9), (v_pv 10), (v_pv 11), (v_pv 12), (v_pv 13), (v_pv 14), (v_pv 15), (v_pv 16), .int 0])), (h_an, .inr (0, [(v_an 0), (v_an 1), (v_an 2), (v_an 3), .int 0, (v_an 5)])), (h_mx, .inr (2, [(v_mx 0), (v_mx 1), (v_mx 2), (v_mx 3), .int 0, (v_mx 5), (v_mx 6), (v_mx 7), (v_mx 8), (v_mx 9), .int (-2), (v_mx 11)]))] := hD
  refine W.widen (k := 0) (n := 0) (Nat.le_of_ble_eq_true rfl) (Nat.le_of_ble_eq_true rfl) ?_
  have hK9 := hK.sub (tys' := []) [] rfl
  exact W.vret hx hb hr (fun t ht hW => ⟨⟨(), rfl, trivial, by rw [ht]; exact hP, va_K.moved hW.alike hK9, hD⟩, hS.F ht⟩) hS.2.2 dX10_forgetAll_23

set_option maxHeartbeats 4000000 in
set_option maxRecDepth 100000 in
theorem c_X10_begin (l : Launch) (dC : Nat → ClassId) (dI : Nat → Nat → Nat) (sz : Nat) (h_xx : Nat) (h_pv : Nat) (h_mx : Nat) (v_xx : Nat → Value) (v_pv : Nat → Value) (v_mx : Nat → Value) : Met l yX10_begin (Ws yX10_begin cX10_begin 1 none) ({ frames := 1, cells := 0, slots := 0, locals := 20 }) (PRE (dC, dI) cls [] [(h_xx, .inr (7, [(v_xx 0), (v_xx 1), (v_xx 2), (v_xx 3), (v_xx 4), .ref h_pv, .ref h_mx, (v_xx 7)])), (h_pv, .inr (3, [(v_pv 0), (v_pv 1), (v_pv 2), (v_pv 3), (v_pv 4), (v_pv 5), (v_pv 6), (v_pv 7), (v_pv 8), (v_pv 9), (v_pv 10), (v_pv 11), (v_pv 12), (v_pv 13), (v_pv 14), (v_pv 15), (v_pv 16), (v_pv 17)])), (h_mx, .inr (2, [(v_mx 0), (v_mx 1), (v_mx 2), (v_mx 3), (v_mx 4), (v_mx 5), (v_mx 6), (v_mx 7), (v_mx 8), (v_mx 9), (v_mx 10), (v_mx 11)]))] sz [.ref h_xx]) (va_Qv (fun (_ : Unit) => True) (fun (u : Unit) (t : State) => va_P (dC, dI) cls [(h_xx, .inr (7, [(v_xx 0), (v_xx 1), (v_xx 2), (v_xx 3), (v_xx 4), .ref h_pv, .ref h_mx, (v_xx 7)])), (h_mx, .inr (2, [(v_mx 0), (v_mx 1), (v_mx 2), (v_mx 3), .int 0, (v_mx 5), (v_mx 6), (v_mx 7), (v_mx 8), (v_mx 9), .int (-2), (v_mx 11)])), (h_pv, .inr (3, [(v_pv 0), (v_pv 1), (v_pv 2), (v_pv 3), (v_pv 4), (v_pv 5), (v_pv 6), (v_pv 7), (v_pv 8), (v_pv 9), (v_pv 10), (v_pv 11), .int 0, .int 0, .int 0, .int 0, (v_pv 16), .int 0]))] t.heap ∧ va_K (dC, dI) cls [] t ∧ va_D (va_A [(h_xx, .inr (7, [(v_xx 0), (v_xx 1), (v_xx 2), (v_xx 3), (v_xx 4), .ref h_pv, .ref h_mx, (v_xx 7)])), (h_pv, .inr (3, [(v_pv 0), (v_pv 1), (v_pv 2), (v_pv 3), (v_pv 4), (v_pv 5), (v_pv 6), (v_pv 7), (v_pv 8), (v_pv 9), (v_pv 10), (v_pv 11), (v_pv 12), (v_pv 13), (v_pv 14), (v_pv 15), (v_pv 16), (v_pv 17)])), (h_mx, .inr (2, [(v_mx 0), (v_mx 1), (v_mx 2), (v_mx 3), (v_mx 4), (v_mx 5), (v_mx 6), (v_mx 7), (v_mx 8), (v_mx 9), (v_mx 10), (v_mx 11)]))] sz) [(h_xx, .inr (7, [(v_xx 0), (v_xx 1), (v_xx 2), (v_xx 3), (v_xx 4), .ref h_pv, .ref h_mx, (v_xx 7)])), (h_mx, .inr (2, [(v_mx 0), (v_mx 1), (v_mx 2), (v_mx 3), .int 0, (v_mx 5), (v_mx 6), (v_mx 7), (v_mx 8), (v_mx 9), .int (-2), (v_mx 11)])), (h_pv, .inr (3, [(v_pv 0), (v_pv 1), (v_pv 2), (v_pv 3), (v_pv 4), (v_pv 5), (v_pv 6), (v_pv 7), (v_pv 8), (v_pv 9), (v_pv 10), (v_pv 11), .int 0, .int 0, .int 0, .int 0, (v_pv 16), .int 0]))]) (va_A [(h_xx, .inr (7, [(v_xx 0), (v_xx 1), (v_xx 2), (v_xx 3), (v_xx 4), .ref h_pv, .ref h_mx, (v_xx 7)])), (h_pv, .inr (3, [(v_pv 0), (v_pv 1), (v_pv 2), (v_pv 3), (v_pv 4), (v_pv 5), (v_pv 6), (v_pv 7), (v_pv 8), (v_pv 9), (v_pv 10), (v_pv 11), (v_pv 12), (v_pv 13), (v_pv 14), (v_pv 15), (v_pv 16), (v_pv 17)])), (h_mx, .inr (2, [(v_mx 0), (v_mx 1), (v_mx 2), (v_mx 3), (v_mx 4), (v_mx 5), (v_mx 6), (v_mx 7), (v_mx 8), (v_mx 9), (v_mx 10), (v_mx 11)]))] sz)) 0 0 (va_A [(h_xx, .inr (7, [(v_xx 0), (v_xx 1), (v_xx 2), (v_xx 3), (v_xx 4), .ref h_pv, .ref h_mx, (v_xx 7)])), (h_pv, .inr (3, [(v_pv 0), (v_pv 1), (v_pv 2), (v_pv 3), (v_pv 4), (v_pv 5), (v_pv 6), (v_pv 7), (v_pv 8), (v_pv 9), (v_pv 10), (v_pv 11), (v_pv 12), (v_pv 13), (v_pv 14), (v_pv 15), (v_pv 16), (v_pv 17)])), (h_mx, .inr (2, [(v_mx 0), (v_mx 1), (v_mx 2), (v_mx 3), (v_mx 4), (v_mx 5), (v_mx 6), (v_mx 7), (v_mx 8), (v_mx 9), (v_mx 10), (v_mx 11)]))] sz) := by
  refine Met.ofW (cc := cX10_begin) (maxL := 1) (ret := none) (by decide) rfl ?_
  intro p e s m args below meth c s₁ B hml hv
  obtain ⟨rfl, hsz, hP, hK, hD0, hN⟩ := hv
  have hx := B.exec
  have hb := B.bytes
  have hr := B.returns
  have hts := atoms_spec (ws := Ws yX10_begin cX10_begin 1 none) B.pre
  have hT : ∀ w ∈ WALL, w ∈ Ws yX10_begin cX10_begin 1 none := fun w h => List.mem_cons_of_mem _ h
  have hw := fun w (h : w ∈ WALL) => hts w (hT w h)
  have hown : s.vm.findClass RX10 = some m.cls := findClass_of_methodNamed B.named
  have hlocks := B.notSynchronized
  subst hsz
  have hD := hD0.self (sz := s.heap.size)
  generalize hAe : va_A [(h_xx, .inr (7, [(v_xx 0), (v_xx 1), (v_xx 2), (v_xx 3), (v_xx 4), .ref h_pv, .ref h_mx, (v_xx 7)])), (h_pv, .inr (3, [(v_pv 0), (v_pv 1), (v_pv 2), (v_pv 3), (v_pv 4), (v_pv 5), (v_pv 6), (v_pv 7), (v_pv 8), (v_pv 9), (v_pv 10), (v_pv 11), (v_pv 12), (v_pv 13), (v_pv 14), (v_pv 15), (v_pv 16), (v_pv 17)])), (h_mx, .inr (2, [(v_mx 0), (v_mx 1), (v_mx 2), (v_mx 3), (v_mx 4), (v_mx 5), (v_mx 6), (v_mx 7), (v_mx 8), (v_mx 9), (v_mx 10), (v_mx 11)]))] s.heap.size = A at hD ⊢
  have hA : ∀ q : Nat, s.heap.size ≤ q → A q := fun q h => by rw [← hAe]; exact Or.inr h
  have hS : va_S A s.heap s.heap [] := va_S.rf
  have hl := lv_entry ([.ref h_xx]) (n := 1) (Nat.le_of_ble_eq_true rfl)
  rw [lg_entry_eq]
  generalize (lg_sl ([.ref h_xx]) ++ List.replicate (1 - (lg_sl ([.ref h_xx])).length) Slot.unset).toArray = ls at hl ⊢
  have hl : lv_has ls 1 [(0, .ref h_xx)] := hl
  refine lv_aload_n hx hb dX10_begin_0 rfl (lv_at hl 0 rfl) ?_
  refine va_get (D := (dC, dI)) (ci := 7) (v := .ref h_mx) (C := RX10) (T := TX10) (N := 8) hx hb hw iwX10 hown hK hP 0 rfl rfl 6 (by decide) (hw _ w_f_X10_56) (fun _ h9 => h9) rfl dX10_begin_1 ?_
  have hPc := hP.sub (ws' := [(h_mx, .inr (2, [(v_mx 0), (v_mx 1), (v_mx 2), (v_mx 3), (v_mx 4), (v_mx 5), (v_mx 6), (v_mx 7), (v_mx 8), (v_mx 9), (v_mx 10), (v_mx 11)]))]) [2] rfl
  have hDc := hD.sub (ws' := [(h_mx, .inr (2, [(v_mx 0), (v_mx 1), (v_mx 2), (v_mx 3), (v_mx 4), (v_mx 5), (v_mx 6), (v_mx 7), (v_mx 8), (v_mx 9), (v_mx 10), (v_mx 11)]))]) [2] (by decide) rfl
  have hKc := hK.sub (tys' := []) [] rfl
  have hFc := va_free (wc := [(h_mx, .inr (2, [(v_mx 0), (v_mx 1), (v_mx 2), (v_mx 3), (v_mx 4), (v_mx 5), (v_mx 6), (v_mx 7), (v_mx 8), (v_mx 9), (v_mx 10), (v_mx 11)]))]) hD hS hA [2] rfl
  refine va_callv (va_runVN (As := []) (rest := []) ⟨hx, hb, hml, hown, hts⟩ (c_X3_forget l dC dI s.heap.size h_mx v_mx) ⟨va_cnB (host := "OppositePairs") 0 hts (gd hT w_code_X3_forget) rfl rfl rfl (hN _ n_m_X10_259) (hw _ w_ini_X3) (by decide +kernel) ⟨(Nat.le_of_ble_eq_true rfl), (Nat.le_of_ble_eq_true rfl)⟩, hw _ w_instanceMethod_X3_forget, hw _ ws_sel_X3_forget⟩ ⟨pre_blind, va_recv hK hP (ci := 2) (q0 := 2) rfl rfl, pre_of hPc hKc hDc hN⟩ rfl rfl hl.1 rfl (lv_room (Nat.le_of_ble_eq_true rfl)) dX10_begin_4 ⟨(Nat.le_of_ble_eq_true rfl), (Nat.le_of_ble_eq_true rfl)⟩) hS (fun q _ h => hFc q h) hFc (fun u t H locs ht hvm hq hB hz1 hk1 hS => ?_)
  obtain ⟨hP1, hK1, hD1⟩ := hB
  rw [ht] at hP1
  have hK1 := va_K.moved hvm.symm hK1
  obtain ⟨hP, hD⟩ := va_join (wr := [(h_xx, .inr (7, [(v_xx 0), (v_xx 1), (v_xx 2), (v_xx 3), (v_xx 4), .ref h_pv, .ref h_mx, (v_xx 7)])), (h_pv, .inr (3, [(v_pv 0), (v_pv 1), (v_pv 2), (v_pv 3), (v_pv 4), (v_pv 5), (v_pv 6), (v_pv 7), (v_pv 8), (v_pv 9), (v_pv 10), (v_pv 11), (v_pv 12), (v_pv 13), (v_pv 14), (v_pv 15), (v_pv 16), (v_pv 17)]))]) (w1 := [(h_mx, .inr (2, [(v_mx 0), (v_mx 1), (v_mx 2), (v_mx 3), .int 0, (v_mx 5), (v_mx 6), (v_mx 7), (v_mx 8), (v_mx 9), .int (-2), (v_mx 11)]))]) hP hD [2] [0, 1] rfl rfl (by decide) (by decide) hk1 hFc hP1 hD1
  have hP : va_P (dC, dI) cls [(h_xx, .inr (7, [(v_xx 0), (v_xx 1), (v_xx 2), (v_xx 3), (v_xx 4), .ref h_pv, .ref h_mx, (v_xx 7)])), (h_pv, .inr (3, [(v_pv 0), (v_pv 1), (v_pv 2), (v_pv 3), (v_pv 4), (v_pv 5), (v_pv 6), (v_pv 7), (v_pv 8), (v_pv 9), (v_pv 10), (v_pv 11), (v_pv 12), (v_pv 13), (v_pv 14), (v_pv 15), (v_pv 16), (v_pv 17)])), (h_mx, .inr (2, [(v_mx 0), (v_mx 1), (v_mx 2), (v_mx 3), .int 0, (v_mx 5), (v_mx 6), (v_mx 7), (v_mx 8), (v_mx 9), .int (-2), (v_mx 11)]))] H := hP
  have hD : va_D A [(h_xx, .inr (7, [(v_xx 0), (v_xx 1), (v_xx 2), (v_xx 3), (v_xx 4), .ref h_pv, .ref h_mx, (v_xx 7)])), (h_pv, .inr (3, [(v_pv 0), (v_pv 1), (v_pv 2), (v_pv 3), (v_pv 4), (v_pv 5), (v_pv 6), (v_pv 7), (v_pv 8), (v_pv 9), (v_pv 10), (v_pv 11), (v_pv 12), (v_pv 13), (v_pv 14), (v_pv 15), (v_pv 16), (v_pv 17)])), (h_mx, .inr (2, [(v_mx 0), (v_mx 1), (v_mx 2), (v_mx 3), .int 0, (v_mx 5), (v_mx 6), (v_mx 7), (v_mx 8), (v_mx 9), .int (-2), (v_mx 11)]))] := hD
  refine lv_aload_n hx hb dX10_begin_7 rfl (lv_at hl 0 rfl) ?_
  refine va_get (D := (dC, dI)) (ci := 7) (v := .ref h_pv) (C := RX10) (T := TX10) (N := 8) hx hb hw iwX10 hown hK hP 0 rfl rfl 5 (by decide) (hw _ w_f_X10_47) (fun _ h9 => h9) rfl dX10_begin_8 ?_
  have hPc := hP.sub (ws' := [(h_pv, .inr (3, [(v_pv 0), (v_pv 1), (v_pv 2), (v_pv 3), (v_pv 4), (v_pv 5), (v_pv 6), (v_pv 7), (v_pv 8), (v_pv 9), (v_pv 10), (v_pv 11), (v_pv 12), (v_pv 13), (v_pv 14), (v_pv 15), (v_pv 16), (v_pv 17)]))]) [1] rfl
  have hDc := hD.sub (ws' := [(h_pv, .inr (3, [(v_pv 0), (v_pv 1), (v_pv 2), (v_pv 3), (v_pv 4), (v_pv 5), (v_pv 6), (v_pv 7), (v_pv 8), (v_pv 9), (v_pv 10), (v_pv 11), (v_pv 12), (v_pv 13), (v_pv 14), (v_pv 15), (v_pv 16), (v_pv 17)]))]) [1] (by decide) rfl
  have hKc := hK.sub (tys' := []) [] rfl
  have hFc := va_free (wc := [(h_pv, .inr (3, [(v_pv 0), (v_pv 1), (v_pv 2), (v_pv 3), (v_pv 4), (v_pv 5), (v_pv 6), (v_pv 7), (v_pv 8), (v_pv 9), (v_pv 10), (v_pv 11), (v_pv 12), (v_pv 13), (v_pv 14), (v_pv 15), (v_pv 16), (v_pv 17)]))]) hD hS hA [1] rfl
  refine va_callv (va_runVN (As := []) (rest := []) ⟨hx, hb, hml, hown, hts⟩ (c_X4_forgetCounts l dC dI H.size h_pv v_pv) ⟨va_cnB (host := "OppositePairs") 0 hts (gd hT w_code_X4_forgetCounts) rfl rfl rfl (hN _ n_m_X10_262) (hw _ w_ini_X4) (by decide +kernel) ⟨(Nat.le_of_ble_eq_true rfl), (Nat.le_of_ble_eq_true rfl)⟩, hw _ w_instanceMethod_X4_forgetCounts, hw _ ws_sel_X4_forgetCounts⟩ ⟨pre_blind, va_recv hK hP (ci := 3) (q0 := 1) rfl rfl, pre_of hPc hKc hDc hN⟩ rfl rfl hl.1 rfl (lv_room (Nat.le_of_ble_eq_true rfl)) dX10_begin_11 ⟨(Nat.le_of_ble_eq_true rfl), (Nat.le_of_ble_eq_true rfl)⟩) hS (fun q _ h => hFc q h) hFc (fun u t H locs ht hvm hq hB hz1 hk1 hS => ?_)
  obtain ⟨hP1, hK1, hD1⟩ := hB
  rw [ht] at hP1
  have hK1 := va_K.moved hvm.symm hK1
  obtain ⟨hP, hD⟩ := va_join (wr := [(h_xx, .inr (7, [(v_xx 0), (v_xx 1), (v_xx 2), (v_xx 3), (v_xx 4), .ref h_pv, .ref h_mx, (v_xx 7)])), (h_mx, .inr (2, [(v_mx 0), (v_mx 1), (v_mx 2), (v_mx 3), .int 0, (v_mx 5), (v_mx 6), (v_mx 7), (v_mx 8), (v_mx 9), .int (-2), (v_mx 11)]))]) (w1 := [(h_pv, .inr (3, [(v_pv 0), (v_pv 1), (v_pv 2), (v_pv 3), (v_pv 4), (v_pv 5), (v_pv 6), (v_pv 7), (v_pv 8), (v_pv 9), (v_pv 10), (v_pv 11), .int 0, .int 0, .int 0, .int 0, (v_pv 16), .int 0]))]) hP hD [1] [0, 2] rfl rfl (by decide) (by decide) hk1 hFc hP1 hD1
  have hP : va_P (dC, dI) cls [(h_xx, .inr (7, [(v_xx 0), (v_xx 1), (v_xx 2), (v_xx 3), (v_xx 4), .ref h_pv, .ref h_mx, (v_xx 7)])), (h_mx, .inr (2, [(v_mx 0), (v_mx 1), (v_mx 2), (v_mx 3), .int 0, (v_mx 5), (v_mx 6), (v_mx 7), (v_mx 8), (v_mx 9), .int (-2), (v_mx 11)])), (h_pv, .inr (3, [(v_pv 0), (v_pv 1), (v_pv 2), (v_pv 3), (v_pv 4), (v_pv 5), (v_pv 6), (v_pv 7), (v_pv 8), (v_pv 9), (v_pv 10), (v_pv 11), .int 0, .int 0, .int 0, .int 0, (v_pv 16), .int 0]))] H := hP
  have hD : va_D A [(h_xx, .inr (7, [(v_xx 0), (v_xx 1), (v_xx 2), (v_xx 3), (v_xx 4), .ref h_pv, .ref h_mx, (v_xx 7)])), (h_mx, .inr (2, [(v_mx 0), (v_mx 1), (v_mx 2), (v_mx 3), .int 0, (v_mx 5), (v_mx 6), (v_mx 7), (v_mx 8), (v_mx 9), .int (-2), (v_mx 11)])), (h_pv, .inr (3, [(v_pv 0), (v_pv 1), (v_pv 2), (v_pv 3), (v_pv 4), (v_pv 5), (v_pv 6), (v_pv 7), (v_pv 8), (v_pv 9), (v_pv 10), (v_pv 11), .int 0, .int 0, .int 0, .int 0, (v_pv 16), .int 0]))] := hD
  refine W.widen (k := 0) (n := 0) (Nat.le_of_ble_eq_true rfl) (Nat.le_of_ble_eq_true rfl) ?_
  have hK9 := hK.sub (tys' := []) [] rfl
  exact W.vret hx hb hr (fun t ht hW => ⟨⟨(), rfl, trivial, by rw [ht]; exact hP, va_K.moved hW.alike hK9, hD⟩, hS.F ht⟩) hS.2.2 dX10_begin_14

set_option maxHeartbeats 4000000 in
set_option maxRecDepth 100000 in
theorem c_X8_isClause (l : Launch) (dC : Nat → ClassId) (dI : Nat → Nat → Nat) (sz : Nat) (h_td : Nat) (v_td : Nat → Value) (p1 : Int32) : Met l yX8_isClause (Ws yX8_isClause cX8_isClause 2 (some .boolean)) ({ frames := 0, cells := 0, slots := 0, locals := 0 }) (PRE (dC, dI) cls [] [(h_td, .inr (5, [(v_td 0), (v_td 1), (v_td 2), (v_td 3), (v_td 4), (v_td 5), (v_td 6), (v_td 7), (v_td 8), .int 0]))] sz [.ref h_td, .int p1]) (va_Qi (fun (r : Int32) (_ : Unit) => r = 0) (fun (_ : Unit) (_ : State) => True) (va_A [(h_td, .inr (5, [(v_td 0), (v_td 1), (v_td 2), (v_td 3), (v_td 4), (v_td 5), (v_td 6), (v_td 7), (v_td 8), .int 0]))] sz)) 0 0 (va_A [(h_td, .inr (5, [(v_td 0), (v_td 1), (v_td 2), (v_td 3), (v_td 4), (v_td 5), (v_td 6), (v_td 7), (v_td 8), .int 0]))] sz) := by
  refine Met.ofW (cc := cX8_isClause) (maxL := 2) (ret := (some .boolean)) (by decide) rfl ?_
  intro p e s m args below meth c s₁ B hml hv
  obtain ⟨rfl, hsz, hP, hK, hD0, hN⟩ := hv
  have hx := B.exec
  have hb := B.bytes
  have hr := B.returns
  have hts := atoms_spec (ws := Ws yX8_isClause cX8_isClause 2 (some .boolean)) B.pre
  have hT : ∀ w ∈ WALL, w ∈ Ws yX8_isClause cX8_isClause 2 (some .boolean) := fun w h => List.mem_cons_of_mem _ h
  have hw := fun w (h : w ∈ WALL) => hts w (hT w h)
  have hown : s.vm.findClass RX8 = some m.cls := findClass_of_methodNamed B.named
  have hlocks := B.notSynchronized
  subst hsz
  have hD := hD0.self (sz := s.heap.size)
  generalize hAe : va_A [(h_td, .inr (5, [(v_td 0), (v_td 1), (v_td 2), (v_td 3), (v_td 4), (v_td 5), (v_td 6), (v_td 7), (v_td 8), .int 0]))] s.heap.size = A at hD ⊢
  have hA : ∀ q : Nat, s.heap.size ≤ q → A q := fun q h => by rw [← hAe]; exact Or.inr h
  have hS : va_S A s.heap s.heap [] := va_S.rf
  have hl := lv_entry ([.ref h_td, .int p1]) (n := 2) (Nat.le_of_ble_eq_true rfl)
  rw [lg_entry_eq]
  generalize (lg_sl ([.ref h_td, .int p1]) ++ List.replicate (2 - (lg_sl ([.ref h_td, .int p1])).length) Slot.unset).toArray = ls at hl ⊢
  have hl : lv_has ls 2 [(0, .ref h_td), (1, .int p1)] := hl
  refine lv_iload_n hx hb dX8_isClause_0 rfl (lv_at hl 1 rfl) ?_
  refine lv_if_lt (tgt := 16) hx hb dX8_isClause_1 (by decide) (fun c1 => ?_) (fun c1 => ?_)
  · have kc1 := (cv_lt (rfl : (p1).toInt = (p1).toInt) (by decide : (0 : Int32).toInt = 0)).mp c1
    refine lv_iconst (v := 0) hx hb dX8_isClause_16 (by decide) ?_
    refine W.widen (k := 0) (n := 0) (Nat.le_of_ble_eq_true rfl) (Nat.le_of_ble_eq_true rfl) ?_
    exact W.zret (v := 0) (ty := .boolean) hx hb hr (by decide) (fun t ht hW => ⟨⟨0, (), rfl, rfl, trivial⟩, hS.F ht⟩) hS.2.2 dX8_isClause_17
  · have kc1 := (not_congr (cv_lt (rfl : (p1).toInt = (p1).toInt) (by decide : (0 : Int32).toInt = 0))).mp c1
    refine lv_iload_n hx hb dX8_isClause_4 rfl (lv_at hl 1 rfl) ?_
    refine lv_aload_n hx hb dX8_isClause_5 rfl (lv_at hl 0 rfl) ?_
    refine va_get (D := (dC, dI)) (ci := 5) (v := .int 0) (C := RX8) (T := TX8) (N := 10) hx hb hw iwX8 hown hK hP 0 rfl rfl 9 (by decide) (hw _ w_f_X8_41) (fun _ h9 => h9) rfl dX8_isClause_6 ?_
    refine lv_icmp_ge (tgt := 16) hx hb dX8_isClause_9 (by decide) (fun _ => ?_) (fun c2 => False.elim (by have kc2 := (not_congr (cv_le (by decide : (0 : Int32).toInt = 0) (rfl : (p1).toInt = (p1).toInt))).mp c2; omega))
    refine lv_iconst (v := 0) hx hb dX8_isClause_16 (by decide) ?_
    refine W.widen (k := 0) (n := 0) (Nat.le_of_ble_eq_true rfl) (Nat.le_of_ble_eq_true rfl) ?_
    exact W.zret (v := 0) (ty := .boolean) hx hb hr (by decide) (fun t ht hW => ⟨⟨0, (), rfl, rfl, trivial⟩, hS.F ht⟩) hS.2.2 dX8_isClause_17

set_option maxHeartbeats 4000000 in
set_option maxRecDepth 100000 in
theorem c_X8_isLiteral (l : Launch) (dC : Nat → ClassId) (dI : Nat → Nat → Nat) (sz : Nat) (h_td : Nat) (v_td : Nat → Value) (p1 : Int32) (p2 : Int32) : Met l yX8_isLiteral (Ws yX8_isLiteral cX8_isLiteral 3 (some .boolean)) ({ frames := 1, cells := 0, slots := 0, locals := 21 }) (PRE (dC, dI) cls [] [(h_td, .inr (5, [(v_td 0), (v_td 1), (v_td 2), (v_td 3), (v_td 4), (v_td 5), (v_td 6), (v_td 7), (v_td 8), .int 0]))] sz [.ref h_td, .int p1, .int p2]) (va_Qi (fun (r : Int32) (_ : Unit) => r = 0) (fun (_ : Unit) (_ : State) => True) (va_A [(h_td, .inr (5, [(v_td 0), (v_td 1), (v_td 2), (v_td 3), (v_td 4), (v_td 5), (v_td 6), (v_td 7), (v_td 8), .int 0]))] sz)) 0 0 (va_A [(h_td, .inr (5, [(v_td 0), (v_td 1), (v_td 2), (v_td 3), (v_td 4), (v_td 5), (v_td 6), (v_td 7), (v_td 8), .int 0]))] sz) := by
  refine Met.ofW (cc := cX8_isLiteral) (maxL := 3) (ret := (some .boolean)) (by decide) rfl ?_
  intro p e s m args below meth c s₁ B hml hv
  obtain ⟨rfl, hsz, hP, hK, hD0, hN⟩ := hv
  have hx := B.exec
  have hb := B.bytes
  have hr := B.returns
  have hts := atoms_spec (ws := Ws yX8_isLiteral cX8_isLiteral 3 (some .boolean)) B.pre
  have hT : ∀ w ∈ WALL, w ∈ Ws yX8_isLiteral cX8_isLiteral 3 (some .boolean) := fun w h => List.mem_cons_of_mem _ h
  have hw := fun w (h : w ∈ WALL) => hts w (hT w h)
  have hown : s.vm.findClass RX8 = some m.cls := findClass_of_methodNamed B.named
  have hlocks := B.notSynchronized
  subst hsz
  have hD := hD0.self (sz := s.heap.size)
  generalize hAe : va_A [(h_td, .inr (5, [(v_td 0), (v_td 1), (v_td 2), (v_td 3), (v_td 4), (v_td 5), (v_td 6), (v_td 7), (v_td 8), .int 0]))] s.heap.size = A at hD ⊢
  have hA : ∀ q : Nat, s.heap.size ≤ q → A q := fun q h => by rw [← hAe]; exact Or.inr h
  have hS : va_S A s.heap s.heap [] := va_S.rf
  have hl := lv_entry ([.ref h_td, .int p1, .int p2]) (n := 3) (Nat.le_of_ble_eq_true rfl)
  rw [lg_entry_eq]
  generalize (lg_sl ([.ref h_td, .int p1, .int p2]) ++ List.replicate (3 - (lg_sl ([.ref h_td, .int p1, .int p2])).length) Slot.unset).toArray = ls at hl ⊢
  have hl : lv_has ls 3 [(0, .ref h_td), (1, .int p1), (2, .int p2)] := hl
  refine lv_aload_n hx hb dX8_isLiteral_0 rfl (lv_at hl 0 rfl) ?_
  refine lv_iload_n hx hb dX8_isLiteral_1 rfl (lv_at hl 1 rfl) ?_
  have hPc := hP.sub (ws' := [(h_td, .inr (5, [(v_td 0), (v_td 1), (v_td 2), (v_td 3), (v_td 4), (v_td 5), (v_td 6), (v_td 7), (v_td 8), .int 0]))]) [0] rfl
  have hDc := hD.sub (ws' := [(h_td, .inr (5, [(v_td 0), (v_td 1), (v_td 2), (v_td 3), (v_td 4), (v_td 5), (v_td 6), (v_td 7), (v_td 8), .int 0]))]) [0] (by decide) rfl
  have hKc := hK.sub (tys' := []) [] rfl
  have hFc := va_free (wc := [(h_td, .inr (5, [(v_td 0), (v_td 1), (v_td 2), (v_td 3), (v_td 4), (v_td 5), (v_td 6), (v_td 7), (v_td 8), .int 0]))]) hD hS hA [0] rfl
  refine va_calli (va_runV (As := [.int p1]) (rest := []) ⟨hx, hb, hml, hown, hts⟩ (c_X8_isClause l dC dI s.heap.size h_td v_td p1) (cwV 1 hts (gv hT w_m_X8_50 w_instanceMethod_X8_isClause ws_sel_X8_isClause w_ini_X8 w_code_X8_isClause) rfl rfl rfl (by decide +kernel) ⟨(Nat.le_of_ble_eq_true rfl), (Nat.le_of_ble_eq_true rfl)⟩) ⟨pre_blind, va_recv hK hP (ci := 5) (q0 := 0) rfl rfl, pre_of hPc hKc hDc hN⟩ rfl rfl hl.1 rfl (lv_room (Nat.le_of_ble_eq_true rfl)) dX8_isLiteral_2 ⟨(Nat.le_of_ble_eq_true rfl), (Nat.le_of_ble_eq_true rfl)⟩) hS (fun q _ h => hFc q h) hFc (fun r1 u t H locs ht hvm hq hB hz1 hk1 hS => ?_)
  obtain ⟨hP, hD⟩ := va_join (wr := []) (w1 := []) hP hD [0] [] rfl rfl (by decide) (by decide) hk1 hFc P_nil D_nil
  have hP : va_P (dC, dI) cls [] H := hP
  have hD : va_D A [] := hD
  obtain rfl : r1 = 0 := hq
  refine lv_if_eq (tgt := 26) hx hb dX8_isLiteral_5 (by decide) (fun _ => ?_) (fun c9 => absurd c9 (by decide))
  refine lv_iconst (v := 0) hx hb dX8_isLiteral_26 (by decide) ?_
  refine W.widen (k := 0) (n := 0) (Nat.le_of_ble_eq_true rfl) (Nat.le_of_ble_eq_true rfl) ?_
  exact W.zret (v := 0) (ty := .boolean) hx hb hr (by decide) (fun t ht hW => ⟨⟨0, (), rfl, rfl, trivial⟩, hS.F ht⟩) hS.2.2 dX8_isLiteral_27

set_option maxHeartbeats 4000000 in
set_option maxRecDepth 100000 in
theorem c_X8_all (l : Launch) (dC : Nat → ClassId) (dI : Nat → Nat → Nat) (sz : Nat) (h_td : Nat) (v_td : Nat → Value) : Met l yX8_all (Ws yX8_all cX8_all 1 (some .int)) ({ frames := 0, cells := 0, slots := 0, locals := 0 }) (PRE (dC, dI) cls [] [(h_td, .inr (5, [(v_td 0), (v_td 1), (v_td 2), (v_td 3), (v_td 4), (v_td 5), (v_td 6), (v_td 7), (v_td 8), .int 0]))] sz [.ref h_td]) (va_Qi (fun (r : Int32) (_ : Unit) => r = 0) (fun (u : Unit) (t : State) => va_P (dC, dI) cls [(h_td, .inr (5, [(v_td 0), (v_td 1), (v_td 2), (v_td 3), (v_td 4), (v_td 5), (v_td 6), (v_td 7), (v_td 8), .int 0]))] t.heap ∧ va_K (dC, dI) cls [] t ∧ va_D (va_A [(h_td, .inr (5, [(v_td 0), (v_td 1), (v_td 2), (v_td 3), (v_td 4), (v_td 5), (v_td 6), (v_td 7), (v_td 8), .int 0]))] sz) [(h_td, .inr (5, [(v_td 0), (v_td 1), (v_td 2), (v_td 3), (v_td 4), (v_td 5), (v_td 6), (v_td 7), (v_td 8), .int 0]))]) (va_A [(h_td, .inr (5, [(v_td 0), (v_td 1), (v_td 2), (v_td 3), (v_td 4), (v_td 5), (v_td 6), (v_td 7), (v_td 8), .int 0]))] sz)) 0 0 (va_A [(h_td, .inr (5, [(v_td 0), (v_td 1), (v_td 2), (v_td 3), (v_td 4), (v_td 5), (v_td 6), (v_td 7), (v_td 8), .int 0]))] sz) := by
  refine Met.ofW (cc := cX8_all) (maxL := 1) (ret := (some .int)) (by decide) rfl ?_
  intro p e s m args below meth c s₁ B hml hv
  obtain ⟨rfl, hsz, hP, hK, hD0, hN⟩ := hv
  have hx := B.exec
  have hb := B.bytes
  have hr := B.returns
  have hts := atoms_spec (ws := Ws yX8_all cX8_all 1 (some .int)) B.pre
  have hT : ∀ w ∈ WALL, w ∈ Ws yX8_all cX8_all 1 (some .int) := fun w h => List.mem_cons_of_mem _ h
  have hw := fun w (h : w ∈ WALL) => hts w (hT w h)
  have hown : s.vm.findClass RX8 = some m.cls := findClass_of_methodNamed B.named
  have hlocks := B.notSynchronized
  subst hsz
  have hD := hD0.self (sz := s.heap.size)
  generalize hAe : va_A [(h_td, .inr (5, [(v_td 0), (v_td 1), (v_td 2), (v_td 3), (v_td 4), (v_td 5), (v_td 6), (v_td 7), (v_td 8), .int 0]))] s.heap.size = A at hD ⊢
  have hA : ∀ q : Nat, s.heap.size ≤ q → A q := fun q h => by rw [← hAe]; exact Or.inr h
  have hS : va_S A s.heap s.heap [] := va_S.rf
  have hl := lv_entry ([.ref h_td]) (n := 1) (Nat.le_of_ble_eq_true rfl)
  rw [lg_entry_eq]
  generalize (lg_sl ([.ref h_td]) ++ List.replicate (1 - (lg_sl ([.ref h_td])).length) Slot.unset).toArray = ls at hl ⊢
  have hl : lv_has ls 1 [(0, .ref h_td)] := hl
  refine lv_iconst (v := 1) hx hb dX8_all_0 (by decide) ?_
  refine lv_aload_n hx hb dX8_all_1 rfl (lv_at hl 0 rfl) ?_
  refine va_get (D := (dC, dI)) (ci := 5) (v := .int 0) (C := RX8) (T := TX8) (N := 10) hx hb hw iwX8 hown hK hP 0 rfl rfl 9 (by decide) (hw _ w_f_X8_41) (fun _ h9 => h9) rfl dX8_all_2 ?_
  refine lv_ishl hx hb dX8_all_5 ?_
  refine lv_topi (fun z1 ez1 => ?_)
  obtain rfl : z1 = 1 := ez1.trans (by decide)
  refine lv_iconst (v := 1) hx hb dX8_all_6 (by decide) ?_
  refine lv_isub hx hb dX8_all_7 ?_
  refine lv_topi (fun z2 ez2 => ?_)
  obtain rfl : z2 = 0 := ez2.trans (by decide)
  refine W.widen (k := 0) (n := 0) (Nat.le_of_ble_eq_true rfl) (Nat.le_of_ble_eq_true rfl) ?_
  have hK9 := hK.sub (tys' := []) [] rfl
  exact W.iret (v := 0) hx hb hr (fun t ht hW => ⟨⟨0, (), rfl, rfl, by rw [ht]; exact hP, va_K.moved hW.alike hK9, hD⟩, hS.F ht⟩) hS.2.2 dX8_all_8

set_option maxHeartbeats 4000000 in
set_option maxRecDepth 100000 in
theorem c_X8_countLiterals (l : Launch) (dC : Nat → ClassId) (dI : Nat → Nat → Nat) (sz : Nat) (h_td : Nat) (v_td : Nat → Value) : Met l yX8_countLiterals (Ws yX8_countLiterals cX8_countLiterals 3 (some .int)) ({ frames := 0, cells := 0, slots := 0, locals := 0 }) (PRE (dC, dI) cls [] [(h_td, .inr (5, [(v_td 0), (v_td 1), (v_td 2), (v_td 3), (v_td 4), (v_td 5), (v_td 6), (v_td 7), (v_td 8), .int 0]))] sz [.ref h_td]) (va_Qi (fun (r : Int32) (_ : Unit) => r = 0) (fun (_ : Unit) (_ : State) => True) (va_A [(h_td, .inr (5, [(v_td 0), (v_td 1), (v_td 2), (v_td 3), (v_td 4), (v_td 5), (v_td 6), (v_td 7), (v_td 8), .int 0]))] sz)) 0 0 (va_A [(h_td, .inr (5, [(v_td 0), (v_td 1), (v_td 2), (v_td 3), (v_td 4), (v_td 5), (v_td 6), (v_td 7), (v_td 8), .int 0]))] sz) := by
  refine Met.ofW (cc := cX8_countLiterals) (maxL := 3) (ret := (some .int)) (by decide) rfl ?_
  intro p e s m args below meth c s₁ B hml hv
  obtain ⟨rfl, hsz, hP, hK, hD0, hN⟩ := hv
  have hx := B.exec
  have hb := B.bytes
  have hr := B.returns
  have hts := atoms_spec (ws := Ws yX8_countLiterals cX8_countLiterals 3 (some .int)) B.pre
  have hT : ∀ w ∈ WALL, w ∈ Ws yX8_countLiterals cX8_countLiterals 3 (some .int) := fun w h => List.mem_cons_of_mem _ h
  have hw := fun w (h : w ∈ WALL) => hts w (hT w h)
  have hown : s.vm.findClass RX8 = some m.cls := findClass_of_methodNamed B.named
  have hlocks := B.notSynchronized
  subst hsz
  have hD := hD0.self (sz := s.heap.size)
  generalize hAe : va_A [(h_td, .inr (5, [(v_td 0), (v_td 1), (v_td 2), (v_td 3), (v_td 4), (v_td 5), (v_td 6), (v_td 7), (v_td 8), .int 0]))] s.heap.size = A at hD ⊢
  have hA : ∀ q : Nat, s.heap.size ≤ q → A q := fun q h => by rw [← hAe]; exact Or.inr h
  have hS : va_S A s.heap s.heap [] := va_S.rf
  have hl := lv_entry ([.ref h_td]) (n := 3) (Nat.le_of_ble_eq_true rfl)
  rw [lg_entry_eq]
  generalize (lg_sl ([.ref h_td]) ++ List.replicate (3 - (lg_sl ([.ref h_td])).length) Slot.unset).toArray = ls at hl ⊢
  have hl : lv_has ls 3 [(0, .ref h_td)] := hl
  refine lv_iconst (v := 0) hx hb dX8_countLiterals_0 (by decide) ?_
  refine lv_istore_n (lv' := [(1, .int 0), (0, .ref h_td)]) hx hb dX8_countLiterals_1 rfl hl (by decide) rfl (fun ls hl => ?_)
  refine lv_iconst (v := 0) hx hb dX8_countLiterals_2 (by decide) ?_
  refine lv_istore_n (lv' := [(2, .int 0), (1, .int 0), (0, .ref h_td)]) hx hb dX8_countLiterals_3 rfl hl (by decide) rfl (fun ls hl => ?_)
  refine lv_iload_n hx hb dX8_countLiterals_4 rfl (lv_at hl 0 rfl) ?_
  refine lv_aload_n hx hb dX8_countLiterals_5 rfl (lv_at hl 2 rfl) ?_
  refine va_get (D := (dC, dI)) (ci := 5) (v := .int 0) (C := RX8) (T := TX8) (N := 10) hx hb hw iwX8 hown hK hP 0 rfl rfl 9 (by decide) (hw _ w_f_X8_41) (fun _ h9 => h9) rfl dX8_countLiterals_6 ?_
  refine lv_icmp_ge (tgt := 27) hx hb dX8_countLiterals_9 (by decide) (fun _ => ?_) (fun c9 => absurd c9 (by decide))
  refine lv_iload_n hx hb dX8_countLiterals_27 rfl (lv_at hl 1 rfl) ?_
  refine W.widen (k := 0) (n := 0) (Nat.le_of_ble_eq_true rfl) (Nat.le_of_ble_eq_true rfl) ?_
  exact W.iret (v := 0) hx hb hr (fun t ht hW => ⟨⟨0, (), rfl, rfl, trivial⟩, hS.F ht⟩) hS.2.2 dX8_countLiterals_28

set_option maxHeartbeats 4000000 in
set_option maxRecDepth 100000 in
theorem c_X8_countNames (l : Launch) (dC : Nat → ClassId) (dI : Nat → Nat → Nat) (sz : Nat) (h_td : Nat) (v_td : Nat → Value) : Met l yX8_countNames (Ws yX8_countNames cX8_countNames 4 (some .int)) ({ frames := 0, cells := 0, slots := 0, locals := 0 }) (PRE (dC, dI) cls [] [(h_td, .inr (5, [(v_td 0), (v_td 1), (v_td 2), (v_td 3), (v_td 4), (v_td 5), (v_td 6), (v_td 7), (v_td 8), .int 0]))] sz [.ref h_td]) (va_Qi (fun (r : Int32) (_ : Unit) => r = 0) (fun (_ : Unit) (_ : State) => True) (va_A [(h_td, .inr (5, [(v_td 0), (v_td 1), (v_td 2), (v_td 3), (v_td 4), (v_td 5), (v_td 6), (v_td 7), (v_td 8), .int 0]))] sz)) 0 0 (va_A [(h_td, .inr (5, [(v_td 0), (v_td 1), (v_td 2), (v_td 3), (v_td 4), (v_td 5), (v_td 6), (v_td 7), (v_td 8), .int 0]))] sz) := by
  refine Met.ofW (cc := cX8_countNames) (maxL := 4) (ret := (some .int)) (by decide) rfl ?_
  intro p e s m args below meth c s₁ B hml hv
  obtain ⟨rfl, hsz, hP, hK, hD0, hN⟩ := hv
  have hx := B.exec
  have hb := B.bytes
  have hr := B.returns
  have hts := atoms_spec (ws := Ws yX8_countNames cX8_countNames 4 (some .int)) B.pre
  have hT : ∀ w ∈ WALL, w ∈ Ws yX8_countNames cX8_countNames 4 (some .int) := fun w h => List.mem_cons_of_mem _ h
  have hw := fun w (h : w ∈ WALL) => hts w (hT w h)
  have hown : s.vm.findClass RX8 = some m.cls := findClass_of_methodNamed B.named
  have hlocks := B.notSynchronized
  subst hsz
  have hD := hD0.self (sz := s.heap.size)
  generalize hAe : va_A [(h_td, .inr (5, [(v_td 0), (v_td 1), (v_td 2), (v_td 3), (v_td 4), (v_td 5), (v_td 6), (v_td 7), (v_td 8), .int 0]))] s.heap.size = A at hD ⊢
  have hA : ∀ q : Nat, s.heap.size ≤ q → A q := fun q h => by rw [← hAe]; exact Or.inr h
  have hS : va_S A s.heap s.heap [] := va_S.rf
  have hl := lv_entry ([.ref h_td]) (n := 4) (Nat.le_of_ble_eq_true rfl)
  rw [lg_entry_eq]
  generalize (lg_sl ([.ref h_td]) ++ List.replicate (4 - (lg_sl ([.ref h_td])).length) Slot.unset).toArray = ls at hl ⊢
  have hl : lv_has ls 4 [(0, .ref h_td)] := hl
  refine lv_iconst (v := 0) hx hb dX8_countNames_0 (by decide) ?_
  refine lv_istore_n (lv' := [(1, .int 0), (0, .ref h_td)]) hx hb dX8_countNames_1 rfl hl (by decide) rfl (fun ls hl => ?_)
  refine lv_iconst (v := 0) hx hb dX8_countNames_2 (by decide) ?_
  refine lv_istore_n (lv' := [(2, .int 0), (1, .int 0), (0, .ref h_td)]) hx hb dX8_countNames_3 rfl hl (by decide) rfl (fun ls hl => ?_)
  refine lv_iload_n hx hb dX8_countNames_4 rfl (lv_at hl 0 rfl) ?_
  refine lv_aload_n hx hb dX8_countNames_5 rfl (lv_at hl 2 rfl) ?_
  refine va_get (D := (dC, dI)) (ci := 5) (v := .int 0) (C := RX8) (T := TX8) (N := 10) hx hb hw iwX8 hown hK hP 0 rfl rfl 9 (by decide) (hw _ w_f_X8_41) (fun _ h9 => h9) rfl dX8_countNames_6 ?_
  refine lv_icmp_ge (tgt := 53) hx hb dX8_countNames_9 (by decide) (fun _ => ?_) (fun c9 => absurd c9 (by decide))
  refine lv_iload_n hx hb dX8_countNames_53 rfl (lv_at hl 1 rfl) ?_
  refine W.widen (k := 0) (n := 0) (Nat.le_of_ble_eq_true rfl) (Nat.le_of_ble_eq_true rfl) ?_
  exact W.iret (v := 0) hx hb hr (fun t ht hW => ⟨⟨0, (), rfl, rfl, trivial⟩, hS.F ht⟩) hS.2.2 dX8_countNames_54

set_option maxHeartbeats 4000000 in
set_option maxRecDepth 100000 in
theorem c_X4_countSteps (l : Launch) (dC : Nat → ClassId) (dI : Nat → Nat → Nat) (sz : Nat) (h_pv : Nat) (v_pv : Nat → Value) (p1 : Int32) : Met l yX4_countSteps (Ws yX4_countSteps cX4_countSteps 4 (some .int)) ({ frames := 0, cells := 0, slots := 0, locals := 0 }) (PRE (dC, dI) cls [] [(h_pv, .inr (3, [(v_pv 0), (v_pv 1), (v_pv 2), (v_pv 3), (v_pv 4), (v_pv 5), (v_pv 6), .int 0, (v_pv 8), .int 0, (v_pv 10), (v_pv 11), .int 0, .int 0, .int 0, .int 0, (v_pv 16), .int 0]))] sz [.ref h_pv, .int p1]) (va_Qi (fun (r : Int32) (_ : Unit) => r = 0) (fun (_ : Unit) (_ : State) => True) (va_A [(h_pv, .inr (3, [(v_pv 0), (v_pv 1), (v_pv 2), (v_pv 3), (v_pv 4), (v_pv 5), (v_pv 6), .int 0, (v_pv 8), .int 0, (v_pv 10), (v_pv 11), .int 0, .int 0, .int 0, .int 0, (v_pv 16), .int 0]))] sz)) 0 0 (va_A [(h_pv, .inr (3, [(v_pv 0), (v_pv 1), (v_pv 2), (v_pv 3), (v_pv 4), (v_pv 5), (v_pv 6), .int 0, (v_pv 8), .int 0, (v_pv 10), (v_pv 11), .int 0, .int 0, .int 0, .int 0, (v_pv 16), .int 0]))] sz) := by
  refine Met.ofW (cc := cX4_countSteps) (maxL := 4) (ret := (some .int)) (by decide) rfl ?_
  intro p e s m args below meth c s₁ B hml hv
  obtain ⟨rfl, hsz, hP, hK, hD0, hN⟩ := hv
  have hx := B.exec
  have hb := B.bytes
  have hr := B.returns
  have hts := atoms_spec (ws := Ws yX4_countSteps cX4_countSteps 4 (some .int)) B.pre
  have hT : ∀ w ∈ WALL, w ∈ Ws yX4_countSteps cX4_countSteps 4 (some .int) := fun w h => List.mem_cons_of_mem _ h
  have hw := fun w (h : w ∈ WALL) => hts w (hT w h)
  have hown : s.vm.findClass RX4 = some m.cls := findClass_of_methodNamed B.named
  have hlocks := B.notSynchronized
  subst hsz
  have hD := hD0.self (sz := s.heap.size)
  generalize hAe : va_A [(h_pv, .inr (3, [(v_pv 0), (v_pv 1), (v_pv 2), (v_pv 3), (v_pv 4), (v_pv 5), (v_pv 6), .int 0, (v_pv 8), .int 0, (v_pv 10), (v_pv 11), .int 0, .int 0, .int 0, .int 0, (v_pv 16), .int 0]))] s.heap.size = A at hD ⊢
  have hA : ∀ q : Nat, s.heap.size ≤ q → A q := fun q h => by rw [← hAe]; exact Or.inr h
  have hS : va_S A s.heap s.heap [] := va_S.rf
  have hl := lv_entry ([.ref h_pv, .int p1]) (n := 4) (Nat.le_of_ble_eq_true rfl)
  rw [lg_entry_eq]
  generalize (lg_sl ([.ref h_pv, .int p1]) ++ List.replicate (4 - (lg_sl ([.ref h_pv, .int p1])).length) Slot.unset).toArray = ls at hl ⊢
  have hl : lv_has ls 4 [(0, .ref h_pv), (1, .int p1)] := hl
  refine lv_iconst (v := 0) hx hb dX4_countSteps_0 (by decide) ?_
  refine lv_istore_n (lv' := [(2, .int 0), (0, .ref h_pv), (1, .int p1)]) hx hb dX4_countSteps_1 rfl hl (by decide) rfl (fun ls hl => ?_)
  refine lv_iconst (v := 0) hx hb dX4_countSteps_2 (by decide) ?_
  refine lv_istore_n (lv' := [(3, .int 0), (2, .int 0), (0, .ref h_pv), (1, .int p1)]) hx hb dX4_countSteps_3 rfl hl (by decide) rfl (fun ls hl => ?_)
  refine lv_aload_n hx hb dX4_countSteps_4 rfl (lv_at hl 2 rfl) ?_
  refine va_get (D := (dC, dI)) (ci := 3) (v := .int 0) (C := RX4) (T := TX4) (N := 18) hx hb hw iwX4 hown hK hP 0 rfl rfl 17 (by decide) (hw _ w_f_X4_41) (fun _ h9 => h9) rfl dX4_countSteps_5 ?_
  refine lv_if_eq (tgt := 46) hx hb dX4_countSteps_8 (by decide) (fun _ => ?_) (fun c9 => absurd c9 (by decide))
  refine lv_iload_n hx hb dX4_countSteps_46 rfl (lv_at hl 1 rfl) ?_
  refine W.widen (k := 0) (n := 0) (Nat.le_of_ble_eq_true rfl) (Nat.le_of_ble_eq_true rfl) ?_
  exact W.iret (v := 0) hx hb hr (fun t ht hW => ⟨⟨0, (), rfl, rfl, trivial⟩, hS.F ht⟩) hS.2.2 dX4_countSteps_47

set_option maxHeartbeats 4000000 in
set_option maxRecDepth 100000 in
theorem c_X10_isInstance (l : Launch) (dC : Nat → ClassId) (dI : Nat → Nat → Nat) (sz : Nat) (h_xx : Nat) (h_pv : Nat) (v_xx : Nat → Value) (v_pv : Nat → Value) (p1 : Int32) : Met l yX10_isInstance (Ws yX10_isInstance cX10_isInstance 2 (some .boolean)) ({ frames := 0, cells := 0, slots := 0, locals := 0 }) (PRE (dC, dI) cls [] [(h_xx, .inr (7, [(v_xx 0), (v_xx 1), (v_xx 2), (v_xx 3), (v_xx 4), .ref h_pv, (v_xx 6), (v_xx 7)])), (h_pv, .inr (3, [(v_pv 0), (v_pv 1), (v_pv 2), (v_pv 3), (v_pv 4), (v_pv 5), (v_pv 6), .int 0, (v_pv 8), .int 0, (v_pv 10), (v_pv 11), .int 0, .int 0, .int 0, .int 0, (v_pv 16), .int 0]))] sz [.ref h_xx, .int p1]) (va_Qi (fun (r : Int32) (_ : Unit) => r = 0) (fun (_ : Unit) (_ : State) => True) (va_A [(h_xx, .inr (7, [(v_xx 0), (v_xx 1), (v_xx 2), (v_xx 3), (v_xx 4), .ref h_pv, (v_xx 6), (v_xx 7)])), (h_pv, .inr (3, [(v_pv 0), (v_pv 1), (v_pv 2), (v_pv 3), (v_pv 4), (v_pv 5), (v_pv 6), .int 0, (v_pv 8), .int 0, (v_pv 10), (v_pv 11), .int 0, .int 0, .int 0, .int 0, (v_pv 16), .int 0]))] sz)) 0 0 (va_A [(h_xx, .inr (7, [(v_xx 0), (v_xx 1), (v_xx 2), (v_xx 3), (v_xx 4), .ref h_pv, (v_xx 6), (v_xx 7)])), (h_pv, .inr (3, [(v_pv 0), (v_pv 1), (v_pv 2), (v_pv 3), (v_pv 4), (v_pv 5), (v_pv 6), .int 0, (v_pv 8), .int 0, (v_pv 10), (v_pv 11), .int 0, .int 0, .int 0, .int 0, (v_pv 16), .int 0]))] sz) := by
  refine Met.ofW (cc := cX10_isInstance) (maxL := 2) (ret := (some .boolean)) (by decide) rfl ?_
  intro p e s m args below meth c s₁ B hml hv
  obtain ⟨rfl, hsz, hP, hK, hD0, hN⟩ := hv
  have hx := B.exec
  have hb := B.bytes
  have hr := B.returns
  have hts := atoms_spec (ws := Ws yX10_isInstance cX10_isInstance 2 (some .boolean)) B.pre
  have hT : ∀ w ∈ WALL, w ∈ Ws yX10_isInstance cX10_isInstance 2 (some .boolean) := fun w h => List.mem_cons_of_mem _ h
  have hw := fun w (h : w ∈ WALL) => hts w (hT w h)
  have hown : s.vm.findClass RX10 = some m.cls := findClass_of_methodNamed B.named
  have hlocks := B.notSynchronized
  subst hsz
  have hD := hD0.self (sz := s.heap.size)
  generalize hAe : va_A [(h_xx, .inr (7, [(v_xx 0), (v_xx 1), (v_xx 2), (v_xx 3), (v_xx 4), .ref h_pv, (v_xx 6), (v_xx 7)])), (h_pv, .inr (3, [(v_pv 0), (v_pv 1), (v_pv 2), (v_pv 3), (v_pv 4), (v_pv 5), (v_pv 6), .int 0, (v_pv 8), .int 0, (v_pv 10), (v_pv 11), .int 0, .int 0, .int 0, .int 0, (v_pv 16), .int 0]))] s.heap.size = A at hD ⊢
  have hA : ∀ q : Nat, s.heap.size ≤ q → A q := fun q h => by rw [← hAe]; exact Or.inr h
  have hS : va_S A s.heap s.heap [] := va_S.rf
  have hl := lv_entry ([.ref h_xx, .int p1]) (n := 2) (Nat.le_of_ble_eq_true rfl)
  rw [lg_entry_eq]
  generalize (lg_sl ([.ref h_xx, .int p1]) ++ List.replicate (2 - (lg_sl ([.ref h_xx, .int p1])).length) Slot.unset).toArray = ls at hl ⊢
  have hl : lv_has ls 2 [(0, .ref h_xx), (1, .int p1)] := hl
  refine lv_aload_n hx hb dX10_isInstance_0 rfl (lv_at hl 0 rfl) ?_
  refine va_get (D := (dC, dI)) (ci := 7) (v := .ref h_pv) (C := RX10) (T := TX10) (N := 8) hx hb hw iwX10 hown hK hP 0 rfl rfl 5 (by decide) (hw _ w_f_X10_47) (fun _ h9 => h9) rfl dX10_isInstance_1 ?_
  refine va_getN (D := (dC, dI)) (ci := 3) (v := .int 0) (C := RX4) (T := TX4) (N := 18) (host := "OppositePairs") hx hb hw iwX4 hown hK hP 1 rfl rfl 17 (by decide) (hN.use n_f_X10_175 rfl) (fun _ h9 => h9) rfl dX10_isInstance_4 ?_
  refine lv_if_eq (tgt := 29) hx hb dX10_isInstance_7 (by decide) (fun _ => ?_) (fun c9 => absurd c9 (by decide))
  refine lv_iconst (v := 0) hx hb dX10_isInstance_29 (by decide) ?_
  refine W.widen (k := 0) (n := 0) (Nat.le_of_ble_eq_true rfl) (Nat.le_of_ble_eq_true rfl) ?_
  exact W.zret (v := 0) (ty := .boolean) hx hb hr (by decide) (fun t ht hW => ⟨⟨0, (), rfl, rfl, trivial⟩, hS.F ht⟩) hS.2.2 dX10_isInstance_30

set_option maxHeartbeats 4000000 in
set_option maxRecDepth 100000 in
theorem c_X10_canBe (l : Launch) (dC : Nat → ClassId) (dI : Nat → Nat → Nat) (sz : Nat) (p1 : Int32) (p2 : Int32) : Met l yX10_canBe (Ws yX10_canBe cX10_canBe 2 (some .boolean)) ({ frames := 0, cells := 0, slots := 0, locals := 0 }) (PRE (dC, dI) cls [] [] sz [.int p1, .int p2]) (va_Qi (fun (r : Int32) (_ : Unit) => (r = 1 ∧ (0 ≤ p1.toInt ∧ p1.toInt ≤ 20 ∧ 0 ≤ p2.toInt ∧ p2.toInt ≤ 7)) ∨ (r = 0 ∧ ¬ (0 ≤ p1.toInt ∧ p1.toInt ≤ 20 ∧ 0 ≤ p2.toInt ∧ p2.toInt ≤ 7))) (fun (_ : Unit) (_ : State) => True) (va_A [] sz)) 0 0 (va_A [] sz) := by
  refine Met.ofW (cc := cX10_canBe) (maxL := 2) (ret := (some .boolean)) (by decide) rfl ?_
  intro p e s m args below meth c s₁ B hml hv
  obtain ⟨rfl, hsz, hP, hK, hD0, hN⟩ := hv
  have hx := B.exec
  have hb := B.bytes
  have hr := B.returns
  have hts := atoms_spec (ws := Ws yX10_canBe cX10_canBe 2 (some .boolean)) B.pre
  have hT : ∀ w ∈ WALL, w ∈ Ws yX10_canBe cX10_canBe 2 (some .boolean) := fun w h => List.mem_cons_of_mem _ h
  have hw := fun w (h : w ∈ WALL) => hts w (hT w h)
  have hown : s.vm.findClass RX10 = some m.cls := findClass_of_methodNamed B.named
  have hlocks := B.notSynchronized
  subst hsz
  have hD := hD0.self (sz := s.heap.size)
  generalize hAe : va_A [] s.heap.size = A at hD ⊢
  have hA : ∀ q : Nat, s.heap.size ≤ q → A q := fun q h => by rw [← hAe]; exact Or.inr h
  have hS : va_S A s.heap s.heap [] := va_S.rf
  have hl := lv_entry ([.int p1, .int p2]) (n := 2) (Nat.le_of_ble_eq_true rfl)
  rw [lg_entry_eq]
  generalize (lg_sl ([.int p1, .int p2]) ++ List.replicate (2 - (lg_sl ([.int p1, .int p2])).length) Slot.unset).toArray = ls at hl ⊢
  have hl : lv_has ls 2 [(0, .int p1), (1, .int p2)] := hl
  refine lv_iload_n hx hb dX10_canBe_0 rfl (lv_at hl 0 rfl) ?_
  refine lv_if_lt (tgt := 24) hx hb dX10_canBe_1 (by decide) (fun c1 => ?_) (fun c1 => ?_)
  · have kc1 := (cv_lt (rfl : (p1).toInt = (p1).toInt) (by decide : (0 : Int32).toInt = 0)).mp c1
    refine lv_iconst (v := 0) hx hb dX10_canBe_24 (by decide) ?_
    refine W.widen (k := 0) (n := 0) (Nat.le_of_ble_eq_true rfl) (Nat.le_of_ble_eq_true rfl) ?_
    exact W.zret (v := 0) (ty := .boolean) hx hb hr (by decide) (fun t ht hW => ⟨⟨0, (), rfl, (Or.inr ⟨rfl, by omega⟩), trivial⟩, hS.F ht⟩) hS.2.2 dX10_canBe_25
  · have kc1 := (not_congr (cv_lt (rfl : (p1).toInt = (p1).toInt) (by decide : (0 : Int32).toInt = 0))).mp c1
    refine lv_iload_n hx hb dX10_canBe_4 rfl (lv_at hl 0 rfl) ?_
    refine lv_bipush (v := 20) hx hb dX10_canBe_5 (by decide) ?_
    refine lv_icmp_gt (tgt := 24) hx hb dX10_canBe_7 (by decide) (fun c2 => ?_) (fun c2 => ?_)
    · have kc2 := (cv_lt (by decide : (20 : Int32).toInt = 20) (rfl : (p1).toInt = (p1).toInt)).mp c2
      refine lv_iconst (v := 0) hx hb dX10_canBe_24 (by decide) ?_
      refine W.widen (k := 0) (n := 0) (Nat.le_of_ble_eq_true rfl) (Nat.le_of_ble_eq_true rfl) ?_
      exact W.zret (v := 0) (ty := .boolean) hx hb hr (by decide) (fun t ht hW => ⟨⟨0, (), rfl, (Or.inr ⟨rfl, by omega⟩), trivial⟩, hS.F ht⟩) hS.2.2 dX10_canBe_25
    · have kc2 := (not_congr (cv_lt (by decide : (20 : Int32).toInt = 20) (rfl : (p1).toInt = (p1).toInt))).mp c2
      refine lv_iload_n hx hb dX10_canBe_10 rfl (lv_at hl 1 rfl) ?_
      refine lv_if_lt (tgt := 24) hx hb dX10_canBe_11 (by decide) (fun c3 => ?_) (fun c3 => ?_)
      · have kc3 := (cv_lt (rfl : (p2).toInt = (p2).toInt) (by decide : (0 : Int32).toInt = 0)).mp c3
        refine lv_iconst (v := 0) hx hb dX10_canBe_24 (by decide) ?_
        refine W.widen (k := 0) (n := 0) (Nat.le_of_ble_eq_true rfl) (Nat.le_of_ble_eq_true rfl) ?_
        exact W.zret (v := 0) (ty := .boolean) hx hb hr (by decide) (fun t ht hW => ⟨⟨0, (), rfl, (Or.inr ⟨rfl, by omega⟩), trivial⟩, hS.F ht⟩) hS.2.2 dX10_canBe_25
      · have kc3 := (not_congr (cv_lt (rfl : (p2).toInt = (p2).toInt) (by decide : (0 : Int32).toInt = 0))).mp c3
        refine lv_iload_n hx hb dX10_canBe_14 rfl (lv_at hl 1 rfl) ?_
        refine lv_bipush (v := 7) hx hb dX10_canBe_15 (by decide) ?_
        refine lv_icmp_gt (tgt := 24) hx hb dX10_canBe_17 (by decide) (fun c4 => ?_) (fun c4 => ?_)
        · have kc4 := (cv_lt (by decide : (7 : Int32).toInt = 7) (rfl : (p2).toInt = (p2).toInt)).mp c4
          refine lv_iconst (v := 0) hx hb dX10_canBe_24 (by decide) ?_
          refine W.widen (k := 0) (n := 0) (Nat.le_of_ble_eq_true rfl) (Nat.le_of_ble_eq_true rfl) ?_
          exact W.zret (v := 0) (ty := .boolean) hx hb hr (by decide) (fun t ht hW => ⟨⟨0, (), rfl, (Or.inr ⟨rfl, by omega⟩), trivial⟩, hS.F ht⟩) hS.2.2 dX10_canBe_25
        · have kc4 := (not_congr (cv_lt (by decide : (7 : Int32).toInt = 7) (rfl : (p2).toInt = (p2).toInt))).mp c4
          refine lv_iconst (v := 1) hx hb dX10_canBe_20 (by decide) ?_
          refine lv_goto (tgt := 25) hx hb dX10_canBe_21 (by decide) ?_
          refine W.widen (k := 0) (n := 0) (Nat.le_of_ble_eq_true rfl) (Nat.le_of_ble_eq_true rfl) ?_
          exact W.zret (v := 1) (ty := .boolean) hx hb hr (by decide) (fun t ht hW => ⟨⟨1, (), rfl, (Or.inl ⟨rfl, by omega⟩), trivial⟩, hS.F ht⟩) hS.2.2 dX10_canBe_25
end
section
set_option maxHeartbeats 4000000 in
set_option maxRecDepth 100000 in
theorem c_X10_feed (l : Launch) (dC : Nat → ClassId) (dI : Nat → Nat → Nat) (sz : Nat) (h_xx : Nat) (h_rd : Nat) (h_by : Nat) (v_xx : Nat → Value) (v_rd : Nat → Value) (cy_by : ClassId) (f_by : Nat → Int32) (p1 : Int32) (p2 : Int32) (p3 : Int32) (p4 : Int32) (p5 : Int32) : Met l yX10_feed (Ws yX10_feed cX10_feed 6 (some .int)) ({ frames := 1, cells := 0, slots := 0, locals := 22 }) (PRE (dC, dI) cls [(cy_by, .int)] [(h_xx, .inr (7, [.ref h_rd, (v_xx 1), (v_xx 2), (v_xx 3), (v_xx 4), (v_xx 5), (v_xx 6), (v_xx 7)])), (h_rd, .inr (4, [.ref h_by, .int 0, .int 0, .int (-1), (v_rd 4), (v_rd 5), (v_rd 6), (v_rd 7), (v_rd 8), (v_rd 9), (v_rd 10)])), (h_by, .inl (cy_by, 600, .inl f_by))] sz [.ref h_xx, .int p1, .int p2, .int p3, .int p4, .int p5]) (va_Qi (fun (r : Int32) (_ : Unit) => r = 20) (fun (_ : Unit) (_ : State) => True) (va_A [(h_xx, .inr (7, [.ref h_rd, (v_xx 1), (v_xx 2), (v_xx 3), (v_xx 4), (v_xx 5), (v_xx 6), (v_xx 7)])), (h_rd, .inr (4, [.ref h_by, .int 0, .int 0, .int (-1), (v_rd 4), (v_rd 5), (v_rd 6), (v_rd 7), (v_rd 8), (v_rd 9), (v_rd 10)])), (h_by, .inl (cy_by, 600, .inl f_by))] sz)) 0 0 (va_A [(h_xx, .inr (7, [.ref h_rd, (v_xx 1), (v_xx 2), (v_xx 3), (v_xx 4), (v_xx 5), (v_xx 6), (v_xx 7)])), (h_rd, .inr (4, [.ref h_by, .int 0, .int 0, .int (-1), (v_rd 4), (v_rd 5), (v_rd 6), (v_rd 7), (v_rd 8), (v_rd 9), (v_rd 10)])), (h_by, .inl (cy_by, 600, .inl f_by))] sz) := by
  refine Met.ofW (cc := cX10_feed) (maxL := 6) (ret := (some .int)) (by decide) rfl ?_
  intro p e s m args below meth c s₁ B hml hv
  obtain ⟨rfl, hsz, hP, hK, hD0, hN⟩ := hv
  have hx := B.exec
  have hb := B.bytes
  have hr := B.returns
  have hts := atoms_spec (ws := Ws yX10_feed cX10_feed 6 (some .int)) B.pre
  have hT : ∀ w ∈ WALL, w ∈ Ws yX10_feed cX10_feed 6 (some .int) := fun w h => List.mem_cons_of_mem _ h
  have hw := fun w (h : w ∈ WALL) => hts w (hT w h)
  have hown : s.vm.findClass RX10 = some m.cls := findClass_of_methodNamed B.named
  have hlocks := B.notSynchronized
  subst hsz
  have hD := hD0.self (sz := s.heap.size)
  generalize hAe : va_A [(h_xx, .inr (7, [.ref h_rd, (v_xx 1), (v_xx 2), (v_xx 3), (v_xx 4), (v_xx 5), (v_xx 6), (v_xx 7)])), (h_rd, .inr (4, [.ref h_by, .int 0, .int 0, .int (-1), (v_rd 4), (v_rd 5), (v_rd 6), (v_rd 7), (v_rd 8), (v_rd 9), (v_rd 10)])), (h_by, .inl (cy_by, 600, .inl f_by))] s.heap.size = A at hD ⊢
  have hA : ∀ q : Nat, s.heap.size ≤ q → A q := fun q h => by rw [← hAe]; exact Or.inr h
  have hS : va_S A s.heap s.heap [] := va_S.rf
  have hl := lv_entry ([.ref h_xx, .int p1, .int p2, .int p3, .int p4, .int p5]) (n := 6) (Nat.le_of_ble_eq_true rfl)
  rw [lg_entry_eq]
  generalize (lg_sl ([.ref h_xx, .int p1, .int p2, .int p3, .int p4, .int p5]) ++ List.replicate (6 - (lg_sl ([.ref h_xx, .int p1, .int p2, .int p3, .int p4, .int p5])).length) Slot.unset).toArray = ls at hl ⊢
  have hl : lv_has ls 6 [(0, .ref h_xx), (1, .int p1), (2, .int p2), (3, .int p3), (4, .int p4), (5, .int p5)] := hl
  refine lv_aload_n hx hb dX10_feed_0 rfl (lv_at hl 0 rfl) ?_
  refine va_get (D := (dC, dI)) (ci := 7) (v := .ref h_rd) (C := RX10) (T := TX10) (N := 8) hx hb hw iwX10 hown hK hP 0 rfl rfl 0 (by decide) (hw _ w_f_X10_12) (fun _ h9 => h9) rfl dX10_feed_1 ?_
  refine va_getN (D := (dC, dI)) (ci := 4) (v := .int 0) (C := RX5) (T := TX5) (N := 11) (host := "OppositePairs") hx hb hw iwX5 hown hK hP 1 rfl rfl 1 (by decide) (hN.use n_f_X10_67 rfl) (fun _ h9 => h9) rfl dX10_feed_4 ?_
  refine lv_bipush (v := 20) hx hb dX10_feed_7 (by decide) ?_
  refine lv_iadd hx hb dX10_feed_9 ?_
  refine lv_topi (fun z1 ez1 => ?_)
  obtain rfl : z1 = 20 := ez1.trans (by decide)
  refine lv_sipush (v := 600) hx hb dX10_feed_10 (by decide) ?_
  refine lv_icmp_le (tgt := 18) hx hb dX10_feed_13 (by decide) (fun _ => ?_) (fun c9 => absurd c9 (by decide))
  refine lv_aload_n hx hb dX10_feed_18 rfl (lv_at hl 0 rfl) ?_
  refine va_get (D := (dC, dI)) (ci := 7) (v := .ref h_rd) (C := RX10) (T := TX10) (N := 8) hx hb hw iwX10 hown hK hP 0 rfl rfl 0 (by decide) (hw _ w_f_X10_12) (fun _ h9 => h9) rfl dX10_feed_19 ?_
  refine lv_iload_n hx hb dX10_feed_22 rfl (lv_at hl 1 rfl) ?_
  have hPc := hP.sub (ws' := [(h_rd, .inr (4, [.ref h_by, .int 0, .int 0, .int (-1), (v_rd 4), (v_rd 5), (v_rd 6), (v_rd 7), (v_rd 8), (v_rd 9), (v_rd 10)])), (h_by, .inl (cy_by, 600, .inl f_by))]) [1, 2] rfl
  have hDc := hD.sub (ws' := [(h_rd, .inr (4, [.ref h_by, .int 0, .int 0, .int (-1), (v_rd 4), (v_rd 5), (v_rd 6), (v_rd 7), (v_rd 8), (v_rd 9), (v_rd 10)])), (h_by, .inl (cy_by, 600, .inl f_by))]) [1, 2] (by decide) rfl
  have hKc := hK.sub (tys' := [(cy_by, .int)]) [0] rfl
  have hFc := va_free (wc := [(h_rd, .inr (4, [.ref h_by, .int 0, .int 0, .int (-1), (v_rd 4), (v_rd 5), (v_rd 6), (v_rd 7), (v_rd 8), (v_rd 9), (v_rd 10)])), (h_by, .inl (cy_by, 600, .inl f_by))]) hD hS hA [1, 2] rfl
  refine va_callv (va_runVN (As := [.int p1]) (rest := []) ⟨hx, hb, hml, hown, hts⟩ (c_X5_take_0 l dC dI s.heap.size h_rd h_by (fun k => List.getD [.ref h_by, .int 0, .int 0, .int (-1), (v_rd 4), (v_rd 5), (v_rd 6), (v_rd 7), (v_rd 8), (v_rd 9), (v_rd 10)] k .null) cy_by f_by p1) ⟨va_cnB (host := "OppositePairs") 1 hts (gd hT w_code_X5_take) rfl rfl rfl (hN _ n_m_X10_71) (hw _ w_ini_X5) (by decide +kernel) ⟨(Nat.le_of_ble_eq_true rfl), (Nat.le_of_ble_eq_true rfl)⟩, hw _ w_instanceMethod_X5_take, hw _ ws_sel_X5_take⟩ ⟨pre_blind, va_recv hK hP (ci := 4) (q0 := 1) rfl rfl, pre_of hPc hKc hDc hN⟩ rfl rfl hl.1 rfl (lv_room (Nat.le_of_ble_eq_true rfl)) dX10_feed_23 ⟨(Nat.le_of_ble_eq_true rfl), (Nat.le_of_ble_eq_true rfl)⟩) hS (fun q _ h => hFc q h) hFc (fun u t H locs ht hvm hq hB hz1 hk1 hS => ?_)
  obtain ⟨f3, rfl⟩ : ∃ z, z = u := ⟨_, rfl⟩
  obtain ⟨hP1, hK1, hD1⟩ := hB
  rw [ht] at hP1
  have hK1 := va_K.moved hvm.symm hK1
  obtain ⟨hP, hD⟩ := va_join (wr := [(h_xx, .inr (7, [.ref h_rd, (v_xx 1), (v_xx 2), (v_xx 3), (v_xx 4), (v_xx 5), (v_xx 6), (v_xx 7)]))]) (w1 := [(h_rd, .inr (4, [.ref h_by, .int 4, .int 0, .int (-1), (v_rd 4), (v_rd 5), (v_rd 6), (v_rd 7), (v_rd 8), (v_rd 9), (v_rd 10)])), (h_by, .inl (cy_by, 600, .inl f3))]) hP hD [1, 2] [0] rfl rfl (by decide) (by decide) hk1 hFc hP1 hD1
  have hP : va_P (dC, dI) cls [(h_xx, .inr (7, [.ref h_rd, (v_xx 1), (v_xx 2), (v_xx 3), (v_xx 4), (v_xx 5), (v_xx 6), (v_xx 7)])), (h_rd, .inr (4, [.ref h_by, .int 4, .int 0, .int (-1), (v_rd 4), (v_rd 5), (v_rd 6), (v_rd 7), (v_rd 8), (v_rd 9), (v_rd 10)])), (h_by, .inl (cy_by, 600, .inl f3))] H := hP
  have hD : va_D A [(h_xx, .inr (7, [.ref h_rd, (v_xx 1), (v_xx 2), (v_xx 3), (v_xx 4), (v_xx 5), (v_xx 6), (v_xx 7)])), (h_rd, .inr (4, [.ref h_by, .int 4, .int 0, .int (-1), (v_rd 4), (v_rd 5), (v_rd 6), (v_rd 7), (v_rd 8), (v_rd 9), (v_rd 10)])), (h_by, .inl (cy_by, 600, .inl f3))] := hD
  refine lv_aload_n hx hb dX10_feed_26 rfl (lv_at hl 0 rfl) ?_
  refine va_get (D := (dC, dI)) (ci := 7) (v := .ref h_rd) (C := RX10) (T := TX10) (N := 8) hx hb hw iwX10 hown hK hP 0 rfl rfl 0 (by decide) (hw _ w_f_X10_12) (fun _ h9 => h9) rfl dX10_feed_27 ?_
  refine lv_iload_n hx hb dX10_feed_30 rfl (lv_at hl 2 rfl) ?_
  have hPc := hP.sub (ws' := [(h_rd, .inr (4, [.ref h_by, .int 4, .int 0, .int (-1), (v_rd 4), (v_rd 5), (v_rd 6), (v_rd 7), (v_rd 8), (v_rd 9), (v_rd 10)])), (h_by, .inl (cy_by, 600, .inl f3))]) [1, 2] rfl
  have hDc := hD.sub (ws' := [(h_rd, .inr (4, [.ref h_by, .int 4, .int 0, .int (-1), (v_rd 4), (v_rd 5), (v_rd 6), (v_rd 7), (v_rd 8), (v_rd 9), (v_rd 10)])), (h_by, .inl (cy_by, 600, .inl f3))]) [1, 2] (by decide) rfl
  have hKc := hK.sub (tys' := [(cy_by, .int)]) [0] rfl
  have hFc := va_free (wc := [(h_rd, .inr (4, [.ref h_by, .int 4, .int 0, .int (-1), (v_rd 4), (v_rd 5), (v_rd 6), (v_rd 7), (v_rd 8), (v_rd 9), (v_rd 10)])), (h_by, .inl (cy_by, 600, .inl f3))]) hD hS hA [1, 2] rfl
  refine va_callv (va_runVN (As := [.int p2]) (rest := []) ⟨hx, hb, hml, hown, hts⟩ (c_X5_take_4 l dC dI H.size h_rd h_by (fun k => List.getD [.ref h_by, .int 4, .int 0, .int (-1), (v_rd 4), (v_rd 5), (v_rd 6), (v_rd 7), (v_rd 8), (v_rd 9), (v_rd 10)] k .null) cy_by f3 p2) ⟨va_cnB (host := "OppositePairs") 1 hts (gd hT w_code_X5_take) rfl rfl rfl (hN _ n_m_X10_71) (hw _ w_ini_X5) (by decide +kernel) ⟨(Nat.le_of_ble_eq_true rfl), (Nat.le_of_ble_eq_true rfl)⟩, hw _ w_instanceMethod_X5_take, hw _ ws_sel_X5_take⟩ ⟨pre_blind, va_recv hK hP (ci := 4) (q0 := 1) rfl rfl, pre_of hPc hKc hDc hN⟩ rfl rfl hl.1 rfl (lv_room (Nat.le_of_ble_eq_true rfl)) dX10_feed_31 ⟨(Nat.le_of_ble_eq_true rfl), (Nat.le_of_ble_eq_true rfl)⟩) hS (fun q _ h => hFc q h) hFc (fun u t H locs ht hvm hq hB hz1 hk1 hS => ?_)
  obtain ⟨f5, rfl⟩ : ∃ z, z = u := ⟨_, rfl⟩
  obtain ⟨hP1, hK1, hD1⟩ := hB
  rw [ht] at hP1
  have hK1 := va_K.moved hvm.symm hK1
  obtain ⟨hP, hD⟩ := va_join (wr := [(h_xx, .inr (7, [.ref h_rd, (v_xx 1), (v_xx 2), (v_xx 3), (v_xx 4), (v_xx 5), (v_xx 6), (v_xx 7)]))]) (w1 := [(h_rd, .inr (4, [.ref h_by, .int 8, .int 0, .int (-1), (v_rd 4), (v_rd 5), (v_rd 6), (v_rd 7), (v_rd 8), (v_rd 9), (v_rd 10)])), (h_by, .inl (cy_by, 600, .inl f5))]) hP hD [1, 2] [0] rfl rfl (by decide) (by decide) hk1 hFc hP1 hD1
  have hP : va_P (dC, dI) cls [(h_xx, .inr (7, [.ref h_rd, (v_xx 1), (v_xx 2), (v_xx 3), (v_xx 4), (v_xx 5), (v_xx 6), (v_xx 7)])), (h_rd, .inr (4, [.ref h_by, .int 8, .int 0, .int (-1), (v_rd 4), (v_rd 5), (v_rd 6), (v_rd 7), (v_rd 8), (v_rd 9), (v_rd 10)])), (h_by, .inl (cy_by, 600, .inl f5))] H := hP
  have hD : va_D A [(h_xx, .inr (7, [.ref h_rd, (v_xx 1), (v_xx 2), (v_xx 3), (v_xx 4), (v_xx 5), (v_xx 6), (v_xx 7)])), (h_rd, .inr (4, [.ref h_by, .int 8, .int 0, .int (-1), (v_rd 4), (v_rd 5), (v_rd 6), (v_rd 7), (v_rd 8), (v_rd 9), (v_rd 10)])), (h_by, .inl (cy_by, 600, .inl f5))] := hD
  refine lv_aload_n hx hb dX10_feed_34 rfl (lv_at hl 0 rfl) ?_
  refine va_get (D := (dC, dI)) (ci := 7) (v := .ref h_rd) (C := RX10) (T := TX10) (N := 8) hx hb hw iwX10 hown hK hP 0 rfl rfl 0 (by decide) (hw _ w_f_X10_12) (fun _ h9 => h9) rfl dX10_feed_35 ?_
  refine lv_iload_n hx hb dX10_feed_38 rfl (lv_at hl 3 rfl) ?_
  have hPc := hP.sub (ws' := [(h_rd, .inr (4, [.ref h_by, .int 8, .int 0, .int (-1), (v_rd 4), (v_rd 5), (v_rd 6), (v_rd 7), (v_rd 8), (v_rd 9), (v_rd 10)])), (h_by, .inl (cy_by, 600, .inl f5))]) [1, 2] rfl
  have hDc := hD.sub (ws' := [(h_rd, .inr (4, [.ref h_by, .int 8, .int 0, .int (-1), (v_rd 4), (v_rd 5), (v_rd 6), (v_rd 7), (v_rd 8), (v_rd 9), (v_rd 10)])), (h_by, .inl (cy_by, 600, .inl f5))]) [1, 2] (by decide) rfl
  have hKc := hK.sub (tys' := [(cy_by, .int)]) [0] rfl
  have hFc := va_free (wc := [(h_rd, .inr (4, [.ref h_by, .int 8, .int 0, .int (-1), (v_rd 4), (v_rd 5), (v_rd 6), (v_rd 7), (v_rd 8), (v_rd 9), (v_rd 10)])), (h_by, .inl (cy_by, 600, .inl f5))]) hD hS hA [1, 2] rfl
  refine va_callv (va_runVN (As := [.int p3]) (rest := []) ⟨hx, hb, hml, hown, hts⟩ (c_X5_take_8 l dC dI H.size h_rd h_by (fun k => List.getD [.ref h_by, .int 8, .int 0, .int (-1), (v_rd 4), (v_rd 5), (v_rd 6), (v_rd 7), (v_rd 8), (v_rd 9), (v_rd 10)] k .null) cy_by f5 p3) ⟨va_cnB (host := "OppositePairs") 1 hts (gd hT w_code_X5_take) rfl rfl rfl (hN _ n_m_X10_71) (hw _ w_ini_X5) (by decide +kernel) ⟨(Nat.le_of_ble_eq_true rfl), (Nat.le_of_ble_eq_true rfl)⟩, hw _ w_instanceMethod_X5_take, hw _ ws_sel_X5_take⟩ ⟨pre_blind, va_recv hK hP (ci := 4) (q0 := 1) rfl rfl, pre_of hPc hKc hDc hN⟩ rfl rfl hl.1 rfl (lv_room (Nat.le_of_ble_eq_true rfl)) dX10_feed_39 ⟨(Nat.le_of_ble_eq_true rfl), (Nat.le_of_ble_eq_true rfl)⟩) hS (fun q _ h => hFc q h) hFc (fun u t H locs ht hvm hq hB hz1 hk1 hS => ?_)
  obtain ⟨f7, rfl⟩ : ∃ z, z = u := ⟨_, rfl⟩
  obtain ⟨hP1, hK1, hD1⟩ := hB
  rw [ht] at hP1
  have hK1 := va_K.moved hvm.symm hK1
  obtain ⟨hP, hD⟩ := va_join (wr := [(h_xx, .inr (7, [.ref h_rd, (v_xx 1), (v_xx 2), (v_xx 3), (v_xx 4), (v_xx 5), (v_xx 6), (v_xx 7)]))]) (w1 := [(h_rd, .inr (4, [.ref h_by, .int 12, .int 0, .int (-1), (v_rd 4), (v_rd 5), (v_rd 6), (v_rd 7), (v_rd 8), (v_rd 9), (v_rd 10)])), (h_by, .inl (cy_by, 600, .inl f7))]) hP hD [1, 2] [0] rfl rfl (by decide) (by decide) hk1 hFc hP1 hD1
  have hP : va_P (dC, dI) cls [(h_xx, .inr (7, [.ref h_rd, (v_xx 1), (v_xx 2), (v_xx 3), (v_xx 4), (v_xx 5), (v_xx 6), (v_xx 7)])), (h_rd, .inr (4, [.ref h_by, .int 12, .int 0, .int (-1), (v_rd 4), (v_rd 5), (v_rd 6), (v_rd 7), (v_rd 8), (v_rd 9), (v_rd 10)])), (h_by, .inl (cy_by, 600, .inl f7))] H := hP
  have hD : va_D A [(h_xx, .inr (7, [.ref h_rd, (v_xx 1), (v_xx 2), (v_xx 3), (v_xx 4), (v_xx 5), (v_xx 6), (v_xx 7)])), (h_rd, .inr (4, [.ref h_by, .int 12, .int 0, .int (-1), (v_rd 4), (v_rd 5), (v_rd 6), (v_rd 7), (v_rd 8), (v_rd 9), (v_rd 10)])), (h_by, .inl (cy_by, 600, .inl f7))] := hD
  refine lv_aload_n hx hb dX10_feed_42 rfl (lv_at hl 0 rfl) ?_
  refine va_get (D := (dC, dI)) (ci := 7) (v := .ref h_rd) (C := RX10) (T := TX10) (N := 8) hx hb hw iwX10 hown hK hP 0 rfl rfl 0 (by decide) (hw _ w_f_X10_12) (fun _ h9 => h9) rfl dX10_feed_43 ?_
  refine lv_iload hx hb dX10_feed_46 (lv_at hl 4 rfl) ?_
  have hPc := hP.sub (ws' := [(h_rd, .inr (4, [.ref h_by, .int 12, .int 0, .int (-1), (v_rd 4), (v_rd 5), (v_rd 6), (v_rd 7), (v_rd 8), (v_rd 9), (v_rd 10)])), (h_by, .inl (cy_by, 600, .inl f7))]) [1, 2] rfl
  have hDc := hD.sub (ws' := [(h_rd, .inr (4, [.ref h_by, .int 12, .int 0, .int (-1), (v_rd 4), (v_rd 5), (v_rd 6), (v_rd 7), (v_rd 8), (v_rd 9), (v_rd 10)])), (h_by, .inl (cy_by, 600, .inl f7))]) [1, 2] (by decide) rfl
  have hKc := hK.sub (tys' := [(cy_by, .int)]) [0] rfl
  have hFc := va_free (wc := [(h_rd, .inr (4, [.ref h_by, .int 12, .int 0, .int (-1), (v_rd 4), (v_rd 5), (v_rd 6), (v_rd 7), (v_rd 8), (v_rd 9), (v_rd 10)])), (h_by, .inl (cy_by, 600, .inl f7))]) hD hS hA [1, 2] rfl
  refine va_callv (va_runVN (As := [.int p4]) (rest := []) ⟨hx, hb, hml, hown, hts⟩ (c_X5_take_12 l dC dI H.size h_rd h_by (fun k => List.getD [.ref h_by, .int 12, .int 0, .int (-1), (v_rd 4), (v_rd 5), (v_rd 6), (v_rd 7), (v_rd 8), (v_rd 9), (v_rd 10)] k .null) cy_by f7 p4) ⟨va_cnB (host := "OppositePairs") 1 hts (gd hT w_code_X5_take) rfl rfl rfl (hN _ n_m_X10_71) (hw _ w_ini_X5) (by decide +kernel) ⟨(Nat.le_of_ble_eq_true rfl), (Nat.le_of_ble_eq_true rfl)⟩, hw _ w_instanceMethod_X5_take, hw _ ws_sel_X5_take⟩ ⟨pre_blind, va_recv hK hP (ci := 4) (q0 := 1) rfl rfl, pre_of hPc hKc hDc hN⟩ rfl rfl hl.1 rfl (lv_room (Nat.le_of_ble_eq_true rfl)) dX10_feed_48 ⟨(Nat.le_of_ble_eq_true rfl), (Nat.le_of_ble_eq_true rfl)⟩) hS (fun q _ h => hFc q h) hFc (fun u t H locs ht hvm hq hB hz1 hk1 hS => ?_)
  obtain ⟨f9, rfl⟩ : ∃ z, z = u := ⟨_, rfl⟩
  obtain ⟨hP1, hK1, hD1⟩ := hB
  rw [ht] at hP1
  have hK1 := va_K.moved hvm.symm hK1
  obtain ⟨hP, hD⟩ := va_join (wr := [(h_xx, .inr (7, [.ref h_rd, (v_xx 1), (v_xx 2), (v_xx 3), (v_xx 4), (v_xx 5), (v_xx 6), (v_xx 7)]))]) (w1 := [(h_rd, .inr (4, [.ref h_by, .int 16, .int 0, .int (-1), (v_rd 4), (v_rd 5), (v_rd 6), (v_rd 7), (v_rd 8), (v_rd 9), (v_rd 10)])), (h_by, .inl (cy_by, 600, .inl f9))]) hP hD [1, 2] [0] rfl rfl (by decide) (by decide) hk1 hFc hP1 hD1
  have hP : va_P (dC, dI) cls [(h_xx, .inr (7, [.ref h_rd, (v_xx 1), (v_xx 2), (v_xx 3), (v_xx 4), (v_xx 5), (v_xx 6), (v_xx 7)])), (h_rd, .inr (4, [.ref h_by, .int 16, .int 0, .int (-1), (v_rd 4), (v_rd 5), (v_rd 6), (v_rd 7), (v_rd 8), (v_rd 9), (v_rd 10)])), (h_by, .inl (cy_by, 600, .inl f9))] H := hP
  have hD : va_D A [(h_xx, .inr (7, [.ref h_rd, (v_xx 1), (v_xx 2), (v_xx 3), (v_xx 4), (v_xx 5), (v_xx 6), (v_xx 7)])), (h_rd, .inr (4, [.ref h_by, .int 16, .int 0, .int (-1), (v_rd 4), (v_rd 5), (v_rd 6), (v_rd 7), (v_rd 8), (v_rd 9), (v_rd 10)])), (h_by, .inl (cy_by, 600, .inl f9))] := hD
  refine lv_aload_n hx hb dX10_feed_51 rfl (lv_at hl 0 rfl) ?_
  refine va_get (D := (dC, dI)) (ci := 7) (v := .ref h_rd) (C := RX10) (T := TX10) (N := 8) hx hb hw iwX10 hown hK hP 0 rfl rfl 0 (by decide) (hw _ w_f_X10_12) (fun _ h9 => h9) rfl dX10_feed_52 ?_
  refine lv_iload hx hb dX10_feed_55 (lv_at hl 5 rfl) ?_
  have hPc := hP.sub (ws' := [(h_rd, .inr (4, [.ref h_by, .int 16, .int 0, .int (-1), (v_rd 4), (v_rd 5), (v_rd 6), (v_rd 7), (v_rd 8), (v_rd 9), (v_rd 10)])), (h_by, .inl (cy_by, 600, .inl f9))]) [1, 2] rfl
  have hDc := hD.sub (ws' := [(h_rd, .inr (4, [.ref h_by, .int 16, .int 0, .int (-1), (v_rd 4), (v_rd 5), (v_rd 6), (v_rd 7), (v_rd 8), (v_rd 9), (v_rd 10)])), (h_by, .inl (cy_by, 600, .inl f9))]) [1, 2] (by decide) rfl
  have hKc := hK.sub (tys' := [(cy_by, .int)]) [0] rfl
  have hFc := va_free (wc := [(h_rd, .inr (4, [.ref h_by, .int 16, .int 0, .int (-1), (v_rd 4), (v_rd 5), (v_rd 6), (v_rd 7), (v_rd 8), (v_rd 9), (v_rd 10)])), (h_by, .inl (cy_by, 600, .inl f9))]) hD hS hA [1, 2] rfl
  refine va_callv (va_runVN (As := [.int p5]) (rest := []) ⟨hx, hb, hml, hown, hts⟩ (c_X5_take_16 l dC dI H.size h_rd h_by (fun k => List.getD [.ref h_by, .int 16, .int 0, .int (-1), (v_rd 4), (v_rd 5), (v_rd 6), (v_rd 7), (v_rd 8), (v_rd 9), (v_rd 10)] k .null) cy_by f9 p5) ⟨va_cnB (host := "OppositePairs") 1 hts (gd hT w_code_X5_take) rfl rfl rfl (hN _ n_m_X10_71) (hw _ w_ini_X5) (by decide +kernel) ⟨(Nat.le_of_ble_eq_true rfl), (Nat.le_of_ble_eq_true rfl)⟩, hw _ w_instanceMethod_X5_take, hw _ ws_sel_X5_take⟩ ⟨pre_blind, va_recv hK hP (ci := 4) (q0 := 1) rfl rfl, pre_of hPc hKc hDc hN⟩ rfl rfl hl.1 rfl (lv_room (Nat.le_of_ble_eq_true rfl)) dX10_feed_57 ⟨(Nat.le_of_ble_eq_true rfl), (Nat.le_of_ble_eq_true rfl)⟩) hS (fun q _ h => hFc q h) hFc (fun u t H locs ht hvm hq hB hz1 hk1 hS => ?_)
  obtain ⟨f11, rfl⟩ : ∃ z, z = u := ⟨_, rfl⟩
  obtain ⟨hP1, hK1, hD1⟩ := hB
  rw [ht] at hP1
  have hK1 := va_K.moved hvm.symm hK1
  obtain ⟨hP, hD⟩ := va_join (wr := [(h_xx, .inr (7, [.ref h_rd, (v_xx 1), (v_xx 2), (v_xx 3), (v_xx 4), (v_xx 5), (v_xx 6), (v_xx 7)]))]) (w1 := [(h_rd, .inr (4, [.ref h_by, .int 20, .int 0, .int (-1), (v_rd 4), (v_rd 5), (v_rd 6), (v_rd 7), (v_rd 8), (v_rd 9), (v_rd 10)])), (h_by, .inl (cy_by, 600, .inl f11))]) hP hD [1, 2] [0] rfl rfl (by decide) (by decide) hk1 hFc hP1 hD1
  have hP : va_P (dC, dI) cls [(h_xx, .inr (7, [.ref h_rd, (v_xx 1), (v_xx 2), (v_xx 3), (v_xx 4), (v_xx 5), (v_xx 6), (v_xx 7)])), (h_rd, .inr (4, [.ref h_by, .int 20, .int 0, .int (-1), (v_rd 4), (v_rd 5), (v_rd 6), (v_rd 7), (v_rd 8), (v_rd 9), (v_rd 10)])), (h_by, .inl (cy_by, 600, .inl f11))] H := hP
  have hD : va_D A [(h_xx, .inr (7, [.ref h_rd, (v_xx 1), (v_xx 2), (v_xx 3), (v_xx 4), (v_xx 5), (v_xx 6), (v_xx 7)])), (h_rd, .inr (4, [.ref h_by, .int 20, .int 0, .int (-1), (v_rd 4), (v_rd 5), (v_rd 6), (v_rd 7), (v_rd 8), (v_rd 9), (v_rd 10)])), (h_by, .inl (cy_by, 600, .inl f11))] := hD
  refine lv_aload_n hx hb dX10_feed_60 rfl (lv_at hl 0 rfl) ?_
  refine va_get (D := (dC, dI)) (ci := 7) (v := .ref h_rd) (C := RX10) (T := TX10) (N := 8) hx hb hw iwX10 hown hK hP 0 rfl rfl 0 (by decide) (hw _ w_f_X10_12) (fun _ h9 => h9) rfl dX10_feed_61 ?_
  refine va_getN (D := (dC, dI)) (ci := 4) (v := .int 20) (C := RX5) (T := TX5) (N := 11) (host := "OppositePairs") hx hb hw iwX5 hown hK hP 1 rfl rfl 1 (by decide) (hN.use n_f_X10_67 rfl) (fun _ h9 => h9) rfl dX10_feed_64 ?_
  refine W.widen (k := 0) (n := 0) (Nat.le_of_ble_eq_true rfl) (Nat.le_of_ble_eq_true rfl) ?_
  exact W.iret (v := 20) hx hb hr (fun t ht hW => ⟨⟨20, (), rfl, rfl, trivial⟩, hS.F ht⟩) hS.2.2 dX10_feed_67

set_option maxHeartbeats 4000000 in
set_option maxRecDepth 100000 in
theorem c_X10_end (l : Launch) (dC : Nat → ClassId) (dI : Nat → Nat → Nat) (sz : Nat) (h_xx : Nat) (h_rd : Nat) (v_xx : Nat → Value) (v_rd : Nat → Value) (p1 : Int32) : Met l yX10_end (Ws yX10_end cX10_end 2 (some .boolean)) ({ frames := 0, cells := 0, slots := 0, locals := 0 }) (PRE (dC, dI) cls [] [(h_xx, .inr (7, [.ref h_rd, (v_xx 1), (v_xx 2), (v_xx 3), (v_xx 4), (v_xx 5), (v_xx 6), (v_xx 7)])), (h_rd, .inr (4, [(v_rd 0), .int 0, .int 0, .int (-1), (v_rd 4), (v_rd 5), (v_rd 6), (v_rd 7), (v_rd 8), (v_rd 9), (v_rd 10)]))] sz [.ref h_xx, .int p1]) (va_Qi (fun (r : Int32) (_ : Unit) => r = an_end p1) (fun (_ : Unit) (_ : State) => True) (va_A [(h_xx, .inr (7, [.ref h_rd, (v_xx 1), (v_xx 2), (v_xx 3), (v_xx 4), (v_xx 5), (v_xx 6), (v_xx 7)])), (h_rd, .inr (4, [(v_rd 0), .int 0, .int 0, .int (-1), (v_rd 4), (v_rd 5), (v_rd 6), (v_rd 7), (v_rd 8), (v_rd 9), (v_rd 10)]))] sz)) 0 0 (va_A [(h_xx, .inr (7, [.ref h_rd, (v_xx 1), (v_xx 2), (v_xx 3), (v_xx 4), (v_xx 5), (v_xx 6), (v_xx 7)])), (h_rd, .inr (4, [(v_rd 0), .int 0, .int 0, .int (-1), (v_rd 4), (v_rd 5), (v_rd 6), (v_rd 7), (v_rd 8), (v_rd 9), (v_rd 10)]))] sz) := by
  refine Met.ofW (cc := cX10_end) (maxL := 2) (ret := (some .boolean)) (by decide) rfl ?_
  intro p e s m args below meth c s₁ B hml hv
  obtain ⟨rfl, hsz, hP, hK, hD0, hN⟩ := hv
  have hx := B.exec
  have hb := B.bytes
  have hr := B.returns
  have hts := atoms_spec (ws := Ws yX10_end cX10_end 2 (some .boolean)) B.pre
  have hT : ∀ w ∈ WALL, w ∈ Ws yX10_end cX10_end 2 (some .boolean) := fun w h => List.mem_cons_of_mem _ h
  have hw := fun w (h : w ∈ WALL) => hts w (hT w h)
  have hown : s.vm.findClass RX10 = some m.cls := findClass_of_methodNamed B.named
  have hlocks := B.notSynchronized
  subst hsz
  have hD := hD0.self (sz := s.heap.size)
  generalize hAe : va_A [(h_xx, .inr (7, [.ref h_rd, (v_xx 1), (v_xx 2), (v_xx 3), (v_xx 4), (v_xx 5), (v_xx 6), (v_xx 7)])), (h_rd, .inr (4, [(v_rd 0), .int 0, .int 0, .int (-1), (v_rd 4), (v_rd 5), (v_rd 6), (v_rd 7), (v_rd 8), (v_rd 9), (v_rd 10)]))] s.heap.size = A at hD ⊢
  have hA : ∀ q : Nat, s.heap.size ≤ q → A q := fun q h => by rw [← hAe]; exact Or.inr h
  have hS : va_S A s.heap s.heap [] := va_S.rf
  have hl := lv_entry ([.ref h_xx, .int p1]) (n := 2) (Nat.le_of_ble_eq_true rfl)
  rw [lg_entry_eq]
  generalize (lg_sl ([.ref h_xx, .int p1]) ++ List.replicate (2 - (lg_sl ([.ref h_xx, .int p1])).length) Slot.unset).toArray = ls at hl ⊢
  have hl : lv_has ls 2 [(0, .ref h_xx), (1, .int p1)] := hl
  refine lv_iload_n hx hb dX10_end_0 rfl (lv_at hl 1 rfl) ?_
  refine lv_if_lt (tgt := 15) hx hb dX10_end_1 (by decide) (fun c1 => ?_) (fun c1 => ?_)
  · have kc1 := (cv_lt (rfl : (p1).toInt = (p1).toInt) (by decide : (0 : Int32).toInt = 0)).mp c1
    refine lv_iconst (v := 0) hx hb dX10_end_15 (by decide) ?_
    refine W.widen (k := 0) (n := 0) (Nat.le_of_ble_eq_true rfl) (Nat.le_of_ble_eq_true rfl) ?_
    exact W.zret (v := 0) (ty := .boolean) hx hb hr (by decide) (fun t ht hW => ⟨⟨0, (), rfl, (by unfold an_end; split <;> first | rfl | (exfalso; omega)), trivial⟩, hS.F ht⟩) hS.2.2 dX10_end_16
  · have kc1 := (not_congr (cv_lt (rfl : (p1).toInt = (p1).toInt) (by decide : (0 : Int32).toInt = 0))).mp c1
    refine lv_iload_n hx hb dX10_end_4 rfl (lv_at hl 1 rfl) ?_
    refine lv_aload_n hx hb dX10_end_5 rfl (lv_at hl 0 rfl) ?_
    refine va_get (D := (dC, dI)) (ci := 7) (v := .ref h_rd) (C := RX10) (T := TX10) (N := 8) hx hb hw iwX10 hown hK hP 0 rfl rfl 0 (by decide) (hw _ w_f_X10_12) (fun _ h9 => h9) rfl dX10_end_6 ?_
    refine va_getN (D := (dC, dI)) (ci := 4) (v := .int 0) (C := RX5) (T := TX5) (N := 11) (host := "OppositePairs") hx hb hw iwX5 hown hK hP 1 rfl rfl 1 (by decide) (hN.use n_f_X10_67 rfl) (fun _ h9 => h9) rfl dX10_end_9 ?_
    refine lv_icmp_le (tgt := 17) hx hb dX10_end_12 (by decide) (fun c2 => ?_) (fun c2 => ?_)
    · have kc2 := (cv_le (rfl : (p1).toInt = (p1).toInt) (by decide : (0 : Int32).toInt = 0)).mp c2
      refine lv_aload_n hx hb dX10_end_17 rfl (lv_at hl 0 rfl) ?_
      refine va_get (D := (dC, dI)) (ci := 7) (v := .ref h_rd) (C := RX10) (T := TX10) (N := 8) hx hb hw iwX10 hown hK hP 0 rfl rfl 0 (by decide) (hw _ w_f_X10_12) (fun _ h9 => h9) rfl dX10_end_18 ?_
      refine lv_iload_n hx hb dX10_end_21 rfl (lv_at hl 1 rfl) ?_
      refine va_putN (D := (dC, dI)) (ci := 4) (v := .int p1) (ty := tyX5 1) (C := RX5) (T := TX5) (N := 11) (host := "OppositePairs") hx hb hw iwX5 tyX5 tyX5_ok nmX5 hown hK hP hD hS 1 rfl rfl 1 (by decide) (hN.use n_f_X10_67 rfl) (fun _ h9 => h9) rfl (tyX5_ok 1 (by decide)) rfl rfl (Nat.le_of_ble_eq_true rfl) dX10_end_22 (fun H locs hP hD hS => ?_)
      have hP : va_P (dC, dI) cls [(h_xx, .inr (7, [.ref h_rd, (v_xx 1), (v_xx 2), (v_xx 3), (v_xx 4), (v_xx 5), (v_xx 6), (v_xx 7)])), (h_rd, .inr (4, [(v_rd 0), .int p1, .int 0, .int (-1), (v_rd 4), (v_rd 5), (v_rd 6), (v_rd 7), (v_rd 8), (v_rd 9), (v_rd 10)]))] H := hP
      have hD : va_D A [(h_xx, .inr (7, [.ref h_rd, (v_xx 1), (v_xx 2), (v_xx 3), (v_xx 4), (v_xx 5), (v_xx 6), (v_xx 7)])), (h_rd, .inr (4, [(v_rd 0), .int p1, .int 0, .int (-1), (v_rd 4), (v_rd 5), (v_rd 6), (v_rd 7), (v_rd 8), (v_rd 9), (v_rd 10)]))] := hD
      refine lv_iconst (v := 1) hx hb dX10_end_25 (by decide) ?_
      refine W.widen (k := 0) (n := 0) (Nat.le_of_ble_eq_true rfl) (Nat.le_of_ble_eq_true rfl) ?_
      exact W.zret (v := 1) (ty := .boolean) hx hb hr (by decide) (fun t ht hW => ⟨⟨1, (), rfl, (by unfold an_end; split <;> first | rfl | (exfalso; omega)), trivial⟩, hS.F ht⟩) hS.2.2 dX10_end_26
    · have kc2 := (not_congr (cv_le (rfl : (p1).toInt = (p1).toInt) (by decide : (0 : Int32).toInt = 0))).mp c2
      refine lv_iconst (v := 0) hx hb dX10_end_15 (by decide) ?_
      refine W.widen (k := 0) (n := 0) (Nat.le_of_ble_eq_true rfl) (Nat.le_of_ble_eq_true rfl) ?_
      exact W.zret (v := 0) (ty := .boolean) hx hb hr (by decide) (fun t ht hW => ⟨⟨0, (), rfl, (by unfold an_end; split <;> first | rfl | (exfalso; omega)), trivial⟩, hS.F ht⟩) hS.2.2 dX10_end_16

set_option maxHeartbeats 4000000 in
set_option maxRecDepth 100000 in
theorem c_X10_clauses (l : Launch) (dC : Nat → ClassId) (dI : Nat → Nat → Nat) (sz : Nat) (h_xx : Nat) (h_rd : Nat) (h_td : Nat) (h_dr : Nat) (h_pv : Nat) (h_mx : Nat) (h_an : Nat) (v_xx : Nat → Value) (v_rd : Nat → Value) (v_td : Nat → Value) (v_dr : Nat → Value) (v_pv : Nat → Value) (v_mx : Nat → Value) (v_an : Nat → Value) : Met l yX10_clauses (Ws yX10_clauses cX10_clauses 2 (some .int)) ({ frames := 2, cells := 0, slots := 0, locals := 42 }) (PRE (dC, dI) cls [] [(h_xx, .inr (7, [.ref h_rd, .ref h_td, .ref h_dr, (v_xx 3), (v_xx 4), .ref h_pv, .ref h_mx, .ref h_an])), (h_rd, .inr (4, [(v_rd 0), .int 0, .int 0, .int (-1), (v_rd 4), (v_rd 5), (v_rd 6), (v_rd 7), (v_rd 8), (v_rd 9), (v_rd 10)])), (h_td, .inr (5, [(v_td 0), (v_td 1), (v_td 2), (v_td 3), (v_td 4), (v_td 5), (v_td 6), (v_td 7), (v_td 8), .int 0])), (h_dr, .inr (5, [(v_dr 0), (v_dr 1), (v_dr 2), (v_dr 3), (v_dr 4), (v_dr 5), (v_dr 6), (v_dr 7), (v_dr 8), (v_dr 9)])), (h_pv, .inr (3, [(v_pv 0), (v_pv 1), (v_pv 2), (v_pv 3), (v_pv 4), (v_pv 5), (v_pv 6), .int 0, (v_pv 8), .int 0, (v_pv 10), (v_pv 11), .int 0, .int 0, .int 0, .int 0, (v_pv 16), .int 0])), (h_mx, .inr (2, [(v_mx 0), (v_mx 1), (v_mx 2), (v_mx 3), (v_mx 4), (v_mx 5), (v_mx 6), (v_mx 7), (v_mx 8), (v_mx 9), (v_mx 10), (v_mx 11)])), (h_an, .inr (0, [(v_an 0), (v_an 1), (v_an 2), (v_an 3), .int 0, .int 0]))] sz [.ref h_xx]) (va_Qi (fun (r : Int32) (_ : Unit) => r = 0) (fun (_ : Unit) (_ : State) => True) (va_A [(h_xx, .inr (7, [.ref h_rd, .ref h_td, .ref h_dr, (v_xx 3), (v_xx 4), .ref h_pv, .ref h_mx, .ref h_an])), (h_rd, .inr (4, [(v_rd 0), .int 0, .int 0, .int (-1), (v_rd 4), (v_rd 5), (v_rd 6), (v_rd 7), (v_rd 8), (v_rd 9), (v_rd 10)])), (h_td, .inr (5, [(v_td 0), (v_td 1), (v_td 2), (v_td 3), (v_td 4), (v_td 5), (v_td 6), (v_td 7), (v_td 8), .int 0])), (h_dr, .inr (5, [(v_dr 0), (v_dr 1), (v_dr 2), (v_dr 3), (v_dr 4), (v_dr 5), (v_dr 6), (v_dr 7), (v_dr 8), (v_dr 9)])), (h_pv, .inr (3, [(v_pv 0), (v_pv 1), (v_pv 2), (v_pv 3), (v_pv 4), (v_pv 5), (v_pv 6), .int 0, (v_pv 8), .int 0, (v_pv 10), (v_pv 11), .int 0, .int 0, .int 0, .int 0, (v_pv 16), .int 0])), (h_mx, .inr (2, [(v_mx 0), (v_mx 1), (v_mx 2), (v_mx 3), (v_mx 4), (v_mx 5), (v_mx 6), (v_mx 7), (v_mx 8), (v_mx 9), (v_mx 10), (v_mx 11)])), (h_an, .inr (0, [(v_an 0), (v_an 1), (v_an 2), (v_an 3), .int 0, .int 0]))] sz)) 0 0 (va_A [(h_xx, .inr (7, [.ref h_rd, .ref h_td, .ref h_dr, (v_xx 3), (v_xx 4), .ref h_pv, .ref h_mx, .ref h_an])), (h_rd, .inr (4, [(v_rd 0), .int 0, .int 0, .int (-1), (v_rd 4), (v_rd 5), (v_rd 6), (v_rd 7), (v_rd 8), (v_rd 9), (v_rd 10)])), (h_td, .inr (5, [(v_td 0), (v_td 1), (v_td 2), (v_td 3), (v_td 4), (v_td 5), (v_td 6), (v_td 7), (v_td 8), .int 0])), (h_dr, .inr (5, [(v_dr 0), (v_dr 1), (v_dr 2), (v_dr 3), (v_dr 4), (v_dr 5), (v_dr 6), (v_dr 7), (v_dr 8), (v_dr 9)])), (h_pv, .inr (3, [(v_pv 0), (v_pv 1), (v_pv 2), (v_pv 3), (v_pv 4), (v_pv 5), (v_pv 6), .int 0, (v_pv 8), .int 0, (v_pv 10), (v_pv 11), .int 0, .int 0, .int 0, .int 0, (v_pv 16), .int 0])), (h_mx, .inr (2, [(v_mx 0), (v_mx 1), (v_mx 2), (v_mx 3), (v_mx 4), (v_mx 5), (v_mx 6), (v_mx 7), (v_mx 8), (v_mx 9), (v_mx 10), (v_mx 11)])), (h_an, .inr (0, [(v_an 0), (v_an 1), (v_an 2), (v_an 3), .int 0, .int 0]))] sz) := by
  refine Met.ofW (cc := cX10_clauses) (maxL := 2) (ret := (some .int)) (by decide) rfl ?_
  intro p e s m args below meth c s₁ B hml hv
  obtain ⟨rfl, hsz, hP, hK, hD0, hN⟩ := hv
  have hx := B.exec
  have hb := B.bytes
  have hr := B.returns
  have hts := atoms_spec (ws := Ws yX10_clauses cX10_clauses 2 (some .int)) B.pre
  have hT : ∀ w ∈ WALL, w ∈ Ws yX10_clauses cX10_clauses 2 (some .int) := fun w h => List.mem_cons_of_mem _ h
  have hw := fun w (h : w ∈ WALL) => hts w (hT w h)
  have hown : s.vm.findClass RX10 = some m.cls := findClass_of_methodNamed B.named
  have hlocks := B.notSynchronized
  subst hsz
  have hD := hD0.self (sz := s.heap.size)
  generalize hAe : va_A [(h_xx, .inr (7, [.ref h_rd, .ref h_td, .ref h_dr, (v_xx 3), (v_xx 4), .ref h_pv, .ref h_mx, .ref h_an])), (h_rd, .inr (4, [(v_rd 0), .int 0, .int 0, .int (-1), (v_rd 4), (v_rd 5), (v_rd 6), (v_rd 7), (v_rd 8), (v_rd 9), (v_rd 10)])), (h_td, .inr (5, [(v_td 0), (v_td 1), (v_td 2), (v_td 3), (v_td 4), (v_td 5), (v_td 6), (v_td 7), (v_td 8), .int 0])), (h_dr, .inr (5, [(v_dr 0), (v_dr 1), (v_dr 2), (v_dr 3), (v_dr 4), (v_dr 5), (v_dr 6), (v_dr 7), (v_dr 8), (v_dr 9)])), (h_pv, .inr (3, [(v_pv 0), (v_pv 1), (v_pv 2), (v_pv 3), (v_pv 4), (v_pv 5), (v_pv 6), .int 0, (v_pv 8), .int 0, (v_pv 10), (v_pv 11), .int 0, .int 0, .int 0, .int 0, (v_pv 16), .int 0])), (h_mx, .inr (2, [(v_mx 0), (v_mx 1), (v_mx 2), (v_mx 3), (v_mx 4), (v_mx 5), (v_mx 6), (v_mx 7), (v_mx 8), (v_mx 9), (v_mx 10), (v_mx 11)])), (h_an, .inr (0, [(v_an 0), (v_an 1), (v_an 2), (v_an 3), .int 0, .int 0]))] s.heap.size = A at hD ⊢
  have hA : ∀ q : Nat, s.heap.size ≤ q → A q := fun q h => by rw [← hAe]; exact Or.inr h
  have hS : va_S A s.heap s.heap [] := va_S.rf
  have hl := lv_entry ([.ref h_xx]) (n := 2) (Nat.le_of_ble_eq_true rfl)
  rw [lg_entry_eq]
  generalize (lg_sl ([.ref h_xx]) ++ List.replicate (2 - (lg_sl ([.ref h_xx])).length) Slot.unset).toArray = ls at hl ⊢
  have hl : lv_has ls 2 [(0, .ref h_xx)] := hl
  refine lv_aload_n hx hb dX10_clauses_0 rfl (lv_at hl 0 rfl) ?_
  refine va_get (D := (dC, dI)) (ci := 7) (v := .ref h_rd) (C := RX10) (T := TX10) (N := 8) hx hb hw iwX10 hown hK hP 0 rfl rfl 0 (by decide) (hw _ w_f_X10_12) (fun _ h9 => h9) rfl dX10_clauses_1 ?_
  refine lv_aload_n hx hb dX10_clauses_4 rfl (lv_at hl 0 rfl) ?_
  refine va_get (D := (dC, dI)) (ci := 7) (v := .ref h_dr) (C := RX10) (T := TX10) (N := 8) hx hb hw iwX10 hown hK hP 0 rfl rfl 2 (by decide) (hw _ w_f_X10_23) (fun _ h9 => h9) rfl dX10_clauses_5 ?_
  have hPc := hP.sub (ws' := [(h_rd, .inr (4, [(v_rd 0), .int 0, .int 0, .int (-1), (v_rd 4), (v_rd 5), (v_rd 6), (v_rd 7), (v_rd 8), (v_rd 9), (v_rd 10)])), (h_dr, .inr (5, [(v_dr 0), (v_dr 1), (v_dr 2), (v_dr 3), (v_dr 4), (v_dr 5), (v_dr 6), (v_dr 7), (v_dr 8), (v_dr 9)]))]) [1, 3] rfl
  have hDc := hD.sub (ws' := [(h_rd, .inr (4, [(v_rd 0), .int 0, .int 0, .int (-1), (v_rd 4), (v_rd 5), (v_rd 6), (v_rd 7), (v_rd 8), (v_rd 9), (v_rd 10)])), (h_dr, .inr (5, [(v_dr 0), (v_dr 1), (v_dr 2), (v_dr 3), (v_dr 4), (v_dr 5), (v_dr 6), (v_dr 7), (v_dr 8), (v_dr 9)]))]) [1, 3] (by decide) rfl
  have hKc := hK.sub (tys' := []) [] rfl
  have hFc := va_free (wc := [(h_rd, .inr (4, [(v_rd 0), .int 0, .int 0, .int (-1), (v_rd 4), (v_rd 5), (v_rd 6), (v_rd 7), (v_rd 8), (v_rd 9), (v_rd 10)])), (h_dr, .inr (5, [(v_dr 0), (v_dr 1), (v_dr 2), (v_dr 3), (v_dr 4), (v_dr 5), (v_dr 6), (v_dr 7), (v_dr 8), (v_dr 9)]))]) hD hS hA [1, 3] rfl
  refine va_callv (va_runVN (As := [.ref h_dr]) (rest := []) ⟨hx, hb, hml, hown, hts⟩ (c_X5_read l dC dI s.heap.size h_rd h_dr (fun k => List.getD [(v_rd 0), .int 0, .int 0, .int (-1), (v_rd 4), (v_rd 5), (v_rd 6), (v_rd 7), (v_rd 8), (v_rd 9), (v_rd 10)] k .null) v_dr) ⟨va_cnB (host := "OppositePairs") 1 hts (gd hT w_code_X5_read) rfl rfl rfl (hN _ n_m_X10_75) (hw _ w_ini_X5) (by decide +kernel) ⟨(Nat.le_of_ble_eq_true rfl), (Nat.le_of_ble_eq_true rfl)⟩, hw _ w_instanceMethod_X5_read, hw _ ws_sel_X5_read⟩ ⟨pre_blind, va_recv hK hP (ci := 4) (q0 := 1) rfl rfl, pre_of hPc hKc hDc hN⟩ rfl rfl hl.1 rfl (lv_room (Nat.le_of_ble_eq_true rfl)) dX10_clauses_8 ⟨(Nat.le_of_ble_eq_true rfl), (Nat.le_of_ble_eq_true rfl)⟩) hS (fun q _ h => hFc q h) hFc (fun u t H locs ht hvm hq hB hz1 hk1 hS => ?_)
  obtain ⟨hP1, hK1, hD1⟩ := hB
  rw [ht] at hP1
  have hK1 := va_K.moved hvm.symm hK1
  obtain ⟨hP, hD⟩ := va_join (wr := [(h_xx, .inr (7, [.ref h_rd, .ref h_td, .ref h_dr, (v_xx 3), (v_xx 4), .ref h_pv, .ref h_mx, .ref h_an])), (h_td, .inr (5, [(v_td 0), (v_td 1), (v_td 2), (v_td 3), (v_td 4), (v_td 5), (v_td 6), (v_td 7), (v_td 8), .int 0])), (h_pv, .inr (3, [(v_pv 0), (v_pv 1), (v_pv 2), (v_pv 3), (v_pv 4), (v_pv 5), (v_pv 6), .int 0, (v_pv 8), .int 0, (v_pv 10), (v_pv 11), .int 0, .int 0, .int 0, .int 0, (v_pv 16), .int 0])), (h_mx, .inr (2, [(v_mx 0), (v_mx 1), (v_mx 2), (v_mx 3), (v_mx 4), (v_mx 5), (v_mx 6), (v_mx 7), (v_mx 8), (v_mx 9), (v_mx 10), (v_mx 11)])), (h_an, .inr (0, [(v_an 0), (v_an 1), (v_an 2), (v_an 3), .int 0, .int 0]))]) (w1 := [(h_dr, .inr (5, [(v_dr 0), (v_dr 1), (v_dr 2), (v_dr 3), .int 0, (v_dr 5), (v_dr 6), (v_dr 7), (v_dr 8), .int 0])), (h_rd, .inr (4, [(v_rd 0), .int 0, .int 0, .int (-1), .ref h_dr, (v_rd 5), (v_rd 6), .int 0, .int 0, .int (-1), (v_rd 10)]))]) hP hD [1, 3] [0, 2, 4, 5, 6] rfl rfl (by decide) (by decide) hk1 hFc hP1 hD1
  have hP : va_P (dC, dI) cls [(h_xx, .inr (7, [.ref h_rd, .ref h_td, .ref h_dr, (v_xx 3), (v_xx 4), .ref h_pv, .ref h_mx, .ref h_an])), (h_td, .inr (5, [(v_td 0), (v_td 1), (v_td 2), (v_td 3), (v_td 4), (v_td 5), (v_td 6), (v_td 7), (v_td 8), .int 0])), (h_pv, .inr (3, [(v_pv 0), (v_pv 1), (v_pv 2), (v_pv 3), (v_pv 4), (v_pv 5), (v_pv 6), .int 0, (v_pv 8), .int 0, (v_pv 10), (v_pv 11), .int 0, .int 0, .int 0, .int 0, (v_pv 16), .int 0])), (h_mx, .inr (2, [(v_mx 0), (v_mx 1), (v_mx 2), (v_mx 3), (v_mx 4), (v_mx 5), (v_mx 6), (v_mx 7), (v_mx 8), (v_mx 9), (v_mx 10), (v_mx 11)])), (h_an, .inr (0, [(v_an 0), (v_an 1), (v_an 2), (v_an 3), .int 0, .int 0])), (h_dr, .inr (5, [(v_dr 0), (v_dr 1), (v_dr 2), (v_dr 3), .int 0, (v_dr 5), (v_dr 6), (v_dr 7), (v_dr 8), .int 0])), (h_rd, .inr (4, [(v_rd 0), .int 0, .int 0, .int (-1), .ref h_dr, (v_rd 5), (v_rd 6), .int 0, .int 0, .int (-1), (v_rd 10)]))] H := hP
  have hD : va_D A [(h_xx, .inr (7, [.ref h_rd, .ref h_td, .ref h_dr, (v_xx 3), (v_xx 4), .ref h_pv, .ref h_mx, .ref h_an])), (h_td, .inr (5, [(v_td 0), (v_td 1), (v_td 2), (v_td 3), (v_td 4), (v_td 5), (v_td 6), (v_td 7), (v_td 8), .int 0])), (h_pv, .inr (3, [(v_pv 0), (v_pv 1), (v_pv 2), (v_pv 3), (v_pv 4), (v_pv 5), (v_pv 6), .int 0, (v_pv 8), .int 0, (v_pv 10), (v_pv 11), .int 0, .int 0, .int 0, .int 0, (v_pv 16), .int 0])), (h_mx, .inr (2, [(v_mx 0), (v_mx 1), (v_mx 2), (v_mx 3), (v_mx 4), (v_mx 5), (v_mx 6), (v_mx 7), (v_mx 8), (v_mx 9), (v_mx 10), (v_mx 11)])), (h_an, .inr (0, [(v_an 0), (v_an 1), (v_an 2), (v_an 3), .int 0, .int 0])), (h_dr, .inr (5, [(v_dr 0), (v_dr 1), (v_dr 2), (v_dr 3), .int 0, (v_dr 5), (v_dr 6), (v_dr 7), (v_dr 8), .int 0])), (h_rd, .inr (4, [(v_rd 0), .int 0, .int 0, .int (-1), .ref h_dr, (v_rd 5), (v_rd 6), .int 0, .int 0, .int (-1), (v_rd 10)]))] := hD
  refine lv_aload_n hx hb dX10_clauses_11 rfl (lv_at hl 0 rfl) ?_
  refine va_get (D := (dC, dI)) (ci := 7) (v := .ref h_rd) (C := RX10) (T := TX10) (N := 8) hx hb hw iwX10 hown hK hP 0 rfl rfl 0 (by decide) (hw _ w_f_X10_12) (fun _ h9 => h9) rfl dX10_clauses_12 ?_
  refine va_getN (D := (dC, dI)) (ci := 4) (v := .int 0) (C := RX5) (T := TX5) (N := 11) (host := "OppositePairs") hx hb hw iwX5 hown hK hP 6 rfl rfl 2 (by decide) (hN.use n_f_X10_78 rfl) (fun _ h9 => h9) rfl dX10_clauses_15 ?_
  refine lv_if_ne (tgt := 25) hx hb dX10_clauses_18 (by decide) (fun c9 => absurd c9 (by decide)) (fun _ => ?_)
  refine lv_iconst (v := 1) hx hb dX10_clauses_21 (by decide) ?_
  refine lv_goto (tgt := 26) hx hb dX10_clauses_22 (by decide) ?_
  refine lv_istore_n (lv' := [(1, .int 1), (0, .ref h_xx)]) hx hb dX10_clauses_26 rfl hl (by decide) rfl (fun ls hl => ?_)
  refine lv_iload_n hx hb dX10_clauses_27 rfl (lv_at hl 0 rfl) ?_
  refine lv_if_eq (tgt := 46) hx hb dX10_clauses_28 (by decide) (fun c9 => absurd c9 (by decide)) (fun _ => ?_)
  refine lv_aload_n hx hb dX10_clauses_31 rfl (lv_at hl 1 rfl) ?_
  refine va_get (D := (dC, dI)) (ci := 7) (v := .ref h_rd) (C := RX10) (T := TX10) (N := 8) hx hb hw iwX10 hown hK hP 0 rfl rfl 0 (by decide) (hw _ w_f_X10_12) (fun _ h9 => h9) rfl dX10_clauses_32 ?_
  refine lv_aload_n hx hb dX10_clauses_35 rfl (lv_at hl 1 rfl) ?_
  refine va_get (D := (dC, dI)) (ci := 7) (v := .ref h_td) (C := RX10) (T := TX10) (N := 8) hx hb hw iwX10 hown hK hP 0 rfl rfl 1 (by decide) (hw _ w_f_X10_19) (fun _ h9 => h9) rfl dX10_clauses_36 ?_
  have hPc := hP.sub (ws' := [(h_rd, .inr (4, [(v_rd 0), .int 0, .int 0, .int (-1), .ref h_dr, (v_rd 5), (v_rd 6), .int 0, .int 0, .int (-1), (v_rd 10)])), (h_td, .inr (5, [(v_td 0), (v_td 1), (v_td 2), (v_td 3), (v_td 4), (v_td 5), (v_td 6), (v_td 7), (v_td 8), .int 0]))]) [6, 1] rfl
  have hDc := hD.sub (ws' := [(h_rd, .inr (4, [(v_rd 0), .int 0, .int 0, .int (-1), .ref h_dr, (v_rd 5), (v_rd 6), .int 0, .int 0, .int (-1), (v_rd 10)])), (h_td, .inr (5, [(v_td 0), (v_td 1), (v_td 2), (v_td 3), (v_td 4), (v_td 5), (v_td 6), (v_td 7), (v_td 8), .int 0]))]) [6, 1] (by decide) rfl
  have hKc := hK.sub (tys' := []) [] rfl
  have hFc := va_free (wc := [(h_rd, .inr (4, [(v_rd 0), .int 0, .int 0, .int (-1), .ref h_dr, (v_rd 5), (v_rd 6), .int 0, .int 0, .int (-1), (v_rd 10)])), (h_td, .inr (5, [(v_td 0), (v_td 1), (v_td 2), (v_td 3), (v_td 4), (v_td 5), (v_td 6), (v_td 7), (v_td 8), .int 0]))]) hD hS hA [6, 1] rfl
  refine va_callv (va_runVN (As := [.ref h_td]) (rest := []) ⟨hx, hb, hml, hown, hts⟩ (c_X5_read l dC dI H.size h_rd h_td (fun k => List.getD [(v_rd 0), .int 0, .int 0, .int (-1), .ref h_dr, (v_rd 5), (v_rd 6), .int 0, .int 0, .int (-1), (v_rd 10)] k .null) (fun k => List.getD [(v_td 0), (v_td 1), (v_td 2), (v_td 3), (v_td 4), (v_td 5), (v_td 6), (v_td 7), (v_td 8), .int 0] k .null)) ⟨va_cnB (host := "OppositePairs") 1 hts (gd hT w_code_X5_read) rfl rfl rfl (hN _ n_m_X10_75) (hw _ w_ini_X5) (by decide +kernel) ⟨(Nat.le_of_ble_eq_true rfl), (Nat.le_of_ble_eq_true rfl)⟩, hw _ w_instanceMethod_X5_read, hw _ ws_sel_X5_read⟩ ⟨pre_blind, va_recv hK hP (ci := 4) (q0 := 6) rfl rfl, pre_of hPc hKc hDc hN⟩ rfl rfl hl.1 rfl (lv_room (Nat.le_of_ble_eq_true rfl)) dX10_clauses_39 ⟨(Nat.le_of_ble_eq_true rfl), (Nat.le_of_ble_eq_true rfl)⟩) hS (fun q _ h => hFc q h) hFc (fun u t H locs ht hvm hq hB hz1 hk1 hS => ?_)
  obtain ⟨hP1, hK1, hD1⟩ := hB
  rw [ht] at hP1
  have hK1 := va_K.moved hvm.symm hK1
  obtain ⟨hP, hD⟩ := va_join (wr := [(h_xx, .inr (7, [.ref h_rd, .ref h_td, .ref h_dr, (v_xx 3), (v_xx 4), .ref h_pv, .ref h_mx, .ref h_an])), (h_pv, .inr (3, [(v_pv 0), (v_pv 1), (v_pv 2), (v_pv 3), (v_pv 4), (v_pv 5), (v_pv 6), .int 0, (v_pv 8), .int 0, (v_pv 10), (v_pv 11), .int 0, .int 0, .int 0, .int 0, (v_pv 16), .int 0])), (h_mx, .inr (2, [(v_mx 0), (v_mx 1), (v_mx 2), (v_mx 3), (v_mx 4), (v_mx 5), (v_mx 6), (v_mx 7), (v_mx 8), (v_mx 9), (v_mx 10), (v_mx 11)])), (h_an, .inr (0, [(v_an 0), (v_an 1), (v_an 2), (v_an 3), .int 0, .int 0])), (h_dr, .inr (5, [(v_dr 0), (v_dr 1), (v_dr 2), (v_dr 3), .int 0, (v_dr 5), (v_dr 6), (v_dr 7), (v_dr 8), .int 0]))]) (w1 := [(h_td, .inr (5, [(v_td 0), (v_td 1), (v_td 2), (v_td 3), .int 0, (v_td 5), (v_td 6), (v_td 7), (v_td 8), .int 0])), (h_rd, .inr (4, [(v_rd 0), .int 0, .int 0, .int (-1), .ref h_td, (v_rd 5), (v_rd 6), .int 0, .int 0, .int (-1), (v_rd 10)]))]) hP hD [6, 1] [0, 2, 3, 4, 5] rfl rfl (by decide) (by decide) hk1 hFc hP1 hD1
  have hP : va_P (dC, dI) cls [(h_xx, .inr (7, [.ref h_rd, .ref h_td, .ref h_dr, (v_xx 3), (v_xx 4), .ref h_pv, .ref h_mx, .ref h_an])), (h_pv, .inr (3, [(v_pv 0), (v_pv 1), (v_pv 2), (v_pv 3), (v_pv 4), (v_pv 5), (v_pv 6), .int 0, (v_pv 8), .int 0, (v_pv 10), (v_pv 11), .int 0, .int 0, .int 0, .int 0, (v_pv 16), .int 0])), (h_mx, .inr (2, [(v_mx 0), (v_mx 1), (v_mx 2), (v_mx 3), (v_mx 4), (v_mx 5), (v_mx 6), (v_mx 7), (v_mx 8), (v_mx 9), (v_mx 10), (v_mx 11)])), (h_an, .inr (0, [(v_an 0), (v_an 1), (v_an 2), (v_an 3), .int 0, .int 0])), (h_dr, .inr (5, [(v_dr 0), (v_dr 1), (v_dr 2), (v_dr 3), .int 0, (v_dr 5), (v_dr 6), (v_dr 7), (v_dr 8), .int 0])), (h_td, .inr (5, [(v_td 0), (v_td 1), (v_td 2), (v_td 3), .int 0, (v_td 5), (v_td 6), (v_td 7), (v_td 8), .int 0])), (h_rd, .inr (4, [(v_rd 0), .int 0, .int 0, .int (-1), .ref h_td, (v_rd 5), (v_rd 6), .int 0, .int 0, .int (-1), (v_rd 10)]))] H := hP
  have hD : va_D A [(h_xx, .inr (7, [.ref h_rd, .ref h_td, .ref h_dr, (v_xx 3), (v_xx 4), .ref h_pv, .ref h_mx, .ref h_an])), (h_pv, .inr (3, [(v_pv 0), (v_pv 1), (v_pv 2), (v_pv 3), (v_pv 4), (v_pv 5), (v_pv 6), .int 0, (v_pv 8), .int 0, (v_pv 10), (v_pv 11), .int 0, .int 0, .int 0, .int 0, (v_pv 16), .int 0])), (h_mx, .inr (2, [(v_mx 0), (v_mx 1), (v_mx 2), (v_mx 3), (v_mx 4), (v_mx 5), (v_mx 6), (v_mx 7), (v_mx 8), (v_mx 9), (v_mx 10), (v_mx 11)])), (h_an, .inr (0, [(v_an 0), (v_an 1), (v_an 2), (v_an 3), .int 0, .int 0])), (h_dr, .inr (5, [(v_dr 0), (v_dr 1), (v_dr 2), (v_dr 3), .int 0, (v_dr 5), (v_dr 6), (v_dr 7), (v_dr 8), .int 0])), (h_td, .inr (5, [(v_td 0), (v_td 1), (v_td 2), (v_td 3), .int 0, (v_td 5), (v_td 6), (v_td 7), (v_td 8), .int 0])), (h_rd, .inr (4, [(v_rd 0), .int 0, .int 0, .int (-1), .ref h_td, (v_rd 5), (v_rd 6), .int 0, .int 0, .int (-1), (v_rd 10)]))] := hD
  refine lv_aload_n hx hb dX10_clauses_42 rfl (lv_at hl 1 rfl) ?_
  have hPc := hP.sub (ws' := [(h_xx, .inr (7, [.ref h_rd, .ref h_td, .ref h_dr, (v_xx 3), (v_xx 4), .ref h_pv, .ref h_mx, .ref h_an])), (h_pv, .inr (3, [(v_pv 0), (v_pv 1), (v_pv 2), (v_pv 3), (v_pv 4), (v_pv 5), (v_pv 6), .int 0, (v_pv 8), .int 0, (v_pv 10), (v_pv 11), .int 0, .int 0, .int 0, .int 0, (v_pv 16), .int 0])), (h_mx, .inr (2, [(v_mx 0), (v_mx 1), (v_mx 2), (v_mx 3), (v_mx 4), (v_mx 5), (v_mx 6), (v_mx 7), (v_mx 8), (v_mx 9), (v_mx 10), (v_mx 11)])), (h_an, .inr (0, [(v_an 0), (v_an 1), (v_an 2), (v_an 3), .int 0, .int 0]))]) [0, 1, 2, 3] rfl
  have hDc := hD.sub (ws' := [(h_xx, .inr (7, [.ref h_rd, .ref h_td, .ref h_dr, (v_xx 3), (v_xx 4), .ref h_pv, .ref h_mx, .ref h_an])), (h_pv, .inr (3, [(v_pv 0), (v_pv 1), (v_pv 2), (v_pv 3), (v_pv 4), (v_pv 5), (v_pv 6), .int 0, (v_pv 8), .int 0, (v_pv 10), (v_pv 11), .int 0, .int 0, .int 0, .int 0, (v_pv 16), .int 0])), (h_mx, .inr (2, [(v_mx 0), (v_mx 1), (v_mx 2), (v_mx 3), (v_mx 4), (v_mx 5), (v_mx 6), (v_mx 7), (v_mx 8), (v_mx 9), (v_mx 10), (v_mx 11)])), (h_an, .inr (0, [(v_an 0), (v_an 1), (v_an 2), (v_an 3), .int 0, .int 0]))]) [0, 1, 2, 3] (by decide) rfl
  have hKc := hK.sub (tys' := []) [] rfl
  have hFc := va_free (wc := [(h_xx, .inr (7, [.ref h_rd, .ref h_td, .ref h_dr, (v_xx 3), (v_xx 4), .ref h_pv, .ref h_mx, .ref h_an])), (h_pv, .inr (3, [(v_pv 0), (v_pv 1), (v_pv 2), (v_pv 3), (v_pv 4), (v_pv 5), (v_pv 6), .int 0, (v_pv 8), .int 0, (v_pv 10), (v_pv 11), .int 0, .int 0, .int 0, .int 0, (v_pv 16), .int 0])), (h_mx, .inr (2, [(v_mx 0), (v_mx 1), (v_mx 2), (v_mx 3), (v_mx 4), (v_mx 5), (v_mx 6), (v_mx 7), (v_mx 8), (v_mx 9), (v_mx 10), (v_mx 11)])), (h_an, .inr (0, [(v_an 0), (v_an 1), (v_an 2), (v_an 3), .int 0, .int 0]))]) hD hS hA [0, 1, 2, 3] rfl
  refine va_callv (va_runV (As := []) (rest := []) ⟨hx, hb, hml, hown, hts⟩ (c_X10_forgetAll l dC dI H.size h_xx h_pv h_mx h_an (fun k => List.getD [.ref h_rd, .ref h_td, .ref h_dr, (v_xx 3), (v_xx 4), .ref h_pv, .ref h_mx, .ref h_an] k .null) (fun k => List.getD [(v_pv 0), (v_pv 1), (v_pv 2), (v_pv 3), (v_pv 4), (v_pv 5), (v_pv 6), .int 0, (v_pv 8), .int 0, (v_pv 10), (v_pv 11), .int 0, .int 0, .int 0, .int 0, (v_pv 16), .int 0] k .null) v_mx (fun k => List.getD [(v_an 0), (v_an 1), (v_an 2), (v_an 3), .int 0, .int 0] k .null)) (cwV 0 hts (gv hT w_m_X10_81 w_instanceMethod_X10_forgetAll ws_sel_X10_forgetAll w_ini_X10 w_code_X10_forgetAll) rfl rfl rfl (by decide +kernel) ⟨(Nat.le_of_ble_eq_true rfl), (Nat.le_of_ble_eq_true rfl)⟩) ⟨pre_blind, va_recv hK hP (ci := 7) (q0 := 0) rfl rfl, pre_of hPc hKc hDc hN⟩ rfl rfl hl.1 rfl (lv_room (Nat.le_of_ble_eq_true rfl)) dX10_clauses_43 ⟨(Nat.le_of_ble_eq_true rfl), (Nat.le_of_ble_eq_true rfl)⟩) hS (fun q _ h => hFc q h) hFc (fun u t H locs ht hvm hq hB hz1 hk1 hS => ?_)
  obtain ⟨hP1, hK1, hD1⟩ := hB
  rw [ht] at hP1
  have hK1 := va_K.moved hvm.symm hK1
  obtain ⟨hP, hD⟩ := va_join (wr := [(h_dr, .inr (5, [(v_dr 0), (v_dr 1), (v_dr 2), (v_dr 3), .int 0, (v_dr 5), (v_dr 6), (v_dr 7), (v_dr 8), .int 0])), (h_td, .inr (5, [(v_td 0), (v_td 1), (v_td 2), (v_td 3), .int 0, (v_td 5), (v_td 6), (v_td 7), (v_td 8), .int 0])), (h_rd, .inr (4, [(v_rd 0), .int 0, .int 0, .int (-1), .ref h_td, (v_rd 5), (v_rd 6), .int 0, .int 0, .int (-1), (v_rd 10)]))]) (w1 := [(h_xx, .inr (7, [.ref h_rd, .ref h_td, .ref h_dr, (v_xx 3), (v_xx 4), .ref h_pv, .ref h_mx, .ref h_an])), (h_pv, .inr (3, [(v_pv 0), (v_pv 1), (v_pv 2), (v_pv 3), (v_pv 4), (v_pv 5), (v_pv 6), .int 0, (v_pv 8), .int 0, (v_pv 10), (v_pv 11), .int 0, .int 0, .int 0, .int 0, (v_pv 16), .int 0])), (h_an, .inr (0, [(v_an 0), (v_an 1), (v_an 2), (v_an 3), .int 0, .int 0])), (h_mx, .inr (2, [(v_mx 0), (v_mx 1), (v_mx 2), (v_mx 3), .int 0, (v_mx 5), (v_mx 6), (v_mx 7), (v_mx 8), (v_mx 9), .int (-2), (v_mx 11)]))]) hP hD [0, 1, 2, 3] [4, 5, 6] rfl rfl (by decide) (by decide) hk1 hFc hP1 hD1
  have hP : va_P (dC, dI) cls [(h_dr, .inr (5, [(v_dr 0), (v_dr 1), (v_dr 2), (v_dr 3), .int 0, (v_dr 5), (v_dr 6), (v_dr 7), (v_dr 8), .int 0])), (h_td, .inr (5, [(v_td 0), (v_td 1), (v_td 2), (v_td 3), .int 0, (v_td 5), (v_td 6), (v_td 7), (v_td 8), .int 0])), (h_rd, .inr (4, [(v_rd 0), .int 0, .int 0, .int (-1), .ref h_td, (v_rd 5), (v_rd 6), .int 0, .int 0, .int (-1), (v_rd 10)])), (h_xx, .inr (7, [.ref h_rd, .ref h_td, .ref h_dr, (v_xx 3), (v_xx 4), .ref h_pv, .ref h_mx, .ref h_an])), (h_pv, .inr (3, [(v_pv 0), (v_pv 1), (v_pv 2), (v_pv 3), (v_pv 4), (v_pv 5), (v_pv 6), .int 0, (v_pv 8), .int 0, (v_pv 10), (v_pv 11), .int 0, .int 0, .int 0, .int 0, (v_pv 16), .int 0])), (h_an, .inr (0, [(v_an 0), (v_an 1), (v_an 2), (v_an 3), .int 0, .int 0])), (h_mx, .inr (2, [(v_mx 0), (v_mx 1), (v_mx 2), (v_mx 3), .int 0, (v_mx 5), (v_mx 6), (v_mx 7), (v_mx 8), (v_mx 9), .int (-2), (v_mx 11)]))] H := hP
  have hD : va_D A [(h_dr, .inr (5, [(v_dr 0), (v_dr 1), (v_dr 2), (v_dr 3), .int 0, (v_dr 5), (v_dr 6), (v_dr 7), (v_dr 8), .int 0])), (h_td, .inr (5, [(v_td 0), (v_td 1), (v_td 2), (v_td 3), .int 0, (v_td 5), (v_td 6), (v_td 7), (v_td 8), .int 0])), (h_rd, .inr (4, [(v_rd 0), .int 0, .int 0, .int (-1), .ref h_td, (v_rd 5), (v_rd 6), .int 0, .int 0, .int (-1), (v_rd 10)])), (h_xx, .inr (7, [.ref h_rd, .ref h_td, .ref h_dr, (v_xx 3), (v_xx 4), .ref h_pv, .ref h_mx, .ref h_an])), (h_pv, .inr (3, [(v_pv 0), (v_pv 1), (v_pv 2), (v_pv 3), (v_pv 4), (v_pv 5), (v_pv 6), .int 0, (v_pv 8), .int 0, (v_pv 10), (v_pv 11), .int 0, .int 0, .int 0, .int 0, (v_pv 16), .int 0])), (h_an, .inr (0, [(v_an 0), (v_an 1), (v_an 2), (v_an 3), .int 0, .int 0])), (h_mx, .inr (2, [(v_mx 0), (v_mx 1), (v_mx 2), (v_mx 3), .int 0, (v_mx 5), (v_mx 6), (v_mx 7), (v_mx 8), (v_mx 9), .int (-2), (v_mx 11)]))] := hD
  refine lv_aload_n hx hb dX10_clauses_46 rfl (lv_at hl 1 rfl) ?_
  refine va_get (D := (dC, dI)) (ci := 7) (v := .ref h_rd) (C := RX10) (T := TX10) (N := 8) hx hb hw iwX10 hown hK hP 3 rfl rfl 0 (by decide) (hw _ w_f_X10_12) (fun _ h9 => h9) rfl dX10_clauses_47 ?_
  refine lv_iconst (v := 0) hx hb dX10_clauses_50 (by decide) ?_
  refine va_putN (D := (dC, dI)) (ci := 4) (v := .int 0) (ty := tyX5 1) (C := RX5) (T := TX5) (N := 11) (host := "OppositePairs") hx hb hw iwX5 tyX5 tyX5_ok nmX5 hown hK hP hD hS 2 rfl rfl 1 (by decide) (hN.use n_f_X10_67 rfl) (fun _ h9 => h9) rfl (tyX5_ok 1 (by decide)) rfl rfl (Nat.le_of_ble_eq_true rfl) dX10_clauses_51 (fun H locs hP hD hS => ?_)
  have hP : va_P (dC, dI) cls [(h_dr, .inr (5, [(v_dr 0), (v_dr 1), (v_dr 2), (v_dr 3), .int 0, (v_dr 5), (v_dr 6), (v_dr 7), (v_dr 8), .int 0])), (h_td, .inr (5, [(v_td 0), (v_td 1), (v_td 2), (v_td 3), .int 0, (v_td 5), (v_td 6), (v_td 7), (v_td 8), .int 0])), (h_rd, .inr (4, [(v_rd 0), .int 0, .int 0, .int (-1), .ref h_td, (v_rd 5), (v_rd 6), .int 0, .int 0, .int (-1), (v_rd 10)])), (h_xx, .inr (7, [.ref h_rd, .ref h_td, .ref h_dr, (v_xx 3), (v_xx 4), .ref h_pv, .ref h_mx, .ref h_an])), (h_pv, .inr (3, [(v_pv 0), (v_pv 1), (v_pv 2), (v_pv 3), (v_pv 4), (v_pv 5), (v_pv 6), .int 0, (v_pv 8), .int 0, (v_pv 10), (v_pv 11), .int 0, .int 0, .int 0, .int 0, (v_pv 16), .int 0])), (h_an, .inr (0, [(v_an 0), (v_an 1), (v_an 2), (v_an 3), .int 0, .int 0])), (h_mx, .inr (2, [(v_mx 0), (v_mx 1), (v_mx 2), (v_mx 3), .int 0, (v_mx 5), (v_mx 6), (v_mx 7), (v_mx 8), (v_mx 9), .int (-2), (v_mx 11)]))] H := hP
  have hD : va_D A [(h_dr, .inr (5, [(v_dr 0), (v_dr 1), (v_dr 2), (v_dr 3), .int 0, (v_dr 5), (v_dr 6), (v_dr 7), (v_dr 8), .int 0])), (h_td, .inr (5, [(v_td 0), (v_td 1), (v_td 2), (v_td 3), .int 0, (v_td 5), (v_td 6), (v_td 7), (v_td 8), .int 0])), (h_rd, .inr (4, [(v_rd 0), .int 0, .int 0, .int (-1), .ref h_td, (v_rd 5), (v_rd 6), .int 0, .int 0, .int (-1), (v_rd 10)])), (h_xx, .inr (7, [.ref h_rd, .ref h_td, .ref h_dr, (v_xx 3), (v_xx 4), .ref h_pv, .ref h_mx, .ref h_an])), (h_pv, .inr (3, [(v_pv 0), (v_pv 1), (v_pv 2), (v_pv 3), (v_pv 4), (v_pv 5), (v_pv 6), .int 0, (v_pv 8), .int 0, (v_pv 10), (v_pv 11), .int 0, .int 0, .int 0, .int 0, (v_pv 16), .int 0])), (h_an, .inr (0, [(v_an 0), (v_an 1), (v_an 2), (v_an 3), .int 0, .int 0])), (h_mx, .inr (2, [(v_mx 0), (v_mx 1), (v_mx 2), (v_mx 3), .int 0, (v_mx 5), (v_mx 6), (v_mx 7), (v_mx 8), (v_mx 9), .int (-2), (v_mx 11)]))] := hD
  refine lv_iload_n hx hb dX10_clauses_54 rfl (lv_at hl 0 rfl) ?_
  refine lv_if_eq (tgt := 68) hx hb dX10_clauses_55 (by decide) (fun c9 => absurd c9 (by decide)) (fun _ => ?_)
  refine lv_aload_n hx hb dX10_clauses_58 rfl (lv_at hl 1 rfl) ?_
  refine va_get (D := (dC, dI)) (ci := 7) (v := .ref h_td) (C := RX10) (T := TX10) (N := 8) hx hb hw iwX10 hown hK hP 3 rfl rfl 1 (by decide) (hw _ w_f_X10_19) (fun _ h9 => h9) rfl dX10_clauses_59 ?_
  refine va_getN (D := (dC, dI)) (ci := 5) (v := .int 0) (C := RX8) (T := TX8) (N := 10) (host := "OppositePairs") hx hb hw iwX8 hown hK hP 1 rfl rfl 9 (by decide) (hN.use n_f_X10_84 rfl) (fun _ h9 => h9) rfl dX10_clauses_62 ?_
  refine lv_goto (tgt := 69) hx hb dX10_clauses_65 (by decide) ?_
  refine W.widen (k := 0) (n := 0) (Nat.le_of_ble_eq_true rfl) (Nat.le_of_ble_eq_true rfl) ?_
  exact W.iret (v := 0) hx hb hr (fun t ht hW => ⟨⟨0, (), rfl, rfl, trivial⟩, hS.F ht⟩) hS.2.2 dX10_clauses_69

set_option maxHeartbeats 4000000 in
set_option maxRecDepth 100000 in
theorem c_X10_fault (l : Launch) (dC : Nat → ClassId) (dI : Nat → Nat → Nat) (sz : Nat) (h_xx : Nat) (h_rd : Nat) (v_xx : Nat → Value) (v_rd : Nat → Value) (p1 : Int32) : Met l yX10_fault (Ws yX10_fault cX10_fault 2 (some .int)) ({ frames := 0, cells := 0, slots := 0, locals := 0 }) (PRE (dC, dI) cls [] [(h_xx, .inr (7, [.ref h_rd, (v_xx 1), (v_xx 2), (v_xx 3), (v_xx 4), (v_xx 5), (v_xx 6), (v_xx 7)])), (h_rd, .inr (4, [(v_rd 0), .int 0, .int 0, .int (-1), (v_rd 4), (v_rd 5), (v_rd 6), (v_rd 7), (v_rd 8), (v_rd 9), (v_rd 10)]))] sz [.ref h_xx, .int p1]) (va_Qi (fun (r : Int32) (_ : Unit) => r = an_fault p1) (fun (_ : Unit) (_ : State) => True) (va_A [(h_xx, .inr (7, [.ref h_rd, (v_xx 1), (v_xx 2), (v_xx 3), (v_xx 4), (v_xx 5), (v_xx 6), (v_xx 7)])), (h_rd, .inr (4, [(v_rd 0), .int 0, .int 0, .int (-1), (v_rd 4), (v_rd 5), (v_rd 6), (v_rd 7), (v_rd 8), (v_rd 9), (v_rd 10)]))] sz)) 0 0 (va_A [(h_xx, .inr (7, [.ref h_rd, (v_xx 1), (v_xx 2), (v_xx 3), (v_xx 4), (v_xx 5), (v_xx 6), (v_xx 7)])), (h_rd, .inr (4, [(v_rd 0), .int 0, .int 0, .int (-1), (v_rd 4), (v_rd 5), (v_rd 6), (v_rd 7), (v_rd 8), (v_rd 9), (v_rd 10)]))] sz) := by
  refine Met.ofW (cc := cX10_fault) (maxL := 2) (ret := (some .int)) (by decide) rfl ?_
  intro p e s m args below meth c s₁ B hml hv
  obtain ⟨rfl, hsz, hP, hK, hD0, hN⟩ := hv
  have hx := B.exec
  have hb := B.bytes
  have hr := B.returns
  have hts := atoms_spec (ws := Ws yX10_fault cX10_fault 2 (some .int)) B.pre
  have hT : ∀ w ∈ WALL, w ∈ Ws yX10_fault cX10_fault 2 (some .int) := fun w h => List.mem_cons_of_mem _ h
  have hw := fun w (h : w ∈ WALL) => hts w (hT w h)
  have hown : s.vm.findClass RX10 = some m.cls := findClass_of_methodNamed B.named
  have hlocks := B.notSynchronized
  subst hsz
  have hD := hD0.self (sz := s.heap.size)
  generalize hAe : va_A [(h_xx, .inr (7, [.ref h_rd, (v_xx 1), (v_xx 2), (v_xx 3), (v_xx 4), (v_xx 5), (v_xx 6), (v_xx 7)])), (h_rd, .inr (4, [(v_rd 0), .int 0, .int 0, .int (-1), (v_rd 4), (v_rd 5), (v_rd 6), (v_rd 7), (v_rd 8), (v_rd 9), (v_rd 10)]))] s.heap.size = A at hD ⊢
  have hA : ∀ q : Nat, s.heap.size ≤ q → A q := fun q h => by rw [← hAe]; exact Or.inr h
  have hS : va_S A s.heap s.heap [] := va_S.rf
  have hl := lv_entry ([.ref h_xx, .int p1]) (n := 2) (Nat.le_of_ble_eq_true rfl)
  rw [lg_entry_eq]
  generalize (lg_sl ([.ref h_xx, .int p1]) ++ List.replicate (2 - (lg_sl ([.ref h_xx, .int p1])).length) Slot.unset).toArray = ls at hl ⊢
  have hl : lv_has ls 2 [(0, .ref h_xx), (1, .int p1)] := hl
  refine lv_iload_n hx hb dX10_fault_0 rfl (lv_at hl 1 rfl) ?_
  have s1 : (p1).toInt = 0 ∨ (p1).toInt = 1 ∨ (¬ (p1).toInt = 0 ∧ ¬ (p1).toInt = 1) := by omega
  rcases s1 with s1 | s1 | s1
  · refine lv_lookup (off := 27) (tgt := 28) hx hb dX10_fault_1 (by decide) (by rw [s1]; rfl) (by decide) ?_
    refine lv_aload_n hx hb dX10_fault_28 rfl (lv_at hl 0 rfl) ?_
    refine va_get (D := (dC, dI)) (ci := 7) (v := .ref h_rd) (C := RX10) (T := TX10) (N := 8) hx hb hw iwX10 hown hK hP 0 rfl rfl 0 (by decide) (hw _ w_f_X10_12) (fun _ h9 => h9) rfl dX10_fault_29 ?_
    refine va_getN (D := (dC, dI)) (ci := 4) (v := .int 0) (C := RX5) (T := TX5) (N := 11) (host := "OppositePairs") hx hb hw iwX5 hown hK hP 1 rfl rfl 2 (by decide) (hN.use n_f_X10_78 rfl) (fun _ h9 => h9) rfl dX10_fault_32 ?_
    refine W.widen (k := 0) (n := 0) (Nat.le_of_ble_eq_true rfl) (Nat.le_of_ble_eq_true rfl) ?_
    exact W.iret (v := 0) hx hb hr (fun t ht hW => ⟨⟨0, (), rfl, (by unfold an_fault; split <;> first | rfl | (exfalso; omega)), trivial⟩, hS.F ht⟩) hS.2.2 dX10_fault_35
  · refine lv_lookup (off := 35) (tgt := 36) hx hb dX10_fault_1 (by decide) (by rw [s1]; rfl) (by decide) ?_
    refine lv_aload_n hx hb dX10_fault_36 rfl (lv_at hl 0 rfl) ?_
    refine va_get (D := (dC, dI)) (ci := 7) (v := .ref h_rd) (C := RX10) (T := TX10) (N := 8) hx hb hw iwX10 hown hK hP 0 rfl rfl 0 (by decide) (hw _ w_f_X10_12) (fun _ h9 => h9) rfl dX10_fault_37 ?_
    refine va_getN (D := (dC, dI)) (ci := 4) (v := .int (-1)) (C := RX5) (T := TX5) (N := 11) (host := "OppositePairs") hx hb hw iwX5 hown hK hP 1 rfl rfl 3 (by decide) (hN.use n_f_X10_87 rfl) (fun _ h9 => h9) rfl dX10_fault_40 ?_
    refine W.widen (k := 0) (n := 0) (Nat.le_of_ble_eq_true rfl) (Nat.le_of_ble_eq_true rfl) ?_
    exact W.iret (v := (-1)) hx hb hr (fun t ht hW => ⟨⟨(-1), (), rfl, (by unfold an_fault; split <;> first | rfl | (exfalso; omega)), trivial⟩, hS.F ht⟩) hS.2.2 dX10_fault_43
  · refine lv_lookup (off := 43) (tgt := 44) hx hb dX10_fault_1 (by decide) (by simp [Op.lookupswitch.offset, s1.1, s1.2, Ne.symm]; omega) (by decide) ?_
    refine lv_iconst (v := (-1)) hx hb dX10_fault_44 (by decide) ?_
    refine W.widen (k := 0) (n := 0) (Nat.le_of_ble_eq_true rfl) (Nat.le_of_ble_eq_true rfl) ?_
    exact W.iret (v := (-1)) hx hb hr (fun t ht hW => ⟨⟨(-1), (), rfl, (by unfold an_fault; split <;> first | rfl | (exfalso; omega)), trivial⟩, hS.F ht⟩) hS.2.2 dX10_fault_45

set_option maxHeartbeats 4000000 in
set_option maxRecDepth 100000 in
theorem c_X10_drop (l : Launch) (dC : Nat → ClassId) (dI : Nat → Nat → Nat) (sz : Nat) (h_xx : Nat) (h_td : Nat) (v_xx : Nat → Value) (v_td : Nat → Value) (p1 : Int32) : Met l yX10_drop (Ws yX10_drop cX10_drop 2 (some .boolean)) ({ frames := 1, cells := 0, slots := 0, locals := 21 }) (PRE (dC, dI) cls [] [(h_xx, .inr (7, [(v_xx 0), .ref h_td, (v_xx 2), (v_xx 3), (v_xx 4), (v_xx 5), (v_xx 6), (v_xx 7)])), (h_td, .inr (5, [(v_td 0), (v_td 1), (v_td 2), (v_td 3), (v_td 4), (v_td 5), (v_td 6), (v_td 7), (v_td 8), .int 0]))] sz [.ref h_xx, .int p1]) (va_Qi (fun (r : Int32) (_ : Unit) => r = 0) (fun (_ : Unit) (_ : State) => True) (va_A [(h_xx, .inr (7, [(v_xx 0), .ref h_td, (v_xx 2), (v_xx 3), (v_xx 4), (v_xx 5), (v_xx 6), (v_xx 7)])), (h_td, .inr (5, [(v_td 0), (v_td 1), (v_td 2), (v_td 3), (v_td 4), (v_td 5), (v_td 6), (v_td 7), (v_td 8), .int 0]))] sz)) 0 0 (va_A [(h_xx, .inr (7, [(v_xx 0), .ref h_td, (v_xx 2), (v_xx 3), (v_xx 4), (v_xx 5), (v_xx 6), (v_xx 7)])), (h_td, .inr (5, [(v_td 0), (v_td 1), (v_td 2), (v_td 3), (v_td 4), (v_td 5), (v_td 6), (v_td 7), (v_td 8), .int 0]))] sz) := by
  refine Met.ofW (cc := cX10_drop) (maxL := 2) (ret := (some .boolean)) (by decide) rfl ?_
  intro p e s m args below meth c s₁ B hml hv
  obtain ⟨rfl, hsz, hP, hK, hD0, hN⟩ := hv
  have hx := B.exec
  have hb := B.bytes
  have hr := B.returns
  have hts := atoms_spec (ws := Ws yX10_drop cX10_drop 2 (some .boolean)) B.pre
  have hT : ∀ w ∈ WALL, w ∈ Ws yX10_drop cX10_drop 2 (some .boolean) := fun w h => List.mem_cons_of_mem _ h
  have hw := fun w (h : w ∈ WALL) => hts w (hT w h)
  have hown : s.vm.findClass RX10 = some m.cls := findClass_of_methodNamed B.named
  have hlocks := B.notSynchronized
  subst hsz
  have hD := hD0.self (sz := s.heap.size)
  generalize hAe : va_A [(h_xx, .inr (7, [(v_xx 0), .ref h_td, (v_xx 2), (v_xx 3), (v_xx 4), (v_xx 5), (v_xx 6), (v_xx 7)])), (h_td, .inr (5, [(v_td 0), (v_td 1), (v_td 2), (v_td 3), (v_td 4), (v_td 5), (v_td 6), (v_td 7), (v_td 8), .int 0]))] s.heap.size = A at hD ⊢
  have hA : ∀ q : Nat, s.heap.size ≤ q → A q := fun q h => by rw [← hAe]; exact Or.inr h
  have hS : va_S A s.heap s.heap [] := va_S.rf
  have hl := lv_entry ([.ref h_xx, .int p1]) (n := 2) (Nat.le_of_ble_eq_true rfl)
  rw [lg_entry_eq]
  generalize (lg_sl ([.ref h_xx, .int p1]) ++ List.replicate (2 - (lg_sl ([.ref h_xx, .int p1])).length) Slot.unset).toArray = ls at hl ⊢
  have hl : lv_has ls 2 [(0, .ref h_xx), (1, .int p1)] := hl
  refine lv_aload_n hx hb dX10_drop_0 rfl (lv_at hl 0 rfl) ?_
  refine va_get (D := (dC, dI)) (ci := 7) (v := .ref h_td) (C := RX10) (T := TX10) (N := 8) hx hb hw iwX10 hown hK hP 0 rfl rfl 1 (by decide) (hw _ w_f_X10_19) (fun _ h9 => h9) rfl dX10_drop_1 ?_
  refine lv_iload_n hx hb dX10_drop_4 rfl (lv_at hl 1 rfl) ?_
  have hPc := hP.sub (ws' := [(h_td, .inr (5, [(v_td 0), (v_td 1), (v_td 2), (v_td 3), (v_td 4), (v_td 5), (v_td 6), (v_td 7), (v_td 8), .int 0]))]) [1] rfl
  have hDc := hD.sub (ws' := [(h_td, .inr (5, [(v_td 0), (v_td 1), (v_td 2), (v_td 3), (v_td 4), (v_td 5), (v_td 6), (v_td 7), (v_td 8), .int 0]))]) [1] (by decide) rfl
  have hKc := hK.sub (tys' := []) [] rfl
  have hFc := va_free (wc := [(h_td, .inr (5, [(v_td 0), (v_td 1), (v_td 2), (v_td 3), (v_td 4), (v_td 5), (v_td 6), (v_td 7), (v_td 8), .int 0]))]) hD hS hA [1] rfl
  refine va_calli (va_runVN (As := [.int p1]) (rest := []) ⟨hx, hb, hml, hown, hts⟩ (c_X8_isClause l dC dI s.heap.size h_td v_td p1) ⟨va_cnB (host := "OppositePairs") 1 hts (gd hT w_code_X8_isClause) rfl rfl rfl (hN _ n_m_X10_90) (hw _ w_ini_X8) (by decide +kernel) ⟨(Nat.le_of_ble_eq_true rfl), (Nat.le_of_ble_eq_true rfl)⟩, hw _ w_instanceMethod_X8_isClause, hw _ ws_sel_X8_isClause⟩ ⟨pre_blind, va_recv hK hP (ci := 5) (q0 := 1) rfl rfl, pre_of hPc hKc hDc hN⟩ rfl rfl hl.1 rfl (lv_room (Nat.le_of_ble_eq_true rfl)) dX10_drop_5 ⟨(Nat.le_of_ble_eq_true rfl), (Nat.le_of_ble_eq_true rfl)⟩) hS (fun q _ h => hFc q h) hFc (fun r1 u t H locs ht hvm hq hB hz1 hk1 hS => ?_)
  obtain ⟨hP, hD⟩ := va_join (wr := [(h_xx, .inr (7, [(v_xx 0), .ref h_td, (v_xx 2), (v_xx 3), (v_xx 4), (v_xx 5), (v_xx 6), (v_xx 7)]))]) (w1 := []) hP hD [1] [0] rfl rfl (by decide) (by decide) hk1 hFc P_nil D_nil
  have hP : va_P (dC, dI) cls [(h_xx, .inr (7, [(v_xx 0), .ref h_td, (v_xx 2), (v_xx 3), (v_xx 4), (v_xx 5), (v_xx 6), (v_xx 7)]))] H := hP
  have hD : va_D A [(h_xx, .inr (7, [(v_xx 0), .ref h_td, (v_xx 2), (v_xx 3), (v_xx 4), (v_xx 5), (v_xx 6), (v_xx 7)]))] := hD
  obtain rfl : r1 = 0 := hq
  refine lv_if_ne (tgt := 13) hx hb dX10_drop_8 (by decide) (fun c9 => absurd c9 (by decide)) (fun _ => ?_)
  refine lv_iconst (v := 0) hx hb dX10_drop_11 (by decide) ?_
  refine W.widen (k := 0) (n := 0) (Nat.le_of_ble_eq_true rfl) (Nat.le_of_ble_eq_true rfl) ?_
  exact W.zret (v := 0) (ty := .boolean) hx hb hr (by decide) (fun t ht hW => ⟨⟨0, (), rfl, rfl, trivial⟩, hS.F ht⟩) hS.2.2 dX10_drop_12

set_option maxHeartbeats 4000000 in
set_option maxRecDepth 100000 in
theorem c_X10_clause (l : Launch) (dC : Nat → ClassId) (dI : Nat → Nat → Nat) (sz : Nat) (h_xx : Nat) (h_td : Nat) (v_xx : Nat → Value) (v_td : Nat → Value) (p1 : Int32) (p2 : Int32) : Met l yX10_clause (Ws yX10_clause cX10_clause 3 (some .int)) ({ frames := 1, cells := 0, slots := 0, locals := 21 }) (PRE (dC, dI) cls [] [(h_xx, .inr (7, [(v_xx 0), .ref h_td, (v_xx 2), (v_xx 3), (v_xx 4), (v_xx 5), (v_xx 6), (v_xx 7)])), (h_td, .inr (5, [(v_td 0), (v_td 1), (v_td 2), (v_td 3), (v_td 4), (v_td 5), (v_td 6), (v_td 7), (v_td 8), .int 0]))] sz [.ref h_xx, .int p1, .int p2]) (va_Qi (fun (r : Int32) (_ : Unit) => r = (-1)) (fun (_ : Unit) (_ : State) => True) (va_A [(h_xx, .inr (7, [(v_xx 0), .ref h_td, (v_xx 2), (v_xx 3), (v_xx 4), (v_xx 5), (v_xx 6), (v_xx 7)])), (h_td, .inr (5, [(v_td 0), (v_td 1), (v_td 2), (v_td 3), (v_td 4), (v_td 5), (v_td 6), (v_td 7), (v_td 8), .int 0]))] sz)) 0 0 (va_A [(h_xx, .inr (7, [(v_xx 0), .ref h_td, (v_xx 2), (v_xx 3), (v_xx 4), (v_xx 5), (v_xx 6), (v_xx 7)])), (h_td, .inr (5, [(v_td 0), (v_td 1), (v_td 2), (v_td 3), (v_td 4), (v_td 5), (v_td 6), (v_td 7), (v_td 8), .int 0]))] sz) := by
  refine Met.ofW (cc := cX10_clause) (maxL := 3) (ret := (some .int)) (by decide) rfl ?_
  intro p e s m args below meth c s₁ B hml hv
  obtain ⟨rfl, hsz, hP, hK, hD0, hN⟩ := hv
  have hx := B.exec
  have hb := B.bytes
  have hr := B.returns
  have hts := atoms_spec (ws := Ws yX10_clause cX10_clause 3 (some .int)) B.pre
  have hT : ∀ w ∈ WALL, w ∈ Ws yX10_clause cX10_clause 3 (some .int) := fun w h => List.mem_cons_of_mem _ h
  have hw := fun w (h : w ∈ WALL) => hts w (hT w h)
  have hown : s.vm.findClass RX10 = some m.cls := findClass_of_methodNamed B.named
  have hlocks := B.notSynchronized
  subst hsz
  have hD := hD0.self (sz := s.heap.size)
  generalize hAe : va_A [(h_xx, .inr (7, [(v_xx 0), .ref h_td, (v_xx 2), (v_xx 3), (v_xx 4), (v_xx 5), (v_xx 6), (v_xx 7)])), (h_td, .inr (5, [(v_td 0), (v_td 1), (v_td 2), (v_td 3), (v_td 4), (v_td 5), (v_td 6), (v_td 7), (v_td 8), .int 0]))] s.heap.size = A at hD ⊢
  have hA : ∀ q : Nat, s.heap.size ≤ q → A q := fun q h => by rw [← hAe]; exact Or.inr h
  have hS : va_S A s.heap s.heap [] := va_S.rf
  have hl := lv_entry ([.ref h_xx, .int p1, .int p2]) (n := 3) (Nat.le_of_ble_eq_true rfl)
  rw [lg_entry_eq]
  generalize (lg_sl ([.ref h_xx, .int p1, .int p2]) ++ List.replicate (3 - (lg_sl ([.ref h_xx, .int p1, .int p2])).length) Slot.unset).toArray = ls at hl ⊢
  have hl : lv_has ls 3 [(0, .ref h_xx), (1, .int p1), (2, .int p2)] := hl
  refine lv_aload_n hx hb dX10_clause_0 rfl (lv_at hl 0 rfl) ?_
  refine va_get (D := (dC, dI)) (ci := 7) (v := .ref h_td) (C := RX10) (T := TX10) (N := 8) hx hb hw iwX10 hown hK hP 0 rfl rfl 1 (by decide) (hw _ w_f_X10_19) (fun _ h9 => h9) rfl dX10_clause_1 ?_
  refine lv_iload_n hx hb dX10_clause_4 rfl (lv_at hl 1 rfl) ?_
  have hPc := hP.sub (ws' := [(h_td, .inr (5, [(v_td 0), (v_td 1), (v_td 2), (v_td 3), (v_td 4), (v_td 5), (v_td 6), (v_td 7), (v_td 8), .int 0]))]) [1] rfl
  have hDc := hD.sub (ws' := [(h_td, .inr (5, [(v_td 0), (v_td 1), (v_td 2), (v_td 3), (v_td 4), (v_td 5), (v_td 6), (v_td 7), (v_td 8), .int 0]))]) [1] (by decide) rfl
  have hKc := hK.sub (tys' := []) [] rfl
  have hFc := va_free (wc := [(h_td, .inr (5, [(v_td 0), (v_td 1), (v_td 2), (v_td 3), (v_td 4), (v_td 5), (v_td 6), (v_td 7), (v_td 8), .int 0]))]) hD hS hA [1] rfl
  refine va_calli (va_runVN (As := [.int p1]) (rest := []) ⟨hx, hb, hml, hown, hts⟩ (c_X8_isClause l dC dI s.heap.size h_td v_td p1) ⟨va_cnB (host := "OppositePairs") 1 hts (gd hT w_code_X8_isClause) rfl rfl rfl (hN _ n_m_X10_90) (hw _ w_ini_X8) (by decide +kernel) ⟨(Nat.le_of_ble_eq_true rfl), (Nat.le_of_ble_eq_true rfl)⟩, hw _ w_instanceMethod_X8_isClause, hw _ ws_sel_X8_isClause⟩ ⟨pre_blind, va_recv hK hP (ci := 5) (q0 := 1) rfl rfl, pre_of hPc hKc hDc hN⟩ rfl rfl hl.1 rfl (lv_room (Nat.le_of_ble_eq_true rfl)) dX10_clause_5 ⟨(Nat.le_of_ble_eq_true rfl), (Nat.le_of_ble_eq_true rfl)⟩) hS (fun q _ h => hFc q h) hFc (fun r1 u t H locs ht hvm hq hB hz1 hk1 hS => ?_)
  obtain ⟨hP, hD⟩ := va_join (wr := [(h_xx, .inr (7, [(v_xx 0), .ref h_td, (v_xx 2), (v_xx 3), (v_xx 4), (v_xx 5), (v_xx 6), (v_xx 7)]))]) (w1 := []) hP hD [1] [0] rfl rfl (by decide) (by decide) hk1 hFc P_nil D_nil
  have hP : va_P (dC, dI) cls [(h_xx, .inr (7, [(v_xx 0), .ref h_td, (v_xx 2), (v_xx 3), (v_xx 4), (v_xx 5), (v_xx 6), (v_xx 7)]))] H := hP
  have hD : va_D A [(h_xx, .inr (7, [(v_xx 0), .ref h_td, (v_xx 2), (v_xx 3), (v_xx 4), (v_xx 5), (v_xx 6), (v_xx 7)]))] := hD
  obtain rfl : r1 = 0 := hq
  refine lv_if_ne (tgt := 13) hx hb dX10_clause_8 (by decide) (fun c9 => absurd c9 (by decide)) (fun _ => ?_)
  refine lv_iconst (v := (-1)) hx hb dX10_clause_11 (by decide) ?_
  refine W.widen (k := 0) (n := 0) (Nat.le_of_ble_eq_true rfl) (Nat.le_of_ble_eq_true rfl) ?_
  exact W.iret (v := (-1)) hx hb hr (fun t ht hW => ⟨⟨(-1), (), rfl, rfl, trivial⟩, hS.F ht⟩) hS.2.2 dX10_clause_12

set_option maxHeartbeats 4000000 in
set_option maxRecDepth 100000 in
theorem c_X10_show (l : Launch) (dC : Nat → ClassId) (dI : Nat → Nat → Nat) (sz : Nat) (h_xx : Nat) (h_td : Nat) (v_xx : Nat → Value) (v_td : Nat → Value) (p1 : Int32) (p2 : Int32) : Met l yX10_show (Ws yX10_show cX10_show 3 (some .int)) ({ frames := 2, cells := 0, slots := 0, locals := 43 }) (PRE (dC, dI) cls [] [(h_xx, .inr (7, [(v_xx 0), .ref h_td, (v_xx 2), (v_xx 3), (v_xx 4), (v_xx 5), (v_xx 6), (v_xx 7)])), (h_td, .inr (5, [(v_td 0), (v_td 1), (v_td 2), (v_td 3), (v_td 4), (v_td 5), (v_td 6), (v_td 7), (v_td 8), .int 0]))] sz [.ref h_xx, .int p1, .int p2]) (va_Qi (fun (r : Int32) (_ : Unit) => r = (-1)) (fun (_ : Unit) (_ : State) => True) (va_A [(h_xx, .inr (7, [(v_xx 0), .ref h_td, (v_xx 2), (v_xx 3), (v_xx 4), (v_xx 5), (v_xx 6), (v_xx 7)])), (h_td, .inr (5, [(v_td 0), (v_td 1), (v_td 2), (v_td 3), (v_td 4), (v_td 5), (v_td 6), (v_td 7), (v_td 8), .int 0]))] sz)) 0 0 (va_A [(h_xx, .inr (7, [(v_xx 0), .ref h_td, (v_xx 2), (v_xx 3), (v_xx 4), (v_xx 5), (v_xx 6), (v_xx 7)])), (h_td, .inr (5, [(v_td 0), (v_td 1), (v_td 2), (v_td 3), (v_td 4), (v_td 5), (v_td 6), (v_td 7), (v_td 8), .int 0]))] sz) := by
  refine Met.ofW (cc := cX10_show) (maxL := 3) (ret := (some .int)) (by decide) rfl ?_
  intro p e s m args below meth c s₁ B hml hv
  obtain ⟨rfl, hsz, hP, hK, hD0, hN⟩ := hv
  have hx := B.exec
  have hb := B.bytes
  have hr := B.returns
  have hts := atoms_spec (ws := Ws yX10_show cX10_show 3 (some .int)) B.pre
  have hT : ∀ w ∈ WALL, w ∈ Ws yX10_show cX10_show 3 (some .int) := fun w h => List.mem_cons_of_mem _ h
  have hw := fun w (h : w ∈ WALL) => hts w (hT w h)
  have hown : s.vm.findClass RX10 = some m.cls := findClass_of_methodNamed B.named
  have hlocks := B.notSynchronized
  subst hsz
  have hD := hD0.self (sz := s.heap.size)
  generalize hAe : va_A [(h_xx, .inr (7, [(v_xx 0), .ref h_td, (v_xx 2), (v_xx 3), (v_xx 4), (v_xx 5), (v_xx 6), (v_xx 7)])), (h_td, .inr (5, [(v_td 0), (v_td 1), (v_td 2), (v_td 3), (v_td 4), (v_td 5), (v_td 6), (v_td 7), (v_td 8), .int 0]))] s.heap.size = A at hD ⊢
  have hA : ∀ q : Nat, s.heap.size ≤ q → A q := fun q h => by rw [← hAe]; exact Or.inr h
  have hS : va_S A s.heap s.heap [] := va_S.rf
  have hl := lv_entry ([.ref h_xx, .int p1, .int p2]) (n := 3) (Nat.le_of_ble_eq_true rfl)
  rw [lg_entry_eq]
  generalize (lg_sl ([.ref h_xx, .int p1, .int p2]) ++ List.replicate (3 - (lg_sl ([.ref h_xx, .int p1, .int p2])).length) Slot.unset).toArray = ls at hl ⊢
  have hl : lv_has ls 3 [(0, .ref h_xx), (1, .int p1), (2, .int p2)] := hl
  refine lv_aload_n hx hb dX10_show_0 rfl (lv_at hl 0 rfl) ?_
  refine va_get (D := (dC, dI)) (ci := 7) (v := .ref h_td) (C := RX10) (T := TX10) (N := 8) hx hb hw iwX10 hown hK hP 0 rfl rfl 1 (by decide) (hw _ w_f_X10_19) (fun _ h9 => h9) rfl dX10_show_1 ?_
  refine lv_iload_n hx hb dX10_show_4 rfl (lv_at hl 1 rfl) ?_
  refine lv_iload_n hx hb dX10_show_5 rfl (lv_at hl 2 rfl) ?_
  have hPc := hP.sub (ws' := [(h_td, .inr (5, [(v_td 0), (v_td 1), (v_td 2), (v_td 3), (v_td 4), (v_td 5), (v_td 6), (v_td 7), (v_td 8), .int 0]))]) [1] rfl
  have hDc := hD.sub (ws' := [(h_td, .inr (5, [(v_td 0), (v_td 1), (v_td 2), (v_td 3), (v_td 4), (v_td 5), (v_td 6), (v_td 7), (v_td 8), .int 0]))]) [1] (by decide) rfl
  have hKc := hK.sub (tys' := []) [] rfl
  have hFc := va_free (wc := [(h_td, .inr (5, [(v_td 0), (v_td 1), (v_td 2), (v_td 3), (v_td 4), (v_td 5), (v_td 6), (v_td 7), (v_td 8), .int 0]))]) hD hS hA [1] rfl
  refine va_calli (va_runVN (As := [.int p1, .int p2]) (rest := []) ⟨hx, hb, hml, hown, hts⟩ (c_X8_isLiteral l dC dI s.heap.size h_td v_td p1 p2) ⟨va_cnB (host := "OppositePairs") 2 hts (gd hT w_code_X8_isLiteral) rfl rfl rfl (hN _ n_m_X10_111) (hw _ w_ini_X8) (by decide +kernel) ⟨(Nat.le_of_ble_eq_true rfl), (Nat.le_of_ble_eq_true rfl)⟩, hw _ w_instanceMethod_X8_isLiteral, hw _ ws_sel_X8_isLiteral⟩ ⟨pre_blind, va_recv hK hP (ci := 5) (q0 := 1) rfl rfl, pre_of hPc hKc hDc hN⟩ rfl rfl hl.1 rfl (lv_room (Nat.le_of_ble_eq_true rfl)) dX10_show_6 ⟨(Nat.le_of_ble_eq_true rfl), (Nat.le_of_ble_eq_true rfl)⟩) hS (fun q _ h => hFc q h) hFc (fun r1 u t H locs ht hvm hq hB hz1 hk1 hS => ?_)
  obtain ⟨hP, hD⟩ := va_join (wr := [(h_xx, .inr (7, [(v_xx 0), .ref h_td, (v_xx 2), (v_xx 3), (v_xx 4), (v_xx 5), (v_xx 6), (v_xx 7)]))]) (w1 := []) hP hD [1] [0] rfl rfl (by decide) (by decide) hk1 hFc P_nil D_nil
  have hP : va_P (dC, dI) cls [(h_xx, .inr (7, [(v_xx 0), .ref h_td, (v_xx 2), (v_xx 3), (v_xx 4), (v_xx 5), (v_xx 6), (v_xx 7)]))] H := hP
  have hD : va_D A [(h_xx, .inr (7, [(v_xx 0), .ref h_td, (v_xx 2), (v_xx 3), (v_xx 4), (v_xx 5), (v_xx 6), (v_xx 7)]))] := hD
  obtain rfl : r1 = 0 := hq
  refine lv_if_ne (tgt := 14) hx hb dX10_show_9 (by decide) (fun c9 => absurd c9 (by decide)) (fun _ => ?_)
  refine lv_iconst (v := (-1)) hx hb dX10_show_12 (by decide) ?_
  refine W.widen (k := 0) (n := 0) (Nat.le_of_ble_eq_true rfl) (Nat.le_of_ble_eq_true rfl) ?_
  exact W.iret (v := (-1)) hx hb hr (fun t ht hW => ⟨⟨(-1), (), rfl, rfl, trivial⟩, hS.F ht⟩) hS.2.2 dX10_show_13

set_option maxHeartbeats 4000000 in
set_option maxRecDepth 100000 in
theorem c_X10_out (l : Launch) (dC : Nat → ClassId) (dI : Nat → Nat → Nat) (sz : Nat) (h_xx : Nat) (h_wr : Nat) (v_xx : Nat → Value) (v_wr : Nat → Value) (p1 : Int32) : Met l yX10_out (Ws yX10_out cX10_out 2 (some .int)) ({ frames := 0, cells := 0, slots := 0, locals := 0 }) (PRE (dC, dI) cls [] [(h_xx, .inr (7, [(v_xx 0), (v_xx 1), (v_xx 2), (v_xx 3), .ref h_wr, (v_xx 5), (v_xx 6), (v_xx 7)])), (h_wr, .inr (6, [(v_wr 0), (v_wr 1), (v_wr 2), .int 0, (v_wr 4), (v_wr 5), (v_wr 6), (v_wr 7)]))] sz [.ref h_xx, .int p1]) (va_Qi (fun (r : Int32) (_ : Unit) => r = (-1)) (fun (_ : Unit) (_ : State) => True) (va_A [(h_xx, .inr (7, [(v_xx 0), (v_xx 1), (v_xx 2), (v_xx 3), .ref h_wr, (v_xx 5), (v_xx 6), (v_xx 7)])), (h_wr, .inr (6, [(v_wr 0), (v_wr 1), (v_wr 2), .int 0, (v_wr 4), (v_wr 5), (v_wr 6), (v_wr 7)]))] sz)) 0 0 (va_A [(h_xx, .inr (7, [(v_xx 0), (v_xx 1), (v_xx 2), (v_xx 3), .ref h_wr, (v_xx 5), (v_xx 6), (v_xx 7)])), (h_wr, .inr (6, [(v_wr 0), (v_wr 1), (v_wr 2), .int 0, (v_wr 4), (v_wr 5), (v_wr 6), (v_wr 7)]))] sz) := by
  refine Met.ofW (cc := cX10_out) (maxL := 2) (ret := (some .int)) (by decide) rfl ?_
  intro p e s m args below meth c s₁ B hml hv
  obtain ⟨rfl, hsz, hP, hK, hD0, hN⟩ := hv
  have hx := B.exec
  have hb := B.bytes
  have hr := B.returns
  have hts := atoms_spec (ws := Ws yX10_out cX10_out 2 (some .int)) B.pre
  have hT : ∀ w ∈ WALL, w ∈ Ws yX10_out cX10_out 2 (some .int) := fun w h => List.mem_cons_of_mem _ h
  have hw := fun w (h : w ∈ WALL) => hts w (hT w h)
  have hown : s.vm.findClass RX10 = some m.cls := findClass_of_methodNamed B.named
  have hlocks := B.notSynchronized
  subst hsz
  have hD := hD0.self (sz := s.heap.size)
  generalize hAe : va_A [(h_xx, .inr (7, [(v_xx 0), (v_xx 1), (v_xx 2), (v_xx 3), .ref h_wr, (v_xx 5), (v_xx 6), (v_xx 7)])), (h_wr, .inr (6, [(v_wr 0), (v_wr 1), (v_wr 2), .int 0, (v_wr 4), (v_wr 5), (v_wr 6), (v_wr 7)]))] s.heap.size = A at hD ⊢
  have hA : ∀ q : Nat, s.heap.size ≤ q → A q := fun q h => by rw [← hAe]; exact Or.inr h
  have hS : va_S A s.heap s.heap [] := va_S.rf
  have hl := lv_entry ([.ref h_xx, .int p1]) (n := 2) (Nat.le_of_ble_eq_true rfl)
  rw [lg_entry_eq]
  generalize (lg_sl ([.ref h_xx, .int p1]) ++ List.replicate (2 - (lg_sl ([.ref h_xx, .int p1])).length) Slot.unset).toArray = ls at hl ⊢
  have hl : lv_has ls 2 [(0, .ref h_xx), (1, .int p1)] := hl
  refine lv_iload_n hx hb dX10_out_0 rfl (lv_at hl 1 rfl) ?_
  refine lv_if_lt (tgt := 15) hx hb dX10_out_1 (by decide) (fun c1 => ?_) (fun c1 => ?_)
  · have kc1 := (cv_lt (rfl : (p1).toInt = (p1).toInt) (by decide : (0 : Int32).toInt = 0)).mp c1
    refine lv_iconst (v := (-1)) hx hb dX10_out_15 (by decide) ?_
    refine W.widen (k := 0) (n := 0) (Nat.le_of_ble_eq_true rfl) (Nat.le_of_ble_eq_true rfl) ?_
    exact W.iret (v := (-1)) hx hb hr (fun t ht hW => ⟨⟨(-1), (), rfl, rfl, trivial⟩, hS.F ht⟩) hS.2.2 dX10_out_16
  · have kc1 := (not_congr (cv_lt (rfl : (p1).toInt = (p1).toInt) (by decide : (0 : Int32).toInt = 0))).mp c1
    refine lv_iload_n hx hb dX10_out_4 rfl (lv_at hl 1 rfl) ?_
    refine lv_aload_n hx hb dX10_out_5 rfl (lv_at hl 0 rfl) ?_
    refine va_get (D := (dC, dI)) (ci := 7) (v := .ref h_wr) (C := RX10) (T := TX10) (N := 8) hx hb hw iwX10 hown hK hP 0 rfl rfl 4 (by decide) (hw _ w_f_X10_40) (fun _ h9 => h9) rfl dX10_out_6 ?_
    refine va_getN (D := (dC, dI)) (ci := 6) (v := .int 0) (C := RX9) (T := TX9) (N := 8) (host := "OppositePairs") hx hb hw iwX9 hown hK hP 1 rfl rfl 3 (by decide) (hN.use n_f_X10_132 rfl) (fun _ h9 => h9) rfl dX10_out_9 ?_
    refine lv_icmp_lt (tgt := 17) hx hb dX10_out_12 (by decide) (fun c2 => False.elim (by have kc2 := (cv_lt (rfl : (p1).toInt = (p1).toInt) (by decide : (0 : Int32).toInt = 0)).mp c2; omega)) (fun _ => ?_)
    refine lv_iconst (v := (-1)) hx hb dX10_out_15 (by decide) ?_
    refine W.widen (k := 0) (n := 0) (Nat.le_of_ble_eq_true rfl) (Nat.le_of_ble_eq_true rfl) ?_
    exact W.iret (v := (-1)) hx hb hr (fun t ht hW => ⟨⟨(-1), (), rfl, rfl, trivial⟩, hS.F ht⟩) hS.2.2 dX10_out_16

set_option maxHeartbeats 4000000 in
set_option maxRecDepth 100000 in
theorem c_X10_meets (l : Launch) (dC : Nat → ClassId) (dI : Nat → Nat → Nat) (sz : Nat) (h_xx : Nat) (h_td : Nat) (v_xx : Nat → Value) (v_td : Nat → Value) (p1 : Int32) (p2 : Int32) (p3 : Int32) (p4 : Int32) : Met l yX10_meets (Ws yX10_meets cX10_meets 5 (some .int)) ({ frames := 2, cells := 0, slots := 0, locals := 43 }) (PRE (dC, dI) cls [] [(h_xx, .inr (7, [(v_xx 0), .ref h_td, (v_xx 2), (v_xx 3), (v_xx 4), (v_xx 5), (v_xx 6), (v_xx 7)])), (h_td, .inr (5, [(v_td 0), (v_td 1), (v_td 2), (v_td 3), (v_td 4), (v_td 5), (v_td 6), (v_td 7), (v_td 8), .int 0]))] sz [.ref h_xx, .int p1, .int p2, .int p3, .int p4]) (va_Qi (fun (r : Int32) (_ : Unit) => r = (-1)) (fun (_ : Unit) (_ : State) => True) (va_A [(h_xx, .inr (7, [(v_xx 0), .ref h_td, (v_xx 2), (v_xx 3), (v_xx 4), (v_xx 5), (v_xx 6), (v_xx 7)])), (h_td, .inr (5, [(v_td 0), (v_td 1), (v_td 2), (v_td 3), (v_td 4), (v_td 5), (v_td 6), (v_td 7), (v_td 8), .int 0]))] sz)) 0 0 (va_A [(h_xx, .inr (7, [(v_xx 0), .ref h_td, (v_xx 2), (v_xx 3), (v_xx 4), (v_xx 5), (v_xx 6), (v_xx 7)])), (h_td, .inr (5, [(v_td 0), (v_td 1), (v_td 2), (v_td 3), (v_td 4), (v_td 5), (v_td 6), (v_td 7), (v_td 8), .int 0]))] sz) := by
  refine Met.ofW (cc := cX10_meets) (maxL := 5) (ret := (some .int)) (by decide) rfl ?_
  intro p e s m args below meth c s₁ B hml hv
  obtain ⟨rfl, hsz, hP, hK, hD0, hN⟩ := hv
  have hx := B.exec
  have hb := B.bytes
  have hr := B.returns
  have hts := atoms_spec (ws := Ws yX10_meets cX10_meets 5 (some .int)) B.pre
  have hT : ∀ w ∈ WALL, w ∈ Ws yX10_meets cX10_meets 5 (some .int) := fun w h => List.mem_cons_of_mem _ h
  have hw := fun w (h : w ∈ WALL) => hts w (hT w h)
  have hown : s.vm.findClass RX10 = some m.cls := findClass_of_methodNamed B.named
  have hlocks := B.notSynchronized
  subst hsz
  have hD := hD0.self (sz := s.heap.size)
  generalize hAe : va_A [(h_xx, .inr (7, [(v_xx 0), .ref h_td, (v_xx 2), (v_xx 3), (v_xx 4), (v_xx 5), (v_xx 6), (v_xx 7)])), (h_td, .inr (5, [(v_td 0), (v_td 1), (v_td 2), (v_td 3), (v_td 4), (v_td 5), (v_td 6), (v_td 7), (v_td 8), .int 0]))] s.heap.size = A at hD ⊢
  have hA : ∀ q : Nat, s.heap.size ≤ q → A q := fun q h => by rw [← hAe]; exact Or.inr h
  have hS : va_S A s.heap s.heap [] := va_S.rf
  have hl := lv_entry ([.ref h_xx, .int p1, .int p2, .int p3, .int p4]) (n := 5) (Nat.le_of_ble_eq_true rfl)
  rw [lg_entry_eq]
  generalize (lg_sl ([.ref h_xx, .int p1, .int p2, .int p3, .int p4]) ++ List.replicate (5 - (lg_sl ([.ref h_xx, .int p1, .int p2, .int p3, .int p4])).length) Slot.unset).toArray = ls at hl ⊢
  have hl : lv_has ls 5 [(0, .ref h_xx), (1, .int p1), (2, .int p2), (3, .int p3), (4, .int p4)] := hl
  refine lv_aload_n hx hb dX10_meets_0 rfl (lv_at hl 0 rfl) ?_
  refine va_get (D := (dC, dI)) (ci := 7) (v := .ref h_td) (C := RX10) (T := TX10) (N := 8) hx hb hw iwX10 hown hK hP 0 rfl rfl 1 (by decide) (hw _ w_f_X10_19) (fun _ h9 => h9) rfl dX10_meets_1 ?_
  refine lv_iload_n hx hb dX10_meets_4 rfl (lv_at hl 1 rfl) ?_
  refine lv_iload_n hx hb dX10_meets_5 rfl (lv_at hl 2 rfl) ?_
  have hPc := hP.sub (ws' := [(h_td, .inr (5, [(v_td 0), (v_td 1), (v_td 2), (v_td 3), (v_td 4), (v_td 5), (v_td 6), (v_td 7), (v_td 8), .int 0]))]) [1] rfl
  have hDc := hD.sub (ws' := [(h_td, .inr (5, [(v_td 0), (v_td 1), (v_td 2), (v_td 3), (v_td 4), (v_td 5), (v_td 6), (v_td 7), (v_td 8), .int 0]))]) [1] (by decide) rfl
  have hKc := hK.sub (tys' := []) [] rfl
  have hFc := va_free (wc := [(h_td, .inr (5, [(v_td 0), (v_td 1), (v_td 2), (v_td 3), (v_td 4), (v_td 5), (v_td 6), (v_td 7), (v_td 8), .int 0]))]) hD hS hA [1] rfl
  refine va_calli (va_runVN (As := [.int p1, .int p2]) (rest := []) ⟨hx, hb, hml, hown, hts⟩ (c_X8_isLiteral l dC dI s.heap.size h_td v_td p1 p2) ⟨va_cnB (host := "OppositePairs") 2 hts (gd hT w_code_X8_isLiteral) rfl rfl rfl (hN _ n_m_X10_111) (hw _ w_ini_X8) (by decide +kernel) ⟨(Nat.le_of_ble_eq_true rfl), (Nat.le_of_ble_eq_true rfl)⟩, hw _ w_instanceMethod_X8_isLiteral, hw _ ws_sel_X8_isLiteral⟩ ⟨pre_blind, va_recv hK hP (ci := 5) (q0 := 1) rfl rfl, pre_of hPc hKc hDc hN⟩ rfl rfl hl.1 rfl (lv_room (Nat.le_of_ble_eq_true rfl)) dX10_meets_6 ⟨(Nat.le_of_ble_eq_true rfl), (Nat.le_of_ble_eq_true rfl)⟩) hS (fun q _ h => hFc q h) hFc (fun r1 u t H locs ht hvm hq hB hz1 hk1 hS => ?_)
  obtain ⟨hP, hD⟩ := va_join (wr := [(h_xx, .inr (7, [(v_xx 0), .ref h_td, (v_xx 2), (v_xx 3), (v_xx 4), (v_xx 5), (v_xx 6), (v_xx 7)]))]) (w1 := []) hP hD [1] [0] rfl rfl (by decide) (by decide) hk1 hFc P_nil D_nil
  have hP : va_P (dC, dI) cls [(h_xx, .inr (7, [(v_xx 0), .ref h_td, (v_xx 2), (v_xx 3), (v_xx 4), (v_xx 5), (v_xx 6), (v_xx 7)]))] H := hP
  have hD : va_D A [(h_xx, .inr (7, [(v_xx 0), .ref h_td, (v_xx 2), (v_xx 3), (v_xx 4), (v_xx 5), (v_xx 6), (v_xx 7)]))] := hD
  obtain rfl : r1 = 0 := hq
  refine lv_if_eq (tgt := 25) hx hb dX10_meets_9 (by decide) (fun _ => ?_) (fun c9 => absurd c9 (by decide))
  refine lv_iconst (v := (-1)) hx hb dX10_meets_25 (by decide) ?_
  refine W.widen (k := 0) (n := 0) (Nat.le_of_ble_eq_true rfl) (Nat.le_of_ble_eq_true rfl) ?_
  exact W.iret (v := (-1)) hx hb hr (fun t ht hW => ⟨⟨(-1), (), rfl, rfl, trivial⟩, hS.F ht⟩) hS.2.2 dX10_meets_26

set_option maxHeartbeats 4000000 in
set_option maxRecDepth 100000 in
theorem c_X10_partners (l : Launch) (dC : Nat → ClassId) (dI : Nat → Nat → Nat) (sz : Nat) (h_xx : Nat) (h_td : Nat) (v_xx : Nat → Value) (v_td : Nat → Value) (p1 : Int32) (p2 : Int32) : Met l yX10_partners (Ws yX10_partners cX10_partners 3 (some .int)) ({ frames := 2, cells := 0, slots := 0, locals := 43 }) (PRE (dC, dI) cls [] [(h_xx, .inr (7, [(v_xx 0), .ref h_td, (v_xx 2), (v_xx 3), (v_xx 4), (v_xx 5), (v_xx 6), (v_xx 7)])), (h_td, .inr (5, [(v_td 0), (v_td 1), (v_td 2), (v_td 3), (v_td 4), (v_td 5), (v_td 6), (v_td 7), (v_td 8), .int 0]))] sz [.ref h_xx, .int p1, .int p2]) (va_Qi (fun (r : Int32) (_ : Unit) => r = (-1)) (fun (_ : Unit) (_ : State) => True) (va_A [(h_xx, .inr (7, [(v_xx 0), .ref h_td, (v_xx 2), (v_xx 3), (v_xx 4), (v_xx 5), (v_xx 6), (v_xx 7)])), (h_td, .inr (5, [(v_td 0), (v_td 1), (v_td 2), (v_td 3), (v_td 4), (v_td 5), (v_td 6), (v_td 7), (v_td 8), .int 0]))] sz)) 0 0 (va_A [(h_xx, .inr (7, [(v_xx 0), .ref h_td, (v_xx 2), (v_xx 3), (v_xx 4), (v_xx 5), (v_xx 6), (v_xx 7)])), (h_td, .inr (5, [(v_td 0), (v_td 1), (v_td 2), (v_td 3), (v_td 4), (v_td 5), (v_td 6), (v_td 7), (v_td 8), .int 0]))] sz) := by
  refine Met.ofW (cc := cX10_partners) (maxL := 3) (ret := (some .int)) (by decide) rfl ?_
  intro p e s m args below meth c s₁ B hml hv
  obtain ⟨rfl, hsz, hP, hK, hD0, hN⟩ := hv
  have hx := B.exec
  have hb := B.bytes
  have hr := B.returns
  have hts := atoms_spec (ws := Ws yX10_partners cX10_partners 3 (some .int)) B.pre
  have hT : ∀ w ∈ WALL, w ∈ Ws yX10_partners cX10_partners 3 (some .int) := fun w h => List.mem_cons_of_mem _ h
  have hw := fun w (h : w ∈ WALL) => hts w (hT w h)
  have hown : s.vm.findClass RX10 = some m.cls := findClass_of_methodNamed B.named
  have hlocks := B.notSynchronized
  subst hsz
  have hD := hD0.self (sz := s.heap.size)
  generalize hAe : va_A [(h_xx, .inr (7, [(v_xx 0), .ref h_td, (v_xx 2), (v_xx 3), (v_xx 4), (v_xx 5), (v_xx 6), (v_xx 7)])), (h_td, .inr (5, [(v_td 0), (v_td 1), (v_td 2), (v_td 3), (v_td 4), (v_td 5), (v_td 6), (v_td 7), (v_td 8), .int 0]))] s.heap.size = A at hD ⊢
  have hA : ∀ q : Nat, s.heap.size ≤ q → A q := fun q h => by rw [← hAe]; exact Or.inr h
  have hS : va_S A s.heap s.heap [] := va_S.rf
  have hl := lv_entry ([.ref h_xx, .int p1, .int p2]) (n := 3) (Nat.le_of_ble_eq_true rfl)
  rw [lg_entry_eq]
  generalize (lg_sl ([.ref h_xx, .int p1, .int p2]) ++ List.replicate (3 - (lg_sl ([.ref h_xx, .int p1, .int p2])).length) Slot.unset).toArray = ls at hl ⊢
  have hl : lv_has ls 3 [(0, .ref h_xx), (1, .int p1), (2, .int p2)] := hl
  refine lv_aload_n hx hb dX10_partners_0 rfl (lv_at hl 0 rfl) ?_
  refine va_get (D := (dC, dI)) (ci := 7) (v := .ref h_td) (C := RX10) (T := TX10) (N := 8) hx hb hw iwX10 hown hK hP 0 rfl rfl 1 (by decide) (hw _ w_f_X10_19) (fun _ h9 => h9) rfl dX10_partners_1 ?_
  refine lv_iload_n hx hb dX10_partners_4 rfl (lv_at hl 1 rfl) ?_
  refine lv_iload_n hx hb dX10_partners_5 rfl (lv_at hl 2 rfl) ?_
  have hPc := hP.sub (ws' := [(h_td, .inr (5, [(v_td 0), (v_td 1), (v_td 2), (v_td 3), (v_td 4), (v_td 5), (v_td 6), (v_td 7), (v_td 8), .int 0]))]) [1] rfl
  have hDc := hD.sub (ws' := [(h_td, .inr (5, [(v_td 0), (v_td 1), (v_td 2), (v_td 3), (v_td 4), (v_td 5), (v_td 6), (v_td 7), (v_td 8), .int 0]))]) [1] (by decide) rfl
  have hKc := hK.sub (tys' := []) [] rfl
  have hFc := va_free (wc := [(h_td, .inr (5, [(v_td 0), (v_td 1), (v_td 2), (v_td 3), (v_td 4), (v_td 5), (v_td 6), (v_td 7), (v_td 8), .int 0]))]) hD hS hA [1] rfl
  refine va_calli (va_runVN (As := [.int p1, .int p2]) (rest := []) ⟨hx, hb, hml, hown, hts⟩ (c_X8_isLiteral l dC dI s.heap.size h_td v_td p1 p2) ⟨va_cnB (host := "OppositePairs") 2 hts (gd hT w_code_X8_isLiteral) rfl rfl rfl (hN _ n_m_X10_111) (hw _ w_ini_X8) (by decide +kernel) ⟨(Nat.le_of_ble_eq_true rfl), (Nat.le_of_ble_eq_true rfl)⟩, hw _ w_instanceMethod_X8_isLiteral, hw _ ws_sel_X8_isLiteral⟩ ⟨pre_blind, va_recv hK hP (ci := 5) (q0 := 1) rfl rfl, pre_of hPc hKc hDc hN⟩ rfl rfl hl.1 rfl (lv_room (Nat.le_of_ble_eq_true rfl)) dX10_partners_6 ⟨(Nat.le_of_ble_eq_true rfl), (Nat.le_of_ble_eq_true rfl)⟩) hS (fun q _ h => hFc q h) hFc (fun r1 u t H locs ht hvm hq hB hz1 hk1 hS => ?_)
  obtain ⟨hP, hD⟩ := va_join (wr := [(h_xx, .inr (7, [(v_xx 0), .ref h_td, (v_xx 2), (v_xx 3), (v_xx 4), (v_xx 5), (v_xx 6), (v_xx 7)]))]) (w1 := []) hP hD [1] [0] rfl rfl (by decide) (by decide) hk1 hFc P_nil D_nil
  have hP : va_P (dC, dI) cls [(h_xx, .inr (7, [(v_xx 0), .ref h_td, (v_xx 2), (v_xx 3), (v_xx 4), (v_xx 5), (v_xx 6), (v_xx 7)]))] H := hP
  have hD : va_D A [(h_xx, .inr (7, [(v_xx 0), .ref h_td, (v_xx 2), (v_xx 3), (v_xx 4), (v_xx 5), (v_xx 6), (v_xx 7)]))] := hD
  obtain rfl : r1 = 0 := hq
  refine lv_if_ne (tgt := 14) hx hb dX10_partners_9 (by decide) (fun c9 => absurd c9 (by decide)) (fun _ => ?_)
  refine lv_iconst (v := (-1)) hx hb dX10_partners_12 (by decide) ?_
  refine W.widen (k := 0) (n := 0) (Nat.le_of_ble_eq_true rfl) (Nat.le_of_ble_eq_true rfl) ?_
  exact W.iret (v := (-1)) hx hb hr (fun t ht hW => ⟨⟨(-1), (), rfl, rfl, trivial⟩, hS.F ht⟩) hS.2.2 dX10_partners_13

set_option maxHeartbeats 4000000 in
set_option maxRecDepth 100000 in
theorem c_X10_pure (l : Launch) (dC : Nat → ClassId) (dI : Nat → Nat → Nat) (sz : Nat) (h_xx : Nat) (h_td : Nat) (v_xx : Nat → Value) (v_td : Nat → Value) : Met l yX10_pure (Ws yX10_pure cX10_pure 5 (some .int)) ({ frames := 1, cells := 0, slots := 0, locals := 20 }) (PRE (dC, dI) cls [] [(h_xx, .inr (7, [(v_xx 0), .ref h_td, (v_xx 2), (v_xx 3), (v_xx 4), (v_xx 5), (v_xx 6), (v_xx 7)])), (h_td, .inr (5, [(v_td 0), (v_td 1), (v_td 2), (v_td 3), (v_td 4), (v_td 5), (v_td 6), (v_td 7), (v_td 8), .int 0]))] sz [.ref h_xx]) (va_Qi (fun (r : Int32) (_ : Unit) => r = 0) (fun (_ : Unit) (_ : State) => True) (va_A [(h_xx, .inr (7, [(v_xx 0), .ref h_td, (v_xx 2), (v_xx 3), (v_xx 4), (v_xx 5), (v_xx 6), (v_xx 7)])), (h_td, .inr (5, [(v_td 0), (v_td 1), (v_td 2), (v_td 3), (v_td 4), (v_td 5), (v_td 6), (v_td 7), (v_td 8), .int 0]))] sz)) 0 0 (va_A [(h_xx, .inr (7, [(v_xx 0), .ref h_td, (v_xx 2), (v_xx 3), (v_xx 4), (v_xx 5), (v_xx 6), (v_xx 7)])), (h_td, .inr (5, [(v_td 0), (v_td 1), (v_td 2), (v_td 3), (v_td 4), (v_td 5), (v_td 6), (v_td 7), (v_td 8), .int 0]))] sz) := by
  refine Met.ofW (cc := cX10_pure) (maxL := 5) (ret := (some .int)) (by decide) rfl ?_
  intro p e s m args below meth c s₁ B hml hv
  obtain ⟨rfl, hsz, hP, hK, hD0, hN⟩ := hv
  have hx := B.exec
  have hb := B.bytes
  have hr := B.returns
  have hts := atoms_spec (ws := Ws yX10_pure cX10_pure 5 (some .int)) B.pre
  have hT : ∀ w ∈ WALL, w ∈ Ws yX10_pure cX10_pure 5 (some .int) := fun w h => List.mem_cons_of_mem _ h
  have hw := fun w (h : w ∈ WALL) => hts w (hT w h)
  have hown : s.vm.findClass RX10 = some m.cls := findClass_of_methodNamed B.named
  have hlocks := B.notSynchronized
  subst hsz
  have hD := hD0.self (sz := s.heap.size)
  generalize hAe : va_A [(h_xx, .inr (7, [(v_xx 0), .ref h_td, (v_xx 2), (v_xx 3), (v_xx 4), (v_xx 5), (v_xx 6), (v_xx 7)])), (h_td, .inr (5, [(v_td 0), (v_td 1), (v_td 2), (v_td 3), (v_td 4), (v_td 5), (v_td 6), (v_td 7), (v_td 8), .int 0]))] s.heap.size = A at hD ⊢
  have hA : ∀ q : Nat, s.heap.size ≤ q → A q := fun q h => by rw [← hAe]; exact Or.inr h
  have hS : va_S A s.heap s.heap [] := va_S.rf
  have hl := lv_entry ([.ref h_xx]) (n := 5) (Nat.le_of_ble_eq_true rfl)
  rw [lg_entry_eq]
  generalize (lg_sl ([.ref h_xx]) ++ List.replicate (5 - (lg_sl ([.ref h_xx])).length) Slot.unset).toArray = ls at hl ⊢
  have hl : lv_has ls 5 [(0, .ref h_xx)] := hl
  refine lv_aload_n hx hb dX10_pure_0 rfl (lv_at hl 0 rfl) ?_
  refine va_get (D := (dC, dI)) (ci := 7) (v := .ref h_td) (C := RX10) (T := TX10) (N := 8) hx hb hw iwX10 hown hK hP 0 rfl rfl 1 (by decide) (hw _ w_f_X10_19) (fun _ h9 => h9) rfl dX10_pure_1 ?_
  have hPc := hP.sub (ws' := [(h_td, .inr (5, [(v_td 0), (v_td 1), (v_td 2), (v_td 3), (v_td 4), (v_td 5), (v_td 6), (v_td 7), (v_td 8), .int 0]))]) [1] rfl
  have hDc := hD.sub (ws' := [(h_td, .inr (5, [(v_td 0), (v_td 1), (v_td 2), (v_td 3), (v_td 4), (v_td 5), (v_td 6), (v_td 7), (v_td 8), .int 0]))]) [1] (by decide) rfl
  have hKc := hK.sub (tys' := []) [] rfl
  have hFc := va_free (wc := [(h_td, .inr (5, [(v_td 0), (v_td 1), (v_td 2), (v_td 3), (v_td 4), (v_td 5), (v_td 6), (v_td 7), (v_td 8), .int 0]))]) hD hS hA [1] rfl
  refine va_calli (va_runVN (As := []) (rest := []) ⟨hx, hb, hml, hown, hts⟩ (c_X8_all l dC dI s.heap.size h_td v_td) ⟨va_cnB (host := "OppositePairs") 0 hts (gd hT w_code_X8_all) rfl rfl rfl (hN _ n_m_X10_140) (hw _ w_ini_X8) (by decide +kernel) ⟨(Nat.le_of_ble_eq_true rfl), (Nat.le_of_ble_eq_true rfl)⟩, hw _ w_instanceMethod_X8_all, hw _ ws_sel_X8_all⟩ ⟨pre_blind, va_recv hK hP (ci := 5) (q0 := 1) rfl rfl, pre_of hPc hKc hDc hN⟩ rfl rfl hl.1 rfl (lv_room (Nat.le_of_ble_eq_true rfl)) dX10_pure_4 ⟨(Nat.le_of_ble_eq_true rfl), (Nat.le_of_ble_eq_true rfl)⟩) hS (fun q _ h => hFc q h) hFc (fun r1 u t H locs ht hvm hq hB hz1 hk1 hS => ?_)
  obtain ⟨hP1, hK1, hD1⟩ := hB
  rw [ht] at hP1
  have hK1 := va_K.moved hvm.symm hK1
  obtain ⟨hP, hD⟩ := va_join (wr := [(h_xx, .inr (7, [(v_xx 0), .ref h_td, (v_xx 2), (v_xx 3), (v_xx 4), (v_xx 5), (v_xx 6), (v_xx 7)]))]) (w1 := [(h_td, .inr (5, [(v_td 0), (v_td 1), (v_td 2), (v_td 3), (v_td 4), (v_td 5), (v_td 6), (v_td 7), (v_td 8), .int 0]))]) hP hD [1] [0] rfl rfl (by decide) (by decide) hk1 hFc hP1 hD1
  have hP : va_P (dC, dI) cls [(h_xx, .inr (7, [(v_xx 0), .ref h_td, (v_xx 2), (v_xx 3), (v_xx 4), (v_xx 5), (v_xx 6), (v_xx 7)])), (h_td, .inr (5, [(v_td 0), (v_td 1), (v_td 2), (v_td 3), (v_td 4), (v_td 5), (v_td 6), (v_td 7), (v_td 8), .int 0]))] H := hP
  have hD : va_D A [(h_xx, .inr (7, [(v_xx 0), .ref h_td, (v_xx 2), (v_xx 3), (v_xx 4), (v_xx 5), (v_xx 6), (v_xx 7)])), (h_td, .inr (5, [(v_td 0), (v_td 1), (v_td 2), (v_td 3), (v_td 4), (v_td 5), (v_td 6), (v_td 7), (v_td 8), .int 0]))] := hD
  obtain rfl : r1 = 0 := hq
  refine lv_istore_n (lv' := [(1, .int 0), (0, .ref h_xx)]) hx hb dX10_pure_7 rfl hl (by decide) rfl (fun ls hl => ?_)
  refine lv_iconst (v := 0) hx hb dX10_pure_8 (by decide) ?_
  refine lv_istore_n (lv' := [(2, .int 0), (1, .int 0), (0, .ref h_xx)]) hx hb dX10_pure_9 rfl hl (by decide) rfl (fun ls hl => ?_)
  refine lv_iload_n hx hb dX10_pure_10 rfl (lv_at hl 0 rfl) ?_
  refine lv_bipush (v := 16) hx hb dX10_pure_11 (by decide) ?_
  refine lv_icmp_ge (tgt := 85) hx hb dX10_pure_13 (by decide) (fun c9 => absurd c9 (by decide)) (fun _ => ?_)
  refine lv_iconst (v := 0) hx hb dX10_pure_16 (by decide) ?_
  refine lv_istore_n (lv' := [(3, .int 0), (2, .int 0), (1, .int 0), (0, .ref h_xx)]) hx hb dX10_pure_17 rfl hl (by decide) rfl (fun ls hl => ?_)
  refine lv_iconst (v := 0) hx hb dX10_pure_18 (by decide) ?_
  refine lv_istore (lv' := [(4, .int 0), (3, .int 0), (2, .int 0), (1, .int 0), (0, .ref h_xx)]) hx hb dX10_pure_19 hl (by decide) rfl (fun ls hl => ?_)
  refine lv_iload hx hb dX10_pure_21 (lv_at hl 0 rfl) ?_
  refine lv_aload_n hx hb dX10_pure_23 rfl (lv_at hl 4 rfl) ?_
  refine va_get (D := (dC, dI)) (ci := 7) (v := .ref h_td) (C := RX10) (T := TX10) (N := 8) hx hb hw iwX10 hown hK hP 0 rfl rfl 1 (by decide) (hw _ w_f_X10_19) (fun _ h9 => h9) rfl dX10_pure_24 ?_
  refine va_getN (D := (dC, dI)) (ci := 5) (v := .int 0) (C := RX8) (T := TX8) (N := 10) (host := "OppositePairs") hx hb hw iwX8 hown hK hP 1 rfl rfl 9 (by decide) (hN.use n_f_X10_84 rfl) (fun _ h9 => h9) rfl dX10_pure_27 ?_
  refine lv_icmp_ge (tgt := 66) hx hb dX10_pure_30 (by decide) (fun _ => ?_) (fun c9 => absurd c9 (by decide))
  refine lv_iload_n hx hb dX10_pure_66 rfl (lv_at hl 1 rfl) ?_
  refine lv_if_ne (tgt := 73) hx hb dX10_pure_67 (by decide) (fun c9 => absurd c9 (by decide)) (fun _ => ?_)
  refine lv_goto (tgt := 85) hx hb dX10_pure_70 (by decide) ?_
  refine lv_aload_n hx hb dX10_pure_85 rfl (lv_at hl 4 rfl) ?_
  refine va_get (D := (dC, dI)) (ci := 7) (v := .ref h_td) (C := RX10) (T := TX10) (N := 8) hx hb hw iwX10 hown hK hP 0 rfl rfl 1 (by decide) (hw _ w_f_X10_19) (fun _ h9 => h9) rfl dX10_pure_86 ?_
  have hPc := hP.sub (ws' := [(h_td, .inr (5, [(v_td 0), (v_td 1), (v_td 2), (v_td 3), (v_td 4), (v_td 5), (v_td 6), (v_td 7), (v_td 8), .int 0]))]) [1] rfl
  have hDc := hD.sub (ws' := [(h_td, .inr (5, [(v_td 0), (v_td 1), (v_td 2), (v_td 3), (v_td 4), (v_td 5), (v_td 6), (v_td 7), (v_td 8), .int 0]))]) [1] (by decide) rfl
  have hKc := hK.sub (tys' := []) [] rfl
  have hFc := va_free (wc := [(h_td, .inr (5, [(v_td 0), (v_td 1), (v_td 2), (v_td 3), (v_td 4), (v_td 5), (v_td 6), (v_td 7), (v_td 8), .int 0]))]) hD hS hA [1] rfl
  refine va_calli (va_runVN (As := []) (rest := []) ⟨hx, hb, hml, hown, hts⟩ (c_X8_all l dC dI H.size h_td v_td) ⟨va_cnB (host := "OppositePairs") 0 hts (gd hT w_code_X8_all) rfl rfl rfl (hN _ n_m_X10_140) (hw _ w_ini_X8) (by decide +kernel) ⟨(Nat.le_of_ble_eq_true rfl), (Nat.le_of_ble_eq_true rfl)⟩, hw _ w_instanceMethod_X8_all, hw _ ws_sel_X8_all⟩ ⟨pre_blind, va_recv hK hP (ci := 5) (q0 := 1) rfl rfl, pre_of hPc hKc hDc hN⟩ rfl rfl hl.1 rfl (lv_room (Nat.le_of_ble_eq_true rfl)) dX10_pure_89 ⟨(Nat.le_of_ble_eq_true rfl), (Nat.le_of_ble_eq_true rfl)⟩) hS (fun q _ h => hFc q h) hFc (fun r2 u t H locs ht hvm hq hB hz1 hk1 hS => ?_)
  obtain ⟨hP1, hK1, hD1⟩ := hB
  rw [ht] at hP1
  have hK1 := va_K.moved hvm.symm hK1
  obtain ⟨hP, hD⟩ := va_join (wr := [(h_xx, .inr (7, [(v_xx 0), .ref h_td, (v_xx 2), (v_xx 3), (v_xx 4), (v_xx 5), (v_xx 6), (v_xx 7)]))]) (w1 := [(h_td, .inr (5, [(v_td 0), (v_td 1), (v_td 2), (v_td 3), (v_td 4), (v_td 5), (v_td 6), (v_td 7), (v_td 8), .int 0]))]) hP hD [1] [0] rfl rfl (by decide) (by decide) hk1 hFc hP1 hD1
  have hP : va_P (dC, dI) cls [(h_xx, .inr (7, [(v_xx 0), .ref h_td, (v_xx 2), (v_xx 3), (v_xx 4), (v_xx 5), (v_xx 6), (v_xx 7)])), (h_td, .inr (5, [(v_td 0), (v_td 1), (v_td 2), (v_td 3), (v_td 4), (v_td 5), (v_td 6), (v_td 7), (v_td 8), .int 0]))] H := hP
  have hD : va_D A [(h_xx, .inr (7, [(v_xx 0), .ref h_td, (v_xx 2), (v_xx 3), (v_xx 4), (v_xx 5), (v_xx 6), (v_xx 7)])), (h_td, .inr (5, [(v_td 0), (v_td 1), (v_td 2), (v_td 3), (v_td 4), (v_td 5), (v_td 6), (v_td 7), (v_td 8), .int 0]))] := hD
  obtain rfl : r2 = 0 := hq
  refine lv_iload_n hx hb dX10_pure_92 rfl (lv_at hl 3 rfl) ?_
  refine lv_iconst (v := (-1)) hx hb dX10_pure_93 (by decide) ?_
  refine lv_ixor hx hb dX10_pure_94 ?_
  refine lv_topi (fun z3 ez3 => ?_)
  obtain rfl : z3 = (-1) := ez3.trans (by decide)
  refine lv_iand hx hb dX10_pure_95 ?_
  refine lv_topi (fun z4 ez4 => ?_)
  obtain rfl : z4 = 0 := ez4.trans (by decide)
  refine W.widen (k := 0) (n := 0) (Nat.le_of_ble_eq_true rfl) (Nat.le_of_ble_eq_true rfl) ?_
  exact W.iret (v := 0) hx hb hr (fun t ht hW => ⟨⟨0, (), rfl, rfl, trivial⟩, hS.F ht⟩) hS.2.2 dX10_pure_96

set_option maxHeartbeats 4000000 in
set_option maxRecDepth 100000 in
theorem c_X10_solve (l : Launch) (dC : Nat → ClassId) (dI : Nat → Nat → Nat) (sz : Nat) (h_xx : Nat) (h_td : Nat) (v_xx : Nat → Value) (v_td : Nat → Value) (p1 : Int32) (p2 : Int32) (p3 : Int32) : Met l yX10_solve (Ws yX10_solve cX10_solve 5 (some .int)) ({ frames := 1, cells := 0, slots := 0, locals := 21 }) (PRE (dC, dI) cls [] [(h_xx, .inr (7, [(v_xx 0), .ref h_td, (v_xx 2), (v_xx 3), (v_xx 4), (v_xx 5), (v_xx 6), (v_xx 7)])), (h_td, .inr (5, [(v_td 0), (v_td 1), (v_td 2), (v_td 3), (v_td 4), (v_td 5), (v_td 6), (v_td 7), (v_td 8), .int 0]))] sz [.ref h_xx, .int p1, .int p2, .int p3]) (va_Qi (fun (r : Int32) (_ : Unit) => r = (-1)) (fun (_ : Unit) (_ : State) => True) (va_A [(h_xx, .inr (7, [(v_xx 0), .ref h_td, (v_xx 2), (v_xx 3), (v_xx 4), (v_xx 5), (v_xx 6), (v_xx 7)])), (h_td, .inr (5, [(v_td 0), (v_td 1), (v_td 2), (v_td 3), (v_td 4), (v_td 5), (v_td 6), (v_td 7), (v_td 8), .int 0]))] sz)) 0 0 (va_A [(h_xx, .inr (7, [(v_xx 0), .ref h_td, (v_xx 2), (v_xx 3), (v_xx 4), (v_xx 5), (v_xx 6), (v_xx 7)])), (h_td, .inr (5, [(v_td 0), (v_td 1), (v_td 2), (v_td 3), (v_td 4), (v_td 5), (v_td 6), (v_td 7), (v_td 8), .int 0]))] sz) := by
  refine Met.ofW (cc := cX10_solve) (maxL := 5) (ret := (some .int)) (by decide) rfl ?_
  intro p e s m args below meth c s₁ B hml hv
  obtain ⟨rfl, hsz, hP, hK, hD0, hN⟩ := hv
  have hx := B.exec
  have hb := B.bytes
  have hr := B.returns
  have hts := atoms_spec (ws := Ws yX10_solve cX10_solve 5 (some .int)) B.pre
  have hT : ∀ w ∈ WALL, w ∈ Ws yX10_solve cX10_solve 5 (some .int) := fun w h => List.mem_cons_of_mem _ h
  have hw := fun w (h : w ∈ WALL) => hts w (hT w h)
  have hown : s.vm.findClass RX10 = some m.cls := findClass_of_methodNamed B.named
  have hlocks := B.notSynchronized
  subst hsz
  have hD := hD0.self (sz := s.heap.size)
  generalize hAe : va_A [(h_xx, .inr (7, [(v_xx 0), .ref h_td, (v_xx 2), (v_xx 3), (v_xx 4), (v_xx 5), (v_xx 6), (v_xx 7)])), (h_td, .inr (5, [(v_td 0), (v_td 1), (v_td 2), (v_td 3), (v_td 4), (v_td 5), (v_td 6), (v_td 7), (v_td 8), .int 0]))] s.heap.size = A at hD ⊢
  have hA : ∀ q : Nat, s.heap.size ≤ q → A q := fun q h => by rw [← hAe]; exact Or.inr h
  have hS : va_S A s.heap s.heap [] := va_S.rf
  have hl := lv_entry ([.ref h_xx, .int p1, .int p2, .int p3]) (n := 5) (Nat.le_of_ble_eq_true rfl)
  rw [lg_entry_eq]
  generalize (lg_sl ([.ref h_xx, .int p1, .int p2, .int p3]) ++ List.replicate (5 - (lg_sl ([.ref h_xx, .int p1, .int p2, .int p3])).length) Slot.unset).toArray = ls at hl ⊢
  have hl : lv_has ls 5 [(0, .ref h_xx), (1, .int p1), (2, .int p2), (3, .int p3)] := hl
  refine lv_aload_n hx hb dX10_solve_0 rfl (lv_at hl 0 rfl) ?_
  refine va_get (D := (dC, dI)) (ci := 7) (v := .ref h_td) (C := RX10) (T := TX10) (N := 8) hx hb hw iwX10 hown hK hP 0 rfl rfl 1 (by decide) (hw _ w_f_X10_19) (fun _ h9 => h9) rfl dX10_solve_1 ?_
  refine lv_iload_n hx hb dX10_solve_4 rfl (lv_at hl 1 rfl) ?_
  have hPc := hP.sub (ws' := [(h_td, .inr (5, [(v_td 0), (v_td 1), (v_td 2), (v_td 3), (v_td 4), (v_td 5), (v_td 6), (v_td 7), (v_td 8), .int 0]))]) [1] rfl
  have hDc := hD.sub (ws' := [(h_td, .inr (5, [(v_td 0), (v_td 1), (v_td 2), (v_td 3), (v_td 4), (v_td 5), (v_td 6), (v_td 7), (v_td 8), .int 0]))]) [1] (by decide) rfl
  have hKc := hK.sub (tys' := []) [] rfl
  have hFc := va_free (wc := [(h_td, .inr (5, [(v_td 0), (v_td 1), (v_td 2), (v_td 3), (v_td 4), (v_td 5), (v_td 6), (v_td 7), (v_td 8), .int 0]))]) hD hS hA [1] rfl
  refine va_calli (va_runVN (As := [.int p1]) (rest := []) ⟨hx, hb, hml, hown, hts⟩ (c_X8_isClause l dC dI s.heap.size h_td v_td p1) ⟨va_cnB (host := "OppositePairs") 1 hts (gd hT w_code_X8_isClause) rfl rfl rfl (hN _ n_m_X10_90) (hw _ w_ini_X8) (by decide +kernel) ⟨(Nat.le_of_ble_eq_true rfl), (Nat.le_of_ble_eq_true rfl)⟩, hw _ w_instanceMethod_X8_isClause, hw _ ws_sel_X8_isClause⟩ ⟨pre_blind, va_recv hK hP (ci := 5) (q0 := 1) rfl rfl, pre_of hPc hKc hDc hN⟩ rfl rfl hl.1 rfl (lv_room (Nat.le_of_ble_eq_true rfl)) dX10_solve_5 ⟨(Nat.le_of_ble_eq_true rfl), (Nat.le_of_ble_eq_true rfl)⟩) hS (fun q _ h => hFc q h) hFc (fun r1 u t H locs ht hvm hq hB hz1 hk1 hS => ?_)
  obtain ⟨hP, hD⟩ := va_join (wr := [(h_xx, .inr (7, [(v_xx 0), .ref h_td, (v_xx 2), (v_xx 3), (v_xx 4), (v_xx 5), (v_xx 6), (v_xx 7)]))]) (w1 := []) hP hD [1] [0] rfl rfl (by decide) (by decide) hk1 hFc P_nil D_nil
  have hP : va_P (dC, dI) cls [(h_xx, .inr (7, [(v_xx 0), .ref h_td, (v_xx 2), (v_xx 3), (v_xx 4), (v_xx 5), (v_xx 6), (v_xx 7)]))] H := hP
  have hD : va_D A [(h_xx, .inr (7, [(v_xx 0), .ref h_td, (v_xx 2), (v_xx 3), (v_xx 4), (v_xx 5), (v_xx 6), (v_xx 7)]))] := hD
  obtain rfl : r1 = 0 := hq
  refine lv_if_eq (tgt := 19) hx hb dX10_solve_8 (by decide) (fun _ => ?_) (fun c9 => absurd c9 (by decide))
  refine lv_iconst (v := (-1)) hx hb dX10_solve_19 (by decide) ?_
  refine W.widen (k := 0) (n := 0) (Nat.le_of_ble_eq_true rfl) (Nat.le_of_ble_eq_true rfl) ?_
  exact W.iret (v := (-1)) hx hb hr (fun t ht hW => ⟨⟨(-1), (), rfl, rfl, trivial⟩, hS.F ht⟩) hS.2.2 dX10_solve_20

set_option maxHeartbeats 4000000 in
set_option maxRecDepth 100000 in
theorem c_X10_deepen (l : Launch) (dC : Nat → ClassId) (dI : Nat → Nat → Nat) (sz : Nat) (h_xx : Nat) (h_td : Nat) (v_xx : Nat → Value) (v_td : Nat → Value) (p1 : Int32) (p2 : Int32) (p3 : Int32) : Met l yX10_deepen (Ws yX10_deepen cX10_deepen 6 (some .int)) ({ frames := 1, cells := 0, slots := 0, locals := 21 }) (PRE (dC, dI) cls [] [(h_xx, .inr (7, [(v_xx 0), .ref h_td, (v_xx 2), (v_xx 3), (v_xx 4), (v_xx 5), (v_xx 6), (v_xx 7)])), (h_td, .inr (5, [(v_td 0), (v_td 1), (v_td 2), (v_td 3), (v_td 4), (v_td 5), (v_td 6), (v_td 7), (v_td 8), .int 0]))] sz [.ref h_xx, .int p1, .int p2, .int p3]) (va_Qi (fun (r : Int32) (_ : Unit) => r = (-3)) (fun (_ : Unit) (_ : State) => True) (va_A [(h_xx, .inr (7, [(v_xx 0), .ref h_td, (v_xx 2), (v_xx 3), (v_xx 4), (v_xx 5), (v_xx 6), (v_xx 7)])), (h_td, .inr (5, [(v_td 0), (v_td 1), (v_td 2), (v_td 3), (v_td 4), (v_td 5), (v_td 6), (v_td 7), (v_td 8), .int 0]))] sz)) 0 0 (va_A [(h_xx, .inr (7, [(v_xx 0), .ref h_td, (v_xx 2), (v_xx 3), (v_xx 4), (v_xx 5), (v_xx 6), (v_xx 7)])), (h_td, .inr (5, [(v_td 0), (v_td 1), (v_td 2), (v_td 3), (v_td 4), (v_td 5), (v_td 6), (v_td 7), (v_td 8), .int 0]))] sz) := by
  refine Met.ofW (cc := cX10_deepen) (maxL := 6) (ret := (some .int)) (by decide) rfl ?_
  intro p e s m args below meth c s₁ B hml hv
  obtain ⟨rfl, hsz, hP, hK, hD0, hN⟩ := hv
  have hx := B.exec
  have hb := B.bytes
  have hr := B.returns
  have hts := atoms_spec (ws := Ws yX10_deepen cX10_deepen 6 (some .int)) B.pre
  have hT : ∀ w ∈ WALL, w ∈ Ws yX10_deepen cX10_deepen 6 (some .int) := fun w h => List.mem_cons_of_mem _ h
  have hw := fun w (h : w ∈ WALL) => hts w (hT w h)
  have hown : s.vm.findClass RX10 = some m.cls := findClass_of_methodNamed B.named
  have hlocks := B.notSynchronized
  subst hsz
  have hD := hD0.self (sz := s.heap.size)
  generalize hAe : va_A [(h_xx, .inr (7, [(v_xx 0), .ref h_td, (v_xx 2), (v_xx 3), (v_xx 4), (v_xx 5), (v_xx 6), (v_xx 7)])), (h_td, .inr (5, [(v_td 0), (v_td 1), (v_td 2), (v_td 3), (v_td 4), (v_td 5), (v_td 6), (v_td 7), (v_td 8), .int 0]))] s.heap.size = A at hD ⊢
  have hA : ∀ q : Nat, s.heap.size ≤ q → A q := fun q h => by rw [← hAe]; exact Or.inr h
  have hS : va_S A s.heap s.heap [] := va_S.rf
  have hl := lv_entry ([.ref h_xx, .int p1, .int p2, .int p3]) (n := 6) (Nat.le_of_ble_eq_true rfl)
  rw [lg_entry_eq]
  generalize (lg_sl ([.ref h_xx, .int p1, .int p2, .int p3]) ++ List.replicate (6 - (lg_sl ([.ref h_xx, .int p1, .int p2, .int p3])).length) Slot.unset).toArray = ls at hl ⊢
  have hl : lv_has ls 6 [(0, .ref h_xx), (1, .int p1), (2, .int p2), (3, .int p3)] := hl
  refine lv_aload_n hx hb dX10_deepen_0 rfl (lv_at hl 0 rfl) ?_
  refine va_get (D := (dC, dI)) (ci := 7) (v := .ref h_td) (C := RX10) (T := TX10) (N := 8) hx hb hw iwX10 hown hK hP 0 rfl rfl 1 (by decide) (hw _ w_f_X10_19) (fun _ h9 => h9) rfl dX10_deepen_1 ?_
  refine lv_iload_n hx hb dX10_deepen_4 rfl (lv_at hl 1 rfl) ?_
  have hPc := hP.sub (ws' := [(h_td, .inr (5, [(v_td 0), (v_td 1), (v_td 2), (v_td 3), (v_td 4), (v_td 5), (v_td 6), (v_td 7), (v_td 8), .int 0]))]) [1] rfl
  have hDc := hD.sub (ws' := [(h_td, .inr (5, [(v_td 0), (v_td 1), (v_td 2), (v_td 3), (v_td 4), (v_td 5), (v_td 6), (v_td 7), (v_td 8), .int 0]))]) [1] (by decide) rfl
  have hKc := hK.sub (tys' := []) [] rfl
  have hFc := va_free (wc := [(h_td, .inr (5, [(v_td 0), (v_td 1), (v_td 2), (v_td 3), (v_td 4), (v_td 5), (v_td 6), (v_td 7), (v_td 8), .int 0]))]) hD hS hA [1] rfl
  refine va_calli (va_runVN (As := [.int p1]) (rest := []) ⟨hx, hb, hml, hown, hts⟩ (c_X8_isClause l dC dI s.heap.size h_td v_td p1) ⟨va_cnB (host := "OppositePairs") 1 hts (gd hT w_code_X8_isClause) rfl rfl rfl (hN _ n_m_X10_90) (hw _ w_ini_X8) (by decide +kernel) ⟨(Nat.le_of_ble_eq_true rfl), (Nat.le_of_ble_eq_true rfl)⟩, hw _ w_instanceMethod_X8_isClause, hw _ ws_sel_X8_isClause⟩ ⟨pre_blind, va_recv hK hP (ci := 5) (q0 := 1) rfl rfl, pre_of hPc hKc hDc hN⟩ rfl rfl hl.1 rfl (lv_room (Nat.le_of_ble_eq_true rfl)) dX10_deepen_5 ⟨(Nat.le_of_ble_eq_true rfl), (Nat.le_of_ble_eq_true rfl)⟩) hS (fun q _ h => hFc q h) hFc (fun r1 u t H locs ht hvm hq hB hz1 hk1 hS => ?_)
  obtain ⟨hP, hD⟩ := va_join (wr := [(h_xx, .inr (7, [(v_xx 0), .ref h_td, (v_xx 2), (v_xx 3), (v_xx 4), (v_xx 5), (v_xx 6), (v_xx 7)]))]) (w1 := []) hP hD [1] [0] rfl rfl (by decide) (by decide) hk1 hFc P_nil D_nil
  have hP : va_P (dC, dI) cls [(h_xx, .inr (7, [(v_xx 0), .ref h_td, (v_xx 2), (v_xx 3), (v_xx 4), (v_xx 5), (v_xx 6), (v_xx 7)]))] H := hP
  have hD : va_D A [(h_xx, .inr (7, [(v_xx 0), .ref h_td, (v_xx 2), (v_xx 3), (v_xx 4), (v_xx 5), (v_xx 6), (v_xx 7)]))] := hD
  obtain rfl : r1 = 0 := hq
  refine lv_if_eq (tgt := 19) hx hb dX10_deepen_8 (by decide) (fun _ => ?_) (fun c9 => absurd c9 (by decide))
  refine lv_bipush (v := (-3)) hx hb dX10_deepen_19 (by decide) ?_
  refine W.widen (k := 0) (n := 0) (Nat.le_of_ble_eq_true rfl) (Nat.le_of_ble_eq_true rfl) ?_
  exact W.iret (v := (-3)) hx hb hr (fun t ht hW => ⟨⟨(-3), (), rfl, rfl, trivial⟩, hS.F ht⟩) hS.2.2 dX10_deepen_21

set_option maxHeartbeats 4000000 in
set_option maxRecDepth 100000 in
theorem c_X10_any (l : Launch) (dC : Nat → ClassId) (dI : Nat → Nat → Nat) (sz : Nat) (h_xx : Nat) (h_td : Nat) (h_pv : Nat) (h_mx : Nat) (v_xx : Nat → Value) (v_td : Nat → Value) (v_pv : Nat → Value) (v_mx : Nat → Value) (p1 : Int32) (p2 : Int32) : Met l yX10_any (Ws yX10_any cX10_any 5 (some .int)) ({ frames := 2, cells := 0, slots := 0, locals := 40 }) (PRE (dC, dI) cls [] [(h_xx, .inr (7, [(v_xx 0), .ref h_td, (v_xx 2), (v_xx 3), (v_xx 4), .ref h_pv, .ref h_mx, (v_xx 7)])), (h_td, .inr (5, [(v_td 0), (v_td 1), (v_td 2), (v_td 3), (v_td 4), (v_td 5), (v_td 6), (v_td 7), (v_td 8), .int 0])), (h_pv, .inr (3, [(v_pv 0), (v_pv 1), (v_pv 2), (v_pv 3), (v_pv 4), (v_pv 5), (v_pv 6), .int 0, (v_pv 8), .int 0, (v_pv 10), (v_pv 11), .int 0, .int 0, .int 0, .int 0, (v_pv 16), .int 0])), (h_mx, .inr (2, [(v_mx 0), (v_mx 1), (v_mx 2), (v_mx 3), (v_mx 4), (v_mx 5), (v_mx 6), (v_mx 7), (v_mx 8), (v_mx 9), (v_mx 10), (v_mx 11)]))] sz [.ref h_xx, .int p1, .int p2]) (va_Qi (fun (r : Int32) (_ : Unit) => r = an_any p1 p2) (fun (_ : Unit) (_ : State) => True) (va_A [(h_xx, .inr (7, [(v_xx 0), .ref h_td, (v_xx 2), (v_xx 3), (v_xx 4), .ref h_pv, .ref h_mx, (v_xx 7)])), (h_td, .inr (5, [(v_td 0), (v_td 1), (v_td 2), (v_td 3), (v_td 4), (v_td 5), (v_td 6), (v_td 7), (v_td 8), .int 0])), (h_pv, .inr (3, [(v_pv 0), (v_pv 1), (v_pv 2), (v_pv 3), (v_pv 4), (v_pv 5), (v_pv 6), .int 0, (v_pv 8), .int 0, (v_pv 10), (v_pv 11), .int 0, .int 0, .int 0, .int 0, (v_pv 16), .int 0])), (h_mx, .inr (2, [(v_mx 0), (v_mx 1), (v_mx 2), (v_mx 3), (v_mx 4), (v_mx 5), (v_mx 6), (v_mx 7), (v_mx 8), (v_mx 9), (v_mx 10), (v_mx 11)]))] sz)) 0 0 (va_A [(h_xx, .inr (7, [(v_xx 0), .ref h_td, (v_xx 2), (v_xx 3), (v_xx 4), .ref h_pv, .ref h_mx, (v_xx 7)])), (h_td, .inr (5, [(v_td 0), (v_td 1), (v_td 2), (v_td 3), (v_td 4), (v_td 5), (v_td 6), (v_td 7), (v_td 8), .int 0])), (h_pv, .inr (3, [(v_pv 0), (v_pv 1), (v_pv 2), (v_pv 3), (v_pv 4), (v_pv 5), (v_pv 6), .int 0, (v_pv 8), .int 0, (v_pv 10), (v_pv 11), .int 0, .int 0, .int 0, .int 0, (v_pv 16), .int 0])), (h_mx, .inr (2, [(v_mx 0), (v_mx 1), (v_mx 2), (v_mx 3), (v_mx 4), (v_mx 5), (v_mx 6), (v_mx 7), (v_mx 8), (v_mx 9), (v_mx 10), (v_mx 11)]))] sz) := by
  refine Met.ofW (cc := cX10_any) (maxL := 5) (ret := (some .int)) (by decide) rfl ?_
  intro p e s m args below meth c s₁ B hml hv
  obtain ⟨rfl, hsz, hP, hK, hD0, hN⟩ := hv
  have hx := B.exec
  have hb := B.bytes
  have hr := B.returns
  have hts := atoms_spec (ws := Ws yX10_any cX10_any 5 (some .int)) B.pre
  have hT : ∀ w ∈ WALL, w ∈ Ws yX10_any cX10_any 5 (some .int) := fun w h => List.mem_cons_of_mem _ h
  have hw := fun w (h : w ∈ WALL) => hts w (hT w h)
  have hown : s.vm.findClass RX10 = some m.cls := findClass_of_methodNamed B.named
  have hlocks := B.notSynchronized
  subst hsz
  have hD := hD0.self (sz := s.heap.size)
  generalize hAe : va_A [(h_xx, .inr (7, [(v_xx 0), .ref h_td, (v_xx 2), (v_xx 3), (v_xx 4), .ref h_pv, .ref h_mx, (v_xx 7)])), (h_td, .inr (5, [(v_td 0), (v_td 1), (v_td 2), (v_td 3), (v_td 4), (v_td 5), (v_td 6), (v_td 7), (v_td 8), .int 0])), (h_pv, .inr (3, [(v_pv 0), (v_pv 1), (v_pv 2), (v_pv 3), (v_pv 4), (v_pv 5), (v_pv 6), .int 0, (v_pv 8), .int 0, (v_pv 10), (v_pv 11), .int 0, .int 0, .int 0, .int 0, (v_pv 16), .int 0])), (h_mx, .inr (2, [(v_mx 0), (v_mx 1), (v_mx 2), (v_mx 3), (v_mx 4), (v_mx 5), (v_mx 6), (v_mx 7), (v_mx 8), (v_mx 9), (v_mx 10), (v_mx 11)]))] s.heap.size = A at hD ⊢
  have hA : ∀ q : Nat, s.heap.size ≤ q → A q := fun q h => by rw [← hAe]; exact Or.inr h
  have hS : va_S A s.heap s.heap [] := va_S.rf
  have hl := lv_entry ([.ref h_xx, .int p1, .int p2]) (n := 5) (Nat.le_of_ble_eq_true rfl)
  rw [lg_entry_eq]
  generalize (lg_sl ([.ref h_xx, .int p1, .int p2]) ++ List.replicate (5 - (lg_sl ([.ref h_xx, .int p1, .int p2])).length) Slot.unset).toArray = ls at hl ⊢
  have hl : lv_has ls 5 [(0, .ref h_xx), (1, .int p1), (2, .int p2)] := hl
  refine lv_iload_n hx hb dX10_any_0 rfl (lv_at hl 1 rfl) ?_
  refine lv_iload_n hx hb dX10_any_1 rfl (lv_at hl 2 rfl) ?_
  have hPc := hP.sub (ws' := []) [] rfl
  have hDc := hD.sub (ws' := []) [] (by decide) rfl
  have hKc := hK.sub (tys' := []) [] rfl
  have hFc := va_free (wc := []) hD hS hA [] rfl
  refine va_calli (va_runS (As := [.int p1, .int p2]) (rest := []) ⟨hx, hb, hml, hown, hts⟩ (c_X10_canBe l dC dI s.heap.size p1 p2) (cwS 2 hts (gs hT w_m_X10_150 w_static_X10_canBe w_ini_X10 w_code_X10_canBe) rfl rfl rfl (by decide +kernel) ⟨(Nat.le_of_ble_eq_true rfl), (Nat.le_of_ble_eq_true rfl)⟩) ⟨pre_blind, pre_of hPc hKc hDc hN⟩ rfl rfl hl.1 rfl (lv_room (Nat.le_of_ble_eq_true rfl)) dX10_any_2 ⟨(Nat.le_of_ble_eq_true rfl), (Nat.le_of_ble_eq_true rfl)⟩) hS (fun q _ h => hFc q h) hFc (fun r1 u t H locs ht hvm hq hB hz1 hk1 hS => ?_)
  obtain ⟨hP, hD⟩ := va_join (wr := [(h_xx, .inr (7, [(v_xx 0), .ref h_td, (v_xx 2), (v_xx 3), (v_xx 4), .ref h_pv, .ref h_mx, (v_xx 7)])), (h_td, .inr (5, [(v_td 0), (v_td 1), (v_td 2), (v_td 3), (v_td 4), (v_td 5), (v_td 6), (v_td 7), (v_td 8), .int 0])), (h_pv, .inr (3, [(v_pv 0), (v_pv 1), (v_pv 2), (v_pv 3), (v_pv 4), (v_pv 5), (v_pv 6), .int 0, (v_pv 8), .int 0, (v_pv 10), (v_pv 11), .int 0, .int 0, .int 0, .int 0, (v_pv 16), .int 0])), (h_mx, .inr (2, [(v_mx 0), (v_mx 1), (v_mx 2), (v_mx 3), (v_mx 4), (v_mx 5), (v_mx 6), (v_mx 7), (v_mx 8), (v_mx 9), (v_mx 10), (v_mx 11)]))]) (w1 := []) hP hD [] [0, 1, 2, 3] rfl rfl (by decide) (by decide) hk1 hFc P_nil D_nil
  have hP : va_P (dC, dI) cls [(h_xx, .inr (7, [(v_xx 0), .ref h_td, (v_xx 2), (v_xx 3), (v_xx 4), .ref h_pv, .ref h_mx, (v_xx 7)])), (h_td, .inr (5, [(v_td 0), (v_td 1), (v_td 2), (v_td 3), (v_td 4), (v_td 5), (v_td 6), (v_td 7), (v_td 8), .int 0])), (h_pv, .inr (3, [(v_pv 0), (v_pv 1), (v_pv 2), (v_pv 3), (v_pv 4), (v_pv 5), (v_pv 6), .int 0, (v_pv 8), .int 0, (v_pv 10), (v_pv 11), .int 0, .int 0, .int 0, .int 0, (v_pv 16), .int 0])), (h_mx, .inr (2, [(v_mx 0), (v_mx 1), (v_mx 2), (v_mx 3), (v_mx 4), (v_mx 5), (v_mx 6), (v_mx 7), (v_mx 8), (v_mx 9), (v_mx 10), (v_mx 11)]))] H := hP
  have hD : va_D A [(h_xx, .inr (7, [(v_xx 0), .ref h_td, (v_xx 2), (v_xx 3), (v_xx 4), .ref h_pv, .ref h_mx, (v_xx 7)])), (h_td, .inr (5, [(v_td 0), (v_td 1), (v_td 2), (v_td 3), (v_td 4), (v_td 5), (v_td 6), (v_td 7), (v_td 8), .int 0])), (h_pv, .inr (3, [(v_pv 0), (v_pv 1), (v_pv 2), (v_pv 3), (v_pv 4), (v_pv 5), (v_pv 6), .int 0, (v_pv 8), .int 0, (v_pv 10), (v_pv 11), .int 0, .int 0, .int 0, .int 0, (v_pv 16), .int 0])), (h_mx, .inr (2, [(v_mx 0), (v_mx 1), (v_mx 2), (v_mx 3), (v_mx 4), (v_mx 5), (v_mx 6), (v_mx 7), (v_mx 8), (v_mx 9), (v_mx 10), (v_mx 11)]))] := hD
  rcases hq with ⟨rfl, hq⟩ | ⟨rfl, hq⟩
  · have := hq
    refine lv_if_ne (tgt := 11) hx hb dX10_any_5 (by decide) (fun _ => ?_) (fun c9 => absurd c9 (by decide))
    refine lv_aload_n hx hb dX10_any_11 rfl (lv_at hl 0 rfl) ?_
    have hPc := hP.sub (ws' := [(h_xx, .inr (7, [(v_xx 0), .ref h_td, (v_xx 2), (v_xx 3), (v_xx 4), .ref h_pv, .ref h_mx, (v_xx 7)])), (h_pv, .inr (3, [(v_pv 0), (v_pv 1), (v_pv 2), (v_pv 3), (v_pv 4), (v_pv 5), (v_pv 6), .int 0, (v_pv 8), .int 0, (v_pv 10), (v_pv 11), .int 0, .int 0, .int 0, .int 0, (v_pv 16), .int 0])), (h_mx, .inr (2, [(v_mx 0), (v_mx 1), (v_mx 2), (v_mx 3), (v_mx 4), (v_mx 5), (v_mx 6), (v_mx 7), (v_mx 8), (v_mx 9), (v_mx 10), (v_mx 11)]))]) [0, 2, 3] rfl
    have hDc := hD.sub (ws' := [(h_xx, .inr (7, [(v_xx 0), .ref h_td, (v_xx 2), (v_xx 3), (v_xx 4), .ref h_pv, .ref h_mx, (v_xx 7)])), (h_pv, .inr (3, [(v_pv 0), (v_pv 1), (v_pv 2), (v_pv 3), (v_pv 4), (v_pv 5), (v_pv 6), .int 0, (v_pv 8), .int 0, (v_pv 10), (v_pv 11), .int 0, .int 0, .int 0, .int 0, (v_pv 16), .int 0])), (h_mx, .inr (2, [(v_mx 0), (v_mx 1), (v_mx 2), (v_mx 3), (v_mx 4), (v_mx 5), (v_mx 6), (v_mx 7), (v_mx 8), (v_mx 9), (v_mx 10), (v_mx 11)]))]) [0, 2, 3] (by decide) rfl
    have hKc := hK.sub (tys' := []) [] rfl
    have hFc := va_free (wc := [(h_xx, .inr (7, [(v_xx 0), .ref h_td, (v_xx 2), (v_xx 3), (v_xx 4), .ref h_pv, .ref h_mx, (v_xx 7)])), (h_pv, .inr (3, [(v_pv 0), (v_pv 1), (v_pv 2), (v_pv 3), (v_pv 4), (v_pv 5), (v_pv 6), .int 0, (v_pv 8), .int 0, (v_pv 10), (v_pv 11), .int 0, .int 0, .int 0, .int 0, (v_pv 16), .int 0])), (h_mx, .inr (2, [(v_mx 0), (v_mx 1), (v_mx 2), (v_mx 3), (v_mx 4), (v_mx 5), (v_mx 6), (v_mx 7), (v_mx 8), (v_mx 9), (v_mx 10), (v_mx 11)]))]) hD hS hA [0, 2, 3] rfl
    refine va_callv (va_runV (As := []) (rest := []) ⟨hx, hb, hml, hown, hts⟩ (c_X10_begin l dC dI H.size h_xx h_pv h_mx (fun k => List.getD [(v_xx 0), .ref h_td, (v_xx 2), (v_xx 3), (v_xx 4), .ref h_pv, .ref h_mx, (v_xx 7)] k .null) (fun k => List.getD [(v_pv 0), (v_pv 1), (v_pv 2), (v_pv 3), (v_pv 4), (v_pv 5), (v_pv 6), .int 0, (v_pv 8), .int 0, (v_pv 10), (v_pv 11), .int 0, .int 0, .int 0, .int 0, (v_pv 16), .int 0] k .null) v_mx) (cwV 0 hts (gv hT w_m_X10_153 w_instanceMethod_X10_begin ws_sel_X10_begin w_ini_X10 w_code_X10_begin) rfl rfl rfl (by decide +kernel) ⟨(Nat.le_of_ble_eq_true rfl), (Nat.le_of_ble_eq_true rfl)⟩) ⟨pre_blind, va_recv hK hP (ci := 7) (q0 := 0) rfl rfl, pre_of hPc hKc hDc hN⟩ rfl rfl hl.1 rfl (lv_room (Nat.le_of_ble_eq_true rfl)) dX10_any_12 ⟨(Nat.le_of_ble_eq_true rfl), (Nat.le_of_ble_eq_true rfl)⟩) hS (fun q _ h => hFc q h) hFc (fun u t H locs ht hvm hq hB hz1 hk1 hS => ?_)
    obtain ⟨hP1, hK1, hD1⟩ := hB
    rw [ht] at hP1
    have hK1 := va_K.moved hvm.symm hK1
    obtain ⟨hP, hD⟩ := va_join (wr := [(h_td, .inr (5, [(v_td 0), (v_td 1), (v_td 2), (v_td 3), (v_td 4), (v_td 5), (v_td 6), (v_td 7), (v_td 8), .int 0]))]) (w1 := [(h_xx, .inr (7, [(v_xx 0), .ref h_td, (v_xx 2), (v_xx 3), (v_xx 4), .ref h_pv, .ref h_mx, (v_xx 7)])), (h_mx, .inr (2, [(v_mx 0), (v_mx 1), (v_mx 2), (v_mx 3), .int 0, (v_mx 5), (v_mx 6), (v_mx 7), (v_mx 8), (v_mx 9), .int (-2), (v_mx 11)])), (h_pv, .inr (3, [(v_pv 0), (v_pv 1), (v_pv 2), (v_pv 3), (v_pv 4), (v_pv 5), (v_pv 6), .int 0, (v_pv 8), .int 0, (v_pv 10), (v_pv 11), .int 0, .int 0, .int 0, .int 0, (v_pv 16), .int 0]))]) hP hD [0, 2, 3] [1] rfl rfl (by decide) (by decide) hk1 hFc hP1 hD1
    have hP : va_P (dC, dI) cls [(h_td, .inr (5, [(v_td 0), (v_td 1), (v_td 2), (v_td 3), (v_td 4), (v_td 5), (v_td 6), (v_td 7), (v_td 8), .int 0])), (h_xx, .inr (7, [(v_xx 0), .ref h_td, (v_xx 2), (v_xx 3), (v_xx 4), .ref h_pv, .ref h_mx, (v_xx 7)])), (h_mx, .inr (2, [(v_mx 0), (v_mx 1), (v_mx 2), (v_mx 3), .int 0, (v_mx 5), (v_mx 6), (v_mx 7), (v_mx 8), (v_mx 9), .int (-2), (v_mx 11)])), (h_pv, .inr (3, [(v_pv 0), (v_pv 1), (v_pv 2), (v_pv 3), (v_pv 4), (v_pv 5), (v_pv 6), .int 0, (v_pv 8), .int 0, (v_pv 10), (v_pv 11), .int 0, .int 0, .int 0, .int 0, (v_pv 16), .int 0]))] H := hP
    have hD : va_D A [(h_td, .inr (5, [(v_td 0), (v_td 1), (v_td 2), (v_td 3), (v_td 4), (v_td 5), (v_td 6), (v_td 7), (v_td 8), .int 0])), (h_xx, .inr (7, [(v_xx 0), .ref h_td, (v_xx 2), (v_xx 3), (v_xx 4), .ref h_pv, .ref h_mx, (v_xx 7)])), (h_mx, .inr (2, [(v_mx 0), (v_mx 1), (v_mx 2), (v_mx 3), .int 0, (v_mx 5), (v_mx 6), (v_mx 7), (v_mx 8), (v_mx 9), .int (-2), (v_mx 11)])), (h_pv, .inr (3, [(v_pv 0), (v_pv 1), (v_pv 2), (v_pv 3), (v_pv 4), (v_pv 5), (v_pv 6), .int 0, (v_pv 8), .int 0, (v_pv 10), (v_pv 11), .int 0, .int 0, .int 0, .int 0, (v_pv 16), .int 0]))] := hD
    refine lv_iconst (v := 0) hx hb dX10_any_15 (by decide) ?_
    refine lv_istore_n (lv' := [(3, .int 0), (0, .ref h_xx), (1, .int p1), (2, .int p2)]) hx hb dX10_any_16 rfl hl (by decide) rfl (fun ls hl => ?_)
    refine lv_iload_n hx hb dX10_any_17 rfl (lv_at hl 0 rfl) ?_
    refine lv_aload_n hx hb dX10_any_18 rfl (lv_at hl 1 rfl) ?_
    refine va_get (D := (dC, dI)) (ci := 7) (v := .ref h_td) (C := RX10) (T := TX10) (N := 8) hx hb hw iwX10 hown hK hP 1 rfl rfl 1 (by decide) (hw _ w_f_X10_19) (fun _ h9 => h9) rfl dX10_any_19 ?_
    refine va_getN (D := (dC, dI)) (ci := 5) (v := .int 0) (C := RX8) (T := TX8) (N := 10) (host := "OppositePairs") hx hb hw iwX8 hown hK hP 0 rfl rfl 9 (by decide) (hN.use n_f_X10_84 rfl) (fun _ h9 => h9) rfl dX10_any_22 ?_
    refine lv_icmp_ge (tgt := 64) hx hb dX10_any_25 (by decide) (fun _ => ?_) (fun c9 => absurd c9 (by decide))
    refine lv_iconst (v := (-1)) hx hb dX10_any_64 (by decide) ?_
    refine W.widen (k := 0) (n := 0) (Nat.le_of_ble_eq_true rfl) (Nat.le_of_ble_eq_true rfl) ?_
    exact W.iret (v := (-1)) hx hb hr (fun t ht hW => ⟨⟨(-1), (), rfl, (by unfold an_any; split <;> first | rfl | (exfalso; omega)), trivial⟩, hS.F ht⟩) hS.2.2 dX10_any_65
  · have := hq
    refine lv_if_ne (tgt := 11) hx hb dX10_any_5 (by decide) (fun c9 => absurd c9 (by decide)) (fun _ => ?_)
    refine lv_bipush (v := (-3)) hx hb dX10_any_8 (by decide) ?_
    refine W.widen (k := 0) (n := 0) (Nat.le_of_ble_eq_true rfl) (Nat.le_of_ble_eq_true rfl) ?_
    exact W.iret (v := (-3)) hx hb hr (fun t ht hW => ⟨⟨(-3), (), rfl, (by unfold an_any; split <;> first | rfl | (exfalso; omega)), trivial⟩, hS.F ht⟩) hS.2.2 dX10_any_10

set_option maxHeartbeats 4000000 in
set_option maxRecDepth 100000 in
theorem c_X10_tried (l : Launch) (dC : Nat → ClassId) (dI : Nat → Nat → Nat) (sz : Nat) (h_xx : Nat) (h_pv : Nat) (v_xx : Nat → Value) (v_pv : Nat → Value) (p1 : Int32) : Met l yX10_tried (Ws yX10_tried cX10_tried 2 (some .int)) ({ frames := 0, cells := 0, slots := 0, locals := 0 }) (PRE (dC, dI) cls [] [(h_xx, .inr (7, [(v_xx 0), (v_xx 1), (v_xx 2), (v_xx 3), (v_xx 4), .ref h_pv, (v_xx 6), (v_xx 7)])), (h_pv, .inr (3, [(v_pv 0), (v_pv 1), (v_pv 2), (v_pv 3), (v_pv 4), (v_pv 5), (v_pv 6), .int 0, (v_pv 8), .int 0, (v_pv 10), (v_pv 11), .int 0, .int 0, .int 0, .int 0, (v_pv 16), .int 0]))] sz [.ref h_xx, .int p1]) (va_Qi (fun (r : Int32) (_ : Unit) => r = an_tried p1) (fun (_ : Unit) (_ : State) => True) (va_A [(h_xx, .inr (7, [(v_xx 0), (v_xx 1), (v_xx 2), (v_xx 3), (v_xx 4), .ref h_pv, (v_xx 6), (v_xx 7)])), (h_pv, .inr (3, [(v_pv 0), (v_pv 1), (v_pv 2), (v_pv 3), (v_pv 4), (v_pv 5), (v_pv 6), .int 0, (v_pv 8), .int 0, (v_pv 10), (v_pv 11), .int 0, .int 0, .int 0, .int 0, (v_pv 16), .int 0]))] sz)) 0 0 (va_A [(h_xx, .inr (7, [(v_xx 0), (v_xx 1), (v_xx 2), (v_xx 3), (v_xx 4), .ref h_pv, (v_xx 6), (v_xx 7)])), (h_pv, .inr (3, [(v_pv 0), (v_pv 1), (v_pv 2), (v_pv 3), (v_pv 4), (v_pv 5), (v_pv 6), .int 0, (v_pv 8), .int 0, (v_pv 10), (v_pv 11), .int 0, .int 0, .int 0, .int 0, (v_pv 16), .int 0]))] sz) := by
  refine Met.ofW (cc := cX10_tried) (maxL := 2) (ret := (some .int)) (by decide) rfl ?_
  intro p e s m args below meth c s₁ B hml hv
  obtain ⟨rfl, hsz, hP, hK, hD0, hN⟩ := hv
  have hx := B.exec
  have hb := B.bytes
  have hr := B.returns
  have hts := atoms_spec (ws := Ws yX10_tried cX10_tried 2 (some .int)) B.pre
  have hT : ∀ w ∈ WALL, w ∈ Ws yX10_tried cX10_tried 2 (some .int) := fun w h => List.mem_cons_of_mem _ h
  have hw := fun w (h : w ∈ WALL) => hts w (hT w h)
  have hown : s.vm.findClass RX10 = some m.cls := findClass_of_methodNamed B.named
  have hlocks := B.notSynchronized
  subst hsz
  have hD := hD0.self (sz := s.heap.size)
  generalize hAe : va_A [(h_xx, .inr (7, [(v_xx 0), (v_xx 1), (v_xx 2), (v_xx 3), (v_xx 4), .ref h_pv, (v_xx 6), (v_xx 7)])), (h_pv, .inr (3, [(v_pv 0), (v_pv 1), (v_pv 2), (v_pv 3), (v_pv 4), (v_pv 5), (v_pv 6), .int 0, (v_pv 8), .int 0, (v_pv 10), (v_pv 11), .int 0, .int 0, .int 0, .int 0, (v_pv 16), .int 0]))] s.heap.size = A at hD ⊢
  have hA : ∀ q : Nat, s.heap.size ≤ q → A q := fun q h => by rw [← hAe]; exact Or.inr h
  have hS : va_S A s.heap s.heap [] := va_S.rf
  have hl := lv_entry ([.ref h_xx, .int p1]) (n := 2) (Nat.le_of_ble_eq_true rfl)
  rw [lg_entry_eq]
  generalize (lg_sl ([.ref h_xx, .int p1]) ++ List.replicate (2 - (lg_sl ([.ref h_xx, .int p1])).length) Slot.unset).toArray = ls at hl ⊢
  have hl : lv_has ls 2 [(0, .ref h_xx), (1, .int p1)] := hl
  refine lv_iload_n hx hb dX10_tried_0 rfl (lv_at hl 1 rfl) ?_
  have s1 : (p1).toInt < 0 ∨ 3 < (p1).toInt ∨ (p1).toInt = 0 ∨ (p1).toInt = 1 ∨ (p1).toInt = 2 ∨ (p1).toInt = 3 := by omega
  rcases s1 with s1 | s1 | s1 | s1 | s1 | s1
  · refine lv_tableOut (tgt := 64) hx hb dX10_tried_1 (Or.inl s1) (by decide) ?_
    refine lv_iconst (v := (-1)) hx hb dX10_tried_64 (by decide) ?_
    refine W.widen (k := 0) (n := 0) (Nat.le_of_ble_eq_true rfl) (Nat.le_of_ble_eq_true rfl) ?_
    exact W.iret (v := (-1)) hx hb hr (fun t ht hW => ⟨⟨(-1), (), rfl, (by unfold an_tried; split <;> first | rfl | (exfalso; omega)), trivial⟩, hS.F ht⟩) hS.2.2 dX10_tried_65
  · refine lv_tableOut (tgt := 64) hx hb dX10_tried_1 (Or.inr s1) (by decide) ?_
    refine lv_iconst (v := (-1)) hx hb dX10_tried_64 (by decide) ?_
    refine W.widen (k := 0) (n := 0) (Nat.le_of_ble_eq_true rfl) (Nat.le_of_ble_eq_true rfl) ?_
    exact W.iret (v := (-1)) hx hb hr (fun t ht hW => ⟨⟨(-1), (), rfl, (by unfold an_tried; split <;> first | rfl | (exfalso; omega)), trivial⟩, hS.F ht⟩) hS.2.2 dX10_tried_65
  · refine lv_tableIn (off := 31) (tgt := 32) hx hb dX10_tried_1 (by omega) (by omega) (by rw [s1]; rfl) (by decide) ?_
    refine lv_aload_n hx hb dX10_tried_32 rfl (lv_at hl 0 rfl) ?_
    refine va_get (D := (dC, dI)) (ci := 7) (v := .ref h_pv) (C := RX10) (T := TX10) (N := 8) hx hb hw iwX10 hown hK hP 0 rfl rfl 5 (by decide) (hw _ w_f_X10_47) (fun _ h9 => h9) rfl dX10_tried_33 ?_
    refine va_getN (D := (dC, dI)) (ci := 3) (v := .int 0) (C := RX4) (T := TX4) (N := 18) (host := "OppositePairs") hx hb hw iwX4 hown hK hP 1 rfl rfl 12 (by decide) (hN.use n_f_X10_163 rfl) (fun _ h9 => h9) rfl dX10_tried_36 ?_
    refine W.widen (k := 0) (n := 0) (Nat.le_of_ble_eq_true rfl) (Nat.le_of_ble_eq_true rfl) ?_
    exact W.iret (v := 0) hx hb hr (fun t ht hW => ⟨⟨0, (), rfl, (by unfold an_tried; split <;> first | rfl | (exfalso; omega)), trivial⟩, hS.F ht⟩) hS.2.2 dX10_tried_39
  · refine lv_tableIn (off := 39) (tgt := 40) hx hb dX10_tried_1 (by omega) (by omega) (by rw [s1]; rfl) (by decide) ?_
    refine lv_aload_n hx hb dX10_tried_40 rfl (lv_at hl 0 rfl) ?_
    refine va_get (D := (dC, dI)) (ci := 7) (v := .ref h_pv) (C := RX10) (T := TX10) (N := 8) hx hb hw iwX10 hown hK hP 0 rfl rfl 5 (by decide) (hw _ w_f_X10_47) (fun _ h9 => h9) rfl dX10_tried_41 ?_
    refine va_getN (D := (dC, dI)) (ci := 3) (v := .int 0) (C := RX4) (T := TX4) (N := 18) (host := "OppositePairs") hx hb hw iwX4 hown hK hP 1 rfl rfl 13 (by decide) (hN.use n_f_X10_166 rfl) (fun _ h9 => h9) rfl dX10_tried_44 ?_
    refine W.widen (k := 0) (n := 0) (Nat.le_of_ble_eq_true rfl) (Nat.le_of_ble_eq_true rfl) ?_
    exact W.iret (v := 0) hx hb hr (fun t ht hW => ⟨⟨0, (), rfl, (by unfold an_tried; split <;> first | rfl | (exfalso; omega)), trivial⟩, hS.F ht⟩) hS.2.2 dX10_tried_47
  · refine lv_tableIn (off := 47) (tgt := 48) hx hb dX10_tried_1 (by omega) (by omega) (by rw [s1]; rfl) (by decide) ?_
    refine lv_aload_n hx hb dX10_tried_48 rfl (lv_at hl 0 rfl) ?_
    refine va_get (D := (dC, dI)) (ci := 7) (v := .ref h_pv) (C := RX10) (T := TX10) (N := 8) hx hb hw iwX10 hown hK hP 0 rfl rfl 5 (by decide) (hw _ w_f_X10_47) (fun _ h9 => h9) rfl dX10_tried_49 ?_
    refine va_getN (D := (dC, dI)) (ci := 3) (v := .int 0) (C := RX4) (T := TX4) (N := 18) (host := "OppositePairs") hx hb hw iwX4 hown hK hP 1 rfl rfl 14 (by decide) (hN.use n_f_X10_169 rfl) (fun _ h9 => h9) rfl dX10_tried_52 ?_
    refine W.widen (k := 0) (n := 0) (Nat.le_of_ble_eq_true rfl) (Nat.le_of_ble_eq_true rfl) ?_
    exact W.iret (v := 0) hx hb hr (fun t ht hW => ⟨⟨0, (), rfl, (by unfold an_tried; split <;> first | rfl | (exfalso; omega)), trivial⟩, hS.F ht⟩) hS.2.2 dX10_tried_55
  · refine lv_tableIn (off := 55) (tgt := 56) hx hb dX10_tried_1 (by omega) (by omega) (by rw [s1]; rfl) (by decide) ?_
    refine lv_aload_n hx hb dX10_tried_56 rfl (lv_at hl 0 rfl) ?_
    refine va_get (D := (dC, dI)) (ci := 7) (v := .ref h_pv) (C := RX10) (T := TX10) (N := 8) hx hb hw iwX10 hown hK hP 0 rfl rfl 5 (by decide) (hw _ w_f_X10_47) (fun _ h9 => h9) rfl dX10_tried_57 ?_
    refine va_getN (D := (dC, dI)) (ci := 3) (v := .int 0) (C := RX4) (T := TX4) (N := 18) (host := "OppositePairs") hx hb hw iwX4 hown hK hP 1 rfl rfl 15 (by decide) (hN.use n_f_X10_172 rfl) (fun _ h9 => h9) rfl dX10_tried_60 ?_
    refine W.widen (k := 0) (n := 0) (Nat.le_of_ble_eq_true rfl) (Nat.le_of_ble_eq_true rfl) ?_
    exact W.iret (v := 0) hx hb hr (fun t ht hW => ⟨⟨0, (), rfl, (by unfold an_tried; split <;> first | rfl | (exfalso; omega)), trivial⟩, hS.F ht⟩) hS.2.2 dX10_tried_63

set_option maxHeartbeats 4000000 in
set_option maxRecDepth 100000 in
theorem c_X10_step (l : Launch) (dC : Nat → ClassId) (dI : Nat → Nat → Nat) (sz : Nat) (h_xx : Nat) (h_pv : Nat) (v_xx : Nat → Value) (v_pv : Nat → Value) (p1 : Int32) (p2 : Int32) : Met l yX10_step (Ws yX10_step cX10_step 4 (some .int)) ({ frames := 0, cells := 0, slots := 0, locals := 0 }) (PRE (dC, dI) cls [] [(h_xx, .inr (7, [(v_xx 0), (v_xx 1), (v_xx 2), (v_xx 3), (v_xx 4), .ref h_pv, (v_xx 6), (v_xx 7)])), (h_pv, .inr (3, [(v_pv 0), (v_pv 1), (v_pv 2), (v_pv 3), (v_pv 4), (v_pv 5), (v_pv 6), .int 0, (v_pv 8), .int 0, (v_pv 10), (v_pv 11), .int 0, .int 0, .int 0, .int 0, (v_pv 16), .int 0]))] sz [.ref h_xx, .int p1, .int p2]) (va_Qi (fun (r : Int32) (_ : Unit) => r = (-1)) (fun (_ : Unit) (_ : State) => True) (va_A [(h_xx, .inr (7, [(v_xx 0), (v_xx 1), (v_xx 2), (v_xx 3), (v_xx 4), .ref h_pv, (v_xx 6), (v_xx 7)])), (h_pv, .inr (3, [(v_pv 0), (v_pv 1), (v_pv 2), (v_pv 3), (v_pv 4), (v_pv 5), (v_pv 6), .int 0, (v_pv 8), .int 0, (v_pv 10), (v_pv 11), .int 0, .int 0, .int 0, .int 0, (v_pv 16), .int 0]))] sz)) 0 0 (va_A [(h_xx, .inr (7, [(v_xx 0), (v_xx 1), (v_xx 2), (v_xx 3), (v_xx 4), .ref h_pv, (v_xx 6), (v_xx 7)])), (h_pv, .inr (3, [(v_pv 0), (v_pv 1), (v_pv 2), (v_pv 3), (v_pv 4), (v_pv 5), (v_pv 6), .int 0, (v_pv 8), .int 0, (v_pv 10), (v_pv 11), .int 0, .int 0, .int 0, .int 0, (v_pv 16), .int 0]))] sz) := by
  refine Met.ofW (cc := cX10_step) (maxL := 4) (ret := (some .int)) (by decide) rfl ?_
  intro p e s m args below meth c s₁ B hml hv
  obtain ⟨rfl, hsz, hP, hK, hD0, hN⟩ := hv
  have hx := B.exec
  have hb := B.bytes
  have hr := B.returns
  have hts := atoms_spec (ws := Ws yX10_step cX10_step 4 (some .int)) B.pre
  have hT : ∀ w ∈ WALL, w ∈ Ws yX10_step cX10_step 4 (some .int) := fun w h => List.mem_cons_of_mem _ h
  have hw := fun w (h : w ∈ WALL) => hts w (hT w h)
  have hown : s.vm.findClass RX10 = some m.cls := findClass_of_methodNamed B.named
  have hlocks := B.notSynchronized
  subst hsz
  have hD := hD0.self (sz := s.heap.size)
  generalize hAe : va_A [(h_xx, .inr (7, [(v_xx 0), (v_xx 1), (v_xx 2), (v_xx 3), (v_xx 4), .ref h_pv, (v_xx 6), (v_xx 7)])), (h_pv, .inr (3, [(v_pv 0), (v_pv 1), (v_pv 2), (v_pv 3), (v_pv 4), (v_pv 5), (v_pv 6), .int 0, (v_pv 8), .int 0, (v_pv 10), (v_pv 11), .int 0, .int 0, .int 0, .int 0, (v_pv 16), .int 0]))] s.heap.size = A at hD ⊢
  have hA : ∀ q : Nat, s.heap.size ≤ q → A q := fun q h => by rw [← hAe]; exact Or.inr h
  have hS : va_S A s.heap s.heap [] := va_S.rf
  have hl := lv_entry ([.ref h_xx, .int p1, .int p2]) (n := 4) (Nat.le_of_ble_eq_true rfl)
  rw [lg_entry_eq]
  generalize (lg_sl ([.ref h_xx, .int p1, .int p2]) ++ List.replicate (4 - (lg_sl ([.ref h_xx, .int p1, .int p2])).length) Slot.unset).toArray = ls at hl ⊢
  have hl : lv_has ls 4 [(0, .ref h_xx), (1, .int p1), (2, .int p2)] := hl
  refine lv_aload_n hx hb dX10_step_0 rfl (lv_at hl 0 rfl) ?_
  refine va_get (D := (dC, dI)) (ci := 7) (v := .ref h_pv) (C := RX10) (T := TX10) (N := 8) hx hb hw iwX10 hown hK hP 0 rfl rfl 5 (by decide) (hw _ w_f_X10_47) (fun _ h9 => h9) rfl dX10_step_1 ?_
  refine va_getN (D := (dC, dI)) (ci := 3) (v := .int 0) (C := RX4) (T := TX4) (N := 18) (host := "OppositePairs") hx hb hw iwX4 hown hK hP 1 rfl rfl 17 (by decide) (hN.use n_f_X10_175 rfl) (fun _ h9 => h9) rfl dX10_step_4 ?_
  refine lv_if_ne (tgt := 12) hx hb dX10_step_7 (by decide) (fun c9 => absurd c9 (by decide)) (fun _ => ?_)
  refine lv_iconst (v := (-1)) hx hb dX10_step_10 (by decide) ?_
  refine W.widen (k := 0) (n := 0) (Nat.le_of_ble_eq_true rfl) (Nat.le_of_ble_eq_true rfl) ?_
  exact W.iret (v := (-1)) hx hb hr (fun t ht hW => ⟨⟨(-1), (), rfl, rfl, trivial⟩, hS.F ht⟩) hS.2.2 dX10_step_11

set_option maxHeartbeats 4000000 in
set_option maxRecDepth 100000 in
theorem c_X10_instance (l : Launch) (dC : Nat → ClassId) (dI : Nat → Nat → Nat) (sz : Nat) (h_xx : Nat) (h_pv : Nat) (v_xx : Nat → Value) (v_pv : Nat → Value) (p1 : Int32) : Met l yX10_instance (Ws yX10_instance cX10_instance 2 (some .int)) ({ frames := 0, cells := 0, slots := 0, locals := 0 }) (PRE (dC, dI) cls [] [(h_xx, .inr (7, [(v_xx 0), (v_xx 1), (v_xx 2), (v_xx 3), (v_xx 4), .ref h_pv, (v_xx 6), (v_xx 7)])), (h_pv, .inr (3, [(v_pv 0), (v_pv 1), (v_pv 2), (v_pv 3), (v_pv 4), (v_pv 5), (v_pv 6), .int 0, (v_pv 8), .int 0, (v_pv 10), (v_pv 11), .int 0, .int 0, .int 0, .int 0, (v_pv 16), .int 0]))] sz [.ref h_xx, .int p1]) (va_Qi (fun (r : Int32) (_ : Unit) => r = (-1)) (fun (_ : Unit) (_ : State) => True) (va_A [(h_xx, .inr (7, [(v_xx 0), (v_xx 1), (v_xx 2), (v_xx 3), (v_xx 4), .ref h_pv, (v_xx 6), (v_xx 7)])), (h_pv, .inr (3, [(v_pv 0), (v_pv 1), (v_pv 2), (v_pv 3), (v_pv 4), (v_pv 5), (v_pv 6), .int 0, (v_pv 8), .int 0, (v_pv 10), (v_pv 11), .int 0, .int 0, .int 0, .int 0, (v_pv 16), .int 0]))] sz)) 0 0 (va_A [(h_xx, .inr (7, [(v_xx 0), (v_xx 1), (v_xx 2), (v_xx 3), (v_xx 4), .ref h_pv, (v_xx 6), (v_xx 7)])), (h_pv, .inr (3, [(v_pv 0), (v_pv 1), (v_pv 2), (v_pv 3), (v_pv 4), (v_pv 5), (v_pv 6), .int 0, (v_pv 8), .int 0, (v_pv 10), (v_pv 11), .int 0, .int 0, .int 0, .int 0, (v_pv 16), .int 0]))] sz) := by
  refine Met.ofW (cc := cX10_instance) (maxL := 2) (ret := (some .int)) (by decide) rfl ?_
  intro p e s m args below meth c s₁ B hml hv
  obtain ⟨rfl, hsz, hP, hK, hD0, hN⟩ := hv
  have hx := B.exec
  have hb := B.bytes
  have hr := B.returns
  have hts := atoms_spec (ws := Ws yX10_instance cX10_instance 2 (some .int)) B.pre
  have hT : ∀ w ∈ WALL, w ∈ Ws yX10_instance cX10_instance 2 (some .int) := fun w h => List.mem_cons_of_mem _ h
  have hw := fun w (h : w ∈ WALL) => hts w (hT w h)
  have hown : s.vm.findClass RX10 = some m.cls := findClass_of_methodNamed B.named
  have hlocks := B.notSynchronized
  subst hsz
  have hD := hD0.self (sz := s.heap.size)
  generalize hAe : va_A [(h_xx, .inr (7, [(v_xx 0), (v_xx 1), (v_xx 2), (v_xx 3), (v_xx 4), .ref h_pv, (v_xx 6), (v_xx 7)])), (h_pv, .inr (3, [(v_pv 0), (v_pv 1), (v_pv 2), (v_pv 3), (v_pv 4), (v_pv 5), (v_pv 6), .int 0, (v_pv 8), .int 0, (v_pv 10), (v_pv 11), .int 0, .int 0, .int 0, .int 0, (v_pv 16), .int 0]))] s.heap.size = A at hD ⊢
  have hA : ∀ q : Nat, s.heap.size ≤ q → A q := fun q h => by rw [← hAe]; exact Or.inr h
  have hS : va_S A s.heap s.heap [] := va_S.rf
  have hl := lv_entry ([.ref h_xx, .int p1]) (n := 2) (Nat.le_of_ble_eq_true rfl)
  rw [lg_entry_eq]
  generalize (lg_sl ([.ref h_xx, .int p1]) ++ List.replicate (2 - (lg_sl ([.ref h_xx, .int p1])).length) Slot.unset).toArray = ls at hl ⊢
  have hl : lv_has ls 2 [(0, .ref h_xx), (1, .int p1)] := hl
  refine lv_aload_n hx hb dX10_instance_0 rfl (lv_at hl 0 rfl) ?_
  refine va_get (D := (dC, dI)) (ci := 7) (v := .ref h_pv) (C := RX10) (T := TX10) (N := 8) hx hb hw iwX10 hown hK hP 0 rfl rfl 5 (by decide) (hw _ w_f_X10_47) (fun _ h9 => h9) rfl dX10_instance_1 ?_
  refine va_getN (D := (dC, dI)) (ci := 3) (v := .int 0) (C := RX4) (T := TX4) (N := 18) (host := "OppositePairs") hx hb hw iwX4 hown hK hP 1 rfl rfl 17 (by decide) (hN.use n_f_X10_175 rfl) (fun _ h9 => h9) rfl dX10_instance_4 ?_
  refine lv_if_ne (tgt := 12) hx hb dX10_instance_7 (by decide) (fun c9 => absurd c9 (by decide)) (fun _ => ?_)
  refine lv_iconst (v := (-1)) hx hb dX10_instance_10 (by decide) ?_
  refine W.widen (k := 0) (n := 0) (Nat.le_of_ble_eq_true rfl) (Nat.le_of_ble_eq_true rfl) ?_
  exact W.iret (v := (-1)) hx hb hr (fun t ht hW => ⟨⟨(-1), (), rfl, rfl, trivial⟩, hS.F ht⟩) hS.2.2 dX10_instance_11

set_option maxHeartbeats 4000000 in
set_option maxRecDepth 100000 in
theorem c_X10_shown (l : Launch) (dC : Nat → ClassId) (dI : Nat → Nat → Nat) (sz : Nat) (h_xx : Nat) (h_pv : Nat) (v_xx : Nat → Value) (v_pv : Nat → Value) (p1 : Int32) (p2 : Int32) : Met l yX10_shown (Ws yX10_shown cX10_shown 4 (some .int)) ({ frames := 1, cells := 0, slots := 0, locals := 21 }) (PRE (dC, dI) cls [] [(h_xx, .inr (7, [(v_xx 0), (v_xx 1), (v_xx 2), (v_xx 3), (v_xx 4), .ref h_pv, (v_xx 6), (v_xx 7)])), (h_pv, .inr (3, [(v_pv 0), (v_pv 1), (v_pv 2), (v_pv 3), (v_pv 4), (v_pv 5), (v_pv 6), .int 0, (v_pv 8), .int 0, (v_pv 10), (v_pv 11), .int 0, .int 0, .int 0, .int 0, (v_pv 16), .int 0]))] sz [.ref h_xx, .int p1, .int p2]) (va_Qi (fun (r : Int32) (_ : Unit) => r = (-1)) (fun (_ : Unit) (_ : State) => True) (va_A [(h_xx, .inr (7, [(v_xx 0), (v_xx 1), (v_xx 2), (v_xx 3), (v_xx 4), .ref h_pv, (v_xx 6), (v_xx 7)])), (h_pv, .inr (3, [(v_pv 0), (v_pv 1), (v_pv 2), (v_pv 3), (v_pv 4), (v_pv 5), (v_pv 6), .int 0, (v_pv 8), .int 0, (v_pv 10), (v_pv 11), .int 0, .int 0, .int 0, .int 0, (v_pv 16), .int 0]))] sz)) 0 0 (va_A [(h_xx, .inr (7, [(v_xx 0), (v_xx 1), (v_xx 2), (v_xx 3), (v_xx 4), .ref h_pv, (v_xx 6), (v_xx 7)])), (h_pv, .inr (3, [(v_pv 0), (v_pv 1), (v_pv 2), (v_pv 3), (v_pv 4), (v_pv 5), (v_pv 6), .int 0, (v_pv 8), .int 0, (v_pv 10), (v_pv 11), .int 0, .int 0, .int 0, .int 0, (v_pv 16), .int 0]))] sz) := by
  refine Met.ofW (cc := cX10_shown) (maxL := 4) (ret := (some .int)) (by decide) rfl ?_
  intro p e s m args below meth c s₁ B hml hv
  obtain ⟨rfl, hsz, hP, hK, hD0, hN⟩ := hv
  have hx := B.exec
  have hb := B.bytes
  have hr := B.returns
  have hts := atoms_spec (ws := Ws yX10_shown cX10_shown 4 (some .int)) B.pre
  have hT : ∀ w ∈ WALL, w ∈ Ws yX10_shown cX10_shown 4 (some .int) := fun w h => List.mem_cons_of_mem _ h
  have hw := fun w (h : w ∈ WALL) => hts w (hT w h)
  have hown : s.vm.findClass RX10 = some m.cls := findClass_of_methodNamed B.named
  have hlocks := B.notSynchronized
  subst hsz
  have hD := hD0.self (sz := s.heap.size)
  generalize hAe : va_A [(h_xx, .inr (7, [(v_xx 0), (v_xx 1), (v_xx 2), (v_xx 3), (v_xx 4), .ref h_pv, (v_xx 6), (v_xx 7)])), (h_pv, .inr (3, [(v_pv 0), (v_pv 1), (v_pv 2), (v_pv 3), (v_pv 4), (v_pv 5), (v_pv 6), .int 0, (v_pv 8), .int 0, (v_pv 10), (v_pv 11), .int 0, .int 0, .int 0, .int 0, (v_pv 16), .int 0]))] s.heap.size = A at hD ⊢
  have hA : ∀ q : Nat, s.heap.size ≤ q → A q := fun q h => by rw [← hAe]; exact Or.inr h
  have hS : va_S A s.heap s.heap [] := va_S.rf
  have hl := lv_entry ([.ref h_xx, .int p1, .int p2]) (n := 4) (Nat.le_of_ble_eq_true rfl)
  rw [lg_entry_eq]
  generalize (lg_sl ([.ref h_xx, .int p1, .int p2]) ++ List.replicate (4 - (lg_sl ([.ref h_xx, .int p1, .int p2])).length) Slot.unset).toArray = ls at hl ⊢
  have hl : lv_has ls 4 [(0, .ref h_xx), (1, .int p1), (2, .int p2)] := hl
  refine lv_aload_n hx hb dX10_shown_0 rfl (lv_at hl 0 rfl) ?_
  refine lv_iload_n hx hb dX10_shown_1 rfl (lv_at hl 1 rfl) ?_
  have hPc := hP.sub (ws' := [(h_xx, .inr (7, [(v_xx 0), (v_xx 1), (v_xx 2), (v_xx 3), (v_xx 4), .ref h_pv, (v_xx 6), (v_xx 7)])), (h_pv, .inr (3, [(v_pv 0), (v_pv 1), (v_pv 2), (v_pv 3), (v_pv 4), (v_pv 5), (v_pv 6), .int 0, (v_pv 8), .int 0, (v_pv 10), (v_pv 11), .int 0, .int 0, .int 0, .int 0, (v_pv 16), .int 0]))]) [0, 1] rfl
  have hDc := hD.sub (ws' := [(h_xx, .inr (7, [(v_xx 0), (v_xx 1), (v_xx 2), (v_xx 3), (v_xx 4), .ref h_pv, (v_xx 6), (v_xx 7)])), (h_pv, .inr (3, [(v_pv 0), (v_pv 1), (v_pv 2), (v_pv 3), (v_pv 4), (v_pv 5), (v_pv 6), .int 0, (v_pv 8), .int 0, (v_pv 10), (v_pv 11), .int 0, .int 0, .int 0, .int 0, (v_pv 16), .int 0]))]) [0, 1] (by decide) rfl
  have hKc := hK.sub (tys' := []) [] rfl
  have hFc := va_free (wc := [(h_xx, .inr (7, [(v_xx 0), (v_xx 1), (v_xx 2), (v_xx 3), (v_xx 4), .ref h_pv, (v_xx 6), (v_xx 7)])), (h_pv, .inr (3, [(v_pv 0), (v_pv 1), (v_pv 2), (v_pv 3), (v_pv 4), (v_pv 5), (v_pv 6), .int 0, (v_pv 8), .int 0, (v_pv 10), (v_pv 11), .int 0, .int 0, .int 0, .int 0, (v_pv 16), .int 0]))]) hD hS hA [0, 1] rfl
  refine va_calli (va_runV (As := [.int p1]) (rest := []) ⟨hx, hb, hml, hown, hts⟩ (c_X10_isInstance l dC dI s.heap.size h_xx h_pv v_xx v_pv p1) (cwV 1 hts (gv hT w_m_X10_220 w_instanceMethod_X10_isInstance ws_sel_X10_isInstance w_ini_X10 w_code_X10_isInstance) rfl rfl rfl (by decide +kernel) ⟨(Nat.le_of_ble_eq_true rfl), (Nat.le_of_ble_eq_true rfl)⟩) ⟨pre_blind, va_recv hK hP (ci := 7) (q0 := 0) rfl rfl, pre_of hPc hKc hDc hN⟩ rfl rfl hl.1 rfl (lv_room (Nat.le_of_ble_eq_true rfl)) dX10_shown_2 ⟨(Nat.le_of_ble_eq_true rfl), (Nat.le_of_ble_eq_true rfl)⟩) hS (fun q _ h => hFc q h) hFc (fun r1 u t H locs ht hvm hq hB hz1 hk1 hS => ?_)
  obtain ⟨hP, hD⟩ := va_join (wr := []) (w1 := []) hP hD [0, 1] [] rfl rfl (by decide) (by decide) hk1 hFc P_nil D_nil
  have hP : va_P (dC, dI) cls [] H := hP
  have hD : va_D A [] := hD
  obtain rfl : r1 = 0 := hq
  refine lv_if_ne (tgt := 10) hx hb dX10_shown_5 (by decide) (fun c9 => absurd c9 (by decide)) (fun _ => ?_)
  refine lv_iconst (v := (-1)) hx hb dX10_shown_8 (by decide) ?_
  refine W.widen (k := 0) (n := 0) (Nat.le_of_ble_eq_true rfl) (Nat.le_of_ble_eq_true rfl) ?_
  exact W.iret (v := (-1)) hx hb hr (fun t ht hW => ⟨⟨(-1), (), rfl, rfl, trivial⟩, hS.F ht⟩) hS.2.2 dX10_shown_9

set_option maxHeartbeats 4000000 in
set_option maxRecDepth 100000 in
theorem c_X10_closed (l : Launch) (dC : Nat → ClassId) (dI : Nat → Nat → Nat) (sz : Nat) (h_xx : Nat) (h_pv : Nat) (v_xx : Nat → Value) (v_pv : Nat → Value) (p1 : Int32) : Met l yX10_closed (Ws yX10_closed cX10_closed 2 (some .int)) ({ frames := 0, cells := 0, slots := 0, locals := 0 }) (PRE (dC, dI) cls [] [(h_xx, .inr (7, [(v_xx 0), (v_xx 1), (v_xx 2), (v_xx 3), (v_xx 4), .ref h_pv, (v_xx 6), (v_xx 7)])), (h_pv, .inr (3, [(v_pv 0), (v_pv 1), (v_pv 2), (v_pv 3), (v_pv 4), (v_pv 5), (v_pv 6), .int 0, (v_pv 8), .int 0, (v_pv 10), (v_pv 11), .int 0, .int 0, .int 0, .int 0, (v_pv 16), .int 0]))] sz [.ref h_xx, .int p1]) (va_Qi (fun (r : Int32) (_ : Unit) => r = (-1)) (fun (_ : Unit) (_ : State) => True) (va_A [(h_xx, .inr (7, [(v_xx 0), (v_xx 1), (v_xx 2), (v_xx 3), (v_xx 4), .ref h_pv, (v_xx 6), (v_xx 7)])), (h_pv, .inr (3, [(v_pv 0), (v_pv 1), (v_pv 2), (v_pv 3), (v_pv 4), (v_pv 5), (v_pv 6), .int 0, (v_pv 8), .int 0, (v_pv 10), (v_pv 11), .int 0, .int 0, .int 0, .int 0, (v_pv 16), .int 0]))] sz)) 0 0 (va_A [(h_xx, .inr (7, [(v_xx 0), (v_xx 1), (v_xx 2), (v_xx 3), (v_xx 4), .ref h_pv, (v_xx 6), (v_xx 7)])), (h_pv, .inr (3, [(v_pv 0), (v_pv 1), (v_pv 2), (v_pv 3), (v_pv 4), (v_pv 5), (v_pv 6), .int 0, (v_pv 8), .int 0, (v_pv 10), (v_pv 11), .int 0, .int 0, .int 0, .int 0, (v_pv 16), .int 0]))] sz) := by
  refine Met.ofW (cc := cX10_closed) (maxL := 2) (ret := (some .int)) (by decide) rfl ?_
  intro p e s m args below meth c s₁ B hml hv
  obtain ⟨rfl, hsz, hP, hK, hD0, hN⟩ := hv
  have hx := B.exec
  have hb := B.bytes
  have hr := B.returns
  have hts := atoms_spec (ws := Ws yX10_closed cX10_closed 2 (some .int)) B.pre
  have hT : ∀ w ∈ WALL, w ∈ Ws yX10_closed cX10_closed 2 (some .int) := fun w h => List.mem_cons_of_mem _ h
  have hw := fun w (h : w ∈ WALL) => hts w (hT w h)
  have hown : s.vm.findClass RX10 = some m.cls := findClass_of_methodNamed B.named
  have hlocks := B.notSynchronized
  subst hsz
  have hD := hD0.self (sz := s.heap.size)
  generalize hAe : va_A [(h_xx, .inr (7, [(v_xx 0), (v_xx 1), (v_xx 2), (v_xx 3), (v_xx 4), .ref h_pv, (v_xx 6), (v_xx 7)])), (h_pv, .inr (3, [(v_pv 0), (v_pv 1), (v_pv 2), (v_pv 3), (v_pv 4), (v_pv 5), (v_pv 6), .int 0, (v_pv 8), .int 0, (v_pv 10), (v_pv 11), .int 0, .int 0, .int 0, .int 0, (v_pv 16), .int 0]))] s.heap.size = A at hD ⊢
  have hA : ∀ q : Nat, s.heap.size ≤ q → A q := fun q h => by rw [← hAe]; exact Or.inr h
  have hS : va_S A s.heap s.heap [] := va_S.rf
  have hl := lv_entry ([.ref h_xx, .int p1]) (n := 2) (Nat.le_of_ble_eq_true rfl)
  rw [lg_entry_eq]
  generalize (lg_sl ([.ref h_xx, .int p1]) ++ List.replicate (2 - (lg_sl ([.ref h_xx, .int p1])).length) Slot.unset).toArray = ls at hl ⊢
  have hl : lv_has ls 2 [(0, .ref h_xx), (1, .int p1)] := hl
  refine lv_aload_n hx hb dX10_closed_0 rfl (lv_at hl 0 rfl) ?_
  refine va_get (D := (dC, dI)) (ci := 7) (v := .ref h_pv) (C := RX10) (T := TX10) (N := 8) hx hb hw iwX10 hown hK hP 0 rfl rfl 5 (by decide) (hw _ w_f_X10_47) (fun _ h9 => h9) rfl dX10_closed_1 ?_
  refine va_getN (D := (dC, dI)) (ci := 3) (v := .int 0) (C := RX4) (T := TX4) (N := 18) (host := "OppositePairs") hx hb hw iwX4 hown hK hP 1 rfl rfl 17 (by decide) (hN.use n_f_X10_175 rfl) (fun _ h9 => h9) rfl dX10_closed_4 ?_
  refine lv_if_eq (tgt := 23) hx hb dX10_closed_7 (by decide) (fun _ => ?_) (fun c9 => absurd c9 (by decide))
  refine lv_iconst (v := (-1)) hx hb dX10_closed_23 (by decide) ?_
  refine W.widen (k := 0) (n := 0) (Nat.le_of_ble_eq_true rfl) (Nat.le_of_ble_eq_true rfl) ?_
  exact W.iret (v := (-1)) hx hb hr (fun t ht hW => ⟨⟨(-1), (), rfl, rfl, trivial⟩, hS.F ht⟩) hS.2.2 dX10_closed_24

set_option maxHeartbeats 4000000 in
set_option maxRecDepth 100000 in
theorem c_X10_open (l : Launch) (dC : Nat → ClassId) (dI : Nat → Nat → Nat) (sz : Nat) (h_xx : Nat) (h_pv : Nat) (v_xx : Nat → Value) (v_pv : Nat → Value) (p1 : Int32) (p2 : Int32) : Met l yX10_open (Ws yX10_open cX10_open 3 (some .int)) ({ frames := 1, cells := 0, slots := 0, locals := 21 }) (PRE (dC, dI) cls [] [(h_xx, .inr (7, [(v_xx 0), (v_xx 1), (v_xx 2), (v_xx 3), (v_xx 4), .ref h_pv, (v_xx 6), (v_xx 7)])), (h_pv, .inr (3, [(v_pv 0), (v_pv 1), (v_pv 2), (v_pv 3), (v_pv 4), (v_pv 5), (v_pv 6), .int 0, (v_pv 8), .int 0, (v_pv 10), (v_pv 11), .int 0, .int 0, .int 0, .int 0, (v_pv 16), .int 0]))] sz [.ref h_xx, .int p1, .int p2]) (va_Qi (fun (r : Int32) (_ : Unit) => r = (-1)) (fun (_ : Unit) (_ : State) => True) (va_A [(h_xx, .inr (7, [(v_xx 0), (v_xx 1), (v_xx 2), (v_xx 3), (v_xx 4), .ref h_pv, (v_xx 6), (v_xx 7)])), (h_pv, .inr (3, [(v_pv 0), (v_pv 1), (v_pv 2), (v_pv 3), (v_pv 4), (v_pv 5), (v_pv 6), .int 0, (v_pv 8), .int 0, (v_pv 10), (v_pv 11), .int 0, .int 0, .int 0, .int 0, (v_pv 16), .int 0]))] sz)) 0 0 (va_A [(h_xx, .inr (7, [(v_xx 0), (v_xx 1), (v_xx 2), (v_xx 3), (v_xx 4), .ref h_pv, (v_xx 6), (v_xx 7)])), (h_pv, .inr (3, [(v_pv 0), (v_pv 1), (v_pv 2), (v_pv 3), (v_pv 4), (v_pv 5), (v_pv 6), .int 0, (v_pv 8), .int 0, (v_pv 10), (v_pv 11), .int 0, .int 0, .int 0, .int 0, (v_pv 16), .int 0]))] sz) := by
  refine Met.ofW (cc := cX10_open) (maxL := 3) (ret := (some .int)) (by decide) rfl ?_
  intro p e s m args below meth c s₁ B hml hv
  obtain ⟨rfl, hsz, hP, hK, hD0, hN⟩ := hv
  have hx := B.exec
  have hb := B.bytes
  have hr := B.returns
  have hts := atoms_spec (ws := Ws yX10_open cX10_open 3 (some .int)) B.pre
  have hT : ∀ w ∈ WALL, w ∈ Ws yX10_open cX10_open 3 (some .int) := fun w h => List.mem_cons_of_mem _ h
  have hw := fun w (h : w ∈ WALL) => hts w (hT w h)
  have hown : s.vm.findClass RX10 = some m.cls := findClass_of_methodNamed B.named
  have hlocks := B.notSynchronized
  subst hsz
  have hD := hD0.self (sz := s.heap.size)
  generalize hAe : va_A [(h_xx, .inr (7, [(v_xx 0), (v_xx 1), (v_xx 2), (v_xx 3), (v_xx 4), .ref h_pv, (v_xx 6), (v_xx 7)])), (h_pv, .inr (3, [(v_pv 0), (v_pv 1), (v_pv 2), (v_pv 3), (v_pv 4), (v_pv 5), (v_pv 6), .int 0, (v_pv 8), .int 0, (v_pv 10), (v_pv 11), .int 0, .int 0, .int 0, .int 0, (v_pv 16), .int 0]))] s.heap.size = A at hD ⊢
  have hA : ∀ q : Nat, s.heap.size ≤ q → A q := fun q h => by rw [← hAe]; exact Or.inr h
  have hS : va_S A s.heap s.heap [] := va_S.rf
  have hl := lv_entry ([.ref h_xx, .int p1, .int p2]) (n := 3) (Nat.le_of_ble_eq_true rfl)
  rw [lg_entry_eq]
  generalize (lg_sl ([.ref h_xx, .int p1, .int p2]) ++ List.replicate (3 - (lg_sl ([.ref h_xx, .int p1, .int p2])).length) Slot.unset).toArray = ls at hl ⊢
  have hl : lv_has ls 3 [(0, .ref h_xx), (1, .int p1), (2, .int p2)] := hl
  refine lv_aload_n hx hb dX10_open_0 rfl (lv_at hl 0 rfl) ?_
  refine lv_iload_n hx hb dX10_open_1 rfl (lv_at hl 1 rfl) ?_
  have hPc := hP.sub (ws' := [(h_xx, .inr (7, [(v_xx 0), (v_xx 1), (v_xx 2), (v_xx 3), (v_xx 4), .ref h_pv, (v_xx 6), (v_xx 7)])), (h_pv, .inr (3, [(v_pv 0), (v_pv 1), (v_pv 2), (v_pv 3), (v_pv 4), (v_pv 5), (v_pv 6), .int 0, (v_pv 8), .int 0, (v_pv 10), (v_pv 11), .int 0, .int 0, .int 0, .int 0, (v_pv 16), .int 0]))]) [0, 1] rfl
  have hDc := hD.sub (ws' := [(h_xx, .inr (7, [(v_xx 0), (v_xx 1), (v_xx 2), (v_xx 3), (v_xx 4), .ref h_pv, (v_xx 6), (v_xx 7)])), (h_pv, .inr (3, [(v_pv 0), (v_pv 1), (v_pv 2), (v_pv 3), (v_pv 4), (v_pv 5), (v_pv 6), .int 0, (v_pv 8), .int 0, (v_pv 10), (v_pv 11), .int 0, .int 0, .int 0, .int 0, (v_pv 16), .int 0]))]) [0, 1] (by decide) rfl
  have hKc := hK.sub (tys' := []) [] rfl
  have hFc := va_free (wc := [(h_xx, .inr (7, [(v_xx 0), (v_xx 1), (v_xx 2), (v_xx 3), (v_xx 4), .ref h_pv, (v_xx 6), (v_xx 7)])), (h_pv, .inr (3, [(v_pv 0), (v_pv 1), (v_pv 2), (v_pv 3), (v_pv 4), (v_pv 5), (v_pv 6), .int 0, (v_pv 8), .int 0, (v_pv 10), (v_pv 11), .int 0, .int 0, .int 0, .int 0, (v_pv 16), .int 0]))]) hD hS hA [0, 1] rfl
  refine va_calli (va_runV (As := [.int p1]) (rest := []) ⟨hx, hb, hml, hown, hts⟩ (c_X10_isInstance l dC dI s.heap.size h_xx h_pv v_xx v_pv p1) (cwV 1 hts (gv hT w_m_X10_220 w_instanceMethod_X10_isInstance ws_sel_X10_isInstance w_ini_X10 w_code_X10_isInstance) rfl rfl rfl (by decide +kernel) ⟨(Nat.le_of_ble_eq_true rfl), (Nat.le_of_ble_eq_true rfl)⟩) ⟨pre_blind, va_recv hK hP (ci := 7) (q0 := 0) rfl rfl, pre_of hPc hKc hDc hN⟩ rfl rfl hl.1 rfl (lv_room (Nat.le_of_ble_eq_true rfl)) dX10_open_2 ⟨(Nat.le_of_ble_eq_true rfl), (Nat.le_of_ble_eq_true rfl)⟩) hS (fun q _ h => hFc q h) hFc (fun r1 u t H locs ht hvm hq hB hz1 hk1 hS => ?_)
  obtain ⟨hP, hD⟩ := va_join (wr := []) (w1 := []) hP hD [0, 1] [] rfl rfl (by decide) (by decide) hk1 hFc P_nil D_nil
  have hP : va_P (dC, dI) cls [] H := hP
  have hD : va_D A [] := hD
  obtain rfl : r1 = 0 := hq
  refine lv_if_eq (tgt := 32) hx hb dX10_open_5 (by decide) (fun _ => ?_) (fun c9 => absurd c9 (by decide))
  refine lv_iconst (v := (-1)) hx hb dX10_open_32 (by decide) ?_
  refine W.widen (k := 0) (n := 0) (Nat.le_of_ble_eq_true rfl) (Nat.le_of_ble_eq_true rfl) ?_
  exact W.iret (v := (-1)) hx hb hr (fun t ht hW => ⟨⟨(-1), (), rfl, rfl, trivial⟩, hS.F ht⟩) hS.2.2 dX10_open_33

set_option maxHeartbeats 4000000 in
set_option maxRecDepth 100000 in
theorem c_X10_needed (l : Launch) (dC : Nat → ClassId) (dI : Nat → Nat → Nat) (sz : Nat) (h_xx : Nat) (h_pv : Nat) (v_xx : Nat → Value) (v_pv : Nat → Value) : Met l yX10_needed (Ws yX10_needed cX10_needed 3 (some .int)) ({ frames := 0, cells := 0, slots := 0, locals := 0 }) (PRE (dC, dI) cls [] [(h_xx, .inr (7, [(v_xx 0), (v_xx 1), (v_xx 2), (v_xx 3), (v_xx 4), .ref h_pv, (v_xx 6), (v_xx 7)])), (h_pv, .inr (3, [(v_pv 0), (v_pv 1), (v_pv 2), (v_pv 3), (v_pv 4), (v_pv 5), (v_pv 6), .int 0, (v_pv 8), .int 0, (v_pv 10), (v_pv 11), .int 0, .int 0, .int 0, .int 0, (v_pv 16), .int 0]))] sz [.ref h_xx]) (va_Qi (fun (r : Int32) (_ : Unit) => r = 0) (fun (_ : Unit) (_ : State) => True) (va_A [(h_xx, .inr (7, [(v_xx 0), (v_xx 1), (v_xx 2), (v_xx 3), (v_xx 4), .ref h_pv, (v_xx 6), (v_xx 7)])), (h_pv, .inr (3, [(v_pv 0), (v_pv 1), (v_pv 2), (v_pv 3), (v_pv 4), (v_pv 5), (v_pv 6), .int 0, (v_pv 8), .int 0, (v_pv 10), (v_pv 11), .int 0, .int 0, .int 0, .int 0, (v_pv 16), .int 0]))] sz)) 0 0 (va_A [(h_xx, .inr (7, [(v_xx 0), (v_xx 1), (v_xx 2), (v_xx 3), (v_xx 4), .ref h_pv, (v_xx 6), (v_xx 7)])), (h_pv, .inr (3, [(v_pv 0), (v_pv 1), (v_pv 2), (v_pv 3), (v_pv 4), (v_pv 5), (v_pv 6), .int 0, (v_pv 8), .int 0, (v_pv 10), (v_pv 11), .int 0, .int 0, .int 0, .int 0, (v_pv 16), .int 0]))] sz) := by
  refine Met.ofW (cc := cX10_needed) (maxL := 3) (ret := (some .int)) (by decide) rfl ?_
  intro p e s m args below meth c s₁ B hml hv
  obtain ⟨rfl, hsz, hP, hK, hD0, hN⟩ := hv
  have hx := B.exec
  have hb := B.bytes
  have hr := B.returns
  have hts := atoms_spec (ws := Ws yX10_needed cX10_needed 3 (some .int)) B.pre
  have hT : ∀ w ∈ WALL, w ∈ Ws yX10_needed cX10_needed 3 (some .int) := fun w h => List.mem_cons_of_mem _ h
  have hw := fun w (h : w ∈ WALL) => hts w (hT w h)
  have hown : s.vm.findClass RX10 = some m.cls := findClass_of_methodNamed B.named
  have hlocks := B.notSynchronized
  subst hsz
  have hD := hD0.self (sz := s.heap.size)
  generalize hAe : va_A [(h_xx, .inr (7, [(v_xx 0), (v_xx 1), (v_xx 2), (v_xx 3), (v_xx 4), .ref h_pv, (v_xx 6), (v_xx 7)])), (h_pv, .inr (3, [(v_pv 0), (v_pv 1), (v_pv 2), (v_pv 3), (v_pv 4), (v_pv 5), (v_pv 6), .int 0, (v_pv 8), .int 0, (v_pv 10), (v_pv 11), .int 0, .int 0, .int 0, .int 0, (v_pv 16), .int 0]))] s.heap.size = A at hD ⊢
  have hA : ∀ q : Nat, s.heap.size ≤ q → A q := fun q h => by rw [← hAe]; exact Or.inr h
  have hS : va_S A s.heap s.heap [] := va_S.rf
  have hl := lv_entry ([.ref h_xx]) (n := 3) (Nat.le_of_ble_eq_true rfl)
  rw [lg_entry_eq]
  generalize (lg_sl ([.ref h_xx]) ++ List.replicate (3 - (lg_sl ([.ref h_xx])).length) Slot.unset).toArray = ls at hl ⊢
  have hl : lv_has ls 3 [(0, .ref h_xx)] := hl
  refine lv_aload_n hx hb dX10_needed_0 rfl (lv_at hl 0 rfl) ?_
  refine va_get (D := (dC, dI)) (ci := 7) (v := .ref h_pv) (C := RX10) (T := TX10) (N := 8) hx hb hw iwX10 hown hK hP 0 rfl rfl 5 (by decide) (hw _ w_f_X10_47) (fun _ h9 => h9) rfl dX10_needed_1 ?_
  refine va_getN (D := (dC, dI)) (ci := 3) (v := .int 0) (C := RX4) (T := TX4) (N := 18) (host := "OppositePairs") hx hb hw iwX4 hown hK hP 1 rfl rfl 17 (by decide) (hN.use n_f_X10_175 rfl) (fun _ h9 => h9) rfl dX10_needed_4 ?_
  refine lv_if_ne (tgt := 12) hx hb dX10_needed_7 (by decide) (fun c9 => absurd c9 (by decide)) (fun _ => ?_)
  refine lv_iconst (v := 0) hx hb dX10_needed_10 (by decide) ?_
  refine W.widen (k := 0) (n := 0) (Nat.le_of_ble_eq_true rfl) (Nat.le_of_ble_eq_true rfl) ?_
  exact W.iret (v := 0) hx hb hr (fun t ht hW => ⟨⟨0, (), rfl, rfl, trivial⟩, hS.F ht⟩) hS.2.2 dX10_needed_11

set_option maxHeartbeats 4000000 in
set_option maxRecDepth 100000 in
theorem c_X10_answer (l : Launch) (dC : Nat → ClassId) (dI : Nat → Nat → Nat) (sz : Nat) (h_xx : Nat) (h_an : Nat) (v_xx : Nat → Value) (v_an : Nat → Value) (p1 : Int32) (p2 : Int32) : Met l yX10_answer (Ws yX10_answer cX10_answer 3 (some .int)) ({ frames := 0, cells := 0, slots := 0, locals := 0 }) (PRE (dC, dI) cls [] [(h_xx, .inr (7, [(v_xx 0), (v_xx 1), (v_xx 2), (v_xx 3), (v_xx 4), (v_xx 5), (v_xx 6), .ref h_an])), (h_an, .inr (0, [(v_an 0), (v_an 1), (v_an 2), (v_an 3), .int 0, .int 0]))] sz [.ref h_xx, .int p1, .int p2]) (va_Qi (fun (r : Int32) (_ : Unit) => r = an_answer p1) (fun (_ : Unit) (_ : State) => True) (va_A [(h_xx, .inr (7, [(v_xx 0), (v_xx 1), (v_xx 2), (v_xx 3), (v_xx 4), (v_xx 5), (v_xx 6), .ref h_an])), (h_an, .inr (0, [(v_an 0), (v_an 1), (v_an 2), (v_an 3), .int 0, .int 0]))] sz)) 0 0 (va_A [(h_xx, .inr (7, [(v_xx 0), (v_xx 1), (v_xx 2), (v_xx 3), (v_xx 4), (v_xx 5), (v_xx 6), .ref h_an])), (h_an, .inr (0, [(v_an 0), (v_an 1), (v_an 2), (v_an 3), .int 0, .int 0]))] sz) := by
  refine Met.ofW (cc := cX10_answer) (maxL := 3) (ret := (some .int)) (by decide) rfl ?_
  intro p e s m args below meth c s₁ B hml hv
  obtain ⟨rfl, hsz, hP, hK, hD0, hN⟩ := hv
  have hx := B.exec
  have hb := B.bytes
  have hr := B.returns
  have hts := atoms_spec (ws := Ws yX10_answer cX10_answer 3 (some .int)) B.pre
  have hT : ∀ w ∈ WALL, w ∈ Ws yX10_answer cX10_answer 3 (some .int) := fun w h => List.mem_cons_of_mem _ h
  have hw := fun w (h : w ∈ WALL) => hts w (hT w h)
  have hown : s.vm.findClass RX10 = some m.cls := findClass_of_methodNamed B.named
  have hlocks := B.notSynchronized
  subst hsz
  have hD := hD0.self (sz := s.heap.size)
  generalize hAe : va_A [(h_xx, .inr (7, [(v_xx 0), (v_xx 1), (v_xx 2), (v_xx 3), (v_xx 4), (v_xx 5), (v_xx 6), .ref h_an])), (h_an, .inr (0, [(v_an 0), (v_an 1), (v_an 2), (v_an 3), .int 0, .int 0]))] s.heap.size = A at hD ⊢
  have hA : ∀ q : Nat, s.heap.size ≤ q → A q := fun q h => by rw [← hAe]; exact Or.inr h
  have hS : va_S A s.heap s.heap [] := va_S.rf
  have hl := lv_entry ([.ref h_xx, .int p1, .int p2]) (n := 3) (Nat.le_of_ble_eq_true rfl)
  rw [lg_entry_eq]
  generalize (lg_sl ([.ref h_xx, .int p1, .int p2]) ++ List.replicate (3 - (lg_sl ([.ref h_xx, .int p1, .int p2])).length) Slot.unset).toArray = ls at hl ⊢
  have hl : lv_has ls 3 [(0, .ref h_xx), (1, .int p1), (2, .int p2)] := hl
  refine lv_iload_n hx hb dX10_answer_0 rfl (lv_at hl 1 rfl) ?_
  refine lv_iconst (v := (-1)) hx hb dX10_answer_1 (by decide) ?_
  refine lv_icmp_ne (tgt := 13) hx hb dX10_answer_2 (by decide) (fun c1 => ?_) (fun c1 => ?_)
  · have kc1 := (not_congr (cv_eq (rfl : (p1).toInt = (p1).toInt) (by decide : ((-1) : Int32).toInt = -1))).mp c1
    refine lv_iload_n hx hb dX10_answer_13 rfl (lv_at hl 1 rfl) ?_
    refine lv_if_lt (tgt := 28) hx hb dX10_answer_14 (by decide) (fun c2 => ?_) (fun c2 => ?_)
    · have kc2 := (cv_lt (rfl : (p1).toInt = (p1).toInt) (by decide : (0 : Int32).toInt = 0)).mp c2
      refine lv_iconst (v := (-1)) hx hb dX10_answer_28 (by decide) ?_
      refine W.widen (k := 0) (n := 0) (Nat.le_of_ble_eq_true rfl) (Nat.le_of_ble_eq_true rfl) ?_
      exact W.iret (v := (-1)) hx hb hr (fun t ht hW => ⟨⟨(-1), (), rfl, (by unfold an_answer; split <;> first | rfl | (exfalso; omega)), trivial⟩, hS.F ht⟩) hS.2.2 dX10_answer_29
    · have kc2 := (not_congr (cv_lt (rfl : (p1).toInt = (p1).toInt) (by decide : (0 : Int32).toInt = 0))).mp c2
      refine lv_iload_n hx hb dX10_answer_17 rfl (lv_at hl 1 rfl) ?_
      refine lv_aload_n hx hb dX10_answer_18 rfl (lv_at hl 0 rfl) ?_
      refine va_get (D := (dC, dI)) (ci := 7) (v := .ref h_an) (C := RX10) (T := TX10) (N := 8) hx hb hw iwX10 hown hK hP 0 rfl rfl 7 (by decide) (hw _ w_f_X10_63) (fun _ h9 => h9) rfl dX10_answer_19 ?_
      refine va_getN (D := (dC, dI)) (ci := 0) (v := .int 0) (C := RX0) (T := TX0) (N := 6) (host := "OppositePairs") hx hb hw iwX0 hown hK hP 1 rfl rfl 4 (by decide) (hN.use n_f_X10_232 rfl) (fun _ h9 => h9) rfl dX10_answer_22 ?_
      refine lv_icmp_lt (tgt := 30) hx hb dX10_answer_25 (by decide) (fun c3 => False.elim (by have kc3 := (cv_lt (rfl : (p1).toInt = (p1).toInt) (by decide : (0 : Int32).toInt = 0)).mp c3; omega)) (fun _ => ?_)
      refine lv_iconst (v := (-1)) hx hb dX10_answer_28 (by decide) ?_
      refine W.widen (k := 0) (n := 0) (Nat.le_of_ble_eq_true rfl) (Nat.le_of_ble_eq_true rfl) ?_
      exact W.iret (v := (-1)) hx hb hr (fun t ht hW => ⟨⟨(-1), (), rfl, (by unfold an_answer; split <;> first | rfl | (exfalso; omega)), trivial⟩, hS.F ht⟩) hS.2.2 dX10_answer_29
  · have kc1 := (cv_eq (rfl : (p1).toInt = (p1).toInt) (by decide : ((-1) : Int32).toInt = -1)).mp c1
    refine lv_aload_n hx hb dX10_answer_5 rfl (lv_at hl 0 rfl) ?_
    refine va_get (D := (dC, dI)) (ci := 7) (v := .ref h_an) (C := RX10) (T := TX10) (N := 8) hx hb hw iwX10 hown hK hP 0 rfl rfl 7 (by decide) (hw _ w_f_X10_63) (fun _ h9 => h9) rfl dX10_answer_6 ?_
    refine va_getN (D := (dC, dI)) (ci := 0) (v := .int 0) (C := RX0) (T := TX0) (N := 6) (host := "OppositePairs") hx hb hw iwX0 hown hK hP 1 rfl rfl 4 (by decide) (hN.use n_f_X10_232 rfl) (fun _ h9 => h9) rfl dX10_answer_9 ?_
    refine W.widen (k := 0) (n := 0) (Nat.le_of_ble_eq_true rfl) (Nat.le_of_ble_eq_true rfl) ?_
    exact W.iret (v := 0) hx hb hr (fun t ht hW => ⟨⟨0, (), rfl, (by unfold an_answer; split <;> first | rfl | (exfalso; omega)), trivial⟩, hS.F ht⟩) hS.2.2 dX10_answer_12

set_option maxHeartbeats 4000000 in
set_option maxRecDepth 100000 in
theorem c_X10_look (l : Launch) (dC : Nat → ClassId) (dI : Nat → Nat → Nat) (sz : Nat) (h_xx : Nat) (h_rd : Nat) (h_td : Nat) (h_pv : Nat) (h_an : Nat) (v_xx : Nat → Value) (v_rd : Nat → Value) (v_td : Nat → Value) (v_pv : Nat → Value) (v_an : Nat → Value) (p1 : Int32) : Met l yX10_look (Ws yX10_look cX10_look 2 (some .int)) ({ frames := 1, cells := 0, slots := 0, locals := 23 }) (PRE (dC, dI) cls [] [(h_xx, .inr (7, [.ref h_rd, .ref h_td, (v_xx 2), (v_xx 3), (v_xx 4), .ref h_pv, (v_xx 6), .ref h_an])), (h_rd, .inr (4, [(v_rd 0), .int 0, .int 0, .int (-1), (v_rd 4), (v_rd 5), (v_rd 6), (v_rd 7), (v_rd 8), (v_rd 9), (v_rd 10)])), (h_td, .inr (5, [(v_td 0), (v_td 1), (v_td 2), (v_td 3), (v_td 4), (v_td 5), (v_td 6), (v_td 7), (v_td 8), .int 0])), (h_pv, .inr (3, [(v_pv 0), (v_pv 1), (v_pv 2), (v_pv 3), (v_pv 4), (v_pv 5), (v_pv 6), .int 0, (v_pv 8), .int 0, (v_pv 10), (v_pv 11), .int 0, .int 0, .int 0, .int 0, (v_pv 16), .int 0])), (h_an, .inr (0, [(v_an 0), (v_an 1), (v_an 2), (v_an 3), .int 0, .int 0]))] sz [.ref h_xx, .int p1]) (va_Qi (fun (r : Int32) (_ : Unit) => r = an_look p1) (fun (_ : Unit) (_ : State) => True) (va_A [(h_xx, .inr (7, [.ref h_rd, .ref h_td, (v_xx 2), (v_xx 3), (v_xx 4), .ref h_pv, (v_xx 6), .ref h_an])), (h_rd, .inr (4, [(v_rd 0), .int 0, .int 0, .int (-1), (v_rd 4), (v_rd 5), (v_rd 6), (v_rd 7), (v_rd 8), (v_rd 9), (v_rd 10)])), (h_td, .inr (5, [(v_td 0), (v_td 1), (v_td 2), (v_td 3), (v_td 4), (v_td 5), (v_td 6), (v_td 7), (v_td 8), .int 0])), (h_pv, .inr (3, [(v_pv 0), (v_pv 1), (v_pv 2), (v_pv 3), (v_pv 4), (v_pv 5), (v_pv 6), .int 0, (v_pv 8), .int 0, (v_pv 10), (v_pv 11), .int 0, .int 0, .int 0, .int 0, (v_pv 16), .int 0])), (h_an, .inr (0, [(v_an 0), (v_an 1), (v_an 2), (v_an 3), .int 0, .int 0]))] sz)) 0 0 (va_A [(h_xx, .inr (7, [.ref h_rd, .ref h_td, (v_xx 2), (v_xx 3), (v_xx 4), .ref h_pv, (v_xx 6), .ref h_an])), (h_rd, .inr (4, [(v_rd 0), .int 0, .int 0, .int (-1), (v_rd 4), (v_rd 5), (v_rd 6), (v_rd 7), (v_rd 8), (v_rd 9), (v_rd 10)])), (h_td, .inr (5, [(v_td 0), (v_td 1), (v_td 2), (v_td 3), (v_td 4), (v_td 5), (v_td 6), (v_td 7), (v_td 8), .int 0])), (h_pv, .inr (3, [(v_pv 0), (v_pv 1), (v_pv 2), (v_pv 3), (v_pv 4), (v_pv 5), (v_pv 6), .int 0, (v_pv 8), .int 0, (v_pv 10), (v_pv 11), .int 0, .int 0, .int 0, .int 0, (v_pv 16), .int 0])), (h_an, .inr (0, [(v_an 0), (v_an 1), (v_an 2), (v_an 3), .int 0, .int 0]))] sz) := by
  refine Met.ofW (cc := cX10_look) (maxL := 2) (ret := (some .int)) (by decide) rfl ?_
  intro p e s m args below meth c s₁ B hml hv
  obtain ⟨rfl, hsz, hP, hK, hD0, hN⟩ := hv
  have hx := B.exec
  have hb := B.bytes
  have hr := B.returns
  have hts := atoms_spec (ws := Ws yX10_look cX10_look 2 (some .int)) B.pre
  have hT : ∀ w ∈ WALL, w ∈ Ws yX10_look cX10_look 2 (some .int) := fun w h => List.mem_cons_of_mem _ h
  have hw := fun w (h : w ∈ WALL) => hts w (hT w h)
  have hown : s.vm.findClass RX10 = some m.cls := findClass_of_methodNamed B.named
  have hlocks := B.notSynchronized
  subst hsz
  have hD := hD0.self (sz := s.heap.size)
  generalize hAe : va_A [(h_xx, .inr (7, [.ref h_rd, .ref h_td, (v_xx 2), (v_xx 3), (v_xx 4), .ref h_pv, (v_xx 6), .ref h_an])), (h_rd, .inr (4, [(v_rd 0), .int 0, .int 0, .int (-1), (v_rd 4), (v_rd 5), (v_rd 6), (v_rd 7), (v_rd 8), (v_rd 9), (v_rd 10)])), (h_td, .inr (5, [(v_td 0), (v_td 1), (v_td 2), (v_td 3), (v_td 4), (v_td 5), (v_td 6), (v_td 7), (v_td 8), .int 0])), (h_pv, .inr (3, [(v_pv 0), (v_pv 1), (v_pv 2), (v_pv 3), (v_pv 4), (v_pv 5), (v_pv 6), .int 0, (v_pv 8), .int 0, (v_pv 10), (v_pv 11), .int 0, .int 0, .int 0, .int 0, (v_pv 16), .int 0])), (h_an, .inr (0, [(v_an 0), (v_an 1), (v_an 2), (v_an 3), .int 0, .int 0]))] s.heap.size = A at hD ⊢
  have hA : ∀ q : Nat, s.heap.size ≤ q → A q := fun q h => by rw [← hAe]; exact Or.inr h
  have hS : va_S A s.heap s.heap [] := va_S.rf
  have hl := lv_entry ([.ref h_xx, .int p1]) (n := 2) (Nat.le_of_ble_eq_true rfl)
  rw [lg_entry_eq]
  generalize (lg_sl ([.ref h_xx, .int p1]) ++ List.replicate (2 - (lg_sl ([.ref h_xx, .int p1])).length) Slot.unset).toArray = ls at hl ⊢
  have hl : lv_has ls 2 [(0, .ref h_xx), (1, .int p1)] := hl
  refine lv_iload_n hx hb dX10_look_0 rfl (lv_at hl 1 rfl) ?_
  have s1 : (p1).toInt < 0 ∨ 8 < (p1).toInt ∨ (p1).toInt = 0 ∨ (p1).toInt = 1 ∨ (p1).toInt = 2 ∨ (p1).toInt = 3 ∨ (p1).toInt = 4 ∨ (p1).toInt = 5 ∨ (p1).toInt = 6 ∨ (p1).toInt = 7 ∨ (p1).toInt = 8 := by omega
  rcases s1 with s1 | s1 | s1 | s1 | s1 | s1 | s1 | s1 | s1 | s1 | s1
  · refine lv_tableOut (tgt := 135) hx hb dX10_look_1 (Or.inl s1) (by decide) ?_
    refine lv_iconst (v := (-1)) hx hb dX10_look_135 (by decide) ?_
    refine W.widen (k := 0) (n := 0) (Nat.le_of_ble_eq_true rfl) (Nat.le_of_ble_eq_true rfl) ?_
    exact W.iret (v := (-1)) hx hb hr (fun t ht hW => ⟨⟨(-1), (), rfl, (by unfold an_look; split <;> first | rfl | (exfalso; omega)), trivial⟩, hS.F ht⟩) hS.2.2 dX10_look_136
  · refine lv_tableOut (tgt := 135) hx hb dX10_look_1 (Or.inr s1) (by decide) ?_
    refine lv_iconst (v := (-1)) hx hb dX10_look_135 (by decide) ?_
    refine W.widen (k := 0) (n := 0) (Nat.le_of_ble_eq_true rfl) (Nat.le_of_ble_eq_true rfl) ?_
    exact W.iret (v := (-1)) hx hb hr (fun t ht hW => ⟨⟨(-1), (), rfl, (by unfold an_look; split <;> first | rfl | (exfalso; omega)), trivial⟩, hS.F ht⟩) hS.2.2 dX10_look_136
  · refine lv_tableIn (off := 51) (tgt := 52) hx hb dX10_look_1 (by omega) (by omega) (by rw [s1]; rfl) (by decide) ?_
    refine lv_aload_n hx hb dX10_look_52 rfl (lv_at hl 0 rfl) ?_
    refine va_get (D := (dC, dI)) (ci := 7) (v := .ref h_td) (C := RX10) (T := TX10) (N := 8) hx hb hw iwX10 hown hK hP 0 rfl rfl 1 (by decide) (hw _ w_f_X10_19) (fun _ h9 => h9) rfl dX10_look_53 ?_
    refine va_getN (D := (dC, dI)) (ci := 5) (v := .int 0) (C := RX8) (T := TX8) (N := 10) (host := "OppositePairs") hx hb hw iwX8 hown hK hP 2 rfl rfl 9 (by decide) (hN.use n_f_X10_84 rfl) (fun _ h9 => h9) rfl dX10_look_56 ?_
    refine W.widen (k := 0) (n := 0) (Nat.le_of_ble_eq_true rfl) (Nat.le_of_ble_eq_true rfl) ?_
    exact W.iret (v := 0) hx hb hr (fun t ht hW => ⟨⟨0, (), rfl, (by unfold an_look; split <;> first | rfl | (exfalso; omega)), trivial⟩, hS.F ht⟩) hS.2.2 dX10_look_59
  · refine lv_tableIn (off := 59) (tgt := 60) hx hb dX10_look_1 (by omega) (by omega) (by rw [s1]; rfl) (by decide) ?_
    refine lv_aload_n hx hb dX10_look_60 rfl (lv_at hl 0 rfl) ?_
    refine va_get (D := (dC, dI)) (ci := 7) (v := .ref h_td) (C := RX10) (T := TX10) (N := 8) hx hb hw iwX10 hown hK hP 0 rfl rfl 1 (by decide) (hw _ w_f_X10_19) (fun _ h9 => h9) rfl dX10_look_61 ?_
    have hPc := hP.sub (ws' := [(h_td, .inr (5, [(v_td 0), (v_td 1), (v_td 2), (v_td 3), (v_td 4), (v_td 5), (v_td 6), (v_td 7), (v_td 8), .int 0]))]) [2] rfl
    have hDc := hD.sub (ws' := [(h_td, .inr (5, [(v_td 0), (v_td 1), (v_td 2), (v_td 3), (v_td 4), (v_td 5), (v_td 6), (v_td 7), (v_td 8), .int 0]))]) [2] (by decide) rfl
    have hKc := hK.sub (tys' := []) [] rfl
    have hFc := va_free (wc := [(h_td, .inr (5, [(v_td 0), (v_td 1), (v_td 2), (v_td 3), (v_td 4), (v_td 5), (v_td 6), (v_td 7), (v_td 8), .int 0]))]) hD hS hA [2] rfl
    refine va_calli (va_runVN (As := []) (rest := []) ⟨hx, hb, hml, hown, hts⟩ (c_X8_countLiterals l dC dI s.heap.size h_td v_td) ⟨va_cnB (host := "OppositePairs") 0 hts (gd hT w_code_X8_countLiterals) rfl rfl rfl (hN _ n_m_X10_247) (hw _ w_ini_X8) (by decide +kernel) ⟨(Nat.le_of_ble_eq_true rfl), (Nat.le_of_ble_eq_true rfl)⟩, hw _ w_instanceMethod_X8_countLiterals, hw _ ws_sel_X8_countLiterals⟩ ⟨pre_blind, va_recv hK hP (ci := 5) (q0 := 2) rfl rfl, pre_of hPc hKc hDc hN⟩ rfl rfl hl.1 rfl (lv_room (Nat.le_of_ble_eq_true rfl)) dX10_look_64 ⟨(Nat.le_of_ble_eq_true rfl), (Nat.le_of_ble_eq_true rfl)⟩) hS (fun q _ h => hFc q h) hFc (fun r2 u t H locs ht hvm hq hB hz1 hk1 hS => ?_)
    obtain ⟨hP, hD⟩ := va_join (wr := [(h_xx, .inr (7, [.ref h_rd, .ref h_td, (v_xx 2), (v_xx 3), (v_xx 4), .ref h_pv, (v_xx 6), .ref h_an])), (h_rd, .inr (4, [(v_rd 0), .int 0, .int 0, .int (-1), (v_rd 4), (v_rd 5), (v_rd 6), (v_rd 7), (v_rd 8), (v_rd 9), (v_rd 10)])), (h_pv, .inr (3, [(v_pv 0), (v_pv 1), (v_pv 2), (v_pv 3), (v_pv 4), (v_pv 5), (v_pv 6), .int 0, (v_pv 8), .int 0, (v_pv 10), (v_pv 11), .int 0, .int 0, .int 0, .int 0, (v_pv 16), .int 0])), (h_an, .inr (0, [(v_an 0), (v_an 1), (v_an 2), (v_an 3), .int 0, .int 0]))]) (w1 := []) hP hD [2] [0, 1, 3, 4] rfl rfl (by decide) (by decide) hk1 hFc P_nil D_nil
    have hP : va_P (dC, dI) cls [(h_xx, .inr (7, [.ref h_rd, .ref h_td, (v_xx 2), (v_xx 3), (v_xx 4), .ref h_pv, (v_xx 6), .ref h_an])), (h_rd, .inr (4, [(v_rd 0), .int 0, .int 0, .int (-1), (v_rd 4), (v_rd 5), (v_rd 6), (v_rd 7), (v_rd 8), (v_rd 9), (v_rd 10)])), (h_pv, .inr (3, [(v_pv 0), (v_pv 1), (v_pv 2), (v_pv 3), (v_pv 4), (v_pv 5), (v_pv 6), .int 0, (v_pv 8), .int 0, (v_pv 10), (v_pv 11), .int 0, .int 0, .int 0, .int 0, (v_pv 16), .int 0])), (h_an, .inr (0, [(v_an 0), (v_an 1), (v_an 2), (v_an 3), .int 0, .int 0]))] H := hP
    have hD : va_D A [(h_xx, .inr (7, [.ref h_rd, .ref h_td, (v_xx 2), (v_xx 3), (v_xx 4), .ref h_pv, (v_xx 6), .ref h_an])), (h_rd, .inr (4, [(v_rd 0), .int 0, .int 0, .int (-1), (v_rd 4), (v_rd 5), (v_rd 6), (v_rd 7), (v_rd 8), (v_rd 9), (v_rd 10)])), (h_pv, .inr (3, [(v_pv 0), (v_pv 1), (v_pv 2), (v_pv 3), (v_pv 4), (v_pv 5), (v_pv 6), .int 0, (v_pv 8), .int 0, (v_pv 10), (v_pv 11), .int 0, .int 0, .int 0, .int 0, (v_pv 16), .int 0])), (h_an, .inr (0, [(v_an 0), (v_an 1), (v_an 2), (v_an 3), .int 0, .int 0]))] := hD
    obtain rfl : r2 = 0 := hq
    refine W.widen (k := 0) (n := 0) (Nat.le_of_ble_eq_true rfl) (Nat.le_of_ble_eq_true rfl) ?_
    exact W.iret (v := 0) hx hb hr (fun t ht hW => ⟨⟨0, (), rfl, (by unfold an_look; split <;> first | rfl | (exfalso; omega)), trivial⟩, hS.F ht⟩) hS.2.2 dX10_look_67
  · refine lv_tableIn (off := 67) (tgt := 68) hx hb dX10_look_1 (by omega) (by omega) (by rw [s1]; rfl) (by decide) ?_
    refine lv_aload_n hx hb dX10_look_68 rfl (lv_at hl 0 rfl) ?_
    refine va_get (D := (dC, dI)) (ci := 7) (v := .ref h_td) (C := RX10) (T := TX10) (N := 8) hx hb hw iwX10 hown hK hP 0 rfl rfl 1 (by decide) (hw _ w_f_X10_19) (fun _ h9 => h9) rfl dX10_look_69 ?_
    have hPc := hP.sub (ws' := [(h_td, .inr (5, [(v_td 0), (v_td 1), (v_td 2), (v_td 3), (v_td 4), (v_td 5), (v_td 6), (v_td 7), (v_td 8), .int 0]))]) [2] rfl
    have hDc := hD.sub (ws' := [(h_td, .inr (5, [(v_td 0), (v_td 1), (v_td 2), (v_td 3), (v_td 4), (v_td 5), (v_td 6), (v_td 7), (v_td 8), .int 0]))]) [2] (by decide) rfl
    have hKc := hK.sub (tys' := []) [] rfl
    have hFc := va_free (wc := [(h_td, .inr (5, [(v_td 0), (v_td 1), (v_td 2), (v_td 3), (v_td 4), (v_td 5), (v_td 6), (v_td 7), (v_td 8), .int 0]))]) hD hS hA [2] rfl
    refine va_calli (va_runVN (As := []) (rest := []) ⟨hx, hb, hml, hown, hts⟩ (c_X8_countNames l dC dI s.heap.size h_td v_td) ⟨va_cnB (host := "OppositePairs") 0 hts (gd hT w_code_X8_countNames) rfl rfl rfl (hN _ n_m_X10_250) (hw _ w_ini_X8) (by decide +kernel) ⟨(Nat.le_of_ble_eq_true rfl), (Nat.le_of_ble_eq_true rfl)⟩, hw _ w_instanceMethod_X8_countNames, hw _ ws_sel_X8_countNames⟩ ⟨pre_blind, va_recv hK hP (ci := 5) (q0 := 2) rfl rfl, pre_of hPc hKc hDc hN⟩ rfl rfl hl.1 rfl (lv_room (Nat.le_of_ble_eq_true rfl)) dX10_look_72 ⟨(Nat.le_of_ble_eq_true rfl), (Nat.le_of_ble_eq_true rfl)⟩) hS (fun q _ h => hFc q h) hFc (fun r3 u t H locs ht hvm hq hB hz1 hk1 hS => ?_)
    obtain ⟨hP, hD⟩ := va_join (wr := [(h_xx, .inr (7, [.ref h_rd, .ref h_td, (v_xx 2), (v_xx 3), (v_xx 4), .ref h_pv, (v_xx 6), .ref h_an])), (h_rd, .inr (4, [(v_rd 0), .int 0, .int 0, .int (-1), (v_rd 4), (v_rd 5), (v_rd 6), (v_rd 7), (v_rd 8), (v_rd 9), (v_rd 10)])), (h_pv, .inr (3, [(v_pv 0), (v_pv 1), (v_pv 2), (v_pv 3), (v_pv 4), (v_pv 5), (v_pv 6), .int 0, (v_pv 8), .int 0, (v_pv 10), (v_pv 11), .int 0, .int 0, .int 0, .int 0, (v_pv 16), .int 0])), (h_an, .inr (0, [(v_an 0), (v_an 1), (v_an 2), (v_an 3), .int 0, .int 0]))]) (w1 := []) hP hD [2] [0, 1, 3, 4] rfl rfl (by decide) (by decide) hk1 hFc P_nil D_nil
    have hP : va_P (dC, dI) cls [(h_xx, .inr (7, [.ref h_rd, .ref h_td, (v_xx 2), (v_xx 3), (v_xx 4), .ref h_pv, (v_xx 6), .ref h_an])), (h_rd, .inr (4, [(v_rd 0), .int 0, .int 0, .int (-1), (v_rd 4), (v_rd 5), (v_rd 6), (v_rd 7), (v_rd 8), (v_rd 9), (v_rd 10)])), (h_pv, .inr (3, [(v_pv 0), (v_pv 1), (v_pv 2), (v_pv 3), (v_pv 4), (v_pv 5), (v_pv 6), .int 0, (v_pv 8), .int 0, (v_pv 10), (v_pv 11), .int 0, .int 0, .int 0, .int 0, (v_pv 16), .int 0])), (h_an, .inr (0, [(v_an 0), (v_an 1), (v_an 2), (v_an 3), .int 0, .int 0]))] H := hP
    have hD : va_D A [(h_xx, .inr (7, [.ref h_rd, .ref h_td, (v_xx 2), (v_xx 3), (v_xx 4), .ref h_pv, (v_xx 6), .ref h_an])), (h_rd, .inr (4, [(v_rd 0), .int 0, .int 0, .int (-1), (v_rd 4), (v_rd 5), (v_rd 6), (v_rd 7), (v_rd 8), (v_rd 9), (v_rd 10)])), (h_pv, .inr (3, [(v_pv 0), (v_pv 1), (v_pv 2), (v_pv 3), (v_pv 4), (v_pv 5), (v_pv 6), .int 0, (v_pv 8), .int 0, (v_pv 10), (v_pv 11), .int 0, .int 0, .int 0, .int 0, (v_pv 16), .int 0])), (h_an, .inr (0, [(v_an 0), (v_an 1), (v_an 2), (v_an 3), .int 0, .int 0]))] := hD
    obtain rfl : r3 = 0 := hq
    refine W.widen (k := 0) (n := 0) (Nat.le_of_ble_eq_true rfl) (Nat.le_of_ble_eq_true rfl) ?_
    exact W.iret (v := 0) hx hb hr (fun t ht hW => ⟨⟨0, (), rfl, (by unfold an_look; split <;> first | rfl | (exfalso; omega)), trivial⟩, hS.F ht⟩) hS.2.2 dX10_look_75
  · refine lv_tableIn (off := 75) (tgt := 76) hx hb dX10_look_1 (by omega) (by omega) (by rw [s1]; rfl) (by decide) ?_
    refine lv_aload_n hx hb dX10_look_76 rfl (lv_at hl 0 rfl) ?_
    refine va_get (D := (dC, dI)) (ci := 7) (v := .ref h_rd) (C := RX10) (T := TX10) (N := 8) hx hb hw iwX10 hown hK hP 0 rfl rfl 0 (by decide) (hw _ w_f_X10_12) (fun _ h9 => h9) rfl dX10_look_77 ?_
    refine va_getN (D := (dC, dI)) (ci := 4) (v := .int 0) (C := RX5) (T := TX5) (N := 11) (host := "OppositePairs") hx hb hw iwX5 hown hK hP 1 rfl rfl 1 (by decide) (hN.use n_f_X10_67 rfl) (fun _ h9 => h9) rfl dX10_look_80 ?_
    refine W.widen (k := 0) (n := 0) (Nat.le_of_ble_eq_true rfl) (Nat.le_of_ble_eq_true rfl) ?_
    exact W.iret (v := 0) hx hb hr (fun t ht hW => ⟨⟨0, (), rfl, (by unfold an_look; split <;> first | rfl | (exfalso; omega)), trivial⟩, hS.F ht⟩) hS.2.2 dX10_look_83
  · refine lv_tableIn (off := 83) (tgt := 84) hx hb dX10_look_1 (by omega) (by omega) (by rw [s1]; rfl) (by decide) ?_
    refine lv_aload_n hx hb dX10_look_84 rfl (lv_at hl 0 rfl) ?_
    refine va_get (D := (dC, dI)) (ci := 7) (v := .ref h_pv) (C := RX10) (T := TX10) (N := 8) hx hb hw iwX10 hown hK hP 0 rfl rfl 5 (by decide) (hw _ w_f_X10_47) (fun _ h9 => h9) rfl dX10_look_85 ?_
    refine va_getN (D := (dC, dI)) (ci := 3) (v := .int 0) (C := RX4) (T := TX4) (N := 18) (host := "OppositePairs") hx hb hw iwX4 hown hK hP 3 rfl rfl 17 (by decide) (hN.use n_f_X10_175 rfl) (fun _ h9 => h9) rfl dX10_look_88 ?_
    refine lv_if_eq (tgt := 98) hx hb dX10_look_91 (by decide) (fun _ => ?_) (fun c9 => absurd c9 (by decide))
    refine lv_iconst (v := 0) hx hb dX10_look_98 (by decide) ?_
    refine W.widen (k := 0) (n := 0) (Nat.le_of_ble_eq_true rfl) (Nat.le_of_ble_eq_true rfl) ?_
    exact W.iret (v := 0) hx hb hr (fun t ht hW => ⟨⟨0, (), rfl, (by unfold an_look; split <;> first | rfl | (exfalso; omega)), trivial⟩, hS.F ht⟩) hS.2.2 dX10_look_99
  · refine lv_tableIn (off := 99) (tgt := 100) hx hb dX10_look_1 (by omega) (by omega) (by rw [s1]; rfl) (by decide) ?_
    refine lv_aload_n hx hb dX10_look_100 rfl (lv_at hl 0 rfl) ?_
    refine va_get (D := (dC, dI)) (ci := 7) (v := .ref h_pv) (C := RX10) (T := TX10) (N := 8) hx hb hw iwX10 hown hK hP 0 rfl rfl 5 (by decide) (hw _ w_f_X10_47) (fun _ h9 => h9) rfl dX10_look_101 ?_
    refine lv_iconst (v := 1) hx hb dX10_look_104 (by decide) ?_
    have hPc := hP.sub (ws' := [(h_pv, .inr (3, [(v_pv 0), (v_pv 1), (v_pv 2), (v_pv 3), (v_pv 4), (v_pv 5), (v_pv 6), .int 0, (v_pv 8), .int 0, (v_pv 10), (v_pv 11), .int 0, .int 0, .int 0, .int 0, (v_pv 16), .int 0]))]) [3] rfl
    have hDc := hD.sub (ws' := [(h_pv, .inr (3, [(v_pv 0), (v_pv 1), (v_pv 2), (v_pv 3), (v_pv 4), (v_pv 5), (v_pv 6), .int 0, (v_pv 8), .int 0, (v_pv 10), (v_pv 11), .int 0, .int 0, .int 0, .int 0, (v_pv 16), .int 0]))]) [3] (by decide) rfl
    have hKc := hK.sub (tys' := []) [] rfl
    have hFc := va_free (wc := [(h_pv, .inr (3, [(v_pv 0), (v_pv 1), (v_pv 2), (v_pv 3), (v_pv 4), (v_pv 5), (v_pv 6), .int 0, (v_pv 8), .int 0, (v_pv 10), (v_pv 11), .int 0, .int 0, .int 0, .int 0, (v_pv 16), .int 0]))]) hD hS hA [3] rfl
    refine va_calli (va_runVN (As := [.int 1]) (rest := []) ⟨hx, hb, hml, hown, hts⟩ (c_X4_countSteps l dC dI s.heap.size h_pv v_pv 1) ⟨va_cnB (host := "OppositePairs") 1 hts (gd hT w_code_X4_countSteps) rfl rfl rfl (hN _ n_m_X10_253) (hw _ w_ini_X4) (by decide +kernel) ⟨(Nat.le_of_ble_eq_true rfl), (Nat.le_of_ble_eq_true rfl)⟩, hw _ w_instanceMethod_X4_countSteps, hw _ ws_sel_X4_countSteps⟩ ⟨pre_blind, va_recv hK hP (ci := 3) (q0 := 3) rfl rfl, pre_of hPc hKc hDc hN⟩ rfl rfl hl.1 rfl (lv_room (Nat.le_of_ble_eq_true rfl)) dX10_look_105 ⟨(Nat.le_of_ble_eq_true rfl), (Nat.le_of_ble_eq_true rfl)⟩) hS (fun q _ h => hFc q h) hFc (fun r4 u t H locs ht hvm hq hB hz1 hk1 hS => ?_)
    obtain ⟨hP, hD⟩ := va_join (wr := [(h_xx, .inr (7, [.ref h_rd, .ref h_td, (v_xx 2), (v_xx 3), (v_xx 4), .ref h_pv, (v_xx 6), .ref h_an])), (h_rd, .inr (4, [(v_rd 0), .int 0, .int 0, .int (-1), (v_rd 4), (v_rd 5), (v_rd 6), (v_rd 7), (v_rd 8), (v_rd 9), (v_rd 10)])), (h_td, .inr (5, [(v_td 0), (v_td 1), (v_td 2), (v_td 3), (v_td 4), (v_td 5), (v_td 6), (v_td 7), (v_td 8), .int 0])), (h_an, .inr (0, [(v_an 0), (v_an 1), (v_an 2), (v_an 3), .int 0, .int 0]))]) (w1 := []) hP hD [3] [0, 1, 2, 4] rfl rfl (by decide) (by decide) hk1 hFc P_nil D_nil
    have hP : va_P (dC, dI) cls [(h_xx, .inr (7, [.ref h_rd, .ref h_td, (v_xx 2), (v_xx 3), (v_xx 4), .ref h_pv, (v_xx 6), .ref h_an])), (h_rd, .inr (4, [(v_rd 0), .int 0, .int 0, .int (-1), (v_rd 4), (v_rd 5), (v_rd 6), (v_rd 7), (v_rd 8), (v_rd 9), (v_rd 10)])), (h_td, .inr (5, [(v_td 0), (v_td 1), (v_td 2), (v_td 3), (v_td 4), (v_td 5), (v_td 6), (v_td 7), (v_td 8), .int 0])), (h_an, .inr (0, [(v_an 0), (v_an 1), (v_an 2), (v_an 3), .int 0, .int 0]))] H := hP
    have hD : va_D A [(h_xx, .inr (7, [.ref h_rd, .ref h_td, (v_xx 2), (v_xx 3), (v_xx 4), .ref h_pv, (v_xx 6), .ref h_an])), (h_rd, .inr (4, [(v_rd 0), .int 0, .int 0, .int (-1), (v_rd 4), (v_rd 5), (v_rd 6), (v_rd 7), (v_rd 8), (v_rd 9), (v_rd 10)])), (h_td, .inr (5, [(v_td 0), (v_td 1), (v_td 2), (v_td 3), (v_td 4), (v_td 5), (v_td 6), (v_td 7), (v_td 8), .int 0])), (h_an, .inr (0, [(v_an 0), (v_an 1), (v_an 2), (v_an 3), .int 0, .int 0]))] := hD
    obtain rfl : r4 = 0 := hq
    refine W.widen (k := 0) (n := 0) (Nat.le_of_ble_eq_true rfl) (Nat.le_of_ble_eq_true rfl) ?_
    exact W.iret (v := 0) hx hb hr (fun t ht hW => ⟨⟨0, (), rfl, (by unfold an_look; split <;> first | rfl | (exfalso; omega)), trivial⟩, hS.F ht⟩) hS.2.2 dX10_look_108
  · refine lv_tableIn (off := 108) (tgt := 109) hx hb dX10_look_1 (by omega) (by omega) (by rw [s1]; rfl) (by decide) ?_
    refine lv_aload_n hx hb dX10_look_109 rfl (lv_at hl 0 rfl) ?_
    refine va_get (D := (dC, dI)) (ci := 7) (v := .ref h_pv) (C := RX10) (T := TX10) (N := 8) hx hb hw iwX10 hown hK hP 0 rfl rfl 5 (by decide) (hw _ w_f_X10_47) (fun _ h9 => h9) rfl dX10_look_110 ?_
    refine lv_iconst (v := 2) hx hb dX10_look_113 (by decide) ?_
    have hPc := hP.sub (ws' := [(h_pv, .inr (3, [(v_pv 0), (v_pv 1), (v_pv 2), (v_pv 3), (v_pv 4), (v_pv 5), (v_pv 6), .int 0, (v_pv 8), .int 0, (v_pv 10), (v_pv 11), .int 0, .int 0, .int 0, .int 0, (v_pv 16), .int 0]))]) [3] rfl
    have hDc := hD.sub (ws' := [(h_pv, .inr (3, [(v_pv 0), (v_pv 1), (v_pv 2), (v_pv 3), (v_pv 4), (v_pv 5), (v_pv 6), .int 0, (v_pv 8), .int 0, (v_pv 10), (v_pv 11), .int 0, .int 0, .int 0, .int 0, (v_pv 16), .int 0]))]) [3] (by decide) rfl
    have hKc := hK.sub (tys' := []) [] rfl
    have hFc := va_free (wc := [(h_pv, .inr (3, [(v_pv 0), (v_pv 1), (v_pv 2), (v_pv 3), (v_pv 4), (v_pv 5), (v_pv 6), .int 0, (v_pv 8), .int 0, (v_pv 10), (v_pv 11), .int 0, .int 0, .int 0, .int 0, (v_pv 16), .int 0]))]) hD hS hA [3] rfl
    refine va_calli (va_runVN (As := [.int 2]) (rest := []) ⟨hx, hb, hml, hown, hts⟩ (c_X4_countSteps l dC dI s.heap.size h_pv v_pv 2) ⟨va_cnB (host := "OppositePairs") 1 hts (gd hT w_code_X4_countSteps) rfl rfl rfl (hN _ n_m_X10_253) (hw _ w_ini_X4) (by decide +kernel) ⟨(Nat.le_of_ble_eq_true rfl), (Nat.le_of_ble_eq_true rfl)⟩, hw _ w_instanceMethod_X4_countSteps, hw _ ws_sel_X4_countSteps⟩ ⟨pre_blind, va_recv hK hP (ci := 3) (q0 := 3) rfl rfl, pre_of hPc hKc hDc hN⟩ rfl rfl hl.1 rfl (lv_room (Nat.le_of_ble_eq_true rfl)) dX10_look_114 ⟨(Nat.le_of_ble_eq_true rfl), (Nat.le_of_ble_eq_true rfl)⟩) hS (fun q _ h => hFc q h) hFc (fun r5 u t H locs ht hvm hq hB hz1 hk1 hS => ?_)
    obtain ⟨hP, hD⟩ := va_join (wr := [(h_xx, .inr (7, [.ref h_rd, .ref h_td, (v_xx 2), (v_xx 3), (v_xx 4), .ref h_pv, (v_xx 6), .ref h_an])), (h_rd, .inr (4, [(v_rd 0), .int 0, .int 0, .int (-1), (v_rd 4), (v_rd 5), (v_rd 6), (v_rd 7), (v_rd 8), (v_rd 9), (v_rd 10)])), (h_td, .inr (5, [(v_td 0), (v_td 1), (v_td 2), (v_td 3), (v_td 4), (v_td 5), (v_td 6), (v_td 7), (v_td 8), .int 0])), (h_an, .inr (0, [(v_an 0), (v_an 1), (v_an 2), (v_an 3), .int 0, .int 0]))]) (w1 := []) hP hD [3] [0, 1, 2, 4] rfl rfl (by decide) (by decide) hk1 hFc P_nil D_nil
    have hP : va_P (dC, dI) cls [(h_xx, .inr (7, [.ref h_rd, .ref h_td, (v_xx 2), (v_xx 3), (v_xx 4), .ref h_pv, (v_xx 6), .ref h_an])), (h_rd, .inr (4, [(v_rd 0), .int 0, .int 0, .int (-1), (v_rd 4), (v_rd 5), (v_rd 6), (v_rd 7), (v_rd 8), (v_rd 9), (v_rd 10)])), (h_td, .inr (5, [(v_td 0), (v_td 1), (v_td 2), (v_td 3), (v_td 4), (v_td 5), (v_td 6), (v_td 7), (v_td 8), .int 0])), (h_an, .inr (0, [(v_an 0), (v_an 1), (v_an 2), (v_an 3), .int 0, .int 0]))] H := hP
    have hD : va_D A [(h_xx, .inr (7, [.ref h_rd, .ref h_td, (v_xx 2), (v_xx 3), (v_xx 4), .ref h_pv, (v_xx 6), .ref h_an])), (h_rd, .inr (4, [(v_rd 0), .int 0, .int 0, .int (-1), (v_rd 4), (v_rd 5), (v_rd 6), (v_rd 7), (v_rd 8), (v_rd 9), (v_rd 10)])), (h_td, .inr (5, [(v_td 0), (v_td 1), (v_td 2), (v_td 3), (v_td 4), (v_td 5), (v_td 6), (v_td 7), (v_td 8), .int 0])), (h_an, .inr (0, [(v_an 0), (v_an 1), (v_an 2), (v_an 3), .int 0, .int 0]))] := hD
    obtain rfl : r5 = 0 := hq
    refine W.widen (k := 0) (n := 0) (Nat.le_of_ble_eq_true rfl) (Nat.le_of_ble_eq_true rfl) ?_
    exact W.iret (v := 0) hx hb hr (fun t ht hW => ⟨⟨0, (), rfl, (by unfold an_look; split <;> first | rfl | (exfalso; omega)), trivial⟩, hS.F ht⟩) hS.2.2 dX10_look_117
  · refine lv_tableIn (off := 117) (tgt := 118) hx hb dX10_look_1 (by omega) (by omega) (by rw [s1]; rfl) (by decide) ?_
    refine lv_aload_n hx hb dX10_look_118 rfl (lv_at hl 0 rfl) ?_
    refine va_get (D := (dC, dI)) (ci := 7) (v := .ref h_pv) (C := RX10) (T := TX10) (N := 8) hx hb hw iwX10 hown hK hP 0 rfl rfl 5 (by decide) (hw _ w_f_X10_47) (fun _ h9 => h9) rfl dX10_look_119 ?_
    refine lv_iconst (v := 3) hx hb dX10_look_122 (by decide) ?_
    have hPc := hP.sub (ws' := [(h_pv, .inr (3, [(v_pv 0), (v_pv 1), (v_pv 2), (v_pv 3), (v_pv 4), (v_pv 5), (v_pv 6), .int 0, (v_pv 8), .int 0, (v_pv 10), (v_pv 11), .int 0, .int 0, .int 0, .int 0, (v_pv 16), .int 0]))]) [3] rfl
    have hDc := hD.sub (ws' := [(h_pv, .inr (3, [(v_pv 0), (v_pv 1), (v_pv 2), (v_pv 3), (v_pv 4), (v_pv 5), (v_pv 6), .int 0, (v_pv 8), .int 0, (v_pv 10), (v_pv 11), .int 0, .int 0, .int 0, .int 0, (v_pv 16), .int 0]))]) [3] (by decide) rfl
    have hKc := hK.sub (tys' := []) [] rfl
    have hFc := va_free (wc := [(h_pv, .inr (3, [(v_pv 0), (v_pv 1), (v_pv 2), (v_pv 3), (v_pv 4), (v_pv 5), (v_pv 6), .int 0, (v_pv 8), .int 0, (v_pv 10), (v_pv 11), .int 0, .int 0, .int 0, .int 0, (v_pv 16), .int 0]))]) hD hS hA [3] rfl
    refine va_calli (va_runVN (As := [.int 3]) (rest := []) ⟨hx, hb, hml, hown, hts⟩ (c_X4_countSteps l dC dI s.heap.size h_pv v_pv 3) ⟨va_cnB (host := "OppositePairs") 1 hts (gd hT w_code_X4_countSteps) rfl rfl rfl (hN _ n_m_X10_253) (hw _ w_ini_X4) (by decide +kernel) ⟨(Nat.le_of_ble_eq_true rfl), (Nat.le_of_ble_eq_true rfl)⟩, hw _ w_instanceMethod_X4_countSteps, hw _ ws_sel_X4_countSteps⟩ ⟨pre_blind, va_recv hK hP (ci := 3) (q0 := 3) rfl rfl, pre_of hPc hKc hDc hN⟩ rfl rfl hl.1 rfl (lv_room (Nat.le_of_ble_eq_true rfl)) dX10_look_123 ⟨(Nat.le_of_ble_eq_true rfl), (Nat.le_of_ble_eq_true rfl)⟩) hS (fun q _ h => hFc q h) hFc (fun r6 u t H locs ht hvm hq hB hz1 hk1 hS => ?_)
    obtain ⟨hP, hD⟩ := va_join (wr := [(h_xx, .inr (7, [.ref h_rd, .ref h_td, (v_xx 2), (v_xx 3), (v_xx 4), .ref h_pv, (v_xx 6), .ref h_an])), (h_rd, .inr (4, [(v_rd 0), .int 0, .int 0, .int (-1), (v_rd 4), (v_rd 5), (v_rd 6), (v_rd 7), (v_rd 8), (v_rd 9), (v_rd 10)])), (h_td, .inr (5, [(v_td 0), (v_td 1), (v_td 2), (v_td 3), (v_td 4), (v_td 5), (v_td 6), (v_td 7), (v_td 8), .int 0])), (h_an, .inr (0, [(v_an 0), (v_an 1), (v_an 2), (v_an 3), .int 0, .int 0]))]) (w1 := []) hP hD [3] [0, 1, 2, 4] rfl rfl (by decide) (by decide) hk1 hFc P_nil D_nil
    have hP : va_P (dC, dI) cls [(h_xx, .inr (7, [.ref h_rd, .ref h_td, (v_xx 2), (v_xx 3), (v_xx 4), .ref h_pv, (v_xx 6), .ref h_an])), (h_rd, .inr (4, [(v_rd 0), .int 0, .int 0, .int (-1), (v_rd 4), (v_rd 5), (v_rd 6), (v_rd 7), (v_rd 8), (v_rd 9), (v_rd 10)])), (h_td, .inr (5, [(v_td 0), (v_td 1), (v_td 2), (v_td 3), (v_td 4), (v_td 5), (v_td 6), (v_td 7), (v_td 8), .int 0])), (h_an, .inr (0, [(v_an 0), (v_an 1), (v_an 2), (v_an 3), .int 0, .int 0]))] H := hP
    have hD : va_D A [(h_xx, .inr (7, [.ref h_rd, .ref h_td, (v_xx 2), (v_xx 3), (v_xx 4), .ref h_pv, (v_xx 6), .ref h_an])), (h_rd, .inr (4, [(v_rd 0), .int 0, .int 0, .int (-1), (v_rd 4), (v_rd 5), (v_rd 6), (v_rd 7), (v_rd 8), (v_rd 9), (v_rd 10)])), (h_td, .inr (5, [(v_td 0), (v_td 1), (v_td 2), (v_td 3), (v_td 4), (v_td 5), (v_td 6), (v_td 7), (v_td 8), .int 0])), (h_an, .inr (0, [(v_an 0), (v_an 1), (v_an 2), (v_an 3), .int 0, .int 0]))] := hD
    obtain rfl : r6 = 0 := hq
    refine W.widen (k := 0) (n := 0) (Nat.le_of_ble_eq_true rfl) (Nat.le_of_ble_eq_true rfl) ?_
    exact W.iret (v := 0) hx hb hr (fun t ht hW => ⟨⟨0, (), rfl, (by unfold an_look; split <;> first | rfl | (exfalso; omega)), trivial⟩, hS.F ht⟩) hS.2.2 dX10_look_126
  · refine lv_tableIn (off := 126) (tgt := 127) hx hb dX10_look_1 (by omega) (by omega) (by rw [s1]; rfl) (by decide) ?_
    refine lv_aload_n hx hb dX10_look_127 rfl (lv_at hl 0 rfl) ?_
    refine va_get (D := (dC, dI)) (ci := 7) (v := .ref h_an) (C := RX10) (T := TX10) (N := 8) hx hb hw iwX10 hown hK hP 0 rfl rfl 7 (by decide) (hw _ w_f_X10_63) (fun _ h9 => h9) rfl dX10_look_128 ?_
    refine va_getN (D := (dC, dI)) (ci := 0) (v := .int 0) (C := RX0) (T := TX0) (N := 6) (host := "OppositePairs") hx hb hw iwX0 hown hK hP 4 rfl rfl 5 (by decide) (hN.use n_f_X10_256 rfl) (fun _ h9 => h9) rfl dX10_look_131 ?_
    refine W.widen (k := 0) (n := 0) (Nat.le_of_ble_eq_true rfl) (Nat.le_of_ble_eq_true rfl) ?_
    exact W.iret (v := 0) hx hb hr (fun t ht hW => ⟨⟨0, (), rfl, (by unfold an_look; split <;> first | rfl | (exfalso; omega)), trivial⟩, hS.F ht⟩) hS.2.2 dX10_look_134
end
