section
-- ===== PART A: goes FIRST, ahead of the names: the tables' words, and 'selects' of the private methods out of them =====
/-- a private method of a class that the tables say can be made, by its rows of tables_1 -/
def lw_okq (q : MethodName × Nat) : Prop := (q.1.cls ≠ "java/lang/invoke/MethodHandle" ∧ q.1.cls ≠ "java/lang/invoke/VarHandle") ∧ Cond.instantiable q.1.cls q.2 ∈ tables_1 ∧ Cond.privateMethod q.1 ∈ tables_1 ∧ Cond.instanceMethod q.1 ∈ tables_1
theorem lw_p0 : lw_okq (⟨"LentHands", "forget", "()V"⟩, 16) := ⟨⟨by decide +kernel, by decide +kernel⟩, List.mem_of_getElem? (i := 17) (by decide +kernel), List.mem_of_getElem? (i := 287) (by decide +kernel), List.mem_of_getElem? (i := 288) (by decide +kernel)⟩
theorem lw_p1 : lw_okq (⟨"LentHands", "feedNumber", "(I)V"⟩, 16) := ⟨⟨by decide +kernel, by decide +kernel⟩, List.mem_of_getElem? (i := 17) (by decide +kernel), List.mem_of_getElem? (i := 326) (by decide +kernel), List.mem_of_getElem? (i := 327) (by decide +kernel)⟩
theorem lw_p2 : lw_okq (⟨"LentHands$Reader", "cutToken", "([CII)I"⟩, 10) := ⟨⟨by decide +kernel, by decide +kernel⟩, List.mem_of_getElem? (i := 172) (by decide +kernel), List.mem_of_getElem? (i := 342) (by decide +kernel), List.mem_of_getElem? (i := 343) (by decide +kernel)⟩
theorem lw_p3 : lw_okq (⟨"LentHands$Reader", "addToken", "(III)V"⟩, 10) := ⟨⟨by decide +kernel, by decide +kernel⟩, List.mem_of_getElem? (i := 172) (by decide +kernel), List.mem_of_getElem? (i := 404) (by decide +kernel), List.mem_of_getElem? (i := 405) (by decide +kernel)⟩
theorem lw_p4 : lw_okq (⟨"LentHands$Reader", "seen", "()I"⟩, 10) := ⟨⟨by decide +kernel, by decide +kernel⟩, List.mem_of_getElem? (i := 172) (by decide +kernel), List.mem_of_getElem? (i := 420) (by decide +kernel), List.mem_of_getElem? (i := 421) (by decide +kernel)⟩
theorem lw_p5 : lw_okq (⟨"LentHands$Reader", "lawLine", "(I)Z"⟩, 10) := ⟨⟨by decide +kernel, by decide +kernel⟩, List.mem_of_getElem? (i := 172) (by decide +kernel), List.mem_of_getElem? (i := 424) (by decide +kernel), List.mem_of_getElem? (i := 425) (by decide +kernel)⟩
theorem lw_p6 : lw_okq (⟨"LentHands$Reader", "refuse", "(I)Z"⟩, 10) := ⟨⟨by decide +kernel, by decide +kernel⟩, List.mem_of_getElem? (i := 172) (by decide +kernel), List.mem_of_getElem? (i := 432) (by decide +kernel), List.mem_of_getElem? (i := 433) (by decide +kernel)⟩
theorem lw_p7 : lw_okq (⟨"LentHands$Reader", "sum", "()Z"⟩, 10) := ⟨⟨by decide +kernel, by decide +kernel⟩, List.mem_of_getElem? (i := 172) (by decide +kernel), List.mem_of_getElem? (i := 436) (by decide +kernel), List.mem_of_getElem? (i := 437) (by decide +kernel)⟩
theorem lw_p8 : lw_okq (⟨"LentHands$Reader", "unit", "(Z)Z"⟩, 10) := ⟨⟨by decide +kernel, by decide +kernel⟩, List.mem_of_getElem? (i := 172) (by decide +kernel), List.mem_of_getElem? (i := 440) (by decide +kernel), List.mem_of_getElem? (i := 441) (by decide +kernel)⟩
theorem lw_p9 : lw_okq (⟨"LentHands$Reader", "anyOf", "(I)Z"⟩, 10) := ⟨⟨by decide +kernel, by decide +kernel⟩, List.mem_of_getElem? (i := 172) (by decide +kernel), List.mem_of_getElem? (i := 448) (by decide +kernel), List.mem_of_getElem? (i := 449) (by decide +kernel)⟩
theorem lw_p10 : lw_okq (⟨"LentHands$Reader", "single", "(I)Z"⟩, 10) := ⟨⟨by decide +kernel, by decide +kernel⟩, List.mem_of_getElem? (i := 172) (by decide +kernel), List.mem_of_getElem? (i := 452) (by decide +kernel), List.mem_of_getElem? (i := 453) (by decide +kernel)⟩
theorem lw_p11 : lw_okq (⟨"LentHands$Reader", "skip", "(I)Z"⟩, 10) := ⟨⟨by decide +kernel, by decide +kernel⟩, List.mem_of_getElem? (i := 172) (by decide +kernel), List.mem_of_getElem? (i := 456) (by decide +kernel), List.mem_of_getElem? (i := 457) (by decide +kernel)⟩
theorem lw_p12 : lw_okq (⟨"LentHands$Reader", "bookingRow", "(II)Z"⟩, 10) := ⟨⟨by decide +kernel, by decide +kernel⟩, List.mem_of_getElem? (i := 172) (by decide +kernel), List.mem_of_getElem? (i := 471) (by decide +kernel), List.mem_of_getElem? (i := 472) (by decide +kernel)⟩
theorem lw_p13 : lw_okq (⟨"LentHands$Reader", "cell", "(III)Z"⟩, 10) := ⟨⟨by decide +kernel, by decide +kernel⟩, List.mem_of_getElem? (i := 172) (by decide +kernel), List.mem_of_getElem? (i := 475) (by decide +kernel), List.mem_of_getElem? (i := 476) (by decide +kernel)⟩
theorem lw_p14 : lw_okq (⟨"LentHands$Reader", "workRow", "(I)Z"⟩, 10) := ⟨⟨by decide +kernel, by decide +kernel⟩, List.mem_of_getElem? (i := 172) (by decide +kernel), List.mem_of_getElem? (i := 479) (by decide +kernel), List.mem_of_getElem? (i := 480) (by decide +kernel)⟩
theorem lw_p15 : lw_okq (⟨"LentHands", "canBeLent", "(LLentHands$World;IIII)Z"⟩, 16) := ⟨⟨by decide +kernel, by decide +kernel⟩, List.mem_of_getElem? (i := 17) (by decide +kernel), List.mem_of_getElem? (i := 497) (by decide +kernel), List.mem_of_getElem? (i := 498) (by decide +kernel)⟩
def lw_privs_1 : List (MethodName × Nat) := [(⟨"LentHands", "forget", "()V"⟩, 16), (⟨"LentHands", "feedNumber", "(I)V"⟩, 16), (⟨"LentHands$Reader", "cutToken", "([CII)I"⟩, 10), (⟨"LentHands$Reader", "addToken", "(III)V"⟩, 10), (⟨"LentHands$Reader", "seen", "()I"⟩, 10), (⟨"LentHands$Reader", "lawLine", "(I)Z"⟩, 10), (⟨"LentHands$Reader", "refuse", "(I)Z"⟩, 10), (⟨"LentHands$Reader", "sum", "()Z"⟩, 10), (⟨"LentHands$Reader", "unit", "(Z)Z"⟩, 10), (⟨"LentHands$Reader", "anyOf", "(I)Z"⟩, 10), (⟨"LentHands$Reader", "single", "(I)Z"⟩, 10), (⟨"LentHands$Reader", "skip", "(I)Z"⟩, 10), (⟨"LentHands$Reader", "bookingRow", "(II)Z"⟩, 10), (⟨"LentHands$Reader", "cell", "(III)Z"⟩, 10), (⟨"LentHands$Reader", "workRow", "(I)Z"⟩, 10), (⟨"LentHands", "canBeLent", "(LLentHands$World;IIII)Z"⟩, 16)]
theorem lw_r1 : ∀ q ∈ lw_privs_1, lw_okq q := List.forall_mem_cons.mpr ⟨lw_p0, List.forall_mem_cons.mpr ⟨lw_p1, List.forall_mem_cons.mpr ⟨lw_p2, List.forall_mem_cons.mpr ⟨lw_p3, List.forall_mem_cons.mpr ⟨lw_p4, List.forall_mem_cons.mpr ⟨lw_p5, List.forall_mem_cons.mpr ⟨lw_p6, List.forall_mem_cons.mpr ⟨lw_p7, List.forall_mem_cons.mpr ⟨lw_p8, List.forall_mem_cons.mpr ⟨lw_p9, List.forall_mem_cons.mpr ⟨lw_p10, List.forall_mem_cons.mpr ⟨lw_p11, List.forall_mem_cons.mpr ⟨lw_p12, List.forall_mem_cons.mpr ⟨lw_p13, List.forall_mem_cons.mpr ⟨lw_p14, List.forall_mem_cons.mpr ⟨lw_p15, fun _ h => absurd h List.not_mem_nil⟩⟩⟩⟩⟩⟩⟩⟩⟩⟩⟩⟩⟩⟩⟩⟩
theorem lw_p16 : lw_okq (⟨"LentHands", "lawLends", "(LLentHands$World;IIII)Z"⟩, 16) := ⟨⟨by decide +kernel, by decide +kernel⟩, List.mem_of_getElem? (i := 17) (by decide +kernel), List.mem_of_getElem? (i := 510) (by decide +kernel), List.mem_of_getElem? (i := 511) (by decide +kernel)⟩
theorem lw_p17 : lw_okq (⟨"LentHands", "askOfHand", "(LLentHands$World;II)V"⟩, 16) := ⟨⟨by decide +kernel, by decide +kernel⟩, List.mem_of_getElem? (i := 17) (by decide +kernel), List.mem_of_getElem? (i := 514) (by decide +kernel), List.mem_of_getElem? (i := 515) (by decide +kernel)⟩
theorem lw_p18 : lw_okq (⟨"LentHands$Law", "reckon", "(IILLentHands$Asked;)I"⟩, 7) := ⟨⟨by decide +kernel, by decide +kernel⟩, List.mem_of_getElem? (i := 124) (by decide +kernel), List.mem_of_getElem? (i := 530) (by decide +kernel), List.mem_of_getElem? (i := 531) (by decide +kernel)⟩
theorem lw_p19 : lw_okq (⟨"LentHands", "keep", "()V"⟩, 16) := ⟨⟨by decide +kernel, by decide +kernel⟩, List.mem_of_getElem? (i := 17) (by decide +kernel), List.mem_of_getElem? (i := 534) (by decide +kernel), List.mem_of_getElem? (i := 535) (by decide +kernel)⟩
theorem lw_p20 : lw_okq (⟨"LentHands", "onWrist", "(II)I"⟩, 16) := ⟨⟨by decide +kernel, by decide +kernel⟩, List.mem_of_getElem? (i := 17) (by decide +kernel), List.mem_of_getElem? (i := 563) (by decide +kernel), List.mem_of_getElem? (i := 564) (by decide +kernel)⟩
theorem lw_p21 : lw_okq (⟨"LentHands", "judge", "(III)I"⟩, 16) := ⟨⟨by decide +kernel, by decide +kernel⟩, List.mem_of_getElem? (i := 17) (by decide +kernel), List.mem_of_getElem? (i := 581) (by decide +kernel), List.mem_of_getElem? (i := 582) (by decide +kernel)⟩
theorem lw_p22 : lw_okq (⟨"LentHands", "writeDeed", "(III)V"⟩, 16) := ⟨⟨by decide +kernel, by decide +kernel⟩, List.mem_of_getElem? (i := 17) (by decide +kernel), List.mem_of_getElem? (i := 585) (by decide +kernel), List.mem_of_getElem? (i := 586) (by decide +kernel)⟩
theorem lw_p23 : lw_okq (⟨"LentHands", "passHour", "(LLentHands$World;Z)I"⟩, 16) := ⟨⟨by decide +kernel, by decide +kernel⟩, List.mem_of_getElem? (i := 17) (by decide +kernel), List.mem_of_getElem? (i := 593) (by decide +kernel), List.mem_of_getElem? (i := 594) (by decide +kernel)⟩
theorem lw_p24 : lw_okq (⟨"LentHands", "runBookings", "(LLentHands$World;)I"⟩, 16) := ⟨⟨by decide +kernel, by decide +kernel⟩, List.mem_of_getElem? (i := 17) (by decide +kernel), List.mem_of_getElem? (i := 597) (by decide +kernel), List.mem_of_getElem? (i := 598) (by decide +kernel)⟩
theorem lw_p25 : lw_okq (⟨"LentHands", "toilOn", "(LLentHands$World;IIZ)V"⟩, 16) := ⟨⟨by decide +kernel, by decide +kernel⟩, List.mem_of_getElem? (i := 17) (by decide +kernel), List.mem_of_getElem? (i := 605) (by decide +kernel), List.mem_of_getElem? (i := 606) (by decide +kernel)⟩
theorem lw_p26 : lw_okq (⟨"LentHands", "toil", "(LLentHands$World;III)I"⟩, 16) := ⟨⟨by decide +kernel, by decide +kernel⟩, List.mem_of_getElem? (i := 17) (by decide +kernel), List.mem_of_getElem? (i := 609) (by decide +kernel), List.mem_of_getElem? (i := 610) (by decide +kernel)⟩
theorem lw_p27 : lw_okq (⟨"LentHands", "ring", "(II)I"⟩, 16) := ⟨⟨by decide +kernel, by decide +kernel⟩, List.mem_of_getElem? (i := 17) (by decide +kernel), List.mem_of_getElem? (i := 666) (by decide +kernel), List.mem_of_getElem? (i := 667) (by decide +kernel)⟩
theorem lw_p28 : lw_okq (⟨"LentHands", "inOffice", "()I"⟩, 16) := ⟨⟨by decide +kernel, by decide +kernel⟩, List.mem_of_getElem? (i := 17) (by decide +kernel), List.mem_of_getElem? (i := 686) (by decide +kernel), List.mem_of_getElem? (i := 687) (by decide +kernel)⟩
theorem lw_p29 : lw_okq (⟨"LentHands", "markedAmong", "(II)I"⟩, 16) := ⟨⟨by decide +kernel, by decide +kernel⟩, List.mem_of_getElem? (i := 17) (by decide +kernel), List.mem_of_getElem? (i := 722) (by decide +kernel), List.mem_of_getElem? (i := 723) (by decide +kernel)⟩
theorem lw_p30 : lw_okq (⟨"LentHands", "canDo", "(II)Z"⟩, 16) := ⟨⟨by decide +kernel, by decide +kernel⟩, List.mem_of_getElem? (i := 17) (by decide +kernel), List.mem_of_getElem? (i := 746) (by decide +kernel), List.mem_of_getElem? (i := 747) (by decide +kernel)⟩
theorem lw_p31 : lw_okq (⟨"LentHands", "suffice", "(III)Z"⟩, 16) := ⟨⟨by decide +kernel, by decide +kernel⟩, List.mem_of_getElem? (i := 17) (by decide +kernel), List.mem_of_getElem? (i := 750) (by decide +kernel), List.mem_of_getElem? (i := 751) (by decide +kernel)⟩
def lw_privs_2 : List (MethodName × Nat) := [(⟨"LentHands", "lawLends", "(LLentHands$World;IIII)Z"⟩, 16), (⟨"LentHands", "askOfHand", "(LLentHands$World;II)V"⟩, 16), (⟨"LentHands$Law", "reckon", "(IILLentHands$Asked;)I"⟩, 7), (⟨"LentHands", "keep", "()V"⟩, 16), (⟨"LentHands", "onWrist", "(II)I"⟩, 16), (⟨"LentHands", "judge", "(III)I"⟩, 16), (⟨"LentHands", "writeDeed", "(III)V"⟩, 16), (⟨"LentHands", "passHour", "(LLentHands$World;Z)I"⟩, 16), (⟨"LentHands", "runBookings", "(LLentHands$World;)I"⟩, 16), (⟨"LentHands", "toilOn", "(LLentHands$World;IIZ)V"⟩, 16), (⟨"LentHands", "toil", "(LLentHands$World;III)I"⟩, 16), (⟨"LentHands", "ring", "(II)I"⟩, 16), (⟨"LentHands", "inOffice", "()I"⟩, 16), (⟨"LentHands", "markedAmong", "(II)I"⟩, 16), (⟨"LentHands", "canDo", "(II)Z"⟩, 16), (⟨"LentHands", "suffice", "(III)Z"⟩, 16)]
theorem lw_r2 : ∀ q ∈ lw_privs_2, lw_okq q := List.forall_mem_cons.mpr ⟨lw_p16, List.forall_mem_cons.mpr ⟨lw_p17, List.forall_mem_cons.mpr ⟨lw_p18, List.forall_mem_cons.mpr ⟨lw_p19, List.forall_mem_cons.mpr ⟨lw_p20, List.forall_mem_cons.mpr ⟨lw_p21, List.forall_mem_cons.mpr ⟨lw_p22, List.forall_mem_cons.mpr ⟨lw_p23, List.forall_mem_cons.mpr ⟨lw_p24, List.forall_mem_cons.mpr ⟨lw_p25, List.forall_mem_cons.mpr ⟨lw_p26, List.forall_mem_cons.mpr ⟨lw_p27, List.forall_mem_cons.mpr ⟨lw_p28, List.forall_mem_cons.mpr ⟨lw_p29, List.forall_mem_cons.mpr ⟨lw_p30, List.forall_mem_cons.mpr ⟨lw_p31, fun _ h => absurd h List.not_mem_nil⟩⟩⟩⟩⟩⟩⟩⟩⟩⟩⟩⟩⟩⟩⟩⟩
theorem lw_p32 : lw_okq (⟨"LentHands", "suffices", "(II)Z"⟩, 16) := ⟨⟨by decide +kernel, by decide +kernel⟩, List.mem_of_getElem? (i := 17) (by decide +kernel), List.mem_of_getElem? (i := 754) (by decide +kernel), List.mem_of_getElem? (i := 755) (by decide +kernel)⟩
theorem lw_p33 : lw_okq (⟨"LentHands", "planWork", "(I)V"⟩, 16) := ⟨⟨by decide +kernel, by decide +kernel⟩, List.mem_of_getElem? (i := 17) (by decide +kernel), List.mem_of_getElem? (i := 762) (by decide +kernel), List.mem_of_getElem? (i := 763) (by decide +kernel)⟩
theorem lw_p34 : lw_okq (⟨"LentHands", "doersOf", "(I)I"⟩, 16) := ⟨⟨by decide +kernel, by decide +kernel⟩, List.mem_of_getElem? (i := 17) (by decide +kernel), List.mem_of_getElem? (i := 766) (by decide +kernel), List.mem_of_getElem? (i := 767) (by decide +kernel)⟩
theorem lw_p35 : lw_okq (⟨"LentHands", "doer", "(I)I"⟩, 16) := ⟨⟨by decide +kernel, by decide +kernel⟩, List.mem_of_getElem? (i := 17) (by decide +kernel), List.mem_of_getElem? (i := 770) (by decide +kernel), List.mem_of_getElem? (i := 771) (by decide +kernel)⟩
theorem lw_p36 : lw_okq (⟨"LentHands", "firstDoer", "(II)I"⟩, 16) := ⟨⟨by decide +kernel, by decide +kernel⟩, List.mem_of_getElem? (i := 17) (by decide +kernel), List.mem_of_getElem? (i := 774) (by decide +kernel), List.mem_of_getElem? (i := 775) (by decide +kernel)⟩
theorem lw_p37 : lw_okq (⟨"LentHands", "oneWish", "(III)I"⟩, 16) := ⟨⟨by decide +kernel, by decide +kernel⟩, List.mem_of_getElem? (i := 17) (by decide +kernel), List.mem_of_getElem? (i := 782) (by decide +kernel), List.mem_of_getElem? (i := 783) (by decide +kernel)⟩
theorem lw_p38 : lw_okq (⟨"LentHands", "secondWish", "(III)I"⟩, 16) := ⟨⟨by decide +kernel, by decide +kernel⟩, List.mem_of_getElem? (i := 17) (by decide +kernel), List.mem_of_getElem? (i := 786) (by decide +kernel), List.mem_of_getElem? (i := 787) (by decide +kernel)⟩
theorem lw_p39 : lw_okq (⟨"LentHands", "thinkAhead", "(I)V"⟩, 16) := ⟨⟨by decide +kernel, by decide +kernel⟩, List.mem_of_getElem? (i := 17) (by decide +kernel), List.mem_of_getElem? (i := 803) (by decide +kernel), List.mem_of_getElem? (i := 804) (by decide +kernel)⟩
theorem lw_p40 : lw_okq (⟨"LentHands", "canTry", "(III)Z"⟩, 16) := ⟨⟨by decide +kernel, by decide +kernel⟩, List.mem_of_getElem? (i := 17) (by decide +kernel), List.mem_of_getElem? (i := 822) (by decide +kernel), List.mem_of_getElem? (i := 823) (by decide +kernel)⟩
theorem lw_p41 : lw_okq (⟨"LentHands", "unscarred", "(III)I"⟩, 16) := ⟨⟨by decide +kernel, by decide +kernel⟩, List.mem_of_getElem? (i := 17) (by decide +kernel), List.mem_of_getElem? (i := 826) (by decide +kernel), List.mem_of_getElem? (i := 827) (by decide +kernel)⟩
theorem lw_p42 : lw_okq (⟨"LentHandsModel", "forgets", "()V"⟩, 36) := ⟨⟨by decide +kernel, by decide +kernel⟩, List.mem_of_getElem? (i := 847) (by decide +kernel), List.mem_of_getElem? (i := 966) (by decide +kernel), List.mem_of_getElem? (i := 967) (by decide +kernel)⟩
theorem lw_p43 : lw_okq (⟨"LentHandsModel", "persons", "(III)V"⟩, 36) := ⟨⟨by decide +kernel, by decide +kernel⟩, List.mem_of_getElem? (i := 847) (by decide +kernel), List.mem_of_getElem? (i := 977) (by decide +kernel), List.mem_of_getElem? (i := 978) (by decide +kernel)⟩
theorem lw_p44 : lw_okq (⟨"LentHandsModel", "hands", "(III)V"⟩, 36) := ⟨⟨by decide +kernel, by decide +kernel⟩, List.mem_of_getElem? (i := 847) (by decide +kernel), List.mem_of_getElem? (i := 981) (by decide +kernel), List.mem_of_getElem? (i := 982) (by decide +kernel)⟩
theorem lw_p45 : lw_okq (⟨"LentHandsModel", "isPerson", "(I)Z"⟩, 36) := ⟨⟨by decide +kernel, by decide +kernel⟩, List.mem_of_getElem? (i := 847) (by decide +kernel), List.mem_of_getElem? (i := 989) (by decide +kernel), List.mem_of_getElem? (i := 990) (by decide +kernel)⟩
theorem lw_p46 : lw_okq (⟨"LentHandsModel", "isHand", "(I)Z"⟩, 36) := ⟨⟨by decide +kernel, by decide +kernel⟩, List.mem_of_getElem? (i := 847) (by decide +kernel), List.mem_of_getElem? (i := 993) (by decide +kernel), List.mem_of_getElem? (i := 994) (by decide +kernel)⟩
theorem lw_p47 : lw_okq (⟨"LentHandsModel", "next0", "()V"⟩, 36) := ⟨⟨by decide +kernel, by decide +kernel⟩, List.mem_of_getElem? (i := 847) (by decide +kernel), List.mem_of_getElem? (i := 1009) (by decide +kernel), List.mem_of_getElem? (i := 1010) (by decide +kernel)⟩
def lw_privs_3 : List (MethodName × Nat) := [(⟨"LentHands", "suffices", "(II)Z"⟩, 16), (⟨"LentHands", "planWork", "(I)V"⟩, 16), (⟨"LentHands", "doersOf", "(I)I"⟩, 16), (⟨"LentHands", "doer", "(I)I"⟩, 16), (⟨"LentHands", "firstDoer", "(II)I"⟩, 16), (⟨"LentHands", "oneWish", "(III)I"⟩, 16), (⟨"LentHands", "secondWish", "(III)I"⟩, 16), (⟨"LentHands", "thinkAhead", "(I)V"⟩, 16), (⟨"LentHands", "canTry", "(III)Z"⟩, 16), (⟨"LentHands", "unscarred", "(III)I"⟩, 16), (⟨"LentHandsModel", "forgets", "()V"⟩, 36), (⟨"LentHandsModel", "persons", "(III)V"⟩, 36), (⟨"LentHandsModel", "hands", "(III)V"⟩, 36), (⟨"LentHandsModel", "isPerson", "(I)Z"⟩, 36), (⟨"LentHandsModel", "isHand", "(I)Z"⟩, 36), (⟨"LentHandsModel", "next0", "()V"⟩, 36)]
theorem lw_r3 : ∀ q ∈ lw_privs_3, lw_okq q := List.forall_mem_cons.mpr ⟨lw_p32, List.forall_mem_cons.mpr ⟨lw_p33, List.forall_mem_cons.mpr ⟨lw_p34, List.forall_mem_cons.mpr ⟨lw_p35, List.forall_mem_cons.mpr ⟨lw_p36, List.forall_mem_cons.mpr ⟨lw_p37, List.forall_mem_cons.mpr ⟨lw_p38, List.forall_mem_cons.mpr ⟨lw_p39, List.forall_mem_cons.mpr ⟨lw_p40, List.forall_mem_cons.mpr ⟨lw_p41, List.forall_mem_cons.mpr ⟨lw_p42, List.forall_mem_cons.mpr ⟨lw_p43, List.forall_mem_cons.mpr ⟨lw_p44, List.forall_mem_cons.mpr ⟨lw_p45, List.forall_mem_cons.mpr ⟨lw_p46, List.forall_mem_cons.mpr ⟨lw_p47, fun _ h => absurd h List.not_mem_nil⟩⟩⟩⟩⟩⟩⟩⟩⟩⟩⟩⟩⟩⟩⟩⟩
theorem lw_p48 : lw_okq (⟨"LentHandsModel", "see", "(I)I"⟩, 36) := ⟨⟨by decide +kernel, by decide +kernel⟩, List.mem_of_getElem? (i := 847) (by decide +kernel), List.mem_of_getElem? (i := 1013) (by decide +kernel), List.mem_of_getElem? (i := 1014) (by decide +kernel)⟩
theorem lw_p49 : lw_okq (⟨"LentHandsModel", "word", "()I"⟩, 36) := ⟨⟨by decide +kernel, by decide +kernel⟩, List.mem_of_getElem? (i := 847) (by decide +kernel), List.mem_of_getElem? (i := 1020) (by decide +kernel), List.mem_of_getElem? (i := 1021) (by decide +kernel)⟩
theorem lw_p50 : lw_okq (⟨"LentHandsModel", "bookingWord", "()I"⟩, 36) := ⟨⟨by decide +kernel, by decide +kernel⟩, List.mem_of_getElem? (i := 847) (by decide +kernel), List.mem_of_getElem? (i := 1024) (by decide +kernel), List.mem_of_getElem? (i := 1025) (by decide +kernel)⟩
theorem lw_p51 : lw_okq (⟨"LentHandsModel", "is", "(Ljava/lang/String;)Z"⟩, 36) := ⟨⟨by decide +kernel, by decide +kernel⟩, List.mem_of_getElem? (i := 847) (by decide +kernel), List.mem_of_getElem? (i := 1029) (by decide +kernel), List.mem_of_getElem? (i := 1030) (by decide +kernel)⟩
theorem lw_p52 : lw_okq (⟨"LentHandsModel", "workWord", "()I"⟩, 36) := ⟨⟨by decide +kernel, by decide +kernel⟩, List.mem_of_getElem? (i := 847) (by decide +kernel), List.mem_of_getElem? (i := 1039) (by decide +kernel), List.mem_of_getElem? (i := 1040) (by decide +kernel)⟩
theorem lw_p53 : lw_okq (⟨"LentHandsModel", "loanWord", "()I"⟩, 36) := ⟨⟨by decide +kernel, by decide +kernel⟩, List.mem_of_getElem? (i := 847) (by decide +kernel), List.mem_of_getElem? (i := 1051) (by decide +kernel), List.mem_of_getElem? (i := 1052) (by decide +kernel)⟩
theorem lw_p54 : lw_okq (⟨"LentHandsModel", "handName", "()I"⟩, 36) := ⟨⟨by decide +kernel, by decide +kernel⟩, List.mem_of_getElem? (i := 847) (by decide +kernel), List.mem_of_getElem? (i := 1062) (by decide +kernel), List.mem_of_getElem? (i := 1063) (by decide +kernel)⟩
theorem lw_p55 : lw_okq (⟨"LentHandsModel", "handWord", "()I"⟩, 36) := ⟨⟨by decide +kernel, by decide +kernel⟩, List.mem_of_getElem? (i := 847) (by decide +kernel), List.mem_of_getElem? (i := 1070) (by decide +kernel), List.mem_of_getElem? (i := 1071) (by decide +kernel)⟩
theorem lw_p56 : lw_okq (⟨"LentHandsModel", "guiltWord", "()I"⟩, 36) := ⟨⟨by decide +kernel, by decide +kernel⟩, List.mem_of_getElem? (i := 847) (by decide +kernel), List.mem_of_getElem? (i := 1082) (by decide +kernel), List.mem_of_getElem? (i := 1083) (by decide +kernel)⟩
theorem lw_p57 : lw_okq (⟨"LentHandsModel", "readsLaw", "()Z"⟩, 36) := ⟨⟨by decide +kernel, by decide +kernel⟩, List.mem_of_getElem? (i := 847) (by decide +kernel), List.mem_of_getElem? (i := 1092) (by decide +kernel), List.mem_of_getElem? (i := 1093) (by decide +kernel)⟩
theorem lw_p58 : lw_okq (⟨"LentHandsModel", "aLine", "()Z"⟩, 36) := ⟨⟨by decide +kernel, by decide +kernel⟩, List.mem_of_getElem? (i := 847) (by decide +kernel), List.mem_of_getElem? (i := 1096) (by decide +kernel), List.mem_of_getElem? (i := 1097) (by decide +kernel)⟩
theorem lw_p59 : lw_okq (⟨"LentHandsModel", "bad", "(I)Z"⟩, 36) := ⟨⟨by decide +kernel, by decide +kernel⟩, List.mem_of_getElem? (i := 847) (by decide +kernel), List.mem_of_getElem? (i := 1100) (by decide +kernel), List.mem_of_getElem? (i := 1101) (by decide +kernel)⟩
theorem lw_p60 : lw_okq (⟨"LentHandsModel", "sumUp", "()Z"⟩, 36) := ⟨⟨by decide +kernel, by decide +kernel⟩, List.mem_of_getElem? (i := 847) (by decide +kernel), List.mem_of_getElem? (i := 1104) (by decide +kernel), List.mem_of_getElem? (i := 1105) (by decide +kernel)⟩
theorem lw_p61 : lw_okq (⟨"LentHandsModel", "product", "()Z"⟩, 36) := ⟨⟨by decide +kernel, by decide +kernel⟩, List.mem_of_getElem? (i := 847) (by decide +kernel), List.mem_of_getElem? (i := 1108) (by decide +kernel), List.mem_of_getElem? (i := 1109) (by decide +kernel)⟩
theorem lw_p62 : lw_okq (⟨"LentHandsModel", "unit", "()Z"⟩, 36) := ⟨⟨by decide +kernel, by decide +kernel⟩, List.mem_of_getElem? (i := 847) (by decide +kernel), List.mem_of_getElem? (i := 1112) (by decide +kernel), List.mem_of_getElem? (i := 1113) (by decide +kernel)⟩
theorem lw_p63 : lw_okq (⟨"LentHandsModel", "lay", "(II)V"⟩, 36) := ⟨⟨by decide +kernel, by decide +kernel⟩, List.mem_of_getElem? (i := 847) (by decide +kernel), List.mem_of_getElem? (i := 1116) (by decide +kernel), List.mem_of_getElem? (i := 1117) (by decide +kernel)⟩
def lw_privs_4 : List (MethodName × Nat) := [(⟨"LentHandsModel", "see", "(I)I"⟩, 36), (⟨"LentHandsModel", "word", "()I"⟩, 36), (⟨"LentHandsModel", "bookingWord", "()I"⟩, 36), (⟨"LentHandsModel", "is", "(Ljava/lang/String;)Z"⟩, 36), (⟨"LentHandsModel", "workWord", "()I"⟩, 36), (⟨"LentHandsModel", "loanWord", "()I"⟩, 36), (⟨"LentHandsModel", "handName", "()I"⟩, 36), (⟨"LentHandsModel", "handWord", "()I"⟩, 36), (⟨"LentHandsModel", "guiltWord", "()I"⟩, 36), (⟨"LentHandsModel", "readsLaw", "()Z"⟩, 36), (⟨"LentHandsModel", "aLine", "()Z"⟩, 36), (⟨"LentHandsModel", "bad", "(I)Z"⟩, 36), (⟨"LentHandsModel", "sumUp", "()Z"⟩, 36), (⟨"LentHandsModel", "product", "()Z"⟩, 36), (⟨"LentHandsModel", "unit", "()Z"⟩, 36), (⟨"LentHandsModel", "lay", "(II)V"⟩, 36)]
theorem lw_r4 : ∀ q ∈ lw_privs_4, lw_okq q := List.forall_mem_cons.mpr ⟨lw_p48, List.forall_mem_cons.mpr ⟨lw_p49, List.forall_mem_cons.mpr ⟨lw_p50, List.forall_mem_cons.mpr ⟨lw_p51, List.forall_mem_cons.mpr ⟨lw_p52, List.forall_mem_cons.mpr ⟨lw_p53, List.forall_mem_cons.mpr ⟨lw_p54, List.forall_mem_cons.mpr ⟨lw_p55, List.forall_mem_cons.mpr ⟨lw_p56, List.forall_mem_cons.mpr ⟨lw_p57, List.forall_mem_cons.mpr ⟨lw_p58, List.forall_mem_cons.mpr ⟨lw_p59, List.forall_mem_cons.mpr ⟨lw_p60, List.forall_mem_cons.mpr ⟨lw_p61, List.forall_mem_cons.mpr ⟨lw_p62, List.forall_mem_cons.mpr ⟨lw_p63, fun _ h => absurd h List.not_mem_nil⟩⟩⟩⟩⟩⟩⟩⟩⟩⟩⟩⟩⟩⟩⟩⟩
theorem lw_p64 : lw_okq (⟨"LentHandsModel", "any", "()Z"⟩, 36) := ⟨⟨by decide +kernel, by decide +kernel⟩, List.mem_of_getElem? (i := 847) (by decide +kernel), List.mem_of_getElem? (i := 1120) (by decide +kernel), List.mem_of_getElem? (i := 1121) (by decide +kernel)⟩
theorem lw_p65 : lw_okq (⟨"LentHandsModel", "every", "()Z"⟩, 36) := ⟨⟨by decide +kernel, by decide +kernel⟩, List.mem_of_getElem? (i := 847) (by decide +kernel), List.mem_of_getElem? (i := 1124) (by decide +kernel), List.mem_of_getElem? (i := 1125) (by decide +kernel)⟩
theorem lw_p66 : lw_okq (⟨"LentHandsModel", "oneTest", "()Z"⟩, 36) := ⟨⟨by decide +kernel, by decide +kernel⟩, List.mem_of_getElem? (i := 847) (by decide +kernel), List.mem_of_getElem? (i := 1128) (by decide +kernel), List.mem_of_getElem? (i := 1129) (by decide +kernel)⟩
theorem lw_p67 : lw_okq (⟨"LentHandsModel", "opens", "()Z"⟩, 36) := ⟨⟨by decide +kernel, by decide +kernel⟩, List.mem_of_getElem? (i := 847) (by decide +kernel), List.mem_of_getElem? (i := 1132) (by decide +kernel), List.mem_of_getElem? (i := 1133) (by decide +kernel)⟩
theorem lw_p68 : lw_okq (⟨"LentHandsModel", "need", "(I)Z"⟩, 36) := ⟨⟨by decide +kernel, by decide +kernel⟩, List.mem_of_getElem? (i := 847) (by decide +kernel), List.mem_of_getElem? (i := 1136) (by decide +kernel), List.mem_of_getElem? (i := 1137) (by decide +kernel)⟩
theorem lw_p69 : lw_okq (⟨"LentHandsModel", "readsRows", "()Z"⟩, 36) := ⟨⟨by decide +kernel, by decide +kernel⟩, List.mem_of_getElem? (i := 847) (by decide +kernel), List.mem_of_getElem? (i := 1140) (by decide +kernel), List.mem_of_getElem? (i := 1141) (by decide +kernel)⟩
theorem lw_p70 : lw_okq (⟨"LentHandsModel", "aBooking", "()Z"⟩, 36) := ⟨⟨by decide +kernel, by decide +kernel⟩, List.mem_of_getElem? (i := 847) (by decide +kernel), List.mem_of_getElem? (i := 1144) (by decide +kernel), List.mem_of_getElem? (i := 1145) (by decide +kernel)⟩
theorem lw_p71 : lw_okq (⟨"LentHandsModel", "told", "(IIII)Z"⟩, 36) := ⟨⟨by decide +kernel, by decide +kernel⟩, List.mem_of_getElem? (i := 847) (by decide +kernel), List.mem_of_getElem? (i := 1148) (by decide +kernel), List.mem_of_getElem? (i := 1149) (by decide +kernel)⟩
theorem lw_p72 : lw_okq (⟨"LentHandsModel", "number", "(II)Z"⟩, 36) := ⟨⟨by decide +kernel, by decide +kernel⟩, List.mem_of_getElem? (i := 847) (by decide +kernel), List.mem_of_getElem? (i := 1152) (by decide +kernel), List.mem_of_getElem? (i := 1153) (by decide +kernel)⟩
theorem lw_p73 : lw_okq (⟨"LentHandsModel", "aWork", "()Z"⟩, 36) := ⟨⟨by decide +kernel, by decide +kernel⟩, List.mem_of_getElem? (i := 847) (by decide +kernel), List.mem_of_getElem? (i := 1156) (by decide +kernel), List.mem_of_getElem? (i := 1157) (by decide +kernel)⟩
theorem lw_p74 : lw_okq (⟨"LentHandsModel", "putsLaw", "(I)I"⟩, 36) := ⟨⟨by decide +kernel, by decide +kernel⟩, List.mem_of_getElem? (i := 847) (by decide +kernel), List.mem_of_getElem? (i := 1160) (by decide +kernel), List.mem_of_getElem? (i := 1161) (by decide +kernel)⟩
theorem lw_p75 : lw_okq (⟨"LentHandsModel", "putsRows", "()I"⟩, 36) := ⟨⟨by decide +kernel, by decide +kernel⟩, List.mem_of_getElem? (i := 847) (by decide +kernel), List.mem_of_getElem? (i := 1164) (by decide +kernel), List.mem_of_getElem? (i := 1165) (by decide +kernel)⟩
theorem lw_p76 : lw_okq (⟨"LentHandsModel", "canLend", "(IIII)Z"⟩, 36) := ⟨⟨by decide +kernel, by decide +kernel⟩, List.mem_of_getElem? (i := 847) (by decide +kernel), List.mem_of_getElem? (i := 1180) (by decide +kernel), List.mem_of_getElem? (i := 1181) (by decide +kernel)⟩
theorem lw_p77 : lw_okq (⟨"LentHandsModel", "ofHand", "(II)I"⟩, 36) := ⟨⟨by decide +kernel, by decide +kernel⟩, List.mem_of_getElem? (i := 847) (by decide +kernel), List.mem_of_getElem? (i := 1187) (by decide +kernel), List.mem_of_getElem? (i := 1188) (by decide +kernel)⟩
theorem lw_p78 : lw_okq (⟨"LentHandsModel", "latestOf", "(I)I"⟩, 36) := ⟨⟨by decide +kernel, by decide +kernel⟩, List.mem_of_getElem? (i := 847) (by decide +kernel), List.mem_of_getElem? (i := 1191) (by decide +kernel), List.mem_of_getElem? (i := 1192) (by decide +kernel)⟩
theorem lw_p79 : lw_okq (⟨"LentHandsModel", "ofLoan", "(II)I"⟩, 36) := ⟨⟨by decide +kernel, by decide +kernel⟩, List.mem_of_getElem? (i := 847) (by decide +kernel), List.mem_of_getElem? (i := 1195) (by decide +kernel), List.mem_of_getElem? (i := 1196) (by decide +kernel)⟩
def lw_privs_5 : List (MethodName × Nat) := [(⟨"LentHandsModel", "any", "()Z"⟩, 36), (⟨"LentHandsModel", "every", "()Z"⟩, 36), (⟨"LentHandsModel", "oneTest", "()Z"⟩, 36), (⟨"LentHandsModel", "opens", "()Z"⟩, 36), (⟨"LentHandsModel", "need", "(I)Z"⟩, 36), (⟨"LentHandsModel", "readsRows", "()Z"⟩, 36), (⟨"LentHandsModel", "aBooking", "()Z"⟩, 36), (⟨"LentHandsModel", "told", "(IIII)Z"⟩, 36), (⟨"LentHandsModel", "number", "(II)Z"⟩, 36), (⟨"LentHandsModel", "aWork", "()Z"⟩, 36), (⟨"LentHandsModel", "putsLaw", "(I)I"⟩, 36), (⟨"LentHandsModel", "putsRows", "()I"⟩, 36), (⟨"LentHandsModel", "canLend", "(IIII)Z"⟩, 36), (⟨"LentHandsModel", "ofHand", "(II)I"⟩, 36), (⟨"LentHandsModel", "latestOf", "(I)I"⟩, 36), (⟨"LentHandsModel", "ofLoan", "(II)I"⟩, 36)]
theorem lw_r5 : ∀ q ∈ lw_privs_5, lw_okq q := List.forall_mem_cons.mpr ⟨lw_p64, List.forall_mem_cons.mpr ⟨lw_p65, List.forall_mem_cons.mpr ⟨lw_p66, List.forall_mem_cons.mpr ⟨lw_p67, List.forall_mem_cons.mpr ⟨lw_p68, List.forall_mem_cons.mpr ⟨lw_p69, List.forall_mem_cons.mpr ⟨lw_p70, List.forall_mem_cons.mpr ⟨lw_p71, List.forall_mem_cons.mpr ⟨lw_p72, List.forall_mem_cons.mpr ⟨lw_p73, List.forall_mem_cons.mpr ⟨lw_p74, List.forall_mem_cons.mpr ⟨lw_p75, List.forall_mem_cons.mpr ⟨lw_p76, List.forall_mem_cons.mpr ⟨lw_p77, List.forall_mem_cons.mpr ⟨lw_p78, List.forall_mem_cons.mpr ⟨lw_p79, fun _ h => absurd h List.not_mem_nil⟩⟩⟩⟩⟩⟩⟩⟩⟩⟩⟩⟩⟩⟩⟩⟩
theorem lw_p80 : lw_okq (⟨"LentHandsModel", "ofPerson", "(II)I"⟩, 36) := ⟨⟨by decide +kernel, by decide +kernel⟩, List.mem_of_getElem? (i := 847) (by decide +kernel), List.mem_of_getElem? (i := 1199) (by decide +kernel), List.mem_of_getElem? (i := 1200) (by decide +kernel)⟩
theorem lw_p81 : lw_okq (⟨"LentHandsModel", "mayBe", "(IIII)Z"⟩, 36) := ⟨⟨by decide +kernel, by decide +kernel⟩, List.mem_of_getElem? (i := 847) (by decide +kernel), List.mem_of_getElem? (i := 1203) (by decide +kernel), List.mem_of_getElem? (i := 1204) (by decide +kernel)⟩
theorem lw_p82 : lw_okq (⟨"LentHandsModel", "handFacts", "(II)V"⟩, 36) := ⟨⟨by decide +kernel, by decide +kernel⟩, List.mem_of_getElem? (i := 847) (by decide +kernel), List.mem_of_getElem? (i := 1207) (by decide +kernel), List.mem_of_getElem? (i := 1208) (by decide +kernel)⟩
theorem lw_p83 : lw_okq (⟨"LentHandsModel", "bestOf", "(I)I"⟩, 36) := ⟨⟨by decide +kernel, by decide +kernel⟩, List.mem_of_getElem? (i := 847) (by decide +kernel), List.mem_of_getElem? (i := 1211) (by decide +kernel), List.mem_of_getElem? (i := 1212) (by decide +kernel)⟩
theorem lw_p84 : lw_okq (⟨"LentHandsModel", "loansOf", "(I)I"⟩, 36) := ⟨⟨by decide +kernel, by decide +kernel⟩, List.mem_of_getElem? (i := 847) (by decide +kernel), List.mem_of_getElem? (i := 1221) (by decide +kernel), List.mem_of_getElem? (i := 1222) (by decide +kernel)⟩
theorem lw_p85 : lw_okq (⟨"LentHandsModel", "saysWord", "(II)I"⟩, 36) := ⟨⟨by decide +kernel, by decide +kernel⟩, List.mem_of_getElem? (i := 847) (by decide +kernel), List.mem_of_getElem? (i := 1225) (by decide +kernel), List.mem_of_getElem? (i := 1226) (by decide +kernel)⟩
theorem lw_p86 : lw_okq (⟨"LentHandsModel", "holds", "(II)Z"⟩, 36) := ⟨⟨by decide +kernel, by decide +kernel⟩, List.mem_of_getElem? (i := 847) (by decide +kernel), List.mem_of_getElem? (i := 1229) (by decide +kernel), List.mem_of_getElem? (i := 1230) (by decide +kernel)⟩
theorem lw_p87 : lw_okq (⟨"LentHandsModel", "comesTo", "(III)I"⟩, 36) := ⟨⟨by decide +kernel, by decide +kernel⟩, List.mem_of_getElem? (i := 847) (by decide +kernel), List.mem_of_getElem? (i := 1233) (by decide +kernel), List.mem_of_getElem? (i := 1234) (by decide +kernel)⟩
theorem lw_p88 : lw_okq (⟨"LentHandsModel", "keeps", "()V"⟩, 36) := ⟨⟨by decide +kernel, by decide +kernel⟩, List.mem_of_getElem? (i := 847) (by decide +kernel), List.mem_of_getElem? (i := 1240) (by decide +kernel), List.mem_of_getElem? (i := 1241) (by decide +kernel)⟩
theorem lw_p89 : lw_okq (⟨"LentHandsModel", "lends", "(IIII)I"⟩, 36) := ⟨⟨by decide +kernel, by decide +kernel⟩, List.mem_of_getElem? (i := 847) (by decide +kernel), List.mem_of_getElem? (i := 1244) (by decide +kernel), List.mem_of_getElem? (i := 1245) (by decide +kernel)⟩
theorem lw_p90 : lw_okq (⟨"LentHandsModel", "earns", "(II)V"⟩, 36) := ⟨⟨by decide +kernel, by decide +kernel⟩, List.mem_of_getElem? (i := 847) (by decide +kernel), List.mem_of_getElem? (i := 1248) (by decide +kernel), List.mem_of_getElem? (i := 1249) (by decide +kernel)⟩
theorem lw_p91 : lw_okq (⟨"LentHandsModel", "onWrist", "(II)I"⟩, 36) := ⟨⟨by decide +kernel, by decide +kernel⟩, List.mem_of_getElem? (i := 847) (by decide +kernel), List.mem_of_getElem? (i := 1255) (by decide +kernel), List.mem_of_getElem? (i := 1256) (by decide +kernel)⟩
theorem lw_p92 : lw_okq (⟨"LentHandsModel", "goes", "(II)V"⟩, 36) := ⟨⟨by decide +kernel, by decide +kernel⟩, List.mem_of_getElem? (i := 847) (by decide +kernel), List.mem_of_getElem? (i := 1259) (by decide +kernel), List.mem_of_getElem? (i := 1260) (by decide +kernel)⟩
theorem lw_p93 : lw_okq (⟨"LentHandsModel", "canDeed", "(II)Z"⟩, 36) := ⟨⟨by decide +kernel, by decide +kernel⟩, List.mem_of_getElem? (i := 847) (by decide +kernel), List.mem_of_getElem? (i := 1285) (by decide +kernel), List.mem_of_getElem? (i := 1286) (by decide +kernel)⟩
theorem lw_p94 : lw_okq (⟨"LentHandsModel", "deedBy", "(III)I"⟩, 36) := ⟨⟨by decide +kernel, by decide +kernel⟩, List.mem_of_getElem? (i := 847) (by decide +kernel), List.mem_of_getElem? (i := 1289) (by decide +kernel), List.mem_of_getElem? (i := 1290) (by decide +kernel)⟩
theorem lw_p95 : lw_okq (⟨"LentHandsModel", "guilty", "(I)V"⟩, 36) := ⟨⟨by decide +kernel, by decide +kernel⟩, List.mem_of_getElem? (i := 847) (by decide +kernel), List.mem_of_getElem? (i := 1293) (by decide +kernel), List.mem_of_getElem? (i := 1294) (by decide +kernel)⟩
def lw_privs_6 : List (MethodName × Nat) := [(⟨"LentHandsModel", "ofPerson", "(II)I"⟩, 36), (⟨"LentHandsModel", "mayBe", "(IIII)Z"⟩, 36), (⟨"LentHandsModel", "handFacts", "(II)V"⟩, 36), (⟨"LentHandsModel", "bestOf", "(I)I"⟩, 36), (⟨"LentHandsModel", "loansOf", "(I)I"⟩, 36), (⟨"LentHandsModel", "saysWord", "(II)I"⟩, 36), (⟨"LentHandsModel", "holds", "(II)Z"⟩, 36), (⟨"LentHandsModel", "comesTo", "(III)I"⟩, 36), (⟨"LentHandsModel", "keeps", "()V"⟩, 36), (⟨"LentHandsModel", "lends", "(IIII)I"⟩, 36), (⟨"LentHandsModel", "earns", "(II)V"⟩, 36), (⟨"LentHandsModel", "onWrist", "(II)I"⟩, 36), (⟨"LentHandsModel", "goes", "(II)V"⟩, 36), (⟨"LentHandsModel", "canDeed", "(II)Z"⟩, 36), (⟨"LentHandsModel", "deedBy", "(III)I"⟩, 36), (⟨"LentHandsModel", "guilty", "(I)V"⟩, 36)]
theorem lw_r6 : ∀ q ∈ lw_privs_6, lw_okq q := List.forall_mem_cons.mpr ⟨lw_p80, List.forall_mem_cons.mpr ⟨lw_p81, List.forall_mem_cons.mpr ⟨lw_p82, List.forall_mem_cons.mpr ⟨lw_p83, List.forall_mem_cons.mpr ⟨lw_p84, List.forall_mem_cons.mpr ⟨lw_p85, List.forall_mem_cons.mpr ⟨lw_p86, List.forall_mem_cons.mpr ⟨lw_p87, List.forall_mem_cons.mpr ⟨lw_p88, List.forall_mem_cons.mpr ⟨lw_p89, List.forall_mem_cons.mpr ⟨lw_p90, List.forall_mem_cons.mpr ⟨lw_p91, List.forall_mem_cons.mpr ⟨lw_p92, List.forall_mem_cons.mpr ⟨lw_p93, List.forall_mem_cons.mpr ⟨lw_p94, List.forall_mem_cons.mpr ⟨lw_p95, fun _ h => absurd h List.not_mem_nil⟩⟩⟩⟩⟩⟩⟩⟩⟩⟩⟩⟩⟩⟩⟩⟩
theorem lw_p96 : lw_okq (⟨"LentHandsModel", "notes", "(III)V"⟩, 36) := ⟨⟨by decide +kernel, by decide +kernel⟩, List.mem_of_getElem? (i := 847) (by decide +kernel), List.mem_of_getElem? (i := 1297) (by decide +kernel), List.mem_of_getElem? (i := 1298) (by decide +kernel)⟩
theorem lw_p97 : lw_okq (⟨"LentHandsModel", "anHour", "(Z)I"⟩, 36) := ⟨⟨by decide +kernel, by decide +kernel⟩, List.mem_of_getElem? (i := 847) (by decide +kernel), List.mem_of_getElem? (i := 1305) (by decide +kernel), List.mem_of_getElem? (i := 1306) (by decide +kernel)⟩
theorem lw_p98 : lw_okq (⟨"LentHandsModel", "books", "()I"⟩, 36) := ⟨⟨by decide +kernel, by decide +kernel⟩, List.mem_of_getElem? (i := 847) (by decide +kernel), List.mem_of_getElem? (i := 1309) (by decide +kernel), List.mem_of_getElem? (i := 1310) (by decide +kernel)⟩
theorem lw_p99 : lw_okq (⟨"LentHandsModel", "worksOn", "(IZ)V"⟩, 36) := ⟨⟨by decide +kernel, by decide +kernel⟩, List.mem_of_getElem? (i := 847) (by decide +kernel), List.mem_of_getElem? (i := 1313) (by decide +kernel), List.mem_of_getElem? (i := 1314) (by decide +kernel)⟩
theorem lw_p100 : lw_okq (⟨"LentHandsModel", "works", "(IIZ)V"⟩, 36) := ⟨⟨by decide +kernel, by decide +kernel⟩, List.mem_of_getElem? (i := 847) (by decide +kernel), List.mem_of_getElem? (i := 1317) (by decide +kernel), List.mem_of_getElem? (i := 1318) (by decide +kernel)⟩
theorem lw_p101 : lw_okq (⟨"LentHandsModel", "taskFacts", "(IIII)V"⟩, 36) := ⟨⟨by decide +kernel, by decide +kernel⟩, List.mem_of_getElem? (i := 847) (by decide +kernel), List.mem_of_getElem? (i := 1321) (by decide +kernel), List.mem_of_getElem? (i := 1322) (by decide +kernel)⟩
theorem lw_p102 : lw_okq (⟨"LentHandsModel", "saysOf", "(II)I"⟩, 36) := ⟨⟨by decide +kernel, by decide +kernel⟩, List.mem_of_getElem? (i := 847) (by decide +kernel), List.mem_of_getElem? (i := 1325) (by decide +kernel), List.mem_of_getElem? (i := 1326) (by decide +kernel)⟩
theorem lw_p103 : lw_okq (⟨"LentHandsModel", "draw", "(I)I"⟩, 36) := ⟨⟨by decide +kernel, by decide +kernel⟩, List.mem_of_getElem? (i := 847) (by decide +kernel), List.mem_of_getElem? (i := 1329) (by decide +kernel), List.mem_of_getElem? (i := 1330) (by decide +kernel)⟩
theorem lw_p104 : lw_okq (⟨"LentHandsModel", "marksAll", "()V"⟩, 36) := ⟨⟨by decide +kernel, by decide +kernel⟩, List.mem_of_getElem? (i := 847) (by decide +kernel), List.mem_of_getElem? (i := 1335) (by decide +kernel), List.mem_of_getElem? (i := 1336) (by decide +kernel)⟩
theorem lw_p105 : lw_okq (⟨"LentHandsModel", "endsAll", "()V"⟩, 36) := ⟨⟨by decide +kernel, by decide +kernel⟩, List.mem_of_getElem? (i := 847) (by decide +kernel), List.mem_of_getElem? (i := 1339) (by decide +kernel), List.mem_of_getElem? (i := 1340) (by decide +kernel)⟩
theorem lw_p106 : lw_okq (⟨"LentHandsModel", "ends", "(I)V"⟩, 36) := ⟨⟨by decide +kernel, by decide +kernel⟩, List.mem_of_getElem? (i := 847) (by decide +kernel), List.mem_of_getElem? (i := 1343) (by decide +kernel), List.mem_of_getElem? (i := 1344) (by decide +kernel)⟩
theorem lw_p107 : lw_okq (⟨"LentHandsModel", "ring", "(II)I"⟩, 36) := ⟨⟨by decide +kernel, by decide +kernel⟩, List.mem_of_getElem? (i := 847) (by decide +kernel), List.mem_of_getElem? (i := 1351) (by decide +kernel), List.mem_of_getElem? (i := 1352) (by decide +kernel)⟩
theorem lw_p108 : lw_okq (⟨"LentHandsModel", "canDo", "(II)Z"⟩, 36) := ⟨⟨by decide +kernel, by decide +kernel⟩, List.mem_of_getElem? (i := 847) (by decide +kernel), List.mem_of_getElem? (i := 1387) (by decide +kernel), List.mem_of_getElem? (i := 1388) (by decide +kernel)⟩
theorem lw_p109 : lw_okq (⟨"LentHandsModel", "hasSkill", "(IIII)Z"⟩, 36) := ⟨⟨by decide +kernel, by decide +kernel⟩, List.mem_of_getElem? (i := 847) (by decide +kernel), List.mem_of_getElem? (i := 1391) (by decide +kernel), List.mem_of_getElem? (i := 1392) (by decide +kernel)⟩
theorem lw_p110 : lw_okq (⟨"LentHandsModel", "laysPay", "()V"⟩, 36) := ⟨⟨by decide +kernel, by decide +kernel⟩, List.mem_of_getElem? (i := 847) (by decide +kernel), List.mem_of_getElem? (i := 1399) (by decide +kernel), List.mem_of_getElem? (i := 1400) (by decide +kernel)⟩
theorem lw_p111 : lw_okq (⟨"LentHandsModel", "workerOf", "(II)I"⟩, 36) := ⟨⟨by decide +kernel, by decide +kernel⟩, List.mem_of_getElem? (i := 847) (by decide +kernel), List.mem_of_getElem? (i := 1403) (by decide +kernel), List.mem_of_getElem? (i := 1404) (by decide +kernel)⟩
def lw_privs_7 : List (MethodName × Nat) := [(⟨"LentHandsModel", "notes", "(III)V"⟩, 36), (⟨"LentHandsModel", "anHour", "(Z)I"⟩, 36), (⟨"LentHandsModel", "books", "()I"⟩, 36), (⟨"LentHandsModel", "worksOn", "(IZ)V"⟩, 36), (⟨"LentHandsModel", "works", "(IIZ)V"⟩, 36), (⟨"LentHandsModel", "taskFacts", "(IIII)V"⟩, 36), (⟨"LentHandsModel", "saysOf", "(II)I"⟩, 36), (⟨"LentHandsModel", "draw", "(I)I"⟩, 36), (⟨"LentHandsModel", "marksAll", "()V"⟩, 36), (⟨"LentHandsModel", "endsAll", "()V"⟩, 36), (⟨"LentHandsModel", "ends", "(I)V"⟩, 36), (⟨"LentHandsModel", "ring", "(II)I"⟩, 36), (⟨"LentHandsModel", "canDo", "(II)Z"⟩, 36), (⟨"LentHandsModel", "hasSkill", "(IIII)Z"⟩, 36), (⟨"LentHandsModel", "laysPay", "()V"⟩, 36), (⟨"LentHandsModel", "workerOf", "(II)I"⟩, 36)]
theorem lw_r7 : ∀ q ∈ lw_privs_7, lw_okq q := List.forall_mem_cons.mpr ⟨lw_p96, List.forall_mem_cons.mpr ⟨lw_p97, List.forall_mem_cons.mpr ⟨lw_p98, List.forall_mem_cons.mpr ⟨lw_p99, List.forall_mem_cons.mpr ⟨lw_p100, List.forall_mem_cons.mpr ⟨lw_p101, List.forall_mem_cons.mpr ⟨lw_p102, List.forall_mem_cons.mpr ⟨lw_p103, List.forall_mem_cons.mpr ⟨lw_p104, List.forall_mem_cons.mpr ⟨lw_p105, List.forall_mem_cons.mpr ⟨lw_p106, List.forall_mem_cons.mpr ⟨lw_p107, List.forall_mem_cons.mpr ⟨lw_p108, List.forall_mem_cons.mpr ⟨lw_p109, List.forall_mem_cons.mpr ⟨lw_p110, List.forall_mem_cons.mpr ⟨lw_p111, fun _ h => absurd h List.not_mem_nil⟩⟩⟩⟩⟩⟩⟩⟩⟩⟩⟩⟩⟩⟩⟩⟩
theorem lw_p112 : lw_okq (⟨"LentHandsModel", "laysAside", "()V"⟩, 36) := ⟨⟨by decide +kernel, by decide +kernel⟩, List.mem_of_getElem? (i := 847) (by decide +kernel), List.mem_of_getElem? (i := 1411) (by decide +kernel), List.mem_of_getElem? (i := 1412) (by decide +kernel)⟩
theorem lw_p113 : lw_okq (⟨"LentHandsModel", "areBack", "()Z"⟩, 36) := ⟨⟨by decide +kernel, by decide +kernel⟩, List.mem_of_getElem? (i := 847) (by decide +kernel), List.mem_of_getElem? (i := 1415) (by decide +kernel), List.mem_of_getElem? (i := 1416) (by decide +kernel)⟩
theorem lw_p114 : lw_okq (⟨"LentHandsModel", "putsBack", "()V"⟩, 36) := ⟨⟨by decide +kernel, by decide +kernel⟩, List.mem_of_getElem? (i := 847) (by decide +kernel), List.mem_of_getElem? (i := 1419) (by decide +kernel), List.mem_of_getElem? (i := 1420) (by decide +kernel)⟩
theorem lw_p115 : lw_okq (⟨"LentHandsModel", "canLearn", "(III)Z"⟩, 36) := ⟨⟨by decide +kernel, by decide +kernel⟩, List.mem_of_getElem? (i := 847) (by decide +kernel), List.mem_of_getElem? (i := 1450) (by decide +kernel), List.mem_of_getElem? (i := 1451) (by decide +kernel)⟩
theorem lw_p116 : lw_okq (⟨"LentHandsModel", "laysHours", "(III)V"⟩, 36) := ⟨⟨by decide +kernel, by decide +kernel⟩, List.mem_of_getElem? (i := 847) (by decide +kernel), List.mem_of_getElem? (i := 1454) (by decide +kernel), List.mem_of_getElem? (i := 1455) (by decide +kernel)⟩
theorem lw_p117 : lw_okq (⟨"LentHandsModel", "laysWishes", "(II)V"⟩, 36) := ⟨⟨by decide +kernel, by decide +kernel⟩, List.mem_of_getElem? (i := 847) (by decide +kernel), List.mem_of_getElem? (i := 1488) (by decide +kernel), List.mem_of_getElem? (i := 1489) (by decide +kernel)⟩
theorem lw_p118 : lw_okq (⟨"LentHandsModel", "canBy", "(IIII)Z"⟩, 36) := ⟨⟨by decide +kernel, by decide +kernel⟩, List.mem_of_getElem? (i := 847) (by decide +kernel), List.mem_of_getElem? (i := 1492) (by decide +kernel), List.mem_of_getElem? (i := 1493) (by decide +kernel)⟩
theorem lw_p119 : lw_okq (⟨"LentHandsModel", "isLent", "(II)Z"⟩, 36) := ⟨⟨by decide +kernel, by decide +kernel⟩, List.mem_of_getElem? (i := 847) (by decide +kernel), List.mem_of_getElem? (i := 1496) (by decide +kernel), List.mem_of_getElem? (i := 1497) (by decide +kernel)⟩
theorem lw_p120 : lw_okq (⟨"LentHandsModel", "inOffice", "()I"⟩, 36) := ⟨⟨by decide +kernel, by decide +kernel⟩, List.mem_of_getElem? (i := 847) (by decide +kernel), List.mem_of_getElem? (i := 1520) (by decide +kernel), List.mem_of_getElem? (i := 1521) (by decide +kernel)⟩
def lw_privs_8 : List (MethodName × Nat) := [(⟨"LentHandsModel", "laysAside", "()V"⟩, 36), (⟨"LentHandsModel", "areBack", "()Z"⟩, 36), (⟨"LentHandsModel", "putsBack", "()V"⟩, 36), (⟨"LentHandsModel", "canLearn", "(III)Z"⟩, 36), (⟨"LentHandsModel", "laysHours", "(III)V"⟩, 36), (⟨"LentHandsModel", "laysWishes", "(II)V"⟩, 36), (⟨"LentHandsModel", "canBy", "(IIII)Z"⟩, 36), (⟨"LentHandsModel", "isLent", "(II)Z"⟩, 36), (⟨"LentHandsModel", "inOffice", "()I"⟩, 36)]
theorem lw_r8 : ∀ q ∈ lw_privs_8, lw_okq q := List.forall_mem_cons.mpr ⟨lw_p112, List.forall_mem_cons.mpr ⟨lw_p113, List.forall_mem_cons.mpr ⟨lw_p114, List.forall_mem_cons.mpr ⟨lw_p115, List.forall_mem_cons.mpr ⟨lw_p116, List.forall_mem_cons.mpr ⟨lw_p117, List.forall_mem_cons.mpr ⟨lw_p118, List.forall_mem_cons.mpr ⟨lw_p119, List.forall_mem_cons.mpr ⟨lw_p120, fun _ h => absurd h List.not_mem_nil⟩⟩⟩⟩⟩⟩⟩⟩⟩
def lw_privs : List (MethodName × Nat) := lw_privs_1 ++ (lw_privs_2 ++ (lw_privs_3 ++ (lw_privs_4 ++ (lw_privs_5 ++ (lw_privs_6 ++ (lw_privs_7 ++ (lw_privs_8)))))))
def lw_tbl : List Cond := k2_sels lw_privs ++ tables_1
theorem lw_privs_ok : ∀ q ∈ lw_privs, lw_okq q := by
  show ∀ q ∈ lw_privs_1 ++ (lw_privs_2 ++ (lw_privs_3 ++ (lw_privs_4 ++ (lw_privs_5 ++ (lw_privs_6 ++ (lw_privs_7 ++ (lw_privs_8))))))), lw_okq q
  exact List.forall_mem_append.mpr ⟨lw_r1, List.forall_mem_append.mpr ⟨lw_r2, List.forall_mem_append.mpr ⟨lw_r3, List.forall_mem_append.mpr ⟨lw_r4, List.forall_mem_append.mpr ⟨lw_r5, List.forall_mem_append.mpr ⟨lw_r6, List.forall_mem_append.mpr ⟨lw_r7, lw_r8⟩⟩⟩⟩⟩⟩⟩
-- ===== end of PART A; then your names; then what follows =====
end
section
/-! THE ABSTRACT MACHINE (AM): int memory by object id and index; references are fixed ids. -/
abbrev am_V : Type := Int ⊕ Nat
abbrev am_M : Type := Nat → Int → Int
abbrev am_I : Type := Jvm.ClassFile.Instr × Nat × Nat
abbrev am_R : Type := Option (Int × am_M)
abbrev am_K : Type := Nat → List (Option am_V) → List am_V → am_M → am_R
def am_wrap (x : Int) : Int := (x + 2147483648) % 4294967296 - 2147483648
def am_upd (M : am_M) (a : Nat) (i v : Int) : am_M := fun b j => if b = a ∧ j = i then v else M b j
def am_cpy (M : am_M) (a : Nat) (i : Int) (b : Nat) (j n : Int) : am_M := fun c k => if c = b ∧ j ≤ k ∧ k < j + n then M a (i + (k - j)) else M c k
def am_idiv (x y : Int) : Int := (Int32.ofInt x / Int32.ofInt y).toInt
def am_irem (x y : Int) : Int := (Int32.ofInt x - Int32.ofInt x / Int32.ofInt y * Int32.ofInt y).toInt
def am_iand (x y : Int) : Int := (Int32.ofInt x &&& Int32.ofInt y).toInt
def am_ior (x y : Int) : Int := (Int32.ofInt x ||| Int32.ofInt y).toInt
def am_ixor (x y : Int) : Int := (Int32.ofInt x ^^^ Int32.ofInt y).toInt
def am_ishl (x y : Int) : Int := (Int32.ofInt x <<< (Int32.ofInt y &&& 31)).toInt
def am_ishr (x y : Int) : Int := (Int32.ofInt x >>> (Int32.ofInt y &&& 31)).toInt
def am_iushr (x y : Int) : Int := ((Int32.ofInt x).toUInt32 >>> ((Int32.ofInt y).toUInt32 &&& Int32.toUInt32 31)).toInt32.toInt
def am_chr (x : Int) : Int := x % 65536
def am_chk (c : Prop) [Decidable c] (x : am_R) : am_R := if c then x else none
def am_bnd (x : am_R) (f : Int → am_M → am_R) : am_R := match x with
  | some (r, M) => f r M
  | none => none
def am_br (c : Jvm.ClassFile.Cond) (x y : Int) (A B : am_R) : am_R := match c with
  | .eq => if x = y then A else B
  | .ne => if x = y then B else A
  | .lt => if x < y then A else B
  | .ge => if x < y then B else A
  | .gt => if y < x then A else B
  | .le => if y < x then B else A
def am_sw (x d : Int) (kj : Nat → am_R) : Int → List Int → am_R
  | _, [] => kj d.toNat
  | lo, t :: ts => if x = lo then kj t.toNat else am_sw x d kj (lo + 1) ts
def am_swl (x d : Int) (kj : Nat → am_R) : List (Int × Int) → am_R
  | [] => kj d.toNat
  | (v, t) :: ts => if x = v then kj t.toNat else am_swl x d kj ts
def am_pv (st : List am_V) (f : am_V → List am_V → am_R) : am_R := match st with
  | v :: st => f v st
  | [] => none
def am_pi (st : List am_V) (f : Int → List am_V → am_R) : am_R := match st with
  | .inl x :: st => f x st
  | _ => none
def am_pr (st : List am_V) (f : Nat → List am_V → am_R) : am_R := match st with
  | .inr a :: st => f a st
  | _ => none
def am_lo (o : Option (Option am_V)) (f : am_V → am_R) : am_R := match o with
  | some (some v) => f v
  | _ => none
def am_vi (v : am_V) (f : Int → am_R) : am_R := match v with
  | .inl x => f x
  | .inr _ => none
def am_nil (st : List am_V) (o : am_R) : am_R := match st with
  | [] => o
  | _ :: _ => none
section AM
variable (cls : Nat → Nat) (rf : Nat → Int → Nat) (len : am_M → Nat → Int) (call : Nat → List am_V → am_M → am_R)
/-- one instruction: 'ks' goes on behind it, 'kj' at another place -/
def am_stp (i : am_I) (ls : List (Option am_V)) (st : List am_V) (M : am_M) (ks : List (Option am_V) → List am_V → am_M → am_R) (kj : Nat → List (Option am_V) → List am_V → am_M → am_R) : am_R :=
  match i with
  | (.bipush v, _, _) => ks ls (.inl v :: st) M
  | (.aload n, _, _) => ks ls (.inr n :: st) M
  | (.iload n, _, _) => am_lo ls[n]? fun v => ks ls (v :: st) M
  | (.istore n, _, _) => am_pv st fun v st => cond (Nat.blt n ls.length) (ks (ls.set n (some v)) st M) none
  | (.iinc n c, _, _) => am_lo ls[n]? fun v => am_vi v fun x => ks (ls.set n (some (.inl (am_wrap (x + c))))) st M
  | (.iadd, _, _) => am_pi st fun y st => am_pi st fun x st => ks ls (.inl (am_wrap (x + y)) :: st) M
  | (.isub, _, _) => am_pi st fun y st => am_pi st fun x st => ks ls (.inl (am_wrap (x - y)) :: st) M
  | (.imul, _, _) => am_pi st fun y st => am_pi st fun x st => ks ls (.inl (am_wrap (x * y)) :: st) M
  | (.idiv, _, _) => am_pi st fun y st => am_pi st fun x st => am_chk (¬ y = 0) (ks ls (.inl (am_idiv x y) :: st) M)
  | (.irem, _, _) => am_pi st fun y st => am_pi st fun x st => am_chk (¬ y = 0) (ks ls (.inl (am_irem x y) :: st) M)
  | (.ineg, _, _) => am_pi st fun x st => ks ls (.inl (am_wrap (-x)) :: st) M
  | (.iand, _, _) => am_pi st fun y st => am_pi st fun x st => ks ls (.inl (am_iand x y) :: st) M
  | (.ior, _, _) => am_pi st fun y st => am_pi st fun x st => ks ls (.inl (am_ior x y) :: st) M
  | (.ixor, _, _) => am_pi st fun y st => am_pi st fun x st => ks ls (.inl (am_ixor x y) :: st) M
  | (.ishl, _, _) => am_pi st fun y st => am_pi st fun x st => ks ls (.inl (am_ishl x y) :: st) M
  | (.ishr, _, _) => am_pi st fun y st => am_pi st fun x st => ks ls (.inl (am_ishr x y) :: st) M
  | (.iushr, _, _) => am_pi st fun y st => am_pi st fun x st => ks ls (.inl (am_iushr x y) :: st) M
  | (.i2c, _, _) => am_pi st fun x st => ks ls (.inl (am_chr x) :: st) M
  | (.dup, _, _) => am_pv st fun v st => ks ls (v :: v :: st) M
  | (.dup2, _, _) => am_pv st fun v st => am_pv st fun w st => ks ls (v :: w :: v :: w :: st) M
  | (.pop, _, _) => am_pv st fun _ st => ks ls st M
  | (.ifCond c t, _, _) => am_pi st fun x st => am_br c x 0 (kj t.toNat ls st M) (ks ls st M)
  | (.if_icmp c t, _, _) => am_pi st fun y st => am_pi st fun x st => am_br c x y (kj t.toNat ls st M) (ks ls st M)
  | (.goto t, _, _) => kj t.toNat ls st M
  | (.tableswitch d lo _ ts, _, _) => am_pi st fun x st => am_sw x d (fun t => kj t ls st M) lo ts.toList
  | (.lookupswitch d ts, _, _) => am_pi st fun x st => am_swl x d (fun t => kj t ls st M) ts.toList
  | (.getfield k, ci, _) => am_pr st fun a st => cond (Nat.beq (cls a) ci) (ks ls (.inl (M a k) :: st) M) none
  | (.checkcast k, ci, _) => am_pr st fun a st => cond (Nat.beq (cls a) ci) (ks ls (.inr (rf a k) :: st) M) none
  | (.putfield k, ci, _) => am_pi st fun x st => am_pr st fun a st => cond (Nat.beq (cls a) ci) (ks ls st (am_upd M a k x)) none
  | (.iaload, _, _) => am_pi st fun i st => am_pr st fun a st => cond (Nat.beq (cls a) 9 || Nat.beq (cls a) 12) (am_chk (0 ≤ i ∧ i < len M a) (ks ls (.inl (M a i) :: st) M)) none
  | (.caload, _, _) => am_pi st fun i st => am_pr st fun a st => cond (Nat.beq (cls a) 10) (am_chk (0 ≤ i ∧ i < len M a) (ks ls (.inl (M a i) :: st) M)) none
  | (.baload, _, _) => am_pi st fun i st => am_pr st fun a st => cond (Nat.beq (cls a) 13) (am_chk (0 ≤ i ∧ i < len M a) (ks ls (.inl (M a i) :: st) M)) none
  | (.aaload, _, _) => am_pi st fun i st => am_pr st fun a st => cond (Nat.beq (cls a) 11 || Nat.beq (cls a) 14) (am_chk (0 ≤ i ∧ i < len M a) (ks ls (.inr (rf a i) :: st) M)) none
  | (.iastore, _, _) => am_pi st fun x st => am_pi st fun i st => am_pr st fun a st => cond (Nat.beq (cls a) 9) (am_chk (0 ≤ i ∧ i < len M a) (ks ls st (am_upd M a i x))) none
  | (.castore, _, _) => am_pi st fun x st => am_pi st fun i st => am_pr st fun a st => cond (Nat.beq (cls a) 10) (am_chk (0 ≤ i ∧ i < len M a) (ks ls st (am_upd M a i (am_chr x)))) none
  | (.arraylength, _, _) => am_pr st fun a st => cond (Nat.ble 9 (cls a) && Nat.blt (cls a) 15) (ks ls (.inl (len M a) :: st) M) none
  -- System.arraycopy, of int arrays
  | (.lcmp, _, _) => am_pi st fun n st => am_pi st fun j st => am_pr st fun b st => am_pi st fun i st => am_pr st fun a st => cond (Nat.beq (cls a) 9 && Nat.beq (cls b) 9) (am_chk (0 ≤ i ∧ 0 ≤ j ∧ 0 ≤ n ∧ i + n ≤ len M a ∧ j + n ≤ len M b) (ks ls st (am_cpy M a i b j n))) none
  -- a call: method, how many come off the stack, whether it answers
  | (.invokevirtual j, n, r) => am_bnd (call j (st.take n).reverse M) fun v M' => ks ls (cond (Nat.beq r 1) (.inl v :: st.drop n) (st.drop n)) M'
  | (.ireturn, _, _) => am_pi st fun x st => am_nil st (some (x, M))
  | (.return_, _, _) => am_nil st (some (0, M))
  | _ => none
/-- n instructions in a row -/
def am_ex (full : List am_I) : Nat → am_K
  | 0 => fun _ _ _ _ => none
  | n + 1 => fun pc ls st M => match full[pc]? with
    | some i => am_stp cls rf len call i ls st M (am_ex full n (pc + 1)) (am_ex full n)
    | none => none
/-- as many as it takes -/
noncomputable def am_lim (full : List am_I) : am_K := fun pc ls st M => Classical.epsilon (fun o : am_R => (∃ n, am_ex cls rf len call full n pc ls st M = o ∧ o ≠ none) ∨ ((∀ n, am_ex cls rf len call full n pc ls st M = none) ∧ o = none))
/-- a run over the rest of the code until a stop, then K -/
def am_go (full : List am_I) (stops : List Nat) (K : am_K) : Nat → List am_I → am_K
  | 0, _ => K
  | n + 1, code => fun pc ls st M => match code with
    | [] => none
    | i :: code => am_stp cls rf len call i ls st M
        (fun ls st M => cond (stops.contains (pc + 1)) (K (pc + 1) ls st M) (am_go full stops K n code (pc + 1) ls st M))
        (fun t ls st M => cond (stops.contains t) (K t ls st M) (am_go full stops K n (full.drop t) t ls st M))
end AM
end
section
/-! the machine's laws: each instruction ends, or goes on at one place; the limit is a fixed point; a run until a stop -/
abbrev am_KS : Type := List (Option am_V) → List am_V → am_M → am_R
abbrev am_KJ : Type := Nat → List (Option am_V) → List am_V → am_M → am_R
def am_T3 (F : am_KS → am_KJ → am_R) : Prop := (∃ o : am_R, ∀ ks kj, F ks kj = o) ∨ (∃ l s m, ∀ ks kj, F ks kj = ks l s m) ∨ (∃ t l s m, ∀ ks kj, F ks kj = kj t l s m)
theorem am_t_c (o : am_R) : am_T3 (fun _ _ => o) := Or.inl ⟨o, fun _ _ => rfl⟩
theorem am_t_s (l : List (Option am_V)) (s : List am_V) (m : am_M) : am_T3 (fun ks _ => ks l s m) := Or.inr (Or.inl ⟨l, s, m, fun _ _ => rfl⟩)
theorem am_t_j (t : Nat) (l : List (Option am_V)) (s : List am_V) (m : am_M) : am_T3 (fun _ kj => kj t l s m) := Or.inr (Or.inr ⟨t, l, s, m, fun _ _ => rfl⟩)
theorem am_t_pv {st : List am_V} {F : am_V → List am_V → am_KS → am_KJ → am_R} (h : ∀ v st, am_T3 (F v st)) : am_T3 (fun ks kj => am_pv st fun v st => F v st ks kj) := by
  cases st with
  | nil => exact am_t_c none
  | cons v st => exact h v st
theorem am_t_pi {st : List am_V} {F : Int → List am_V → am_KS → am_KJ → am_R} (h : ∀ v st, am_T3 (F v st)) : am_T3 (fun ks kj => am_pi st fun v st => F v st ks kj) := by
  cases st with
  | nil => exact am_t_c none
  | cons v st => cases v with
    | inl x => exact h x st
    | inr x => exact am_t_c none
theorem am_t_pr {st : List am_V} {F : Nat → List am_V → am_KS → am_KJ → am_R} (h : ∀ v st, am_T3 (F v st)) : am_T3 (fun ks kj => am_pr st fun v st => F v st ks kj) := by
  cases st with
  | nil => exact am_t_c none
  | cons v st => cases v with
    | inl x => exact am_t_c none
    | inr x => exact h x st
theorem am_t_lo {o : Option (Option am_V)} {F : am_V → am_KS → am_KJ → am_R} (h : ∀ v, am_T3 (F v)) : am_T3 (fun ks kj => am_lo o fun v => F v ks kj) := by
  cases o with
  | none => exact am_t_c none
  | some o => cases o with
    | none => exact am_t_c none
    | some v => exact h v
theorem am_t_vi {v : am_V} {F : Int → am_KS → am_KJ → am_R} (h : ∀ v, am_T3 (F v)) : am_T3 (fun ks kj => am_vi v fun v => F v ks kj) := by
  cases v with
  | inl x => exact h x
  | inr x => exact am_t_c none
theorem am_t_cond {b : Bool} {F : am_KS → am_KJ → am_R} (h : am_T3 F) : am_T3 (fun ks kj => cond b (F ks kj) none) := by
  cases b with
  | true => exact h
  | false => exact am_t_c none
theorem am_t_chk {c : Prop} [hc : Decidable c] {F : am_KS → am_KJ → am_R} (h : am_T3 F) : am_T3 (fun ks kj => am_chk c (F ks kj)) := by
  cases hc with
  | isTrue q => simpa [am_chk, q] using h
  | isFalse q => simpa [am_chk, q] using am_t_c none
theorem am_t_bnd {x : am_R} {F : Int → am_M → am_KS → am_KJ → am_R} (h : ∀ v M, am_T3 (F v M)) : am_T3 (fun ks kj => am_bnd x fun v M => F v M ks kj) := by
  cases x with
  | none => exact am_t_c none
  | some p => exact h p.1 p.2
theorem am_br_tri (c : Jvm.ClassFile.Cond) (x y : Int) : (∀ A B : am_R, am_br c x y A B = A) ∨ (∀ A B : am_R, am_br c x y A B = B) := by
  cases c
  · by_cases h : x = y
    · exact Or.inl fun A B => by simp [am_br, h]
    · exact Or.inr fun A B => by simp [am_br, h]
  · by_cases h : x = y
    · exact Or.inr fun A B => by simp [am_br, h]
    · exact Or.inl fun A B => by simp [am_br, h]
  · by_cases h : x < y
    · exact Or.inl fun A B => by simp [am_br, h]
    · exact Or.inr fun A B => by simp [am_br, h]
  · by_cases h : x < y
    · exact Or.inr fun A B => by simp [am_br, h]
    · exact Or.inl fun A B => by simp [am_br, h]
  · by_cases h : y < x
    · exact Or.inl fun A B => by simp [am_br, h]
    · exact Or.inr fun A B => by simp [am_br, h]
  · by_cases h : y < x
    · exact Or.inr fun A B => by simp [am_br, h]
    · exact Or.inl fun A B => by simp [am_br, h]
theorem am_t_br {c : Jvm.ClassFile.Cond} {x y : Int} {F G : am_KS → am_KJ → am_R} (h : am_T3 F) (g : am_T3 G) : am_T3 (fun ks kj => am_br c x y (F ks kj) (G ks kj)) := by
  rcases am_br_tri c x y with q | q
  · simpa only [q] using h
  · simpa only [q] using g
theorem am_t_sw {x d : Int} {F : Nat → am_KS → am_KJ → am_R} (h : ∀ t, am_T3 (F t)) : ∀ (ts : List Int) (lo : Int), am_T3 (fun ks kj => am_sw x d (fun t => F t ks kj) lo ts) := by
  intro ts
  induction ts with
  | nil => intro lo; exact h _
  | cons t ts ih =>
    intro lo
    by_cases q : x = lo
    · simpa [am_sw, q] using h t.toNat
    · simpa [am_sw, q] using ih (lo + 1)
theorem am_t_swl {x d : Int} {F : Nat → am_KS → am_KJ → am_R} (h : ∀ t, am_T3 (F t)) : ∀ (ts : List (Int × Int)), am_T3 (fun ks kj => am_swl x d (fun t => F t ks kj) ts) := by
  intro ts
  induction ts with
  | nil => exact h _
  | cons t ts ih =>
    obtain ⟨v, t⟩ := t
    by_cases q : x = v
    · simpa [am_swl, q] using h t.toNat
    · simpa [am_swl, q] using ih
section AM
variable {cls : Nat → Nat} {rf : Nat → Int → Nat} {len : am_M → Nat → Int} {call : Nat → List am_V → am_M → am_R}
theorem am_tri (i : am_I) (ls : List (Option am_V)) (st : List am_V) (M : am_M) : am_T3 (am_stp cls rf len call i ls st M) := by
  obtain ⟨i, a, b⟩ := i
  cases i <;> (first
    | exact am_t_c none
    | exact am_t_s _ _ _
    | exact am_t_j _ _ _ _
    | exact am_t_lo fun _ => am_t_s _ _ _
    | exact am_t_pv fun _ _ => am_t_s _ _ _
    | exact am_t_pv fun _ _ => am_t_cond (am_t_s _ _ _)
    | exact am_t_pv fun _ _ => am_t_pv fun _ _ => am_t_s _ _ _
    | exact am_t_lo fun _ => am_t_vi fun _ => am_t_s _ _ _
    | exact am_t_pi fun _ _ => am_t_s _ _ _
    | exact am_t_pi fun _ _ => am_t_c _
    | exact am_t_pi fun _ _ => am_t_pi fun _ _ => am_t_s _ _ _
    | exact am_t_pi fun _ _ => am_t_pi fun _ _ => am_t_chk (am_t_s _ _ _)
    | exact am_t_pi fun _ _ => am_t_br (am_t_j _ _ _ _) (am_t_s _ _ _)
    | exact am_t_pi fun _ _ => am_t_pi fun _ _ => am_t_br (am_t_j _ _ _ _) (am_t_s _ _ _)
    | exact am_t_pi fun _ _ => am_t_sw (fun _ => am_t_j _ _ _ _) _ _
    | exact am_t_pi fun _ _ => am_t_swl (fun _ => am_t_j _ _ _ _) _
    | exact am_t_pr fun _ _ => am_t_cond (am_t_s _ _ _)
    | exact am_t_pi fun _ _ => am_t_pr fun _ _ => am_t_cond (am_t_s _ _ _)
    | exact am_t_pi fun _ _ => am_t_pr fun _ _ => am_t_cond (am_t_chk (am_t_s _ _ _))
    | exact am_t_pi fun _ _ => am_t_pi fun _ _ => am_t_pr fun _ _ => am_t_cond (am_t_chk (am_t_s _ _ _))
    | exact am_t_pi fun _ _ => am_t_pi fun _ _ => am_t_pr fun _ _ => am_t_pi fun _ _ => am_t_pr fun _ _ => am_t_cond (am_t_chk (am_t_s _ _ _))
    | exact am_t_bnd fun _ _ => am_t_s _ _ _
    | exact am_t_c (am_nil st (some (0, M))))
theorem am_ex_succ (full : List am_I) (n pc : Nat) (ls : List (Option am_V)) (st : List am_V) (M : am_M) : am_ex cls rf len call full (n + 1) pc ls st M = match full[pc]? with
    | some i => am_stp cls rf len call i ls st M (am_ex cls rf len call full n (pc + 1)) (am_ex cls rf len call full n)
    | none => none := rfl
theorem am_ex_mono (full : List am_I) : ∀ (n : Nat) (pc : Nat) (ls : List (Option am_V)) (st : List am_V) (M : am_M) (r : Int × am_M), am_ex cls rf len call full n pc ls st M = some r → am_ex cls rf len call full (n + 1) pc ls st M = some r := by
  intro n
  induction n with
  | zero => intro pc ls st M r h; cases h
  | succ n ih =>
    intro pc ls st M r h
    rw [am_ex_succ] at h ⊢
    cases hi : full[pc]? with
    | none => rw [hi] at h; cases h
    | some i =>
      rw [hi] at h
      dsimp only at h ⊢
      rcases am_tri (cls := cls) (rf := rf) (len := len) (call := call) i ls st M with ⟨o, h1⟩ | ⟨l, s, m, h1⟩ | ⟨t, l, s, m, h1⟩
      · rw [h1] at h ⊢; exact h
      · rw [h1] at h ⊢; exact ih _ _ _ _ _ h
      · rw [h1] at h ⊢; exact ih _ _ _ _ _ h
theorem am_ex_le (full : List am_I) {n k : Nat} (hk : n ≤ k) {pc : Nat} {ls : List (Option am_V)} {st : List am_V} {M : am_M} {r : Int × am_M} (h : am_ex cls rf len call full n pc ls st M = some r) : am_ex cls rf len call full k pc ls st M = some r := by
  induction hk with
  | refl => exact h
  | step _ ih => exact am_ex_mono full _ _ _ _ _ _ ih
theorem am_lim_some (full : List am_I) {n pc : Nat} {ls : List (Option am_V)} {st : List am_V} {M : am_M} {r : Int × am_M} (h : am_ex cls rf len call full n pc ls st M = some r) : am_lim cls rf len call full pc ls st M = some r := by
  have hex : ∃ o : am_R, (∃ n, am_ex cls rf len call full n pc ls st M = o ∧ o ≠ none) ∨ ((∀ n, am_ex cls rf len call full n pc ls st M = none) ∧ o = none) := ⟨some r, Or.inl ⟨n, h, by simp⟩⟩
  have hs := Classical.epsilon_spec hex
  change (∃ n, am_ex cls rf len call full n pc ls st M = am_lim cls rf len call full pc ls st M ∧ am_lim cls rf len call full pc ls st M ≠ none) ∨ _ at hs
  rcases hs with ⟨k, h1, h2⟩ | ⟨h1, -⟩
  · cases ho : am_lim cls rf len call full pc ls st M with
    | none => exact absurd ho h2
    | some q =>
      rw [ho] at h1
      have a := am_ex_le full (Nat.le_max_left n k) h
      have b := am_ex_le full (Nat.le_max_right n k) h1
      exact b.symm.trans a
  · rw [h1 n] at h; cases h
theorem am_lim_none (full : List am_I) {pc : Nat} {ls : List (Option am_V)} {st : List am_V} {M : am_M} (h : ∀ n, am_ex cls rf len call full n pc ls st M = none) : am_lim cls rf len call full pc ls st M = none := by
  have hex : ∃ o : am_R, (∃ n, am_ex cls rf len call full n pc ls st M = o ∧ o ≠ none) ∨ ((∀ n, am_ex cls rf len call full n pc ls st M = none) ∧ o = none) := ⟨none, Or.inr ⟨h, rfl⟩⟩
  have hs := Classical.epsilon_spec hex
  change (∃ n, am_ex cls rf len call full n pc ls st M = am_lim cls rf len call full pc ls st M ∧ am_lim cls rf len call full pc ls st M ≠ none) ∨ ((∀ n, am_ex cls rf len call full n pc ls st M = none) ∧ am_lim cls rf len call full pc ls st M = none) at hs
  rcases hs with ⟨k, h1, h2⟩ | ⟨-, h2⟩
  · rw [h k] at h1; exact absurd h1.symm h2
  · exact h2
theorem am_lim_ex (full : List am_I) {pc : Nat} {ls : List (Option am_V)} {st : List am_V} {M : am_M} {r : Int × am_M} (h : am_lim cls rf len call full pc ls st M = some r) : ∃ n, am_ex cls rf len call full n pc ls st M = some r := by
  by_cases hn : ∀ n, am_ex cls rf len call full n pc ls st M = none
  · rw [am_lim_none full hn] at h; cases h
  · obtain ⟨n, hn⟩ := Classical.not_forall.mp hn
    cases ho : am_ex cls rf len call full n pc ls st M with
    | none => exact absurd ho hn
    | some q => exact ⟨n, by rw [ho]; rw [am_lim_some full ho] at h; exact h⟩
theorem am_lim_eq (full : List am_I) (pc : Nat) (ls : List (Option am_V)) (st : List am_V) (M : am_M) : am_lim cls rf len call full pc ls st M = match full[pc]? with
    | some i => am_stp cls rf len call i ls st M (am_lim cls rf len call full (pc + 1)) (am_lim cls rf len call full)
    | none => none := by
  have key : ∀ (pc2 : Nat) (l : List (Option am_V)) (s : List am_V) (m : am_M), (∀ n, am_ex cls rf len call full (n + 1) pc ls st M = am_ex cls rf len call full n pc2 l s m) → am_lim cls rf len call full pc ls st M = am_lim cls rf len call full pc2 l s m := by
    intro pc2 l s m h
    cases ho : am_lim cls rf len call full pc2 l s m with
    | none =>
      refine am_lim_none full fun n => ?_
      cases n with
      | zero => rfl
      | succ n =>
        rw [h]
        cases hq : am_ex cls rf len call full n pc2 l s m with
        | none => rfl
        | some q => rw [am_lim_some full hq] at ho; cases ho
    | some q =>
      obtain ⟨n, hn⟩ := am_lim_ex full ho
      exact am_lim_some full (n := n + 1) (by rw [h, hn])
  cases hi : full[pc]? with
  | none =>
    refine am_lim_none full fun n => ?_
    cases n with
    | zero => rfl
    | succ n => rw [am_ex_succ, hi]
  | some i =>
    dsimp only
    rcases am_tri (cls := cls) (rf := rf) (len := len) (call := call) i ls st M with ⟨o, h1⟩ | ⟨l, s, m, h1⟩ | ⟨t, l, s, m, h1⟩
    · rw [h1]
      cases o with
      | none =>
        refine am_lim_none full fun n => ?_
        cases n with
        | zero => rfl
        | succ n => rw [am_ex_succ, hi]; exact h1 _ _
      | some q => exact am_lim_some full (n := 1) (by rw [am_ex_succ, hi]; exact h1 _ _)
    · rw [h1]; exact key _ _ _ _ fun n => by rw [am_ex_succ, hi]; exact h1 _ _
    · rw [h1]; exact key _ _ _ _ fun n => by rw [am_ex_succ, hi]; exact h1 _ _
theorem am_go_eq (full : List am_I) (stops : List Nat) : ∀ (n : Nat) (pc : Nat) (ls : List (Option am_V)) (st : List am_V) (M : am_M), am_lim cls rf len call full pc ls st M = am_go cls rf len call full stops (am_lim cls rf len call full) n (full.drop pc) pc ls st M := by
  intro n
  induction n with
  | zero => intro pc ls st M; rfl
  | succ n ih =>
    intro pc ls st M
    rw [am_lim_eq]
    by_cases hpc : pc < full.length
    · have e1 : full[pc]? = some full[pc] := List.getElem?_eq_getElem hpc
      have e2 : full.drop pc = full[pc] :: full.drop (pc + 1) := List.drop_eq_getElem_cons hpc
      rw [e1, e2]
      have f1 : (am_lim cls rf len call full (pc + 1)) = (fun ls st M => cond (stops.contains (pc + 1)) (am_lim cls rf len call full (pc + 1) ls st M) (am_go cls rf len call full stops (am_lim cls rf len call full) n (full.drop (pc + 1)) (pc + 1) ls st M)) := by
        funext ls st M
        cases stops.contains (pc + 1) with
        | true => rfl
        | false => exact ih _ _ _ _
      have f2 : (am_lim cls rf len call full) = (fun t ls st M => cond (stops.contains t) (am_lim cls rf len call full t ls st M) (am_go cls rf len call full stops (am_lim cls rf len call full) n (full.drop t) t ls st M)) := by
        funext t ls st M
        cases stops.contains t with
        | true => rfl
        | false => exact ih _ _ _ _
      exact congr (congrArg (fun a b => am_stp cls rf len call full[pc] ls st M a b) f1) f2
    · have e1 : full[pc]? = none := List.getElem?_eq_none (by omega)
      have e2 : full.drop pc = [] := List.drop_eq_nil_iff.mpr (by omega)
      rw [e1, e2]
      rfl
end AM
end
