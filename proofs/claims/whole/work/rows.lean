section
-- ===== PART A: goes FIRST, ahead of the names: the tables' words, and 'selects' of the private methods out of them =====
/-- a private method of a class that the tables say can be made, by its rows of tables_1 -/
def lw_okq (q : MethodName × Nat) : Prop := (q.1.cls ≠ "java/lang/invoke/MethodHandle" ∧ q.1.cls ≠ "java/lang/invoke/VarHandle") ∧ Cond.instantiable q.1.cls q.2 ∈ tables_1 ∧ Cond.privateMethod q.1 ∈ tables_1 ∧ Cond.instanceMethod q.1 ∈ tables_1
theorem lw_p0 : lw_okq (⟨"LentHands", "forget", "()V"⟩, 16) := ⟨⟨by decide +kernel, by decide +kernel⟩, List.mem_of_getElem? (i := 17) (by decide +kernel), List.mem_of_getElem? (i := 287) (by decide +kernel), List.mem_of_getElem? (i := 288) (by decide +kernel)⟩
theorem lw_p1 : lw_okq (⟨"LentHands", "feedNumber", "(I)V"⟩, 16) := ⟨⟨by decide +kernel, by decide +kernel⟩, List.mem_of_getElem? (i := 17) (by decide +kernel), List.mem_of_getElem? (i := 326) (by decide +kernel), List.mem_of_getElem? (i := 327) (by decide +kernel)⟩
theorem lw_p2 : lw_okq (⟨"LentHands$Reader", "cutToken", "([CII)I"⟩, 10) := ⟨⟨by decide +kernel, by decide +kernel⟩, List.mem_of_getElem? (i := 172) (by decide +kernel), List.mem_of_getElem? (i := 342) (by decide +kernel), List.mem_of_getElem? (i := 343) (by decide +kernel)⟩
theorem lw_p3 : lw_okq (⟨"LentHands$Reader", "addToken", "(III)V"⟩, 10) := ⟨⟨by decide +kernel, by decide +kernel⟩, List.mem_of_getElem? (i := 172) (by decide +kernel), List.mem_of_getElem? (i := 404) (by decide +kernel), List.mem_of_getElem? (i := 405) (by decide +kernel)⟩
theorem lw_p4 : lw_okq (⟨"LentHands$Reader", "seen", "()I"⟩, 10) := ⟨⟨by decide +kernel, by decide +kernel⟩, List.mem_of_getElem? (i := 172) (by decide +kernel), List.mem_of_getElem? (i := 420) (by decide +kernel), List.mem_of_getElem? (i := 421) (by decide +kernel)⟩
theorem lw_p5 : lw_okq (⟨"LentHands$Reader", "lawLine", "(I)Z"⟩, 10) := ⟨⟨by decide +kernel, by decide +kernel⟩, List.mem_of_getElem? (i := 172) (by decide +kernel), List.mem_of_getElem? (i := 424) (by decide +kernel), List.mem_of_getElem? (i := 425) (by decide +kernel)⟩
theorem lw_p6 : lw_okq (⟨"LentHands$Reader", "refuse", "(I)Z"⟩, 10) := ⟨⟨by decide +kernel, by decide +kernel⟩, List.mem_of_getElem? (i := 172) (by decide +kernel), List.mem_of_getElem? (i := 432) (by decide +kernel), List.mem_of_getElem? (i := 433) (by decide +kernel)⟩
theorem lw_p7 : lw_okq (⟨"LentHands$Reader", "sum", "()Z"⟩, 10) := ⟨⟨by decide +kernel, by decide +kernel⟩, List.mem_of_getElem? (i := 172) (by decide +kernel), List.mem_of_getElem? (i := 436) (by decide +kernel), List.mem_of_getElem? (i := 437) (by decide +kernel)⟩
theorem lw_p8 : lw_okq (⟨"LentHands$Reader", "unit", "(Z)Z"⟩, 10) := ⟨⟨by decide +kernel, by decide +kernel⟩, List.mem_of_getElem? (i := 172) (by decide +kernel), List.mem_of_getElem? (i := 440) (by decide +kernel), List.mem_of_getElem? (i := 441) (by decide +kernel)⟩
theorem lw_p9 : lw_okq (⟨"LentHands$Reader", "anyOf", "(I)Z"⟩, 10) := ⟨⟨by decide +kernel, by decide +kernel⟩, List.mem_of_getElem? (i := 172) (by decide +kernel), List.mem_of_getElem? (i := 448) (by decide +kernel), List.mem_of_getElem? (i := 449) (by decide +kernel)⟩
theorem lw_p10 : lw_okq (⟨"LentHands$Reader", "single", "(I)Z"⟩, 10) := ⟨⟨by decide +kernel, by decide +kernel⟩, List.mem_of_getElem? (i := 172) (by decide +kernel), List.mem_of_getElem? (i := 452) (by decide +kernel), List.mem_of_getElem? (i := 453) (by decide +kernel)⟩
theorem lw_p11 : lw_okq (⟨"LentHands$Reader", "skip", "(I)Z"⟩, 10) := ⟨⟨by decide +kernel, by decide +kernel⟩, List.mem_of_getElem? (i := 172) (by decide +kernel), List.mem_of_getElem? (i := 456) (by decide +kernel), List.mem_of_getElem? (i := 457) (by decide +kernel)⟩
theorem lw_p12 : lw_okq (⟨"LentHands$Reader", "bookingRow", "(II)Z"⟩, 10) := ⟨⟨by decide +kernel, by decide +kernel⟩, List.mem_of_getElem? (i := 172) (by decide +kernel), List.mem_of_getElem? (i := 471) (by decide +kernel), List.mem_of_getElem? (i := 472) (by decide +kernel)⟩
theorem lw_p13 : lw_okq (⟨"LentHands$Reader", "cell", "(III)Z"⟩, 10) := ⟨⟨by decide +kernel, by decide +kernel⟩, List.mem_of_getElem? (i := 172) (by decide +kernel), List.mem_of_getElem? (i := 475) (by decide +kernel), List.mem_of_getElem? (i := 476) (by decide +kernel)⟩
theorem lw_p14 : lw_okq (⟨"LentHands$Reader", "workRow", "(I)Z"⟩, 10) := ⟨⟨by decide +kernel, by decide +kernel⟩, List.mem_of_getElem? (i := 172) (by decide +kernel), List.mem_of_getElem? (i := 479) (by decide +kernel), List.mem_of_getElem? (i := 480) (by decide +kernel)⟩
theorem lw_p15 : lw_okq (⟨"LentHands", "canBeLent", "(LLentHands$World;IIII)Z"⟩, 16) := ⟨⟨by decide +kernel, by decide +kernel⟩, List.mem_of_getElem? (i := 17) (by decide +kernel), List.mem_of_getElem? (i := 497) (by decide +kernel), List.mem_of_getElem? (i := 498) (by decide +kernel)⟩
def lw_privs_1 : List (MethodName × Nat) := [(⟨"LentHands", "forget", "()V"⟩, 16), (⟨"LentHands", "feedNumber", "(I)V"⟩, 16), (⟨"LentHands$Reader", "cutToken", "([CII)I"⟩, 10), (⟨"LentHands$Reader", "addToken", "(III)V"⟩, 10), (⟨"LentHands$Reader", "seen", "()I"⟩, 10), (⟨"LentHands$Reader", "lawLine", "(I)Z"⟩, 10), (⟨"LentHands$Reader", "refuse", "(I)Z"⟩, 10), (⟨"LentHands$Reader", "sum", "()Z"⟩, 10), (⟨"LentHands$Reader", "unit", "(Z)Z"⟩, 10), (⟨"LentHands$Reader", "anyOf", "(I)Z"⟩, 10), (⟨"LentHands$Reader", "single", "(I)Z"⟩, 10), (⟨"LentHands$Reader", "skip", "(I)Z"⟩, 10), (⟨"LentHands$Reader", "bookingRow", "(II)Z"⟩, 10), (⟨"LentHands$Reader", "cell", "(III)Z"⟩, 10), (⟨"LentHands$Reader", "workRow", "(I)Z"⟩, 10), (⟨"LentHands", "canBeLent", "(LLentHands$World;IIII)Z"⟩, 16)]
theorem lw_r1 : ∀ q ∈ lw_privs_1, lw_okq q := List.forall_mem_cons.mpr ⟨lw_p0, List.forall_mem_cons.mpr ⟨lw_p1, List.forall_mem_cons.mpr ⟨lw_p2, List.forall_mem_cons.mpr ⟨lw_p3, List.forall_mem_cons.mpr ⟨lw_p4, List.forall_mem_cons.mpr ⟨lw_p5, List.forall_mem_cons.mpr ⟨lw_p6, List.forall_mem_cons.mpr ⟨lw_p7, List.forall_mem_cons.mpr ⟨lw_p8, List.forall_mem_cons.mpr ⟨lw_p9, List.forall_mem_cons.mpr ⟨lw_p10, List.forall_mem_cons.mpr ⟨lw_p11, List.forall_mem_cons.mpr ⟨lw_p12, List.forall_mem_cons.mpr ⟨lw_p13, List.forall_mem_cons.mpr ⟨lw_p14, List.forall_mem_cons.mpr ⟨lw_p15, fun _ h => absurd h List.not_mem_nil⟩⟩⟩⟩⟩⟩⟩⟩⟩⟩⟩⟩⟩⟩⟩⟩
theorem lw_p16 : lw_okq (⟨"LentHands", "lawLends", "(LLentHands$World;IIII)Z"⟩, 16) := ⟨⟨by decide +kernel, by decide +kernel⟩, List.mem_of_getElem? (i := 17) (by decide +kernel), List.mem_of_getElem? (i := 510) (by decide +kernel), List.mem_of_getElem? (i := 511) (by decide +kernel)⟩
theorem lw_p17 : lw_okq (⟨"LentHands", "askOfHand", "(LLentHands$World;II)V"⟩, 16) := ⟨⟨by decide +kernel, by decide +kernel⟩, List.mem_of_getElem? (i := 17) (by decide +kernel), List.mem_of_getElem? (i := 514) (by decide +kernel), List.mem_of_getElem? (i := 515) (by decide +kernel)⟩
theorem lw_p18 : lw_okq (⟨"LentHands$Law", "reckon", "(IILLentHands$Asked;)I"⟩, 7) := ⟨⟨by decide +kernel, by decide +kernel⟩, List.mem_of_getElem? (i := 124) (by decide +kernel), List.mem_of_getElem? (i := 530) (by decide +kernel), List.mem_of_getElem? (i := 531) (by decide +kernel)⟩
theorem lw_p19 : lw_okq (⟨"LentHands", "keep", "()V"⟩, 16) := ⟨⟨by decide +kernel, by decide +kernel⟩, List.mem_of_getElem? (i := 17) (by decide +kernel), List.mem_of_getElem? (i := 534) (by decide +kernel), List.mem_of_getElem? (i := 535) (by decide +kernel)⟩
theorem lw_p20 : lw_okq (⟨"LentHands", "onWrist", "(II)I"⟩, 16) := ⟨⟨by decide +kernel, by decide +kernel⟩, List.mem_of_getElem? (i := 17) (by decide +kernel), List.mem_of_getElem? (i := 563) (by decide +kernel), List.mem_of_getElem? (i := 564) (by decide +kernel)⟩
theorem lw_p21 : lw_okq (⟨"LentHands", "judge", "(III)I"⟩, 16) := ⟨⟨by decide +kernel, by decide +kernel⟩, List.mem_of_getElem? (i := 17) (by decide +kernel), List.mem_of_getElem? (i := 581) (by decide +kernel), List.mem_of_getElem? (i := 582) (by decide +kernel)⟩
theorem lw_p22 : lw_okq (⟨"LentHands", "writeDeed", "(III)V"⟩, 16) := ⟨⟨by decide +kernel, by decide +kernel⟩, List.mem_of_getElem? (i := 17) (by decide +kernel), List.mem_of_getElem? (i := 585) (by decide +kernel), List.mem_of_getElem? (i := 586) (by decide +kernel)⟩
theorem lw_p23 : lw_okq (⟨"LentHands", "passHour", "(LLentHands$World;Z)I"⟩, 16) := ⟨⟨by decide +kernel, by decide +kernel⟩, List.mem_of_getElem? (i := 17) (by decide +kernel), List.mem_of_getElem? (i := 593) (by decide +kernel), List.mem_of_getElem? (i := 594) (by decide +kernel)⟩
theorem lw_p24 : lw_okq (⟨"LentHands", "runBookings", "(LLentHands$World;)I"⟩, 16) := ⟨⟨by decide +kernel, by decide +kernel⟩, List.mem_of_getElem? (i := 17) (by decide +kernel), List.mem_of_getElem? (i := 597) (by decide +kernel), List.mem_of_getElem? (i := 598) (by decide +kernel)⟩
theorem lw_p25 : lw_okq (⟨"LentHands", "toilOn", "(LLentHands$World;IIZ)V"⟩, 16) := ⟨⟨by decide +kernel, by decide +kernel⟩, List.mem_of_getElem? (i := 17) (by decide +kernel), List.mem_of_getElem? (i := 605) (by decide +kernel), List.mem_of_getElem? (i := 606) (by decide +kernel)⟩
theorem lw_p26 : lw_okq (⟨"LentHands", "toil", "(LLentHands$World;III)I"⟩, 16) := ⟨⟨by decide +kernel, by decide +kernel⟩, List.mem_of_getElem? (i := 17) (by decide +kernel), List.mem_of_getElem? (i := 609) (by decide +kernel), List.mem_of_getElem? (i := 610) (by decide +kernel)⟩
theorem lw_p27 : lw_okq (⟨"LentHands", "ring", "(II)I"⟩, 16) := ⟨⟨by decide +kernel, by decide +kernel⟩, List.mem_of_getElem? (i := 17) (by decide +kernel), List.mem_of_getElem? (i := 666) (by decide +kernel), List.mem_of_getElem? (i := 667) (by decide +kernel)⟩
theorem lw_p28 : lw_okq (⟨"LentHands", "inOffice", "()I"⟩, 16) := ⟨⟨by decide +kernel, by decide +kernel⟩, List.mem_of_getElem? (i := 17) (by decide +kernel), List.mem_of_getElem? (i := 686) (by decide +kernel), List.mem_of_getElem? (i := 687) (by decide +kernel)⟩
theorem lw_p29 : lw_okq (⟨"LentHands", "markedAmong", "(II)I"⟩, 16) := ⟨⟨by decide +kernel, by decide +kernel⟩, List.mem_of_getElem? (i := 17) (by decide +kernel), List.mem_of_getElem? (i := 722) (by decide +kernel), List.mem_of_getElem? (i := 723) (by decide +kernel)⟩
theorem lw_p30 : lw_okq (⟨"LentHands", "canDo", "(II)Z"⟩, 16) := ⟨⟨by decide +kernel, by decide +kernel⟩, List.mem_of_getElem? (i := 17) (by decide +kernel), List.mem_of_getElem? (i := 746) (by decide +kernel), List.mem_of_getElem? (i := 747) (by decide +kernel)⟩
theorem lw_p31 : lw_okq (⟨"LentHands", "suffice", "(III)Z"⟩, 16) := ⟨⟨by decide +kernel, by decide +kernel⟩, List.mem_of_getElem? (i := 17) (by decide +kernel), List.mem_of_getElem? (i := 750) (by decide +kernel), List.mem_of_getElem? (i := 751) (by decide +kernel)⟩
def lw_privs_2 : List (MethodName × Nat) := [(⟨"LentHands", "lawLends", "(LLentHands$World;IIII)Z"⟩, 16), (⟨"LentHands", "askOfHand", "(LLentHands$World;II)V"⟩, 16), (⟨"LentHands$Law", "reckon", "(IILLentHands$Asked;)I"⟩, 7), (⟨"LentHands", "keep", "()V"⟩, 16), (⟨"LentHands", "onWrist", "(II)I"⟩, 16), (⟨"LentHands", "judge", "(III)I"⟩, 16), (⟨"LentHands", "writeDeed", "(III)V"⟩, 16), (⟨"LentHands", "passHour", "(LLentHands$World;Z)I"⟩, 16), (⟨"LentHands", "runBookings", "(LLentHands$World;)I"⟩, 16), (⟨"LentHands", "toilOn", "(LLentHands$World;IIZ)V"⟩, 16), (⟨"LentHands", "toil", "(LLentHands$World;III)I"⟩, 16), (⟨"LentHands", "ring", "(II)I"⟩, 16), (⟨"LentHands", "inOffice", "()I"⟩, 16), (⟨"LentHands", "markedAmong", "(II)I"⟩, 16), (⟨"LentHands", "canDo", "(II)Z"⟩, 16), (⟨"LentHands", "suffice", "(III)Z"⟩, 16)]
theorem lw_r2 : ∀ q ∈ lw_privs_2, lw_okq q := List.forall_mem_cons.mpr ⟨lw_p16, List.forall_mem_cons.mpr ⟨lw_p17, List.forall_mem_cons.mpr ⟨lw_p18, List.forall_mem_cons.mpr ⟨lw_p19, List.forall_mem_cons.mpr ⟨lw_p20, List.forall_mem_cons.mpr ⟨lw_p21, List.forall_mem_cons.mpr ⟨lw_p22, List.forall_mem_cons.mpr ⟨lw_p23, List.forall_mem_cons.mpr ⟨lw_p24, List.forall_mem_cons.mpr ⟨lw_p25, List.forall_mem_cons.mpr ⟨lw_p26, List.forall_mem_cons.mpr ⟨lw_p27, List.forall_mem_cons.mpr ⟨lw_p28, List.forall_mem_cons.mpr ⟨lw_p29, List.forall_mem_cons.mpr ⟨lw_p30, List.forall_mem_cons.mpr ⟨lw_p31, fun _ h => absurd h List.not_mem_nil⟩⟩⟩⟩⟩⟩⟩⟩⟩⟩⟩⟩⟩⟩⟩⟩
theorem lw_p32 : lw_okq (⟨"LentHands", "suffices", "(II)Z"⟩, 16) := ⟨⟨by decide +kernel, by decide +kernel⟩, List.mem_of_getElem? (i := 17) (by decide +kernel), List.mem_of_getElem? (i := 754) (by decide +kernel), List.mem_of_getElem? (i := 755) (by decide +kernel)⟩
theorem lw_p33 : lw_okq (⟨"LentHands", "planWork", "(I)V"⟩, 16) := ⟨⟨by decide +kernel, by decide +kernel⟩, List.mem_of_getElem? (i := 17) (by decide +kernel), List.mem_of_getElem? (i := 762) (by decide +kernel), List.mem_of_getElem? (i := 763) (by decide +kernel)⟩
theorem lw_p34 : lw_okq (⟨"LentHands", "doersOf", "(I)I"⟩, 16) := ⟨⟨by decide +kernel, by decide +kernel⟩, List.mem_of_getElem? (i := 17) (by decide +kernel), List.mem_of_getElem? (i := 766) (by decide +kernel), List.mem_of_getElem? (i := 767) (by decide +kernel)⟩
theorem lw_p35 : lw_okq (⟨"LentHands", "doer", "(I)I"⟩, 16) := ⟨⟨by decide +kernel, by decide +kernel⟩, List.mem_of_getElem? (i := 17) (by decide +kernel), List.mem_of_getElem? (i := 770) (by decide +kernel), List.mem_of_getElem? (i := 771) (by decide +kernel)⟩
theorem lw_p36 : lw_okq (⟨"LentHands", "firstDoer", "(II)I"⟩, 16) := ⟨⟨by decide +kernel, by decide +kernel⟩, List.mem_of_getElem? (i := 17) (by decide +kernel), List.mem_of_getElem? (i := 774) (by decide +kernel), List.mem_of_getElem? (i := 775) (by decide +kernel)⟩
theorem lw_p37 : lw_okq (⟨"LentHands", "oneWish", "(III)I"⟩, 16) := ⟨⟨by decide +kernel, by decide +kernel⟩, List.mem_of_getElem? (i := 17) (by decide +kernel), List.mem_of_getElem? (i := 782) (by decide +kernel), List.mem_of_getElem? (i := 783) (by decide +kernel)⟩
theorem lw_p38 : lw_okq (⟨"LentHands", "secondWish", "(III)I"⟩, 16) := ⟨⟨by decide +kernel, by decide +kernel⟩, List.mem_of_getElem? (i := 17) (by decide +kernel), List.mem_of_getElem? (i := 786) (by decide +kernel), List.mem_of_getElem? (i := 787) (by decide +kernel)⟩
theorem lw_p39 : lw_okq (⟨"LentHands", "thinkAhead", "(I)V"⟩, 16) := ⟨⟨by decide +kernel, by decide +kernel⟩, List.mem_of_getElem? (i := 17) (by decide +kernel), List.mem_of_getElem? (i := 803) (by decide +kernel), List.mem_of_getElem? (i := 804) (by decide +kernel)⟩
theorem lw_p40 : lw_okq (⟨"LentHands", "canTry", "(III)Z"⟩, 16) := ⟨⟨by decide +kernel, by decide +kernel⟩, List.mem_of_getElem? (i := 17) (by decide +kernel), List.mem_of_getElem? (i := 822) (by decide +kernel), List.mem_of_getElem? (i := 823) (by decide +kernel)⟩
theorem lw_p41 : lw_okq (⟨"LentHands", "unscarred", "(III)I"⟩, 16) := ⟨⟨by decide +kernel, by decide +kernel⟩, List.mem_of_getElem? (i := 17) (by decide +kernel), List.mem_of_getElem? (i := 826) (by decide +kernel), List.mem_of_getElem? (i := 827) (by decide +kernel)⟩
theorem lw_p42 : lw_okq (⟨"LentHandsModel", "forgets", "()V"⟩, 36) := ⟨⟨by decide +kernel, by decide +kernel⟩, List.mem_of_getElem? (i := 847) (by decide +kernel), List.mem_of_getElem? (i := 966) (by decide +kernel), List.mem_of_getElem? (i := 967) (by decide +kernel)⟩
theorem lw_p43 : lw_okq (⟨"LentHandsModel", "persons", "(III)V"⟩, 36) := ⟨⟨by decide +kernel, by decide +kernel⟩, List.mem_of_getElem? (i := 847) (by decide +kernel), List.mem_of_getElem? (i := 977) (by decide +kernel), List.mem_of_getElem? (i := 978) (by decide +kernel)⟩
theorem lw_p44 : lw_okq (⟨"LentHandsModel", "hands", "(III)V"⟩, 36) := ⟨⟨by decide +kernel, by decide +kernel⟩, List.mem_of_getElem? (i := 847) (by decide +kernel), List.mem_of_getElem? (i := 981) (by decide +kernel), List.mem_of_getElem? (i := 982) (by decide +kernel)⟩
theorem lw_p45 : lw_okq (⟨"LentHandsModel", "isPerson", "(I)Z"⟩, 36) := ⟨⟨by decide +kernel, by decide +kernel⟩, List.mem_of_getElem? (i := 847) (by decide +kernel), List.mem_of_getElem? (i := 989) (by decide +kernel), List.mem_of_getElem? (i := 990) (by decide +kernel)⟩
theorem lw_p46 : lw_okq (⟨"LentHandsModel", "isHand", "(I)Z"⟩, 36) := ⟨⟨by decide +kernel, by decide +kernel⟩, List.mem_of_getElem? (i := 847) (by decide +kernel), List.mem_of_getElem? (i := 993) (by decide +kernel), List.mem_of_getElem? (i := 994) (by decide +kernel)⟩
theorem lw_p47 : lw_okq (⟨"LentHandsModel", "next0", "()V"⟩, 36) := ⟨⟨by decide +kernel, by decide +kernel⟩, List.mem_of_getElem? (i := 847) (by decide +kernel), List.mem_of_getElem? (i := 1009) (by decide +kernel), List.mem_of_getElem? (i := 1010) (by decide +kernel)⟩
def lw_privs_3 : List (MethodName × Nat) := [(⟨"LentHands", "suffices", "(II)Z"⟩, 16), (⟨"LentHands", "planWork", "(I)V"⟩, 16), (⟨"LentHands", "doersOf", "(I)I"⟩, 16), (⟨"LentHands", "doer", "(I)I"⟩, 16), (⟨"LentHands", "firstDoer", "(II)I"⟩, 16), (⟨"LentHands", "oneWish", "(III)I"⟩, 16), (⟨"LentHands", "secondWish", "(III)I"⟩, 16), (⟨"LentHands", "thinkAhead", "(I)V"⟩, 16), (⟨"LentHands", "canTry", "(III)Z"⟩, 16), (⟨"LentHands", "unscarred", "(III)I"⟩, 16), (⟨"LentHandsModel", "forgets", "()V"⟩, 36), (⟨"LentHandsModel", "persons", "(III)V"⟩, 36), (⟨"LentHandsModel", "hands", "(III)V"⟩, 36), (⟨"LentHandsModel", "isPerson", "(I)Z"⟩, 36), (⟨"LentHandsModel", "isHand", "(I)Z"⟩, 36), (⟨"LentHandsModel", "next0", "()V"⟩, 36)]
theorem lw_r3 : ∀ q ∈ lw_privs_3, lw_okq q := List.forall_mem_cons.mpr ⟨lw_p32, List.forall_mem_cons.mpr ⟨lw_p33, List.forall_mem_cons.mpr ⟨lw_p34, List.forall_mem_cons.mpr ⟨lw_p35, List.forall_mem_cons.mpr ⟨lw_p36, List.forall_mem_cons.mpr ⟨lw_p37, List.forall_mem_cons.mpr ⟨lw_p38, List.forall_mem_cons.mpr ⟨lw_p39, List.forall_mem_cons.mpr ⟨lw_p40, List.forall_mem_cons.mpr ⟨lw_p41, List.forall_mem_cons.mpr ⟨lw_p42, List.forall_mem_cons.mpr ⟨lw_p43, List.forall_mem_cons.mpr ⟨lw_p44, List.forall_mem_cons.mpr ⟨lw_p45, List.forall_mem_cons.mpr ⟨lw_p46, List.forall_mem_cons.mpr ⟨lw_p47, fun _ h => absurd h List.not_mem_nil⟩⟩⟩⟩⟩⟩⟩⟩⟩⟩⟩⟩⟩⟩⟩⟩
theorem lw_p48 : lw_okq (⟨"LentHandsModel", "see", "(I)I"⟩, 36) := ⟨⟨by decide +kernel, by decide +kernel⟩, List.mem_of_getElem? (i := 847) (by decide +kernel), List.mem_of_getElem? (i := 1013) (by decide +kernel), List.mem_of_getElem? (i := 1014) (by decide +kernel)⟩
theorem lw_p49 : lw_okq (⟨"LentHandsModel", "word", "()I"⟩, 36) := ⟨⟨by decide +kernel, by decide +kernel⟩, List.mem_of_getElem? (i := 847) (by decide +kernel), List.mem_of_getElem? (i := 1020) (by decide +kernel), List.mem_of_getElem? (i := 1021) (by decide +kernel)⟩
theorem lw_p50 : lw_okq (⟨"LentHandsModel", "bookingWord", "()I"⟩, 36) := ⟨⟨by decide +kernel, by decide +kernel⟩, List.mem_of_getElem? (i := 847) (by decide +kernel), List.mem_of_getElem? (i := 1024) (by decide +kernel), List.mem_of_getElem? (i := 1025) (by decide +kernel)⟩
theorem lw_p51 : lw_okq (⟨"LentHandsModel", "is", "(Ljava/lang/String;)Z"⟩, 36) := ⟨⟨by decide +kernel, by decide +kernel⟩, List.mem_of_getElem? (i := 847) (by decide +kernel), List.mem_of_getElem? (i := 1029) (by decide +kernel), List.mem_of_getElem? (i := 1030) (by decide +kernel)⟩
theorem lw_p52 : lw_okq (⟨"LentHandsModel", "workWord", "()I"⟩, 36) := ⟨⟨by decide +kernel, by decide +kernel⟩, List.mem_of_getElem? (i := 847) (by decide +kernel), List.mem_of_getElem? (i := 1039) (by decide +kernel), List.mem_of_getElem? (i := 1040) (by decide +kernel)⟩
theorem lw_p53 : lw_okq (⟨"LentHandsModel", "loanWord", "()I"⟩, 36) := ⟨⟨by decide +kernel, by decide +kernel⟩, List.mem_of_getElem? (i := 847) (by decide +kernel), List.mem_of_getElem? (i := 1051) (by decide +kernel), List.mem_of_getElem? (i := 1052) (by decide +kernel)⟩
theorem lw_p54 : lw_okq (⟨"LentHandsModel", "handName", "()I"⟩, 36) := ⟨⟨by decide +kernel, by decide +kernel⟩, List.mem_of_getElem? (i := 847) (by decide +kernel), List.mem_of_getElem? (i := 1062) (by decide +kernel), List.mem_of_getElem? (i := 1063) (by decide +kernel)⟩
theorem lw_p55 : lw_okq (⟨"LentHandsModel", "handWord", "()I"⟩, 36) := ⟨⟨by decide +kernel, by decide +kernel⟩, List.mem_of_getElem? (i := 847) (by decide +kernel), List.mem_of_getElem? (i := 1070) (by decide +kernel), List.mem_of_getElem? (i := 1071) (by decide +kernel)⟩
theorem lw_p56 : lw_okq (⟨"LentHandsModel", "guiltWord", "()I"⟩, 36) := ⟨⟨by decide +kernel, by decide +kernel⟩, List.mem_of_getElem? (i := 847) (by decide +kernel), List.mem_of_getElem? (i := 1082) (by decide +kernel), List.mem_of_getElem? (i := 1083) (by decide +kernel)⟩
theorem lw_p57 : lw_okq (⟨"LentHandsModel", "readsLaw", "()Z"⟩, 36) := ⟨⟨by decide +kernel, by decide +kernel⟩, List.mem_of_getElem? (i := 847) (by decide +kernel), List.mem_of_getElem? (i := 1092) (by decide +kernel), List.mem_of_getElem? (i := 1093) (by decide +kernel)⟩
theorem lw_p58 : lw_okq (⟨"LentHandsModel", "aLine", "()Z"⟩, 36) := ⟨⟨by decide +kernel, by decide +kernel⟩, List.mem_of_getElem? (i := 847) (by decide +kernel), List.mem_of_getElem? (i := 1096) (by decide +kernel), List.mem_of_getElem? (i := 1097) (by decide +kernel)⟩
theorem lw_p59 : lw_okq (⟨"LentHandsModel", "bad", "(I)Z"⟩, 36) := ⟨⟨by decide +kernel, by decide +kernel⟩, List.mem_of_getElem? (i := 847) (by decide +kernel), List.mem_of_getElem? (i := 1100) (by decide +kernel), List.mem_of_getElem? (i := 1101) (by decide +kernel)⟩
theorem lw_p60 : lw_okq (⟨"LentHandsModel", "sumUp", "()Z"⟩, 36) := ⟨⟨by decide +kernel, by decide +kernel⟩, List.mem_of_getElem? (i := 847) (by decide +kernel), List.mem_of_getElem? (i := 1104) (by decide +kernel), List.mem_of_getElem? (i := 1105) (by decide +kernel)⟩
theorem lw_p61 : lw_okq (⟨"LentHandsModel", "product", "()Z"⟩, 36) := ⟨⟨by decide +kernel, by decide +kernel⟩, List.mem_of_getElem? (i := 847) (by decide +kernel), List.mem_of_getElem? (i := 1108) (by decide +kernel), List.mem_of_getElem? (i := 1109) (by decide +kernel)⟩
theorem lw_p62 : lw_okq (⟨"LentHandsModel", "unit", "()Z"⟩, 36) := ⟨⟨by decide +kernel, by decide +kernel⟩, List.mem_of_getElem? (i := 847) (by decide +kernel), List.mem_of_getElem? (i := 1112) (by decide +kernel), List.mem_of_getElem? (i := 1113) (by decide +kernel)⟩
theorem lw_p63 : lw_okq (⟨"LentHandsModel", "lay", "(II)V"⟩, 36) := ⟨⟨by decide +kernel, by decide +kernel⟩, List.mem_of_getElem? (i := 847) (by decide +kernel), List.mem_of_getElem? (i := 1116) (by decide +kernel), List.mem_of_getElem? (i := 1117) (by decide +kernel)⟩
def lw_privs_4 : List (MethodName × Nat) := [(⟨"LentHandsModel", "see", "(I)I"⟩, 36), (⟨"LentHandsModel", "word", "()I"⟩, 36), (⟨"LentHandsModel", "bookingWord", "()I"⟩, 36), (⟨"LentHandsModel", "is", "(Ljava/lang/String;)Z"⟩, 36), (⟨"LentHandsModel", "workWord", "()I"⟩, 36), (⟨"LentHandsModel", "loanWord", "()I"⟩, 36), (⟨"LentHandsModel", "handName", "()I"⟩, 36), (⟨"LentHandsModel", "handWord", "()I"⟩, 36), (⟨"LentHandsModel", "guiltWord", "()I"⟩, 36), (⟨"LentHandsModel", "readsLaw", "()Z"⟩, 36), (⟨"LentHandsModel", "aLine", "()Z"⟩, 36), (⟨"LentHandsModel", "bad", "(I)Z"⟩, 36), (⟨"LentHandsModel", "sumUp", "()Z"⟩, 36), (⟨"LentHandsModel", "product", "()Z"⟩, 36), (⟨"LentHandsModel", "unit", "()Z"⟩, 36), (⟨"LentHandsModel", "lay", "(II)V"⟩, 36)]
theorem lw_r4 : ∀ q ∈ lw_privs_4, lw_okq q := List.forall_mem_cons.mpr ⟨lw_p48, List.forall_mem_cons.mpr ⟨lw_p49, List.forall_mem_cons.mpr ⟨lw_p50, List.forall_mem_cons.mpr ⟨lw_p51, List.forall_mem_cons.mpr ⟨lw_p52, List.forall_mem_cons.mpr ⟨lw_p53, List.forall_mem_cons.mpr ⟨lw_p54, List.forall_mem_cons.mpr ⟨lw_p55, List.forall_mem_cons.mpr ⟨lw_p56, List.forall_mem_cons.mpr ⟨lw_p57, List.forall_mem_cons.mpr ⟨lw_p58, List.forall_mem_cons.mpr ⟨lw_p59, List.forall_mem_cons.mpr ⟨lw_p60, List.forall_mem_cons.mpr ⟨lw_p61, List.forall_mem_cons.mpr ⟨lw_p62, List.forall_mem_cons.mpr ⟨lw_p63, fun _ h => absurd h List.not_mem_nil⟩⟩⟩⟩⟩⟩⟩⟩⟩⟩⟩⟩⟩⟩⟩⟩
theorem lw_p64 : lw_okq (⟨"LentHandsModel", "any", "()Z"⟩, 36) := ⟨⟨by decide +kernel, by decide +kernel⟩, List.mem_of_getElem? (i := 847) (by decide +kernel), List.mem_of_getElem? (i := 1120) (by decide +kernel), List.mem_of_getElem? (i := 1121) (by decide +kernel)⟩
theorem lw_p65 : lw_okq (⟨"LentHandsModel", "every", "()Z"⟩, 36) := ⟨⟨by decide +kernel, by decide +kernel⟩, List.mem_of_getElem? (i := 847) (by decide +kernel), List.mem_of_getElem? (i := 1124) (by decide +kernel), List.mem_of_getElem? (i := 1125) (by decide +kernel)⟩
theorem lw_p66 : lw_okq (⟨"LentHandsModel", "oneTest", "()Z"⟩, 36) := ⟨⟨by decide +kernel, by decide +kernel⟩, List.mem_of_getElem? (i := 847) (by decide +kernel), List.mem_of_getElem? (i := 1128) (by decide +kernel), List.mem_of_getElem? (i := 1129) (by decide +kernel)⟩
theorem lw_p67 : lw_okq (⟨"LentHandsModel", "opens", "()Z"⟩, 36) := ⟨⟨by decide +kernel, by decide +kernel⟩, List.mem_of_getElem? (i := 847) (by decide +kernel), List.mem_of_getElem? (i := 1132) (by decide +kernel), List.mem_of_getElem? (i := 1133) (by decide +kernel)⟩
theorem lw_p68 : lw_okq (⟨"LentHandsModel", "need", "(I)Z"⟩, 36) := ⟨⟨by decide +kernel, by decide +kernel⟩, List.mem_of_getElem? (i := 847) (by decide +kernel), List.mem_of_getElem? (i := 1136) (by decide +kernel), List.mem_of_getElem? (i := 1137) (by decide +kernel)⟩
theorem lw_p69 : lw_okq (⟨"LentHandsModel", "readsRows", "()Z"⟩, 36) := ⟨⟨by decide +kernel, by decide +kernel⟩, List.mem_of_getElem? (i := 847) (by decide +kernel), List.mem_of_getElem? (i := 1140) (by decide +kernel), List.mem_of_getElem? (i := 1141) (by decide +kernel)⟩
theorem lw_p70 : lw_okq (⟨"LentHandsModel", "aBooking", "()Z"⟩, 36) := ⟨⟨by decide +kernel, by decide +kernel⟩, List.mem_of_getElem? (i := 847) (by decide +kernel), List.mem_of_getElem? (i := 1144) (by decide +kernel), List.mem_of_getElem? (i := 1145) (by decide +kernel)⟩
theorem lw_p71 : lw_okq (⟨"LentHandsModel", "told", "(IIII)Z"⟩, 36) := ⟨⟨by decide +kernel, by decide +kernel⟩, List.mem_of_getElem? (i := 847) (by decide +kernel), List.mem_of_getElem? (i := 1148) (by decide +kernel), List.mem_of_getElem? (i := 1149) (by decide +kernel)⟩
theorem lw_p72 : lw_okq (⟨"LentHandsModel", "number", "(II)Z"⟩, 36) := ⟨⟨by decide +kernel, by decide +kernel⟩, List.mem_of_getElem? (i := 847) (by decide +kernel), List.mem_of_getElem? (i := 1152) (by decide +kernel), List.mem_of_getElem? (i := 1153) (by decide +kernel)⟩
theorem lw_p73 : lw_okq (⟨"LentHandsModel", "aWork", "()Z"⟩, 36) := ⟨⟨by decide +kernel, by decide +kernel⟩, List.mem_of_getElem? (i := 847) (by decide +kernel), List.mem_of_getElem? (i := 1156) (by decide +kernel), List.mem_of_getElem? (i := 1157) (by decide +kernel)⟩
theorem lw_p74 : lw_okq (⟨"LentHandsModel", "putsLaw", "(I)I"⟩, 36) := ⟨⟨by decide +kernel, by decide +kernel⟩, List.mem_of_getElem? (i := 847) (by decide +kernel), List.mem_of_getElem? (i := 1160) (by decide +kernel), List.mem_of_getElem? (i := 1161) (by decide +kernel)⟩
theorem lw_p75 : lw_okq (⟨"LentHandsModel", "putsRows", "()I"⟩, 36) := ⟨⟨by decide +kernel, by decide +kernel⟩, List.mem_of_getElem? (i := 847) (by decide +kernel), List.mem_of_getElem? (i := 1164) (by decide +kernel), List.mem_of_getElem? (i := 1165) (by decide +kernel)⟩
theorem lw_p76 : lw_okq (⟨"LentHandsModel", "canLend", "(IIII)Z"⟩, 36) := ⟨⟨by decide +kernel, by decide +kernel⟩, List.mem_of_getElem? (i := 847) (by decide +kernel), List.mem_of_getElem? (i := 1180) (by decide +kernel), List.mem_of_getElem? (i := 1181) (by decide +kernel)⟩
theorem lw_p77 : lw_okq (⟨"LentHandsModel", "ofHand", "(II)I"⟩, 36) := ⟨⟨by decide +kernel, by decide +kernel⟩, List.mem_of_getElem? (i := 847) (by decide +kernel), List.mem_of_getElem? (i := 1187) (by decide +kernel), List.mem_of_getElem? (i := 1188) (by decide +kernel)⟩
theorem lw_p78 : lw_okq (⟨"LentHandsModel", "latestOf", "(I)I"⟩, 36) := ⟨⟨by decide +kernel, by decide +kernel⟩, List.mem_of_getElem? (i := 847) (by decide +kernel), List.mem_of_getElem? (i := 1191) (by decide +kernel), List.mem_of_getElem? (i := 1192) (by decide +kernel)⟩
theorem lw_p79 : lw_okq (⟨"LentHandsModel", "ofLoan", "(II)I"⟩, 36) := ⟨⟨by decide +kernel, by decide +kernel⟩, List.mem_of_getElem? (i := 847) (by decide +kernel), List.mem_of_getElem? (i := 1195) (by decide +kernel), List.mem_of_getElem? (i := 1196) (by decide +kernel)⟩
def lw_privs_5 : List (MethodName × Nat) := [(⟨"LentHandsModel", "any", "()Z"⟩, 36), (⟨"LentHandsModel", "every", "()Z"⟩, 36), (⟨"LentHandsModel", "oneTest", "()Z"⟩, 36), (⟨"LentHandsModel", "opens", "()Z"⟩, 36), (⟨"LentHandsModel", "need", "(I)Z"⟩, 36), (⟨"LentHandsModel", "readsRows", "()Z"⟩, 36), (⟨"LentHandsModel", "aBooking", "()Z"⟩, 36), (⟨"LentHandsModel", "told", "(IIII)Z"⟩, 36), (⟨"LentHandsModel", "number", "(II)Z"⟩, 36), (⟨"LentHandsModel", "aWork", "()Z"⟩, 36), (⟨"LentHandsModel", "putsLaw", "(I)I"⟩, 36), (⟨"LentHandsModel", "putsRows", "()I"⟩, 36), (⟨"LentHandsModel", "canLend", "(IIII)Z"⟩, 36), (⟨"LentHandsModel", "ofHand", "(II)I"⟩, 36), (⟨"LentHandsModel", "latestOf", "(I)I"⟩, 36), (⟨"LentHandsModel", "ofLoan", "(II)I"⟩, 36)]
theorem lw_r5 : ∀ q ∈ lw_privs_5, lw_okq q := List.forall_mem_cons.mpr ⟨lw_p64, List.forall_mem_cons.mpr ⟨lw_p65, List.forall_mem_cons.mpr ⟨lw_p66, List.forall_mem_cons.mpr ⟨lw_p67, List.forall_mem_cons.mpr ⟨lw_p68, List.forall_mem_cons.mpr ⟨lw_p69, List.forall_mem_cons.mpr ⟨lw_p70, List.forall_mem_cons.mpr ⟨lw_p71, List.forall_mem_cons.mpr ⟨lw_p72, List.forall_mem_cons.mpr ⟨lw_p73, List.forall_mem_cons.mpr ⟨lw_p74, List.forall_mem_cons.mpr ⟨lw_p75, List.forall_mem_cons.mpr ⟨lw_p76, List.forall_mem_cons.mpr ⟨lw_p77, List.forall_mem_cons.mpr ⟨lw_p78, List.forall_mem_cons.mpr ⟨lw_p79, fun _ h => absurd h List.not_mem_nil⟩⟩⟩⟩⟩⟩⟩⟩⟩⟩⟩⟩⟩⟩⟩⟩
theorem lw_p80 : lw_okq (⟨"LentHandsModel", "ofPerson", "(II)I"⟩, 36) := ⟨⟨by decide +kernel, by decide +kernel⟩, List.mem_of_getElem? (i := 847) (by decide +kernel), List.mem_of_getElem? (i := 1199) (by decide +kernel), List.mem_of_getElem? (i := 1200) (by decide +kernel)⟩
theorem lw_p81 : lw_okq (⟨"LentHandsModel", "mayBe", "(IIII)Z"⟩, 36) := ⟨⟨by decide +kernel, by decide +kernel⟩, List.mem_of_getElem? (i := 847) (by decide +kernel), List.mem_of_getElem? (i := 1203) (by decide +kernel), List.mem_of_getElem? (i := 1204) (by decide +kernel)⟩
theorem lw_p82 : lw_okq (⟨"LentHandsModel", "handFacts", "(II)V"⟩, 36) := ⟨⟨by decide +kernel, by decide +kernel⟩, List.mem_of_getElem? (i := 847) (by decide +kernel), List.mem_of_getElem? (i := 1207) (by decide +kernel), List.mem_of_getElem? (i := 1208) (by decide +kernel)⟩
theorem lw_p83 : lw_okq (⟨"LentHandsModel", "bestOf", "(I)I"⟩, 36) := ⟨⟨by decide +kernel, by decide +kernel⟩, List.mem_of_getElem? (i := 847) (by decide +kernel), List.mem_of_getElem? (i := 1211) (by decide +kernel), List.mem_of_getElem? (i := 1212) (by decide +kernel)⟩
theorem lw_p84 : lw_okq (⟨"LentHandsModel", "loansOf", "(I)I"⟩, 36) := ⟨⟨by decide +kernel, by decide +kernel⟩, List.mem_of_getElem? (i := 847) (by decide +kernel), List.mem_of_getElem? (i := 1221) (by decide +kernel), List.mem_of_getElem? (i := 1222) (by decide +kernel)⟩
theorem lw_p85 : lw_okq (⟨"LentHandsModel", "saysWord", "(II)I"⟩, 36) := ⟨⟨by decide +kernel, by decide +kernel⟩, List.mem_of_getElem? (i := 847) (by decide +kernel), List.mem_of_getElem? (i := 1225) (by decide +kernel), List.mem_of_getElem? (i := 1226) (by decide +kernel)⟩
theorem lw_p86 : lw_okq (⟨"LentHandsModel", "holds", "(II)Z"⟩, 36) := ⟨⟨by decide +kernel, by decide +kernel⟩, List.mem_of_getElem? (i := 847) (by decide +kernel), List.mem_of_getElem? (i := 1229) (by decide +kernel), List.mem_of_getElem? (i := 1230) (by decide +kernel)⟩
theorem lw_p87 : lw_okq (⟨"LentHandsModel", "comesTo", "(III)I"⟩, 36) := ⟨⟨by decide +kernel, by decide +kernel⟩, List.mem_of_getElem? (i := 847) (by decide +kernel), List.mem_of_getElem? (i := 1233) (by decide +kernel), List.mem_of_getElem? (i := 1234) (by decide +kernel)⟩
theorem lw_p88 : lw_okq (⟨"LentHandsModel", "keeps", "()V"⟩, 36) := ⟨⟨by decide +kernel, by decide +kernel⟩, List.mem_of_getElem? (i := 847) (by decide +kernel), List.mem_of_getElem? (i := 1240) (by decide +kernel), List.mem_of_getElem? (i := 1241) (by decide +kernel)⟩
theorem lw_p89 : lw_okq (⟨"LentHandsModel", "lends", "(IIII)I"⟩, 36) := ⟨⟨by decide +kernel, by decide +kernel⟩, List.mem_of_getElem? (i := 847) (by decide +kernel), List.mem_of_getElem? (i := 1244) (by decide +kernel), List.mem_of_getElem? (i := 1245) (by decide +kernel)⟩
theorem lw_p90 : lw_okq (⟨"LentHandsModel", "earns", "(II)V"⟩, 36) := ⟨⟨by decide +kernel, by decide +kernel⟩, List.mem_of_getElem? (i := 847) (by decide +kernel), List.mem_of_getElem? (i := 1248) (by decide +kernel), List.mem_of_getElem? (i := 1249) (by decide +kernel)⟩
theorem lw_p91 : lw_okq (⟨"LentHandsModel", "onWrist", "(II)I"⟩, 36) := ⟨⟨by decide +kernel, by decide +kernel⟩, List.mem_of_getElem? (i := 847) (by decide +kernel), List.mem_of_getElem? (i := 1255) (by decide +kernel), List.mem_of_getElem? (i := 1256) (by decide +kernel)⟩
theorem lw_p92 : lw_okq (⟨"LentHandsModel", "goes", "(II)V"⟩, 36) := ⟨⟨by decide +kernel, by decide +kernel⟩, List.mem_of_getElem? (i := 847) (by decide +kernel), List.mem_of_getElem? (i := 1259) (by decide +kernel), List.mem_of_getElem? (i := 1260) (by decide +kernel)⟩
theorem lw_p93 : lw_okq (⟨"LentHandsModel", "canDeed", "(II)Z"⟩, 36) := ⟨⟨by decide +kernel, by decide +kernel⟩, List.mem_of_getElem? (i := 847) (by decide +kernel), List.mem_of_getElem? (i := 1285) (by decide +kernel), List.mem_of_getElem? (i := 1286) (by decide +kernel)⟩
theorem lw_p94 : lw_okq (⟨"LentHandsModel", "deedBy", "(III)I"⟩, 36) := ⟨⟨by decide +kernel, by decide +kernel⟩, List.mem_of_getElem? (i := 847) (by decide +kernel), List.mem_of_getElem? (i := 1289) (by decide +kernel), List.mem_of_getElem? (i := 1290) (by decide +kernel)⟩
theorem lw_p95 : lw_okq (⟨"LentHandsModel", "guilty", "(I)V"⟩, 36) := ⟨⟨by decide +kernel, by decide +kernel⟩, List.mem_of_getElem? (i := 847) (by decide +kernel), List.mem_of_getElem? (i := 1293) (by decide +kernel), List.mem_of_getElem? (i := 1294) (by decide +kernel)⟩
def lw_privs_6 : List (MethodName × Nat) := [(⟨"LentHandsModel", "ofPerson", "(II)I"⟩, 36), (⟨"LentHandsModel", "mayBe", "(IIII)Z"⟩, 36), (⟨"LentHandsModel", "handFacts", "(II)V"⟩, 36), (⟨"LentHandsModel", "bestOf", "(I)I"⟩, 36), (⟨"LentHandsModel", "loansOf", "(I)I"⟩, 36), (⟨"LentHandsModel", "saysWord", "(II)I"⟩, 36), (⟨"LentHandsModel", "holds", "(II)Z"⟩, 36), (⟨"LentHandsModel", "comesTo", "(III)I"⟩, 36), (⟨"LentHandsModel", "keeps", "()V"⟩, 36), (⟨"LentHandsModel", "lends", "(IIII)I"⟩, 36), (⟨"LentHandsModel", "earns", "(II)V"⟩, 36), (⟨"LentHandsModel", "onWrist", "(II)I"⟩, 36), (⟨"LentHandsModel", "goes", "(II)V"⟩, 36), (⟨"LentHandsModel", "canDeed", "(II)Z"⟩, 36), (⟨"LentHandsModel", "deedBy", "(III)I"⟩, 36), (⟨"LentHandsModel", "guilty", "(I)V"⟩, 36)]
theorem lw_r6 : ∀ q ∈ lw_privs_6, lw_okq q := List.forall_mem_cons.mpr ⟨lw_p80, List.forall_mem_cons.mpr ⟨lw_p81, List.forall_mem_cons.mpr ⟨lw_p82, List.forall_mem_cons.mpr ⟨lw_p83, List.forall_mem_cons.mpr ⟨lw_p84, List.forall_mem_cons.mpr ⟨lw_p85, List.forall_mem_cons.mpr ⟨lw_p86, List.forall_mem_cons.mpr ⟨lw_p87, List.forall_mem_cons.mpr ⟨lw_p88, List.forall_mem_cons.mpr ⟨lw_p89, List.forall_mem_cons.mpr ⟨lw_p90, List.forall_mem_cons.mpr ⟨lw_p91, List.forall_mem_cons.mpr ⟨lw_p92, List.forall_mem_cons.mpr ⟨lw_p93, List.forall_mem_cons.mpr ⟨lw_p94, List.forall_mem_cons.mpr ⟨lw_p95, fun _ h => absurd h List.not_mem_nil⟩⟩⟩⟩⟩⟩⟩⟩⟩⟩⟩⟩⟩⟩⟩⟩
theorem lw_p96 : lw_okq (⟨"LentHandsModel", "notes", "(III)V"⟩, 36) := ⟨⟨by decide +kernel, by decide +kernel⟩, List.mem_of_getElem? (i := 847) (by decide +kernel), List.mem_of_getElem? (i := 1297) (by decide +kernel), List.mem_of_getElem? (i := 1298) (by decide +kernel)⟩
theorem lw_p97 : lw_okq (⟨"LentHandsModel", "anHour", "(Z)I"⟩, 36) := ⟨⟨by decide +kernel, by decide +kernel⟩, List.mem_of_getElem? (i := 847) (by decide +kernel), List.mem_of_getElem? (i := 1305) (by decide +kernel), List.mem_of_getElem? (i := 1306) (by decide +kernel)⟩
theorem lw_p98 : lw_okq (⟨"LentHandsModel", "books", "()I"⟩, 36) := ⟨⟨by decide +kernel, by decide +kernel⟩, List.mem_of_getElem? (i := 847) (by decide +kernel), List.mem_of_getElem? (i := 1309) (by decide +kernel), List.mem_of_getElem? (i := 1310) (by decide +kernel)⟩
theorem lw_p99 : lw_okq (⟨"LentHandsModel", "worksOn", "(IZ)V"⟩, 36) := ⟨⟨by decide +kernel, by decide +kernel⟩, List.mem_of_getElem? (i := 847) (by decide +kernel), List.mem_of_getElem? (i := 1313) (by decide +kernel), List.mem_of_getElem? (i := 1314) (by decide +kernel)⟩
theorem lw_p100 : lw_okq (⟨"LentHandsModel", "works", "(IIZ)V"⟩, 36) := ⟨⟨by decide +kernel, by decide +kernel⟩, List.mem_of_getElem? (i := 847) (by decide +kernel), List.mem_of_getElem? (i := 1317) (by decide +kernel), List.mem_of_getElem? (i := 1318) (by decide +kernel)⟩
theorem lw_p101 : lw_okq (⟨"LentHandsModel", "taskFacts", "(IIII)V"⟩, 36) := ⟨⟨by decide +kernel, by decide +kernel⟩, List.mem_of_getElem? (i := 847) (by decide +kernel), List.mem_of_getElem? (i := 1321) (by decide +kernel), List.mem_of_getElem? (i := 1322) (by decide +kernel)⟩
theorem lw_p102 : lw_okq (⟨"LentHandsModel", "saysOf", "(II)I"⟩, 36) := ⟨⟨by decide +kernel, by decide +kernel⟩, List.mem_of_getElem? (i := 847) (by decide +kernel), List.mem_of_getElem? (i := 1325) (by decide +kernel), List.mem_of_getElem? (i := 1326) (by decide +kernel)⟩
theorem lw_p103 : lw_okq (⟨"LentHandsModel", "draw", "(I)I"⟩, 36) := ⟨⟨by decide +kernel, by decide +kernel⟩, List.mem_of_getElem? (i := 847) (by decide +kernel), List.mem_of_getElem? (i := 1329) (by decide +kernel), List.mem_of_getElem? (i := 1330) (by decide +kernel)⟩
theorem lw_p104 : lw_okq (⟨"LentHandsModel", "marksAll", "()V"⟩, 36) := ⟨⟨by decide +kernel, by decide +kernel⟩, List.mem_of_getElem? (i := 847) (by decide +kernel), List.mem_of_getElem? (i := 1335) (by decide +kernel), List.mem_of_getElem? (i := 1336) (by decide +kernel)⟩
theorem lw_p105 : lw_okq (⟨"LentHandsModel", "endsAll", "()V"⟩, 36) := ⟨⟨by decide +kernel, by decide +kernel⟩, List.mem_of_getElem? (i := 847) (by decide +kernel), List.mem_of_getElem? (i := 1339) (by decide +kernel), List.mem_of_getElem? (i := 1340) (by decide +kernel)⟩
theorem lw_p106 : lw_okq (⟨"LentHandsModel", "ends", "(I)V"⟩, 36) := ⟨⟨by decide +kernel, by decide +kernel⟩, List.mem_of_getElem? (i := 847) (by decide +kernel), List.mem_of_getElem? (i := 1343) (by decide +kernel), List.mem_of_getElem? (i := 1344) (by decide +kernel)⟩
theorem lw_p107 : lw_okq (⟨"LentHandsModel", "ring", "(II)I"⟩, 36) := ⟨⟨by decide +kernel, by decide +kernel⟩, List.mem_of_getElem? (i := 847) (by decide +kernel), List.mem_of_getElem? (i := 1351) (by decide +kernel), List.mem_of_getElem? (i := 1352) (by decide +kernel)⟩
theorem lw_p108 : lw_okq (⟨"LentHandsModel", "canDo", "(II)Z"⟩, 36) := ⟨⟨by decide +kernel, by decide +kernel⟩, List.mem_of_getElem? (i := 847) (by decide +kernel), List.mem_of_getElem? (i := 1387) (by decide +kernel), List.mem_of_getElem? (i := 1388) (by decide +kernel)⟩
theorem lw_p109 : lw_okq (⟨"LentHandsModel", "hasSkill", "(IIII)Z"⟩, 36) := ⟨⟨by decide +kernel, by decide +kernel⟩, List.mem_of_getElem? (i := 847) (by decide +kernel), List.mem_of_getElem? (i := 1391) (by decide +kernel), List.mem_of_getElem? (i := 1392) (by decide +kernel)⟩
theorem lw_p110 : lw_okq (⟨"LentHandsModel", "laysPay", "()V"⟩, 36) := ⟨⟨by decide +kernel, by decide +kernel⟩, List.mem_of_getElem? (i := 847) (by decide +kernel), List.mem_of_getElem? (i := 1399) (by decide +kernel), List.mem_of_getElem? (i := 1400) (by decide +kernel)⟩
theorem lw_p111 : lw_okq (⟨"LentHandsModel", "workerOf", "(II)I"⟩, 36) := ⟨⟨by decide +kernel, by decide +kernel⟩, List.mem_of_getElem? (i := 847) (by decide +kernel), List.mem_of_getElem? (i := 1403) (by decide +kernel), List.mem_of_getElem? (i := 1404) (by decide +kernel)⟩
def lw_privs_7 : List (MethodName × Nat) := [(⟨"LentHandsModel", "notes", "(III)V"⟩, 36), (⟨"LentHandsModel", "anHour", "(Z)I"⟩, 36), (⟨"LentHandsModel", "books", "()I"⟩, 36), (⟨"LentHandsModel", "worksOn", "(IZ)V"⟩, 36), (⟨"LentHandsModel", "works", "(IIZ)V"⟩, 36), (⟨"LentHandsModel", "taskFacts", "(IIII)V"⟩, 36), (⟨"LentHandsModel", "saysOf", "(II)I"⟩, 36), (⟨"LentHandsModel", "draw", "(I)I"⟩, 36), (⟨"LentHandsModel", "marksAll", "()V"⟩, 36), (⟨"LentHandsModel", "endsAll", "()V"⟩, 36), (⟨"LentHandsModel", "ends", "(I)V"⟩, 36), (⟨"LentHandsModel", "ring", "(II)I"⟩, 36), (⟨"LentHandsModel", "canDo", "(II)Z"⟩, 36), (⟨"LentHandsModel", "hasSkill", "(IIII)Z"⟩, 36), (⟨"LentHandsModel", "laysPay", "()V"⟩, 36), (⟨"LentHandsModel", "workerOf", "(II)I"⟩, 36)]
theorem lw_r7 : ∀ q ∈ lw_privs_7, lw_okq q := List.forall_mem_cons.mpr ⟨lw_p96, List.forall_mem_cons.mpr ⟨lw_p97, List.forall_mem_cons.mpr ⟨lw_p98, List.forall_mem_cons.mpr ⟨lw_p99, List.forall_mem_cons.mpr ⟨lw_p100, List.forall_mem_cons.mpr ⟨lw_p101, List.forall_mem_cons.mpr ⟨lw_p102, List.forall_mem_cons.mpr ⟨lw_p103, List.forall_mem_cons.mpr ⟨lw_p104, List.forall_mem_cons.mpr ⟨lw_p105, List.forall_mem_cons.mpr ⟨lw_p106, List.forall_mem_cons.mpr ⟨lw_p107, List.forall_mem_cons.mpr ⟨lw_p108, List.forall_mem_cons.mpr ⟨lw_p109, List.forall_mem_cons.mpr ⟨lw_p110, List.forall_mem_cons.mpr ⟨lw_p111, fun _ h => absurd h List.not_mem_nil⟩⟩⟩⟩⟩⟩⟩⟩⟩⟩⟩⟩⟩⟩⟩⟩
theorem lw_p112 : lw_okq (⟨"LentHandsModel", "laysAside", "()V"⟩, 36) := ⟨⟨by decide +kernel, by decide +kernel⟩, List.mem_of_getElem? (i := 847) (by decide +kernel), List.mem_of_getElem? (i := 1411) (by decide +kernel), List.mem_of_getElem? (i := 1412) (by decide +kernel)⟩
theorem lw_p113 : lw_okq (⟨"LentHandsModel", "areBack", "()Z"⟩, 36) := ⟨⟨by decide +kernel, by decide +kernel⟩, List.mem_of_getElem? (i := 847) (by decide +kernel), List.mem_of_getElem? (i := 1415) (by decide +kernel), List.mem_of_getElem? (i := 1416) (by decide +kernel)⟩
theorem lw_p114 : lw_okq (⟨"LentHandsModel", "putsBack", "()V"⟩, 36) := ⟨⟨by decide +kernel, by decide +kernel⟩, List.mem_of_getElem? (i := 847) (by decide +kernel), List.mem_of_getElem? (i := 1419) (by decide +kernel), List.mem_of_getElem? (i := 1420) (by decide +kernel)⟩
theorem lw_p115 : lw_okq (⟨"LentHandsModel", "canLearn", "(III)Z"⟩, 36) := ⟨⟨by decide +kernel, by decide +kernel⟩, List.mem_of_getElem? (i := 847) (by decide +kernel), List.mem_of_getElem? (i := 1450) (by decide +kernel), List.mem_of_getElem? (i := 1451) (by decide +kernel)⟩
theorem lw_p116 : lw_okq (⟨"LentHandsModel", "laysHours", "(III)V"⟩, 36) := ⟨⟨by decide +kernel, by decide +kernel⟩, List.mem_of_getElem? (i := 847) (by decide +kernel), List.mem_of_getElem? (i := 1454) (by decide +kernel), List.mem_of_getElem? (i := 1455) (by decide +kernel)⟩
theorem lw_p117 : lw_okq (⟨"LentHandsModel", "laysWishes", "(II)V"⟩, 36) := ⟨⟨by decide +kernel, by decide +kernel⟩, List.mem_of_getElem? (i := 847) (by decide +kernel), List.mem_of_getElem? (i := 1488) (by decide +kernel), List.mem_of_getElem? (i := 1489) (by decide +kernel)⟩
theorem lw_p118 : lw_okq (⟨"LentHandsModel", "canBy", "(IIII)Z"⟩, 36) := ⟨⟨by decide +kernel, by decide +kernel⟩, List.mem_of_getElem? (i := 847) (by decide +kernel), List.mem_of_getElem? (i := 1492) (by decide +kernel), List.mem_of_getElem? (i := 1493) (by decide +kernel)⟩
theorem lw_p119 : lw_okq (⟨"LentHandsModel", "isLent", "(II)Z"⟩, 36) := ⟨⟨by decide +kernel, by decide +kernel⟩, List.mem_of_getElem? (i := 847) (by decide +kernel), List.mem_of_getElem? (i := 1496) (by decide +kernel), List.mem_of_getElem? (i := 1497) (by decide +kernel)⟩
theorem lw_p120 : lw_okq (⟨"LentHandsModel", "inOffice", "()I"⟩, 36) := ⟨⟨by decide +kernel, by decide +kernel⟩, List.mem_of_getElem? (i := 847) (by decide +kernel), List.mem_of_getElem? (i := 1520) (by decide +kernel), List.mem_of_getElem? (i := 1521) (by decide +kernel)⟩
def lw_privs_8 : List (MethodName × Nat) := [(⟨"LentHandsModel", "laysAside", "()V"⟩, 36), (⟨"LentHandsModel", "areBack", "()Z"⟩, 36), (⟨"LentHandsModel", "putsBack", "()V"⟩, 36), (⟨"LentHandsModel", "canLearn", "(III)Z"⟩, 36), (⟨"LentHandsModel", "laysHours", "(III)V"⟩, 36), (⟨"LentHandsModel", "laysWishes", "(II)V"⟩, 36), (⟨"LentHandsModel", "canBy", "(IIII)Z"⟩, 36), (⟨"LentHandsModel", "isLent", "(II)Z"⟩, 36), (⟨"LentHandsModel", "inOffice", "()I"⟩, 36)]
theorem lw_r8 : ∀ q ∈ lw_privs_8, lw_okq q := List.forall_mem_cons.mpr ⟨lw_p112, List.forall_mem_cons.mpr ⟨lw_p113, List.forall_mem_cons.mpr ⟨lw_p114, List.forall_mem_cons.mpr ⟨lw_p115, List.forall_mem_cons.mpr ⟨lw_p116, List.forall_mem_cons.mpr ⟨lw_p117, List.forall_mem_cons.mpr ⟨lw_p118, List.forall_mem_cons.mpr ⟨lw_p119, List.forall_mem_cons.mpr ⟨lw_p120, fun _ h => absurd h List.not_mem_nil⟩⟩⟩⟩⟩⟩⟩⟩⟩
def lw_privs : List (MethodName × Nat) := lw_privs_1 ++ (lw_privs_2 ++ (lw_privs_3 ++ (lw_privs_4 ++ (lw_privs_5 ++ (lw_privs_6 ++ (lw_privs_7 ++ (lw_privs_8)))))))
def lw_tbl : List Cond := k2_sels lw_privs ++ tables_1
theorem lw_privs_ok : ∀ q ∈ lw_privs, lw_okq q := by
  show ∀ q ∈ lw_privs_1 ++ (lw_privs_2 ++ (lw_privs_3 ++ (lw_privs_4 ++ (lw_privs_5 ++ (lw_privs_6 ++ (lw_privs_7 ++ (lw_privs_8))))))), lw_okq q
  exact List.forall_mem_append.mpr ⟨lw_r1, List.forall_mem_append.mpr ⟨lw_r2, List.forall_mem_append.mpr ⟨lw_r3, List.forall_mem_append.mpr ⟨lw_r4, List.forall_mem_append.mpr ⟨lw_r5, List.forall_mem_append.mpr ⟨lw_r6, List.forall_mem_append.mpr ⟨lw_r7, lw_r8⟩⟩⟩⟩⟩⟩⟩
-- ===== end of PART A; then your names; then what follows =====
end
section
/-! THE ABSTRACT MACHINE (AM): int memory by object id and index; references are fixed ids. -/
abbrev am_V : Type := Int ⊕ Nat
abbrev am_M : Type := Nat → Int → Int
abbrev am_I : Type := Jvm.ClassFile.Instr × Nat × Nat
abbrev am_R : Type := Option (Int × am_M)
abbrev am_K : Type := Nat → List (Option am_V) → List am_V → am_M → am_R
def am_wrap (x : Int) : Int := (x + 2147483648) % 4294967296 - 2147483648
def am_upd (M : am_M) (a : Nat) (i v : Int) : am_M := fun b j => if b = a ∧ j = i then v else M b j
def am_cpy (M : am_M) (a : Nat) (i : Int) (b : Nat) (j n : Int) : am_M := fun c k => if c = b ∧ j ≤ k ∧ k < j + n then M a (i + (k - j)) else M c k
def am_idiv (x y : Int) : Int := (Int32.ofInt x / Int32.ofInt y).toInt
def am_irem (x y : Int) : Int := (Int32.ofInt x - Int32.ofInt x / Int32.ofInt y * Int32.ofInt y).toInt
def am_iand (x y : Int) : Int := (Int32.ofInt x &&& Int32.ofInt y).toInt
def am_ior (x y : Int) : Int := (Int32.ofInt x ||| Int32.ofInt y).toInt
def am_ixor (x y : Int) : Int := (Int32.ofInt x ^^^ Int32.ofInt y).toInt
def am_ishl (x y : Int) : Int := (Int32.ofInt x <<< (Int32.ofInt y &&& 31)).toInt
def am_ishr (x y : Int) : Int := (Int32.ofInt x >>> (Int32.ofInt y &&& 31)).toInt
def am_iushr (x y : Int) : Int := ((Int32.ofInt x).toUInt32 >>> ((Int32.ofInt y).toUInt32 &&& Int32.toUInt32 31)).toInt32.toInt
def am_chr (x : Int) : Int := x % 65536
def am_chk (c : Prop) [Decidable c] (x : am_R) : am_R := if c then x else none
def am_bnd (x : am_R) (f : Int → am_M → am_R) : am_R := match x with
  | some (r, M) => f r M
  | none => none
def am_br (c : Jvm.ClassFile.Cond) (x y : Int) (A B : am_R) : am_R := match c with
  | .eq => if x = y then A else B
  | .ne => if x = y then B else A
  | .lt => if x < y then A else B
  | .ge => if x < y then B else A
  | .gt => if y < x then A else B
  | .le => if y < x then B else A
def am_sw (x d : Int) (kj : Nat → am_R) : Int → List Int → am_R
  | _, [] => kj d.toNat
  | lo, t :: ts => if x = lo then kj t.toNat else am_sw x d kj (lo + 1) ts
def am_swl (x d : Int) (kj : Nat → am_R) : List (Int × Int) → am_R
  | [] => kj d.toNat
  | (v, t) :: ts => if x = v then kj t.toNat else am_swl x d kj ts
def am_kd (v : am_V) : Nat := match v with
  | .inl _ => 0
  | .inr _ => 1
/-- what a method of a small type may answer -/
def am_ret (t : Nat) (x : Int) (o : am_R) : am_R := match t with
  | 0 => o
  | 1 => am_chk (x = 0 ∨ x = 1) o
  | 2 => am_chk (0 ≤ x ∧ x < 65536) o
  | _ => am_chk (-128 ≤ x ∧ x < 128) o
def am_pv (st : List am_V) (f : am_V → List am_V → am_R) : am_R := match st with
  | v :: st => f v st
  | [] => none
def am_pi (st : List am_V) (f : Int → List am_V → am_R) : am_R := match st with
  | .inl x :: st => f x st
  | _ => none
def am_pr (st : List am_V) (f : Nat → List am_V → am_R) : am_R := match st with
  | .inr a :: st => f a st
  | _ => none
def am_lo (o : Option (Option am_V)) (f : am_V → am_R) : am_R := match o with
  | some (some v) => f v
  | _ => none
def am_vi (v : am_V) (f : Int → am_R) : am_R := match v with
  | .inl x => f x
  | .inr _ => none
def am_nil (st : List am_V) (o : am_R) : am_R := match st with
  | [] => o
  | _ :: _ => none
section AM
variable (cls : Nat → Nat) (rf : Nat → Int → Nat) (len : am_M → Nat → Int) (call : Nat → List am_V → am_M → am_R)
/-- one instruction: 'ks' goes on behind it, 'kj' at another place -/
def am_stp (i : am_I) (ls : List (Option am_V)) (st : List am_V) (M : am_M) (ks : List (Option am_V) → List am_V → am_M → am_R) (kj : Nat → List (Option am_V) → List am_V → am_M → am_R) : am_R :=
  match i with
  | (.bipush v, _, _) => ks ls (.inl v :: st) M
  | (.aload n, _, _) => ks ls (.inr n :: st) M
  | (.iload n, kd, _) => am_lo ls[n]? fun v => cond (Nat.beq (am_kd v) kd) (ks ls (v :: st) M) none
  | (.istore n, kd, _) => am_pv st fun v st => cond (Nat.beq (am_kd v) kd && Nat.blt n ls.length) (ks (ls.set n (some v)) st M) none
  | (.iinc n c, _, _) => am_lo ls[n]? fun v => am_vi v fun x => ks (ls.set n (some (.inl (am_wrap (x + c))))) st M
  | (.iadd, _, _) => am_pi st fun y st => am_pi st fun x st => ks ls (.inl (am_wrap (x + y)) :: st) M
  | (.isub, _, _) => am_pi st fun y st => am_pi st fun x st => ks ls (.inl (am_wrap (x - y)) :: st) M
  | (.imul, _, _) => am_pi st fun y st => am_pi st fun x st => ks ls (.inl (am_wrap (x * y)) :: st) M
  | (.idiv, _, _) => am_pi st fun y st => am_pi st fun x st => am_chk (¬ y = 0) (ks ls (.inl (am_idiv x y) :: st) M)
  | (.irem, _, _) => am_pi st fun y st => am_pi st fun x st => am_chk (¬ y = 0) (ks ls (.inl (am_irem x y) :: st) M)
  | (.ineg, _, _) => am_pi st fun x st => ks ls (.inl (am_wrap (-x)) :: st) M
  | (.iand, _, _) => am_pi st fun y st => am_pi st fun x st => ks ls (.inl (am_iand x y) :: st) M
  | (.ior, _, _) => am_pi st fun y st => am_pi st fun x st => ks ls (.inl (am_ior x y) :: st) M
  | (.ixor, _, _) => am_pi st fun y st => am_pi st fun x st => ks ls (.inl (am_ixor x y) :: st) M
  | (.ishl, _, _) => am_pi st fun y st => am_pi st fun x st => ks ls (.inl (am_ishl x y) :: st) M
  | (.ishr, _, _) => am_pi st fun y st => am_pi st fun x st => ks ls (.inl (am_ishr x y) :: st) M
  | (.iushr, _, _) => am_pi st fun y st => am_pi st fun x st => ks ls (.inl (am_iushr x y) :: st) M
  | (.i2c, _, _) => am_pi st fun x st => ks ls (.inl (am_chr x) :: st) M
  | (.dup, _, _) => am_pv st fun v st => ks ls (v :: v :: st) M
  | (.dup2, _, _) => am_pv st fun v st => am_pv st fun w st => ks ls (v :: w :: v :: w :: st) M
  | (.pop, _, _) => am_pv st fun _ st => ks ls st M
  | (.ifCond c t, _, _) => am_pi st fun x st => am_br c x 0 (kj t.toNat ls st M) (ks ls st M)
  | (.if_icmp c t, _, _) => am_pi st fun y st => am_pi st fun x st => am_br c x y (kj t.toNat ls st M) (ks ls st M)
  | (.goto t, _, _) => kj t.toNat ls st M
  | (.tableswitch d lo _ ts, _, _) => am_pi st fun x st => am_sw x d (fun t => kj t ls st M) lo ts.toList
  | (.lookupswitch d ts, _, _) => am_pi st fun x st => am_swl x d (fun t => kj t ls st M) ts.toList
  | (.getfield k, ci, _) => am_pr st fun a st => cond (Nat.beq (cls a) ci) (ks ls (.inl (M a k) :: st) M) none
  | (.checkcast k, ci, _) => am_pr st fun a st => cond (Nat.beq (cls a) ci) (ks ls (.inr (rf a k) :: st) M) none
  | (.putfield k, ci, b) => am_pi st fun x st => am_pr st fun a st => cond (Nat.beq (cls a) ci) (am_ret (b % 2) x (ks ls st (am_upd M a k x))) none
  | (.iaload, _, _) => am_pi st fun i st => am_pr st fun a st => cond (Nat.beq (cls a) 9 || Nat.beq (cls a) 12) (am_chk (0 ≤ i ∧ i < len M a) (ks ls (.inl (M a i) :: st) M)) none
  | (.caload, _, _) => am_pi st fun i st => am_pr st fun a st => cond (Nat.beq (cls a) 10) (am_chk (0 ≤ i ∧ i < len M a) (ks ls (.inl (M a i) :: st) M)) none
  | (.baload, _, _) => am_pi st fun i st => am_pr st fun a st => cond (Nat.beq (cls a) 13) (am_chk (0 ≤ i ∧ i < len M a) (ks ls (.inl (M a i) :: st) M)) none
  | (.aaload, _, _) => am_pi st fun i st => am_pr st fun a st => cond (Nat.beq (cls a) 11 || Nat.beq (cls a) 14) (am_chk (0 ≤ i ∧ i < len M a) (ks ls (.inr (rf a i) :: st) M)) none
  | (.iastore, _, _) => am_pi st fun x st => am_pi st fun i st => am_pr st fun a st => cond (Nat.beq (cls a) 9) (am_chk (0 ≤ i ∧ i < len M a) (ks ls st (am_upd M a i x))) none
  | (.castore, _, _) => am_pi st fun x st => am_pi st fun i st => am_pr st fun a st => cond (Nat.beq (cls a) 10) (am_chk (0 ≤ i ∧ i < len M a) (ks ls st (am_upd M a i (am_chr x)))) none
  | (.arraylength, _, _) => am_pr st fun a st => cond (Nat.ble 9 (cls a) && Nat.blt (cls a) 15) (ks ls (.inl (len M a) :: st) M) none
  -- Math.max, Math.min
  | (.ladd, _, _) => am_pi st fun y st => am_pi st fun x st => cond (Nat.ble st.length 8) (ks ls (.inl (max x y) :: st) M) none
  | (.lsub, _, _) => am_pi st fun y st => am_pi st fun x st => cond (Nat.ble st.length 8) (ks ls (.inl (min x y) :: st) M) none
  -- System.arraycopy, of int arrays
  | (.lcmp, _, _) => am_pi st fun n st => am_pi st fun j st => am_pr st fun b st => am_pi st fun i st => am_pr st fun a st => cond (Nat.beq (cls a) 9 && Nat.beq (cls b) 9) (am_chk (0 ≤ i ∧ 0 ≤ j ∧ 0 ≤ n ∧ i + n ≤ len M a ∧ j + n ≤ len M b) (am_nil st (ks ls [] (am_cpy M a i b j n)))) none
  -- a call: method, how many come off the stack, whether it answers
  | (.invokevirtual j, n, r) => cond (Nat.ble (st.drop n).length 8 && Nat.ble n st.length) (am_bnd (call j (st.take n).reverse M) fun v M' => ks ls (cond (Nat.beq (r % 2) 1) (.inl v :: st.drop n) (st.drop n)) M') none
  | (.ireturn, t, _) => am_pi st fun x st => am_nil st (am_ret t x (some (x, M)))
  | (.return_, _, _) => am_nil st (some (0, M))
  | _ => none
/-- n instructions in a row -/
def am_ex (full : List am_I) : Nat → am_K
  | 0 => fun _ _ _ _ => none
  | n + 1 => fun pc ls st M => match full[pc]? with
    | some i => am_stp cls rf len call i ls st M (am_ex full n (pc + 1)) (am_ex full n)
    | none => none
/-- as many as it takes -/
noncomputable def am_lim (full : List am_I) : am_K := fun pc ls st M => Classical.epsilon (fun o : am_R => (∃ n, am_ex cls rf len call full n pc ls st M = o ∧ o ≠ none) ∨ ((∀ n, am_ex cls rf len call full n pc ls st M = none) ∧ o = none))
/-- a run over the rest of the code until a stop, then K -/
def am_go (full : List am_I) (stops : List Nat) (K : am_K) : Nat → List am_I → am_K
  | 0, _ => K
  | n + 1, code => fun pc ls st M => match code with
    | [] => none
    | i :: code => am_stp cls rf len call i ls st M
        (fun ls st M => cond (stops.contains (pc + 1)) (K (pc + 1) ls st M) (am_go full stops K n code (pc + 1) ls st M))
        (fun t ls st M => cond (stops.contains t) (K t ls st M) (am_go full stops K n (full.drop t) t ls st M))
end AM
end
section
/-! the machine's laws: each instruction ends, or goes on at one place; the limit is a fixed point; a run until a stop -/
abbrev am_KS : Type := List (Option am_V) → List am_V → am_M → am_R
abbrev am_KJ : Type := Nat → List (Option am_V) → List am_V → am_M → am_R
def am_T3 (F : am_KS → am_KJ → am_R) : Prop := (∃ o : am_R, ∀ ks kj, F ks kj = o) ∨ (∃ l s m, ∀ ks kj, F ks kj = ks l s m) ∨ (∃ t l s m, ∀ ks kj, F ks kj = kj t l s m)
theorem am_t_c (o : am_R) : am_T3 (fun _ _ => o) := Or.inl ⟨o, fun _ _ => rfl⟩
theorem am_t_s (l : List (Option am_V)) (s : List am_V) (m : am_M) : am_T3 (fun ks _ => ks l s m) := Or.inr (Or.inl ⟨l, s, m, fun _ _ => rfl⟩)
theorem am_t_j (t : Nat) (l : List (Option am_V)) (s : List am_V) (m : am_M) : am_T3 (fun _ kj => kj t l s m) := Or.inr (Or.inr ⟨t, l, s, m, fun _ _ => rfl⟩)
theorem am_t_pv {st : List am_V} {F : am_V → List am_V → am_KS → am_KJ → am_R} (h : ∀ v st, am_T3 (F v st)) : am_T3 (fun ks kj => am_pv st fun v st => F v st ks kj) := by
  cases st with
  | nil => exact am_t_c none
  | cons v st => exact h v st
theorem am_t_pi {st : List am_V} {F : Int → List am_V → am_KS → am_KJ → am_R} (h : ∀ v st, am_T3 (F v st)) : am_T3 (fun ks kj => am_pi st fun v st => F v st ks kj) := by
  cases st with
  | nil => exact am_t_c none
  | cons v st => cases v with
    | inl x => exact h x st
    | inr x => exact am_t_c none
theorem am_t_pr {st : List am_V} {F : Nat → List am_V → am_KS → am_KJ → am_R} (h : ∀ v st, am_T3 (F v st)) : am_T3 (fun ks kj => am_pr st fun v st => F v st ks kj) := by
  cases st with
  | nil => exact am_t_c none
  | cons v st => cases v with
    | inl x => exact am_t_c none
    | inr x => exact h x st
theorem am_t_lo {o : Option (Option am_V)} {F : am_V → am_KS → am_KJ → am_R} (h : ∀ v, am_T3 (F v)) : am_T3 (fun ks kj => am_lo o fun v => F v ks kj) := by
  cases o with
  | none => exact am_t_c none
  | some o => cases o with
    | none => exact am_t_c none
    | some v => exact h v
theorem am_t_vi {v : am_V} {F : Int → am_KS → am_KJ → am_R} (h : ∀ v, am_T3 (F v)) : am_T3 (fun ks kj => am_vi v fun v => F v ks kj) := by
  cases v with
  | inl x => exact h x
  | inr x => exact am_t_c none
theorem am_t_cond {b : Bool} {F : am_KS → am_KJ → am_R} (h : am_T3 F) : am_T3 (fun ks kj => cond b (F ks kj) none) := by
  cases b with
  | true => exact h
  | false => exact am_t_c none
theorem am_t_chk {c : Prop} [hc : Decidable c] {F : am_KS → am_KJ → am_R} (h : am_T3 F) : am_T3 (fun ks kj => am_chk c (F ks kj)) := by
  cases hc with
  | isTrue q => simpa [am_chk, q] using h
  | isFalse q => simpa [am_chk, q] using am_t_c none
theorem am_t_nil {st : List am_V} {F : am_KS → am_KJ → am_R} (h : am_T3 F) : am_T3 (fun ks kj => am_nil st (F ks kj)) := by
  cases st with
  | nil => exact h
  | cons _ _ => exact am_t_c none
theorem am_t_ret {t : Nat} {x : Int} {F : am_KS → am_KJ → am_R} (h : am_T3 F) : am_T3 (fun ks kj => am_ret t x (F ks kj)) := by
  unfold am_ret
  split
  · exact h
  · exact am_t_chk h
  · exact am_t_chk h
  · exact am_t_chk h
theorem am_t_bnd {x : am_R} {F : Int → am_M → am_KS → am_KJ → am_R} (h : ∀ v M, am_T3 (F v M)) : am_T3 (fun ks kj => am_bnd x fun v M => F v M ks kj) := by
  cases x with
  | none => exact am_t_c none
  | some p => exact h p.1 p.2
theorem am_br_tri (c : Jvm.ClassFile.Cond) (x y : Int) : (∀ A B : am_R, am_br c x y A B = A) ∨ (∀ A B : am_R, am_br c x y A B = B) := by
  cases c
  · by_cases h : x = y
    · exact Or.inl fun A B => by simp [am_br, h]
    · exact Or.inr fun A B => by simp [am_br, h]
  · by_cases h : x = y
    · exact Or.inr fun A B => by simp [am_br, h]
    · exact Or.inl fun A B => by simp [am_br, h]
  · by_cases h : x < y
    · exact Or.inl fun A B => by simp [am_br, h]
    · exact Or.inr fun A B => by simp [am_br, h]
  · by_cases h : x < y
    · exact Or.inr fun A B => by simp [am_br, h]
    · exact Or.inl fun A B => by simp [am_br, h]
  · by_cases h : y < x
    · exact Or.inl fun A B => by simp [am_br, h]
    · exact Or.inr fun A B => by simp [am_br, h]
  · by_cases h : y < x
    · exact Or.inr fun A B => by simp [am_br, h]
    · exact Or.inl fun A B => by simp [am_br, h]
theorem am_t_br {c : Jvm.ClassFile.Cond} {x y : Int} {F G : am_KS → am_KJ → am_R} (h : am_T3 F) (g : am_T3 G) : am_T3 (fun ks kj => am_br c x y (F ks kj) (G ks kj)) := by
  rcases am_br_tri c x y with q | q
  · simpa only [q] using h
  · simpa only [q] using g
theorem am_t_sw {x d : Int} {F : Nat → am_KS → am_KJ → am_R} (h : ∀ t, am_T3 (F t)) : ∀ (ts : List Int) (lo : Int), am_T3 (fun ks kj => am_sw x d (fun t => F t ks kj) lo ts) := by
  intro ts
  induction ts with
  | nil => intro lo; exact h _
  | cons t ts ih =>
    intro lo
    by_cases q : x = lo
    · simpa [am_sw, q] using h t.toNat
    · simpa [am_sw, q] using ih (lo + 1)
theorem am_t_swl {x d : Int} {F : Nat → am_KS → am_KJ → am_R} (h : ∀ t, am_T3 (F t)) : ∀ (ts : List (Int × Int)), am_T3 (fun ks kj => am_swl x d (fun t => F t ks kj) ts) := by
  intro ts
  induction ts with
  | nil => exact h _
  | cons t ts ih =>
    obtain ⟨v, t⟩ := t
    by_cases q : x = v
    · simpa [am_swl, q] using h t.toNat
    · simpa [am_swl, q] using ih
section AM
variable {cls : Nat → Nat} {rf : Nat → Int → Nat} {len : am_M → Nat → Int} {call : Nat → List am_V → am_M → am_R}
theorem am_tri (i : am_I) (ls : List (Option am_V)) (st : List am_V) (M : am_M) : am_T3 (am_stp cls rf len call i ls st M) := by
  obtain ⟨i, a, b⟩ := i
  cases i <;> (first
    | exact am_t_c none
    | exact am_t_s _ _ _
    | exact am_t_j _ _ _ _
    | exact am_t_lo fun _ => am_t_cond (am_t_s _ _ _)
    | exact am_t_pv fun _ _ => am_t_s _ _ _
    | exact am_t_pv fun _ _ => am_t_cond (am_t_s _ _ _)
    | exact am_t_pv fun _ _ => am_t_pv fun _ _ => am_t_s _ _ _
    | exact am_t_lo fun _ => am_t_vi fun _ => am_t_s _ _ _
    | exact am_t_pi fun _ _ => am_t_s _ _ _
    | exact am_t_pi fun x s => am_t_c (am_nil s (am_ret a x (some (x, M))))
    | exact am_t_pi fun _ _ => am_t_pi fun _ _ => am_t_s _ _ _
    | exact am_t_pi fun _ _ => am_t_pi fun _ _ => am_t_chk (am_t_s _ _ _)
    | exact am_t_pi fun _ _ => am_t_pi fun _ _ => am_t_cond (am_t_s _ _ _)
    | exact am_t_pi fun _ _ => am_t_br (am_t_j _ _ _ _) (am_t_s _ _ _)
    | exact am_t_pi fun _ _ => am_t_pi fun _ _ => am_t_br (am_t_j _ _ _ _) (am_t_s _ _ _)
    | exact am_t_pi fun _ _ => am_t_sw (fun _ => am_t_j _ _ _ _) _ _
    | exact am_t_pi fun _ _ => am_t_swl (fun _ => am_t_j _ _ _ _) _
    | exact am_t_pr fun _ _ => am_t_cond (am_t_s _ _ _)
    | exact am_t_pi fun _ _ => am_t_pr fun _ _ => am_t_cond (am_t_ret (am_t_s _ _ _))
    | exact am_t_pi fun _ _ => am_t_pr fun _ _ => am_t_cond (am_t_chk (am_t_s _ _ _))
    | exact am_t_pi fun _ _ => am_t_pi fun _ _ => am_t_pr fun _ _ => am_t_cond (am_t_chk (am_t_s _ _ _))
    | exact am_t_pi fun _ _ => am_t_pi fun _ _ => am_t_pr fun _ _ => am_t_pi fun _ _ => am_t_pr fun _ _ => am_t_cond (am_t_chk (am_t_nil (am_t_s _ _ _)))
    | exact am_t_cond (am_t_bnd fun _ _ => am_t_s _ _ _)
    | exact am_t_c (am_nil st (some (0, M))))
theorem am_ex_succ (full : List am_I) (n pc : Nat) (ls : List (Option am_V)) (st : List am_V) (M : am_M) : am_ex cls rf len call full (n + 1) pc ls st M = match full[pc]? with
    | some i => am_stp cls rf len call i ls st M (am_ex cls rf len call full n (pc + 1)) (am_ex cls rf len call full n)
    | none => none := rfl
theorem am_ex_mono (full : List am_I) : ∀ (n : Nat) (pc : Nat) (ls : List (Option am_V)) (st : List am_V) (M : am_M) (r : Int × am_M), am_ex cls rf len call full n pc ls st M = some r → am_ex cls rf len call full (n + 1) pc ls st M = some r := by
  intro n
  induction n with
  | zero => intro pc ls st M r h; cases h
  | succ n ih =>
    intro pc ls st M r h
    rw [am_ex_succ] at h ⊢
    cases hi : full[pc]? with
    | none => rw [hi] at h; cases h
    | some i =>
      rw [hi] at h
      dsimp only at h ⊢
      rcases am_tri (cls := cls) (rf := rf) (len := len) (call := call) i ls st M with ⟨o, h1⟩ | ⟨l, s, m, h1⟩ | ⟨t, l, s, m, h1⟩
      · rw [h1] at h ⊢; exact h
      · rw [h1] at h ⊢; exact ih _ _ _ _ _ h
      · rw [h1] at h ⊢; exact ih _ _ _ _ _ h
theorem am_ex_le (full : List am_I) {n k : Nat} (hk : n ≤ k) {pc : Nat} {ls : List (Option am_V)} {st : List am_V} {M : am_M} {r : Int × am_M} (h : am_ex cls rf len call full n pc ls st M = some r) : am_ex cls rf len call full k pc ls st M = some r := by
  induction hk with
  | refl => exact h
  | step _ ih => exact am_ex_mono full _ _ _ _ _ _ ih
theorem am_lim_some (full : List am_I) {n pc : Nat} {ls : List (Option am_V)} {st : List am_V} {M : am_M} {r : Int × am_M} (h : am_ex cls rf len call full n pc ls st M = some r) : am_lim cls rf len call full pc ls st M = some r := by
  have hex : ∃ o : am_R, (∃ n, am_ex cls rf len call full n pc ls st M = o ∧ o ≠ none) ∨ ((∀ n, am_ex cls rf len call full n pc ls st M = none) ∧ o = none) := ⟨some r, Or.inl ⟨n, h, by simp⟩⟩
  have hs := Classical.epsilon_spec hex
  change (∃ n, am_ex cls rf len call full n pc ls st M = am_lim cls rf len call full pc ls st M ∧ am_lim cls rf len call full pc ls st M ≠ none) ∨ _ at hs
  rcases hs with ⟨k, h1, h2⟩ | ⟨h1, -⟩
  · cases ho : am_lim cls rf len call full pc ls st M with
    | none => exact absurd ho h2
    | some q =>
      rw [ho] at h1
      have a := am_ex_le full (Nat.le_max_left n k) h
      have b := am_ex_le full (Nat.le_max_right n k) h1
      exact b.symm.trans a
  · rw [h1 n] at h; cases h
theorem am_lim_none (full : List am_I) {pc : Nat} {ls : List (Option am_V)} {st : List am_V} {M : am_M} (h : ∀ n, am_ex cls rf len call full n pc ls st M = none) : am_lim cls rf len call full pc ls st M = none := by
  have hex : ∃ o : am_R, (∃ n, am_ex cls rf len call full n pc ls st M = o ∧ o ≠ none) ∨ ((∀ n, am_ex cls rf len call full n pc ls st M = none) ∧ o = none) := ⟨none, Or.inr ⟨h, rfl⟩⟩
  have hs := Classical.epsilon_spec hex
  change (∃ n, am_ex cls rf len call full n pc ls st M = am_lim cls rf len call full pc ls st M ∧ am_lim cls rf len call full pc ls st M ≠ none) ∨ ((∀ n, am_ex cls rf len call full n pc ls st M = none) ∧ am_lim cls rf len call full pc ls st M = none) at hs
  rcases hs with ⟨k, h1, h2⟩ | ⟨-, h2⟩
  · rw [h k] at h1; exact absurd h1.symm h2
  · exact h2
theorem am_lim_ex (full : List am_I) {pc : Nat} {ls : List (Option am_V)} {st : List am_V} {M : am_M} {r : Int × am_M} (h : am_lim cls rf len call full pc ls st M = some r) : ∃ n, am_ex cls rf len call full n pc ls st M = some r := by
  by_cases hn : ∀ n, am_ex cls rf len call full n pc ls st M = none
  · rw [am_lim_none full hn] at h; cases h
  · obtain ⟨n, hn⟩ := Classical.not_forall.mp hn
    cases ho : am_ex cls rf len call full n pc ls st M with
    | none => exact absurd ho hn
    | some q => exact ⟨n, by rw [ho]; rw [am_lim_some full ho] at h; exact h⟩
theorem am_lim_eq (full : List am_I) (pc : Nat) (ls : List (Option am_V)) (st : List am_V) (M : am_M) : am_lim cls rf len call full pc ls st M = match full[pc]? with
    | some i => am_stp cls rf len call i ls st M (am_lim cls rf len call full (pc + 1)) (am_lim cls rf len call full)
    | none => none := by
  have key : ∀ (pc2 : Nat) (l : List (Option am_V)) (s : List am_V) (m : am_M), (∀ n, am_ex cls rf len call full (n + 1) pc ls st M = am_ex cls rf len call full n pc2 l s m) → am_lim cls rf len call full pc ls st M = am_lim cls rf len call full pc2 l s m := by
    intro pc2 l s m h
    cases ho : am_lim cls rf len call full pc2 l s m with
    | none =>
      refine am_lim_none full fun n => ?_
      cases n with
      | zero => rfl
      | succ n =>
        rw [h]
        cases hq : am_ex cls rf len call full n pc2 l s m with
        | none => rfl
        | some q => rw [am_lim_some full hq] at ho; cases ho
    | some q =>
      obtain ⟨n, hn⟩ := am_lim_ex full ho
      exact am_lim_some full (n := n + 1) (by rw [h, hn])
  cases hi : full[pc]? with
  | none =>
    refine am_lim_none full fun n => ?_
    cases n with
    | zero => rfl
    | succ n => rw [am_ex_succ, hi]
  | some i =>
    dsimp only
    rcases am_tri (cls := cls) (rf := rf) (len := len) (call := call) i ls st M with ⟨o, h1⟩ | ⟨l, s, m, h1⟩ | ⟨t, l, s, m, h1⟩
    · rw [h1]
      cases o with
      | none =>
        refine am_lim_none full fun n => ?_
        cases n with
        | zero => rfl
        | succ n => rw [am_ex_succ, hi]; exact h1 _ _
      | some q => exact am_lim_some full (n := 1) (by rw [am_ex_succ, hi]; exact h1 _ _)
    · rw [h1]; exact key _ _ _ _ fun n => by rw [am_ex_succ, hi]; exact h1 _ _
    · rw [h1]; exact key _ _ _ _ fun n => by rw [am_ex_succ, hi]; exact h1 _ _
theorem am_go_eq (full : List am_I) (stops : List Nat) : ∀ (n : Nat) (pc : Nat) (ls : List (Option am_V)) (st : List am_V) (M : am_M), am_lim cls rf len call full pc ls st M = am_go cls rf len call full stops (am_lim cls rf len call full) n (full.drop pc) pc ls st M := by
  intro n
  induction n with
  | zero => intro pc ls st M; rfl
  | succ n ih =>
    intro pc ls st M
    rw [am_lim_eq]
    by_cases hpc : pc < full.length
    · have e1 : full[pc]? = some full[pc] := List.getElem?_eq_getElem hpc
      have e2 : full.drop pc = full[pc] :: full.drop (pc + 1) := List.drop_eq_getElem_cons hpc
      rw [e1, e2]
      have f1 : (am_lim cls rf len call full (pc + 1)) = (fun ls st M => cond (stops.contains (pc + 1)) (am_lim cls rf len call full (pc + 1) ls st M) (am_go cls rf len call full stops (am_lim cls rf len call full) n (full.drop (pc + 1)) (pc + 1) ls st M)) := by
        funext ls st M
        cases stops.contains (pc + 1) with
        | true => rfl
        | false => exact ih _ _ _ _
      have f2 : (am_lim cls rf len call full) = (fun t ls st M => cond (stops.contains t) (am_lim cls rf len call full t ls st M) (am_go cls rf len call full stops (am_lim cls rf len call full) n (full.drop t) t ls st M)) := by
        funext t ls st M
        cases stops.contains t with
        | true => rfl
        | false => exact ih _ _ _ _
      exact congr (congrArg (fun a b => am_stp cls rf len call full[pc] ls st M a b) f1) f2
    · have e1 : full[pc]? = none := List.getElem?_eq_none (by omega)
      have e2 : full.drop pc = [] := List.drop_eq_nil_iff.mpr (by omega)
      rw [e1, e2]
      rfl
end AM
end
section
/-! printed by wip/whole/gencode.py: the shapes of the objects and the code of the methods as the abstract machine has them -/
def am_cls (a : Nat) : Nat := cond (Nat.ble a 255) ((179769313486231590772930519078902473361797697894230657273430081070334843933383891165801933326331340218429157671542650409585496984823844235620329433602035569095039030305970479147687266314317836266207436331805168674572069381303375511345285948818957566587209631357707937870120637875637052942999523220825006774614 >>> (4 * a)) % 16) (cond (Nat.ble a 299) 15 (cond (Nat.ble a 335) 8 (cond (Nat.ble a 399) 15 (cond (Nat.ble a 435) 13 15))))
def am_len (M : am_M) (a : Nat) : Int := cond (Nat.beq a 203) (M 203 (-1)) (cond (Nat.ble a 255) (Int.ofNat ((25472634705001610365503975763847407462431358659330430687285813822787500707087462561327572941479277022703725405113186521850046497968707925199291606922795782969918254849260463396383613511519856995411011764007206315972716726619420808300261886539532111662033231629996037412690585792576372793900968353696341299964331861893384127453378531146338484882865598763880356092363748484695840021258698541078105163775511766180972335443273439379881453503250250469713475278574046265469670992506702472621299397647739615471101092321171748107704819263852874961614308642820916142052082872471951272290004607459759072275427322267176582539144285530070582694098464344648065499760796549546138527255197513268890713153326428972883701392421048128615725872248344478559151636778651114767924089013592111351971308368601821201260176069290646721510416517299603031553815850047008407878295900823061992189527063906257551711206263403701368167232294856868191319705013983249022357553851232131300078220304754210242560 >>> (16 * a)) % 65536)) (Int.ofNat ((15096080047187276054657970307190210016378468856136529043399922460800996450959429416199807270629814231654707320107593319868589116544136870946445603456292292774573990215849 >>> (16 * (a - 400))) % 65536)))
def am_rf (a : Nat) (k : Int) : Nat := match am_cls a with
  | 0 => a + (k.toNat + 1)
  | 1 => a + (k.toNat - 1)
  | 2 => ([93, 94, 95, 0, 0, 0, 0, 0, 96, 102] : List Nat).getD k.toNat 0
  | 3 => a + k.toNat
  | 4 => a + ([1, 2, 4] : List Nat).getD k.toNat 0
  | 5 => a + (k.toNat - 4)
  | 6 => ([1, 14, 27, 0, 0, 28, 52, 53, 66, 90, 0, 91, 0, 92, 104, 107] : List Nat).getD k.toNat 0
  | 7 => ([187, 188, 189, 190, 0, 0, 191, 192, 193, 194, 195, 196, 0, 0, 0, 0, 0, 0, 0, 0, 0, 0, 0, 0, 0, 0, 0, 0, 0, 197, 198] : List Nat).getD k.toNat 0
  | 8 => a + 100
  | 11 => 108 + 13 * k.toNat
  | 14 => a + 5 + 6 * k.toNat
  | _ => 0
/-- LentHandsModel.isIn(III)Z -/
def am_c0 : List am_I := [(.iload 0, 0, 0), (.iload 1, 0, 0), (.if_icmp .lt 8, 0, 0), (.iload 0, 0, 0), (.iload 2, 0, 0), (.if_icmp .gt 8, 0, 0), (.bipush 1, 0, 0), (.goto 9, 0, 0), (.bipush 0, 0, 0), (.ireturn, 1, 0)]
/-- LentHandsModel.lesser(II)I -/
def am_c1 : List am_I := [(.iload 0, 0, 0), (.iload 1, 0, 0), (.if_icmp .ge 5, 0, 0), (.iload 0, 0, 0), (.goto 6, 0, 0), (.iload 1, 0, 0), (.ireturn, 0, 0)]
/-- LentHandsModel.greater(II)I -/
def am_c2 : List am_I := [(.iload 0, 0, 0), (.iload 1, 0, 0), (.if_icmp .le 5, 0, 0), (.iload 0, 0, 0), (.goto 6, 0, 0), (.iload 1, 0, 0), (.ireturn, 0, 0)]
/-- LentHandsModel.ofPerson(II)I -/
def am_c3 : List am_I := [(.iload 0, 1, 0), (.checkcast 0, 7, 7), (.bipush 4, 0, 0), (.bipush 4, 0, 0), (.iload 1, 0, 0), (.imul, 0, 0), (.iadd, 0, 0), (.iload 2, 0, 0), (.iadd, 0, 0), (.iaload, 0, 0), (.ireturn, 0, 0)]
/-- LentHandsModel.persons(III)V -/
def am_c4 : List am_I := [(.iload 0, 1, 0), (.checkcast 0, 7, 7), (.bipush 4, 0, 0), (.bipush 4, 0, 0), (.iload 1, 0, 0), (.imul, 0, 0), (.iadd, 0, 0), (.iload 2, 0, 0), (.iadd, 0, 0), (.iload 3, 0, 0), (.iastore, 0, 0), (.return_, 0, 0)]
/-- LentHandsModel.ofHand(II)I -/
def am_c5 : List am_I := [(.iload 0, 1, 0), (.checkcast 0, 7, 7), (.bipush 36, 1, 0), (.bipush 10, 1, 0), (.iload 1, 0, 0), (.imul, 0, 0), (.iadd, 0, 0), (.iload 2, 0, 0), (.iadd, 0, 0), (.iaload, 0, 0), (.ireturn, 0, 0)]
/-- LentHandsModel.hands(III)V -/
def am_c6 : List am_I := [(.iload 0, 1, 0), (.checkcast 0, 7, 7), (.bipush 36, 1, 0), (.bipush 10, 1, 0), (.iload 1, 0, 0), (.imul, 0, 0), (.iadd, 0, 0), (.iload 2, 0, 0), (.iadd, 0, 0), (.iload 3, 0, 0), (.iastore, 0, 0), (.return_, 0, 0)]
/-- LentHandsModel.ofLoan(II)I -/
def am_c7 : List am_I := [(.iload 0, 1, 0), (.checkcast 0, 7, 7), (.bipush 196, 2, 0), (.bipush 5, 0, 0), (.iload 1, 0, 0), (.imul, 0, 0), (.iadd, 0, 0), (.iload 2, 0, 0), (.iadd, 0, 0), (.iaload, 0, 0), (.ireturn, 0, 0)]
/-- LentHandsModel.isPerson(I)Z -/
def am_c8 : List am_I := [(.iload 1, 0, 0), (.bipush 0, 0, 0), (.iload 0, 1, 0), (.checkcast 0, 7, 7), (.bipush 276, 2, 0), (.iaload, 0, 0), (.bipush 1, 0, 0), (.isub, 0, 0), (.invokevirtual 0, 3, 101), (.ireturn, 1, 0)]
/-- LentHandsModel.isHand(I)Z -/
def am_c9 : List am_I := [(.iload 1, 0, 0), (.bipush 0, 0, 0), (.bipush 2, 0, 0), (.iload 0, 1, 0), (.checkcast 0, 7, 7), (.bipush 276, 2, 0), (.iaload, 0, 0), (.imul, 0, 0), (.bipush 1, 0, 0), (.isub, 0, 0), (.invokevirtual 0, 3, 101), (.ireturn, 1, 0)]
/-- LentHandsModel.isKind(I)Z -/
def am_c10 : List am_I := [(.iload 0, 0, 0), (.bipush 0, 0, 0), (.bipush 3, 0, 0), (.invokevirtual 0, 3, 101), (.ireturn, 1, 0)]
/-- LentHandsModel.isSide(I)Z -/
def am_c11 : List am_I := [(.iload 0, 0, 0), (.bipush 0, 0, 0), (.bipush 1, 0, 0), (.invokevirtual 0, 3, 101), (.ireturn, 1, 0)]
/-- LentHandsModel.onWrist(II)I -/
def am_c12 : List am_I := [(.iload 2, 0, 0), (.istore 3, 0, 0), (.iload 3, 0, 0), (.bipush 2, 0, 0), (.iload 0, 1, 0), (.checkcast 0, 7, 7), (.bipush 276, 2, 0), (.iaload, 0, 0), (.imul, 0, 0), (.if_icmp .ge 20, 0, 0), (.iload 0, 1, 0), (.iload 3, 0, 0), (.bipush 8, 1, 0), (.invokevirtual 5, 3, 109), (.iload 1, 0, 0), (.if_icmp .ne 18, 0, 0), (.iload 3, 0, 0), (.ireturn, 0, 0), (.iinc 3 2, 0, 0), (.goto 2, 0, 0), (.bipush (-1), 0, 0), (.ireturn, 0, 0)]
/-- LentHandsModel.bornWith(I)I -/
def am_c13 : List am_I := [(.iload 0, 0, 0), (.bipush 2, 0, 0), (.idiv, 0, 0), (.ireturn, 0, 0)]
/-- LentHandsModel.forgets()V -/
def am_c14 : List am_I := [(.iload 0, 1, 0), (.bipush 0, 0, 0), (.putfield 4, 7, 116), (.return_, 0, 0)]
/-- LentHandsModel.state(I)I -/
def am_c15 : List am_I := [(.iload 0, 1, 0), (.checkcast 0, 7, 7), (.bipush 3, 0, 0), (.iaload, 0, 0), (.istore 2, 0, 0), (.iload 0, 1, 0), (.checkcast 0, 7, 7), (.bipush 3, 0, 0), (.iload 1, 0, 0), (.iastore, 0, 0), (.iload 0, 1, 0), (.invokevirtual 14, 1, 122), (.iload 2, 0, 0), (.ireturn, 0, 0)]
/-- LentHandsModel.draw(I)I -/
def am_c16 : List am_I := [(.iload 0, 1, 0), (.checkcast 0, 7, 7), (.bipush 3, 0, 0), (.bipush 1664525, 3, 64), (.iload 0, 1, 0), (.checkcast 0, 7, 7), (.bipush 3, 0, 0), (.iaload, 0, 0), (.imul, 0, 0), (.bipush 1013904223, 3, 65), (.iadd, 0, 0), (.iastore, 0, 0), (.iload 0, 1, 0), (.checkcast 0, 7, 7), (.bipush 3, 0, 0), (.iaload, 0, 0), (.bipush 8, 1, 0), (.iushr, 0, 0), (.iload 1, 0, 0), (.irem, 0, 0), (.ireturn, 0, 0)]
/-- LentHandsModel.person(II)I -/
def am_c17 : List am_I := [(.iload 1, 0, 0), (.bipush 0, 0, 0), (.bipush 9999, 2, 0), (.invokevirtual 0, 3, 101), (.ifCond .eq 16, 0, 0), (.iload 2, 0, 0), (.bipush 0, 0, 0), (.bipush 1, 0, 0), (.invokevirtual 0, 3, 101), (.ifCond .eq 16, 0, 0), (.iload 0, 1, 0), (.checkcast 0, 7, 7), (.bipush 276, 2, 0), (.iaload, 0, 0), (.bipush 8, 1, 0), (.if_icmp .ne 18, 0, 0), (.bipush (-1), 0, 0), (.ireturn, 0, 0), (.iload 0, 1, 0), (.checkcast 0, 7, 7), (.bipush 276, 2, 0), (.iaload, 0, 0), (.istore 3, 0, 0), (.iload 0, 1, 0), (.iload 3, 0, 0), (.bipush 0, 0, 0), (.iload 1, 0, 0), (.invokevirtual 4, 4, 132), (.iload 0, 1, 0), (.iload 3, 0, 0), (.bipush 1, 0, 0), (.bipush (-1), 0, 0), (.invokevirtual 4, 4, 132), (.iload 0, 1, 0), (.iload 3, 0, 0), (.bipush 2, 0, 0), (.bipush 0, 0, 0), (.invokevirtual 4, 4, 132), (.iload 0, 1, 0), (.checkcast 0, 7, 7), (.bipush 277, 2, 0), (.iload 3, 0, 0), (.iadd, 0, 0), (.iload 2, 0, 0), (.iastore, 0, 0), (.bipush 2, 0, 0), (.iload 3, 0, 0), (.imul, 0, 0), (.istore 4, 0, 1), (.iload 4, 0, 1), (.bipush 2, 0, 0), (.iload 3, 0, 0), (.imul, 0, 0), (.bipush 2, 0, 0), (.iadd, 0, 0), (.if_icmp .ge 75, 0, 0), (.bipush 0, 0, 0), (.istore 5, 0, 1), (.iload 5, 0, 1), (.bipush 10, 1, 0), (.if_icmp .ge 68, 0, 0), (.iload 0, 1, 0), (.iload 4, 0, 1), (.iload 5, 0, 1), (.bipush 0, 0, 0), (.invokevirtual 6, 4, 140), (.iinc 5 1, 0, 0), (.goto 58, 0, 0), (.iload 0, 1, 0), (.iload 4, 0, 1), (.bipush 8, 1, 0), (.iload 3, 0, 0), (.invokevirtual 6, 4, 140), (.iinc 4 1, 0, 0), (.goto 49, 0, 0), (.iload 0, 1, 0), (.checkcast 0, 7, 7), (.bipush 276, 2, 0), (.dup2, 0, 0), (.iaload, 0, 0), (.bipush 1, 0, 0), (.iadd, 0, 0), (.iastore, 0, 0), (.iload 0, 1, 0), (.invokevirtual 14, 1, 122), (.iload 3, 0, 0), (.ireturn, 0, 0)]
/-- LentHandsModel.set(III)Z -/
def am_c18 : List am_I := [(.iload 1, 0, 0), (.ifCond .ne 17, 0, 0), (.iload 0, 1, 0), (.iload 2, 0, 0), (.invokevirtual 8, 2, 147), (.ifCond .eq 17, 0, 0), (.iload 3, 0, 0), (.bipush 0, 0, 0), (.bipush 9999, 2, 0), (.invokevirtual 0, 3, 101), (.ifCond .eq 17, 0, 0), (.iload 0, 1, 0), (.iload 2, 0, 0), (.bipush 0, 0, 0), (.iload 3, 0, 0), (.invokevirtual 4, 4, 132), (.goto 79, 0, 0), (.iload 1, 0, 0), (.bipush 1, 0, 0), (.if_icmp .ne 37, 0, 0), (.iload 0, 1, 0), (.iload 2, 0, 0), (.invokevirtual 8, 2, 147), (.ifCond .eq 37, 0, 0), (.iload 3, 0, 0), (.bipush 0, 0, 0), (.bipush 1, 0, 0), (.invokevirtual 0, 3, 101), (.ifCond .eq 37, 0, 0), (.iload 0, 1, 0), (.checkcast 0, 7, 7), (.bipush 277, 2, 0), (.iload 2, 0, 0), (.iadd, 0, 0), (.iload 3, 0, 0), (.iastore, 0, 0), (.goto 79, 0, 0), (.iload 1, 0, 0), (.bipush 2, 0, 0), (.bipush 6, 1, 0), (.invokevirtual 0, 3, 101), (.ifCond .eq 59, 0, 0), (.iload 0, 1, 0), (.iload 2, 0, 0), (.invokevirtual 9, 2, 155), (.ifCond .eq 59, 0, 0), (.iload 3, 0, 0), (.bipush 0, 0, 0), (.bipush 99, 1, 0), (.invokevirtual 0, 3, 101), (.ifCond .eq 59, 0, 0), (.iload 0, 1, 0), (.iload 2, 0, 0), (.iload 1, 0, 0), (.bipush 2, 0, 0), (.isub, 0, 0), (.iload 3, 0, 0), (.invokevirtual 6, 4, 140), (.goto 79, 0, 0), (.iload 1, 0, 0), (.bipush 7, 1, 0), (.if_icmp .ne 77, 0, 0), (.iload 0, 1, 0), (.iload 2, 0, 0), (.invokevirtual 9, 2, 155), (.ifCond .eq 77, 0, 0), (.iload 3, 0, 0), (.bipush 0, 0, 0), (.bipush 9, 1, 0), (.invokevirtual 0, 3, 101), (.ifCond .eq 77, 0, 0), (.iload 0, 1, 0), (.iload 2, 0, 0), (.bipush 5, 0, 0), (.iload 3, 0, 0), (.invokevirtual 6, 4, 140), (.goto 79, 0, 0), (.bipush 0, 0, 0), (.ireturn, 1, 0), (.iload 0, 1, 0), (.invokevirtual 14, 1, 122), (.bipush 1, 0, 0), (.ireturn, 1, 0)]
/-- LentHandsModel.feed(IIIII)I -/
def am_c19 : List am_I := [(.iload 0, 1, 0), (.getfield 16, 7, 80), (.bipush 20, 1, 0), (.iadd, 0, 0), (.bipush 400, 2, 0), (.if_icmp .le 8, 0, 0), (.bipush (-1), 0, 0), (.ireturn, 0, 0), (.bipush 0, 0, 0), (.istore 6, 0, 1), (.iload 6, 0, 1), (.bipush 20, 1, 0), (.if_icmp .ge 59, 0, 0), (.iload 6, 0, 1), (.bipush 4, 0, 0), (.if_icmp .ge 18, 0, 0), (.iload 1, 0, 0), (.goto 34, 0, 0), (.iload 6, 0, 1), (.bipush 8, 1, 0), (.if_icmp .ge 23, 0, 0), (.iload 2, 0, 0), (.goto 34, 0, 0), (.iload 6, 0, 1), (.bipush 12, 1, 0), (.if_icmp .ge 28, 0, 0), (.iload 3, 0, 0), (.goto 34, 0, 0), (.iload 6, 0, 1), (.bipush 16, 1, 0), (.if_icmp .ge 33, 0, 0), (.iload 4, 0, 1), (.goto 34, 0, 0), (.iload 5, 0, 1), (.istore 7, 0, 1), (.iload 0, 1, 0), (.checkcast 9, 7, 31), (.iload 0, 1, 0), (.getfield 16, 7, 80), (.iload 7, 0, 1), (.bipush 24, 1, 0), (.bipush 8, 1, 0), (.iload 6, 0, 1), (.bipush 4, 0, 0), (.irem, 0, 0), (.imul, 0, 0), (.isub, 0, 0), (.ishr, 0, 0), (.bipush 255, 2, 0), (.iand, 0, 0), (.iastore, 0, 0), (.iload 0, 1, 0), (.dup, 0, 0), (.getfield 16, 7, 80), (.bipush 1, 0, 0), (.iadd, 0, 0), (.putfield 16, 7, 160), (.iinc 6 1, 0, 0), (.goto 10, 0, 0), (.iload 0, 1, 0), (.getfield 16, 7, 80), (.ireturn, 0, 0)]
/-- LentHandsModel.end(I)Z -/
def am_c20 : List am_I := [(.iload 1, 0, 0), (.bipush 0, 0, 0), (.iload 0, 1, 0), (.getfield 16, 7, 80), (.invokevirtual 0, 3, 101), (.ifCond .ne 8, 0, 0), (.bipush 0, 0, 0), (.ireturn, 1, 0), (.iload 0, 1, 0), (.iload 1, 0, 0), (.putfield 16, 7, 160), (.bipush 1, 0, 0), (.ireturn, 1, 0)]
/-- LentHandsModel.see(I)I -/
def am_c21 : List am_I := [(.iload 1, 0, 0), (.iload 0, 1, 0), (.getfield 16, 7, 80), (.if_icmp .ge 9, 0, 0), (.iload 0, 1, 0), (.checkcast 9, 7, 31), (.iload 1, 0, 0), (.iaload, 0, 0), (.goto 10, 0, 0), (.bipush (-1), 0, 0), (.ireturn, 0, 0)]
/-- LentHandsModel.isLetter(I)Z -/
def am_c22 : List am_I := [(.iload 0, 0, 0), (.bipush 97, 1, 0), (.bipush 122, 1, 0), (.invokevirtual 0, 3, 101), (.ifCond .ne 10, 0, 0), (.iload 0, 0, 0), (.bipush 65, 1, 0), (.bipush 90, 1, 0), (.invokevirtual 0, 3, 101), (.ifCond .eq 12, 0, 0), (.bipush 1, 0, 0), (.goto 13, 0, 0), (.bipush 0, 0, 0), (.ireturn, 1, 0)]
/-- LentHandsModel.isDigit(I)Z -/
def am_c23 : List am_I := [(.iload 0, 0, 0), (.bipush 48, 1, 0), (.bipush 57, 1, 0), (.invokevirtual 0, 3, 101), (.ireturn, 1, 0)]
/-- LentHandsModel.is(Ljava/lang/String;)Z -/
def am_c24 : List am_I := [(.iload 0, 1, 0), (.getfield 17, 7, 83), (.iload 0, 1, 0), (.getfield 19, 7, 86), (.isub, 0, 0), (.iload 1, 1, 0), (.invokevirtual 256, 1, 179), (.if_icmp .ne 10, 0, 0), (.bipush 1, 0, 0), (.goto 11, 0, 0), (.bipush 0, 0, 0), (.istore 2, 0, 0), (.bipush 0, 0, 0), (.istore 3, 0, 0), (.iload 3, 0, 0), (.iload 1, 1, 0), (.invokevirtual 256, 1, 179), (.if_icmp .ge 37, 0, 0), (.iload 2, 0, 0), (.ifCond .eq 37, 0, 0), (.iload 0, 1, 0), (.checkcast 9, 7, 31), (.iload 0, 1, 0), (.getfield 19, 7, 86), (.iload 3, 0, 0), (.iadd, 0, 0), (.iaload, 0, 0), (.iload 1, 1, 0), (.iload 3, 0, 0), (.invokevirtual 257, 2, 191), (.if_icmp .ne 33, 0, 0), (.bipush 1, 0, 0), (.goto 34, 0, 0), (.bipush 0, 0, 0), (.istore 2, 0, 0), (.iinc 3 1, 0, 0), (.goto 14, 0, 0), (.iload 2, 0, 0), (.ireturn, 1, 0)]
/-- LentHandsModel.handName()I -/
def am_c25 : List am_I := [(.iload 0, 1, 0), (.aload 321, 0, 99), (.invokevirtual 24, 2, 203), (.ifCond .eq 6, 0, 0), (.bipush 41, 1, 0), (.ireturn, 0, 0), (.iload 0, 1, 0), (.aload 322, 0, 105), (.invokevirtual 24, 2, 203), (.ifCond .eq 12, 0, 0), (.bipush 44, 1, 0), (.ireturn, 0, 0), (.iload 0, 1, 0), (.aload 323, 0, 107), (.invokevirtual 24, 2, 203), (.ifCond .eq 18, 0, 0), (.bipush 48, 1, 0), (.ireturn, 0, 0), (.iload 0, 1, 0), (.aload 324, 0, 109), (.invokevirtual 24, 2, 203), (.ifCond .eq 24, 0, 0), (.bipush 49, 1, 0), (.goto 25, 0, 0), (.bipush 1, 0, 0), (.ireturn, 0, 0)]
/-- LentHandsModel.loanWord()I -/
def am_c26 : List am_I := [(.iload 0, 1, 0), (.aload 314, 0, 111), (.invokevirtual 24, 2, 203), (.ifCond .eq 6, 0, 0), (.bipush 20, 1, 0), (.ireturn, 0, 0), (.iload 0, 1, 0), (.aload 315, 0, 113), (.invokevirtual 24, 2, 203), (.ifCond .eq 12, 0, 0), (.bipush 21, 1, 0), (.ireturn, 0, 0), (.iload 0, 1, 0), (.aload 316, 0, 115), (.invokevirtual 24, 2, 203), (.ifCond .eq 18, 0, 0), (.bipush 42, 1, 0), (.ireturn, 0, 0), (.iload 0, 1, 0), (.aload 317, 0, 117), (.invokevirtual 24, 2, 203), (.ifCond .eq 24, 0, 0), (.bipush 43, 1, 0), (.ireturn, 0, 0), (.iload 0, 1, 0), (.aload 318, 0, 119), (.invokevirtual 24, 2, 203), (.ifCond .eq 30, 0, 0), (.bipush 45, 1, 0), (.ireturn, 0, 0), (.iload 0, 1, 0), (.aload 305, 0, 121), (.invokevirtual 24, 2, 203), (.ifCond .eq 36, 0, 0), (.bipush 46, 1, 0), (.ireturn, 0, 0), (.iload 0, 1, 0), (.aload 319, 0, 123), (.invokevirtual 24, 2, 203), (.ifCond .eq 42, 0, 0), (.bipush 47, 1, 0), (.ireturn, 0, 0), (.iload 0, 1, 0), (.aload 320, 0, 125), (.invokevirtual 24, 2, 203), (.ifCond .eq 48, 0, 0), (.bipush 50, 1, 0), (.goto 50, 0, 0), (.iload 0, 1, 0), (.invokevirtual 25, 1, 255), (.ireturn, 0, 0)]
/-- LentHandsModel.handWord()I -/
def am_c27 : List am_I := [(.iload 0, 1, 0), (.aload 325, 0, 130), (.invokevirtual 24, 2, 203), (.ifCond .eq 6, 0, 0), (.bipush 26, 1, 0), (.ireturn, 0, 0), (.iload 0, 1, 0), (.aload 326, 0, 132), (.invokevirtual 24, 2, 203), (.ifCond .eq 12, 0, 0), (.bipush 27, 1, 0), (.ireturn, 0, 0), (.iload 0, 1, 0), (.aload 327, 0, 134), (.invokevirtual 24, 2, 203), (.ifCond .eq 18, 0, 0), (.bipush 28, 1, 0), (.ireturn, 0, 0), (.iload 0, 1, 0), (.aload 328, 0, 136), (.invokevirtual 24, 2, 203), (.ifCond .eq 24, 0, 0), (.bipush 29, 1, 0), (.ireturn, 0, 0), (.iload 0, 1, 0), (.aload 329, 0, 138), (.invokevirtual 24, 2, 203), (.ifCond .eq 30, 0, 0), (.bipush 51, 1, 0), (.ireturn, 0, 0), (.iload 0, 1, 0), (.aload 317, 0, 117), (.invokevirtual 24, 2, 203), (.ifCond .eq 36, 0, 0), (.bipush 43, 1, 0), (.ireturn, 0, 0), (.iload 0, 1, 0), (.aload 330, 0, 140), (.invokevirtual 24, 2, 203), (.ifCond .eq 42, 0, 0), (.bipush 52, 1, 0), (.ireturn, 0, 0), (.iload 0, 1, 0), (.aload 331, 0, 142), (.invokevirtual 24, 2, 203), (.ifCond .eq 48, 0, 0), (.bipush 53, 1, 0), (.ireturn, 0, 0), (.iload 0, 1, 0), (.aload 332, 0, 144), (.invokevirtual 24, 2, 203), (.ifCond .eq 54, 0, 0), (.bipush 54, 1, 0), (.goto 56, 0, 0), (.iload 0, 1, 0), (.invokevirtual 25, 1, 255), (.ireturn, 0, 0)]
/-- LentHandsModel.guiltWord()I -/
def am_c28 : List am_I := [(.iload 0, 1, 0), (.aload 333, 0, 146), (.invokevirtual 24, 2, 203), (.ifCond .eq 6, 0, 0), (.bipush 22, 1, 0), (.ireturn, 0, 0), (.iload 0, 1, 0), (.aload 334, 0, 148), (.invokevirtual 24, 2, 203), (.ifCond .eq 12, 0, 0), (.bipush 23, 1, 0), (.ireturn, 0, 0), (.iload 0, 1, 0), (.aload 309, 0, 150), (.invokevirtual 24, 2, 203), (.ifCond .eq 18, 0, 0), (.bipush 24, 1, 0), (.ireturn, 0, 0), (.iload 0, 1, 0), (.aload 335, 0, 152), (.invokevirtual 24, 2, 203), (.ifCond .eq 24, 0, 0), (.bipush 25, 1, 0), (.ireturn, 0, 0), (.iload 0, 1, 0), (.aload 316, 0, 115), (.invokevirtual 24, 2, 203), (.ifCond .eq 30, 0, 0), (.bipush 42, 1, 0), (.ireturn, 0, 0), (.iload 0, 1, 0), (.aload 330, 0, 140), (.invokevirtual 24, 2, 203), (.ifCond .eq 36, 0, 0), (.bipush 52, 1, 0), (.ireturn, 0, 0), (.iload 0, 1, 0), (.aload 305, 0, 121), (.invokevirtual 24, 2, 203), (.ifCond .eq 42, 0, 0), (.bipush 46, 1, 0), (.goto 44, 0, 0), (.iload 0, 1, 0), (.invokevirtual 25, 1, 255), (.ireturn, 0, 0)]
/-- LentHandsModel.bookingWord()I -/
def am_c29 : List am_I := [(.iload 0, 1, 0), (.aload 301, 0, 154), (.invokevirtual 24, 2, 203), (.ifCond .eq 6, 0, 0), (.bipush 7, 1, 0), (.ireturn, 0, 0), (.iload 0, 1, 0), (.aload 302, 0, 156), (.invokevirtual 24, 2, 203), (.ifCond .eq 12, 0, 0), (.bipush 8, 1, 0), (.ireturn, 0, 0), (.iload 0, 1, 0), (.aload 303, 0, 158), (.invokevirtual 24, 2, 203), (.ifCond .eq 18, 0, 0), (.bipush 9, 1, 0), (.ireturn, 0, 0), (.iload 0, 1, 0), (.aload 304, 0, 159), (.invokevirtual 24, 2, 203), (.ifCond .eq 24, 0, 0), (.bipush 10, 1, 0), (.ireturn, 0, 0), (.iload 0, 1, 0), (.aload 305, 0, 121), (.invokevirtual 24, 2, 203), (.ifCond .eq 30, 0, 0), (.bipush 11, 1, 0), (.goto 31, 0, 0), (.bipush 1, 0, 0), (.ireturn, 0, 0)]
/-- LentHandsModel.workWord()I -/
def am_c30 : List am_I := [(.iload 0, 1, 0), (.aload 306, 0, 161), (.invokevirtual 24, 2, 203), (.ifCond .eq 6, 0, 0), (.bipush 12, 1, 0), (.ireturn, 0, 0), (.iload 0, 1, 0), (.aload 307, 0, 163), (.invokevirtual 24, 2, 203), (.ifCond .eq 12, 0, 0), (.bipush 13, 1, 0), (.ireturn, 0, 0), (.iload 0, 1, 0), (.aload 308, 0, 165), (.invokevirtual 24, 2, 203), (.ifCond .eq 18, 0, 0), (.bipush 14, 1, 0), (.ireturn, 0, 0), (.iload 0, 1, 0), (.aload 309, 0, 150), (.invokevirtual 24, 2, 203), (.ifCond .eq 24, 0, 0), (.bipush 24, 1, 0), (.goto 25, 0, 0), (.bipush 1, 0, 0), (.ireturn, 0, 0)]
/-- LentHandsModel.word()I -/
def am_c31 : List am_I := [(.iload 0, 1, 0), (.getfield 12, 7, 167), (.bipush 3, 0, 0), (.if_icmp .ne 7, 0, 0), (.iload 0, 1, 0), (.invokevirtual 29, 1, 341), (.ireturn, 0, 0), (.iload 0, 1, 0), (.getfield 12, 7, 167), (.bipush 4, 0, 0), (.if_icmp .ne 14, 0, 0), (.iload 0, 1, 0), (.invokevirtual 30, 1, 347), (.ireturn, 0, 0), (.iload 0, 1, 0), (.aload 310, 0, 176), (.invokevirtual 24, 2, 203), (.ifCond .eq 20, 0, 0), (.bipush 3, 0, 0), (.ireturn, 0, 0), (.iload 0, 1, 0), (.aload 311, 0, 178), (.invokevirtual 24, 2, 203), (.ifCond .eq 26, 0, 0), (.bipush 4, 0, 0), (.ireturn, 0, 0), (.iload 0, 1, 0), (.aload 312, 0, 180), (.invokevirtual 24, 2, 203), (.ifCond .eq 32, 0, 0), (.bipush 5, 0, 0), (.ireturn, 0, 0), (.iload 0, 1, 0), (.aload 313, 0, 182), (.invokevirtual 24, 2, 203), (.ifCond .eq 38, 0, 0), (.bipush 6, 1, 0), (.ireturn, 0, 0), (.iload 0, 1, 0), (.getfield 12, 7, 167), (.ifCond .ne 44, 0, 0), (.iload 0, 1, 0), (.invokevirtual 26, 1, 369), (.goto 53, 0, 0), (.iload 0, 1, 0), (.getfield 12, 7, 167), (.bipush 1, 0, 0), (.if_icmp .ne 51, 0, 0), (.iload 0, 1, 0), (.invokevirtual 27, 1, 375), (.goto 53, 0, 0), (.iload 0, 1, 0), (.invokevirtual 28, 1, 381), (.ireturn, 0, 0)]
/-- LentHandsModel.next0()V -/
def am_c32 : List am_I := [(.iload 0, 1, 0), (.iload 0, 1, 0), (.getfield 17, 7, 83), (.invokevirtual 21, 2, 387), (.bipush 32, 1, 0), (.if_icmp .eq 12, 0, 0), (.iload 0, 1, 0), (.iload 0, 1, 0), (.getfield 17, 7, 83), (.invokevirtual 21, 2, 387), (.bipush 10, 1, 0), (.if_icmp .ne 19, 0, 0), (.iload 0, 1, 0), (.dup, 0, 0), (.getfield 17, 7, 83), (.bipush 1, 0, 0), (.iadd, 0, 0), (.putfield 17, 7, 166), (.goto 0, 0, 0), (.iload 0, 1, 0), (.iload 0, 1, 0), (.getfield 17, 7, 83), (.putfield 19, 7, 172), (.iload 0, 1, 0), (.iload 0, 1, 0), (.getfield 17, 7, 83), (.invokevirtual 21, 2, 387), (.istore 1, 0, 0), (.iload 1, 0, 0), (.bipush (-1), 0, 0), (.if_icmp .ne 35, 0, 0), (.iload 0, 1, 0), (.bipush 0, 0, 0), (.putfield 18, 7, 394), (.goto 157, 0, 0), (.iload 1, 0, 0), (.invokevirtual 22, 1, 401), (.ifCond .eq 56, 0, 0), (.iload 0, 1, 0), (.iload 0, 1, 0), (.getfield 17, 7, 83), (.invokevirtual 21, 2, 387), (.invokevirtual 22, 1, 401), (.ifCond .eq 51, 0, 0), (.iload 0, 1, 0), (.dup, 0, 0), (.getfield 17, 7, 83), (.bipush 1, 0, 0), (.iadd, 0, 0), (.putfield 17, 7, 166), (.goto 38, 0, 0), (.iload 0, 1, 0), (.iload 0, 1, 0), (.invokevirtual 31, 1, 407), (.putfield 18, 7, 394), (.goto 157, 0, 0), (.iload 1, 0, 0), (.invokevirtual 23, 1, 413), (.ifCond .eq 108, 0, 0), (.iload 0, 1, 0), (.bipush 0, 0, 0), (.putfield 20, 7, 418), (.iload 0, 1, 0), (.iload 0, 1, 0), (.getfield 17, 7, 83), (.invokevirtual 21, 2, 387), (.invokevirtual 23, 1, 413), (.ifCond .eq 95, 0, 0), (.iload 0, 1, 0), (.getfield 17, 7, 83), (.iload 0, 1, 0), (.getfield 19, 7, 86), (.bipush 4, 0, 0), (.iadd, 0, 0), (.if_icmp .ge 88, 0, 0), (.iload 0, 1, 0), (.bipush 10, 1, 0), (.iload 0, 1, 0), (.getfield 20, 7, 209), (.imul, 0, 0), (.iload 0, 1, 0), (.iload 0, 1, 0), (.getfield 17, 7, 83), (.invokevirtual 21, 2, 387), (.iadd, 0, 0), (.bipush 48, 1, 0), (.isub, 0, 0), (.putfield 20, 7, 418), (.iload 0, 1, 0), (.dup, 0, 0), (.getfield 17, 7, 83), (.bipush 1, 0, 0), (.iadd, 0, 0), (.putfield 17, 7, 166), (.goto 62, 0, 0), (.iload 0, 1, 0), (.iload 0, 1, 0), (.getfield 17, 7, 83), (.iload 0, 1, 0), (.getfield 19, 7, 86), (.isub, 0, 0), (.bipush 5, 0, 0), (.if_icmp .ge 105, 0, 0), (.bipush 2, 0, 0), (.goto 106, 0, 0), (.bipush 1, 0, 0), (.putfield 18, 7, 394), (.goto 157, 0, 0), (.iload 0, 1, 0), (.dup, 0, 0), (.getfield 17, 7, 83), (.bipush 1, 0, 0), (.iadd, 0, 0), (.putfield 17, 7, 166), (.iload 1, 0, 0), (.bipush 59, 1, 0), (.if_icmp .eq 144, 0, 0), (.iload 1, 0, 0), (.bipush 43, 1, 0), (.if_icmp .eq 144, 0, 0), (.iload 1, 0, 0), (.bipush 45, 1, 0), (.if_icmp .eq 144, 0, 0), (.iload 1, 0, 0), (.bipush 42, 1, 0), (.if_icmp .eq 144, 0, 0), (.iload 1, 0, 0), (.bipush 47, 1, 0), (.if_icmp .eq 144, 0, 0), (.iload 1, 0, 0), (.bipush 40, 1, 0), (.if_icmp .eq 144, 0, 0), (.iload 1, 0, 0), (.bipush 41, 1, 0), (.if_icmp .eq 144, 0, 0), (.iload 1, 0, 0), (.bipush 60, 1, 0), (.if_icmp .eq 144, 0, 0), (.iload 1, 0, 0), (.bipush 61, 1, 0), (.if_icmp .eq 144, 0, 0), (.iload 1, 0, 0), (.bipush 62, 1, 0), (.if_icmp .ne 146, 0, 0), (.bipush 1, 0, 0), (.goto 147, 0, 0), (.bipush 0, 0, 0), (.istore 2, 0, 0), (.iload 0, 1, 0), (.iload 2, 0, 0), (.ifCond .eq 155, 0, 0), (.bipush 100, 1, 0), (.iload 1, 0, 0), (.iadd, 0, 0), (.goto 156, 0, 0), (.bipush 1, 0, 0), (.putfield 18, 7, 394), (.return_, 0, 0)]
/-- LentHandsModel.bad(I)Z -/
def am_c33 : List am_I := [(.iload 0, 1, 0), (.iload 1, 0, 0), (.putfield 21, 7, 424), (.iload 0, 1, 0), (.iload 0, 1, 0), (.getfield 19, 7, 86), (.putfield 22, 7, 430), (.bipush 0, 0, 0), (.ireturn, 1, 0)]
/-- LentHandsModel.need(I)Z -/
def am_c34 : List am_I := [(.iload 0, 1, 0), (.getfield 18, 7, 197), (.iload 1, 0, 0), (.if_icmp .eq 8, 0, 0), (.iload 0, 1, 0), (.bipush 1, 0, 0), (.invokevirtual 33, 2, 437), (.ireturn, 1, 0), (.iload 0, 1, 0), (.invokevirtual 32, 1, 442), (.bipush 1, 0, 0), (.ireturn, 1, 0)]
/-- LentHandsModel.lay(II)V -/
def am_c35 : List am_I := [(.iload 0, 1, 0), (.checkcast 7, 7, 25), (.bipush 2, 0, 0), (.iload 0, 1, 0), (.getfield 14, 7, 224), (.imul, 0, 0), (.iload 1, 0, 0), (.iastore, 0, 0), (.iload 0, 1, 0), (.checkcast 7, 7, 25), (.bipush 2, 0, 0), (.iload 0, 1, 0), (.getfield 14, 7, 224), (.imul, 0, 0), (.bipush 1, 0, 0), (.iadd, 0, 0), (.iload 2, 0, 0), (.iastore, 0, 0), (.iload 0, 1, 0), (.dup, 0, 0), (.getfield 14, 7, 224), (.bipush 1, 0, 0), (.iadd, 0, 0), (.putfield 14, 7, 448), (.return_, 0, 0)]
/-- LentHandsModel.opens()Z -/
def am_c36 : List am_I := [(.iload 0, 1, 0), (.getfield 24, 7, 227), (.bipush 8, 1, 0), (.if_icmp .ne 8, 0, 0), (.iload 0, 1, 0), (.bipush 3, 0, 0), (.invokevirtual 33, 2, 437), (.ireturn, 1, 0), (.iload 0, 1, 0), (.dup, 0, 0), (.getfield 24, 7, 227), (.bipush 1, 0, 0), (.iadd, 0, 0), (.putfield 24, 7, 454), (.iload 0, 1, 0), (.invokevirtual 32, 1, 442), (.bipush 1, 0, 0), (.ireturn, 1, 0)]
/-- LentHandsModel.sumUp()Z -/
def am_c37 : List am_I := [(.iload 0, 1, 0), (.invokevirtual 38, 1, 461), (.ifCond .ne 5, 0, 0), (.bipush 0, 0, 0), (.ireturn, 1, 0), (.iload 0, 1, 0), (.getfield 18, 7, 197), (.bipush 143, 2, 0), (.if_icmp .eq 13, 0, 0), (.iload 0, 1, 0), (.getfield 18, 7, 197), (.bipush 145, 2, 0), (.if_icmp .ne 33, 0, 0), (.iload 0, 1, 0), (.getfield 18, 7, 197), (.bipush 143, 2, 0), (.if_icmp .ne 19, 0, 0), (.bipush 23, 1, 0), (.goto 20, 0, 0), (.bipush 24, 1, 0), (.istore 1, 0, 0), (.iload 0, 1, 0), (.invokevirtual 32, 1, 442), (.iload 0, 1, 0), (.invokevirtual 38, 1, 461), (.ifCond .ne 28, 0, 0), (.bipush 0, 0, 0), (.ireturn, 1, 0), (.iload 0, 1, 0), (.iload 1, 0, 0), (.bipush 0, 0, 0), (.invokevirtual 35, 3, 468), (.goto 5, 0, 0), (.bipush 1, 0, 0), (.ireturn, 1, 0)]
/-- LentHandsModel.product()Z -/
def am_c38 : List am_I := [(.iload 0, 1, 0), (.invokevirtual 39, 1, 477), (.ifCond .ne 5, 0, 0), (.bipush 0, 0, 0), (.ireturn, 1, 0), (.iload 0, 1, 0), (.getfield 18, 7, 197), (.bipush 142, 2, 0), (.if_icmp .eq 13, 0, 0), (.iload 0, 1, 0), (.getfield 18, 7, 197), (.bipush 147, 2, 0), (.if_icmp .ne 59, 0, 0), (.iload 0, 1, 0), (.getfield 18, 7, 197), (.bipush 147, 2, 0), (.if_icmp .ne 19, 0, 0), (.bipush 1, 0, 0), (.goto 20, 0, 0), (.bipush 0, 0, 0), (.istore 1, 0, 0), (.iload 0, 1, 0), (.invokevirtual 32, 1, 442), (.iload 1, 0, 0), (.ifCond .eq 49, 0, 0), (.iload 0, 1, 0), (.getfield 20, 7, 209), (.istore 2, 0, 0), (.iload 0, 1, 0), (.getfield 18, 7, 197), (.bipush 2, 0, 0), (.if_icmp .eq 36, 0, 0), (.iload 0, 1, 0), (.bipush 1, 0, 0), (.invokevirtual 33, 2, 437), (.ireturn, 1, 0), (.iload 2, 0, 0), (.ifCond .ne 42, 0, 0), (.iload 0, 1, 0), (.bipush 2, 0, 0), (.invokevirtual 33, 2, 437), (.ireturn, 1, 0), (.iload 0, 1, 0), (.invokevirtual 32, 1, 442), (.iload 0, 1, 0), (.bipush 26, 1, 0), (.iload 2, 0, 0), (.invokevirtual 35, 3, 468), (.goto 58, 0, 0), (.iload 0, 1, 0), (.invokevirtual 39, 1, 477), (.ifCond .ne 54, 0, 0), (.bipush 0, 0, 0), (.ireturn, 1, 0), (.iload 0, 1, 0), (.bipush 25, 1, 0), (.bipush 0, 0, 0), (.invokevirtual 35, 3, 468), (.goto 5, 0, 0), (.bipush 1, 0, 0), (.ireturn, 1, 0)]
/-- LentHandsModel.unit()Z -/
def am_c39 : List am_I := [(.iload 0, 1, 0), (.getfield 18, 7, 197), (.bipush 41, 1, 0), (.bipush 54, 1, 0), (.invokevirtual 0, 3, 101), (.istore 1, 0, 0), (.iload 0, 1, 0), (.getfield 18, 7, 197), (.bipush 2, 0, 0), (.if_icmp .eq 16, 0, 0), (.iload 1, 0, 0), (.ifCond .ne 16, 0, 0), (.iload 0, 1, 0), (.bipush 1, 0, 0), (.invokevirtual 33, 2, 437), (.ireturn, 1, 0), (.iload 0, 1, 0), (.iload 1, 0, 0), (.ifCond .eq 24, 0, 0), (.iload 0, 1, 0), (.getfield 18, 7, 197), (.bipush 40, 1, 0), (.isub, 0, 0), (.goto 25, 0, 0), (.bipush 0, 0, 0), (.iload 0, 1, 0), (.getfield 20, 7, 209), (.invokevirtual 35, 3, 468), (.iload 0, 1, 0), (.invokevirtual 32, 1, 442), (.bipush 1, 0, 0), (.ireturn, 1, 0)]
/-- LentHandsModel.any()Z -/
def am_c40 : List am_I := [(.iload 0, 1, 0), (.invokevirtual 41, 1, 483), (.ifCond .ne 5, 0, 0), (.bipush 0, 0, 0), (.ireturn, 1, 0), (.iload 0, 1, 0), (.getfield 18, 7, 197), (.bipush 4, 0, 0), (.if_icmp .ne 21, 0, 0), (.iload 0, 1, 0), (.invokevirtual 32, 1, 442), (.iload 0, 1, 0), (.invokevirtual 41, 1, 483), (.ifCond .ne 16, 0, 0), (.bipush 0, 0, 0), (.ireturn, 1, 0), (.iload 0, 1, 0), (.bipush 32, 1, 0), (.bipush 0, 0, 0), (.invokevirtual 35, 3, 468), (.goto 5, 0, 0), (.bipush 1, 0, 0), (.ireturn, 1, 0)]
/-- LentHandsModel.every()Z -/
def am_c41 : List am_I := [(.iload 0, 1, 0), (.invokevirtual 42, 1, 489), (.ifCond .ne 5, 0, 0), (.bipush 0, 0, 0), (.ireturn, 1, 0), (.iload 0, 1, 0), (.getfield 18, 7, 197), (.bipush 5, 0, 0), (.if_icmp .ne 21, 0, 0), (.iload 0, 1, 0), (.invokevirtual 32, 1, 442), (.iload 0, 1, 0), (.invokevirtual 42, 1, 489), (.ifCond .ne 16, 0, 0), (.bipush 0, 0, 0), (.ireturn, 1, 0), (.iload 0, 1, 0), (.bipush 31, 1, 0), (.bipush 0, 0, 0), (.invokevirtual 35, 3, 468), (.goto 5, 0, 0), (.bipush 1, 0, 0), (.ireturn, 1, 0)]
/-- LentHandsModel.oneTest()Z -/
def am_c42 : List am_I := [(.iload 0, 1, 0), (.getfield 18, 7, 197), (.bipush 6, 1, 0), (.if_icmp .ne 24, 0, 0), (.iload 0, 1, 0), (.invokevirtual 36, 1, 495), (.ifCond .eq 10, 0, 0), (.iload 0, 1, 0), (.invokevirtual 42, 1, 489), (.ifCond .ne 12, 0, 0), (.bipush 0, 0, 0), (.ireturn, 1, 0), (.iload 0, 1, 0), (.dup, 0, 0), (.getfield 24, 7, 227), (.bipush 1, 0, 0), (.isub, 0, 0), (.putfield 24, 7, 454), (.iload 0, 1, 0), (.bipush 30, 1, 0), (.bipush 0, 0, 0), (.invokevirtual 35, 3, 468), (.bipush 1, 0, 0), (.ireturn, 1, 0), (.iload 0, 1, 0), (.getfield 18, 7, 197), (.bipush 140, 2, 0), (.if_icmp .ne 48, 0, 0), (.iload 0, 1, 0), (.invokevirtual 36, 1, 495), (.ifCond .eq 38, 0, 0), (.iload 0, 1, 0), (.invokevirtual 40, 1, 501), (.ifCond .eq 38, 0, 0), (.iload 0, 1, 0), (.bipush 141, 2, 0), (.invokevirtual 34, 2, 507), (.ifCond .ne 40, 0, 0), (.bipush 0, 0, 0), (.ireturn, 1, 0), (.iload 0, 1, 0), (.dup, 0, 0), (.getfield 24, 7, 227), (.bipush 1, 0, 0), (.isub, 0, 0), (.putfield 24, 7, 454), (.bipush 1, 0, 0), (.ireturn, 1, 0), (.iload 0, 1, 0), (.invokevirtual 37, 1, 513), (.ifCond .ne 53, 0, 0), (.bipush 0, 0, 0), (.ireturn, 1, 0), (.iload 0, 1, 0), (.getfield 18, 7, 197), (.bipush 160, 2, 0), (.if_icmp .ne 59, 0, 0), (.bipush 27, 1, 0), (.goto 72, 0, 0), (.iload 0, 1, 0), (.getfield 18, 7, 197), (.bipush 161, 2, 0), (.if_icmp .ne 65, 0, 0), (.bipush 28, 1, 0), (.goto 72, 0, 0), (.iload 0, 1, 0), (.getfield 18, 7, 197), (.bipush 162, 2, 0), (.if_icmp .ne 71, 0, 0), (.bipush 29, 1, 0), (.goto 72, 0, 0), (.bipush (-1), 0, 0), (.istore 1, 0, 0), (.iload 1, 0, 0), (.bipush (-1), 0, 0), (.if_icmp .ne 80, 0, 0), (.iload 0, 1, 0), (.bipush 1, 0, 0), (.invokevirtual 33, 2, 437), (.ireturn, 1, 0), (.iload 0, 1, 0), (.invokevirtual 32, 1, 442), (.iload 0, 1, 0), (.invokevirtual 37, 1, 513), (.ifCond .ne 87, 0, 0), (.bipush 0, 0, 0), (.ireturn, 1, 0), (.iload 0, 1, 0), (.iload 1, 0, 0), (.bipush 0, 0, 0), (.invokevirtual 35, 3, 468), (.bipush 1, 0, 0), (.ireturn, 1, 0)]
/-- LentHandsModel.aLine()Z -/
def am_c43 : List am_I := [(.iload 0, 1, 0), (.getfield 18, 7, 197), (.bipush 20, 1, 0), (.bipush 29, 1, 0), (.invokevirtual 0, 3, 101), (.ifCond .ne 10, 0, 0), (.iload 0, 1, 0), (.bipush 1, 0, 0), (.invokevirtual 33, 2, 437), (.ireturn, 1, 0), (.iload 0, 1, 0), (.getfield 13, 7, 259), (.bipush 16, 1, 0), (.if_icmp .ne 18, 0, 0), (.iload 0, 1, 0), (.bipush 3, 0, 0), (.invokevirtual 33, 2, 437), (.ireturn, 1, 0), (.iload 0, 1, 0), (.bipush 0, 0, 0), (.putfield 24, 7, 454), (.iload 0, 1, 0), (.checkcast 6, 7, 22), (.bipush 4, 0, 0), (.iload 0, 1, 0), (.getfield 13, 7, 259), (.imul, 0, 0), (.bipush 3, 0, 0), (.iadd, 0, 0), (.iload 0, 1, 0), (.getfield 18, 7, 197), (.iastore, 0, 0), (.iload 0, 1, 0), (.invokevirtual 32, 1, 442), (.iload 0, 1, 0), (.checkcast 6, 7, 22), (.bipush 4, 0, 0), (.iload 0, 1, 0), (.getfield 13, 7, 259), (.imul, 0, 0), (.iload 0, 1, 0), (.getfield 14, 7, 224), (.iastore, 0, 0), (.iload 0, 1, 0), (.getfield 12, 7, 167), (.bipush 1, 0, 0), (.if_icmp .ne 52, 0, 0), (.iload 0, 1, 0), (.invokevirtual 37, 1, 513), (.ifCond .ne 52, 0, 0), (.bipush 0, 0, 0), (.ireturn, 1, 0), (.iload 0, 1, 0), (.checkcast 6, 7, 22), (.bipush 4, 0, 0), (.iload 0, 1, 0), (.getfield 13, 7, 259), (.imul, 0, 0), (.bipush 1, 0, 0), (.iadd, 0, 0), (.iload 0, 1, 0), (.getfield 14, 7, 224), (.iastore, 0, 0), (.iload 0, 1, 0), (.getfield 18, 7, 197), (.bipush 3, 0, 0), (.if_icmp .ne 74, 0, 0), (.iload 0, 1, 0), (.invokevirtual 32, 1, 442), (.iload 0, 1, 0), (.invokevirtual 40, 1, 501), (.ifCond .ne 74, 0, 0), (.bipush 0, 0, 0), (.ireturn, 1, 0), (.iload 0, 1, 0), (.checkcast 6, 7, 22), (.bipush 4, 0, 0), (.iload 0, 1, 0), (.getfield 13, 7, 259), (.imul, 0, 0), (.bipush 2, 0, 0), (.iadd, 0, 0), (.iload 0, 1, 0), (.getfield 14, 7, 224), (.iastore, 0, 0), (.iload 0, 1, 0), (.bipush 159, 2, 0), (.invokevirtual 34, 2, 507), (.ireturn, 1, 0)]
/-- LentHandsModel.readsLaw()Z -/
def am_c44 : List am_I := [(.iload 0, 1, 0), (.bipush 0, 0, 0), (.putfield 13, 7, 518), (.iload 0, 1, 0), (.bipush 0, 0, 0), (.putfield 14, 7, 448), (.bipush 1, 0, 0), (.istore 1, 0, 0), (.iload 1, 0, 0), (.ifCond .eq 27, 0, 0), (.iload 0, 1, 0), (.getfield 18, 7, 197), (.ifCond .eq 27, 0, 0), (.iload 0, 1, 0), (.invokevirtual 43, 1, 525), (.istore 1, 0, 0), (.iload 0, 1, 0), (.dup, 0, 0), (.getfield 13, 7, 259), (.iload 1, 0, 0), (.ifCond .eq 23, 0, 0), (.bipush 1, 0, 0), (.goto 24, 0, 0), (.bipush 0, 0, 0), (.iadd, 0, 0), (.putfield 13, 7, 518), (.goto 8, 0, 0), (.iload 1, 0, 0), (.ireturn, 1, 0)]
/-- LentHandsModel.number(II)Z -/
def am_c45 : List am_I := [(.iload 0, 1, 0), (.getfield 18, 7, 197), (.bipush 2, 0, 0), (.if_icmp .eq 8, 0, 0), (.iload 0, 1, 0), (.bipush 1, 0, 0), (.invokevirtual 33, 2, 437), (.ireturn, 1, 0), (.iload 0, 1, 0), (.getfield 20, 7, 209), (.iload 1, 0, 0), (.iload 2, 0, 0), (.invokevirtual 0, 3, 101), (.ifCond .ne 18, 0, 0), (.iload 0, 1, 0), (.bipush 2, 0, 0), (.invokevirtual 33, 2, 437), (.ireturn, 1, 0), (.iload 0, 1, 0), (.iload 0, 1, 0), (.getfield 20, 7, 209), (.putfield 26, 7, 530), (.iload 0, 1, 0), (.invokevirtual 32, 1, 442), (.bipush 1, 0, 0), (.ireturn, 1, 0)]
/-- LentHandsModel.told(IIII)Z -/
def am_c46 : List am_I := [(.iload 0, 1, 0), (.iload 2, 0, 0), (.invokevirtual 34, 2, 507), (.ifCond .eq 9, 0, 0), (.iload 0, 1, 0), (.iload 3, 0, 0), (.iload 4, 0, 1), (.invokevirtual 45, 3, 537), (.ifCond .ne 11, 0, 0), (.bipush 0, 0, 0), (.ireturn, 1, 0), (.iload 0, 1, 0), (.checkcast 8, 7, 28), (.iload 1, 0, 0), (.iload 0, 1, 0), (.getfield 26, 7, 265), (.iastore, 0, 0), (.bipush 1, 0, 0), (.ireturn, 1, 0)]
/-- LentHandsModel.aBooking()Z -/
def am_c47 : List am_I := [(.bipush 5, 0, 0), (.iload 0, 1, 0), (.getfield 15, 7, 272), (.imul, 0, 0), (.istore 1, 0, 0), (.iload 0, 1, 0), (.iload 1, 0, 0), (.bipush 7, 1, 0), (.bipush 0, 0, 0), (.bipush 2, 0, 0), (.iload 0, 1, 0), (.checkcast 0, 7, 7), (.bipush 276, 2, 0), (.iaload, 0, 0), (.imul, 0, 0), (.bipush 1, 0, 0), (.isub, 0, 0), (.invokevirtual 46, 5, 551), (.ifCond .eq 51, 0, 0), (.iload 0, 1, 0), (.iload 1, 0, 0), (.bipush 1, 0, 0), (.iadd, 0, 0), (.bipush 8, 1, 0), (.bipush 0, 0, 0), (.iload 0, 1, 0), (.checkcast 0, 7, 7), (.bipush 276, 2, 0), (.iaload, 0, 0), (.bipush 1, 0, 0), (.isub, 0, 0), (.invokevirtual 46, 5, 551), (.ifCond .eq 51, 0, 0), (.iload 0, 1, 0), (.iload 1, 0, 0), (.bipush 2, 0, 0), (.iadd, 0, 0), (.bipush 9, 1, 0), (.bipush 0, 0, 0), (.bipush 9999, 2, 0), (.invokevirtual 46, 5, 551), (.ifCond .eq 51, 0, 0), (.iload 0, 1, 0), (.iload 1, 0, 0), (.bipush 3, 0, 0), (.iadd, 0, 0), (.bipush 10, 1, 0), (.bipush 1, 0, 0), (.bipush 99, 1, 0), (.invokevirtual 46, 5, 551), (.ifCond .ne 53, 0, 0), (.bipush 0, 0, 0), (.ireturn, 1, 0), (.iload 0, 1, 0), (.checkcast 8, 7, 28), (.iload 1, 0, 0), (.bipush 4, 0, 0), (.iadd, 0, 0), (.bipush 0, 0, 0), (.iastore, 0, 0), (.iload 0, 1, 0), (.getfield 18, 7, 197), (.bipush 11, 1, 0), (.if_icmp .ne 73, 0, 0), (.iload 0, 1, 0), (.iload 1, 0, 0), (.bipush 4, 0, 0), (.iadd, 0, 0), (.bipush 11, 1, 0), (.bipush 0, 0, 0), (.bipush 99, 1, 0), (.invokevirtual 46, 5, 551), (.ifCond .eq 79, 0, 0), (.iload 0, 1, 0), (.bipush 159, 2, 0), (.invokevirtual 34, 2, 507), (.ifCond .eq 79, 0, 0), (.bipush 1, 0, 0), (.goto 80, 0, 0), (.bipush 0, 0, 0), (.ireturn, 1, 0)]
/-- LentHandsModel.aWork()Z -/
def am_c48 : List am_I := [(.bipush 4, 0, 0), (.iload 0, 1, 0), (.getfield 15, 7, 272), (.imul, 0, 0), (.istore 1, 0, 0), (.iload 0, 1, 0), (.iload 1, 0, 0), (.bipush 12, 1, 0), (.bipush 0, 0, 0), (.bipush 3, 0, 0), (.invokevirtual 46, 5, 551), (.ifCond .eq 30, 0, 0), (.iload 0, 1, 0), (.iload 1, 0, 0), (.bipush 1, 0, 0), (.iadd, 0, 0), (.bipush 13, 1, 0), (.bipush 0, 0, 0), (.bipush 99, 1, 0), (.invokevirtual 46, 5, 551), (.ifCond .eq 30, 0, 0), (.iload 0, 1, 0), (.iload 1, 0, 0), (.bipush 2, 0, 0), (.iadd, 0, 0), (.bipush 14, 1, 0), (.bipush 0, 0, 0), (.bipush 99, 1, 0), (.invokevirtual 46, 5, 551), (.ifCond .ne 32, 0, 0), (.bipush 0, 0, 0), (.ireturn, 1, 0), (.iload 0, 1, 0), (.checkcast 8, 7, 28), (.iload 1, 0, 0), (.bipush 3, 0, 0), (.iadd, 0, 0), (.iload 0, 1, 0), (.getfield 18, 7, 197), (.bipush 24, 1, 0), (.if_icmp .ne 43, 0, 0), (.bipush 1, 0, 0), (.goto 44, 0, 0), (.bipush 0, 0, 0), (.iastore, 0, 0), (.iload 0, 1, 0), (.getfield 18, 7, 197), (.bipush 24, 1, 0), (.if_icmp .ne 51, 0, 0), (.iload 0, 1, 0), (.invokevirtual 32, 1, 442), (.iload 0, 1, 0), (.bipush 159, 2, 0), (.invokevirtual 34, 2, 507), (.ireturn, 1, 0)]
/-- LentHandsModel.readsRows()Z -/
def am_c49 : List am_I := [(.iload 0, 1, 0), (.bipush 0, 0, 0), (.putfield 15, 7, 544), (.bipush 1, 0, 0), (.istore 1, 0, 0), (.iload 1, 0, 0), (.ifCond .eq 59, 0, 0), (.iload 0, 1, 0), (.getfield 18, 7, 197), (.ifCond .eq 59, 0, 0), (.iload 0, 1, 0), (.getfield 18, 7, 197), (.iload 0, 1, 0), (.getfield 12, 7, 167), (.bipush 3, 0, 0), (.if_icmp .ne 18, 0, 0), (.bipush 7, 1, 0), (.goto 19, 0, 0), (.bipush 12, 1, 0), (.if_icmp .eq 24, 0, 0), (.iload 0, 1, 0), (.bipush 1, 0, 0), (.invokevirtual 33, 2, 437), (.ireturn, 1, 0), (.iload 0, 1, 0), (.getfield 15, 7, 272), (.iload 0, 1, 0), (.getfield 12, 7, 167), (.bipush 3, 0, 0), (.if_icmp .ne 32, 0, 0), (.bipush 16, 1, 0), (.goto 33, 0, 0), (.bipush 8, 1, 0), (.if_icmp .ne 38, 0, 0), (.iload 0, 1, 0), (.bipush 3, 0, 0), (.invokevirtual 33, 2, 437), (.ireturn, 1, 0), (.iload 0, 1, 0), (.getfield 12, 7, 167), (.bipush 3, 0, 0), (.if_icmp .ne 45, 0, 0), (.iload 0, 1, 0), (.invokevirtual 47, 1, 559), (.goto 47, 0, 0), (.iload 0, 1, 0), (.invokevirtual 48, 1, 565), (.istore 1, 0, 0), (.iload 0, 1, 0), (.dup, 0, 0), (.getfield 15, 7, 272), (.iload 1, 0, 0), (.ifCond .eq 55, 0, 0), (.bipush 1, 0, 0), (.goto 56, 0, 0), (.bipush 0, 0, 0), (.iadd, 0, 0), (.putfield 15, 7, 544), (.goto 5, 0, 0), (.iload 1, 0, 0), (.ireturn, 1, 0)]
/-- LentHandsModel.putsLaw(I)I -/
def am_c50 : List am_I := [(.iload 0, 1, 0), (.checkcast 0, 7, 7), (.bipush 288, 2, 0), (.iload 1, 0, 0), (.iadd, 0, 0), (.iload 0, 1, 0), (.getfield 13, 7, 259), (.iastore, 0, 0), (.bipush 0, 0, 0), (.istore 2, 0, 0), (.iload 2, 0, 0), (.iload 0, 1, 0), (.getfield 13, 7, 259), (.if_icmp .ge 86, 0, 0), (.iload 0, 1, 0), (.checkcast 0, 7, 7), (.bipush 804, 2, 0), (.bipush 16, 1, 0), (.iload 1, 0, 0), (.imul, 0, 0), (.iadd, 0, 0), (.iload 2, 0, 0), (.iadd, 0, 0), (.iload 0, 1, 0), (.checkcast 6, 7, 22), (.bipush 4, 0, 0), (.iload 2, 0, 0), (.imul, 0, 0), (.iaload, 0, 0), (.iastore, 0, 0), (.iload 0, 1, 0), (.checkcast 0, 7, 7), (.bipush 852, 2, 0), (.bipush 16, 1, 0), (.iload 1, 0, 0), (.imul, 0, 0), (.iadd, 0, 0), (.iload 2, 0, 0), (.iadd, 0, 0), (.iload 0, 1, 0), (.checkcast 6, 7, 22), (.bipush 4, 0, 0), (.iload 2, 0, 0), (.imul, 0, 0), (.bipush 1, 0, 0), (.iadd, 0, 0), (.iaload, 0, 0), (.iastore, 0, 0), (.iload 0, 1, 0), (.checkcast 0, 7, 7), (.bipush 900, 2, 0), (.bipush 16, 1, 0), (.iload 1, 0, 0), (.imul, 0, 0), (.iadd, 0, 0), (.iload 2, 0, 0), (.iadd, 0, 0), (.iload 0, 1, 0), (.checkcast 6, 7, 22), (.bipush 4, 0, 0), (.iload 2, 0, 0), (.imul, 0, 0), (.bipush 2, 0, 0), (.iadd, 0, 0), (.iaload, 0, 0), (.iastore, 0, 0), (.iload 0, 1, 0), (.checkcast 0, 7, 7), (.bipush 948, 2, 0), (.bipush 16, 1, 0), (.iload 1, 0, 0), (.imul, 0, 0), (.iadd, 0, 0), (.iload 2, 0, 0), (.iadd, 0, 0), (.iload 0, 1, 0), (.checkcast 6, 7, 22), (.bipush 4, 0, 0), (.iload 2, 0, 0), (.imul, 0, 0), (.bipush 3, 0, 0), (.iadd, 0, 0), (.iaload, 0, 0), (.iastore, 0, 0), (.iinc 2 1, 0, 0), (.goto 10, 0, 0), (.bipush 0, 0, 0), (.istore 2, 0, 0), (.iload 2, 0, 0), (.bipush 2, 0, 0), (.iload 0, 1, 0), (.getfield 14, 7, 224), (.imul, 0, 0), (.if_icmp .ge 110, 0, 0), (.iload 0, 1, 0), (.checkcast 0, 7, 7), (.bipush 996, 2, 0), (.bipush 820, 2, 0), (.iload 1, 0, 0), (.imul, 0, 0), (.iadd, 0, 0), (.iload 2, 0, 0), (.iadd, 0, 0), (.iload 0, 1, 0), (.checkcast 7, 7, 25), (.iload 2, 0, 0), (.iaload, 0, 0), (.iastore, 0, 0), (.iinc 2 1, 0, 0), (.goto 88, 0, 0), (.iload 0, 1, 0), (.getfield 13, 7, 259), (.ireturn, 0, 0)]
/-- LentHandsModel.putsRows()I -/
def am_c51 : List am_I := [(.iload 0, 1, 0), (.getfield 12, 7, 167), (.bipush 3, 0, 0), (.if_icmp .ne 6, 0, 0), (.bipush 1, 0, 0), (.goto 7, 0, 0), (.bipush 0, 0, 0), (.istore 1, 0, 0), (.iload 0, 1, 0), (.checkcast 0, 7, 7), (.iload 1, 0, 0), (.ifCond .eq 14, 0, 0), (.bipush 286, 2, 0), (.goto 15, 0, 0), (.bipush 287, 2, 0), (.iload 0, 1, 0), (.getfield 15, 7, 272), (.iastore, 0, 0), (.bipush 0, 0, 0), (.istore 2, 0, 0), (.iload 2, 0, 0), (.iload 1, 0, 0), (.ifCond .eq 25, 0, 0), (.bipush 5, 0, 0), (.goto 26, 0, 0), (.bipush 4, 0, 0), (.iload 0, 1, 0), (.getfield 15, 7, 272), (.imul, 0, 0), (.if_icmp .ge 46, 0, 0), (.iload 0, 1, 0), (.checkcast 0, 7, 7), (.iload 1, 0, 0), (.ifCond .eq 36, 0, 0), (.bipush 292, 2, 0), (.goto 37, 0, 0), (.bipush 372, 2, 0), (.iload 2, 0, 0), (.iadd, 0, 0), (.iload 0, 1, 0), (.checkcast 8, 7, 28), (.iload 2, 0, 0), (.iaload, 0, 0), (.iastore, 0, 0), (.iinc 2 1, 0, 0), (.goto 20, 0, 0), (.iload 1, 0, 0), (.ifCond .eq 50, 0, 0), (.iload 0, 1, 0), (.invokevirtual 14, 1, 122), (.iload 0, 1, 0), (.getfield 15, 7, 272), (.ireturn, 0, 0)]
/-- LentHandsModel.text(I)I -/
def am_c52 : List am_I := [(.iload 0, 1, 0), (.bipush 0, 0, 0), (.putfield 23, 7, 570), (.iload 0, 1, 0), (.bipush (-1), 0, 0), (.putfield 25, 7, 80), (.iload 1, 0, 0), (.bipush 0, 0, 0), (.bipush 4, 0, 0), (.invokevirtual 0, 3, 101), (.ifCond .ne 16, 0, 0), (.iload 0, 1, 0), (.bipush 0, 0, 0), (.putfield 16, 7, 160), (.bipush (-1), 0, 0), (.ireturn, 0, 0), (.iload 0, 1, 0), (.bipush 0, 0, 0), (.putfield 21, 7, 424), (.iload 0, 1, 0), (.bipush 0, 0, 0), (.putfield 17, 7, 166), (.iload 0, 1, 0), (.iload 1, 0, 0), (.putfield 12, 7, 334), (.iload 0, 1, 0), (.invokevirtual 32, 1, 442), (.iload 1, 0, 0), (.bipush 3, 0, 0), (.if_icmp .ge 33, 0, 0), (.iload 0, 1, 0), (.invokevirtual 44, 1, 577), (.goto 35, 0, 0), (.iload 0, 1, 0), (.invokevirtual 49, 1, 583), (.istore 2, 0, 0), (.iload 0, 1, 0), (.bipush 0, 0, 0), (.putfield 16, 7, 160), (.iload 2, 0, 0), (.ifCond .eq 51, 0, 0), (.iload 1, 0, 0), (.bipush 3, 0, 0), (.if_icmp .ge 48, 0, 0), (.iload 0, 1, 0), (.iload 1, 0, 0), (.invokevirtual 50, 2, 589), (.goto 50, 0, 0), (.iload 0, 1, 0), (.invokevirtual 51, 1, 595), (.ireturn, 0, 0), (.iload 0, 1, 0), (.iload 0, 1, 0), (.getfield 21, 7, 212), (.putfield 23, 7, 570), (.iload 0, 1, 0), (.iload 0, 1, 0), (.getfield 22, 7, 215), (.putfield 25, 7, 80), (.bipush (-1), 0, 0), (.ireturn, 0, 0)]
/-- LentHandsModel.fault(I)I -/
def am_c53 : List am_I := [(.iload 1, 0, 0), (.ifCond .ne 5, 0, 0), (.iload 0, 1, 0), (.getfield 23, 7, 285), (.goto 12, 0, 0), (.iload 1, 0, 0), (.bipush 1, 0, 0), (.if_icmp .ne 11, 0, 0), (.iload 0, 1, 0), (.getfield 25, 7, 40), (.goto 12, 0, 0), (.bipush (-1), 0, 0), (.ireturn, 0, 0)]
/-- LentHandsModel.both(III)I -/
def am_c54 : List am_I := [(.iload 0, 0, 0), (.tableswitch 39 23 31 #[2, 6, 10, 39, 14, 21, 28, 39, 35], 51, 0), (.iload 1, 0, 0), (.iload 2, 0, 0), (.iadd, 0, 0), (.ireturn, 0, 0), (.iload 1, 0, 0), (.iload 2, 0, 0), (.isub, 0, 0), (.ireturn, 0, 0), (.iload 1, 0, 0), (.iload 2, 0, 0), (.imul, 0, 0), (.ireturn, 0, 0), (.iload 1, 0, 0), (.iload 2, 0, 0), (.if_icmp .ge 19, 0, 0), (.bipush 1, 0, 0), (.goto 20, 0, 0), (.bipush 0, 0, 0), (.ireturn, 0, 0), (.iload 1, 0, 0), (.iload 2, 0, 0), (.if_icmp .ne 26, 0, 0), (.bipush 1, 0, 0), (.goto 27, 0, 0), (.bipush 0, 0, 0), (.ireturn, 0, 0), (.iload 1, 0, 0), (.iload 2, 0, 0), (.if_icmp .le 33, 0, 0), (.bipush 1, 0, 0), (.goto 34, 0, 0), (.bipush 0, 0, 0), (.ireturn, 0, 0), (.iload 1, 0, 0), (.iload 2, 0, 0), (.iand, 0, 0), (.ireturn, 0, 0), (.iload 1, 0, 0), (.iload 2, 0, 0), (.ior, 0, 0), (.ireturn, 0, 0)]
/-- LentHandsModel.comesTo(III)I -/
def am_c55 : List am_I := [(.bipush 0, 0, 0), (.istore 4, 0, 1), (.iload 2, 0, 0), (.istore 5, 0, 1), (.iload 5, 0, 1), (.iload 3, 0, 0), (.if_icmp .ge 105, 0, 0), (.iload 0, 1, 0), (.checkcast 0, 7, 7), (.bipush 996, 2, 0), (.bipush 820, 2, 0), (.iload 1, 0, 0), (.imul, 0, 0), (.iadd, 0, 0), (.bipush 2, 0, 0), (.iload 5, 0, 1), (.imul, 0, 0), (.iadd, 0, 0), (.iaload, 0, 0), (.istore 6, 0, 1), (.iload 0, 1, 0), (.checkcast 0, 7, 7), (.bipush 996, 2, 0), (.bipush 820, 2, 0), (.iload 1, 0, 0), (.imul, 0, 0), (.iadd, 0, 0), (.bipush 2, 0, 0), (.iload 5, 0, 1), (.imul, 0, 0), (.iadd, 0, 0), (.bipush 1, 0, 0), (.iadd, 0, 0), (.iaload, 0, 0), (.istore 7, 0, 1), (.iload 6, 0, 1), (.bipush 23, 1, 0), (.if_icmp .ge 52, 0, 0), (.iload 0, 1, 0), (.checkcast 10, 7, 34), (.iload 4, 0, 1), (.iload 6, 0, 1), (.ifCond .ne 45, 0, 0), (.iload 7, 0, 1), (.goto 49, 0, 0), (.iload 0, 1, 0), (.checkcast 11, 7, 37), (.iload 6, 0, 1), (.iaload, 0, 0), (.iastore, 0, 0), (.iinc 4 1, 0, 0), (.goto 103, 0, 0), (.iload 6, 0, 1), (.bipush 26, 1, 0), (.if_icmp .ne 66, 0, 0), (.iload 0, 1, 0), (.checkcast 10, 7, 34), (.iload 4, 0, 1), (.bipush 1, 0, 0), (.isub, 0, 0), (.dup2, 0, 0), (.iaload, 0, 0), (.iload 7, 0, 1), (.idiv, 0, 0), (.iastore, 0, 0), (.goto 103, 0, 0), (.iload 6, 0, 1), (.bipush 30, 1, 0), (.if_icmp .ne 84, 0, 0), (.iload 0, 1, 0), (.checkcast 10, 7, 34), (.iload 4, 0, 1), (.bipush 1, 0, 0), (.isub, 0, 0), (.bipush 1, 0, 0), (.iload 0, 1, 0), (.checkcast 10, 7, 34), (.iload 4, 0, 1), (.bipush 1, 0, 0), (.isub, 0, 0), (.iaload, 0, 0), (.isub, 0, 0), (.iastore, 0, 0), (.goto 103, 0, 0), (.iinc 4 (-1), 0, 0), (.iload 0, 1, 0), (.checkcast 10, 7, 34), (.iload 4, 0, 1), (.bipush 1, 0, 0), (.isub, 0, 0), (.iload 6, 0, 1), (.iload 0, 1, 0), (.checkcast 10, 7, 34), (.iload 4, 0, 1), (.bipush 1, 0, 0), (.isub, 0, 0), (.iaload, 0, 0), (.iload 0, 1, 0), (.checkcast 10, 7, 34), (.iload 4, 0, 1), (.iaload, 0, 0), (.invokevirtual 54, 3, 601), (.iastore, 0, 0), (.iinc 5 1, 0, 0), (.goto 4, 0, 0), (.iload 0, 1, 0), (.checkcast 10, 7, 34), (.bipush 0, 0, 0), (.iaload, 0, 0), (.ireturn, 0, 0)]
/-- LentHandsModel.holds(II)Z -/
def am_c56 : List am_I := [(.iload 0, 1, 0), (.checkcast 0, 7, 7), (.bipush 900, 2, 0), (.bipush 16, 1, 0), (.iload 1, 0, 0), (.imul, 0, 0), (.iadd, 0, 0), (.iload 2, 0, 0), (.iadd, 0, 0), (.iaload, 0, 0), (.iload 0, 1, 0), (.checkcast 0, 7, 7), (.bipush 852, 2, 0), (.bipush 16, 1, 0), (.iload 1, 0, 0), (.imul, 0, 0), (.iadd, 0, 0), (.iload 2, 0, 0), (.iadd, 0, 0), (.iaload, 0, 0), (.if_icmp .eq 46, 0, 0), (.iload 0, 1, 0), (.iload 1, 0, 0), (.iload 0, 1, 0), (.checkcast 0, 7, 7), (.bipush 852, 2, 0), (.bipush 16, 1, 0), (.iload 1, 0, 0), (.imul, 0, 0), (.iadd, 0, 0), (.iload 2, 0, 0), (.iadd, 0, 0), (.iaload, 0, 0), (.iload 0, 1, 0), (.checkcast 0, 7, 7), (.bipush 900, 2, 0), (.bipush 16, 1, 0), (.iload 1, 0, 0), (.imul, 0, 0), (.iadd, 0, 0), (.iload 2, 0, 0), (.iadd, 0, 0), (.iaload, 0, 0), (.invokevirtual 55, 4, 607), (.bipush 1, 0, 0), (.if_icmp .ne 48, 0, 0), (.bipush 1, 0, 0), (.goto 49, 0, 0), (.bipush 0, 0, 0), (.ireturn, 1, 0)]
/-- LentHandsModel.saysWord(II)I -/
def am_c57 : List am_I := [(.bipush 0, 0, 0), (.istore 3, 0, 0), (.iload 3, 0, 0), (.iload 0, 1, 0), (.checkcast 0, 7, 7), (.bipush 288, 2, 0), (.iload 1, 0, 0), (.iadd, 0, 0), (.iaload, 0, 0), (.if_icmp .ge 28, 0, 0), (.iload 0, 1, 0), (.iload 1, 0, 0), (.iload 3, 0, 0), (.invokevirtual 56, 3, 613), (.ifCond .eq 26, 0, 0), (.iload 0, 1, 0), (.checkcast 0, 7, 7), (.bipush 948, 2, 0), (.bipush 16, 1, 0), (.iload 1, 0, 0), (.imul, 0, 0), (.iadd, 0, 0), (.iload 3, 0, 0), (.iadd, 0, 0), (.iaload, 0, 0), (.ireturn, 0, 0), (.iinc 3 1, 0, 0), (.goto 2, 0, 0), (.iload 2, 0, 0), (.ireturn, 0, 0)]
/-- LentHandsModel.saysOf(II)I -/
def am_c58 : List am_I := [(.bipush 0, 0, 0), (.istore 3, 0, 0), (.iload 3, 0, 0), (.iload 0, 1, 0), (.checkcast 0, 7, 7), (.bipush 289, 2, 0), (.iaload, 0, 0), (.if_icmp .ge 43, 0, 0), (.iload 0, 1, 0), (.checkcast 0, 7, 7), (.bipush 964, 2, 0), (.iload 3, 0, 0), (.iadd, 0, 0), (.iaload, 0, 0), (.iload 1, 0, 0), (.if_icmp .ne 41, 0, 0), (.iload 0, 1, 0), (.bipush 1, 0, 0), (.iload 3, 0, 0), (.invokevirtual 56, 3, 613), (.ifCond .eq 41, 0, 0), (.bipush 0, 0, 0), (.iload 2, 0, 0), (.iload 0, 1, 0), (.bipush 1, 0, 0), (.iload 0, 1, 0), (.checkcast 0, 7, 7), (.bipush 820, 2, 0), (.iload 3, 0, 0), (.iadd, 0, 0), (.iaload, 0, 0), (.iload 0, 1, 0), (.checkcast 0, 7, 7), (.bipush 868, 2, 0), (.iload 3, 0, 0), (.iadd, 0, 0), (.iaload, 0, 0), (.invokevirtual 55, 4, 607), (.invokevirtual 1, 2, 619), (.invokevirtual 2, 2, 625), (.ireturn, 0, 0), (.iinc 3 1, 0, 0), (.goto 2, 0, 0), (.bipush 0, 0, 0), (.ireturn, 0, 0)]
/-- LentHandsModel.bestOf(I)I -/
def am_c59 : List am_I := [(.bipush 0, 0, 0), (.istore 2, 0, 0), (.bipush 0, 0, 0), (.istore 3, 0, 0), (.iload 3, 0, 0), (.bipush 4, 0, 0), (.if_icmp .ge 18, 0, 0), (.iload 2, 0, 0), (.iload 0, 1, 0), (.iload 1, 0, 0), (.bipush 0, 0, 0), (.iload 3, 0, 0), (.iadd, 0, 0), (.invokevirtual 5, 3, 109), (.invokevirtual 2, 2, 625), (.istore 2, 0, 0), (.iinc 3 1, 0, 0), (.goto 4, 0, 0), (.iload 2, 0, 0), (.ireturn, 0, 0)]
/-- LentHandsModel.loansOf(I)I -/
def am_c60 : List am_I := [(.bipush 0, 0, 0), (.istore 2, 0, 0), (.bipush 0, 0, 0), (.istore 3, 0, 0), (.iload 3, 0, 0), (.iload 0, 1, 0), (.checkcast 0, 7, 7), (.bipush 1, 0, 0), (.iaload, 0, 0), (.if_icmp .ge 24, 0, 0), (.iload 2, 0, 0), (.iload 0, 1, 0), (.iload 3, 0, 0), (.bipush 0, 0, 0), (.invokevirtual 7, 3, 631), (.iload 1, 0, 0), (.if_icmp .ne 19, 0, 0), (.bipush 1, 0, 0), (.goto 20, 0, 0), (.bipush 0, 0, 0), (.iadd, 0, 0), (.istore 2, 0, 0), (.iinc 3 1, 0, 0), (.goto 4, 0, 0), (.iload 2, 0, 0), (.ireturn, 0, 0)]
/-- LentHandsModel.latestOf(I)I -/
def am_c61 : List am_I := [(.iload 0, 1, 0), (.checkcast 0, 7, 7), (.bipush 1, 0, 0), (.iaload, 0, 0), (.bipush 1, 0, 0), (.isub, 0, 0), (.istore 2, 0, 0), (.iload 2, 0, 0), (.ifCond .lt 19, 0, 0), (.iload 0, 1, 0), (.iload 2, 0, 0), (.bipush 0, 0, 0), (.invokevirtual 7, 3, 631), (.iload 1, 0, 0), (.if_icmp .ne 17, 0, 0), (.iload 2, 0, 0), (.ireturn, 0, 0), (.iinc 2 (-1), 0, 0), (.goto 7, 0, 0), (.bipush (-1), 0, 0), (.ireturn, 0, 0)]
/-- LentHandsModel.handFacts(II)V -/
def am_c62 : List am_I := [(.iload 0, 1, 0), (.checkcast 11, 7, 37), (.bipush 1, 0, 0), (.bipush 1, 0, 0), (.iload 1, 0, 0), (.bipush 2, 0, 0), (.irem, 0, 0), (.isub, 0, 0), (.iastore, 0, 0), (.iload 0, 1, 0), (.checkcast 11, 7, 37), (.bipush 2, 0, 0), (.iload 0, 1, 0), (.iload 1, 0, 0), (.invokevirtual 59, 2, 637), (.iastore, 0, 0), (.iload 0, 1, 0), (.checkcast 11, 7, 37), (.bipush 3, 0, 0), (.iload 0, 1, 0), (.iload 1, 0, 0), (.bipush 4, 0, 0), (.invokevirtual 5, 3, 109), (.iastore, 0, 0), (.iload 0, 1, 0), (.checkcast 11, 7, 37), (.bipush 4, 0, 0), (.iload 0, 1, 0), (.iload 1, 0, 0), (.bipush 5, 0, 0), (.invokevirtual 5, 3, 109), (.iastore, 0, 0), (.iload 0, 1, 0), (.checkcast 11, 7, 37), (.bipush 12, 1, 0), (.iload 0, 1, 0), (.iload 1, 0, 0), (.bipush 7, 1, 0), (.invokevirtual 5, 3, 109), (.iastore, 0, 0), (.iload 0, 1, 0), (.checkcast 11, 7, 37), (.bipush 9, 1, 0), (.iload 1, 0, 0), (.invokevirtual 13, 1, 643), (.iload 2, 0, 0), (.if_icmp .ne 49, 0, 0), (.bipush 1, 0, 0), (.goto 50, 0, 0), (.bipush 0, 0, 0), (.iastore, 0, 0), (.iload 0, 1, 0), (.checkcast 11, 7, 37), (.bipush 8, 1, 0), (.iload 0, 1, 0), (.checkcast 0, 7, 7), (.bipush 277, 2, 0), (.iload 2, 0, 0), (.iadd, 0, 0), (.iaload, 0, 0), (.iastore, 0, 0), (.return_, 0, 0)]
/-- LentHandsModel.mayBe(IIII)Z -/
def am_c63 : List am_I := [(.iload 0, 1, 0), (.iload 1, 0, 0), (.iload 2, 0, 0), (.invokevirtual 62, 3, 648), (.iload 0, 1, 0), (.checkcast 11, 7, 37), (.bipush 5, 0, 0), (.iload 3, 0, 0), (.iastore, 0, 0), (.iload 0, 1, 0), (.checkcast 11, 7, 37), (.bipush 6, 1, 0), (.iload 4, 0, 1), (.iastore, 0, 0), (.iload 0, 1, 0), (.checkcast 11, 7, 37), (.bipush 7, 1, 0), (.iload 0, 1, 0), (.iload 2, 0, 0), (.bipush 0, 0, 0), (.invokevirtual 3, 3, 655), (.iastore, 0, 0), (.iload 0, 1, 0), (.checkcast 11, 7, 37), (.bipush 10, 1, 0), (.iload 0, 1, 0), (.iload 1, 0, 0), (.invokevirtual 60, 2, 661), (.iastore, 0, 0), (.iload 0, 1, 0), (.bipush 0, 0, 0), (.bipush 20, 1, 0), (.invokevirtual 57, 3, 667), (.bipush 20, 1, 0), (.if_icmp .ne 37, 0, 0), (.bipush 1, 0, 0), (.goto 38, 0, 0), (.bipush 0, 0, 0), (.ireturn, 1, 0)]
/-- LentHandsModel.keeps()V -/
def am_c64 : List am_I := [(.iload 0, 1, 0), (.getfield 4, 7, 58), (.bipush 6, 1, 0), (.if_icmp .ne 27, 0, 0), (.bipush 0, 0, 0), (.istore 1, 0, 0), (.iload 1, 0, 0), (.bipush 1380, 2, 0), (.if_icmp .ge 21, 0, 0), (.iload 0, 1, 0), (.checkcast 2, 7, 16), (.iload 1, 0, 0), (.iload 0, 1, 0), (.checkcast 2, 7, 16), (.iload 1, 0, 0), (.bipush 276, 2, 0), (.iadd, 0, 0), (.iaload, 0, 0), (.iastore, 0, 0), (.iinc 1 1, 0, 0), (.goto 6, 0, 0), (.iload 0, 1, 0), (.dup, 0, 0), (.getfield 4, 7, 58), (.bipush 1, 0, 0), (.isub, 0, 0), (.putfield 4, 7, 116), (.bipush 0, 0, 0), (.istore 1, 0, 0), (.iload 1, 0, 0), (.bipush 276, 2, 0), (.if_icmp .ge 47, 0, 0), (.iload 0, 1, 0), (.checkcast 2, 7, 16), (.bipush 276, 2, 0), (.iload 0, 1, 0), (.getfield 4, 7, 58), (.imul, 0, 0), (.iload 1, 0, 0), (.iadd, 0, 0), (.iload 0, 1, 0), (.checkcast 0, 7, 7), (.iload 1, 0, 0), (.iaload, 0, 0), (.iastore, 0, 0), (.iinc 1 1, 0, 0), (.goto 29, 0, 0), (.iload 0, 1, 0), (.dup, 0, 0), (.getfield 4, 7, 58), (.bipush 1, 0, 0), (.iadd, 0, 0), (.putfield 4, 7, 116), (.return_, 0, 0)]
/-- LentHandsModel.undo()Z -/
def am_c65 : List am_I := [(.iload 0, 1, 0), (.getfield 4, 7, 58), (.ifCond .ne 5, 0, 0), (.bipush 0, 0, 0), (.ireturn, 1, 0), (.iload 0, 1, 0), (.dup, 0, 0), (.getfield 4, 7, 58), (.bipush 1, 0, 0), (.isub, 0, 0), (.putfield 4, 7, 116), (.bipush 0, 0, 0), (.istore 1, 0, 0), (.iload 1, 0, 0), (.bipush 276, 2, 0), (.if_icmp .ge 31, 0, 0), (.iload 0, 1, 0), (.checkcast 0, 7, 7), (.iload 1, 0, 0), (.iload 0, 1, 0), (.checkcast 2, 7, 16), (.bipush 276, 2, 0), (.iload 0, 1, 0), (.getfield 4, 7, 58), (.imul, 0, 0), (.iload 1, 0, 0), (.iadd, 0, 0), (.iaload, 0, 0), (.iastore, 0, 0), (.iinc 1 1, 0, 0), (.goto 13, 0, 0), (.bipush 1, 0, 0), (.ireturn, 1, 0)]
/-- LentHandsModel.goes(II)V -/
def am_c66 : List am_I := [(.iload 0, 1, 0), (.iload 1, 0, 0), (.bipush 8, 1, 0), (.iload 2, 0, 0), (.invokevirtual 6, 4, 140), (.iload 0, 1, 0), (.iload 1, 0, 0), (.bipush 7, 1, 0), (.bipush 0, 0, 0), (.invokevirtual 6, 4, 140), (.return_, 0, 0)]
/-- LentHandsModel.isLoan(II)Z -/
def am_c67 : List am_I := [(.iload 0, 0, 0), (.bipush 1, 0, 0), (.bipush 99, 1, 0), (.invokevirtual 0, 3, 101), (.ifCond .eq 12, 0, 0), (.iload 1, 0, 0), (.bipush 0, 0, 0), (.bipush 99, 1, 0), (.invokevirtual 0, 3, 101), (.ifCond .eq 12, 0, 0), (.bipush 1, 0, 0), (.goto 13, 0, 0), (.bipush 0, 0, 0), (.ireturn, 1, 0)]
/-- LentHandsModel.canLend(IIII)Z -/
def am_c68 : List am_I := [(.iload 0, 1, 0), (.iload 1, 0, 0), (.invokevirtual 9, 2, 155), (.ifCond .eq 30, 0, 0), (.iload 0, 1, 0), (.iload 2, 0, 0), (.invokevirtual 8, 2, 147), (.ifCond .eq 30, 0, 0), (.iload 3, 0, 0), (.iload 4, 0, 1), (.invokevirtual 67, 2, 673), (.ifCond .eq 30, 0, 0), (.iload 0, 1, 0), (.checkcast 0, 7, 7), (.bipush 1, 0, 0), (.iaload, 0, 0), (.bipush 16, 1, 0), (.if_icmp .eq 30, 0, 0), (.iload 0, 1, 0), (.iload 1, 0, 0), (.bipush 8, 1, 0), (.invokevirtual 5, 3, 109), (.bipush (-1), 0, 0), (.if_icmp .eq 30, 0, 0), (.iload 0, 1, 0), (.iload 1, 0, 0), (.bipush 8, 1, 0), (.invokevirtual 5, 3, 109), (.iload 2, 0, 0), (.if_icmp .ne 32, 0, 0), (.bipush 0, 0, 0), (.ireturn, 1, 0), (.iload 0, 1, 0), (.iload 1, 0, 0), (.invokevirtual 61, 2, 679), (.istore 5, 0, 1), (.iload 5, 0, 1), (.bipush (-1), 0, 0), (.if_icmp .eq 52, 0, 0), (.iload 0, 1, 0), (.checkcast 0, 7, 7), (.bipush 0, 0, 0), (.iaload, 0, 0), (.iload 3, 0, 0), (.iadd, 0, 0), (.iload 0, 1, 0), (.iload 5, 0, 1), (.bipush 3, 0, 0), (.invokevirtual 7, 3, 631), (.if_icmp .le 52, 0, 0), (.bipush 0, 0, 0), (.ireturn, 1, 0), (.iload 0, 1, 0), (.iload 2, 0, 0), (.bipush 0, 0, 0), (.invokevirtual 3, 3, 655), (.iload 3, 0, 0), (.iload 4, 0, 1), (.imul, 0, 0), (.if_icmp .lt 69, 0, 0), (.iload 0, 1, 0), (.iload 1, 0, 0), (.iload 2, 0, 0), (.iload 3, 0, 0), (.iload 4, 0, 1), (.invokevirtual 63, 5, 685), (.ifCond .eq 69, 0, 0), (.bipush 1, 0, 0), (.goto 70, 0, 0), (.bipush 0, 0, 0), (.ireturn, 1, 0)]
/-- LentHandsModel.earns(II)V -/
def am_c69 : List am_I := [(.iload 0, 1, 0), (.iload 1, 0, 0), (.bipush 0, 0, 0), (.invokevirtual 3, 3, 655), (.iload 2, 0, 0), (.iadd, 0, 0), (.istore 3, 0, 0), (.iload 0, 1, 0), (.iload 1, 0, 0), (.bipush 0, 0, 0), (.bipush 9999, 2, 0), (.iload 3, 0, 0), (.invokevirtual 1, 2, 619), (.invokevirtual 4, 4, 132), (.return_, 0, 0)]
/-- LentHandsModel.lends(IIII)I -/
def am_c70 : List am_I := [(.iload 0, 1, 0), (.iload 1, 0, 0), (.bipush 8, 1, 0), (.invokevirtual 5, 3, 109), (.istore 5, 0, 1), (.bipush 196, 2, 0), (.bipush 5, 0, 0), (.iload 0, 1, 0), (.checkcast 0, 7, 7), (.bipush 1, 0, 0), (.iaload, 0, 0), (.imul, 0, 0), (.iadd, 0, 0), (.istore 6, 0, 1), (.iload 0, 1, 0), (.checkcast 0, 7, 7), (.iload 6, 0, 1), (.bipush 0, 0, 0), (.iadd, 0, 0), (.iload 1, 0, 0), (.iastore, 0, 0), (.iload 0, 1, 0), (.checkcast 0, 7, 7), (.iload 6, 0, 1), (.bipush 1, 0, 0), (.iadd, 0, 0), (.iload 5, 0, 1), (.iastore, 0, 0), (.iload 0, 1, 0), (.checkcast 0, 7, 7), (.iload 6, 0, 1), (.bipush 2, 0, 0), (.iadd, 0, 0), (.iload 2, 0, 0), (.iastore, 0, 0), (.iload 0, 1, 0), (.checkcast 0, 7, 7), (.iload 6, 0, 1), (.bipush 3, 0, 0), (.iadd, 0, 0), (.iload 0, 1, 0), (.checkcast 0, 7, 7), (.bipush 0, 0, 0), (.iaload, 0, 0), (.iload 3, 0, 0), (.iadd, 0, 0), (.iastore, 0, 0), (.iload 0, 1, 0), (.checkcast 0, 7, 7), (.iload 6, 0, 1), (.bipush 4, 0, 0), (.iadd, 0, 0), (.iload 4, 0, 1), (.iastore, 0, 0), (.iload 0, 1, 0), (.checkcast 0, 7, 7), (.bipush 1, 0, 0), (.dup2, 0, 0), (.iaload, 0, 0), (.bipush 1, 0, 0), (.iadd, 0, 0), (.iastore, 0, 0), (.iload 0, 1, 0), (.iload 2, 0, 0), (.iload 3, 0, 0), (.ineg, 0, 0), (.iload 4, 0, 1), (.imul, 0, 0), (.invokevirtual 69, 3, 690), (.iload 0, 1, 0), (.iload 5, 0, 1), (.iload 3, 0, 0), (.iload 4, 0, 1), (.imul, 0, 0), (.invokevirtual 69, 3, 690), (.iload 0, 1, 0), (.iload 2, 0, 0), (.iload 1, 0, 0), (.bipush 2, 0, 0), (.irem, 0, 0), (.invokevirtual 12, 3, 697), (.istore 7, 0, 1), (.iload 7, 0, 1), (.bipush (-1), 0, 0), (.if_icmp .eq 89, 0, 0), (.iload 0, 1, 0), (.iload 7, 0, 1), (.bipush (-1), 0, 0), (.invokevirtual 66, 3, 702), (.iload 0, 1, 0), (.iload 1, 0, 0), (.iload 2, 0, 0), (.invokevirtual 66, 3, 702), (.iload 0, 1, 0), (.checkcast 0, 7, 7), (.bipush 0, 0, 0), (.iaload, 0, 0), (.iload 3, 0, 0), (.iadd, 0, 0), (.ireturn, 0, 0)]
/-- LentHandsModel.lend(IIII)I -/
def am_c71 : List am_I := [(.iload 0, 1, 0), (.iload 1, 0, 0), (.iload 2, 0, 0), (.iload 3, 0, 0), (.iload 4, 0, 1), (.invokevirtual 68, 5, 709), (.ifCond .ne 9, 0, 0), (.bipush (-1), 0, 0), (.ireturn, 0, 0), (.iload 0, 1, 0), (.invokevirtual 64, 1, 714), (.iload 0, 1, 0), (.iload 1, 0, 0), (.iload 2, 0, 0), (.iload 3, 0, 0), (.iload 4, 0, 1), (.invokevirtual 70, 5, 721), (.ireturn, 0, 0)]
/-- LentHandsModel.leave(II)Z -/
def am_c72 : List am_I := [(.iload 0, 1, 0), (.iload 1, 0, 0), (.invokevirtual 8, 2, 147), (.ifCond .eq 17, 0, 0), (.iload 2, 0, 0), (.invokevirtual 11, 1, 729), (.ifCond .eq 17, 0, 0), (.iload 0, 1, 0), (.iload 1, 0, 0), (.iload 2, 0, 0), (.invokevirtual 12, 3, 697), (.bipush 2, 0, 0), (.iload 1, 0, 0), (.imul, 0, 0), (.iload 2, 0, 0), (.iadd, 0, 0), (.if_icmp .eq 19, 0, 0), (.bipush 0, 0, 0), (.ireturn, 1, 0), (.iload 0, 1, 0), (.invokevirtual 64, 1, 714), (.iload 0, 1, 0), (.bipush 2, 0, 0), (.iload 1, 0, 0), (.imul, 0, 0), (.iload 2, 0, 0), (.iadd, 0, 0), (.bipush (-1), 0, 0), (.invokevirtual 66, 3, 702), (.bipush 1, 0, 0), (.ireturn, 1, 0)]
/-- LentHandsModel.fetch(II)Z -/
def am_c73 : List am_I := [(.iload 0, 1, 0), (.iload 1, 0, 0), (.invokevirtual 8, 2, 147), (.ifCond .eq 23, 0, 0), (.iload 2, 0, 0), (.invokevirtual 11, 1, 729), (.ifCond .eq 23, 0, 0), (.iload 0, 1, 0), (.iload 1, 0, 0), (.iload 2, 0, 0), (.invokevirtual 12, 3, 697), (.bipush (-1), 0, 0), (.if_icmp .ne 23, 0, 0), (.iload 0, 1, 0), (.bipush 2, 0, 0), (.iload 1, 0, 0), (.imul, 0, 0), (.iload 2, 0, 0), (.iadd, 0, 0), (.bipush 8, 1, 0), (.invokevirtual 5, 3, 109), (.bipush (-1), 0, 0), (.if_icmp .eq 25, 0, 0), (.bipush 0, 0, 0), (.ireturn, 1, 0), (.iload 0, 1, 0), (.invokevirtual 64, 1, 714), (.iload 0, 1, 0), (.bipush 2, 0, 0), (.iload 1, 0, 0), (.imul, 0, 0), (.iload 2, 0, 0), (.iadd, 0, 0), (.iload 1, 0, 0), (.invokevirtual 66, 3, 702), (.bipush 1, 0, 0), (.ireturn, 1, 0)]
/-- LentHandsModel.task(II)Z -/
def am_c74 : List am_I := [(.iload 0, 1, 0), (.iload 1, 0, 0), (.invokevirtual 8, 2, 147), (.ifCond .eq 10, 0, 0), (.iload 2, 0, 0), (.bipush (-1), 0, 0), (.if_icmp .eq 12, 0, 0), (.iload 2, 0, 0), (.invokevirtual 10, 1, 735), (.ifCond .ne 12, 0, 0), (.bipush 0, 0, 0), (.ireturn, 1, 0), (.iload 0, 1, 0), (.invokevirtual 64, 1, 714), (.iload 0, 1, 0), (.iload 1, 0, 0), (.bipush 1, 0, 0), (.iload 2, 0, 0), (.invokevirtual 4, 4, 132), (.bipush 1, 0, 0), (.ireturn, 1, 0)]
/-- LentHandsModel.notes(III)V -/
def am_c75 : List am_I := [(.iload 0, 1, 0), (.checkcast 0, 7, 7), (.bipush 2, 0, 0), (.iaload, 0, 0), (.bipush 100, 1, 0), (.if_icmp .ne 7, 0, 0), (.return_, 0, 0), (.bipush 404, 2, 0), (.bipush 4, 0, 0), (.iload 0, 1, 0), (.checkcast 0, 7, 7), (.bipush 2, 0, 0), (.iaload, 0, 0), (.imul, 0, 0), (.iadd, 0, 0), (.istore 4, 0, 1), (.iload 0, 1, 0), (.checkcast 0, 7, 7), (.iload 4, 0, 1), (.iload 0, 1, 0), (.checkcast 0, 7, 7), (.bipush 0, 0, 0), (.iaload, 0, 0), (.iastore, 0, 0), (.iload 0, 1, 0), (.checkcast 0, 7, 7), (.iload 4, 0, 1), (.bipush 1, 0, 0), (.iadd, 0, 0), (.iload 1, 0, 0), (.iastore, 0, 0), (.iload 0, 1, 0), (.checkcast 0, 7, 7), (.iload 4, 0, 1), (.bipush 2, 0, 0), (.iadd, 0, 0), (.iload 2, 0, 0), (.iastore, 0, 0), (.iload 0, 1, 0), (.checkcast 0, 7, 7), (.iload 4, 0, 1), (.bipush 3, 0, 0), (.iadd, 0, 0), (.iload 3, 0, 0), (.iastore, 0, 0), (.iload 0, 1, 0), (.checkcast 0, 7, 7), (.bipush 2, 0, 0), (.dup2, 0, 0), (.iaload, 0, 0), (.bipush 1, 0, 0), (.iadd, 0, 0), (.iastore, 0, 0), (.return_, 0, 0)]
/-- LentHandsModel.guilty(I)V -/
def am_c76 : List am_I := [(.iload 0, 1, 0), (.iload 1, 0, 0), (.bipush 2, 0, 0), (.iload 0, 1, 0), (.iload 1, 0, 0), (.bipush 2, 0, 0), (.invokevirtual 3, 3, 655), (.bipush 1, 0, 0), (.iadd, 0, 0), (.invokevirtual 4, 4, 132), (.return_, 0, 0)]
/-- LentHandsModel.canDeed(II)Z -/
def am_c77 : List am_I := [(.iload 0, 1, 0), (.iload 1, 0, 0), (.invokevirtual 8, 2, 147), (.ifCond .eq 15, 0, 0), (.iload 2, 0, 0), (.invokevirtual 11, 1, 729), (.ifCond .eq 15, 0, 0), (.iload 0, 1, 0), (.iload 1, 0, 0), (.iload 2, 0, 0), (.invokevirtual 12, 3, 697), (.bipush (-1), 0, 0), (.if_icmp .eq 15, 0, 0), (.bipush 1, 0, 0), (.goto 16, 0, 0), (.bipush 0, 0, 0), (.ireturn, 1, 0)]
/-- LentHandsModel.deedBy(III)I -/
def am_c78 : List am_I := [(.iload 0, 1, 0), (.iload 1, 0, 0), (.iload 2, 0, 0), (.invokevirtual 12, 3, 697), (.istore 4, 0, 1), (.iload 0, 1, 0), (.iload 4, 0, 1), (.invokevirtual 61, 2, 679), (.istore 5, 0, 1), (.iload 0, 1, 0), (.iload 4, 0, 1), (.iload 1, 0, 0), (.invokevirtual 62, 3, 648), (.iload 0, 1, 0), (.checkcast 11, 7, 37), (.bipush 12, 1, 0), (.dup2, 0, 0), (.iaload, 0, 0), (.iload 3, 0, 0), (.iadd, 0, 0), (.iastore, 0, 0), (.iload 0, 1, 0), (.checkcast 11, 7, 37), (.bipush 6, 1, 0), (.iload 5, 0, 1), (.bipush (-1), 0, 0), (.if_icmp .ne 29, 0, 0), (.bipush 0, 0, 0), (.goto 33, 0, 0), (.iload 0, 1, 0), (.iload 5, 0, 1), (.bipush 4, 0, 0), (.invokevirtual 7, 3, 631), (.iastore, 0, 0), (.iload 0, 1, 0), (.bipush 2, 0, 0), (.bipush 23, 1, 0), (.invokevirtual 57, 3, 667), (.bipush 22, 1, 0), (.isub, 0, 0), (.ireturn, 0, 0)]
/-- LentHandsModel.deed(II)I -/
def am_c79 : List am_I := [(.iload 0, 1, 0), (.iload 1, 0, 0), (.iload 2, 0, 0), (.invokevirtual 77, 3, 741), (.ifCond .ne 7, 0, 0), (.bipush (-1), 0, 0), (.ireturn, 0, 0), (.iload 0, 1, 0), (.invokevirtual 64, 1, 714), (.iload 0, 1, 0), (.iload 1, 0, 0), (.iload 2, 0, 0), (.invokevirtual 12, 3, 697), (.istore 3, 0, 0), (.iload 0, 1, 0), (.iload 1, 0, 0), (.iload 2, 0, 0), (.bipush 0, 0, 0), (.invokevirtual 78, 4, 747), (.istore 4, 0, 1), (.iload 4, 0, 1), (.ifCond .eq 25, 0, 0), (.iload 4, 0, 1), (.bipush 2, 0, 0), (.if_icmp .ne 29, 0, 0), (.iload 0, 1, 0), (.iload 3, 0, 0), (.invokevirtual 13, 1, 643), (.invokevirtual 76, 2, 752), (.iload 4, 0, 1), (.bipush 1, 0, 0), (.if_icmp .eq 35, 0, 0), (.iload 4, 0, 1), (.bipush 2, 0, 0), (.if_icmp .ne 38, 0, 0), (.iload 0, 1, 0), (.iload 1, 0, 0), (.invokevirtual 76, 2, 752), (.iload 0, 1, 0), (.iload 3, 0, 0), (.iload 1, 0, 0), (.iload 4, 0, 1), (.invokevirtual 75, 4, 760), (.iload 4, 0, 1), (.ireturn, 0, 0)]
/-- LentHandsModel.books()I -/
def am_c80 : List am_I := [(.bipush 0, 0, 0), (.istore 1, 0, 0), (.bipush 0, 0, 0), (.istore 2, 0, 0), (.iload 2, 0, 0), (.iload 0, 1, 0), (.checkcast 0, 7, 7), (.bipush 286, 2, 0), (.iaload, 0, 0), (.if_icmp .ge 95, 0, 0), (.bipush 292, 2, 0), (.bipush 5, 0, 0), (.iload 2, 0, 0), (.imul, 0, 0), (.iadd, 0, 0), (.istore 3, 0, 0), (.iload 0, 1, 0), (.checkcast 0, 7, 7), (.iload 3, 0, 0), (.bipush 2, 0, 0), (.iadd, 0, 0), (.iaload, 0, 0), (.iload 0, 1, 0), (.checkcast 0, 7, 7), (.bipush 0, 0, 0), (.iaload, 0, 0), (.if_icmp .eq 28, 0, 0), (.goto 93, 0, 0), (.iload 0, 1, 0), (.iload 0, 1, 0), (.checkcast 0, 7, 7), (.iload 3, 0, 0), (.iaload, 0, 0), (.iload 0, 1, 0), (.checkcast 0, 7, 7), (.iload 3, 0, 0), (.bipush 1, 0, 0), (.iadd, 0, 0), (.iaload, 0, 0), (.iload 0, 1, 0), (.checkcast 0, 7, 7), (.iload 3, 0, 0), (.bipush 3, 0, 0), (.iadd, 0, 0), (.iaload, 0, 0), (.iload 0, 1, 0), (.checkcast 0, 7, 7), (.iload 3, 0, 0), (.bipush 4, 0, 0), (.iadd, 0, 0), (.iaload, 0, 0), (.invokevirtual 68, 5, 709), (.ifCond .eq 79, 0, 0), (.iload 0, 1, 0), (.iload 0, 1, 0), (.checkcast 0, 7, 7), (.iload 3, 0, 0), (.iaload, 0, 0), (.iload 0, 1, 0), (.checkcast 0, 7, 7), (.iload 3, 0, 0), (.bipush 1, 0, 0), (.iadd, 0, 0), (.iaload, 0, 0), (.iload 0, 1, 0), (.checkcast 0, 7, 7), (.iload 3, 0, 0), (.bipush 3, 0, 0), (.iadd, 0, 0), (.iaload, 0, 0), (.iload 0, 1, 0), (.checkcast 0, 7, 7), (.iload 3, 0, 0), (.bipush 4, 0, 0), (.iadd, 0, 0), (.iaload, 0, 0), (.invokevirtual 70, 5, 721), (.pop, 0, 0), (.goto 93, 0, 0), (.iload 0, 1, 0), (.getfield 27, 7, 383), (.bipush (-1), 0, 0), (.if_icmp .ne 92, 0, 0), (.iload 0, 1, 0), (.iload 2, 0, 0), (.putfield 27, 7, 766), (.iload 0, 1, 0), (.iload 0, 1, 0), (.checkcast 0, 7, 7), (.bipush 0, 0, 0), (.iaload, 0, 0), (.putfield 28, 7, 772), (.iinc 1 1, 0, 0), (.iinc 2 1, 0, 0), (.goto 4, 0, 0), (.iload 1, 0, 0), (.ireturn, 0, 0)]
/-- LentHandsModel.taskFacts(IIII)V -/
def am_c81 : List am_I := [(.iload 0, 1, 0), (.iload 1, 0, 0), (.iload 2, 0, 0), (.invokevirtual 62, 3, 648), (.iload 0, 1, 0), (.checkcast 11, 7, 37), (.bipush 11, 1, 0), (.iload 4, 0, 1), (.iastore, 0, 0), (.iload 0, 1, 0), (.checkcast 11, 7, 37), (.bipush 13, 1, 0), (.iload 3, 0, 0), (.iastore, 0, 0), (.iload 0, 1, 0), (.checkcast 11, 7, 37), (.bipush 14, 1, 0), (.iload 0, 1, 0), (.checkcast 0, 7, 7), (.bipush 0, 0, 0), (.iaload, 0, 0), (.iastore, 0, 0), (.return_, 0, 0)]
/-- LentHandsModel.works(IIZ)V -/
def am_c82 : List am_I := [(.iload 0, 1, 0), (.iload 1, 0, 0), (.bipush 1, 0, 0), (.invokevirtual 3, 3, 655), (.istore 4, 0, 1), (.iload 0, 1, 0), (.iload 2, 0, 0), (.iload 1, 0, 0), (.iload 4, 0, 1), (.iload 0, 1, 0), (.iload 2, 0, 0), (.bipush 0, 0, 0), (.iload 4, 0, 1), (.iadd, 0, 0), (.invokevirtual 5, 3, 109), (.invokevirtual 81, 5, 778), (.iload 0, 1, 0), (.bipush 26, 1, 0), (.bipush 9, 1, 0), (.invokevirtual 58, 3, 787), (.istore 5, 0, 1), (.iload 0, 1, 0), (.bipush 27, 1, 0), (.bipush 9, 1, 0), (.invokevirtual 58, 3, 787), (.istore 6, 0, 1), (.iload 0, 1, 0), (.bipush 29, 1, 0), (.bipush 99, 1, 0), (.invokevirtual 58, 3, 787), (.istore 7, 0, 1), (.iload 3, 0, 0), (.ifCond .eq 38, 0, 0), (.iload 0, 1, 0), (.bipush 28, 1, 0), (.bipush 1000, 2, 0), (.invokevirtual 58, 3, 787), (.goto 39, 0, 0), (.bipush 0, 0, 0), (.istore 8, 0, 1), (.iload 0, 1, 0), (.iload 2, 0, 0), (.bipush 0, 0, 0), (.iload 4, 0, 1), (.iadd, 0, 0), (.bipush 99, 1, 0), (.iload 0, 1, 0), (.iload 2, 0, 0), (.bipush 0, 0, 0), (.iload 4, 0, 1), (.iadd, 0, 0), (.invokevirtual 5, 3, 109), (.iload 5, 0, 1), (.iadd, 0, 0), (.invokevirtual 1, 2, 619), (.invokevirtual 6, 4, 140), (.iload 0, 1, 0), (.iload 2, 0, 0), (.bipush 4, 0, 0), (.bipush 99, 1, 0), (.iload 0, 1, 0), (.iload 2, 0, 0), (.bipush 4, 0, 0), (.invokevirtual 5, 3, 109), (.iload 6, 0, 1), (.iadd, 0, 0), (.invokevirtual 1, 2, 619), (.invokevirtual 6, 4, 140), (.iload 0, 1, 0), (.iload 1, 0, 0), (.iload 7, 0, 1), (.invokevirtual 69, 3, 690), (.iload 8, 0, 1), (.ifCond .le 91, 0, 0), (.iload 0, 1, 0), (.bipush 1000, 2, 0), (.invokevirtual 16, 2, 793), (.iload 8, 0, 1), (.if_icmp .ge 91, 0, 0), (.iload 0, 1, 0), (.iload 2, 0, 0), (.bipush 5, 0, 0), (.bipush 9, 1, 0), (.iload 0, 1, 0), (.iload 2, 0, 0), (.bipush 5, 0, 0), (.invokevirtual 5, 3, 109), (.bipush 1, 0, 0), (.iadd, 0, 0), (.invokevirtual 1, 2, 619), (.invokevirtual 6, 4, 140), (.return_, 0, 0)]
/-- LentHandsModel.ends(I)V -/
def am_c83 : List am_I := [(.iload 0, 1, 0), (.iload 1, 0, 0), (.bipush 0, 0, 0), (.invokevirtual 7, 3, 631), (.istore 2, 0, 0), (.iload 0, 1, 0), (.iload 1, 0, 0), (.bipush 1, 0, 0), (.invokevirtual 7, 3, 631), (.istore 3, 0, 0), (.iload 0, 1, 0), (.iload 1, 0, 0), (.bipush 2, 0, 0), (.invokevirtual 7, 3, 631), (.istore 4, 0, 1), (.iload 2, 0, 0), (.bipush 2, 0, 0), (.irem, 0, 0), (.istore 5, 0, 1), (.iload 0, 1, 0), (.iload 2, 0, 0), (.bipush 8, 1, 0), (.bipush (-1), 0, 0), (.invokevirtual 6, 4, 140), (.iload 0, 1, 0), (.iload 2, 0, 0), (.iload 0, 1, 0), (.iload 3, 0, 0), (.iload 5, 0, 1), (.invokevirtual 12, 3, 697), (.bipush (-1), 0, 0), (.if_icmp .ne 34, 0, 0), (.iload 3, 0, 0), (.goto 35, 0, 0), (.bipush (-1), 0, 0), (.invokevirtual 66, 3, 702), (.bipush 2, 0, 0), (.iload 4, 0, 1), (.imul, 0, 0), (.iload 5, 0, 1), (.iadd, 0, 0), (.istore 6, 0, 1), (.iload 0, 1, 0), (.iload 4, 0, 1), (.iload 5, 0, 1), (.invokevirtual 12, 3, 697), (.bipush (-1), 0, 0), (.if_icmp .ne 58, 0, 0), (.iload 0, 1, 0), (.iload 6, 0, 1), (.bipush 8, 1, 0), (.invokevirtual 5, 3, 109), (.bipush (-1), 0, 0), (.if_icmp .ne 58, 0, 0), (.iload 0, 1, 0), (.iload 6, 0, 1), (.iload 4, 0, 1), (.invokevirtual 66, 3, 702), (.bipush 196, 2, 0), (.bipush 5, 0, 0), (.iload 1, 0, 0), (.imul, 0, 0), (.iadd, 0, 0), (.istore 7, 0, 1), (.iload 7, 0, 1), (.bipush 196, 2, 0), (.bipush 5, 0, 0), (.iload 0, 1, 0), (.checkcast 0, 7, 7), (.bipush 1, 0, 0), (.iaload, 0, 0), (.bipush 1, 0, 0), (.isub, 0, 0), (.imul, 0, 0), (.iadd, 0, 0), (.if_icmp .ge 88, 0, 0), (.iload 0, 1, 0), (.checkcast 0, 7, 7), (.iload 7, 0, 1), (.iload 0, 1, 0), (.checkcast 0, 7, 7), (.iload 7, 0, 1), (.bipush 5, 0, 0), (.iadd, 0, 0), (.iaload, 0, 0), (.iastore, 0, 0), (.iinc 7 1, 0, 0), (.goto 64, 0, 0), (.iload 0, 1, 0), (.checkcast 0, 7, 7), (.bipush 1, 0, 0), (.dup2, 0, 0), (.iaload, 0, 0), (.bipush 1, 0, 0), (.isub, 0, 0), (.iastore, 0, 0), (.return_, 0, 0)]
/-- LentHandsModel.worksOn(IZ)V -/
def am_c84 : List am_I := [(.bipush 0, 0, 0), (.istore 3, 0, 0), (.iload 3, 0, 0), (.bipush 2, 0, 0), (.if_icmp .ge 20, 0, 0), (.iload 0, 1, 0), (.iload 1, 0, 0), (.iload 3, 0, 0), (.invokevirtual 12, 3, 697), (.istore 4, 0, 1), (.iload 4, 0, 1), (.bipush (-1), 0, 0), (.if_icmp .eq 18, 0, 0), (.iload 0, 1, 0), (.iload 1, 0, 0), (.iload 4, 0, 1), (.iload 2, 0, 0), (.invokevirtual 82, 4, 798), (.iinc 3 1, 0, 0), (.goto 2, 0, 0), (.return_, 0, 0)]
/-- LentHandsModel.marksAll()V -/
def am_c85 : List am_I := [(.bipush 0, 0, 0), (.istore 1, 0, 0), (.iload 1, 0, 0), (.bipush 2, 0, 0), (.iload 0, 1, 0), (.checkcast 0, 7, 7), (.bipush 276, 2, 0), (.iaload, 0, 0), (.imul, 0, 0), (.if_icmp .ge 43, 0, 0), (.iload 0, 1, 0), (.iload 1, 0, 0), (.bipush 8, 1, 0), (.invokevirtual 5, 3, 109), (.istore 2, 0, 0), (.iload 2, 0, 0), (.bipush (-1), 0, 0), (.if_icmp .ne 19, 0, 0), (.goto 41, 0, 0), (.iload 0, 1, 0), (.iload 1, 0, 0), (.bipush 7, 1, 0), (.iload 0, 1, 0), (.iload 1, 0, 0), (.bipush 7, 1, 0), (.invokevirtual 5, 3, 109), (.bipush 1, 0, 0), (.iadd, 0, 0), (.invokevirtual 6, 4, 140), (.iload 0, 1, 0), (.iload 1, 0, 0), (.bipush 6, 1, 0), (.iload 0, 1, 0), (.iload 1, 0, 0), (.bipush 6, 1, 0), (.invokevirtual 5, 3, 109), (.bipush 1, 0, 0), (.iload 2, 0, 0), (.ishl, 0, 0), (.ior, 0, 0), (.invokevirtual 6, 4, 140), (.iinc 1 1, 0, 0), (.goto 2, 0, 0), (.return_, 0, 0)]
/-- LentHandsModel.endsAll()V -/
def am_c86 : List am_I := [(.iload 0, 1, 0), (.checkcast 0, 7, 7), (.bipush 1, 0, 0), (.iaload, 0, 0), (.bipush 1, 0, 0), (.isub, 0, 0), (.istore 1, 0, 0), (.iload 1, 0, 0), (.ifCond .lt 23, 0, 0), (.iload 0, 1, 0), (.iload 1, 0, 0), (.bipush 3, 0, 0), (.invokevirtual 7, 3, 631), (.iload 0, 1, 0), (.checkcast 0, 7, 7), (.bipush 0, 0, 0), (.iaload, 0, 0), (.if_icmp .gt 21, 0, 0), (.iload 0, 1, 0), (.iload 1, 0, 0), (.invokevirtual 83, 2, 806), (.iinc 1 (-1), 0, 0), (.goto 7, 0, 0), (.return_, 0, 0)]
/-- LentHandsModel.anHour(Z)I -/
def am_c87 : List am_I := [(.iload 0, 1, 0), (.invokevirtual 80, 1, 813), (.istore 2, 0, 0), (.bipush 0, 0, 0), (.istore 3, 0, 0), (.iload 3, 0, 0), (.iload 0, 1, 0), (.checkcast 0, 7, 7), (.bipush 276, 2, 0), (.iaload, 0, 0), (.if_icmp .ge 23, 0, 0), (.iload 0, 1, 0), (.iload 3, 0, 0), (.bipush 1, 0, 0), (.invokevirtual 3, 3, 655), (.bipush (-1), 0, 0), (.if_icmp .eq 21, 0, 0), (.iload 0, 1, 0), (.iload 3, 0, 0), (.iload 1, 0, 0), (.invokevirtual 84, 3, 818), (.iinc 3 1, 0, 0), (.goto 5, 0, 0), (.iload 0, 1, 0), (.invokevirtual 85, 1, 826), (.iload 0, 1, 0), (.checkcast 0, 7, 7), (.bipush 0, 0, 0), (.dup2, 0, 0), (.iaload, 0, 0), (.bipush 1, 0, 0), (.iadd, 0, 0), (.iastore, 0, 0), (.iload 0, 1, 0), (.invokevirtual 86, 1, 832), (.iload 2, 0, 0), (.ireturn, 0, 0)]
/-- LentHandsModel.hours(I)I -/
def am_c88 : List am_I := [(.iload 1, 0, 0), (.bipush 1, 0, 0), (.bipush 100, 1, 0), (.invokevirtual 0, 3, 101), (.ifCond .eq 13, 0, 0), (.iload 0, 1, 0), (.checkcast 0, 7, 7), (.bipush 0, 0, 0), (.iaload, 0, 0), (.iload 1, 0, 0), (.iadd, 0, 0), (.bipush 9999, 2, 0), (.if_icmp .le 15, 0, 0), (.bipush (-1), 0, 0), (.ireturn, 0, 0), (.bipush 0, 0, 0), (.istore 2, 0, 0), (.bipush 0, 0, 0), (.istore 3, 0, 0), (.iload 3, 0, 0), (.iload 1, 0, 0), (.if_icmp .ge 32, 0, 0), (.iload 0, 1, 0), (.invokevirtual 64, 1, 714), (.iload 2, 0, 0), (.iload 0, 1, 0), (.bipush 1, 0, 0), (.invokevirtual 87, 2, 839), (.iadd, 0, 0), (.istore 2, 0, 0), (.iinc 3 1, 0, 0), (.goto 19, 0, 0), (.iload 2, 0, 0), (.ireturn, 0, 0)]
/-- LentHandsModel.ring(II)I -/
def am_c89 : List am_I := [(.iload 1, 0, 0), (.istore 3, 0, 0), (.bipush 1, 0, 0), (.istore 4, 0, 1), (.iload 4, 0, 1), (.bipush 8, 1, 0), (.if_icmp .gt 27, 0, 0), (.iload 0, 1, 0), (.iload 3, 0, 0), (.iload 2, 0, 0), (.invokevirtual 12, 3, 697), (.istore 5, 0, 1), (.iload 5, 0, 1), (.bipush (-1), 0, 0), (.if_icmp .ne 17, 0, 0), (.bipush 0, 0, 0), (.ireturn, 0, 0), (.iload 5, 0, 1), (.invokevirtual 13, 1, 643), (.istore 3, 0, 0), (.iload 3, 0, 0), (.iload 1, 0, 0), (.if_icmp .ne 25, 0, 0), (.iload 4, 0, 1), (.ireturn, 0, 0), (.iinc 4 1, 0, 0), (.goto 4, 0, 0), (.bipush 0, 0, 0), (.ireturn, 0, 0)]
/-- LentHandsModel.of(II)I -/
def am_c90 : List am_I := [(.iload 0, 1, 0), (.iload 1, 0, 0), (.invokevirtual 8, 2, 147), (.ifCond .ne 6, 0, 0), (.bipush (-2), 1, 0), (.ireturn, 0, 0), (.iload 2, 0, 0), (.tableswitch 50 0 7 #[8, 13, 20, 25, 30, 35, 40, 45], 48, 0), (.iload 0, 1, 0), (.iload 1, 0, 0), (.bipush 0, 0, 0), (.invokevirtual 3, 3, 655), (.ireturn, 0, 0), (.iload 0, 1, 0), (.checkcast 0, 7, 7), (.bipush 277, 2, 0), (.iload 1, 0, 0), (.iadd, 0, 0), (.iaload, 0, 0), (.ireturn, 0, 0), (.iload 0, 1, 0), (.iload 1, 0, 0), (.bipush 1, 0, 0), (.invokevirtual 3, 3, 655), (.ireturn, 0, 0), (.iload 0, 1, 0), (.iload 1, 0, 0), (.bipush 2, 0, 0), (.invokevirtual 3, 3, 655), (.ireturn, 0, 0), (.iload 0, 1, 0), (.iload 1, 0, 0), (.bipush 0, 0, 0), (.invokevirtual 12, 3, 697), (.ireturn, 0, 0), (.iload 0, 1, 0), (.iload 1, 0, 0), (.bipush 1, 0, 0), (.invokevirtual 12, 3, 697), (.ireturn, 0, 0), (.iload 0, 1, 0), (.iload 1, 0, 0), (.bipush 0, 0, 0), (.invokevirtual 89, 3, 847), (.ireturn, 0, 0), (.iload 0, 1, 0), (.iload 1, 0, 0), (.bipush 1, 0, 0), (.invokevirtual 89, 3, 847), (.ireturn, 0, 0), (.bipush (-2), 1, 0), (.ireturn, 0, 0)]
/-- LentHandsModel.at(II)I -/
def am_c91 : List am_I := [(.iload 0, 1, 0), (.iload 1, 0, 0), (.invokevirtual 9, 2, 155), (.ifCond .eq 9, 0, 0), (.iload 2, 0, 0), (.bipush 0, 0, 0), (.bipush 10, 1, 0), (.invokevirtual 0, 3, 101), (.ifCond .ne 11, 0, 0), (.bipush (-2), 1, 0), (.ireturn, 0, 0), (.iload 2, 0, 0), (.bipush 8, 1, 0), (.if_icmp .gt 19, 0, 0), (.iload 0, 1, 0), (.iload 1, 0, 0), (.iload 2, 0, 0), (.invokevirtual 5, 3, 109), (.ireturn, 0, 0), (.iload 2, 0, 0), (.bipush 9, 1, 0), (.if_icmp .ne 26, 0, 0), (.iload 0, 1, 0), (.iload 1, 0, 0), (.invokevirtual 60, 2, 661), (.ireturn, 0, 0), (.iload 0, 1, 0), (.iload 1, 0, 0), (.invokevirtual 61, 2, 679), (.istore 3, 0, 0), (.iload 3, 0, 0), (.bipush (-1), 0, 0), (.if_icmp .ne 35, 0, 0), (.bipush (-1), 0, 0), (.goto 39, 0, 0), (.iload 0, 1, 0), (.iload 3, 0, 0), (.bipush 3, 0, 0), (.invokevirtual 7, 3, 631), (.ireturn, 0, 0)]
/-- LentHandsModel.loan(II)I -/
def am_c92 : List am_I := [(.iload 1, 0, 0), (.bipush 0, 0, 0), (.iload 0, 1, 0), (.checkcast 0, 7, 7), (.bipush 1, 0, 0), (.iaload, 0, 0), (.bipush 1, 0, 0), (.isub, 0, 0), (.invokevirtual 0, 3, 101), (.ifCond .eq 20, 0, 0), (.iload 2, 0, 0), (.bipush 0, 0, 0), (.bipush 4, 0, 0), (.invokevirtual 0, 3, 101), (.ifCond .eq 20, 0, 0), (.iload 0, 1, 0), (.iload 1, 0, 0), (.iload 2, 0, 0), (.invokevirtual 7, 3, 631), (.goto 21, 0, 0), (.bipush (-1), 0, 0), (.ireturn, 0, 0)]
/-- LentHandsModel.book(II)I -/
def am_c93 : List am_I := [(.iload 1, 0, 0), (.bipush 0, 0, 0), (.iload 0, 1, 0), (.checkcast 0, 7, 7), (.bipush 2, 0, 0), (.iaload, 0, 0), (.bipush 1, 0, 0), (.isub, 0, 0), (.invokevirtual 0, 3, 101), (.ifCond .eq 26, 0, 0), (.iload 2, 0, 0), (.bipush 0, 0, 0), (.bipush 3, 0, 0), (.invokevirtual 0, 3, 101), (.ifCond .eq 26, 0, 0), (.iload 0, 1, 0), (.checkcast 0, 7, 7), (.bipush 404, 2, 0), (.bipush 4, 0, 0), (.iload 1, 0, 0), (.imul, 0, 0), (.iadd, 0, 0), (.iload 2, 0, 0), (.iadd, 0, 0), (.iaload, 0, 0), (.goto 27, 0, 0), (.bipush (-1), 0, 0), (.ireturn, 0, 0)]
/-- LentHandsModel.may(IIII)I -/
def am_c94 : List am_I := [(.iload 0, 1, 0), (.iload 1, 0, 0), (.invokevirtual 9, 2, 155), (.ifCond .eq 12, 0, 0), (.iload 0, 1, 0), (.iload 2, 0, 0), (.invokevirtual 8, 2, 147), (.ifCond .eq 12, 0, 0), (.iload 3, 0, 0), (.iload 4, 0, 1), (.invokevirtual 67, 2, 673), (.ifCond .ne 14, 0, 0), (.bipush (-1), 0, 0), (.ireturn, 0, 0), (.iload 0, 1, 0), (.iload 1, 0, 0), (.iload 2, 0, 0), (.iload 3, 0, 0), (.iload 4, 0, 1), (.invokevirtual 63, 5, 685), (.ifCond .eq 23, 0, 0), (.bipush 1, 0, 0), (.goto 24, 0, 0), (.bipush 0, 0, 0), (.ireturn, 0, 0)]
/-- LentHandsModel.chain(II)I -/
def am_c95 : List am_I := [(.iload 0, 1, 0), (.iload 1, 0, 0), (.invokevirtual 9, 2, 155), (.ifCond .eq 13, 0, 0), (.iload 2, 0, 0), (.bipush 0, 0, 0), (.iload 0, 1, 0), (.iload 1, 0, 0), (.invokevirtual 60, 2, 661), (.bipush 1, 0, 0), (.isub, 0, 0), (.invokevirtual 0, 3, 101), (.ifCond .ne 15, 0, 0), (.bipush (-1), 0, 0), (.ireturn, 0, 0), (.bipush 0, 0, 0), (.istore 3, 0, 0), (.bipush 0, 0, 0), (.istore 4, 0, 1), (.iload 0, 1, 0), (.iload 4, 0, 1), (.bipush 0, 0, 0), (.invokevirtual 7, 3, 631), (.iload 1, 0, 0), (.if_icmp .ne 28, 0, 0), (.iload 3, 0, 0), (.iload 2, 0, 0), (.if_icmp .ge 42, 0, 0), (.iload 3, 0, 0), (.iload 0, 1, 0), (.iload 4, 0, 1), (.bipush 0, 0, 0), (.invokevirtual 7, 3, 631), (.iload 1, 0, 0), (.if_icmp .ne 37, 0, 0), (.bipush 1, 0, 0), (.goto 38, 0, 0), (.bipush 0, 0, 0), (.iadd, 0, 0), (.istore 3, 0, 0), (.iinc 4 1, 0, 0), (.goto 19, 0, 0), (.iload 0, 1, 0), (.iload 4, 0, 1), (.bipush 1, 0, 0), (.invokevirtual 7, 3, 631), (.ireturn, 0, 0)]
/-- LentHandsModel.owes(II)I -/
def am_c96 : List am_I := [(.iload 0, 1, 0), (.iload 1, 0, 0), (.invokevirtual 8, 2, 147), (.ifCond .eq 9, 0, 0), (.iload 2, 0, 0), (.bipush 0, 0, 0), (.bipush 1, 0, 0), (.invokevirtual 0, 3, 101), (.ifCond .ne 11, 0, 0), (.bipush (-1), 0, 0), (.ireturn, 0, 0), (.bipush 0, 0, 0), (.istore 3, 0, 0), (.bipush 0, 0, 0), (.istore 4, 0, 1), (.iload 4, 0, 1), (.iload 0, 1, 0), (.checkcast 0, 7, 7), (.bipush 1, 0, 0), (.iaload, 0, 0), (.if_icmp .ge 44, 0, 0), (.iload 3, 0, 0), (.iload 0, 1, 0), (.iload 4, 0, 1), (.iload 2, 0, 0), (.ifCond .ne 28, 0, 0), (.bipush 2, 0, 0), (.goto 29, 0, 0), (.bipush 1, 0, 0), (.invokevirtual 7, 3, 631), (.iload 1, 0, 0), (.if_icmp .ne 39, 0, 0), (.bipush 1, 0, 0), (.iload 0, 1, 0), (.iload 4, 0, 1), (.bipush 0, 0, 0), (.invokevirtual 7, 3, 631), (.ishl, 0, 0), (.goto 40, 0, 0), (.bipush 0, 0, 0), (.ior, 0, 0), (.istore 3, 0, 0), (.iinc 4 1, 0, 0), (.goto 15, 0, 0), (.iload 3, 0, 0), (.ireturn, 0, 0)]
/-- LentHandsModel.callus()I -/
def am_c97 : List am_I := [(.bipush (-1), 0, 0), (.istore 1, 0, 0), (.bipush 0, 0, 0), (.istore 2, 0, 0), (.iload 2, 0, 0), (.bipush 2, 0, 0), (.iload 0, 1, 0), (.checkcast 0, 7, 7), (.bipush 276, 2, 0), (.iaload, 0, 0), (.imul, 0, 0), (.if_icmp .ge 35, 0, 0), (.iload 0, 1, 0), (.iload 2, 0, 0), (.bipush 8, 1, 0), (.invokevirtual 5, 3, 109), (.iload 2, 0, 0), (.invokevirtual 13, 1, 643), (.if_icmp .eq 33, 0, 0), (.iload 1, 0, 0), (.bipush (-1), 0, 0), (.if_icmp .eq 31, 0, 0), (.iload 0, 1, 0), (.iload 2, 0, 0), (.bipush 4, 0, 0), (.invokevirtual 5, 3, 109), (.iload 0, 1, 0), (.iload 1, 0, 0), (.bipush 4, 0, 0), (.invokevirtual 5, 3, 109), (.if_icmp .le 33, 0, 0), (.iload 2, 0, 0), (.istore 1, 0, 0), (.iinc 2 1, 0, 0), (.goto 4, 0, 0), (.iload 1, 0, 0), (.ireturn, 0, 0)]
/-- LentHandsModel.hasSkill(IIII)Z -/
def am_c98 : List am_I := [(.iload 0, 1, 0), (.iload 1, 0, 0), (.iload 2, 0, 0), (.invokevirtual 12, 3, 697), (.istore 5, 0, 1), (.iload 5, 0, 1), (.bipush (-1), 0, 0), (.if_icmp .eq 18, 0, 0), (.iload 0, 1, 0), (.iload 5, 0, 1), (.bipush 0, 0, 0), (.iload 3, 0, 0), (.iadd, 0, 0), (.invokevirtual 5, 3, 109), (.iload 4, 0, 1), (.if_icmp .lt 18, 0, 0), (.bipush 1, 0, 0), (.goto 19, 0, 0), (.bipush 0, 0, 0), (.ireturn, 1, 0)]
/-- LentHandsModel.canDo(II)Z -/
def am_c99 : List am_I := [(.bipush 372, 2, 0), (.bipush 4, 0, 0), (.iload 2, 0, 0), (.imul, 0, 0), (.iadd, 0, 0), (.istore 3, 0, 0), (.iload 0, 1, 0), (.iload 1, 0, 0), (.bipush 0, 0, 0), (.iload 0, 1, 0), (.checkcast 0, 7, 7), (.iload 3, 0, 0), (.iaload, 0, 0), (.iload 0, 1, 0), (.checkcast 0, 7, 7), (.iload 3, 0, 0), (.bipush 1, 0, 0), (.iadd, 0, 0), (.iaload, 0, 0), (.invokevirtual 98, 5, 853), (.istore 4, 0, 1), (.iload 0, 1, 0), (.iload 1, 0, 0), (.bipush 1, 0, 0), (.iload 0, 1, 0), (.checkcast 0, 7, 7), (.iload 3, 0, 0), (.iaload, 0, 0), (.iload 0, 1, 0), (.checkcast 0, 7, 7), (.iload 3, 0, 0), (.bipush 1, 0, 0), (.iadd, 0, 0), (.iaload, 0, 0), (.invokevirtual 98, 5, 853), (.istore 5, 0, 1), (.iload 0, 1, 0), (.checkcast 0, 7, 7), (.iload 3, 0, 0), (.bipush 3, 0, 0), (.iadd, 0, 0), (.iaload, 0, 0), (.bipush 1, 0, 0), (.if_icmp .ne 52, 0, 0), (.iload 4, 0, 1), (.ifCond .eq 50, 0, 0), (.iload 5, 0, 1), (.ifCond .eq 50, 0, 0), (.bipush 1, 0, 0), (.goto 59, 0, 0), (.bipush 0, 0, 0), (.goto 59, 0, 0), (.iload 4, 0, 1), (.ifCond .ne 56, 0, 0), (.iload 5, 0, 1), (.ifCond .eq 58, 0, 0), (.bipush 1, 0, 0), (.goto 59, 0, 0), (.bipush 0, 0, 0), (.ireturn, 1, 0)]
/-- LentHandsModel.can(II)I -/
def am_c100 : List am_I := [(.iload 0, 1, 0), (.iload 1, 0, 0), (.invokevirtual 8, 2, 147), (.ifCond .eq 14, 0, 0), (.iload 2, 0, 0), (.bipush 0, 0, 0), (.iload 0, 1, 0), (.checkcast 0, 7, 7), (.bipush 287, 2, 0), (.iaload, 0, 0), (.bipush 1, 0, 0), (.isub, 0, 0), (.invokevirtual 0, 3, 101), (.ifCond .ne 16, 0, 0), (.bipush (-1), 0, 0), (.ireturn, 0, 0), (.iload 0, 1, 0), (.iload 1, 0, 0), (.iload 2, 0, 0), (.invokevirtual 99, 3, 859), (.ifCond .eq 23, 0, 0), (.bipush 1, 0, 0), (.goto 24, 0, 0), (.bipush 0, 0, 0), (.ireturn, 0, 0)]
/-- LentHandsModel.laysPay()V -/
def am_c101 : List am_I := [(.bipush 1, 0, 0), (.iload 0, 1, 0), (.checkcast 0, 7, 7), (.bipush 276, 2, 0), (.iaload, 0, 0), (.ishl, 0, 0), (.istore 1, 0, 0), (.bipush 0, 0, 0), (.istore 2, 0, 0), (.iload 2, 0, 0), (.iload 1, 0, 0), (.if_icmp .ge 26, 0, 0), (.iload 0, 1, 0), (.checkcast 29, 7, 44), (.bipush 256, 2, 0), (.iload 0, 1, 0), (.checkcast 0, 7, 7), (.bipush 287, 2, 0), (.iaload, 0, 0), (.imul, 0, 0), (.iload 2, 0, 0), (.iadd, 0, 0), (.bipush 0, 0, 0), (.iastore, 0, 0), (.iinc 2 1, 0, 0), (.goto 9, 0, 0), (.iload 0, 1, 0), (.checkcast 0, 7, 7), (.bipush 287, 2, 0), (.iaload, 0, 0), (.bipush 1, 0, 0), (.isub, 0, 0), (.istore 2, 0, 0), (.iload 2, 0, 0), (.ifCond .lt 113, 0, 0), (.bipush 0, 0, 0), (.istore 3, 0, 0), (.iload 3, 0, 0), (.iload 1, 0, 0), (.if_icmp .ge 111, 0, 0), (.iload 0, 1, 0), (.checkcast 29, 7, 44), (.bipush 256, 2, 0), (.iload 2, 0, 0), (.bipush 1, 0, 0), (.iadd, 0, 0), (.imul, 0, 0), (.iload 3, 0, 0), (.iadd, 0, 0), (.iaload, 0, 0), (.istore 4, 0, 1), (.bipush 0, 0, 0), (.istore 5, 0, 1), (.iload 5, 0, 1), (.iload 0, 1, 0), (.checkcast 0, 7, 7), (.bipush 276, 2, 0), (.iaload, 0, 0), (.if_icmp .ge 100, 0, 0), (.iload 3, 0, 0), (.iload 5, 0, 1), (.ishr, 0, 0), (.bipush 1, 0, 0), (.iand, 0, 0), (.ifCond .ne 98, 0, 0), (.iload 0, 1, 0), (.iload 5, 0, 1), (.iload 2, 0, 0), (.invokevirtual 99, 3, 859), (.ifCond .eq 98, 0, 0), (.iload 4, 0, 1), (.iload 0, 1, 0), (.checkcast 0, 7, 7), (.bipush 372, 2, 0), (.bipush 4, 0, 0), (.iload 2, 0, 0), (.imul, 0, 0), (.iadd, 0, 0), (.bipush 2, 0, 0), (.iadd, 0, 0), (.iaload, 0, 0), (.iload 0, 1, 0), (.checkcast 29, 7, 44), (.bipush 256, 2, 0), (.iload 2, 0, 0), (.bipush 1, 0, 0), (.iadd, 0, 0), (.imul, 0, 0), (.iload 3, 0, 0), (.bipush 1, 0, 0), (.iload 5, 0, 1), (.ishl, 0, 0), (.ior, 0, 0), (.iadd, 0, 0), (.iaload, 0, 0), (.iadd, 0, 0), (.invokevirtual 2, 2, 625), (.istore 4, 0, 1), (.iinc 5 1, 0, 0), (.goto 53, 0, 0), (.iload 0, 1, 0), (.checkcast 29, 7, 44), (.bipush 256, 2, 0), (.iload 2, 0, 0), (.imul, 0, 0), (.iload 3, 0, 0), (.iadd, 0, 0), (.iload 4, 0, 1), (.iastore, 0, 0), (.iinc 3 1, 0, 0), (.goto 37, 0, 0), (.iinc 2 (-1), 0, 0), (.goto 33, 0, 0), (.bipush 0, 0, 0), (.istore 2, 0, 0), (.bipush 0, 0, 0), (.istore 3, 0, 0), (.iload 3, 0, 0), (.iload 0, 1, 0), (.checkcast 0, 7, 7), (.bipush 287, 2, 0), (.iaload, 0, 0), (.if_icmp .ge 150, 0, 0), (.iload 0, 1, 0), (.checkcast 30, 7, 47), (.iload 3, 0, 0), (.iload 0, 1, 0), (.iload 3, 0, 0), (.iload 2, 0, 0), (.invokevirtual 102, 3, 865), (.iastore, 0, 0), (.iload 2, 0, 0), (.iload 0, 1, 0), (.checkcast 30, 7, 47), (.iload 3, 0, 0), (.iaload, 0, 0), (.bipush (-1), 0, 0), (.if_icmp .ne 140, 0, 0), (.bipush 0, 0, 0), (.goto 146, 0, 0), (.bipush 1, 0, 0), (.iload 0, 1, 0), (.checkcast 30, 7, 47), (.iload 3, 0, 0), (.iaload, 0, 0), (.ishl, 0, 0), (.ior, 0, 0), (.istore 2, 0, 0), (.iinc 3 1, 0, 0), (.goto 117, 0, 0), (.return_, 0, 0)]
/-- LentHandsModel.workerOf(II)I -/
def am_c102 : List am_I := [(.iload 0, 1, 0), (.checkcast 29, 7, 44), (.bipush 256, 2, 0), (.iload 1, 0, 0), (.imul, 0, 0), (.iload 2, 0, 0), (.iadd, 0, 0), (.iaload, 0, 0), (.istore 3, 0, 0), (.iload 0, 1, 0), (.checkcast 29, 7, 44), (.bipush 256, 2, 0), (.iload 1, 0, 0), (.bipush 1, 0, 0), (.iadd, 0, 0), (.imul, 0, 0), (.iload 2, 0, 0), (.iadd, 0, 0), (.iaload, 0, 0), (.iload 3, 0, 0), (.if_icmp .ne 23, 0, 0), (.bipush (-1), 0, 0), (.ireturn, 0, 0), (.bipush 0, 0, 0), (.istore 4, 0, 1), (.iload 2, 0, 0), (.iload 4, 0, 1), (.ishr, 0, 0), (.bipush 1, 0, 0), (.iand, 0, 0), (.bipush 1, 0, 0), (.if_icmp .eq 64, 0, 0), (.iload 0, 1, 0), (.iload 4, 0, 1), (.iload 1, 0, 0), (.invokevirtual 99, 3, 859), (.ifCond .eq 64, 0, 0), (.iload 0, 1, 0), (.checkcast 0, 7, 7), (.bipush 372, 2, 0), (.bipush 4, 0, 0), (.iload 1, 0, 0), (.imul, 0, 0), (.iadd, 0, 0), (.bipush 2, 0, 0), (.iadd, 0, 0), (.iaload, 0, 0), (.iload 0, 1, 0), (.checkcast 29, 7, 44), (.bipush 256, 2, 0), (.iload 1, 0, 0), (.bipush 1, 0, 0), (.iadd, 0, 0), (.imul, 0, 0), (.iload 2, 0, 0), (.bipush 1, 0, 0), (.iload 4, 0, 1), (.ishl, 0, 0), (.ior, 0, 0), (.iadd, 0, 0), (.iaload, 0, 0), (.iadd, 0, 0), (.iload 3, 0, 0), (.if_icmp .eq 66, 0, 0), (.iinc 4 1, 0, 0), (.goto 25, 0, 0), (.iload 4, 0, 1), (.ireturn, 0, 0)]
/-- LentHandsModel.pay(I)I -/
def am_c103 : List am_I := [(.iload 1, 0, 0), (.ifCond .eq 14, 0, 0), (.iload 1, 0, 0), (.bipush 10, 1, 0), (.bipush 9, 1, 0), (.iload 0, 1, 0), (.checkcast 0, 7, 7), (.bipush 287, 2, 0), (.iaload, 0, 0), (.iadd, 0, 0), (.invokevirtual 0, 3, 101), (.ifCond .ne 14, 0, 0), (.bipush (-1), 0, 0), (.ireturn, 0, 0), (.iload 0, 1, 0), (.invokevirtual 101, 1, 870), (.iload 1, 0, 0), (.ifCond .ne 23, 0, 0), (.iload 0, 1, 0), (.checkcast 29, 7, 44), (.bipush 0, 0, 0), (.iaload, 0, 0), (.goto 29, 0, 0), (.iload 0, 1, 0), (.checkcast 30, 7, 47), (.iload 1, 0, 0), (.bipush 10, 1, 0), (.isub, 0, 0), (.iaload, 0, 0), (.ireturn, 0, 0)]
/-- LentHandsModel.laysAside()V -/
def am_c104 : List am_I := [(.bipush 0, 0, 0), (.istore 1, 0, 0), (.iload 1, 0, 0), (.bipush 276, 2, 0), (.if_icmp .ge 15, 0, 0), (.iload 0, 1, 0), (.checkcast 3, 7, 19), (.iload 1, 0, 0), (.iload 0, 1, 0), (.checkcast 0, 7, 7), (.iload 1, 0, 0), (.iaload, 0, 0), (.iastore, 0, 0), (.iinc 1 1, 0, 0), (.goto 2, 0, 0), (.return_, 0, 0)]
/-- LentHandsModel.putsBack()V -/
def am_c105 : List am_I := [(.bipush 0, 0, 0), (.istore 1, 0, 0), (.iload 1, 0, 0), (.bipush 276, 2, 0), (.if_icmp .ge 15, 0, 0), (.iload 0, 1, 0), (.checkcast 0, 7, 7), (.iload 1, 0, 0), (.iload 0, 1, 0), (.checkcast 3, 7, 19), (.iload 1, 0, 0), (.iaload, 0, 0), (.iastore, 0, 0), (.iinc 1 1, 0, 0), (.goto 2, 0, 0), (.return_, 0, 0)]
/-- LentHandsModel.areBack()Z -/
def am_c106 : List am_I := [(.bipush 0, 0, 0), (.istore 1, 0, 0), (.iload 1, 0, 0), (.bipush 2, 0, 0), (.iload 0, 1, 0), (.checkcast 0, 7, 7), (.bipush 276, 2, 0), (.iaload, 0, 0), (.imul, 0, 0), (.if_icmp .ge 21, 0, 0), (.iload 0, 1, 0), (.iload 1, 0, 0), (.bipush 8, 1, 0), (.invokevirtual 5, 3, 109), (.iload 1, 0, 0), (.invokevirtual 13, 1, 643), (.if_icmp .eq 19, 0, 0), (.bipush 0, 0, 0), (.ireturn, 1, 0), (.iinc 1 1, 0, 0), (.goto 2, 0, 0), (.bipush 1, 0, 0), (.ireturn, 1, 0)]
/-- LentHandsModel.back()I -/
def am_c107 : List am_I := [(.iload 0, 1, 0), (.invokevirtual 104, 1, 876), (.bipush (-1), 0, 0), (.istore 1, 0, 0), (.bipush 0, 0, 0), (.istore 2, 0, 0), (.iload 2, 0, 0), (.bipush 300, 2, 0), (.if_icmp .gt 27, 0, 0), (.iload 1, 0, 0), (.bipush (-1), 0, 0), (.if_icmp .ne 27, 0, 0), (.iload 0, 1, 0), (.invokevirtual 106, 1, 883), (.ifCond .eq 21, 0, 0), (.iload 0, 1, 0), (.checkcast 0, 7, 7), (.bipush 0, 0, 0), (.iaload, 0, 0), (.istore 1, 0, 0), (.goto 25, 0, 0), (.iload 0, 1, 0), (.bipush 0, 0, 0), (.invokevirtual 87, 2, 839), (.pop, 0, 0), (.iinc 2 1, 0, 0), (.goto 6, 0, 0), (.iload 0, 1, 0), (.invokevirtual 105, 1, 888), (.iload 1, 0, 0), (.ireturn, 0, 0)]
/-- LentHandsModel.where(II)I -/
def am_c108 : List am_I := [(.iload 0, 1, 0), (.iload 1, 0, 0), (.invokevirtual 9, 2, 155), (.ifCond .eq 9, 0, 0), (.iload 2, 0, 0), (.bipush 0, 0, 0), (.bipush 300, 2, 0), (.invokevirtual 0, 3, 101), (.ifCond .ne 11, 0, 0), (.bipush (-2), 1, 0), (.ireturn, 0, 0), (.iload 0, 1, 0), (.invokevirtual 104, 1, 876), (.bipush 0, 0, 0), (.istore 3, 0, 0), (.iload 3, 0, 0), (.iload 2, 0, 0), (.if_icmp .ge 24, 0, 0), (.iload 0, 1, 0), (.bipush 0, 0, 0), (.invokevirtual 87, 2, 839), (.pop, 0, 0), (.iinc 3 1, 0, 0), (.goto 15, 0, 0), (.iload 0, 1, 0), (.iload 1, 0, 0), (.bipush 8, 1, 0), (.invokevirtual 5, 3, 109), (.istore 3, 0, 0), (.iload 0, 1, 0), (.invokevirtual 105, 1, 888), (.iload 3, 0, 0), (.ireturn, 0, 0)]
/-- LentHandsModel.fails(I)I -/
def am_c109 : List am_I := [(.iload 1, 0, 0), (.bipush 0, 0, 0), (.bipush 1, 0, 0), (.invokevirtual 0, 3, 101), (.ifCond .ne 7, 0, 0), (.bipush (-1), 0, 0), (.ireturn, 0, 0), (.iload 0, 1, 0), (.invokevirtual 104, 1, 876), (.iload 0, 1, 0), (.bipush (-1), 0, 0), (.putfield 27, 7, 766), (.iload 0, 1, 0), (.bipush (-1), 0, 0), (.putfield 28, 7, 772), (.bipush 0, 0, 0), (.istore 2, 0, 0), (.iload 2, 0, 0), (.bipush 300, 2, 0), (.if_icmp .ge 30, 0, 0), (.iload 0, 1, 0), (.getfield 27, 7, 383), (.bipush (-1), 0, 0), (.if_icmp .ne 30, 0, 0), (.iload 0, 1, 0), (.bipush 0, 0, 0), (.invokevirtual 87, 2, 839), (.pop, 0, 0), (.iinc 2 1, 0, 0), (.goto 17, 0, 0), (.iload 0, 1, 0), (.invokevirtual 105, 1, 888), (.iload 1, 0, 0), (.ifCond .ne 37, 0, 0), (.iload 0, 1, 0), (.getfield 27, 7, 383), (.goto 39, 0, 0), (.iload 0, 1, 0), (.getfield 28, 7, 386), (.ireturn, 0, 0)]
/-- LentHandsModel.bare()I -/
def am_c110 : List am_I := [(.bipush 0, 0, 0), (.istore 1, 0, 0), (.bipush 0, 0, 0), (.istore 2, 0, 0), (.iload 2, 0, 0), (.iload 0, 1, 0), (.checkcast 0, 7, 7), (.bipush 276, 2, 0), (.iaload, 0, 0), (.if_icmp .ge 38, 0, 0), (.iload 1, 0, 0), (.iload 0, 1, 0), (.bipush 2, 0, 0), (.iload 2, 0, 0), (.imul, 0, 0), (.bipush 8, 1, 0), (.invokevirtual 5, 3, 109), (.iload 2, 0, 0), (.if_icmp .eq 33, 0, 0), (.iload 0, 1, 0), (.bipush 2, 0, 0), (.iload 2, 0, 0), (.imul, 0, 0), (.bipush 1, 0, 0), (.iadd, 0, 0), (.bipush 8, 1, 0), (.invokevirtual 5, 3, 109), (.iload 2, 0, 0), (.if_icmp .eq 33, 0, 0), (.bipush 1, 0, 0), (.iload 2, 0, 0), (.ishl, 0, 0), (.goto 34, 0, 0), (.bipush 0, 0, 0), (.ior, 0, 0), (.istore 1, 0, 0), (.iinc 2 1, 0, 0), (.goto 4, 0, 0), (.iload 1, 0, 0), (.ireturn, 0, 0)]
/-- LentHandsModel.whose(I)I -/
def am_c111 : List am_I := [(.iload 1, 0, 0), (.bipush 0, 0, 0), (.bipush 1, 0, 0), (.iload 0, 1, 0), (.checkcast 0, 7, 7), (.bipush 276, 2, 0), (.iaload, 0, 0), (.ishl, 0, 0), (.bipush 1, 0, 0), (.isub, 0, 0), (.invokevirtual 0, 3, 101), (.ifCond .ne 14, 0, 0), (.bipush (-1), 0, 0), (.ireturn, 0, 0), (.bipush 0, 0, 0), (.istore 2, 0, 0), (.bipush 0, 0, 0), (.istore 3, 0, 0), (.iload 3, 0, 0), (.bipush 2, 0, 0), (.iload 0, 1, 0), (.checkcast 0, 7, 7), (.bipush 276, 2, 0), (.iaload, 0, 0), (.imul, 0, 0), (.if_icmp .ge 45, 0, 0), (.iload 2, 0, 0), (.iload 1, 0, 0), (.iload 0, 1, 0), (.iload 3, 0, 0), (.bipush 6, 1, 0), (.invokevirtual 5, 3, 109), (.bipush (-1), 0, 0), (.ixor, 0, 0), (.iand, 0, 0), (.ifCond .ne 40, 0, 0), (.bipush 1, 0, 0), (.iload 3, 0, 0), (.ishl, 0, 0), (.goto 41, 0, 0), (.bipush 0, 0, 0), (.ior, 0, 0), (.istore 2, 0, 0), (.iinc 3 1, 0, 0), (.goto 18, 0, 0), (.iload 2, 0, 0), (.ireturn, 0, 0)]
/-- LentHandsModel.count(I)I -/
def am_c112 : List am_I := [(.bipush 0, 0, 0), (.istore 1, 0, 0), (.bipush 0, 0, 0), (.istore 2, 0, 0), (.iload 2, 0, 0), (.bipush 16, 1, 0), (.if_icmp .ge 17, 0, 0), (.iload 1, 0, 0), (.iload 0, 0, 0), (.iload 2, 0, 0), (.ishr, 0, 0), (.bipush 1, 0, 0), (.iand, 0, 0), (.iadd, 0, 0), (.istore 1, 0, 0), (.iinc 2 1, 0, 0), (.goto 4, 0, 0), (.iload 1, 0, 0), (.ireturn, 0, 0)]
/-- LentHandsModel.ask(I)I -/
def am_c113 : List am_I := [(.iload 1, 0, 0), (.bipush 0, 0, 0), (.bipush 1, 0, 0), (.bipush 2, 0, 0), (.iload 0, 1, 0), (.checkcast 0, 7, 7), (.bipush 276, 2, 0), (.iaload, 0, 0), (.imul, 0, 0), (.ishl, 0, 0), (.bipush 1, 0, 0), (.isub, 0, 0), (.invokevirtual 0, 3, 101), (.ifCond .eq 18, 0, 0), (.iload 1, 0, 0), (.invokevirtual 112, 1, 895), (.bipush 2, 0, 0), (.if_icmp .ge 20, 0, 0), (.bipush (-1), 0, 0), (.ireturn, 0, 0), (.bipush (-1), 0, 0), (.istore 2, 0, 0), (.bipush 17, 1, 0), (.istore 3, 0, 0), (.bipush 0, 0, 0), (.istore 4, 0, 1), (.iload 4, 0, 1), (.iload 0, 1, 0), (.checkcast 0, 7, 7), (.bipush 276, 2, 0), (.iaload, 0, 0), (.if_icmp .ge 81, 0, 0), (.bipush 0, 0, 0), (.istore 5, 0, 1), (.bipush 0, 0, 0), (.istore 6, 0, 1), (.iload 6, 0, 1), (.bipush 16, 1, 0), (.if_icmp .ge 64, 0, 0), (.iload 5, 0, 1), (.iload 1, 0, 0), (.iload 6, 0, 1), (.ishr, 0, 0), (.bipush 1, 0, 0), (.iand, 0, 0), (.bipush 1, 0, 0), (.if_icmp .ne 59, 0, 0), (.iload 0, 1, 0), (.iload 6, 0, 1), (.bipush 6, 1, 0), (.invokevirtual 5, 3, 109), (.iload 4, 0, 1), (.ishr, 0, 0), (.bipush 1, 0, 0), (.iand, 0, 0), (.bipush 1, 0, 0), (.if_icmp .ne 59, 0, 0), (.bipush 1, 0, 0), (.goto 60, 0, 0), (.bipush 0, 0, 0), (.iadd, 0, 0), (.istore 5, 0, 1), (.iinc 6 1, 0, 0), (.goto 36, 0, 0), (.iload 5, 0, 1), (.iload 1, 0, 0), (.invokevirtual 112, 1, 895), (.iload 5, 0, 1), (.isub, 0, 0), (.invokevirtual 2, 2, 625), (.istore 6, 0, 1), (.iload 6, 0, 1), (.iload 3, 0, 0), (.if_icmp .lt 75, 0, 0), (.goto 79, 0, 0), (.iload 6, 0, 1), (.istore 3, 0, 0), (.iload 4, 0, 1), (.istore 2, 0, 0), (.iinc 4 1, 0, 0), (.goto 26, 0, 0), (.iload 2, 0, 0), (.ireturn, 0, 0)]
/-- LentHandsModel.laysHours(III)V -/
def am_c114 : List am_I := [(.iload 0, 1, 0), (.iload 1, 0, 0), (.bipush 8, 1, 0), (.invokevirtual 5, 3, 109), (.istore 4, 0, 1), (.iload 0, 1, 0), (.iload 1, 0, 0), (.bipush 0, 0, 0), (.iload 2, 0, 0), (.iadd, 0, 0), (.invokevirtual 5, 3, 109), (.istore 5, 0, 1), (.iload 0, 1, 0), (.iload 1, 0, 0), (.bipush 4, 0, 0), (.invokevirtual 5, 3, 109), (.istore 6, 0, 1), (.iload 0, 1, 0), (.bipush 1000000, 4, 450), (.putfield 32, 7, 902), (.bipush 0, 0, 0), (.istore 7, 0, 1), (.iload 7, 0, 1), (.iload 3, 0, 0), (.if_icmp .ge 93, 0, 0), (.iload 0, 1, 0), (.iload 1, 0, 0), (.iload 4, 0, 1), (.iload 2, 0, 0), (.iload 5, 0, 1), (.invokevirtual 81, 5, 778), (.iload 0, 1, 0), (.checkcast 11, 7, 37), (.bipush 3, 0, 0), (.iload 6, 0, 1), (.iastore, 0, 0), (.iload 0, 1, 0), (.checkcast 11, 7, 37), (.bipush 12, 1, 0), (.iload 0, 1, 0), (.iload 1, 0, 0), (.bipush 7, 1, 0), (.invokevirtual 5, 3, 109), (.iload 7, 0, 1), (.iadd, 0, 0), (.iastore, 0, 0), (.iload 0, 1, 0), (.checkcast 11, 7, 37), (.bipush 14, 1, 0), (.iload 0, 1, 0), (.checkcast 0, 7, 7), (.bipush 0, 0, 0), (.iaload, 0, 0), (.iload 7, 0, 1), (.iadd, 0, 0), (.iastore, 0, 0), (.iload 0, 1, 0), (.bipush 26, 1, 0), (.bipush 9, 1, 0), (.invokevirtual 58, 3, 787), (.istore 8, 0, 1), (.iload 0, 1, 0), (.bipush 27, 1, 0), (.bipush 9, 1, 0), (.invokevirtual 58, 3, 787), (.istore 9, 0, 1), (.iload 0, 1, 0), (.iload 0, 1, 0), (.getfield 32, 7, 451), (.bipush 1000, 2, 0), (.iload 0, 1, 0), (.bipush 28, 1, 0), (.bipush 1000, 2, 0), (.invokevirtual 58, 3, 787), (.isub, 0, 0), (.imul, 0, 0), (.bipush 1000, 2, 0), (.idiv, 0, 0), (.putfield 32, 7, 902), (.bipush 99, 1, 0), (.iload 5, 0, 1), (.iload 8, 0, 1), (.iadd, 0, 0), (.invokevirtual 1, 2, 619), (.istore 5, 0, 1), (.bipush 99, 1, 0), (.iload 6, 0, 1), (.iload 9, 0, 1), (.iadd, 0, 0), (.invokevirtual 1, 2, 619), (.istore 6, 0, 1), (.iinc 7 1, 0, 0), (.goto 22, 0, 0), (.iload 0, 1, 0), (.iload 5, 0, 1), (.putfield 31, 7, 908), (.return_, 0, 0)]
/-- LentHandsModel.canLearn(III)Z -/
def am_c115 : List am_I := [(.iload 0, 1, 0), (.iload 1, 0, 0), (.invokevirtual 9, 2, 155), (.ifCond .eq 20, 0, 0), (.iload 0, 1, 0), (.iload 1, 0, 0), (.bipush 8, 1, 0), (.invokevirtual 5, 3, 109), (.bipush (-1), 0, 0), (.if_icmp .eq 20, 0, 0), (.iload 2, 0, 0), (.invokevirtual 10, 1, 735), (.ifCond .eq 20, 0, 0), (.iload 3, 0, 0), (.bipush 0, 0, 0), (.bipush 99, 1, 0), (.invokevirtual 0, 3, 101), (.ifCond .eq 20, 0, 0), (.bipush 1, 0, 0), (.goto 21, 0, 0), (.bipush 0, 0, 0), (.ireturn, 1, 0)]
/-- LentHandsModel.learns(III)I -/
def am_c116 : List am_I := [(.iload 0, 1, 0), (.iload 1, 0, 0), (.iload 2, 0, 0), (.iload 3, 0, 0), (.invokevirtual 115, 4, 915), (.ifCond .ne 8, 0, 0), (.bipush (-1), 0, 0), (.ireturn, 0, 0), (.iload 0, 1, 0), (.iload 1, 0, 0), (.iload 2, 0, 0), (.iload 3, 0, 0), (.invokevirtual 114, 4, 920), (.iload 0, 1, 0), (.getfield 31, 7, 454), (.ireturn, 0, 0)]
/-- LentHandsModel.safe(III)I -/
def am_c117 : List am_I := [(.iload 0, 1, 0), (.iload 1, 0, 0), (.iload 2, 0, 0), (.iload 3, 0, 0), (.invokevirtual 115, 4, 915), (.ifCond .ne 8, 0, 0), (.bipush (-1), 0, 0), (.ireturn, 0, 0), (.iload 0, 1, 0), (.iload 1, 0, 0), (.iload 2, 0, 0), (.iload 3, 0, 0), (.invokevirtual 114, 4, 920), (.iload 0, 1, 0), (.getfield 32, 7, 451), (.ireturn, 0, 0)]
/-- LentHandsModel.premium(II)I -/
def am_c118 : List am_I := [(.iload 1, 0, 0), (.invokevirtual 10, 1, 735), (.ifCond .eq 8, 0, 0), (.iload 2, 0, 0), (.bipush 0, 0, 0), (.bipush 99, 1, 0), (.invokevirtual 0, 3, 101), (.ifCond .ne 10, 0, 0), (.bipush (-1), 0, 0), (.ireturn, 0, 0), (.bipush 0, 0, 0), (.istore 3, 0, 0), (.bipush 0, 0, 0), (.istore 4, 0, 1), (.iload 4, 0, 1), (.bipush 2, 0, 0), (.iload 0, 1, 0), (.checkcast 0, 7, 7), (.bipush 276, 2, 0), (.iaload, 0, 0), (.imul, 0, 0), (.if_icmp .ge 40, 0, 0), (.iload 0, 1, 0), (.iload 4, 0, 1), (.bipush 8, 1, 0), (.invokevirtual 5, 3, 109), (.bipush (-1), 0, 0), (.if_icmp .eq 38, 0, 0), (.iload 3, 0, 0), (.bipush 1000000, 4, 450), (.iload 0, 1, 0), (.iload 4, 0, 1), (.iload 1, 0, 0), (.iload 2, 0, 0), (.invokevirtual 117, 4, 927), (.isub, 0, 0), (.iadd, 0, 0), (.istore 3, 0, 0), (.iinc 4 1, 0, 0), (.goto 14, 0, 0), (.iload 3, 0, 0), (.ireturn, 0, 0)]
/-- LentHandsModel.judged(III)I -/
def am_c119 : List am_I := [(.iload 0, 1, 0), (.iload 1, 0, 0), (.iload 2, 0, 0), (.invokevirtual 77, 3, 741), (.ifCond .eq 16, 0, 0), (.iload 3, 0, 0), (.bipush 0, 0, 0), (.bipush 99, 1, 0), (.invokevirtual 0, 3, 101), (.ifCond .eq 16, 0, 0), (.iload 0, 1, 0), (.iload 1, 0, 0), (.iload 2, 0, 0), (.iload 3, 0, 0), (.invokevirtual 78, 4, 747), (.goto 17, 0, 0), (.bipush (-1), 0, 0), (.ireturn, 0, 0)]
/-- LentHandsModel.loophole(II)I -/
def am_c120 : List am_I := [(.iload 0, 1, 0), (.iload 1, 0, 0), (.iload 2, 0, 0), (.invokevirtual 77, 3, 741), (.ifCond .ne 7, 0, 0), (.bipush (-1), 0, 0), (.ireturn, 0, 0), (.bipush 1, 0, 0), (.istore 3, 0, 0), (.iload 3, 0, 0), (.bipush 99, 1, 0), (.if_icmp .gt 27, 0, 0), (.iload 0, 1, 0), (.iload 1, 0, 0), (.iload 2, 0, 0), (.iload 3, 0, 0), (.invokevirtual 78, 4, 747), (.iload 0, 1, 0), (.iload 1, 0, 0), (.iload 2, 0, 0), (.bipush 0, 0, 0), (.invokevirtual 78, 4, 747), (.if_icmp .eq 25, 0, 0), (.iload 3, 0, 0), (.ireturn, 0, 0), (.iinc 3 1, 0, 0), (.goto 9, 0, 0), (.bipush (-1), 0, 0), (.ireturn, 0, 0)]
/-- LentHandsModel.finds(IIII)I -/
def am_c121 : List am_I := [(.iload 0, 1, 0), (.iload 1, 0, 0), (.invokevirtual 8, 2, 147), (.ifCond .eq 12, 0, 0), (.iload 2, 0, 0), (.invokevirtual 10, 1, 735), (.ifCond .eq 12, 0, 0), (.iload 4, 0, 1), (.bipush 1, 0, 0), (.bipush 99, 1, 0), (.invokevirtual 0, 3, 101), (.ifCond .ne 14, 0, 0), (.bipush (-1), 0, 0), (.ireturn, 0, 0), (.bipush 0, 0, 0), (.istore 5, 0, 1), (.iload 5, 0, 1), (.bipush 2, 0, 0), (.iload 0, 1, 0), (.checkcast 0, 7, 7), (.bipush 276, 2, 0), (.iaload, 0, 0), (.imul, 0, 0), (.if_icmp .ge 43, 0, 0), (.iload 0, 1, 0), (.iload 5, 0, 1), (.bipush 0, 0, 0), (.iload 2, 0, 0), (.iadd, 0, 0), (.invokevirtual 5, 3, 109), (.iload 3, 0, 0), (.if_icmp .lt 41, 0, 0), (.iload 0, 1, 0), (.iload 5, 0, 1), (.iload 1, 0, 0), (.iload 4, 0, 1), (.bipush 0, 0, 0), (.invokevirtual 68, 5, 709), (.ifCond .eq 41, 0, 0), (.iload 5, 0, 1), (.ireturn, 0, 0), (.iinc 5 1, 0, 0), (.goto 16, 0, 0), (.bipush (-1), 0, 0), (.ireturn, 0, 0)]
/-- LentHandsModel.dear(III)I -/
def am_c122 : List am_I := [(.bipush 99, 1, 0), (.istore 4, 0, 1), (.iload 4, 0, 1), (.ifCond .lt 15, 0, 0), (.iload 0, 1, 0), (.iload 1, 0, 0), (.iload 2, 0, 0), (.iload 3, 0, 0), (.iload 4, 0, 1), (.invokevirtual 68, 5, 709), (.ifCond .eq 13, 0, 0), (.iload 4, 0, 1), (.ireturn, 0, 0), (.iinc 4 (-1), 0, 0), (.goto 2, 0, 0), (.bipush (-1), 0, 0), (.ireturn, 0, 0)]
/-- LentHandsModel.isLent(II)Z -/
def am_c123 : List am_I := [(.iload 1, 0, 0), (.bipush (-1), 0, 0), (.if_icmp .ne 5, 0, 0), (.bipush 1, 0, 0), (.ireturn, 1, 0), (.iload 0, 1, 0), (.iload 1, 0, 0), (.iload 2, 0, 0), (.bipush 1, 0, 0), (.bipush 0, 0, 0), (.invokevirtual 68, 5, 709), (.ifCond .ne 14, 0, 0), (.bipush 0, 0, 0), (.ireturn, 1, 0), (.iload 0, 1, 0), (.iload 1, 0, 0), (.iload 2, 0, 0), (.bipush 1, 0, 0), (.bipush 0, 0, 0), (.invokevirtual 70, 5, 721), (.pop, 0, 0), (.bipush 1, 0, 0), (.ireturn, 1, 0)]
/-- LentHandsModel.canBy(IIII)Z -/
def am_c124 : List am_I := [(.iload 0, 1, 0), (.invokevirtual 104, 1, 876), (.iload 0, 1, 0), (.iload 3, 0, 0), (.iload 1, 0, 0), (.invokevirtual 123, 3, 933), (.ifCond .eq 19, 0, 0), (.iload 0, 1, 0), (.iload 4, 0, 1), (.iload 1, 0, 0), (.invokevirtual 123, 3, 933), (.ifCond .eq 19, 0, 0), (.iload 0, 1, 0), (.iload 1, 0, 0), (.iload 2, 0, 0), (.invokevirtual 99, 3, 859), (.ifCond .eq 19, 0, 0), (.bipush 1, 0, 0), (.goto 20, 0, 0), (.bipush 0, 0, 0), (.istore 5, 0, 1), (.iload 0, 1, 0), (.invokevirtual 105, 1, 888), (.iload 5, 0, 1), (.ireturn, 1, 0)]
/-- LentHandsModel.laysWishes(II)V -/
def am_c125 : List am_I := [(.iload 0, 1, 0), (.bipush (-1), 0, 0), (.putfield 33, 7, 938), (.bipush (-2), 1, 0), (.istore 3, 0, 0), (.iload 3, 0, 0), (.bipush 2, 0, 0), (.iload 0, 1, 0), (.checkcast 0, 7, 7), (.bipush 276, 2, 0), (.iaload, 0, 0), (.imul, 0, 0), (.if_icmp .ge 72, 0, 0), (.bipush (-1), 0, 0), (.istore 4, 0, 1), (.iload 4, 0, 1), (.bipush 2, 0, 0), (.iload 0, 1, 0), (.checkcast 0, 7, 7), (.bipush 276, 2, 0), (.iaload, 0, 0), (.imul, 0, 0), (.if_icmp .ge 70, 0, 0), (.iload 3, 0, 0), (.ifCond .ge 27, 0, 0), (.bipush (-1), 0, 0), (.goto 28, 0, 0), (.iload 3, 0, 0), (.istore 5, 0, 1), (.iload 5, 0, 1), (.bipush (-1), 0, 0), (.if_icmp .ne 34, 0, 0), (.bipush 0, 0, 0), (.goto 35, 0, 0), (.bipush 1, 0, 0), (.iload 4, 0, 1), (.bipush (-1), 0, 0), (.if_icmp .ne 40, 0, 0), (.bipush 0, 0, 0), (.goto 41, 0, 0), (.bipush 1, 0, 0), (.iadd, 0, 0), (.istore 6, 0, 1), (.iload 0, 1, 0), (.getfield 33, 7, 469), (.bipush (-1), 0, 0), (.if_icmp .eq 51, 0, 0), (.iload 6, 0, 1), (.iload 0, 1, 0), (.getfield 33, 7, 469), (.if_icmp .ge 68, 0, 0), (.iload 0, 1, 0), (.iload 1, 0, 0), (.iload 2, 0, 0), (.iload 5, 0, 1), (.iload 4, 0, 1), (.invokevirtual 124, 5, 945), (.ifCond .ne 59, 0, 0), (.goto 68, 0, 0), (.iload 0, 1, 0), (.iload 6, 0, 1), (.putfield 33, 7, 938), (.iload 0, 1, 0), (.iload 5, 0, 1), (.putfield 34, 7, 950), (.iload 0, 1, 0), (.iload 4, 0, 1), (.putfield 35, 7, 956), (.iinc 4 2, 0, 0), (.goto 15, 0, 0), (.iinc 3 2, 0, 0), (.goto 5, 0, 0), (.return_, 0, 0)]
/-- LentHandsModel.wishes(III)I -/
def am_c126 : List am_I := [(.iload 0, 1, 0), (.iload 1, 0, 0), (.invokevirtual 8, 2, 147), (.ifCond .eq 19, 0, 0), (.iload 2, 0, 0), (.bipush 0, 0, 0), (.iload 0, 1, 0), (.checkcast 0, 7, 7), (.bipush 287, 2, 0), (.iaload, 0, 0), (.bipush 1, 0, 0), (.isub, 0, 0), (.invokevirtual 0, 3, 101), (.ifCond .eq 19, 0, 0), (.iload 3, 0, 0), (.bipush 0, 0, 0), (.bipush 2, 0, 0), (.invokevirtual 0, 3, 101), (.ifCond .ne 21, 0, 0), (.bipush (-2), 1, 0), (.ireturn, 0, 0), (.iload 0, 1, 0), (.iload 1, 0, 0), (.iload 2, 0, 0), (.invokevirtual 125, 3, 962), (.iload 0, 1, 0), (.getfield 33, 7, 469), (.bipush (-1), 0, 0), (.if_icmp .ne 31, 0, 0), (.bipush (-2), 1, 0), (.ireturn, 0, 0), (.iload 3, 0, 0), (.ifCond .ne 36, 0, 0), (.iload 0, 1, 0), (.getfield 33, 7, 469), (.goto 44, 0, 0), (.iload 3, 0, 0), (.bipush 1, 0, 0), (.if_icmp .ne 42, 0, 0), (.iload 0, 1, 0), (.getfield 34, 7, 475), (.goto 44, 0, 0), (.iload 0, 1, 0), (.getfield 35, 7, 478), (.ireturn, 0, 0)]
/-- LentHandsModel.spread(II)I -/
def am_c127 : List am_I := [(.iload 1, 0, 0), (.invokevirtual 10, 1, 735), (.ifCond .ne 5, 0, 0), (.bipush (-1), 0, 0), (.ireturn, 0, 0), (.bipush 0, 0, 0), (.istore 3, 0, 0), (.bipush 0, 0, 0), (.istore 4, 0, 1), (.iload 4, 0, 1), (.iload 0, 1, 0), (.checkcast 0, 7, 7), (.bipush 276, 2, 0), (.iaload, 0, 0), (.if_icmp .ge 39, 0, 0), (.iload 3, 0, 0), (.iload 0, 1, 0), (.iload 4, 0, 1), (.bipush 0, 0, 0), (.iload 1, 0, 0), (.iload 2, 0, 0), (.invokevirtual 98, 5, 853), (.ifCond .ne 30, 0, 0), (.iload 0, 1, 0), (.iload 4, 0, 1), (.bipush 1, 0, 0), (.iload 1, 0, 0), (.iload 2, 0, 0), (.invokevirtual 98, 5, 853), (.ifCond .eq 34, 0, 0), (.bipush 1, 0, 0), (.iload 4, 0, 1), (.ishl, 0, 0), (.goto 35, 0, 0), (.bipush 0, 0, 0), (.ior, 0, 0), (.istore 3, 0, 0), (.iinc 4 1, 0, 0), (.goto 9, 0, 0), (.iload 3, 0, 0), (.ireturn, 0, 0)]
/-- LentHandsModel.out(I)I -/
def am_c128 : List am_I := [(.iload 1, 0, 0), (.bipush 0, 0, 0), (.bipush 300, 2, 0), (.invokevirtual 0, 3, 101), (.ifCond .ne 7, 0, 0), (.bipush (-1), 0, 0), (.ireturn, 0, 0), (.iload 0, 1, 0), (.invokevirtual 104, 1, 876), (.bipush 0, 0, 0), (.istore 2, 0, 0), (.iload 2, 0, 0), (.iload 1, 0, 0), (.if_icmp .ge 20, 0, 0), (.iload 0, 1, 0), (.bipush 0, 0, 0), (.invokevirtual 87, 2, 839), (.pop, 0, 0), (.iinc 2 1, 0, 0), (.goto 11, 0, 0), (.bipush 0, 0, 0), (.istore 2, 0, 0), (.bipush 0, 0, 0), (.istore 3, 0, 0), (.iload 3, 0, 0), (.bipush 2, 0, 0), (.iload 0, 1, 0), (.checkcast 0, 7, 7), (.bipush 276, 2, 0), (.iaload, 0, 0), (.imul, 0, 0), (.if_icmp .ge 49, 0, 0), (.iload 2, 0, 0), (.iload 0, 1, 0), (.iload 3, 0, 0), (.bipush 8, 1, 0), (.invokevirtual 5, 3, 109), (.iload 3, 0, 0), (.invokevirtual 13, 1, 643), (.if_icmp .eq 44, 0, 0), (.bipush 1, 0, 0), (.iload 3, 0, 0), (.ishl, 0, 0), (.goto 45, 0, 0), (.bipush 0, 0, 0), (.ior, 0, 0), (.istore 2, 0, 0), (.iinc 3 1, 0, 0), (.goto 24, 0, 0), (.iload 0, 1, 0), (.invokevirtual 105, 1, 888), (.iload 2, 0, 0), (.ireturn, 0, 0)]
/-- LentHandsModel.turnsOf(IIII)I -/
def am_c129 : List am_I := [(.iload 1, 0, 0), (.bipush 1, 0, 0), (.bipush 60, 1, 0), (.invokevirtual 0, 3, 101), (.ifCond .eq 24, 0, 0), (.iload 2, 0, 0), (.bipush 1, 0, 0), (.bipush 9, 1, 0), (.invokevirtual 0, 3, 101), (.ifCond .eq 24, 0, 0), (.iload 3, 0, 0), (.bipush 1, 0, 0), (.bipush 9, 1, 0), (.invokevirtual 0, 3, 101), (.ifCond .eq 24, 0, 0), (.iload 4, 0, 1), (.ifCond .eq 26, 0, 0), (.iload 4, 0, 1), (.bipush 10, 1, 0), (.bipush 9, 1, 0), (.iload 1, 0, 0), (.iadd, 0, 0), (.invokevirtual 0, 3, 101), (.ifCond .ne 26, 0, 0), (.bipush (-1), 0, 0), (.ireturn, 0, 0), (.bipush 0, 0, 0), (.istore 5, 0, 1), (.bipush 0, 0, 0), (.istore 6, 0, 1), (.bipush 0, 0, 0), (.istore 7, 0, 1), (.iload 7, 0, 1), (.iload 1, 0, 0), (.if_icmp .ge 75, 0, 0), (.iload 5, 0, 1), (.iload 3, 0, 0), (.imul, 0, 0), (.iload 6, 0, 1), (.iload 2, 0, 0), (.imul, 0, 0), (.if_icmp .gt 44, 0, 0), (.bipush 1, 0, 0), (.goto 45, 0, 0), (.bipush 0, 0, 0), (.istore 8, 0, 1), (.iload 4, 0, 1), (.bipush 10, 1, 0), (.iload 7, 0, 1), (.iadd, 0, 0), (.if_icmp .ne 57, 0, 0), (.iload 8, 0, 1), (.ifCond .eq 55, 0, 0), (.bipush 0, 0, 0), (.goto 56, 0, 0), (.bipush 1, 0, 0), (.ireturn, 0, 0), (.iload 5, 0, 1), (.iload 8, 0, 1), (.ifCond .eq 62, 0, 0), (.bipush 1, 0, 0), (.goto 63, 0, 0), (.bipush 0, 0, 0), (.iadd, 0, 0), (.istore 5, 0, 1), (.iload 6, 0, 1), (.iload 8, 0, 1), (.ifCond .eq 70, 0, 0), (.bipush 0, 0, 0), (.goto 71, 0, 0), (.bipush 1, 0, 0), (.iadd, 0, 0), (.istore 6, 0, 1), (.iinc 7 1, 0, 0), (.goto 32, 0, 0), (.iload 5, 0, 1), (.ireturn, 0, 0)]
/-- LentHandsModel.image(Z)Z -/
def am_c130 : List am_I := [(.iload 1, 0, 0), (.ifCond .ne 7, 0, 0), (.iload 0, 1, 0), (.getfield 5, 7, 484), (.ifCond .ne 7, 0, 0), (.bipush 0, 0, 0), (.ireturn, 1, 0), (.bipush 0, 0, 0), (.istore 2, 0, 0), (.iload 2, 0, 0), (.bipush 3456, 2, 0), (.if_icmp .ge 33, 0, 0), (.iload 1, 0, 0), (.ifCond .eq 23, 0, 0), (.iload 0, 1, 0), (.checkcast 1, 7, 13), (.iload 2, 0, 0), (.iload 0, 1, 0), (.checkcast 0, 7, 7), (.iload 2, 0, 0), (.iaload, 0, 0), (.iastore, 0, 0), (.goto 31, 0, 0), (.iload 0, 1, 0), (.checkcast 0, 7, 7), (.iload 2, 0, 0), (.iload 0, 1, 0), (.checkcast 1, 7, 13), (.iload 2, 0, 0), (.iaload, 0, 0), (.iastore, 0, 0), (.iinc 2 1, 0, 0), (.goto 9, 0, 0), (.iload 1, 0, 0), (.ifCond .ne 37, 0, 0), (.iload 0, 1, 0), (.invokevirtual 14, 1, 122), (.iload 0, 1, 0), (.bipush 1, 0, 0), (.putfield 5, 7, 969), (.bipush 1, 0, 0), (.ireturn, 1, 0)]
/-- LentHandsModel.inOffice()I -/
def am_c131 : List am_I := [(.bipush 0, 0, 0), (.istore 1, 0, 0), (.bipush 0, 0, 0), (.istore 2, 0, 0), (.iload 2, 0, 0), (.bipush 2, 0, 0), (.iload 0, 1, 0), (.checkcast 0, 7, 7), (.bipush 276, 2, 0), (.iaload, 0, 0), (.imul, 0, 0), (.if_icmp .ge 28, 0, 0), (.iload 1, 0, 0), (.iload 0, 1, 0), (.iload 2, 0, 0), (.bipush 8, 1, 0), (.invokevirtual 5, 3, 109), (.bipush (-1), 0, 0), (.if_icmp .ne 23, 0, 0), (.bipush 1, 0, 0), (.iload 2, 0, 0), (.ishl, 0, 0), (.goto 24, 0, 0), (.bipush 0, 0, 0), (.ior, 0, 0), (.istore 1, 0, 0), (.iinc 2 1, 0, 0), (.goto 4, 0, 0), (.iload 1, 0, 0), (.ireturn, 0, 0)]
/-- LentHandsModel.look(I)I -/
def am_c132 : List am_I := [(.iload 1, 0, 0), (.tableswitch 58 0 11 #[2, 7, 12, 17, 22, 27, 32, 37, 42, 47, 52, 55], 63, 0), (.iload 0, 1, 0), (.checkcast 0, 7, 7), (.bipush 276, 2, 0), (.iaload, 0, 0), (.ireturn, 0, 0), (.iload 0, 1, 0), (.checkcast 0, 7, 7), (.bipush 0, 0, 0), (.iaload, 0, 0), (.ireturn, 0, 0), (.iload 0, 1, 0), (.checkcast 0, 7, 7), (.bipush 1, 0, 0), (.iaload, 0, 0), (.ireturn, 0, 0), (.iload 0, 1, 0), (.checkcast 0, 7, 7), (.bipush 2, 0, 0), (.iaload, 0, 0), (.ireturn, 0, 0), (.iload 0, 1, 0), (.checkcast 0, 7, 7), (.bipush 3, 0, 0), (.iaload, 0, 0), (.ireturn, 0, 0), (.iload 0, 1, 0), (.checkcast 0, 7, 7), (.bipush 288, 2, 0), (.iaload, 0, 0), (.ireturn, 0, 0), (.iload 0, 1, 0), (.checkcast 0, 7, 7), (.bipush 289, 2, 0), (.iaload, 0, 0), (.ireturn, 0, 0), (.iload 0, 1, 0), (.checkcast 0, 7, 7), (.bipush 290, 2, 0), (.iaload, 0, 0), (.ireturn, 0, 0), (.iload 0, 1, 0), (.checkcast 0, 7, 7), (.bipush 286, 2, 0), (.iaload, 0, 0), (.ireturn, 0, 0), (.iload 0, 1, 0), (.checkcast 0, 7, 7), (.bipush 287, 2, 0), (.iaload, 0, 0), (.ireturn, 0, 0), (.iload 0, 1, 0), (.getfield 4, 7, 58), (.ireturn, 0, 0), (.iload 0, 1, 0), (.invokevirtual 131, 1, 977), (.ireturn, 0, 0), (.bipush (-1), 0, 0), (.ireturn, 0, 0)]
/-- LentHands$World.copyFrom(LLentHands$World;)V -/
def am_c133 : List am_I := [(.iload 0, 1, 0), (.iload 1, 1, 0), (.getfield 0, 5, 48), (.putfield 0, 5, 96), (.iload 0, 1, 0), (.iload 1, 1, 0), (.getfield 1, 5, 52), (.putfield 1, 5, 104), (.iload 0, 1, 0), (.iload 1, 1, 0), (.getfield 2, 5, 55), (.putfield 2, 5, 110), (.iload 0, 1, 0), (.iload 1, 1, 0), (.getfield 3, 5, 58), (.putfield 3, 5, 116), (.iload 0, 1, 0), (.iload 1, 1, 0), (.getfield 4, 5, 61), (.putfield 4, 5, 122), (.iload 1, 1, 0), (.checkcast 5, 5, 9), (.bipush 0, 0, 0), (.iload 0, 1, 0), (.checkcast 5, 5, 9), (.bipush 0, 0, 0), (.bipush 8, 1, 0), (.lcmp, 64, 0), (.iload 1, 1, 0), (.checkcast 6, 5, 15), (.bipush 0, 0, 0), (.iload 0, 1, 0), (.checkcast 6, 5, 15), (.bipush 0, 0, 0), (.bipush 8, 1, 0), (.lcmp, 64, 0), (.iload 1, 1, 0), (.checkcast 7, 5, 18), (.bipush 0, 0, 0), (.iload 0, 1, 0), (.checkcast 7, 5, 18), (.bipush 0, 0, 0), (.bipush 8, 1, 0), (.lcmp, 64, 0), (.iload 1, 1, 0), (.checkcast 8, 5, 21), (.bipush 0, 0, 0), (.iload 0, 1, 0), (.checkcast 8, 5, 21), (.bipush 0, 0, 0), (.bipush 8, 1, 0), (.lcmp, 64, 0), (.iload 1, 1, 0), (.checkcast 9, 5, 24), (.bipush 0, 0, 0), (.iload 0, 1, 0), (.checkcast 9, 5, 24), (.bipush 0, 0, 0), (.bipush 16, 1, 0), (.lcmp, 64, 0), (.iload 1, 1, 0), (.checkcast 10, 5, 27), (.bipush 0, 0, 0), (.iload 0, 1, 0), (.checkcast 10, 5, 27), (.bipush 0, 0, 0), (.bipush 16, 1, 0), (.lcmp, 64, 0), (.iload 1, 1, 0), (.checkcast 11, 5, 30), (.bipush 0, 0, 0), (.iload 0, 1, 0), (.checkcast 11, 5, 30), (.bipush 0, 0, 0), (.bipush 64, 1, 0), (.lcmp, 64, 0), (.iload 1, 1, 0), (.checkcast 12, 5, 33), (.bipush 0, 0, 0), (.iload 0, 1, 0), (.checkcast 12, 5, 33), (.bipush 0, 0, 0), (.bipush 16, 1, 0), (.lcmp, 64, 0), (.iload 1, 1, 0), (.checkcast 13, 5, 36), (.bipush 0, 0, 0), (.iload 0, 1, 0), (.checkcast 13, 5, 36), (.bipush 0, 0, 0), (.bipush 16, 1, 0), (.lcmp, 64, 0), (.iload 1, 1, 0), (.checkcast 14, 5, 39), (.bipush 0, 0, 0), (.iload 0, 1, 0), (.checkcast 14, 5, 39), (.bipush 0, 0, 0), (.bipush 16, 1, 0), (.lcmp, 64, 0), (.iload 1, 1, 0), (.checkcast 15, 5, 42), (.bipush 0, 0, 0), (.iload 0, 1, 0), (.checkcast 15, 5, 42), (.bipush 0, 0, 0), (.bipush 16, 1, 0), (.lcmp, 64, 0), (.iload 1, 1, 0), (.checkcast 16, 5, 45), (.bipush 0, 0, 0), (.iload 0, 1, 0), (.checkcast 16, 5, 45), (.bipush 0, 0, 0), (.bipush 80, 1, 0), (.lcmp, 64, 0), (.return_, 0, 0)]
/-- LentHands$World.hasPerson(I)Z -/
def am_c134 : List am_I := [(.iload 1, 0, 0), (.ifCond .lt 8, 0, 0), (.iload 1, 0, 0), (.iload 0, 1, 0), (.getfield 2, 5, 55), (.if_icmp .ge 8, 0, 0), (.bipush 1, 0, 0), (.goto 9, 0, 0), (.bipush 0, 0, 0), (.ireturn, 1, 0)]
/-- LentHands$World.hasHand(I)Z -/
def am_c135 : List am_I := [(.iload 1, 0, 0), (.ifCond .lt 10, 0, 0), (.iload 1, 0, 0), (.bipush 2, 0, 0), (.iload 0, 1, 0), (.getfield 2, 5, 55), (.imul, 0, 0), (.if_icmp .ge 10, 0, 0), (.bipush 1, 0, 0), (.goto 11, 0, 0), (.bipush 0, 0, 0), (.ireturn, 1, 0)]
/-- LentHands$World.born(II)I -/
def am_c136 : List am_I := [(.iload 0, 1, 0), (.getfield 2, 5, 55), (.istore 3, 0, 0), (.iload 0, 1, 0), (.dup, 0, 0), (.getfield 2, 5, 55), (.bipush 1, 0, 0), (.iadd, 0, 0), (.putfield 2, 5, 110), (.iload 0, 1, 0), (.checkcast 5, 5, 9), (.iload 3, 0, 0), (.iload 1, 0, 0), (.iastore, 0, 0), (.iload 0, 1, 0), (.checkcast 6, 5, 15), (.iload 3, 0, 0), (.iload 2, 0, 0), (.iastore, 0, 0), (.iload 0, 1, 0), (.checkcast 7, 5, 18), (.iload 3, 0, 0), (.bipush (-1), 0, 0), (.iastore, 0, 0), (.iload 0, 1, 0), (.checkcast 9, 5, 24), (.bipush 2, 0, 0), (.iload 3, 0, 0), (.imul, 0, 0), (.bipush 2, 0, 0), (.iload 3, 0, 0), (.imul, 0, 0), (.iastore, 0, 0), (.iload 0, 1, 0), (.checkcast 9, 5, 24), (.bipush 2, 0, 0), (.iload 3, 0, 0), (.imul, 0, 0), (.bipush 1, 0, 0), (.iadd, 0, 0), (.bipush 2, 0, 0), (.iload 3, 0, 0), (.imul, 0, 0), (.bipush 1, 0, 0), (.iadd, 0, 0), (.iastore, 0, 0), (.iload 0, 1, 0), (.checkcast 10, 5, 27), (.bipush 2, 0, 0), (.iload 3, 0, 0), (.imul, 0, 0), (.iload 3, 0, 0), (.iastore, 0, 0), (.iload 0, 1, 0), (.checkcast 10, 5, 27), (.bipush 2, 0, 0), (.iload 3, 0, 0), (.imul, 0, 0), (.bipush 1, 0, 0), (.iadd, 0, 0), (.iload 3, 0, 0), (.iastore, 0, 0), (.iload 3, 0, 0), (.ireturn, 0, 0)]
/-- LentHands$World.tellPerson(ZII)Z -/
def am_c137 : List am_I := [(.iload 3, 0, 0), (.ifCond .lt 9, 0, 0), (.iload 3, 0, 0), (.iload 1, 0, 0), (.ifCond .eq 7, 0, 0), (.bipush 9999, 2, 0), (.goto 8, 0, 0), (.bipush 1, 0, 0), (.if_icmp .le 11, 0, 0), (.bipush 0, 0, 0), (.ireturn, 1, 0), (.iload 1, 0, 0), (.ifCond .eq 19, 0, 0), (.iload 0, 1, 0), (.checkcast 5, 5, 9), (.iload 2, 0, 0), (.iload 3, 0, 0), (.iastore, 0, 0), (.goto 24, 0, 0), (.iload 0, 1, 0), (.checkcast 6, 5, 15), (.iload 2, 0, 0), (.iload 3, 0, 0), (.iastore, 0, 0), (.bipush 1, 0, 0), (.ireturn, 1, 0)]
/-- LentHands$World.tellHand(III)Z -/
def am_c138 : List am_I := [(.iload 1, 0, 0), (.ifCond .lt 15, 0, 0), (.iload 1, 0, 0), (.bipush 5, 0, 0), (.if_icmp .gt 15, 0, 0), (.iload 3, 0, 0), (.ifCond .lt 15, 0, 0), (.iload 3, 0, 0), (.iload 1, 0, 0), (.bipush 4, 0, 0), (.if_icmp .gt 13, 0, 0), (.bipush 99, 1, 0), (.goto 14, 0, 0), (.bipush 9, 1, 0), (.if_icmp .le 17, 0, 0), (.bipush 0, 0, 0), (.ireturn, 1, 0), (.iload 1, 0, 0), (.bipush 4, 0, 0), (.if_icmp .ge 30, 0, 0), (.iload 0, 1, 0), (.checkcast 11, 5, 30), (.iload 2, 0, 0), (.bipush 4, 0, 0), (.imul, 0, 0), (.iload 1, 0, 0), (.iadd, 0, 0), (.iload 3, 0, 0), (.iastore, 0, 0), (.goto 44, 0, 0), (.iload 1, 0, 0), (.bipush 4, 0, 0), (.if_icmp .ne 39, 0, 0), (.iload 0, 1, 0), (.checkcast 12, 5, 33), (.iload 2, 0, 0), (.iload 3, 0, 0), (.iastore, 0, 0), (.goto 44, 0, 0), (.iload 0, 1, 0), (.checkcast 13, 5, 36), (.iload 2, 0, 0), (.iload 3, 0, 0), (.iastore, 0, 0), (.bipush 1, 0, 0), (.ireturn, 1, 0)]
/-- LentHands$World.isHome(I)Z -/
def am_c139 : List am_I := [(.iload 0, 1, 0), (.checkcast 10, 5, 27), (.iload 1, 0, 0), (.iaload, 0, 0), (.iload 1, 0, 0), (.bipush 1, 0, 0), (.ishr, 0, 0), (.if_icmp .ne 10, 0, 0), (.bipush 1, 0, 0), (.goto 11, 0, 0), (.bipush 0, 0, 0), (.ireturn, 1, 0)]
/-- LentHands$World.astray()I -/
def am_c140 : List am_I := [(.bipush 0, 0, 0), (.istore 1, 0, 0), (.bipush 0, 0, 0), (.istore 2, 0, 0), (.iload 2, 0, 0), (.bipush 2, 0, 0), (.iload 0, 1, 0), (.getfield 2, 5, 55), (.imul, 0, 0), (.if_icmp .ge 22, 0, 0), (.iload 0, 1, 0), (.iload 2, 0, 0), (.invokevirtual 139, 2, 141), (.ifCond .ne 20, 0, 0), (.iload 1, 0, 0), (.bipush 1, 0, 0), (.iload 2, 0, 0), (.ishl, 0, 0), (.ior, 0, 0), (.istore 1, 0, 0), (.iinc 2 1, 0, 0), (.goto 4, 0, 0), (.iload 1, 0, 0), (.ireturn, 0, 0)]
/-- LentHands$World.bestSkill(I)I -/
def am_c141 : List am_I := [(.bipush 0, 0, 0), (.istore 2, 0, 0), (.bipush 0, 0, 0), (.istore 3, 0, 0), (.iload 3, 0, 0), (.bipush 4, 0, 0), (.if_icmp .ge 25, 0, 0), (.iload 0, 1, 0), (.checkcast 11, 5, 30), (.iload 1, 0, 0), (.bipush 4, 0, 0), (.imul, 0, 0), (.iload 3, 0, 0), (.iadd, 0, 0), (.iaload, 0, 0), (.istore 4, 0, 1), (.iload 4, 0, 1), (.iload 2, 0, 0), (.if_icmp .le 21, 0, 0), (.iload 4, 0, 1), (.goto 22, 0, 0), (.iload 2, 0, 0), (.istore 2, 0, 0), (.iinc 3 1, 0, 0), (.goto 4, 0, 0), (.iload 2, 0, 0), (.ireturn, 0, 0)]
/-- LentHands$World.loanCell(II)I -/
def am_c142 : List am_I := [(.iload 0, 1, 0), (.checkcast 16, 5, 45), (.iload 1, 0, 0), (.bipush 5, 0, 0), (.imul, 0, 0), (.iload 2, 0, 0), (.iadd, 0, 0), (.iaload, 0, 0), (.ireturn, 0, 0)]
/-- LentHands$World.latestLoan(I)I -/
def am_c143 : List am_I := [(.iload 0, 1, 0), (.getfield 3, 5, 58), (.bipush 1, 0, 0), (.isub, 0, 0), (.istore 2, 0, 0), (.iload 2, 0, 0), (.ifCond .lt 17, 0, 0), (.iload 0, 1, 0), (.iload 2, 0, 0), (.bipush 0, 0, 0), (.invokevirtual 142, 3, 149), (.iload 1, 0, 0), (.if_icmp .ne 15, 0, 0), (.iload 2, 0, 0), (.ireturn, 0, 0), (.iinc 2 (-1), 0, 0), (.goto 5, 0, 0), (.bipush (-1), 0, 0), (.ireturn, 0, 0)]
/-- LentHands$World.loansOf(I)I -/
def am_c144 : List am_I := [(.bipush 0, 0, 0), (.istore 2, 0, 0), (.bipush 0, 0, 0), (.istore 3, 0, 0), (.iload 3, 0, 0), (.iload 0, 1, 0), (.getfield 3, 5, 58), (.if_icmp .ge 17, 0, 0), (.iload 0, 1, 0), (.iload 3, 0, 0), (.bipush 0, 0, 0), (.invokevirtual 142, 3, 149), (.iload 1, 0, 0), (.if_icmp .ne 15, 0, 0), (.iinc 2 1, 0, 0), (.iinc 3 1, 0, 0), (.goto 4, 0, 0), (.iload 2, 0, 0), (.ireturn, 0, 0)]
/-- LentHands$World.toOffice(I)V -/
def am_c145 : List am_I := [(.iload 0, 1, 0), (.checkcast 10, 5, 27), (.iload 1, 0, 0), (.iaload, 0, 0), (.bipush (-1), 0, 0), (.if_icmp .eq 20, 0, 0), (.iload 0, 1, 0), (.checkcast 9, 5, 24), (.bipush 2, 0, 0), (.iload 0, 1, 0), (.checkcast 10, 5, 27), (.iload 1, 0, 0), (.iaload, 0, 0), (.imul, 0, 0), (.iload 1, 0, 0), (.bipush 1, 0, 0), (.iand, 0, 0), (.iadd, 0, 0), (.bipush (-1), 0, 0), (.iastore, 0, 0), (.iload 0, 1, 0), (.checkcast 10, 5, 27), (.iload 1, 0, 0), (.bipush (-1), 0, 0), (.iastore, 0, 0), (.iload 0, 1, 0), (.checkcast 15, 5, 42), (.iload 1, 0, 0), (.bipush 0, 0, 0), (.iastore, 0, 0), (.return_, 0, 0)]
/-- LentHands$World.toWrist(II)V -/
def am_c146 : List am_I := [(.iload 0, 1, 0), (.checkcast 9, 5, 24), (.bipush 2, 0, 0), (.iload 2, 0, 0), (.imul, 0, 0), (.iload 1, 0, 0), (.bipush 1, 0, 0), (.iand, 0, 0), (.iadd, 0, 0), (.iload 1, 0, 0), (.iastore, 0, 0), (.iload 0, 1, 0), (.checkcast 10, 5, 27), (.iload 1, 0, 0), (.iload 2, 0, 0), (.iastore, 0, 0), (.iload 0, 1, 0), (.checkcast 15, 5, 42), (.iload 1, 0, 0), (.bipush 0, 0, 0), (.iastore, 0, 0), (.return_, 0, 0)]
/-- LentHands$World.makeLoan(IIII)I -/
def am_c147 : List am_I := [(.iload 0, 1, 0), (.checkcast 10, 5, 27), (.iload 1, 0, 0), (.iaload, 0, 0), (.istore 5, 0, 1), (.iload 0, 1, 0), (.checkcast 9, 5, 24), (.bipush 2, 0, 0), (.iload 2, 0, 0), (.imul, 0, 0), (.iload 1, 0, 0), (.bipush 1, 0, 0), (.iand, 0, 0), (.iadd, 0, 0), (.iaload, 0, 0), (.istore 6, 0, 1), (.iload 0, 1, 0), (.checkcast 5, 5, 9), (.iload 2, 0, 0), (.dup2, 0, 0), (.iaload, 0, 0), (.iload 3, 0, 0), (.iload 4, 0, 1), (.imul, 0, 0), (.isub, 0, 0), (.iastore, 0, 0), (.iload 0, 1, 0), (.checkcast 5, 5, 9), (.iload 5, 0, 1), (.iload 0, 1, 0), (.checkcast 5, 5, 9), (.iload 5, 0, 1), (.iaload, 0, 0), (.iload 3, 0, 0), (.iload 4, 0, 1), (.imul, 0, 0), (.iadd, 0, 0), (.bipush 9999, 2, 0), (.lsub, 78, 0), (.iastore, 0, 0), (.iload 6, 0, 1), (.bipush (-1), 0, 0), (.if_icmp .eq 46, 0, 0), (.iload 0, 1, 0), (.iload 6, 0, 1), (.invokevirtual 145, 2, 166), (.iload 0, 1, 0), (.iload 1, 0, 0), (.invokevirtual 145, 2, 166), (.iload 0, 1, 0), (.iload 1, 0, 0), (.iload 2, 0, 0), (.invokevirtual 146, 3, 174), (.iload 0, 1, 0), (.getfield 3, 5, 58), (.bipush 5, 0, 0), (.imul, 0, 0), (.istore 7, 0, 1), (.iload 0, 1, 0), (.checkcast 16, 5, 45), (.iload 7, 0, 1), (.bipush 0, 0, 0), (.iadd, 0, 0), (.iload 1, 0, 0), (.iastore, 0, 0), (.iload 0, 1, 0), (.checkcast 16, 5, 45), (.iload 7, 0, 1), (.bipush 1, 0, 0), (.iadd, 0, 0), (.iload 5, 0, 1), (.iastore, 0, 0), (.iload 0, 1, 0), (.checkcast 16, 5, 45), (.iload 7, 0, 1), (.bipush 2, 0, 0), (.iadd, 0, 0), (.iload 2, 0, 0), (.iastore, 0, 0), (.iload 0, 1, 0), (.checkcast 16, 5, 45), (.iload 7, 0, 1), (.bipush 3, 0, 0), (.iadd, 0, 0), (.iload 0, 1, 0), (.getfield 1, 5, 52), (.iload 3, 0, 0), (.iadd, 0, 0), (.iastore, 0, 0), (.iload 0, 1, 0), (.checkcast 16, 5, 45), (.iload 7, 0, 1), (.bipush 4, 0, 0), (.iadd, 0, 0), (.iload 4, 0, 1), (.iastore, 0, 0), (.iload 0, 1, 0), (.dup, 0, 0), (.getfield 3, 5, 58), (.bipush 1, 0, 0), (.iadd, 0, 0), (.putfield 3, 5, 116), (.iload 0, 1, 0), (.getfield 1, 5, 52), (.iload 3, 0, 0), (.iadd, 0, 0), (.ireturn, 0, 0)]
/-- LentHands$World.drawOfThousand()I -/
def am_c148 : List am_I := [(.iload 0, 1, 0), (.iload 0, 1, 0), (.getfield 0, 5, 48), (.bipush 1664525, 3, 91), (.imul, 0, 0), (.bipush 1013904223, 3, 92), (.iadd, 0, 0), (.putfield 0, 5, 96), (.iload 0, 1, 0), (.getfield 0, 5, 48), (.bipush 8, 1, 0), (.iushr, 0, 0), (.bipush 1000, 2, 0), (.irem, 0, 0), (.ireturn, 0, 0)]
/-- LentHands$World.growOld()V -/
def am_c149 : List am_I := [(.bipush 0, 0, 0), (.istore 1, 0, 0), (.iload 1, 0, 0), (.bipush 2, 0, 0), (.iload 0, 1, 0), (.getfield 2, 5, 55), (.imul, 0, 0), (.if_icmp .ge 37, 0, 0), (.iload 0, 1, 0), (.checkcast 10, 5, 27), (.iload 1, 0, 0), (.iaload, 0, 0), (.bipush (-1), 0, 0), (.if_icmp .eq 35, 0, 0), (.iload 0, 1, 0), (.checkcast 15, 5, 42), (.iload 1, 0, 0), (.dup2, 0, 0), (.iaload, 0, 0), (.bipush 1, 0, 0), (.iadd, 0, 0), (.iastore, 0, 0), (.iload 0, 1, 0), (.checkcast 14, 5, 39), (.iload 1, 0, 0), (.dup2, 0, 0), (.iaload, 0, 0), (.bipush 1, 0, 0), (.iload 0, 1, 0), (.checkcast 10, 5, 27), (.iload 1, 0, 0), (.iaload, 0, 0), (.ishl, 0, 0), (.ior, 0, 0), (.iastore, 0, 0), (.iinc 1 1, 0, 0), (.goto 2, 0, 0), (.iload 0, 1, 0), (.dup, 0, 0), (.getfield 1, 5, 52), (.bipush 1, 0, 0), (.iadd, 0, 0), (.putfield 1, 5, 104), (.return_, 0, 0)]
/-- LentHands$World.endLoans()V -/
def am_c150 : List am_I := [(.iload 0, 1, 0), (.getfield 3, 5, 58), (.bipush 1, 0, 0), (.isub, 0, 0), (.istore 1, 0, 0), (.iload 1, 0, 0), (.ifCond .lt 57, 0, 0), (.iload 0, 1, 0), (.iload 1, 0, 0), (.bipush 3, 0, 0), (.invokevirtual 142, 3, 149), (.iload 0, 1, 0), (.getfield 1, 5, 52), (.if_icmp .gt 55, 0, 0), (.iload 0, 1, 0), (.iload 0, 1, 0), (.iload 1, 0, 0), (.bipush 0, 0, 0), (.invokevirtual 142, 3, 149), (.iload 0, 1, 0), (.iload 1, 0, 0), (.bipush 1, 0, 0), (.invokevirtual 142, 3, 149), (.iload 0, 1, 0), (.iload 1, 0, 0), (.bipush 2, 0, 0), (.invokevirtual 142, 3, 149), (.invokevirtual 151, 4, 186), (.iload 1, 0, 0), (.bipush 1, 0, 0), (.iadd, 0, 0), (.bipush 5, 0, 0), (.imul, 0, 0), (.istore 2, 0, 0), (.iload 0, 1, 0), (.checkcast 16, 5, 45), (.iload 2, 0, 0), (.iload 0, 1, 0), (.checkcast 16, 5, 45), (.iload 2, 0, 0), (.bipush 5, 0, 0), (.isub, 0, 0), (.iload 0, 1, 0), (.getfield 3, 5, 58), (.bipush 5, 0, 0), (.imul, 0, 0), (.iload 2, 0, 0), (.isub, 0, 0), (.lcmp, 64, 0), (.iload 0, 1, 0), (.dup, 0, 0), (.getfield 3, 5, 58), (.bipush 1, 0, 0), (.isub, 0, 0), (.putfield 3, 5, 116), (.iinc 1 (-1), 0, 0), (.goto 5, 0, 0), (.return_, 0, 0)]
/-- LentHands$World.giveBack(III)V -/
def am_c151 : List am_I := [(.iload 1, 0, 0), (.bipush 1, 0, 0), (.iand, 0, 0), (.istore 4, 0, 1), (.bipush 2, 0, 0), (.iload 3, 0, 0), (.imul, 0, 0), (.iload 4, 0, 1), (.iadd, 0, 0), (.istore 5, 0, 1), (.iload 0, 1, 0), (.iload 1, 0, 0), (.invokevirtual 145, 2, 166), (.iload 0, 1, 0), (.checkcast 9, 5, 24), (.bipush 2, 0, 0), (.iload 2, 0, 0), (.imul, 0, 0), (.iload 4, 0, 1), (.iadd, 0, 0), (.iaload, 0, 0), (.bipush (-1), 0, 0), (.if_icmp .ne 27, 0, 0), (.iload 0, 1, 0), (.iload 1, 0, 0), (.iload 2, 0, 0), (.invokevirtual 146, 3, 174), (.iload 0, 1, 0), (.checkcast 9, 5, 24), (.iload 5, 0, 1), (.iaload, 0, 0), (.bipush (-1), 0, 0), (.if_icmp .ne 43, 0, 0), (.iload 0, 1, 0), (.checkcast 10, 5, 27), (.iload 5, 0, 1), (.iaload, 0, 0), (.bipush (-1), 0, 0), (.if_icmp .ne 43, 0, 0), (.iload 0, 1, 0), (.iload 5, 0, 1), (.iload 3, 0, 0), (.invokevirtual 146, 3, 174), (.return_, 0, 0)]
/-- LentHands$Law.copyFrom(LLentHands$Law;)V -/
def am_c152 : List am_I := [(.iload 0, 1, 0), (.iload 1, 1, 0), (.getfield 0, 1, 27), (.putfield 0, 1, 54), (.iload 0, 1, 0), (.iload 1, 1, 0), (.getfield 1, 1, 31), (.putfield 1, 1, 62), (.iload 1, 1, 0), (.checkcast 2, 1, 9), (.bipush 0, 0, 0), (.iload 0, 1, 0), (.checkcast 2, 1, 9), (.bipush 0, 0, 0), (.bipush 16, 1, 0), (.lcmp, 34, 0), (.iload 1, 1, 0), (.checkcast 3, 1, 15), (.bipush 0, 0, 0), (.iload 0, 1, 0), (.checkcast 3, 1, 15), (.bipush 0, 0, 0), (.bipush 16, 1, 0), (.lcmp, 34, 0), (.iload 1, 1, 0), (.checkcast 4, 1, 18), (.bipush 0, 0, 0), (.iload 0, 1, 0), (.checkcast 4, 1, 18), (.bipush 0, 0, 0), (.bipush 16, 1, 0), (.lcmp, 34, 0), (.iload 1, 1, 0), (.checkcast 5, 1, 21), (.bipush 0, 0, 0), (.iload 0, 1, 0), (.checkcast 5, 1, 21), (.bipush 0, 0, 0), (.bipush 16, 1, 0), (.lcmp, 34, 0), (.iload 1, 1, 0), (.checkcast 6, 1, 24), (.bipush 0, 0, 0), (.iload 0, 1, 0), (.checkcast 6, 1, 24), (.bipush 0, 0, 0), (.bipush 400, 2, 0), (.lcmp, 34, 0), (.return_, 0, 0)]
/-- LentHands$Law.put(I)V -/
def am_c153 : List am_I := [(.iload 0, 1, 0), (.getfield 1, 1, 31), (.bipush 400, 2, 0), (.if_icmp .ge 16, 0, 0), (.iload 0, 1, 0), (.checkcast 6, 1, 24), (.iload 0, 1, 0), (.getfield 1, 1, 31), (.iload 1, 0, 0), (.iastore, 0, 0), (.iload 0, 1, 0), (.dup, 0, 0), (.getfield 1, 1, 31), (.bipush 1, 0, 0), (.iadd, 0, 0), (.putfield 1, 1, 62), (.return_, 0, 0)]
/-- LentHands$Law.firstVerb(LLentHands$Asked;)I -/
def am_c154 : List am_I := [(.bipush 0, 0, 0), (.istore 2, 0, 0), (.iload 2, 0, 0), (.iload 0, 1, 0), (.getfield 0, 1, 27), (.if_icmp .ge 34, 0, 0), (.iload 0, 1, 0), (.checkcast 4, 1, 18), (.iload 2, 0, 0), (.iaload, 0, 0), (.iload 0, 1, 0), (.checkcast 5, 1, 21), (.iload 2, 0, 0), (.iaload, 0, 0), (.if_icmp .eq 27, 0, 0), (.iload 0, 1, 0), (.iload 0, 1, 0), (.checkcast 4, 1, 18), (.iload 2, 0, 0), (.iaload, 0, 0), (.iload 0, 1, 0), (.checkcast 5, 1, 21), (.iload 2, 0, 0), (.iaload, 0, 0), (.iload 1, 1, 0), (.invokevirtual 156, 4, 81), (.ifCond .eq 32, 0, 0), (.iload 0, 1, 0), (.checkcast 2, 1, 9), (.iload 2, 0, 0), (.iaload, 0, 0), (.ireturn, 0, 0), (.iinc 2 1, 0, 0), (.goto 2, 0, 0), (.bipush (-1), 0, 0), (.ireturn, 0, 0)]
/-- LentHands$Law.amount(ILLentHands$Asked;)I -/
def am_c155 : List am_I := [(.bipush 0, 0, 0), (.istore 3, 0, 0), (.iload 3, 0, 0), (.iload 0, 1, 0), (.getfield 0, 1, 27), (.if_icmp .ge 47, 0, 0), (.iload 0, 1, 0), (.checkcast 2, 1, 9), (.iload 3, 0, 0), (.iaload, 0, 0), (.iload 1, 0, 0), (.if_icmp .ne 45, 0, 0), (.iload 0, 1, 0), (.checkcast 4, 1, 18), (.iload 3, 0, 0), (.iaload, 0, 0), (.iload 0, 1, 0), (.checkcast 5, 1, 21), (.iload 3, 0, 0), (.iaload, 0, 0), (.if_icmp .eq 33, 0, 0), (.iload 0, 1, 0), (.iload 0, 1, 0), (.checkcast 4, 1, 18), (.iload 3, 0, 0), (.iaload, 0, 0), (.iload 0, 1, 0), (.checkcast 5, 1, 21), (.iload 3, 0, 0), (.iaload, 0, 0), (.iload 2, 1, 0), (.invokevirtual 156, 4, 81), (.ifCond .eq 45, 0, 0), (.iload 0, 1, 0), (.iload 0, 1, 0), (.checkcast 3, 1, 15), (.iload 3, 0, 0), (.iaload, 0, 0), (.iload 0, 1, 0), (.checkcast 4, 1, 18), (.iload 3, 0, 0), (.iaload, 0, 0), (.iload 2, 1, 0), (.invokevirtual 156, 4, 81), (.ireturn, 0, 0), (.iinc 3 1, 0, 0), (.goto 2, 0, 0), (.bipush 0, 0, 0), (.ireturn, 0, 0)]
/-- LentHands$Law.reckon(IILLentHands$Asked;)I -/
def am_c156 : List am_I := [(.iload 3, 1, 0), (.checkcast 1, 0, 44), (.istore 4, 1, 1), (.bipush 0, 0, 0), (.istore 5, 0, 1), (.iload 1, 0, 0), (.istore 6, 0, 1), (.iload 6, 0, 1), (.iload 2, 0, 0), (.if_icmp .ge 139, 0, 0), (.iload 0, 1, 0), (.checkcast 6, 1, 24), (.iload 6, 0, 1), (.iaload, 0, 0), (.istore 7, 0, 1), (.iload 7, 0, 1), (.bipush 20000, 2, 0), (.if_icmp .ge 37, 0, 0), (.iload 5, 0, 1), (.bipush 32, 1, 0), (.if_icmp .ge 137, 0, 0), (.iload 4, 1, 1), (.iload 5, 0, 1), (.iload 7, 0, 1), (.bipush 10000, 2, 0), (.if_icmp .ge 28, 0, 0), (.iload 7, 0, 1), (.goto 34, 0, 0), (.iload 3, 1, 0), (.checkcast 0, 0, 49), (.iload 7, 0, 1), (.bipush 10000, 2, 0), (.isub, 0, 0), (.iaload, 0, 0), (.iastore, 0, 0), (.iinc 5 1, 0, 0), (.goto 137, 0, 0), (.iload 7, 0, 1), (.bipush 20017, 2, 0), (.if_icmp .ne 56, 0, 0), (.iload 5, 0, 1), (.bipush 1, 0, 0), (.if_icmp .lt 137, 0, 0), (.iload 4, 1, 1), (.iload 5, 0, 1), (.bipush 1, 0, 0), (.isub, 0, 0), (.bipush 1, 0, 0), (.iload 4, 1, 1), (.iload 5, 0, 1), (.bipush 1, 0, 0), (.isub, 0, 0), (.iaload, 0, 0), (.isub, 0, 0), (.iastore, 0, 0), (.goto 137, 0, 0), (.iload 5, 0, 1), (.bipush 2, 0, 0), (.if_icmp .lt 137, 0, 0), (.iinc 5 (-1), 0, 0), (.iload 4, 1, 1), (.iload 5, 0, 1), (.bipush 1, 0, 0), (.isub, 0, 0), (.iaload, 0, 0), (.istore 8, 0, 1), (.iload 4, 1, 1), (.iload 5, 0, 1), (.iaload, 0, 0), (.istore 9, 0, 1), (.iload 7, 0, 1), (.bipush 20000, 2, 0), (.isub, 0, 0), (.lookupswitch 127 #[(16, 122), (42, 84), (43, 74), (45, 79), (47, 89), (60, 98), (61, 106), (62, 114)], 75, 0), (.iload 8, 0, 1), (.iload 9, 0, 1), (.iadd, 0, 0), (.istore 10, 0, 1), (.goto 131, 0, 0), (.iload 8, 0, 1), (.iload 9, 0, 1), (.isub, 0, 0), (.istore 10, 0, 1), (.goto 131, 0, 0), (.iload 8, 0, 1), (.iload 9, 0, 1), (.imul, 0, 0), (.istore 10, 0, 1), (.goto 131, 0, 0), (.iload 9, 0, 1), (.ifCond .ne 93, 0, 0), (.bipush 0, 0, 0), (.goto 96, 0, 0), (.iload 8, 0, 1), (.iload 9, 0, 1), (.idiv, 0, 0), (.istore 10, 0, 1), (.goto 131, 0, 0), (.iload 8, 0, 1), (.iload 9, 0, 1), (.if_icmp .ge 103, 0, 0), (.bipush 1, 0, 0), (.goto 104, 0, 0), (.bipush 0, 0, 0), (.istore 10, 0, 1), (.goto 131, 0, 0), (.iload 8, 0, 1), (.iload 9, 0, 1), (.if_icmp .ne 111, 0, 0), (.bipush 1, 0, 0), (.goto 112, 0, 0), (.bipush 0, 0, 0), (.istore 10, 0, 1), (.goto 131, 0, 0), (.iload 8, 0, 1), (.iload 9, 0, 1), (.if_icmp .le 119, 0, 0), (.bipush 1, 0, 0), (.goto 120, 0, 0), (.bipush 0, 0, 0), (.istore 10, 0, 1), (.goto 131, 0, 0), (.iload 8, 0, 1), (.iload 9, 0, 1), (.iand, 0, 0), (.istore 10, 0, 1), (.goto 131, 0, 0), (.iload 8, 0, 1), (.iload 9, 0, 1), (.ior, 0, 0), (.istore 10, 0, 1), (.iload 4, 1, 1), (.iload 5, 0, 1), (.bipush 1, 0, 0), (.isub, 0, 0), (.iload 10, 0, 1), (.iastore, 0, 0), (.iinc 6 1, 0, 0), (.goto 7, 0, 0), (.iload 4, 1, 1), (.bipush 0, 0, 0), (.iaload, 0, 0), (.ireturn, 0, 0)]
/-- LentHands$Table.cell(II)I -/
def am_c157 : List am_I := [(.iload 0, 1, 0), (.checkcast 1, 3, 9), (.iload 1, 0, 0), (.bipush 5, 0, 0), (.imul, 0, 0), (.iload 2, 0, 0), (.iadd, 0, 0), (.iaload, 0, 0), (.ireturn, 0, 0)]
/-- LentHands$Table.copyFrom(LLentHands$Table;)V -/
def am_c158 : List am_I := [(.iload 0, 1, 0), (.iload 1, 1, 0), (.getfield 0, 3, 15), (.putfield 0, 3, 30), (.iload 1, 1, 0), (.checkcast 1, 3, 9), (.bipush 0, 0, 0), (.iload 0, 1, 0), (.checkcast 1, 3, 9), (.bipush 0, 0, 0), (.bipush 80, 1, 0), (.lcmp, 19, 0), (.return_, 0, 0)]
/-- LentHands$Texts.copyFrom(LLentHands$Texts;)V -/
def am_c159 : List am_I := [(.bipush 0, 0, 0), (.istore 2, 0, 0), (.iload 2, 0, 0), (.bipush 3, 0, 0), (.if_icmp .ge 16, 0, 0), (.iload 0, 1, 0), (.checkcast 0, 4, 11), (.iload 2, 0, 0), (.aaload, 0, 0), (.iload 1, 1, 0), (.checkcast 0, 4, 11), (.iload 2, 0, 0), (.aaload, 0, 0), (.invokevirtual 152, 2, 56), (.iinc 2 1, 0, 0), (.goto 2, 0, 0), (.iload 0, 1, 0), (.checkcast 1, 4, 20), (.iload 1, 1, 0), (.checkcast 1, 4, 20), (.invokevirtual 158, 2, 64), (.iload 0, 1, 0), (.checkcast 2, 4, 24), (.iload 1, 1, 0), (.checkcast 2, 4, 24), (.invokevirtual 158, 2, 64), (.return_, 0, 0)]
/-- LentHands$Reader.begin([CI)V -/
def am_c160 : List am_I := [(.iload 0, 1, 0), (.bipush 0, 0, 0), (.putfield 3, 2, 78), (.iload 0, 1, 0), (.bipush 0, 0, 0), (.putfield 4, 2, 84), (.iload 0, 1, 0), (.bipush 0, 0, 0), (.putfield 5, 2, 90), (.iload 0, 1, 0), (.bipush (-1), 0, 0), (.putfield 6, 2, 42), (.bipush 0, 0, 0), (.istore 3, 0, 0), (.bipush 0, 0, 0), (.istore 4, 0, 1), (.iload 4, 0, 1), (.bipush 400, 2, 0), (.if_icmp .ge 42, 0, 0), (.iload 3, 0, 0), (.iload 2, 0, 0), (.if_icmp .ge 42, 0, 0), (.iload 1, 1, 0), (.iload 3, 0, 0), (.caload, 0, 0), (.bipush 32, 1, 0), (.if_icmp .eq 32, 0, 0), (.iload 1, 1, 0), (.iload 3, 0, 0), (.caload, 0, 0), (.bipush 10, 1, 0), (.if_icmp .ne 34, 0, 0), (.iinc 3 1, 0, 0), (.goto 40, 0, 0), (.iload 0, 1, 0), (.iload 1, 1, 0), (.iload 3, 0, 0), (.iload 2, 0, 0), (.invokevirtual 161, 4, 97), (.istore 3, 0, 0), (.iinc 4 1, 0, 0), (.goto 16, 0, 0), (.iload 0, 1, 0), (.bipush 202, 2, 0), (.bipush 0, 0, 0), (.iload 2, 0, 0), (.invokevirtual 162, 4, 104), (.return_, 0, 0)]
/-- LentHands$Reader.cutToken([CII)I -/
def am_c161 : List am_I := [(.iload 2, 0, 0), (.bipush 1, 0, 0), (.iadd, 0, 0), (.istore 4, 0, 1), (.iload 1, 1, 0), (.iload 2, 0, 0), (.caload, 0, 0), (.invokevirtual 163, 1, 113), (.ifCond .eq 28, 0, 0), (.iload 4, 0, 1), (.iload 3, 0, 0), (.if_icmp .ge 19, 0, 0), (.iload 1, 1, 0), (.iload 4, 0, 1), (.caload, 0, 0), (.invokevirtual 163, 1, 113), (.ifCond .eq 19, 0, 0), (.iinc 4 1, 0, 0), (.goto 9, 0, 0), (.iload 0, 1, 0), (.iload 1, 1, 0), (.iload 2, 0, 0), (.iload 4, 0, 1), (.invokevirtual 166, 3, 121), (.bipush 0, 0, 0), (.iload 2, 0, 0), (.invokevirtual 162, 4, 104), (.goto 86, 0, 0), (.iload 1, 1, 0), (.iload 2, 0, 0), (.caload, 0, 0), (.invokevirtual 164, 1, 127), (.ifCond .eq 72, 0, 0), (.iload 1, 1, 0), (.iload 2, 0, 0), (.caload, 0, 0), (.bipush 48, 1, 0), (.isub, 0, 0), (.istore 5, 0, 1), (.iload 4, 0, 1), (.iload 3, 0, 0), (.if_icmp .ge 59, 0, 0), (.iload 1, 1, 0), (.iload 4, 0, 1), (.caload, 0, 0), (.invokevirtual 164, 1, 127), (.ifCond .eq 59, 0, 0), (.iload 5, 0, 1), (.bipush 10, 1, 0), (.imul, 0, 0), (.iload 1, 1, 0), (.iload 4, 0, 1), (.caload, 0, 0), (.iadd, 0, 0), (.bipush 48, 1, 0), (.isub, 0, 0), (.istore 5, 0, 1), (.iinc 4 1, 0, 0), (.goto 39, 0, 0), (.iload 0, 1, 0), (.iload 4, 0, 1), (.iload 2, 0, 0), (.isub, 0, 0), (.bipush 4, 0, 0), (.if_icmp .gt 67, 0, 0), (.bipush 200, 2, 0), (.goto 68, 0, 0), (.bipush 201, 2, 0), (.iload 5, 0, 1), (.iload 2, 0, 0), (.invokevirtual 162, 4, 104), (.goto 86, 0, 0), (.iload 0, 1, 0), (.iload 1, 1, 0), (.iload 2, 0, 0), (.caload, 0, 0), (.invokevirtual 165, 1, 133), (.ifCond .eq 82, 0, 0), (.iload 1, 1, 0), (.iload 2, 0, 0), (.caload, 0, 0), (.goto 83, 0, 0), (.bipush 201, 2, 0), (.bipush 0, 0, 0), (.iload 2, 0, 0), (.invokevirtual 162, 4, 104), (.iload 4, 0, 1), (.ireturn, 0, 0)]
/-- LentHands$Reader.addToken(III)V -/
def am_c162 : List am_I := [(.iload 0, 1, 0), (.getfield 3, 2, 39), (.bipush 400, 2, 0), (.if_icmp .gt 28, 0, 0), (.iload 0, 1, 0), (.checkcast 0, 2, 9), (.iload 0, 1, 0), (.getfield 3, 2, 39), (.iload 1, 0, 0), (.iastore, 0, 0), (.iload 0, 1, 0), (.checkcast 1, 2, 15), (.iload 0, 1, 0), (.getfield 3, 2, 39), (.iload 2, 0, 0), (.iastore, 0, 0), (.iload 0, 1, 0), (.checkcast 2, 2, 18), (.iload 0, 1, 0), (.getfield 3, 2, 39), (.iload 3, 0, 0), (.iastore, 0, 0), (.iload 0, 1, 0), (.dup, 0, 0), (.getfield 3, 2, 39), (.bipush 1, 0, 0), (.iadd, 0, 0), (.putfield 3, 2, 78), (.return_, 0, 0)]
/-- LentHands$Reader.isLetter(C)Z -/
def am_c163 : List am_I := [(.iload 0, 0, 0), (.bipush 97, 1, 0), (.if_icmp .lt 6, 0, 0), (.iload 0, 0, 0), (.bipush 122, 1, 0), (.if_icmp .le 12, 0, 0), (.iload 0, 0, 0), (.bipush 65, 1, 0), (.if_icmp .lt 14, 0, 0), (.iload 0, 0, 0), (.bipush 90, 1, 0), (.if_icmp .gt 14, 0, 0), (.bipush 1, 0, 0), (.goto 15, 0, 0), (.bipush 0, 0, 0), (.ireturn, 1, 0)]
/-- LentHands$Reader.isDigit(C)Z -/
def am_c164 : List am_I := [(.iload 0, 0, 0), (.bipush 48, 1, 0), (.if_icmp .lt 8, 0, 0), (.iload 0, 0, 0), (.bipush 57, 1, 0), (.if_icmp .gt 8, 0, 0), (.bipush 1, 0, 0), (.goto 9, 0, 0), (.bipush 0, 0, 0), (.ireturn, 1, 0)]
/-- LentHands$Reader.isSign(C)Z -/
def am_c165 : List am_I := [(.iload 0, 0, 0), (.bipush 40, 1, 0), (.if_icmp .lt 6, 0, 0), (.iload 0, 0, 0), (.bipush 43, 1, 0), (.if_icmp .le 18, 0, 0), (.iload 0, 0, 0), (.bipush 45, 1, 0), (.if_icmp .eq 18, 0, 0), (.iload 0, 0, 0), (.bipush 47, 1, 0), (.if_icmp .eq 18, 0, 0), (.iload 0, 0, 0), (.bipush 59, 1, 0), (.if_icmp .lt 20, 0, 0), (.iload 0, 0, 0), (.bipush 62, 1, 0), (.if_icmp .gt 20, 0, 0), (.bipush 1, 0, 0), (.goto 21, 0, 0), (.bipush 0, 0, 0), (.ireturn, 1, 0)]
/-- LentHands$Reader.wordNumber([CII)I -/
def am_c166 : List am_I := [(.bipush 0, 0, 0), (.istore 3, 0, 0), (.bipush 0, 0, 0), (.istore 4, 0, 1), (.bipush 0, 0, 0), (.istore 5, 0, 1), (.iload 5, 0, 1), (.aload 300, 0, 69), (.invokevirtual 256, 1, 143), (.if_icmp .gt 41, 0, 0), (.iload 5, 0, 1), (.aload 300, 0, 69), (.invokevirtual 256, 1, 143), (.if_icmp .eq 19, 0, 0), (.aload 300, 0, 69), (.iload 5, 0, 1), (.invokevirtual 257, 2, 155), (.bipush 32, 1, 0), (.if_icmp .ne 39, 0, 0), (.iload 5, 0, 1), (.iload 4, 0, 1), (.isub, 0, 0), (.iload 2, 0, 0), (.iload 1, 0, 0), (.isub, 0, 0), (.if_icmp .ne 34, 0, 0), (.iload 0, 1, 0), (.iload 1, 0, 0), (.iload 4, 0, 1), (.iload 5, 0, 1), (.invokevirtual 167, 4, 163), (.ifCond .eq 34, 0, 0), (.iload 3, 0, 0), (.ireturn, 0, 0), (.iinc 3 1, 0, 0), (.iload 5, 0, 1), (.bipush 1, 0, 0), (.iadd, 0, 0), (.istore 4, 0, 1), (.iinc 5 1, 0, 0), (.goto 6, 0, 0), (.bipush 201, 2, 0), (.ireturn, 0, 0)]
/-- LentHands$Reader.isWordAt([CIII)Z -/
def am_c167 : List am_I := [(.iload 2, 0, 0), (.istore 4, 0, 1), (.iload 4, 0, 1), (.iload 3, 0, 0), (.if_icmp .ge 20, 0, 0), (.aload 300, 0, 69), (.iload 4, 0, 1), (.invokevirtual 257, 2, 155), (.iload 0, 1, 0), (.iload 1, 0, 0), (.iload 4, 0, 1), (.iadd, 0, 0), (.iload 2, 0, 0), (.isub, 0, 0), (.caload, 0, 0), (.if_icmp .eq 18, 0, 0), (.bipush 0, 0, 0), (.ireturn, 1, 0), (.iinc 4 1, 0, 0), (.goto 2, 0, 0), (.bipush 1, 0, 0), (.ireturn, 1, 0)]
/-- LentHands$Reader.seen()I -/
def am_c168 : List am_I := [(.iload 0, 1, 0), (.getfield 4, 2, 42), (.iload 0, 1, 0), (.getfield 3, 2, 39), (.if_icmp .ge 11, 0, 0), (.iload 0, 1, 0), (.checkcast 0, 2, 9), (.iload 0, 1, 0), (.getfield 4, 2, 42), (.iaload, 0, 0), (.goto 12, 0, 0), (.bipush 202, 2, 0), (.ireturn, 0, 0)]
/-- LentHands$Reader.refuse(I)Z -/
def am_c169 : List am_I := [(.iload 0, 1, 0), (.iload 1, 0, 0), (.putfield 5, 2, 90), (.iload 0, 1, 0), (.iload 0, 1, 0), (.getfield 4, 2, 42), (.iload 0, 1, 0), (.getfield 3, 2, 39), (.if_icmp .ge 15, 0, 0), (.iload 0, 1, 0), (.checkcast 2, 2, 18), (.iload 0, 1, 0), (.getfield 4, 2, 42), (.iaload, 0, 0), (.goto 16, 0, 0), (.bipush (-1), 0, 0), (.putfield 6, 2, 42), (.bipush 0, 0, 0), (.ireturn, 1, 0)]
/-- LentHands$Reader.skip(I)Z -/
def am_c170 : List am_I := [(.iload 0, 1, 0), (.invokevirtual 168, 1, 171), (.iload 1, 0, 0), (.if_icmp .eq 8, 0, 0), (.iload 0, 1, 0), (.bipush 1, 0, 0), (.invokevirtual 169, 2, 177), (.ireturn, 1, 0), (.iload 0, 1, 0), (.dup, 0, 0), (.getfield 4, 2, 42), (.bipush 1, 0, 0), (.iadd, 0, 0), (.putfield 4, 2, 84), (.bipush 1, 0, 0), (.ireturn, 1, 0)]
/-- LentHands$Reader.readLaw(I)Z -/
def am_c171 : List am_I := [(.iload 0, 1, 0), (.checkcast 8, 2, 28), (.bipush 0, 0, 0), (.putfield 0, 1, 184), (.iload 0, 1, 0), (.checkcast 8, 2, 28), (.bipush 0, 0, 0), (.putfield 1, 1, 190), (.iload 0, 1, 0), (.aload 202, 1, 98), (.iload 1, 0, 0), (.iaload, 0, 0), (.putfield 7, 2, 202), (.bipush 0, 0, 0), (.istore 2, 0, 0), (.iload 2, 0, 0), (.bipush 400, 2, 0), (.if_icmp .gt 30, 0, 0), (.iload 0, 1, 0), (.invokevirtual 168, 1, 171), (.bipush 202, 2, 0), (.if_icmp .eq 30, 0, 0), (.iload 0, 1, 0), (.iload 1, 0, 0), (.invokevirtual 172, 2, 209), (.ifCond .ne 28, 0, 0), (.bipush 0, 0, 0), (.ireturn, 1, 0), (.iinc 2 1, 0, 0), (.goto 15, 0, 0), (.bipush 1, 0, 0), (.ireturn, 1, 0)]
/-- LentHands$Reader.lawLine(I)Z -/
def am_c172 : List am_I := [(.iload 0, 1, 0), (.invokevirtual 168, 1, 171), (.istore 2, 0, 0), (.iload 0, 1, 0), (.checkcast 8, 2, 28), (.getfield 0, 1, 92), (.istore 3, 0, 0), (.iload 2, 0, 0), (.aload 200, 1, 107), (.iload 1, 0, 0), (.iaload, 0, 0), (.if_icmp .lt 17, 0, 0), (.iload 2, 0, 0), (.aload 201, 1, 110), (.iload 1, 0, 0), (.iaload, 0, 0), (.if_icmp .le 21, 0, 0), (.iload 0, 1, 0), (.bipush 1, 0, 0), (.invokevirtual 169, 2, 177), (.ireturn, 1, 0), (.iload 3, 0, 0), (.bipush 16, 1, 0), (.if_icmp .lt 28, 0, 0), (.iload 0, 1, 0), (.bipush 3, 0, 0), (.invokevirtual 169, 2, 177), (.ireturn, 1, 0), (.iload 0, 1, 0), (.dup, 0, 0), (.getfield 4, 2, 42), (.bipush 1, 0, 0), (.iadd, 0, 0), (.putfield 4, 2, 84), (.iload 0, 1, 0), (.checkcast 8, 2, 28), (.checkcast 2, 1, 113), (.iload 3, 0, 0), (.iload 2, 0, 0), (.iastore, 0, 0), (.iload 0, 1, 0), (.checkcast 8, 2, 28), (.checkcast 3, 1, 116), (.iload 3, 0, 0), (.iload 0, 1, 0), (.checkcast 8, 2, 28), (.getfield 1, 1, 95), (.iastore, 0, 0), (.iload 1, 0, 0), (.bipush 1, 0, 0), (.if_icmp .ne 56, 0, 0), (.iload 0, 1, 0), (.invokevirtual 175, 1, 239), (.ifCond .ne 56, 0, 0), (.bipush 0, 0, 0), (.ireturn, 1, 0), (.iload 0, 1, 0), (.checkcast 8, 2, 28), (.checkcast 4, 1, 123), (.iload 3, 0, 0), (.iload 0, 1, 0), (.checkcast 8, 2, 28), (.getfield 1, 1, 95), (.iastore, 0, 0), (.iload 0, 1, 0), (.invokevirtual 168, 1, 171), (.bipush 14, 1, 0), (.if_icmp .ne 80, 0, 0), (.iload 0, 1, 0), (.dup, 0, 0), (.getfield 4, 2, 42), (.bipush 1, 0, 0), (.iadd, 0, 0), (.putfield 4, 2, 84), (.iload 0, 1, 0), (.bipush 0, 0, 0), (.invokevirtual 173, 2, 253), (.ifCond .ne 80, 0, 0), (.bipush 0, 0, 0), (.ireturn, 1, 0), (.iload 0, 1, 0), (.checkcast 8, 2, 28), (.checkcast 5, 1, 129), (.iload 3, 0, 0), (.iload 0, 1, 0), (.checkcast 8, 2, 28), (.getfield 1, 1, 95), (.iastore, 0, 0), (.iload 0, 1, 0), (.checkcast 8, 2, 28), (.dup, 0, 0), (.getfield 0, 1, 92), (.bipush 1, 0, 0), (.iadd, 0, 0), (.putfield 0, 1, 184), (.iload 0, 1, 0), (.bipush 59, 1, 0), (.invokevirtual 170, 2, 265), (.ireturn, 1, 0)]
/-- LentHands$Reader.anyOf(I)Z -/
def am_c173 : List am_I := [(.bipush 0, 0, 0), (.istore 2, 0, 0), (.iload 2, 0, 0), (.bipush 400, 2, 0), (.if_icmp .gt 54, 0, 0), (.bipush 0, 0, 0), (.istore 3, 0, 0), (.iload 3, 0, 0), (.bipush 400, 2, 0), (.if_icmp .gt 35, 0, 0), (.iload 0, 1, 0), (.iload 1, 0, 0), (.invokevirtual 174, 2, 271), (.ifCond .ne 16, 0, 0), (.bipush 0, 0, 0), (.ireturn, 1, 0), (.iload 3, 0, 0), (.ifCond .le 22, 0, 0), (.iload 0, 1, 0), (.checkcast 8, 2, 28), (.bipush 20016, 2, 0), (.invokevirtual 153, 2, 276), (.iload 0, 1, 0), (.invokevirtual 168, 1, 171), (.bipush 16, 1, 0), (.if_icmp .eq 27, 0, 0), (.goto 35, 0, 0), (.iload 0, 1, 0), (.dup, 0, 0), (.getfield 4, 2, 42), (.bipush 1, 0, 0), (.iadd, 0, 0), (.putfield 4, 2, 84), (.iinc 3 1, 0, 0), (.goto 7, 0, 0), (.iload 2, 0, 0), (.ifCond .le 41, 0, 0), (.iload 0, 1, 0), (.checkcast 8, 2, 28), (.bipush 20015, 2, 0), (.invokevirtual 153, 2, 276), (.iload 0, 1, 0), (.invokevirtual 168, 1, 171), (.bipush 15, 1, 0), (.if_icmp .eq 46, 0, 0), (.goto 54, 0, 0), (.iload 0, 1, 0), (.dup, 0, 0), (.getfield 4, 2, 42), (.bipush 1, 0, 0), (.iadd, 0, 0), (.putfield 4, 2, 84), (.iinc 2 1, 0, 0), (.goto 2, 0, 0), (.bipush 1, 0, 0), (.ireturn, 1, 0)]
/-- LentHands$Reader.single(I)Z -/
def am_c174 : List am_I := [(.iload 0, 1, 0), (.invokevirtual 168, 1, 171), (.istore 2, 0, 0), (.iload 2, 0, 0), (.bipush 17, 1, 0), (.if_icmp .eq 9, 0, 0), (.iload 2, 0, 0), (.bipush 40, 1, 0), (.if_icmp .ne 53, 0, 0), (.iload 1, 0, 0), (.bipush 8, 1, 0), (.if_icmp .lt 16, 0, 0), (.iload 0, 1, 0), (.bipush 3, 0, 0), (.invokevirtual 169, 2, 177), (.ireturn, 1, 0), (.iload 0, 1, 0), (.dup, 0, 0), (.getfield 4, 2, 42), (.bipush 1, 0, 0), (.iadd, 0, 0), (.putfield 4, 2, 84), (.iload 2, 0, 0), (.bipush 40, 1, 0), (.if_icmp .ne 39, 0, 0), (.iload 0, 1, 0), (.iload 1, 0, 0), (.bipush 1, 0, 0), (.iadd, 0, 0), (.invokevirtual 173, 2, 253), (.ifCond .eq 37, 0, 0), (.iload 0, 1, 0), (.bipush 41, 1, 0), (.invokevirtual 170, 2, 265), (.ifCond .eq 37, 0, 0), (.bipush 1, 0, 0), (.goto 38, 0, 0), (.bipush 0, 0, 0), (.ireturn, 1, 0), (.iload 0, 1, 0), (.iload 1, 0, 0), (.bipush 1, 0, 0), (.iadd, 0, 0), (.invokevirtual 174, 2, 271), (.ifCond .ne 47, 0, 0), (.bipush 0, 0, 0), (.ireturn, 1, 0), (.iload 0, 1, 0), (.checkcast 8, 2, 28), (.bipush 20017, 2, 0), (.invokevirtual 153, 2, 276), (.bipush 1, 0, 0), (.ireturn, 1, 0), (.iload 0, 1, 0), (.invokevirtual 175, 1, 239), (.ifCond .ne 58, 0, 0), (.bipush 0, 0, 0), (.ireturn, 1, 0), (.iload 0, 1, 0), (.invokevirtual 168, 1, 171), (.istore 3, 0, 0), (.iload 3, 0, 0), (.bipush 60, 1, 0), (.if_icmp .eq 74, 0, 0), (.iload 3, 0, 0), (.bipush 61, 1, 0), (.if_icmp .eq 74, 0, 0), (.iload 3, 0, 0), (.bipush 62, 1, 0), (.if_icmp .eq 74, 0, 0), (.iload 0, 1, 0), (.bipush 1, 0, 0), (.invokevirtual 169, 2, 177), (.ireturn, 1, 0), (.iload 0, 1, 0), (.dup, 0, 0), (.getfield 4, 2, 42), (.bipush 1, 0, 0), (.iadd, 0, 0), (.putfield 4, 2, 84), (.iload 0, 1, 0), (.invokevirtual 175, 1, 239), (.ifCond .ne 85, 0, 0), (.bipush 0, 0, 0), (.ireturn, 1, 0), (.iload 0, 1, 0), (.checkcast 8, 2, 28), (.bipush 20000, 2, 0), (.iload 3, 0, 0), (.iadd, 0, 0), (.invokevirtual 153, 2, 276), (.bipush 1, 0, 0), (.ireturn, 1, 0)]
/-- LentHands$Reader.sum()Z -/
def am_c175 : List am_I := [(.bipush (-1), 0, 0), (.istore 1, 0, 0), (.bipush 0, 0, 0), (.istore 2, 0, 0), (.iload 2, 0, 0), (.bipush 400, 2, 0), (.if_icmp .gt 82, 0, 0), (.iload 0, 1, 0), (.bipush 0, 0, 0), (.invokevirtual 176, 2, 285), (.ifCond .ne 13, 0, 0), (.bipush 0, 0, 0), (.ireturn, 1, 0), (.bipush 0, 0, 0), (.istore 3, 0, 0), (.iload 3, 0, 0), (.bipush 400, 2, 0), (.if_icmp .gt 54, 0, 0), (.iload 0, 1, 0), (.invokevirtual 168, 1, 171), (.bipush 42, 1, 0), (.if_icmp .eq 26, 0, 0), (.iload 0, 1, 0), (.invokevirtual 168, 1, 171), (.bipush 47, 1, 0), (.if_icmp .ne 54, 0, 0), (.iload 0, 1, 0), (.invokevirtual 168, 1, 171), (.istore 4, 0, 1), (.iload 0, 1, 0), (.dup, 0, 0), (.getfield 4, 2, 42), (.bipush 1, 0, 0), (.iadd, 0, 0), (.putfield 4, 2, 84), (.iload 0, 1, 0), (.iload 4, 0, 1), (.bipush 47, 1, 0), (.if_icmp .ne 41, 0, 0), (.bipush 1, 0, 0), (.goto 42, 0, 0), (.bipush 0, 0, 0), (.invokevirtual 176, 2, 285), (.ifCond .ne 46, 0, 0), (.bipush 0, 0, 0), (.ireturn, 1, 0), (.iload 0, 1, 0), (.checkcast 8, 2, 28), (.bipush 20000, 2, 0), (.iload 4, 0, 1), (.iadd, 0, 0), (.invokevirtual 153, 2, 276), (.iinc 3 1, 0, 0), (.goto 15, 0, 0), (.iload 1, 0, 0), (.bipush (-1), 0, 0), (.if_icmp .eq 63, 0, 0), (.iload 0, 1, 0), (.checkcast 8, 2, 28), (.bipush 20000, 2, 0), (.iload 1, 0, 0), (.iadd, 0, 0), (.invokevirtual 153, 2, 276), (.iload 0, 1, 0), (.invokevirtual 168, 1, 171), (.istore 1, 0, 0), (.iload 1, 0, 0), (.bipush 43, 1, 0), (.if_icmp .eq 74, 0, 0), (.iload 1, 0, 0), (.bipush 45, 1, 0), (.if_icmp .eq 74, 0, 0), (.bipush 1, 0, 0), (.ireturn, 1, 0), (.iload 0, 1, 0), (.dup, 0, 0), (.getfield 4, 2, 42), (.bipush 1, 0, 0), (.iadd, 0, 0), (.putfield 4, 2, 84), (.iinc 2 1, 0, 0), (.goto 4, 0, 0), (.bipush 1, 0, 0), (.ireturn, 1, 0)]
/-- LentHands$Reader.unit(Z)Z -/
def am_c176 : List am_I := [(.iload 0, 1, 0), (.invokevirtual 168, 1, 171), (.istore 2, 0, 0), (.iload 2, 0, 0), (.bipush 200, 2, 0), (.if_icmp .ne 27, 0, 0), (.iload 1, 0, 0), (.ifCond .eq 18, 0, 0), (.iload 0, 1, 0), (.checkcast 1, 2, 15), (.iload 0, 1, 0), (.getfield 4, 2, 42), (.iaload, 0, 0), (.ifCond .ne 18, 0, 0), (.iload 0, 1, 0), (.bipush 2, 0, 0), (.invokevirtual 169, 2, 177), (.ireturn, 1, 0), (.iload 0, 1, 0), (.checkcast 8, 2, 28), (.iload 0, 1, 0), (.checkcast 1, 2, 15), (.iload 0, 1, 0), (.getfield 4, 2, 42), (.iaload, 0, 0), (.invokevirtual 153, 2, 276), (.goto 51, 0, 0), (.iload 1, 0, 0), (.ifCond .ne 47, 0, 0), (.iload 2, 0, 0), (.bipush 14, 1, 0), (.if_icmp .ge 47, 0, 0), (.iload 0, 1, 0), (.getfield 7, 2, 101), (.iload 2, 0, 0), (.ishr, 0, 0), (.bipush 1, 0, 0), (.iand, 0, 0), (.bipush 1, 0, 0), (.if_icmp .ne 47, 0, 0), (.iload 0, 1, 0), (.checkcast 8, 2, 28), (.bipush 10000, 2, 0), (.iload 2, 0, 0), (.iadd, 0, 0), (.invokevirtual 153, 2, 276), (.goto 51, 0, 0), (.iload 0, 1, 0), (.bipush 1, 0, 0), (.invokevirtual 169, 2, 177), (.ireturn, 1, 0), (.iload 0, 1, 0), (.dup, 0, 0), (.getfield 4, 2, 42), (.bipush 1, 0, 0), (.iadd, 0, 0), (.putfield 4, 2, 84), (.bipush 1, 0, 0), (.ireturn, 1, 0)]
/-- LentHands$Reader.readTable(ZI)Z -/
def am_c177 : List am_I := [(.iload 0, 1, 0), (.checkcast 9, 2, 35), (.bipush 0, 0, 0), (.putfield 0, 3, 292), (.bipush 0, 0, 0), (.istore 3, 0, 0), (.iload 3, 0, 0), (.bipush 400, 2, 0), (.if_icmp .gt 78, 0, 0), (.iload 0, 1, 0), (.invokevirtual 168, 1, 171), (.bipush 202, 2, 0), (.if_icmp .eq 78, 0, 0), (.iload 0, 1, 0), (.invokevirtual 168, 1, 171), (.iload 1, 0, 0), (.ifCond .eq 19, 0, 0), (.bipush 28, 1, 0), (.goto 20, 0, 0), (.bipush 32, 1, 0), (.if_icmp .eq 25, 0, 0), (.iload 0, 1, 0), (.bipush 1, 0, 0), (.invokevirtual 169, 2, 177), (.ireturn, 1, 0), (.iload 0, 1, 0), (.checkcast 9, 2, 35), (.getfield 0, 3, 146), (.iload 1, 0, 0), (.ifCond .eq 32, 0, 0), (.bipush 16, 1, 0), (.goto 33, 0, 0), (.bipush 8, 1, 0), (.if_icmp .lt 38, 0, 0), (.iload 0, 1, 0), (.bipush 3, 0, 0), (.invokevirtual 169, 2, 177), (.ireturn, 1, 0), (.iload 0, 1, 0), (.dup, 0, 0), (.getfield 4, 2, 42), (.bipush 1, 0, 0), (.iadd, 0, 0), (.putfield 4, 2, 84), (.iload 0, 1, 0), (.checkcast 9, 2, 35), (.getfield 0, 3, 146), (.bipush 5, 0, 0), (.imul, 0, 0), (.istore 4, 0, 1), (.iload 1, 0, 0), (.ifCond .eq 57, 0, 0), (.iload 0, 1, 0), (.iload 4, 0, 1), (.iload 2, 0, 0), (.invokevirtual 178, 3, 295), (.goto 60, 0, 0), (.iload 0, 1, 0), (.iload 4, 0, 1), (.invokevirtual 179, 2, 303), (.istore 5, 0, 1), (.iload 5, 0, 1), (.ifCond .eq 67, 0, 0), (.iload 0, 1, 0), (.bipush 59, 1, 0), (.invokevirtual 170, 2, 265), (.ifCond .ne 69, 0, 0), (.bipush 0, 0, 0), (.ireturn, 1, 0), (.iload 0, 1, 0), (.checkcast 9, 2, 35), (.dup, 0, 0), (.getfield 0, 3, 146), (.bipush 1, 0, 0), (.iadd, 0, 0), (.putfield 0, 3, 292), (.iinc 3 1, 0, 0), (.goto 6, 0, 0), (.bipush 1, 0, 0), (.ireturn, 1, 0)]
/-- LentHands$Reader.bookingRow(II)Z -/
def am_c178 : List am_I := [(.iload 0, 1, 0), (.checkcast 9, 2, 35), (.checkcast 1, 3, 154), (.iload 1, 0, 0), (.bipush 4, 0, 0), (.iadd, 0, 0), (.bipush 0, 0, 0), (.iastore, 0, 0), (.iload 0, 1, 0), (.iload 1, 0, 0), (.bipush 0, 0, 0), (.iadd, 0, 0), (.bipush 0, 0, 0), (.bipush 2, 0, 0), (.iload 2, 0, 0), (.imul, 0, 0), (.bipush 1, 0, 0), (.isub, 0, 0), (.invokevirtual 180, 4, 315), (.ifCond .eq 60, 0, 0), (.iload 0, 1, 0), (.bipush 29, 1, 0), (.invokevirtual 170, 2, 265), (.ifCond .eq 60, 0, 0), (.iload 0, 1, 0), (.iload 1, 0, 0), (.bipush 1, 0, 0), (.iadd, 0, 0), (.bipush 0, 0, 0), (.iload 2, 0, 0), (.bipush 1, 0, 0), (.isub, 0, 0), (.invokevirtual 180, 4, 315), (.ifCond .eq 60, 0, 0), (.iload 0, 1, 0), (.bipush 30, 1, 0), (.invokevirtual 170, 2, 265), (.ifCond .eq 60, 0, 0), (.iload 0, 1, 0), (.iload 1, 0, 0), (.bipush 2, 0, 0), (.iadd, 0, 0), (.bipush 0, 0, 0), (.bipush 9999, 2, 0), (.invokevirtual 180, 4, 315), (.ifCond .eq 60, 0, 0), (.iload 0, 1, 0), (.bipush 31, 1, 0), (.invokevirtual 170, 2, 265), (.ifCond .eq 60, 0, 0), (.iload 0, 1, 0), (.iload 1, 0, 0), (.bipush 3, 0, 0), (.iadd, 0, 0), (.bipush 1, 0, 0), (.bipush 99, 1, 0), (.invokevirtual 180, 4, 315), (.ifCond .eq 60, 0, 0), (.bipush 1, 0, 0), (.goto 61, 0, 0), (.bipush 0, 0, 0), (.istore 3, 0, 0), (.iload 3, 0, 0), (.ifCond .eq 68, 0, 0), (.iload 0, 1, 0), (.invokevirtual 168, 1, 171), (.bipush 5, 0, 0), (.if_icmp .eq 70, 0, 0), (.iload 3, 0, 0), (.ireturn, 1, 0), (.iload 0, 1, 0), (.dup, 0, 0), (.getfield 4, 2, 42), (.bipush 1, 0, 0), (.iadd, 0, 0), (.putfield 4, 2, 84), (.iload 0, 1, 0), (.iload 1, 0, 0), (.bipush 4, 0, 0), (.iadd, 0, 0), (.bipush 0, 0, 0), (.bipush 99, 1, 0), (.invokevirtual 180, 4, 315), (.ireturn, 1, 0)]
/-- LentHands$Reader.workRow(I)Z -/
def am_c179 : List am_I := [(.iload 0, 1, 0), (.iload 1, 0, 0), (.bipush 0, 0, 0), (.iadd, 0, 0), (.bipush 0, 0, 0), (.bipush 3, 0, 0), (.invokevirtual 180, 4, 315), (.ifCond .eq 34, 0, 0), (.iload 0, 1, 0), (.bipush 33, 1, 0), (.invokevirtual 170, 2, 265), (.ifCond .eq 34, 0, 0), (.iload 0, 1, 0), (.iload 1, 0, 0), (.bipush 1, 0, 0), (.iadd, 0, 0), (.bipush 0, 0, 0), (.bipush 99, 1, 0), (.invokevirtual 180, 4, 315), (.ifCond .eq 34, 0, 0), (.iload 0, 1, 0), (.bipush 34, 1, 0), (.invokevirtual 170, 2, 265), (.ifCond .eq 34, 0, 0), (.iload 0, 1, 0), (.iload 1, 0, 0), (.bipush 2, 0, 0), (.iadd, 0, 0), (.bipush 0, 0, 0), (.bipush 99, 1, 0), (.invokevirtual 180, 4, 315), (.ifCond .eq 34, 0, 0), (.bipush 1, 0, 0), (.goto 35, 0, 0), (.bipush 0, 0, 0), (.istore 2, 0, 0), (.iload 2, 0, 0), (.ifCond .ne 40, 0, 0), (.bipush 0, 0, 0), (.ireturn, 1, 0), (.iload 0, 1, 0), (.invokevirtual 168, 1, 171), (.bipush 26, 1, 0), (.if_icmp .ne 46, 0, 0), (.bipush 1, 0, 0), (.goto 47, 0, 0), (.bipush 0, 0, 0), (.istore 3, 0, 0), (.iload 0, 1, 0), (.checkcast 9, 2, 35), (.checkcast 1, 3, 154), (.iload 1, 0, 0), (.bipush 3, 0, 0), (.iadd, 0, 0), (.iload 3, 0, 0), (.ifCond .eq 58, 0, 0), (.bipush 1, 0, 0), (.goto 59, 0, 0), (.bipush 0, 0, 0), (.iastore, 0, 0), (.iload 3, 0, 0), (.ifCond .eq 68, 0, 0), (.iload 0, 1, 0), (.dup, 0, 0), (.getfield 4, 2, 42), (.bipush 1, 0, 0), (.iadd, 0, 0), (.putfield 4, 2, 84), (.bipush 1, 0, 0), (.ireturn, 1, 0)]
/-- LentHands$Reader.cell(III)Z -/
def am_c180 : List am_I := [(.iload 0, 1, 0), (.invokevirtual 168, 1, 171), (.bipush 200, 2, 0), (.if_icmp .eq 8, 0, 0), (.iload 0, 1, 0), (.bipush 1, 0, 0), (.invokevirtual 169, 2, 177), (.ireturn, 1, 0), (.iload 0, 1, 0), (.checkcast 1, 2, 15), (.iload 0, 1, 0), (.getfield 4, 2, 42), (.iaload, 0, 0), (.iload 2, 0, 0), (.if_icmp .lt 22, 0, 0), (.iload 0, 1, 0), (.checkcast 1, 2, 15), (.iload 0, 1, 0), (.getfield 4, 2, 42), (.iaload, 0, 0), (.iload 3, 0, 0), (.if_icmp .le 26, 0, 0), (.iload 0, 1, 0), (.bipush 2, 0, 0), (.invokevirtual 169, 2, 177), (.ireturn, 1, 0), (.iload 0, 1, 0), (.checkcast 9, 2, 35), (.checkcast 1, 3, 154), (.iload 1, 0, 0), (.iload 0, 1, 0), (.checkcast 1, 2, 15), (.iload 0, 1, 0), (.getfield 4, 2, 42), (.iaload, 0, 0), (.iastore, 0, 0), (.iload 0, 1, 0), (.dup, 0, 0), (.getfield 4, 2, 42), (.bipush 1, 0, 0), (.iadd, 0, 0), (.putfield 4, 2, 84), (.bipush 1, 0, 0), (.ireturn, 1, 0)]
/-- LentHands.state(I)I -/
def am_c181 : List am_I := [(.iload 0, 1, 0), (.checkcast 0, 6, 10), (.getfield 0, 5, 64), (.istore 2, 0, 0), (.iload 0, 1, 0), (.checkcast 0, 6, 10), (.iload 1, 0, 0), (.putfield 0, 5, 128), (.iload 0, 1, 0), (.invokevirtual 197, 1, 136), (.iload 2, 0, 0), (.ireturn, 0, 0)]
/-- LentHands.person(II)I -/
def am_c182 : List am_I := [(.iload 1, 0, 0), (.bipush 0, 0, 0), (.bipush 9999, 2, 0), (.invokevirtual 253, 3, 143), (.ifCond .eq 15, 0, 0), (.iload 2, 0, 0), (.bipush 0, 0, 0), (.bipush 1, 0, 0), (.invokevirtual 253, 3, 143), (.ifCond .eq 15, 0, 0), (.iload 0, 1, 0), (.checkcast 0, 6, 10), (.getfield 2, 5, 75), (.bipush 8, 1, 0), (.if_icmp .lt 17, 0, 0), (.bipush (-1), 0, 0), (.ireturn, 0, 0), (.iload 0, 1, 0), (.invokevirtual 197, 1, 136), (.iload 0, 1, 0), (.checkcast 0, 6, 10), (.iload 1, 0, 0), (.iload 2, 0, 0), (.invokevirtual 136, 3, 157), (.ireturn, 0, 0)]
/-- LentHands.set(III)Z -/
def am_c183 : List am_I := [(.iload 1, 0, 0), (.ifCond .eq 5, 0, 0), (.iload 1, 0, 0), (.bipush 1, 0, 0), (.if_icmp .ne 26, 0, 0), (.iload 0, 1, 0), (.checkcast 0, 6, 10), (.iload 2, 0, 0), (.invokevirtual 134, 2, 165), (.ifCond .eq 23, 0, 0), (.iload 0, 1, 0), (.checkcast 0, 6, 10), (.iload 1, 0, 0), (.ifCond .ne 16, 0, 0), (.bipush 1, 0, 0), (.goto 17, 0, 0), (.bipush 0, 0, 0), (.iload 2, 0, 0), (.iload 3, 0, 0), (.invokevirtual 137, 4, 173), (.ifCond .eq 23, 0, 0), (.bipush 1, 0, 0), (.goto 24, 0, 0), (.bipush 0, 0, 0), (.istore 4, 0, 1), (.goto 44, 0, 0), (.iload 0, 1, 0), (.checkcast 0, 6, 10), (.iload 2, 0, 0), (.invokevirtual 135, 2, 181), (.ifCond .eq 42, 0, 0), (.iload 0, 1, 0), (.checkcast 0, 6, 10), (.iload 1, 0, 0), (.bipush 2, 0, 0), (.isub, 0, 0), (.iload 2, 0, 0), (.iload 3, 0, 0), (.invokevirtual 138, 4, 187), (.ifCond .eq 42, 0, 0), (.bipush 1, 0, 0), (.goto 43, 0, 0), (.bipush 0, 0, 0), (.istore 4, 0, 1), (.iload 4, 0, 1), (.ifCond .eq 48, 0, 0), (.iload 0, 1, 0), (.invokevirtual 197, 1, 136), (.iload 4, 0, 1), (.ireturn, 1, 0)]
/-- LentHands.feed(IIIII)I -/
def am_c184 : List am_I := [(.iload 0, 1, 0), (.getfield 12, 6, 96), (.bipush 20, 1, 0), (.iadd, 0, 0), (.bipush 400, 2, 0), (.if_icmp .le 8, 0, 0), (.bipush (-1), 0, 0), (.ireturn, 0, 0), (.iload 0, 1, 0), (.iload 1, 0, 0), (.invokevirtual 185, 2, 198), (.iload 0, 1, 0), (.iload 2, 0, 0), (.invokevirtual 185, 2, 198), (.iload 0, 1, 0), (.iload 3, 0, 0), (.invokevirtual 185, 2, 198), (.iload 0, 1, 0), (.iload 4, 0, 1), (.invokevirtual 185, 2, 198), (.iload 0, 1, 0), (.iload 5, 0, 1), (.invokevirtual 185, 2, 198), (.iload 0, 1, 0), (.getfield 12, 6, 96), (.ireturn, 0, 0)]
/-- LentHands.feedNumber(I)V -/
def am_c185 : List am_I := [(.bipush 24, 1, 0), (.istore 2, 0, 0), (.iload 2, 0, 0), (.ifCond .lt 27, 0, 0), (.iload 0, 1, 0), (.getfield 12, 6, 96), (.bipush 400, 2, 0), (.if_icmp .ge 25, 0, 0), (.iload 0, 1, 0), (.checkcast 11, 6, 43), (.iload 0, 1, 0), (.getfield 12, 6, 96), (.iload 1, 0, 0), (.iload 2, 0, 0), (.iushr, 0, 0), (.bipush 255, 2, 0), (.iand, 0, 0), (.i2c, 0, 0), (.castore, 0, 0), (.iload 0, 1, 0), (.dup, 0, 0), (.getfield 12, 6, 96), (.bipush 1, 0, 0), (.iadd, 0, 0), (.putfield 12, 6, 192), (.iinc 2 (-8), 0, 0), (.goto 2, 0, 0), (.return_, 0, 0)]
/-- LentHands.end(I)Z -/
def am_c186 : List am_I := [(.iload 1, 0, 0), (.bipush 0, 0, 0), (.iload 0, 1, 0), (.getfield 12, 6, 96), (.invokevirtual 253, 3, 143), (.ifCond .ne 8, 0, 0), (.bipush 0, 0, 0), (.ireturn, 1, 0), (.iload 0, 1, 0), (.iload 1, 0, 0), (.putfield 12, 6, 192), (.bipush 1, 0, 0), (.ireturn, 1, 0)]
/-- LentHands.text(I)I -/
def am_c187 : List am_I := [(.iload 0, 1, 0), (.checkcast 13, 6, 50), (.iload 0, 1, 0), (.checkcast 11, 6, 43), (.iload 0, 1, 0), (.getfield 12, 6, 96), (.invokevirtual 160, 3, 206), (.iload 0, 1, 0), (.bipush 0, 0, 0), (.putfield 12, 6, 192), (.iload 1, 0, 0), (.bipush 0, 0, 0), (.bipush 4, 0, 0), (.invokevirtual 253, 3, 143), (.ifCond .ne 17, 0, 0), (.bipush (-1), 0, 0), (.ireturn, 0, 0), (.iload 1, 0, 0), (.bipush 3, 0, 0), (.if_icmp .ge 41, 0, 0), (.iload 0, 1, 0), (.checkcast 13, 6, 50), (.iload 1, 0, 0), (.invokevirtual 171, 2, 215), (.ifCond .eq 39, 0, 0), (.iload 0, 1, 0), (.checkcast 5, 6, 26), (.checkcast 0, 4, 110), (.iload 1, 0, 0), (.aaload, 0, 0), (.iload 0, 1, 0), (.checkcast 13, 6, 50), (.checkcast 8, 2, 114), (.invokevirtual 152, 2, 236), (.iload 0, 1, 0), (.checkcast 13, 6, 50), (.checkcast 8, 2, 114), (.getfield 0, 1, 124), (.ireturn, 0, 0), (.bipush (-1), 0, 0), (.ireturn, 0, 0), (.iload 1, 0, 0), (.bipush 3, 0, 0), (.if_icmp .ne 46, 0, 0), (.bipush 1, 0, 0), (.goto 47, 0, 0), (.bipush 0, 0, 0), (.istore 2, 0, 0), (.iload 0, 1, 0), (.checkcast 13, 6, 50), (.iload 2, 0, 0), (.iload 0, 1, 0), (.checkcast 0, 6, 10), (.getfield 2, 5, 75), (.invokevirtual 177, 3, 253), (.ifCond .ne 58, 0, 0), (.bipush (-1), 0, 0), (.ireturn, 0, 0), (.iload 2, 0, 0), (.ifCond .eq 70, 0, 0), (.iload 0, 1, 0), (.checkcast 5, 6, 26), (.checkcast 1, 4, 130), (.iload 0, 1, 0), (.checkcast 13, 6, 50), (.checkcast 9, 2, 134), (.invokevirtual 158, 2, 274), (.iload 0, 1, 0), (.invokevirtual 197, 1, 136), (.goto 77, 0, 0), (.iload 0, 1, 0), (.checkcast 5, 6, 26), (.checkcast 2, 4, 142), (.iload 0, 1, 0), (.checkcast 13, 6, 50), (.checkcast 9, 2, 134), (.invokevirtual 158, 2, 274), (.iload 0, 1, 0), (.checkcast 13, 6, 50), (.checkcast 9, 2, 134), (.getfield 0, 3, 145), (.ireturn, 0, 0)]
/-- LentHands.fault(I)I -/
def am_c188 : List am_I := [(.iload 1, 0, 0), (.ifCond .ne 6, 0, 0), (.iload 0, 1, 0), (.checkcast 13, 6, 50), (.getfield 5, 2, 146), (.goto 14, 0, 0), (.iload 1, 0, 0), (.bipush 1, 0, 0), (.if_icmp .ne 13, 0, 0), (.iload 0, 1, 0), (.checkcast 13, 6, 50), (.getfield 6, 2, 149), (.goto 14, 0, 0), (.bipush (-1), 0, 0), (.ireturn, 0, 0)]
/-- LentHands.lend(IIII)I -/
def am_c189 : List am_I := [(.iload 0, 1, 0), (.iload 0, 1, 0), (.checkcast 0, 6, 10), (.iload 1, 0, 0), (.iload 2, 0, 0), (.iload 3, 0, 0), (.iload 4, 0, 1), (.invokevirtual 218, 6, 305), (.ifCond .ne 11, 0, 0), (.bipush (-1), 0, 0), (.ireturn, 0, 0), (.iload 0, 1, 0), (.invokevirtual 196, 1, 312), (.iload 0, 1, 0), (.checkcast 0, 6, 10), (.iload 1, 0, 0), (.iload 2, 0, 0), (.iload 3, 0, 0), (.iload 4, 0, 1), (.invokevirtual 147, 5, 319), (.ireturn, 0, 0)]
/-- LentHands.leave(II)Z -/
def am_c190 : List am_I := [(.iload 0, 1, 0), (.iload 1, 0, 0), (.iload 2, 0, 0), (.invokevirtual 252, 3, 327), (.istore 3, 0, 0), (.iload 3, 0, 0), (.bipush (-1), 0, 0), (.if_icmp .eq 15, 0, 0), (.iload 3, 0, 0), (.bipush 2, 0, 0), (.iload 1, 0, 0), (.imul, 0, 0), (.iload 2, 0, 0), (.iadd, 0, 0), (.if_icmp .eq 17, 0, 0), (.bipush 0, 0, 0), (.ireturn, 1, 0), (.iload 0, 1, 0), (.invokevirtual 196, 1, 312), (.iload 0, 1, 0), (.checkcast 0, 6, 10), (.iload 3, 0, 0), (.invokevirtual 145, 2, 332), (.bipush 1, 0, 0), (.ireturn, 1, 0)]
/-- LentHands.fetch(II)Z -/
def am_c191 : List am_I := [(.iload 0, 1, 0), (.checkcast 0, 6, 10), (.iload 1, 0, 0), (.invokevirtual 134, 2, 165), (.ifCond .eq 10, 0, 0), (.iload 2, 0, 0), (.bipush 0, 0, 0), (.bipush 1, 0, 0), (.invokevirtual 253, 3, 143), (.ifCond .ne 12, 0, 0), (.bipush 0, 0, 0), (.ireturn, 1, 0), (.bipush 2, 0, 0), (.iload 1, 0, 0), (.imul, 0, 0), (.iload 2, 0, 0), (.iadd, 0, 0), (.istore 3, 0, 0), (.iload 0, 1, 0), (.checkcast 0, 6, 10), (.checkcast 9, 5, 169), (.iload 3, 0, 0), (.iaload, 0, 0), (.bipush (-1), 0, 0), (.if_icmp .ne 32, 0, 0), (.iload 0, 1, 0), (.checkcast 0, 6, 10), (.checkcast 10, 5, 172), (.iload 3, 0, 0), (.iaload, 0, 0), (.bipush (-1), 0, 0), (.if_icmp .eq 34, 0, 0), (.bipush 0, 0, 0), (.ireturn, 1, 0), (.iload 0, 1, 0), (.invokevirtual 196, 1, 312), (.iload 0, 1, 0), (.checkcast 0, 6, 10), (.iload 3, 0, 0), (.iload 1, 0, 0), (.invokevirtual 146, 3, 350), (.bipush 1, 0, 0), (.ireturn, 1, 0)]
/-- LentHands.task(II)Z -/
def am_c192 : List am_I := [(.iload 0, 1, 0), (.checkcast 0, 6, 10), (.iload 1, 0, 0), (.invokevirtual 134, 2, 165), (.ifCond .eq 10, 0, 0), (.iload 2, 0, 0), (.bipush (-1), 0, 0), (.bipush 3, 0, 0), (.invokevirtual 253, 3, 143), (.ifCond .ne 12, 0, 0), (.bipush 0, 0, 0), (.ireturn, 1, 0), (.iload 0, 1, 0), (.invokevirtual 196, 1, 312), (.iload 0, 1, 0), (.checkcast 0, 6, 10), (.checkcast 7, 5, 179), (.iload 1, 0, 0), (.iload 2, 0, 0), (.iastore, 0, 0), (.bipush 1, 0, 0), (.ireturn, 1, 0)]
/-- LentHands.deed(II)I -/
def am_c193 : List am_I := [(.iload 0, 1, 0), (.iload 1, 0, 0), (.iload 2, 0, 0), (.invokevirtual 252, 3, 327), (.istore 3, 0, 0), (.iload 3, 0, 0), (.bipush (-1), 0, 0), (.if_icmp .ne 10, 0, 0), (.bipush (-1), 0, 0), (.ireturn, 0, 0), (.iload 0, 1, 0), (.iload 1, 0, 0), (.iload 3, 0, 0), (.bipush 0, 0, 0), (.invokevirtual 248, 4, 365), (.istore 4, 0, 1), (.iload 0, 1, 0), (.invokevirtual 196, 1, 312), (.iload 4, 0, 1), (.bipush 24, 1, 0), (.if_icmp .eq 24, 0, 0), (.iload 4, 0, 1), (.bipush 26, 1, 0), (.if_icmp .ne 35, 0, 0), (.iload 0, 1, 0), (.checkcast 0, 6, 10), (.checkcast 8, 5, 186), (.iload 3, 0, 0), (.bipush 1, 0, 0), (.ishr, 0, 0), (.dup2, 0, 0), (.iaload, 0, 0), (.bipush 1, 0, 0), (.iadd, 0, 0), (.iastore, 0, 0), (.iload 4, 0, 1), (.bipush 25, 1, 0), (.if_icmp .eq 41, 0, 0), (.iload 4, 0, 1), (.bipush 26, 1, 0), (.if_icmp .ne 50, 0, 0), (.iload 0, 1, 0), (.checkcast 0, 6, 10), (.checkcast 8, 5, 186), (.iload 1, 0, 0), (.dup2, 0, 0), (.iaload, 0, 0), (.bipush 1, 0, 0), (.iadd, 0, 0), (.iastore, 0, 0), (.iload 0, 1, 0), (.iload 3, 0, 0), (.iload 1, 0, 0), (.iload 4, 0, 1), (.bipush 24, 1, 0), (.isub, 0, 0), (.invokevirtual 194, 4, 378), (.iload 4, 0, 1), (.bipush 24, 1, 0), (.isub, 0, 0), (.ireturn, 0, 0)]
/-- LentHands.writeDeed(III)V -/
def am_c194 : List am_I := [(.iload 0, 1, 0), (.checkcast 0, 6, 10), (.getfield 4, 5, 193), (.bipush 100, 1, 0), (.if_icmp .ge 46, 0, 0), (.iload 0, 1, 0), (.checkcast 0, 6, 10), (.getfield 4, 5, 193), (.bipush 4, 0, 0), (.imul, 0, 0), (.istore 4, 0, 1), (.iload 0, 1, 0), (.checkcast 6, 6, 30), (.iload 4, 0, 1), (.iload 0, 1, 0), (.checkcast 0, 6, 10), (.getfield 1, 5, 196), (.iastore, 0, 0), (.iload 0, 1, 0), (.checkcast 6, 6, 30), (.iload 4, 0, 1), (.bipush 1, 0, 0), (.iadd, 0, 0), (.iload 1, 0, 0), (.iastore, 0, 0), (.iload 0, 1, 0), (.checkcast 6, 6, 30), (.iload 4, 0, 1), (.bipush 2, 0, 0), (.iadd, 0, 0), (.iload 2, 0, 0), (.iastore, 0, 0), (.iload 0, 1, 0), (.checkcast 6, 6, 30), (.iload 4, 0, 1), (.bipush 3, 0, 0), (.iadd, 0, 0), (.iload 3, 0, 0), (.iastore, 0, 0), (.iload 0, 1, 0), (.checkcast 0, 6, 10), (.dup, 0, 0), (.getfield 4, 5, 193), (.bipush 1, 0, 0), (.iadd, 0, 0), (.putfield 4, 5, 386), (.return_, 0, 0)]
/-- LentHands.hours(I)I -/
def am_c195 : List am_I := [(.iload 1, 0, 0), (.bipush 1, 0, 0), (.bipush 100, 1, 0), (.invokevirtual 253, 3, 143), (.ifCond .eq 12, 0, 0), (.iload 0, 1, 0), (.checkcast 0, 6, 10), (.getfield 1, 5, 196), (.iload 1, 0, 0), (.iadd, 0, 0), (.bipush 9999, 2, 0), (.if_icmp .le 14, 0, 0), (.bipush (-1), 0, 0), (.ireturn, 0, 0), (.bipush 0, 0, 0), (.istore 2, 0, 0), (.bipush 0, 0, 0), (.istore 3, 0, 0), (.iload 3, 0, 0), (.iload 1, 0, 0), (.if_icmp .ge 39, 0, 0), (.iload 1, 0, 0), (.iload 3, 0, 0), (.isub, 0, 0), (.bipush 6, 1, 0), (.if_icmp .gt 28, 0, 0), (.iload 0, 1, 0), (.invokevirtual 196, 1, 312), (.iload 2, 0, 0), (.iload 0, 1, 0), (.iload 0, 1, 0), (.checkcast 0, 6, 10), (.bipush 1, 0, 0), (.invokevirtual 233, 3, 399), (.invokevirtual 255, 1, 407), (.iadd, 0, 0), (.istore 2, 0, 0), (.iinc 3 1, 0, 0), (.goto 18, 0, 0), (.iload 2, 0, 0), (.ireturn, 0, 0)]
/-- LentHands.keep()V -/
def am_c196 : List am_I := [(.iload 0, 1, 0), (.checkcast 2, 6, 19), (.iload 0, 1, 0), (.getfield 4, 6, 209), (.aaload, 0, 0), (.iload 0, 1, 0), (.checkcast 0, 6, 10), (.invokevirtual 133, 2, 424), (.iload 0, 1, 0), (.iload 0, 1, 0), (.getfield 4, 6, 209), (.bipush 1, 0, 0), (.iadd, 0, 0), (.bipush 6, 1, 0), (.irem, 0, 0), (.putfield 4, 6, 418), (.iload 0, 1, 0), (.iload 0, 1, 0), (.getfield 3, 6, 215), (.bipush 1, 0, 0), (.iadd, 0, 0), (.bipush 6, 1, 0), (.lsub, 218, 0), (.putfield 3, 6, 430), (.return_, 0, 0)]
/-- LentHands.forget()V -/
def am_c197 : List am_I := [(.iload 0, 1, 0), (.bipush 0, 0, 0), (.putfield 3, 6, 430), (.return_, 0, 0)]
/-- LentHands.undo()Z -/
def am_c198 : List am_I := [(.iload 0, 1, 0), (.getfield 3, 6, 215), (.ifCond .ne 5, 0, 0), (.bipush 0, 0, 0), (.ireturn, 1, 0), (.iload 0, 1, 0), (.dup, 0, 0), (.getfield 3, 6, 215), (.bipush 1, 0, 0), (.isub, 0, 0), (.putfield 3, 6, 430), (.iload 0, 1, 0), (.iload 0, 1, 0), (.getfield 4, 6, 209), (.bipush 6, 1, 0), (.iadd, 0, 0), (.bipush 1, 0, 0), (.isub, 0, 0), (.bipush 6, 1, 0), (.irem, 0, 0), (.putfield 4, 6, 418), (.iload 0, 1, 0), (.checkcast 0, 6, 10), (.iload 0, 1, 0), (.checkcast 2, 6, 19), (.iload 0, 1, 0), (.getfield 4, 6, 209), (.aaload, 0, 0), (.invokevirtual 133, 2, 424), (.bipush 1, 0, 0), (.ireturn, 1, 0)]
/-- LentHands.image(Z)Z -/
def am_c199 : List am_I := [(.iload 1, 0, 0), (.ifCond .eq 26, 0, 0), (.iload 0, 1, 0), (.checkcast 7, 6, 34), (.iload 0, 1, 0), (.checkcast 0, 6, 10), (.invokevirtual 133, 2, 424), (.iload 0, 1, 0), (.checkcast 8, 6, 37), (.iload 0, 1, 0), (.checkcast 5, 6, 26), (.invokevirtual 159, 2, 446), (.iload 0, 1, 0), (.checkcast 6, 6, 30), (.bipush 0, 0, 0), (.iload 0, 1, 0), (.checkcast 9, 6, 40), (.bipush 0, 0, 0), (.iload 0, 1, 0), (.checkcast 6, 6, 30), (.arraylength, 0, 0), (.lcmp, 226, 0), (.iload 0, 1, 0), (.bipush 1, 0, 0), (.putfield 10, 6, 465), (.goto 51, 0, 0), (.iload 0, 1, 0), (.getfield 10, 6, 232), (.ifCond .eq 51, 0, 0), (.iload 0, 1, 0), (.checkcast 0, 6, 10), (.iload 0, 1, 0), (.checkcast 7, 6, 34), (.invokevirtual 133, 2, 424), (.iload 0, 1, 0), (.checkcast 5, 6, 26), (.iload 0, 1, 0), (.checkcast 8, 6, 37), (.invokevirtual 159, 2, 446), (.iload 0, 1, 0), (.checkcast 9, 6, 40), (.bipush 0, 0, 0), (.iload 0, 1, 0), (.checkcast 6, 6, 30), (.bipush 0, 0, 0), (.iload 0, 1, 0), (.checkcast 6, 6, 30), (.arraylength, 0, 0), (.lcmp, 226, 0), (.iload 0, 1, 0), (.invokevirtual 197, 1, 136), (.iload 0, 1, 0), (.getfield 10, 6, 232), (.ireturn, 1, 0)]
/-- LentHands.of(II)I -/
def am_c200 : List am_I := [(.iload 0, 1, 0), (.checkcast 0, 6, 10), (.iload 1, 0, 0), (.invokevirtual 134, 2, 165), (.ifCond .ne 7, 0, 0), (.bipush (-2), 1, 0), (.ireturn, 0, 0), (.iload 2, 0, 0), (.tableswitch 61 0 7 #[9, 15, 21, 27, 33, 41, 51, 56], 45, 0), (.iload 0, 1, 0), (.checkcast 0, 6, 10), (.checkcast 5, 5, 236), (.iload 1, 0, 0), (.iaload, 0, 0), (.ireturn, 0, 0), (.iload 0, 1, 0), (.checkcast 0, 6, 10), (.checkcast 6, 5, 239), (.iload 1, 0, 0), (.iaload, 0, 0), (.ireturn, 0, 0), (.iload 0, 1, 0), (.checkcast 0, 6, 10), (.checkcast 7, 5, 179), (.iload 1, 0, 0), (.iaload, 0, 0), (.ireturn, 0, 0), (.iload 0, 1, 0), (.checkcast 0, 6, 10), (.checkcast 8, 5, 186), (.iload 1, 0, 0), (.iaload, 0, 0), (.ireturn, 0, 0), (.iload 0, 1, 0), (.checkcast 0, 6, 10), (.checkcast 9, 5, 169), (.bipush 2, 0, 0), (.iload 1, 0, 0), (.imul, 0, 0), (.iaload, 0, 0), (.ireturn, 0, 0), (.iload 0, 1, 0), (.checkcast 0, 6, 10), (.checkcast 9, 5, 169), (.bipush 2, 0, 0), (.iload 1, 0, 0), (.imul, 0, 0), (.bipush 1, 0, 0), (.iadd, 0, 0), (.iaload, 0, 0), (.ireturn, 0, 0), (.iload 0, 1, 0), (.iload 1, 0, 0), (.bipush 0, 0, 0), (.invokevirtual 201, 3, 485), (.ireturn, 0, 0), (.iload 0, 1, 0), (.iload 1, 0, 0), (.bipush 1, 0, 0), (.invokevirtual 201, 3, 485), (.ireturn, 0, 0), (.bipush (-2), 1, 0), (.ireturn, 0, 0)]
/-- LentHands.ring(II)I -/
def am_c201 : List am_I := [(.iload 1, 0, 0), (.istore 3, 0, 0), (.bipush 1, 0, 0), (.istore 4, 0, 1), (.iload 4, 0, 1), (.bipush 8, 1, 0), (.if_icmp .gt 28, 0, 0), (.iload 0, 1, 0), (.iload 3, 0, 0), (.iload 2, 0, 0), (.invokevirtual 252, 3, 327), (.istore 5, 0, 1), (.iload 5, 0, 1), (.bipush (-1), 0, 0), (.if_icmp .ne 17, 0, 0), (.bipush 0, 0, 0), (.ireturn, 0, 0), (.iload 5, 0, 1), (.bipush 1, 0, 0), (.ishr, 0, 0), (.istore 3, 0, 0), (.iload 3, 0, 0), (.iload 1, 0, 0), (.if_icmp .ne 26, 0, 0), (.iload 4, 0, 1), (.ireturn, 0, 0), (.iinc 4 1, 0, 0), (.goto 4, 0, 0), (.bipush 0, 0, 0), (.ireturn, 0, 0)]
/-- LentHands.at(II)I -/
def am_c202 : List am_I := [(.iload 0, 1, 0), (.checkcast 0, 6, 10), (.iload 1, 0, 0), (.invokevirtual 135, 2, 181), (.ifCond .ne 7, 0, 0), (.bipush (-2), 1, 0), (.ireturn, 0, 0), (.iload 0, 1, 0), (.checkcast 0, 6, 10), (.iload 1, 0, 0), (.invokevirtual 143, 2, 491), (.istore 3, 0, 0), (.iload 2, 0, 0), (.tableswitch 70 0 10 #[14, 14, 14, 14, 24, 30, 36, 42, 48, 54, 59], 60, 0), (.iload 0, 1, 0), (.checkcast 0, 6, 10), (.checkcast 11, 5, 248), (.iload 1, 0, 0), (.bipush 4, 0, 0), (.imul, 0, 0), (.iload 2, 0, 0), (.iadd, 0, 0), (.iaload, 0, 0), (.ireturn, 0, 0), (.iload 0, 1, 0), (.checkcast 0, 6, 10), (.checkcast 12, 5, 251), (.iload 1, 0, 0), (.iaload, 0, 0), (.ireturn, 0, 0), (.iload 0, 1, 0), (.checkcast 0, 6, 10), (.checkcast 13, 5, 254), (.iload 1, 0, 0), (.iaload, 0, 0), (.ireturn, 0, 0), (.iload 0, 1, 0), (.checkcast 0, 6, 10), (.checkcast 14, 5, 257), (.iload 1, 0, 0), (.iaload, 0, 0), (.ireturn, 0, 0), (.iload 0, 1, 0), (.checkcast 0, 6, 10), (.checkcast 15, 5, 260), (.iload 1, 0, 0), (.iaload, 0, 0), (.ireturn, 0, 0), (.iload 0, 1, 0), (.checkcast 0, 6, 10), (.checkcast 10, 5, 172), (.iload 1, 0, 0), (.iaload, 0, 0), (.ireturn, 0, 0), (.iload 0, 1, 0), (.checkcast 0, 6, 10), (.iload 1, 0, 0), (.invokevirtual 144, 2, 527), (.ireturn, 0, 0), (.iload 3, 0, 0), (.bipush (-1), 0, 0), (.if_icmp .ne 64, 0, 0), (.bipush (-1), 0, 0), (.goto 69, 0, 0), (.iload 0, 1, 0), (.checkcast 0, 6, 10), (.iload 3, 0, 0), (.bipush 3, 0, 0), (.invokevirtual 142, 3, 533), (.ireturn, 0, 0), (.bipush (-2), 1, 0), (.ireturn, 0, 0)]
/-- LentHands.loan(II)I -/
def am_c203 : List am_I := [(.iload 1, 0, 0), (.bipush 0, 0, 0), (.iload 0, 1, 0), (.checkcast 0, 6, 10), (.getfield 3, 5, 269), (.bipush 1, 0, 0), (.isub, 0, 0), (.invokevirtual 253, 3, 143), (.ifCond .eq 14, 0, 0), (.iload 2, 0, 0), (.bipush 0, 0, 0), (.bipush 4, 0, 0), (.invokevirtual 253, 3, 143), (.ifCond .ne 16, 0, 0), (.bipush (-1), 0, 0), (.ireturn, 0, 0), (.iload 0, 1, 0), (.checkcast 0, 6, 10), (.iload 1, 0, 0), (.iload 2, 0, 0), (.invokevirtual 142, 3, 533), (.ireturn, 0, 0)]
/-- LentHands.book(II)I -/
def am_c204 : List am_I := [(.iload 1, 0, 0), (.bipush 0, 0, 0), (.iload 0, 1, 0), (.checkcast 0, 6, 10), (.getfield 4, 5, 193), (.bipush 1, 0, 0), (.isub, 0, 0), (.invokevirtual 253, 3, 143), (.ifCond .eq 14, 0, 0), (.iload 2, 0, 0), (.bipush 0, 0, 0), (.bipush 3, 0, 0), (.invokevirtual 253, 3, 143), (.ifCond .ne 16, 0, 0), (.bipush (-1), 0, 0), (.ireturn, 0, 0), (.iload 0, 1, 0), (.checkcast 6, 6, 30), (.iload 1, 0, 0), (.bipush 4, 0, 0), (.imul, 0, 0), (.iload 2, 0, 0), (.iadd, 0, 0), (.iaload, 0, 0), (.ireturn, 0, 0)]
/-- LentHands.look(I)I -/
def am_c205 : List am_I := [(.iload 1, 0, 0), (.tableswitch 47 0 11 #[2, 6, 10, 14, 18, 22, 22, 22, 31, 36, 41, 44], 63, 0), (.iload 0, 1, 0), (.checkcast 0, 6, 10), (.getfield 2, 5, 75), (.ireturn, 0, 0), (.iload 0, 1, 0), (.checkcast 0, 6, 10), (.getfield 1, 5, 196), (.ireturn, 0, 0), (.iload 0, 1, 0), (.checkcast 0, 6, 10), (.getfield 3, 5, 269), (.ireturn, 0, 0), (.iload 0, 1, 0), (.checkcast 0, 6, 10), (.getfield 4, 5, 193), (.ireturn, 0, 0), (.iload 0, 1, 0), (.checkcast 0, 6, 10), (.getfield 0, 5, 64), (.ireturn, 0, 0), (.iload 0, 1, 0), (.checkcast 5, 6, 26), (.checkcast 0, 4, 110), (.iload 1, 0, 0), (.bipush 5, 0, 0), (.isub, 0, 0), (.aaload, 0, 0), (.getfield 0, 1, 124), (.ireturn, 0, 0), (.iload 0, 1, 0), (.checkcast 5, 6, 26), (.checkcast 1, 4, 130), (.getfield 0, 3, 145), (.ireturn, 0, 0), (.iload 0, 1, 0), (.checkcast 5, 6, 26), (.checkcast 2, 4, 142), (.getfield 0, 3, 145), (.ireturn, 0, 0), (.iload 0, 1, 0), (.getfield 3, 6, 215), (.ireturn, 0, 0), (.iload 0, 1, 0), (.invokevirtual 206, 1, 545), (.ireturn, 0, 0), (.bipush (-1), 0, 0), (.ireturn, 0, 0)]
/-- LentHands.inOffice()I -/
def am_c206 : List am_I := [(.bipush 0, 0, 0), (.istore 1, 0, 0), (.bipush 0, 0, 0), (.istore 2, 0, 0), (.iload 2, 0, 0), (.bipush 2, 0, 0), (.iload 0, 1, 0), (.checkcast 0, 6, 10), (.getfield 2, 5, 75), (.imul, 0, 0), (.if_icmp .ge 26, 0, 0), (.iload 0, 1, 0), (.checkcast 0, 6, 10), (.checkcast 10, 5, 172), (.iload 2, 0, 0), (.iaload, 0, 0), (.bipush (-1), 0, 0), (.if_icmp .ne 24, 0, 0), (.iload 1, 0, 0), (.bipush 1, 0, 0), (.iload 2, 0, 0), (.ishl, 0, 0), (.ior, 0, 0), (.istore 1, 0, 0), (.iinc 2 1, 0, 0), (.goto 4, 0, 0), (.iload 1, 0, 0), (.ireturn, 0, 0)]
/-- LentHands.chain(II)I -/
def am_c207 : List am_I := [(.iload 0, 1, 0), (.checkcast 0, 6, 10), (.iload 1, 0, 0), (.invokevirtual 135, 2, 181), (.ifCond .eq 7, 0, 0), (.iload 2, 0, 0), (.ifCond .ge 9, 0, 0), (.bipush (-1), 0, 0), (.ireturn, 0, 0), (.bipush 0, 0, 0), (.istore 3, 0, 0), (.bipush 0, 0, 0), (.istore 4, 0, 1), (.iload 4, 0, 1), (.iload 0, 1, 0), (.checkcast 0, 6, 10), (.getfield 3, 5, 269), (.if_icmp .ge 37, 0, 0), (.iload 0, 1, 0), (.checkcast 0, 6, 10), (.iload 4, 0, 1), (.bipush 0, 0, 0), (.invokevirtual 142, 3, 533), (.iload 1, 0, 0), (.if_icmp .ne 35, 0, 0), (.iload 3, 0, 0), (.iload 2, 0, 0), (.if_icmp .ne 34, 0, 0), (.iload 0, 1, 0), (.checkcast 0, 6, 10), (.iload 4, 0, 1), (.bipush 1, 0, 0), (.invokevirtual 142, 3, 533), (.ireturn, 0, 0), (.iinc 3 1, 0, 0), (.iinc 4 1, 0, 0), (.goto 13, 0, 0), (.bipush (-1), 0, 0), (.ireturn, 0, 0)]
/-- LentHands.owes(II)I -/
def am_c208 : List am_I := [(.iload 0, 1, 0), (.checkcast 0, 6, 10), (.iload 1, 0, 0), (.invokevirtual 134, 2, 165), (.ifCond .eq 10, 0, 0), (.iload 2, 0, 0), (.bipush 0, 0, 0), (.bipush 1, 0, 0), (.invokevirtual 253, 3, 143), (.ifCond .ne 12, 0, 0), (.bipush (-1), 0, 0), (.ireturn, 0, 0), (.iload 2, 0, 0), (.ifCond .ne 16, 0, 0), (.bipush 2, 0, 0), (.goto 17, 0, 0), (.bipush 1, 0, 0), (.istore 3, 0, 0), (.bipush 0, 0, 0), (.istore 4, 0, 1), (.bipush 0, 0, 0), (.istore 5, 0, 1), (.iload 5, 0, 1), (.iload 0, 1, 0), (.checkcast 0, 6, 10), (.getfield 3, 5, 269), (.if_icmp .ge 46, 0, 0), (.iload 0, 1, 0), (.checkcast 0, 6, 10), (.iload 5, 0, 1), (.iload 3, 0, 0), (.invokevirtual 142, 3, 533), (.iload 1, 0, 0), (.if_icmp .ne 44, 0, 0), (.iload 4, 0, 1), (.bipush 1, 0, 0), (.iload 0, 1, 0), (.checkcast 0, 6, 10), (.iload 5, 0, 1), (.bipush 0, 0, 0), (.invokevirtual 142, 3, 533), (.ishl, 0, 0), (.ior, 0, 0), (.istore 4, 0, 1), (.iinc 5 1, 0, 0), (.goto 22, 0, 0), (.iload 4, 0, 1), (.ireturn, 0, 0)]
/-- LentHands.callus()I -/
def am_c209 : List am_I := [(.bipush (-1), 0, 0), (.istore 1, 0, 0), (.bipush 0, 0, 0), (.istore 2, 0, 0), (.iload 2, 0, 0), (.bipush 2, 0, 0), (.iload 0, 1, 0), (.checkcast 0, 6, 10), (.getfield 2, 5, 75), (.imul, 0, 0), (.if_icmp .ge 34, 0, 0), (.iload 0, 1, 0), (.checkcast 0, 6, 10), (.iload 2, 0, 0), (.invokevirtual 139, 2, 553), (.ifCond .ne 32, 0, 0), (.iload 1, 0, 0), (.bipush (-1), 0, 0), (.if_icmp .eq 30, 0, 0), (.iload 0, 1, 0), (.checkcast 0, 6, 10), (.checkcast 12, 5, 251), (.iload 2, 0, 0), (.iaload, 0, 0), (.iload 0, 1, 0), (.checkcast 0, 6, 10), (.checkcast 12, 5, 251), (.iload 1, 0, 0), (.iaload, 0, 0), (.if_icmp .le 32, 0, 0), (.iload 2, 0, 0), (.istore 1, 0, 0), (.iinc 2 1, 0, 0), (.goto 4, 0, 0), (.iload 1, 0, 0), (.ireturn, 0, 0)]
/-- LentHands.bare()I -/
def am_c210 : List am_I := [(.bipush 0, 0, 0), (.istore 1, 0, 0), (.bipush 0, 0, 0), (.istore 2, 0, 0), (.iload 2, 0, 0), (.iload 0, 1, 0), (.checkcast 0, 6, 10), (.getfield 2, 5, 75), (.if_icmp .ge 33, 0, 0), (.iload 0, 1, 0), (.checkcast 0, 6, 10), (.bipush 2, 0, 0), (.iload 2, 0, 0), (.imul, 0, 0), (.invokevirtual 139, 2, 553), (.ifCond .ne 31, 0, 0), (.iload 0, 1, 0), (.checkcast 0, 6, 10), (.bipush 2, 0, 0), (.iload 2, 0, 0), (.imul, 0, 0), (.bipush 1, 0, 0), (.iadd, 0, 0), (.invokevirtual 139, 2, 553), (.ifCond .ne 31, 0, 0), (.iload 1, 0, 0), (.bipush 1, 0, 0), (.iload 2, 0, 0), (.ishl, 0, 0), (.ior, 0, 0), (.istore 1, 0, 0), (.iinc 2 1, 0, 0), (.goto 4, 0, 0), (.iload 1, 0, 0), (.ireturn, 0, 0)]
/-- LentHands.spread(II)I -/
def am_c211 : List am_I := [(.iload 1, 0, 0), (.bipush 0, 0, 0), (.bipush 3, 0, 0), (.invokevirtual 253, 3, 143), (.ifCond .ne 7, 0, 0), (.bipush (-1), 0, 0), (.ireturn, 0, 0), (.bipush 0, 0, 0), (.istore 3, 0, 0), (.bipush 0, 0, 0), (.istore 4, 0, 1), (.iload 4, 0, 1), (.bipush 2, 0, 0), (.iload 0, 1, 0), (.checkcast 0, 6, 10), (.getfield 2, 5, 75), (.imul, 0, 0), (.if_icmp .ge 46, 0, 0), (.iload 0, 1, 0), (.checkcast 0, 6, 10), (.checkcast 10, 5, 172), (.iload 4, 0, 1), (.iaload, 0, 0), (.istore 5, 0, 1), (.iload 5, 0, 1), (.bipush (-1), 0, 0), (.if_icmp .eq 44, 0, 0), (.iload 0, 1, 0), (.checkcast 0, 6, 10), (.checkcast 11, 5, 248), (.iload 4, 0, 1), (.bipush 4, 0, 0), (.imul, 0, 0), (.iload 1, 0, 0), (.iadd, 0, 0), (.iaload, 0, 0), (.iload 2, 0, 0), (.if_icmp .lt 44, 0, 0), (.iload 3, 0, 0), (.bipush 1, 0, 0), (.iload 5, 0, 1), (.ishl, 0, 0), (.ior, 0, 0), (.istore 3, 0, 0), (.iinc 4 1, 0, 0), (.goto 11, 0, 0), (.iload 3, 0, 0), (.ireturn, 0, 0)]
/-- LentHands.whose(I)I -/
def am_c212 : List am_I := [(.iload 1, 0, 0), (.bipush 0, 0, 0), (.bipush 1, 0, 0), (.iload 0, 1, 0), (.checkcast 0, 6, 10), (.getfield 2, 5, 75), (.ishl, 0, 0), (.bipush 1, 0, 0), (.isub, 0, 0), (.invokevirtual 253, 3, 143), (.ifCond .ne 13, 0, 0), (.bipush (-1), 0, 0), (.ireturn, 0, 0), (.bipush 0, 0, 0), (.istore 2, 0, 0), (.bipush 0, 0, 0), (.istore 3, 0, 0), (.iload 3, 0, 0), (.bipush 2, 0, 0), (.iload 0, 1, 0), (.checkcast 0, 6, 10), (.getfield 2, 5, 75), (.imul, 0, 0), (.if_icmp .ge 41, 0, 0), (.iload 0, 1, 0), (.checkcast 0, 6, 10), (.checkcast 14, 5, 257), (.iload 3, 0, 0), (.iaload, 0, 0), (.iload 1, 0, 0), (.iand, 0, 0), (.iload 1, 0, 0), (.if_icmp .ne 39, 0, 0), (.iload 2, 0, 0), (.bipush 1, 0, 0), (.iload 3, 0, 0), (.ishl, 0, 0), (.ior, 0, 0), (.istore 2, 0, 0), (.iinc 3 1, 0, 0), (.goto 17, 0, 0), (.iload 2, 0, 0), (.ireturn, 0, 0)]
/-- LentHands.ask(I)I -/
def am_c213 : List am_I := [(.iload 1, 0, 0), (.invokevirtual 255, 1, 407), (.istore 2, 0, 0), (.iload 1, 0, 0), (.bipush 0, 0, 0), (.bipush 1, 0, 0), (.bipush 2, 0, 0), (.iload 0, 1, 0), (.checkcast 0, 6, 10), (.getfield 2, 5, 75), (.imul, 0, 0), (.ishl, 0, 0), (.bipush 1, 0, 0), (.isub, 0, 0), (.invokevirtual 253, 3, 143), (.ifCond .eq 19, 0, 0), (.iload 2, 0, 0), (.bipush 2, 0, 0), (.if_icmp .ge 21, 0, 0), (.bipush (-1), 0, 0), (.ireturn, 0, 0), (.bipush (-1), 0, 0), (.istore 3, 0, 0), (.bipush 17, 1, 0), (.istore 4, 0, 1), (.bipush 0, 0, 0), (.istore 5, 0, 1), (.iload 5, 0, 1), (.iload 0, 1, 0), (.checkcast 0, 6, 10), (.getfield 2, 5, 75), (.if_icmp .ge 52, 0, 0), (.iload 0, 1, 0), (.iload 1, 0, 0), (.iload 5, 0, 1), (.invokevirtual 214, 3, 559), (.istore 6, 0, 1), (.iload 6, 0, 1), (.iload 2, 0, 0), (.iload 6, 0, 1), (.isub, 0, 0), (.ladd, 282, 0), (.istore 7, 0, 1), (.iload 7, 0, 1), (.iload 4, 0, 1), (.if_icmp .ge 50, 0, 0), (.iload 5, 0, 1), (.istore 3, 0, 0), (.iload 7, 0, 1), (.istore 4, 0, 1), (.iinc 5 1, 0, 0), (.goto 27, 0, 0), (.iload 3, 0, 0), (.ireturn, 0, 0)]
/-- LentHands.markedAmong(II)I -/
def am_c214 : List am_I := [(.bipush 0, 0, 0), (.istore 3, 0, 0), (.bipush 0, 0, 0), (.istore 4, 0, 1), (.iload 4, 0, 1), (.bipush 2, 0, 0), (.iload 0, 1, 0), (.checkcast 0, 6, 10), (.getfield 2, 5, 75), (.imul, 0, 0), (.if_icmp .ge 32, 0, 0), (.iload 1, 0, 0), (.iload 4, 0, 1), (.ishr, 0, 0), (.bipush 1, 0, 0), (.iand, 0, 0), (.bipush 1, 0, 0), (.if_icmp .ne 30, 0, 0), (.iload 0, 1, 0), (.checkcast 0, 6, 10), (.checkcast 14, 5, 257), (.iload 4, 0, 1), (.iaload, 0, 0), (.iload 2, 0, 0), (.ishr, 0, 0), (.bipush 1, 0, 0), (.iand, 0, 0), (.bipush 1, 0, 0), (.if_icmp .ne 30, 0, 0), (.iinc 3 1, 0, 0), (.iinc 4 1, 0, 0), (.goto 4, 0, 0), (.iload 3, 0, 0), (.ireturn, 0, 0)]
/-- LentHands.turnsOf(IIII)I -/
def am_c215 : List am_I := [(.iload 1, 0, 0), (.bipush 1, 0, 0), (.bipush 60, 1, 0), (.invokevirtual 253, 3, 143), (.ifCond .eq 15, 0, 0), (.iload 2, 0, 0), (.bipush 1, 0, 0), (.bipush 9, 1, 0), (.invokevirtual 253, 3, 143), (.ifCond .eq 15, 0, 0), (.iload 3, 0, 0), (.bipush 1, 0, 0), (.bipush 9, 1, 0), (.invokevirtual 253, 3, 143), (.ifCond .ne 17, 0, 0), (.bipush (-1), 0, 0), (.ireturn, 0, 0), (.iload 4, 0, 1), (.ifCond .eq 28, 0, 0), (.iload 4, 0, 1), (.bipush 10, 1, 0), (.bipush 9, 1, 0), (.iload 1, 0, 0), (.iadd, 0, 0), (.invokevirtual 253, 3, 143), (.ifCond .ne 28, 0, 0), (.bipush (-1), 0, 0), (.ireturn, 0, 0), (.bipush 0, 0, 0), (.istore 5, 0, 1), (.bipush 0, 0, 0), (.istore 6, 0, 1), (.iload 6, 0, 1), (.iload 1, 0, 0), (.if_icmp .ge 64, 0, 0), (.iload 5, 0, 1), (.iload 3, 0, 0), (.imul, 0, 0), (.iload 6, 0, 1), (.iload 5, 0, 1), (.isub, 0, 0), (.iload 2, 0, 0), (.imul, 0, 0), (.if_icmp .gt 46, 0, 0), (.bipush 1, 0, 0), (.goto 47, 0, 0), (.bipush 0, 0, 0), (.istore 7, 0, 1), (.iload 4, 0, 1), (.bipush 10, 1, 0), (.iload 6, 0, 1), (.iadd, 0, 0), (.if_icmp .ne 59, 0, 0), (.iload 7, 0, 1), (.ifCond .eq 57, 0, 0), (.bipush 0, 0, 0), (.goto 58, 0, 0), (.bipush 1, 0, 0), (.ireturn, 0, 0), (.iload 7, 0, 1), (.ifCond .eq 62, 0, 0), (.iinc 5 1, 0, 0), (.iinc 6 1, 0, 0), (.goto 32, 0, 0), (.iload 5, 0, 1), (.ireturn, 0, 0)]
/-- LentHands.may(IIII)I -/
def am_c216 : List am_I := [(.iload 0, 1, 0), (.checkcast 0, 6, 10), (.iload 1, 0, 0), (.invokevirtual 135, 2, 181), (.ifCond .eq 10, 0, 0), (.iload 0, 1, 0), (.checkcast 0, 6, 10), (.iload 2, 0, 0), (.invokevirtual 134, 2, 165), (.ifCond .ne 12, 0, 0), (.bipush (-1), 0, 0), (.ireturn, 0, 0), (.iload 3, 0, 0), (.bipush 1, 0, 0), (.bipush 99, 1, 0), (.invokevirtual 253, 3, 143), (.ifCond .eq 22, 0, 0), (.iload 4, 0, 1), (.bipush 0, 0, 0), (.bipush 99, 1, 0), (.invokevirtual 253, 3, 143), (.ifCond .ne 24, 0, 0), (.bipush (-1), 0, 0), (.ireturn, 0, 0), (.iload 0, 1, 0), (.iload 0, 1, 0), (.checkcast 0, 6, 10), (.iload 1, 0, 0), (.iload 2, 0, 0), (.iload 3, 0, 0), (.iload 4, 0, 1), (.invokevirtual 217, 6, 571), (.ifCond .eq 35, 0, 0), (.bipush 1, 0, 0), (.goto 36, 0, 0), (.bipush 0, 0, 0), (.ireturn, 0, 0)]
/-- LentHands.lawLends(LLentHands$World;IIII)Z -/
def am_c217 : List am_I := [(.iload 0, 1, 0), (.checkcast 14, 6, 57), (.checkcast 0, 0, 288), (.istore 6, 1, 1), (.iload 0, 1, 0), (.iload 1, 1, 0), (.iload 2, 0, 0), (.iload 3, 0, 0), (.invokevirtual 251, 4, 582), (.iload 6, 1, 1), (.bipush 4, 0, 0), (.iload 4, 0, 1), (.iastore, 0, 0), (.iload 6, 1, 1), (.bipush 5, 0, 0), (.iload 5, 0, 1), (.iastore, 0, 0), (.iload 6, 1, 1), (.bipush 6, 1, 0), (.iload 1, 1, 0), (.checkcast 5, 5, 236), (.iload 3, 0, 0), (.iaload, 0, 0), (.iastore, 0, 0), (.iload 6, 1, 1), (.bipush 9, 1, 0), (.iload 1, 1, 0), (.iload 2, 0, 0), (.invokevirtual 144, 2, 527), (.iastore, 0, 0), (.iload 0, 1, 0), (.checkcast 5, 6, 26), (.checkcast 0, 4, 110), (.bipush 0, 0, 0), (.aaload, 0, 0), (.iload 0, 1, 0), (.checkcast 14, 6, 57), (.invokevirtual 154, 2, 591), (.istore 7, 0, 1), (.iload 7, 0, 1), (.bipush (-1), 0, 0), (.if_icmp .eq 45, 0, 0), (.iload 7, 0, 1), (.bipush 18, 1, 0), (.if_icmp .ne 47, 0, 0), (.bipush 1, 0, 0), (.goto 48, 0, 0), (.bipush 0, 0, 0), (.ireturn, 1, 0)]
/-- LentHands.canBeLent(LLentHands$World;IIII)Z -/
def am_c218 : List am_I := [(.iload 1, 1, 0), (.iload 2, 0, 0), (.invokevirtual 135, 2, 181), (.ifCond .eq 20, 0, 0), (.iload 1, 1, 0), (.iload 3, 0, 0), (.invokevirtual 134, 2, 165), (.ifCond .eq 20, 0, 0), (.iload 1, 1, 0), (.checkcast 10, 5, 172), (.iload 2, 0, 0), (.iaload, 0, 0), (.bipush (-1), 0, 0), (.if_icmp .eq 20, 0, 0), (.iload 1, 1, 0), (.checkcast 10, 5, 172), (.iload 2, 0, 0), (.iaload, 0, 0), (.iload 3, 0, 0), (.if_icmp .ne 22, 0, 0), (.bipush 0, 0, 0), (.ireturn, 1, 0), (.iload 4, 0, 1), (.bipush 1, 0, 0), (.bipush 99, 1, 0), (.invokevirtual 253, 3, 143), (.ifCond .eq 32, 0, 0), (.iload 5, 0, 1), (.bipush 0, 0, 0), (.bipush 99, 1, 0), (.invokevirtual 253, 3, 143), (.ifCond .ne 34, 0, 0), (.bipush 0, 0, 0), (.ireturn, 1, 0), (.iload 1, 1, 0), (.getfield 3, 5, 269), (.bipush 16, 1, 0), (.if_icmp .ge 46, 0, 0), (.iload 1, 1, 0), (.checkcast 5, 5, 236), (.iload 3, 0, 0), (.iaload, 0, 0), (.iload 4, 0, 1), (.iload 5, 0, 1), (.imul, 0, 0), (.if_icmp .ge 48, 0, 0), (.bipush 0, 0, 0), (.ireturn, 1, 0), (.iload 1, 1, 0), (.iload 2, 0, 0), (.invokevirtual 143, 2, 491), (.istore 6, 0, 1), (.iload 6, 0, 1), (.bipush (-1), 0, 0), (.if_icmp .eq 66, 0, 0), (.iload 1, 1, 0), (.getfield 1, 5, 196), (.iload 4, 0, 1), (.iadd, 0, 0), (.iload 1, 1, 0), (.iload 6, 0, 1), (.bipush 3, 0, 0), (.invokevirtual 142, 3, 533), (.if_icmp .le 66, 0, 0), (.bipush 0, 0, 0), (.ireturn, 1, 0), (.iload 0, 1, 0), (.iload 1, 1, 0), (.iload 2, 0, 0), (.iload 3, 0, 0), (.iload 4, 0, 1), (.iload 5, 0, 1), (.invokevirtual 217, 6, 571), (.ireturn, 1, 0)]
/-- LentHands.finds(IIII)I -/
def am_c219 : List am_I := [(.iload 0, 1, 0), (.checkcast 0, 6, 10), (.iload 1, 0, 0), (.invokevirtual 134, 2, 165), (.ifCond .eq 10, 0, 0), (.iload 2, 0, 0), (.bipush 0, 0, 0), (.bipush 3, 0, 0), (.invokevirtual 253, 3, 143), (.ifCond .ne 12, 0, 0), (.bipush (-1), 0, 0), (.ireturn, 0, 0), (.bipush 0, 0, 0), (.istore 5, 0, 1), (.iload 5, 0, 1), (.bipush 2, 0, 0), (.iload 0, 1, 0), (.checkcast 0, 6, 10), (.getfield 2, 5, 75), (.imul, 0, 0), (.if_icmp .ge 45, 0, 0), (.iload 0, 1, 0), (.checkcast 0, 6, 10), (.checkcast 11, 5, 248), (.iload 5, 0, 1), (.bipush 4, 0, 0), (.imul, 0, 0), (.iload 2, 0, 0), (.iadd, 0, 0), (.iaload, 0, 0), (.iload 3, 0, 0), (.if_icmp .lt 43, 0, 0), (.iload 0, 1, 0), (.iload 0, 1, 0), (.checkcast 0, 6, 10), (.iload 5, 0, 1), (.iload 1, 0, 0), (.iload 4, 0, 1), (.bipush 0, 0, 0), (.invokevirtual 218, 6, 305), (.ifCond .eq 43, 0, 0), (.iload 5, 0, 1), (.ireturn, 0, 0), (.iinc 5 1, 0, 0), (.goto 14, 0, 0), (.bipush (-1), 0, 0), (.ireturn, 0, 0)]
/-- LentHands.dear(III)I -/
def am_c220 : List am_I := [(.bipush 99, 1, 0), (.istore 4, 0, 1), (.iload 4, 0, 1), (.ifCond .lt 17, 0, 0), (.iload 0, 1, 0), (.iload 0, 1, 0), (.checkcast 0, 6, 10), (.iload 1, 0, 0), (.iload 2, 0, 0), (.iload 3, 0, 0), (.iload 4, 0, 1), (.invokevirtual 218, 6, 305), (.ifCond .eq 15, 0, 0), (.iload 4, 0, 1), (.ireturn, 0, 0), (.iinc 4 (-1), 0, 0), (.goto 2, 0, 0), (.bipush (-1), 0, 0), (.ireturn, 0, 0)]
/-- LentHands.can(II)I -/
def am_c221 : List am_I := [(.iload 0, 1, 0), (.checkcast 0, 6, 10), (.iload 1, 0, 0), (.invokevirtual 134, 2, 165), (.ifCond .eq 15, 0, 0), (.iload 2, 0, 0), (.bipush 0, 0, 0), (.iload 0, 1, 0), (.checkcast 5, 6, 26), (.checkcast 2, 4, 142), (.getfield 0, 3, 145), (.bipush 1, 0, 0), (.isub, 0, 0), (.invokevirtual 253, 3, 143), (.ifCond .ne 17, 0, 0), (.bipush (-1), 0, 0), (.ireturn, 0, 0), (.iload 0, 1, 0), (.iload 1, 0, 0), (.iload 2, 0, 0), (.invokevirtual 222, 3, 599), (.ifCond .eq 24, 0, 0), (.bipush 1, 0, 0), (.goto 25, 0, 0), (.bipush 0, 0, 0), (.ireturn, 0, 0)]
/-- LentHands.canDo(II)Z -/
def am_c222 : List am_I := [(.iload 0, 1, 0), (.iload 2, 0, 0), (.iload 0, 1, 0), (.checkcast 0, 6, 10), (.checkcast 9, 5, 169), (.bipush 2, 0, 0), (.iload 1, 0, 0), (.imul, 0, 0), (.iaload, 0, 0), (.iload 0, 1, 0), (.checkcast 0, 6, 10), (.checkcast 9, 5, 169), (.bipush 2, 0, 0), (.iload 1, 0, 0), (.imul, 0, 0), (.bipush 1, 0, 0), (.iadd, 0, 0), (.iaload, 0, 0), (.invokevirtual 223, 4, 607), (.ireturn, 1, 0)]
/-- LentHands.suffice(III)Z -/
def am_c223 : List am_I := [(.iload 0, 1, 0), (.iload 1, 0, 0), (.iload 2, 0, 0), (.invokevirtual 224, 3, 613), (.istore 4, 0, 1), (.iload 0, 1, 0), (.iload 1, 0, 0), (.iload 3, 0, 0), (.invokevirtual 224, 3, 613), (.istore 5, 0, 1), (.iload 0, 1, 0), (.checkcast 5, 6, 26), (.checkcast 2, 4, 142), (.iload 1, 0, 0), (.bipush 3, 0, 0), (.invokevirtual 157, 3, 619), (.bipush 1, 0, 0), (.if_icmp .ne 26, 0, 0), (.iload 4, 0, 1), (.ifCond .eq 24, 0, 0), (.iload 5, 0, 1), (.ifCond .eq 24, 0, 0), (.bipush 1, 0, 0), (.goto 33, 0, 0), (.bipush 0, 0, 0), (.goto 33, 0, 0), (.iload 4, 0, 1), (.ifCond .ne 30, 0, 0), (.iload 5, 0, 1), (.ifCond .eq 32, 0, 0), (.bipush 1, 0, 0), (.goto 33, 0, 0), (.bipush 0, 0, 0), (.ireturn, 1, 0)]
/-- LentHands.suffices(II)Z -/
def am_c224 : List am_I := [(.iload 0, 1, 0), (.checkcast 5, 6, 26), (.checkcast 2, 4, 142), (.iload 1, 0, 0), (.bipush 0, 0, 0), (.invokevirtual 157, 3, 619), (.istore 3, 0, 0), (.iload 0, 1, 0), (.checkcast 0, 6, 10), (.iload 2, 0, 0), (.invokevirtual 135, 2, 181), (.ifCond .eq 30, 0, 0), (.iload 0, 1, 0), (.checkcast 0, 6, 10), (.checkcast 11, 5, 248), (.iload 2, 0, 0), (.bipush 4, 0, 0), (.imul, 0, 0), (.iload 3, 0, 0), (.iadd, 0, 0), (.iaload, 0, 0), (.iload 0, 1, 0), (.checkcast 5, 6, 26), (.checkcast 2, 4, 142), (.iload 1, 0, 0), (.bipush 1, 0, 0), (.invokevirtual 157, 3, 619), (.if_icmp .lt 30, 0, 0), (.bipush 1, 0, 0), (.goto 31, 0, 0), (.bipush 0, 0, 0), (.ireturn, 1, 0)]
/-- LentHands.pay(I)I -/
def am_c225 : List am_I := [(.iload 0, 1, 0), (.checkcast 5, 6, 26), (.checkcast 2, 4, 142), (.getfield 0, 3, 145), (.istore 2, 0, 0), (.iload 1, 0, 0), (.ifCond .eq 16, 0, 0), (.iload 1, 0, 0), (.bipush 10, 1, 0), (.bipush 9, 1, 0), (.iload 2, 0, 0), (.iadd, 0, 0), (.invokevirtual 253, 3, 143), (.ifCond .ne 16, 0, 0), (.bipush (-1), 0, 0), (.ireturn, 0, 0), (.bipush 0, 0, 0), (.istore 3, 0, 0), (.iload 3, 0, 0), (.bipush 1, 0, 0), (.iload 0, 1, 0), (.checkcast 0, 6, 10), (.getfield 2, 5, 75), (.ishl, 0, 0), (.if_icmp .ge 36, 0, 0), (.iload 0, 1, 0), (.checkcast 15, 6, 61), (.iload 2, 0, 0), (.bipush 8, 1, 0), (.ishl, 0, 0), (.iload 3, 0, 0), (.iadd, 0, 0), (.bipush 0, 0, 0), (.iastore, 0, 0), (.iinc 3 1, 0, 0), (.goto 18, 0, 0), (.iload 2, 0, 0), (.bipush 1, 0, 0), (.isub, 0, 0), (.istore 3, 0, 0), (.iload 3, 0, 0), (.ifCond .lt 47, 0, 0), (.iload 0, 1, 0), (.iload 3, 0, 0), (.invokevirtual 226, 2, 624), (.iinc 3 (-1), 0, 0), (.goto 40, 0, 0), (.iload 1, 0, 0), (.ifCond .ne 54, 0, 0), (.iload 0, 1, 0), (.checkcast 15, 6, 61), (.bipush 0, 0, 0), (.iaload, 0, 0), (.goto 59, 0, 0), (.iload 0, 1, 0), (.iload 1, 0, 0), (.bipush 10, 1, 0), (.isub, 0, 0), (.invokevirtual 228, 2, 631), (.ireturn, 0, 0)]
/-- LentHands.planWork(I)V -/
def am_c226 : List am_I := [(.iload 1, 0, 0), (.bipush 8, 1, 0), (.ishl, 0, 0), (.istore 2, 0, 0), (.iload 1, 0, 0), (.bipush 1, 0, 0), (.iadd, 0, 0), (.bipush 8, 1, 0), (.ishl, 0, 0), (.istore 3, 0, 0), (.iload 0, 1, 0), (.checkcast 5, 6, 26), (.checkcast 2, 4, 142), (.iload 1, 0, 0), (.bipush 2, 0, 0), (.invokevirtual 157, 3, 619), (.istore 4, 0, 1), (.iload 0, 1, 0), (.iload 1, 0, 0), (.invokevirtual 227, 2, 637), (.istore 5, 0, 1), (.bipush 0, 0, 0), (.istore 6, 0, 1), (.iload 6, 0, 1), (.bipush 1, 0, 0), (.iload 0, 1, 0), (.checkcast 0, 6, 10), (.getfield 2, 5, 75), (.ishl, 0, 0), (.if_icmp .ge 81, 0, 0), (.iload 0, 1, 0), (.checkcast 15, 6, 61), (.iload 3, 0, 0), (.iload 6, 0, 1), (.iadd, 0, 0), (.iaload, 0, 0), (.istore 7, 0, 1), (.bipush 0, 0, 0), (.istore 8, 0, 1), (.iload 8, 0, 1), (.iload 0, 1, 0), (.checkcast 0, 6, 10), (.getfield 2, 5, 75), (.if_icmp .ge 72, 0, 0), (.iload 5, 0, 1), (.iload 6, 0, 1), (.bipush (-1), 0, 0), (.ixor, 0, 0), (.iand, 0, 0), (.iload 8, 0, 1), (.ishr, 0, 0), (.bipush 1, 0, 0), (.iand, 0, 0), (.bipush 1, 0, 0), (.if_icmp .ne 70, 0, 0), (.iload 7, 0, 1), (.iload 4, 0, 1), (.iload 0, 1, 0), (.checkcast 15, 6, 61), (.iload 3, 0, 0), (.iload 6, 0, 1), (.bipush 1, 0, 0), (.iload 8, 0, 1), (.ishl, 0, 0), (.ior, 0, 0), (.iadd, 0, 0), (.iaload, 0, 0), (.iadd, 0, 0), (.ladd, 282, 0), (.istore 7, 0, 1), (.iinc 8 1, 0, 0), (.goto 39, 0, 0), (.iload 0, 1, 0), (.checkcast 15, 6, 61), (.iload 2, 0, 0), (.iload 6, 0, 1), (.iadd, 0, 0), (.iload 7, 0, 1), (.iastore, 0, 0), (.iinc 6 1, 0, 0), (.goto 23, 0, 0), (.return_, 0, 0)]
/-- LentHands.doersOf(I)I -/
def am_c227 : List am_I := [(.bipush 0, 0, 0), (.istore 2, 0, 0), (.bipush 0, 0, 0), (.istore 3, 0, 0), (.iload 3, 0, 0), (.iload 0, 1, 0), (.checkcast 0, 6, 10), (.getfield 2, 5, 75), (.if_icmp .ge 22, 0, 0), (.iload 0, 1, 0), (.iload 3, 0, 0), (.iload 1, 0, 0), (.invokevirtual 222, 3, 599), (.ifCond .eq 20, 0, 0), (.iload 2, 0, 0), (.bipush 1, 0, 0), (.iload 3, 0, 0), (.ishl, 0, 0), (.ior, 0, 0), (.istore 2, 0, 0), (.iinc 3 1, 0, 0), (.goto 4, 0, 0), (.iload 2, 0, 0), (.ireturn, 0, 0)]
/-- LentHands.doer(I)I -/
def am_c228 : List am_I := [(.bipush 0, 0, 0), (.istore 2, 0, 0), (.bipush (-1), 0, 0), (.istore 3, 0, 0), (.bipush 0, 0, 0), (.istore 4, 0, 1), (.iload 4, 0, 1), (.iload 1, 0, 0), (.if_icmp .gt 25, 0, 0), (.iload 0, 1, 0), (.iload 4, 0, 1), (.iload 2, 0, 0), (.invokevirtual 229, 3, 643), (.istore 3, 0, 0), (.iload 3, 0, 0), (.bipush (-1), 0, 0), (.if_icmp .eq 23, 0, 0), (.iload 2, 0, 0), (.bipush 1, 0, 0), (.iload 3, 0, 0), (.ishl, 0, 0), (.ior, 0, 0), (.istore 2, 0, 0), (.iinc 4 1, 0, 0), (.goto 6, 0, 0), (.iload 3, 0, 0), (.ireturn, 0, 0)]
/-- LentHands.firstDoer(II)I -/
def am_c229 : List am_I := [(.iload 1, 0, 0), (.bipush 1, 0, 0), (.iadd, 0, 0), (.bipush 8, 1, 0), (.ishl, 0, 0), (.istore 3, 0, 0), (.iload 0, 1, 0), (.checkcast 15, 6, 61), (.iload 1, 0, 0), (.bipush 8, 1, 0), (.ishl, 0, 0), (.iload 2, 0, 0), (.iadd, 0, 0), (.iaload, 0, 0), (.istore 4, 0, 1), (.iload 0, 1, 0), (.checkcast 15, 6, 61), (.iload 3, 0, 0), (.iload 2, 0, 0), (.iadd, 0, 0), (.iaload, 0, 0), (.iload 4, 0, 1), (.if_icmp .ne 25, 0, 0), (.bipush (-1), 0, 0), (.ireturn, 0, 0), (.iload 0, 1, 0), (.checkcast 5, 6, 26), (.checkcast 2, 4, 142), (.iload 1, 0, 0), (.bipush 2, 0, 0), (.invokevirtual 157, 3, 619), (.istore 5, 0, 1), (.iload 0, 1, 0), (.iload 1, 0, 0), (.invokevirtual 227, 2, 637), (.iload 2, 0, 0), (.bipush (-1), 0, 0), (.ixor, 0, 0), (.iand, 0, 0), (.istore 6, 0, 1), (.bipush 0, 0, 0), (.istore 7, 0, 1), (.iload 7, 0, 1), (.iload 0, 1, 0), (.checkcast 0, 6, 10), (.getfield 2, 5, 75), (.if_icmp .ge 72, 0, 0), (.iload 6, 0, 1), (.iload 7, 0, 1), (.ishr, 0, 0), (.bipush 1, 0, 0), (.iand, 0, 0), (.bipush 1, 0, 0), (.if_icmp .ne 70, 0, 0), (.iload 5, 0, 1), (.iload 0, 1, 0), (.checkcast 15, 6, 61), (.iload 3, 0, 0), (.iload 2, 0, 0), (.bipush 1, 0, 0), (.iload 7, 0, 1), (.ishl, 0, 0), (.ior, 0, 0), (.iadd, 0, 0), (.iaload, 0, 0), (.iadd, 0, 0), (.iload 4, 0, 1), (.if_icmp .ne 70, 0, 0), (.iload 7, 0, 1), (.ireturn, 0, 0), (.iinc 7 1, 0, 0), (.goto 42, 0, 0), (.bipush (-1), 0, 0), (.ireturn, 0, 0)]
/-- LentHands.wishes(III)I -/
def am_c230 : List am_I := [(.iload 0, 1, 0), (.checkcast 0, 6, 10), (.iload 1, 0, 0), (.invokevirtual 134, 2, 165), (.ifCond .eq 20, 0, 0), (.iload 2, 0, 0), (.bipush 0, 0, 0), (.iload 0, 1, 0), (.checkcast 5, 6, 26), (.checkcast 2, 4, 142), (.getfield 0, 3, 145), (.bipush 1, 0, 0), (.isub, 0, 0), (.invokevirtual 253, 3, 143), (.ifCond .eq 20, 0, 0), (.iload 3, 0, 0), (.bipush 0, 0, 0), (.bipush 2, 0, 0), (.invokevirtual 253, 3, 143), (.ifCond .ne 22, 0, 0), (.bipush (-2), 1, 0), (.ireturn, 0, 0), (.iload 0, 1, 0), (.iload 1, 0, 0), (.iload 2, 0, 0), (.invokevirtual 222, 3, 599), (.ifCond .eq 33, 0, 0), (.iload 3, 0, 0), (.ifCond .ne 31, 0, 0), (.bipush 0, 0, 0), (.goto 32, 0, 0), (.bipush (-1), 0, 0), (.ireturn, 0, 0), (.iload 0, 1, 0), (.iload 1, 0, 0), (.iload 2, 0, 0), (.bipush 1, 0, 0), (.invokevirtual 231, 4, 649), (.istore 4, 0, 1), (.iload 4, 0, 1), (.bipush (-1), 0, 0), (.if_icmp .eq 53, 0, 0), (.iload 3, 0, 0), (.ifCond .ne 46, 0, 0), (.bipush 1, 0, 0), (.goto 52, 0, 0), (.iload 3, 0, 0), (.bipush 1, 0, 0), (.if_icmp .ne 51, 0, 0), (.bipush (-1), 0, 0), (.goto 52, 0, 0), (.iload 4, 0, 1), (.ireturn, 0, 0), (.iload 0, 1, 0), (.iload 1, 0, 0), (.iload 2, 0, 0), (.bipush 0, 0, 0), (.invokevirtual 231, 4, 649), (.istore 5, 0, 1), (.iload 5, 0, 1), (.bipush (-1), 0, 0), (.if_icmp .eq 73, 0, 0), (.iload 3, 0, 0), (.ifCond .ne 66, 0, 0), (.bipush 1, 0, 0), (.goto 72, 0, 0), (.iload 3, 0, 0), (.bipush 1, 0, 0), (.if_icmp .ne 71, 0, 0), (.iload 5, 0, 1), (.goto 72, 0, 0), (.bipush (-1), 0, 0), (.ireturn, 0, 0), (.bipush 0, 0, 0), (.istore 5, 0, 1), (.iload 5, 0, 1), (.bipush 2, 0, 0), (.iload 0, 1, 0), (.checkcast 0, 6, 10), (.getfield 2, 5, 75), (.imul, 0, 0), (.if_icmp .ge 104, 0, 0), (.iload 0, 1, 0), (.iload 1, 0, 0), (.iload 2, 0, 0), (.iload 5, 0, 1), (.invokevirtual 232, 4, 655), (.istore 4, 0, 1), (.iload 4, 0, 1), (.bipush (-1), 0, 0), (.if_icmp .eq 102, 0, 0), (.iload 3, 0, 0), (.ifCond .ne 95, 0, 0), (.bipush 2, 0, 0), (.goto 101, 0, 0), (.iload 3, 0, 0), (.bipush 1, 0, 0), (.if_icmp .ne 100, 0, 0), (.iload 5, 0, 1), (.goto 101, 0, 0), (.iload 4, 0, 1), (.ireturn, 0, 0), (.iinc 5 2, 0, 0), (.goto 75, 0, 0), (.bipush (-2), 1, 0), (.ireturn, 0, 0)]
/-- LentHands.oneWish(III)I -/
def am_c231 : List am_I := [(.iload 0, 1, 0), (.checkcast 0, 6, 10), (.checkcast 9, 5, 169), (.bipush 2, 0, 0), (.iload 1, 0, 0), (.imul, 0, 0), (.bipush 1, 0, 0), (.iadd, 0, 0), (.iload 3, 0, 0), (.isub, 0, 0), (.iaload, 0, 0), (.istore 4, 0, 1), (.iload 3, 0, 0), (.istore 5, 0, 1), (.iload 5, 0, 1), (.bipush 2, 0, 0), (.iload 0, 1, 0), (.checkcast 0, 6, 10), (.getfield 2, 5, 75), (.imul, 0, 0), (.if_icmp .ge 40, 0, 0), (.iload 0, 1, 0), (.iload 2, 0, 0), (.iload 5, 0, 1), (.iload 4, 0, 1), (.invokevirtual 223, 4, 607), (.ifCond .eq 38, 0, 0), (.iload 0, 1, 0), (.iload 0, 1, 0), (.checkcast 0, 6, 10), (.iload 5, 0, 1), (.iload 1, 0, 0), (.bipush 1, 0, 0), (.bipush 0, 0, 0), (.invokevirtual 218, 6, 305), (.ifCond .eq 38, 0, 0), (.iload 5, 0, 1), (.ireturn, 0, 0), (.iinc 5 2, 0, 0), (.goto 14, 0, 0), (.bipush (-1), 0, 0), (.ireturn, 0, 0)]
/-- LentHands.secondWish(III)I -/
def am_c232 : List am_I := [(.iload 0, 1, 0), (.iload 0, 1, 0), (.checkcast 0, 6, 10), (.iload 3, 0, 0), (.iload 1, 0, 0), (.bipush 1, 0, 0), (.bipush 0, 0, 0), (.invokevirtual 218, 6, 305), (.ifCond .ne 11, 0, 0), (.bipush (-1), 0, 0), (.ireturn, 0, 0), (.iload 0, 1, 0), (.checkcast 1, 6, 16), (.iload 0, 1, 0), (.checkcast 0, 6, 10), (.invokevirtual 133, 2, 424), (.iload 0, 1, 0), (.checkcast 1, 6, 16), (.iload 3, 0, 0), (.iload 1, 0, 0), (.bipush 1, 0, 0), (.bipush 0, 0, 0), (.invokevirtual 147, 5, 319), (.pop, 0, 0), (.bipush 1, 0, 0), (.istore 4, 0, 1), (.iload 4, 0, 1), (.bipush 2, 0, 0), (.iload 0, 1, 0), (.checkcast 0, 6, 10), (.getfield 2, 5, 75), (.imul, 0, 0), (.if_icmp .ge 52, 0, 0), (.iload 0, 1, 0), (.iload 2, 0, 0), (.iload 3, 0, 0), (.iload 4, 0, 1), (.invokevirtual 223, 4, 607), (.ifCond .eq 50, 0, 0), (.iload 0, 1, 0), (.iload 0, 1, 0), (.checkcast 1, 6, 16), (.iload 4, 0, 1), (.iload 1, 0, 0), (.bipush 1, 0, 0), (.bipush 0, 0, 0), (.invokevirtual 218, 6, 305), (.ifCond .eq 50, 0, 0), (.iload 4, 0, 1), (.ireturn, 0, 0), (.iinc 4 2, 0, 0), (.goto 26, 0, 0), (.bipush (-1), 0, 0), (.ireturn, 0, 0)]
/-- LentHands.passHour(LLentHands$World;Z)I -/
def am_c233 : List am_I := [(.iload 0, 1, 0), (.iload 1, 1, 0), (.invokevirtual 234, 2, 661), (.istore 3, 0, 0), (.bipush 0, 0, 0), (.istore 4, 0, 1), (.iload 4, 0, 1), (.iload 1, 1, 0), (.getfield 2, 5, 75), (.if_icmp .ge 30, 0, 0), (.iload 1, 1, 0), (.checkcast 7, 5, 179), (.iload 4, 0, 1), (.iaload, 0, 0), (.bipush (-1), 0, 0), (.if_icmp .eq 28, 0, 0), (.iload 0, 1, 0), (.iload 1, 1, 0), (.iload 4, 0, 1), (.bipush 0, 0, 0), (.iload 2, 0, 0), (.invokevirtual 235, 5, 668), (.iload 0, 1, 0), (.iload 1, 1, 0), (.iload 4, 0, 1), (.bipush 1, 0, 0), (.iload 2, 0, 0), (.invokevirtual 235, 5, 668), (.iinc 4 1, 0, 0), (.goto 6, 0, 0), (.iload 1, 1, 0), (.invokevirtual 149, 1, 676), (.iload 1, 1, 0), (.invokevirtual 150, 1, 682), (.iload 3, 0, 0), (.ireturn, 0, 0)]
/-- LentHands.runBookings(LLentHands$World;)I -/
def am_c234 : List am_I := [(.iload 0, 1, 0), (.checkcast 5, 6, 26), (.checkcast 1, 4, 130), (.istore 2, 1, 0), (.bipush 0, 0, 0), (.istore 3, 0, 0), (.bipush 0, 0, 0), (.istore 4, 0, 1), (.iload 4, 0, 1), (.iload 2, 1, 0), (.getfield 0, 3, 145), (.if_icmp .ge 63, 0, 0), (.iload 2, 1, 0), (.iload 4, 0, 1), (.bipush 2, 0, 0), (.invokevirtual 157, 3, 619), (.iload 1, 1, 0), (.getfield 1, 5, 196), (.if_icmp .ne 61, 0, 0), (.iload 2, 1, 0), (.iload 4, 0, 1), (.bipush 0, 0, 0), (.invokevirtual 157, 3, 619), (.istore 5, 0, 1), (.iload 2, 1, 0), (.iload 4, 0, 1), (.bipush 1, 0, 0), (.invokevirtual 157, 3, 619), (.istore 6, 0, 1), (.iload 2, 1, 0), (.iload 4, 0, 1), (.bipush 3, 0, 0), (.invokevirtual 157, 3, 619), (.istore 7, 0, 1), (.iload 2, 1, 0), (.iload 4, 0, 1), (.bipush 4, 0, 0), (.invokevirtual 157, 3, 619), (.istore 8, 0, 1), (.iload 0, 1, 0), (.iload 1, 1, 0), (.iload 5, 0, 1), (.iload 6, 0, 1), (.iload 7, 0, 1), (.iload 8, 0, 1), (.invokevirtual 218, 6, 305), (.ifCond .eq 55, 0, 0), (.iload 1, 1, 0), (.iload 5, 0, 1), (.iload 6, 0, 1), (.iload 7, 0, 1), (.iload 8, 0, 1), (.invokevirtual 147, 5, 319), (.pop, 0, 0), (.goto 61, 0, 0), (.iload 3, 0, 0), (.bipush 1, 0, 0), (.iload 4, 0, 1), (.ishl, 0, 0), (.ior, 0, 0), (.istore 3, 0, 0), (.iinc 4 1, 0, 0), (.goto 8, 0, 0), (.iload 3, 0, 0), (.ireturn, 0, 0)]
/-- LentHands.toilOn(LLentHands$World;IIZ)V -/
def am_c235 : List am_I := [(.iload 1, 1, 0), (.checkcast 9, 5, 169), (.bipush 2, 0, 0), (.iload 2, 0, 0), (.imul, 0, 0), (.iload 3, 0, 0), (.iadd, 0, 0), (.iaload, 0, 0), (.istore 5, 0, 1), (.iload 5, 0, 1), (.bipush (-1), 0, 0), (.if_icmp .eq 42, 0, 0), (.iload 0, 1, 0), (.iload 1, 1, 0), (.iload 2, 0, 0), (.iload 5, 0, 1), (.iload 1, 1, 0), (.checkcast 7, 5, 179), (.iload 2, 0, 0), (.iaload, 0, 0), (.invokevirtual 236, 5, 689), (.istore 6, 0, 1), (.iload 4, 0, 1), (.ifCond .eq 42, 0, 0), (.iload 6, 0, 1), (.ifCond .le 42, 0, 0), (.iload 1, 1, 0), (.invokevirtual 148, 1, 697), (.iload 6, 0, 1), (.if_icmp .ge 42, 0, 0), (.iload 1, 1, 0), (.checkcast 13, 5, 254), (.iload 5, 0, 1), (.iload 1, 1, 0), (.checkcast 13, 5, 254), (.iload 5, 0, 1), (.iaload, 0, 0), (.bipush 1, 0, 0), (.iadd, 0, 0), (.bipush 9, 1, 0), (.lsub, 218, 0), (.iastore, 0, 0), (.return_, 0, 0)]
/-- LentHands.toil(LLentHands$World;III)I -/
def am_c236 : List am_I := [(.iload 0, 1, 0), (.checkcast 14, 6, 57), (.checkcast 0, 0, 288), (.istore 5, 1, 1), (.iload 3, 0, 0), (.bipush 4, 0, 0), (.imul, 0, 0), (.iload 4, 0, 1), (.iadd, 0, 0), (.istore 6, 0, 1), (.iload 0, 1, 0), (.iload 1, 1, 0), (.iload 3, 0, 0), (.iload 2, 0, 0), (.invokevirtual 251, 4, 582), (.iload 5, 1, 1), (.bipush 10, 1, 0), (.iload 1, 1, 0), (.checkcast 11, 5, 248), (.iload 6, 0, 1), (.iaload, 0, 0), (.iastore, 0, 0), (.iload 5, 1, 1), (.bipush 12, 1, 0), (.iload 4, 0, 1), (.iastore, 0, 0), (.iload 5, 1, 1), (.bipush 13, 1, 0), (.iload 1, 1, 0), (.getfield 1, 5, 196), (.iastore, 0, 0), (.iload 0, 1, 0), (.checkcast 5, 6, 26), (.checkcast 0, 4, 110), (.bipush 1, 0, 0), (.aaload, 0, 0), (.istore 7, 1, 1), (.iload 7, 1, 1), (.bipush 20, 1, 0), (.iload 0, 1, 0), (.checkcast 14, 6, 57), (.invokevirtual 155, 3, 703), (.bipush 9, 1, 0), (.invokevirtual 254, 2, 711), (.istore 8, 0, 1), (.iload 7, 1, 1), (.bipush 21, 1, 0), (.iload 0, 1, 0), (.checkcast 14, 6, 57), (.invokevirtual 155, 3, 703), (.bipush 9, 1, 0), (.invokevirtual 254, 2, 711), (.istore 9, 0, 1), (.iload 7, 1, 1), (.bipush 23, 1, 0), (.iload 0, 1, 0), (.checkcast 14, 6, 57), (.invokevirtual 155, 3, 703), (.bipush 99, 1, 0), (.invokevirtual 254, 2, 711), (.istore 10, 0, 1), (.iload 7, 1, 1), (.bipush 22, 1, 0), (.iload 0, 1, 0), (.checkcast 14, 6, 57), (.invokevirtual 155, 3, 703), (.bipush 1000, 2, 0), (.invokevirtual 254, 2, 711), (.istore 11, 0, 1), (.iload 1, 1, 0), (.checkcast 11, 5, 248), (.iload 6, 0, 1), (.iload 1, 1, 0), (.checkcast 11, 5, 248), (.iload 6, 0, 1), (.iaload, 0, 0), (.iload 8, 0, 1), (.iadd, 0, 0), (.bipush 99, 1, 0), (.lsub, 218, 0), (.iastore, 0, 0), (.iload 1, 1, 0), (.checkcast 12, 5, 251), (.iload 3, 0, 0), (.iload 1, 1, 0), (.checkcast 12, 5, 251), (.iload 3, 0, 0), (.iaload, 0, 0), (.iload 9, 0, 1), (.iadd, 0, 0), (.bipush 99, 1, 0), (.lsub, 218, 0), (.iastore, 0, 0), (.iload 1, 1, 0), (.checkcast 5, 5, 236), (.iload 2, 0, 0), (.iload 1, 1, 0), (.checkcast 5, 5, 236), (.iload 2, 0, 0), (.iaload, 0, 0), (.iload 10, 0, 1), (.iadd, 0, 0), (.bipush 9999, 2, 0), (.lsub, 218, 0), (.iastore, 0, 0), (.iload 11, 0, 1), (.ireturn, 0, 0)]
/-- LentHands.thinkAhead(I)V -/
def am_c237 : List am_I := [(.iload 0, 1, 0), (.checkcast 1, 6, 16), (.iload 0, 1, 0), (.checkcast 0, 6, 10), (.invokevirtual 133, 2, 424), (.bipush 0, 0, 0), (.istore 2, 0, 0), (.iload 2, 0, 0), (.iload 1, 0, 0), (.if_icmp .ge 18, 0, 0), (.iload 0, 1, 0), (.iload 0, 1, 0), (.checkcast 1, 6, 16), (.bipush 0, 0, 0), (.invokevirtual 233, 3, 399), (.pop, 0, 0), (.iinc 2 1, 0, 0), (.goto 7, 0, 0), (.return_, 0, 0)]
/-- LentHands.back()I -/
def am_c238 : List am_I := [(.iload 0, 1, 0), (.checkcast 1, 6, 16), (.iload 0, 1, 0), (.checkcast 0, 6, 10), (.invokevirtual 133, 2, 424), (.bipush 0, 0, 0), (.istore 1, 0, 0), (.iload 1, 0, 0), (.bipush 300, 2, 0), (.if_icmp .ge 26, 0, 0), (.iload 0, 1, 0), (.checkcast 1, 6, 16), (.invokevirtual 140, 1, 717), (.ifCond .ne 18, 0, 0), (.iload 0, 1, 0), (.checkcast 1, 6, 16), (.getfield 1, 5, 196), (.ireturn, 0, 0), (.iload 0, 1, 0), (.iload 0, 1, 0), (.checkcast 1, 6, 16), (.bipush 0, 0, 0), (.invokevirtual 233, 3, 399), (.pop, 0, 0), (.iinc 1 1, 0, 0), (.goto 7, 0, 0), (.iload 0, 1, 0), (.checkcast 1, 6, 16), (.invokevirtual 140, 1, 717), (.ifCond .ne 34, 0, 0), (.iload 0, 1, 0), (.checkcast 1, 6, 16), (.getfield 1, 5, 196), (.goto 35, 0, 0), (.bipush (-1), 0, 0), (.ireturn, 0, 0)]
/-- LentHands.where(II)I -/
def am_c239 : List am_I := [(.iload 0, 1, 0), (.checkcast 0, 6, 10), (.iload 1, 0, 0), (.invokevirtual 135, 2, 181), (.ifCond .eq 10, 0, 0), (.iload 2, 0, 0), (.bipush 0, 0, 0), (.bipush 300, 2, 0), (.invokevirtual 253, 3, 143), (.ifCond .ne 12, 0, 0), (.bipush (-2), 1, 0), (.ireturn, 0, 0), (.iload 0, 1, 0), (.iload 2, 0, 0), (.invokevirtual 237, 2, 722), (.iload 0, 1, 0), (.checkcast 1, 6, 16), (.checkcast 10, 5, 172), (.iload 1, 0, 0), (.iaload, 0, 0), (.ireturn, 0, 0)]
/-- LentHands.out(I)I -/
def am_c240 : List am_I := [(.iload 1, 0, 0), (.bipush 0, 0, 0), (.bipush 300, 2, 0), (.invokevirtual 253, 3, 143), (.ifCond .ne 7, 0, 0), (.bipush (-1), 0, 0), (.ireturn, 0, 0), (.iload 0, 1, 0), (.iload 1, 0, 0), (.invokevirtual 237, 2, 722), (.iload 0, 1, 0), (.checkcast 1, 6, 16), (.invokevirtual 140, 1, 717), (.ireturn, 0, 0)]
/-- LentHands.fails(I)I -/
def am_c241 : List am_I := [(.iload 1, 0, 0), (.bipush 0, 0, 0), (.bipush 1, 0, 0), (.invokevirtual 253, 3, 143), (.ifCond .ne 7, 0, 0), (.bipush (-1), 0, 0), (.ireturn, 0, 0), (.iload 0, 1, 0), (.checkcast 1, 6, 16), (.iload 0, 1, 0), (.checkcast 0, 6, 10), (.invokevirtual 133, 2, 424), (.bipush 0, 0, 0), (.istore 2, 0, 0), (.iload 2, 0, 0), (.bipush 300, 2, 0), (.if_icmp .ge 39, 0, 0), (.iload 0, 1, 0), (.checkcast 1, 6, 16), (.getfield 1, 5, 196), (.istore 3, 0, 0), (.iload 0, 1, 0), (.iload 0, 1, 0), (.checkcast 1, 6, 16), (.bipush 0, 0, 0), (.invokevirtual 233, 3, 399), (.istore 4, 0, 1), (.iload 4, 0, 1), (.ifCond .eq 37, 0, 0), (.iload 1, 0, 0), (.bipush 1, 0, 0), (.if_icmp .ne 34, 0, 0), (.iload 3, 0, 0), (.goto 36, 0, 0), (.iload 4, 0, 1), (.invokevirtual 242, 1, 729), (.ireturn, 0, 0), (.iinc 2 1, 0, 0), (.goto 14, 0, 0), (.bipush (-1), 0, 0), (.ireturn, 0, 0)]
/-- LentHands.leastOf(I)I -/
def am_c242 : List am_I := [(.bipush 0, 0, 0), (.istore 1, 0, 0), (.iload 1, 0, 0), (.bipush 16, 1, 0), (.if_icmp .ge 16, 0, 0), (.iload 0, 0, 0), (.iload 1, 0, 0), (.ishr, 0, 0), (.bipush 1, 0, 0), (.iand, 0, 0), (.bipush 1, 0, 0), (.if_icmp .ne 14, 0, 0), (.iload 1, 0, 0), (.ireturn, 0, 0), (.iinc 1 1, 0, 0), (.goto 2, 0, 0), (.bipush (-1), 0, 0), (.ireturn, 0, 0)]
/-- LentHands.canTry(III)Z -/
def am_c243 : List am_I := [(.iload 0, 1, 0), (.checkcast 0, 6, 10), (.iload 1, 0, 0), (.invokevirtual 135, 2, 181), (.ifCond .eq 24, 0, 0), (.iload 0, 1, 0), (.checkcast 0, 6, 10), (.checkcast 10, 5, 172), (.iload 1, 0, 0), (.iaload, 0, 0), (.bipush (-1), 0, 0), (.if_icmp .eq 24, 0, 0), (.iload 2, 0, 0), (.bipush 0, 0, 0), (.bipush 3, 0, 0), (.invokevirtual 253, 3, 143), (.ifCond .eq 24, 0, 0), (.iload 3, 0, 0), (.bipush 0, 0, 0), (.bipush 99, 1, 0), (.invokevirtual 253, 3, 143), (.ifCond .eq 24, 0, 0), (.bipush 1, 0, 0), (.goto 25, 0, 0), (.bipush 0, 0, 0), (.ireturn, 1, 0)]
/-- LentHands.learns(III)I -/
def am_c244 : List am_I := [(.iload 0, 1, 0), (.iload 1, 0, 0), (.iload 2, 0, 0), (.iload 3, 0, 0), (.invokevirtual 243, 4, 735), (.ifCond .ne 8, 0, 0), (.bipush (-1), 0, 0), (.ireturn, 0, 0), (.iload 0, 1, 0), (.iload 1, 0, 0), (.iload 2, 0, 0), (.iload 3, 0, 0), (.invokevirtual 246, 4, 741), (.pop, 0, 0), (.iload 0, 1, 0), (.checkcast 1, 6, 16), (.checkcast 11, 5, 248), (.iload 1, 0, 0), (.bipush 4, 0, 0), (.imul, 0, 0), (.iload 2, 0, 0), (.iadd, 0, 0), (.iaload, 0, 0), (.ireturn, 0, 0)]
/-- LentHands.safe(III)I -/
def am_c245 : List am_I := [(.iload 0, 1, 0), (.iload 1, 0, 0), (.iload 2, 0, 0), (.iload 3, 0, 0), (.invokevirtual 243, 4, 735), (.ifCond .eq 12, 0, 0), (.iload 0, 1, 0), (.iload 1, 0, 0), (.iload 2, 0, 0), (.iload 3, 0, 0), (.invokevirtual 246, 4, 741), (.goto 13, 0, 0), (.bipush (-1), 0, 0), (.ireturn, 0, 0)]
/-- LentHands.unscarred(III)I -/
def am_c246 : List am_I := [(.iload 0, 1, 0), (.checkcast 1, 6, 16), (.iload 0, 1, 0), (.checkcast 0, 6, 10), (.invokevirtual 133, 2, 424), (.iload 0, 1, 0), (.checkcast 1, 6, 16), (.checkcast 10, 5, 172), (.iload 1, 0, 0), (.iaload, 0, 0), (.istore 4, 0, 1), (.bipush 1000000, 4, 373), (.istore 5, 0, 1), (.bipush 0, 0, 0), (.istore 6, 0, 1), (.iload 6, 0, 1), (.iload 3, 0, 0), (.if_icmp .ge 52, 0, 0), (.iload 0, 1, 0), (.iload 0, 1, 0), (.checkcast 1, 6, 16), (.iload 4, 0, 1), (.iload 1, 0, 0), (.iload 2, 0, 0), (.invokevirtual 236, 5, 689), (.istore 7, 0, 1), (.iload 5, 0, 1), (.bipush 1000, 2, 0), (.iload 7, 0, 1), (.isub, 0, 0), (.imul, 0, 0), (.bipush 1000, 2, 0), (.idiv, 0, 0), (.istore 5, 0, 1), (.iload 0, 1, 0), (.checkcast 1, 6, 16), (.checkcast 15, 5, 260), (.iload 1, 0, 0), (.dup2, 0, 0), (.iaload, 0, 0), (.bipush 1, 0, 0), (.iadd, 0, 0), (.iastore, 0, 0), (.iload 0, 1, 0), (.checkcast 1, 6, 16), (.dup, 0, 0), (.getfield 1, 5, 196), (.bipush 1, 0, 0), (.iadd, 0, 0), (.putfield 1, 5, 392), (.iinc 6 1, 0, 0), (.goto 15, 0, 0), (.iload 5, 0, 1), (.ireturn, 0, 0)]
/-- LentHands.premium(II)I -/
def am_c247 : List am_I := [(.iload 1, 0, 0), (.bipush 0, 0, 0), (.bipush 3, 0, 0), (.invokevirtual 253, 3, 143), (.ifCond .eq 10, 0, 0), (.iload 2, 0, 0), (.bipush 0, 0, 0), (.bipush 99, 1, 0), (.invokevirtual 253, 3, 143), (.ifCond .ne 12, 0, 0), (.bipush (-1), 0, 0), (.ireturn, 0, 0), (.bipush 0, 0, 0), (.istore 3, 0, 0), (.bipush 0, 0, 0), (.istore 4, 0, 1), (.iload 4, 0, 1), (.bipush 2, 0, 0), (.iload 0, 1, 0), (.checkcast 0, 6, 10), (.getfield 2, 5, 75), (.imul, 0, 0), (.if_icmp .ge 42, 0, 0), (.iload 0, 1, 0), (.checkcast 0, 6, 10), (.checkcast 10, 5, 172), (.iload 4, 0, 1), (.iaload, 0, 0), (.bipush (-1), 0, 0), (.if_icmp .eq 40, 0, 0), (.iload 3, 0, 0), (.bipush 1000000, 4, 373), (.iload 0, 1, 0), (.iload 4, 0, 1), (.iload 1, 0, 0), (.iload 2, 0, 0), (.invokevirtual 246, 4, 741), (.isub, 0, 0), (.iadd, 0, 0), (.istore 3, 0, 0), (.iinc 4 1, 0, 0), (.goto 16, 0, 0), (.iload 3, 0, 0), (.ireturn, 0, 0)]
/-- LentHands.judge(III)I -/
def am_c248 : List am_I := [(.iload 0, 1, 0), (.checkcast 14, 6, 57), (.checkcast 0, 0, 288), (.istore 4, 1, 1), (.iload 0, 1, 0), (.checkcast 0, 6, 10), (.iload 2, 0, 0), (.invokevirtual 143, 2, 491), (.istore 5, 0, 1), (.iload 0, 1, 0), (.iload 0, 1, 0), (.checkcast 0, 6, 10), (.iload 2, 0, 0), (.iload 1, 0, 0), (.invokevirtual 251, 4, 582), (.iload 4, 1, 1), (.bipush 11, 1, 0), (.dup2, 0, 0), (.iaload, 0, 0), (.iload 3, 0, 0), (.iadd, 0, 0), (.iastore, 0, 0), (.iload 4, 1, 1), (.bipush 5, 0, 0), (.iload 5, 0, 1), (.bipush (-1), 0, 0), (.if_icmp .ne 29, 0, 0), (.bipush 0, 0, 0), (.goto 34, 0, 0), (.iload 0, 1, 0), (.checkcast 0, 6, 10), (.iload 5, 0, 1), (.bipush 4, 0, 0), (.invokevirtual 142, 3, 533), (.iastore, 0, 0), (.iload 0, 1, 0), (.checkcast 5, 6, 26), (.checkcast 0, 4, 110), (.bipush 2, 0, 0), (.aaload, 0, 0), (.iload 0, 1, 0), (.checkcast 14, 6, 57), (.invokevirtual 154, 2, 591), (.istore 6, 0, 1), (.iload 6, 0, 1), (.bipush (-1), 0, 0), (.if_icmp .ne 49, 0, 0), (.bipush 25, 1, 0), (.goto 50, 0, 0), (.iload 6, 0, 1), (.ireturn, 0, 0)]
/-- LentHands.judged(III)I -/
def am_c249 : List am_I := [(.iload 0, 1, 0), (.iload 1, 0, 0), (.iload 2, 0, 0), (.invokevirtual 252, 3, 327), (.istore 4, 0, 1), (.iload 4, 0, 1), (.bipush (-1), 0, 0), (.if_icmp .eq 13, 0, 0), (.iload 3, 0, 0), (.bipush 0, 0, 0), (.bipush 99, 1, 0), (.invokevirtual 253, 3, 143), (.ifCond .ne 15, 0, 0), (.bipush (-1), 0, 0), (.ireturn, 0, 0), (.iload 0, 1, 0), (.iload 1, 0, 0), (.iload 4, 0, 1), (.iload 3, 0, 0), (.invokevirtual 248, 4, 365), (.bipush 24, 1, 0), (.isub, 0, 0), (.ireturn, 0, 0)]
/-- LentHands.loophole(II)I -/
def am_c250 : List am_I := [(.iload 0, 1, 0), (.iload 1, 0, 0), (.iload 2, 0, 0), (.invokevirtual 252, 3, 327), (.istore 3, 0, 0), (.iload 3, 0, 0), (.bipush (-1), 0, 0), (.if_icmp .ne 10, 0, 0), (.bipush (-1), 0, 0), (.ireturn, 0, 0), (.iload 0, 1, 0), (.iload 1, 0, 0), (.iload 3, 0, 0), (.bipush 0, 0, 0), (.invokevirtual 248, 4, 365), (.istore 4, 0, 1), (.bipush 1, 0, 0), (.istore 5, 0, 1), (.iload 5, 0, 1), (.bipush 99, 1, 0), (.if_icmp .gt 32, 0, 0), (.iload 0, 1, 0), (.iload 1, 0, 0), (.iload 3, 0, 0), (.iload 5, 0, 1), (.invokevirtual 248, 4, 365), (.iload 4, 0, 1), (.if_icmp .eq 30, 0, 0), (.iload 5, 0, 1), (.ireturn, 0, 0), (.iinc 5 1, 0, 0), (.goto 18, 0, 0), (.bipush (-1), 0, 0), (.ireturn, 0, 0)]
/-- LentHands.askOfHand(LLentHands$World;II)V -/
def am_c251 : List am_I := [(.iload 0, 1, 0), (.checkcast 14, 6, 57), (.checkcast 0, 0, 288), (.istore 4, 1, 1), (.iload 4, 1, 1), (.bipush 0, 0, 0), (.bipush 1, 0, 0), (.iload 2, 0, 0), (.bipush 1, 0, 0), (.iand, 0, 0), (.isub, 0, 0), (.iastore, 0, 0), (.iload 4, 1, 1), (.bipush 1, 0, 0), (.iload 1, 1, 0), (.iload 2, 0, 0), (.invokevirtual 141, 2, 749), (.iastore, 0, 0), (.iload 4, 1, 1), (.bipush 2, 0, 0), (.iload 1, 1, 0), (.checkcast 12, 5, 251), (.iload 2, 0, 0), (.iaload, 0, 0), (.iastore, 0, 0), (.iload 4, 1, 1), (.bipush 3, 0, 0), (.iload 1, 1, 0), (.checkcast 13, 5, 254), (.iload 2, 0, 0), (.iaload, 0, 0), (.iastore, 0, 0), (.iload 4, 1, 1), (.bipush 11, 1, 0), (.iload 1, 1, 0), (.checkcast 15, 5, 260), (.iload 2, 0, 0), (.iaload, 0, 0), (.iastore, 0, 0), (.iload 4, 1, 1), (.bipush 8, 1, 0), (.iload 2, 0, 0), (.bipush 1, 0, 0), (.ishr, 0, 0), (.iload 3, 0, 0), (.if_icmp .ne 48, 0, 0), (.bipush 1, 0, 0), (.goto 49, 0, 0), (.bipush 0, 0, 0), (.iastore, 0, 0), (.iload 4, 1, 1), (.bipush 7, 1, 0), (.iload 1, 1, 0), (.checkcast 6, 5, 239), (.iload 3, 0, 0), (.iaload, 0, 0), (.iastore, 0, 0), (.return_, 0, 0)]
/-- LentHands.onWrist(II)I -/
def am_c252 : List am_I := [(.iload 0, 1, 0), (.checkcast 0, 6, 10), (.iload 1, 0, 0), (.invokevirtual 134, 2, 165), (.ifCond .eq 20, 0, 0), (.iload 2, 0, 0), (.bipush 0, 0, 0), (.bipush 1, 0, 0), (.invokevirtual 253, 3, 143), (.ifCond .eq 20, 0, 0), (.iload 0, 1, 0), (.checkcast 0, 6, 10), (.checkcast 9, 5, 169), (.bipush 2, 0, 0), (.iload 1, 0, 0), (.imul, 0, 0), (.iload 2, 0, 0), (.iadd, 0, 0), (.iaload, 0, 0), (.goto 21, 0, 0), (.bipush (-1), 0, 0), (.ireturn, 0, 0)]
/-- LentHands.within(III)Z -/
def am_c253 : List am_I := [(.iload 0, 0, 0), (.iload 1, 0, 0), (.if_icmp .lt 8, 0, 0), (.iload 0, 0, 0), (.iload 2, 0, 0), (.if_icmp .gt 8, 0, 0), (.bipush 1, 0, 0), (.goto 9, 0, 0), (.bipush 0, 0, 0), (.ireturn, 1, 0)]
/-- LentHands.heldTo(II)I -/
def am_c254 : List am_I := [(.bipush 0, 0, 0), (.iload 0, 0, 0), (.iload 1, 0, 0), (.lsub, 218, 0), (.ladd, 282, 0), (.ireturn, 0, 0)]
/-- java/lang/Integer.bitCount(I)I -/
def am_c255 : List am_I := [(.iload 0, 0, 0), (.iload 0, 0, 0), (.bipush 1, 0, 0), (.iushr, 0, 0), (.bipush 1431655765, 4, 265), (.iand, 0, 0), (.isub, 0, 0), (.istore 0, 0, 0), (.iload 0, 0, 0), (.bipush 858993459, 4, 266), (.iand, 0, 0), (.iload 0, 0, 0), (.bipush 2, 0, 0), (.iushr, 0, 0), (.bipush 858993459, 4, 266), (.iand, 0, 0), (.iadd, 0, 0), (.istore 0, 0, 0), (.iload 0, 0, 0), (.iload 0, 0, 0), (.bipush 4, 0, 0), (.iushr, 0, 0), (.iadd, 0, 0), (.bipush 252645135, 4, 267), (.iand, 0, 0), (.istore 0, 0, 0), (.iload 0, 0, 0), (.iload 0, 0, 0), (.bipush 8, 1, 0), (.iushr, 0, 0), (.iadd, 0, 0), (.istore 0, 0, 0), (.iload 0, 0, 0), (.iload 0, 0, 0), (.bipush 16, 1, 0), (.iushr, 0, 0), (.iadd, 0, 0), (.istore 0, 0, 0), (.iload 0, 0, 0), (.bipush 63, 1, 0), (.iand, 0, 0), (.ireturn, 0, 0)]
/-- java/lang/String.length()I -/
def am_c256 : List am_I := [(.iload 0, 1, 0), (.checkcast 0, 8, 9), (.arraylength, 0, 0), (.iload 0, 1, 0), (.invokevirtual 258, 1, 671), (.ishr, 0, 0), (.ireturn, 0, 0)]
/-- java/lang/String.charAt(I)C -/
def am_c257 : List am_I := [(.iload 0, 1, 0), (.invokevirtual 259, 1, 985), (.ifCond .eq 8, 0, 0), (.iload 0, 1, 0), (.checkcast 0, 8, 9), (.iload 1, 0, 0), (.invokevirtual 261, 2, 991), (.ireturn, 2, 0), (.iload 0, 1, 0), (.checkcast 0, 8, 9), (.iload 1, 0, 0), (.athrow, 0, 0), (.ireturn, 2, 0)]
/-- java/lang/String.coder()B -/
def am_c258 : List am_I := [(.bipush 1, 5, 38), (.ifCond .eq 5, 0, 0), (.iload 0, 1, 0), (.getfield 0, 8, 15), (.goto 6, 0, 0), (.bipush 1, 0, 0), (.ireturn, 3, 0)]
/-- java/lang/String.isLatin1()Z -/
def am_c259 : List am_I := [(.bipush 1, 5, 38), (.ifCond .eq 7, 0, 0), (.iload 0, 1, 0), (.getfield 0, 8, 15), (.ifCond .ne 7, 0, 0), (.bipush 1, 0, 0), (.goto 8, 0, 0), (.bipush 0, 0, 0), (.ireturn, 1, 0)]
/-- java/lang/String.checkIndex(II)V -/
def am_c260 : List am_I := [(.iload 0, 0, 0), (.iload 1, 0, 0), (.aload 204, 2, 1053), (.invokevirtual 262, 3, 2119), (.pop, 0, 0), (.return_, 0, 0)]
/-- java/lang/StringLatin1.charAt([BI)C -/
def am_c261 : List am_I := [(.iload 1, 0, 0), (.iload 0, 1, 0), (.arraylength, 0, 0), (.invokevirtual 260, 2, 18), (.iload 0, 1, 0), (.iload 1, 0, 0), (.baload, 0, 0), (.bipush 255, 2, 0), (.iand, 0, 0), (.i2c, 0, 0), (.ireturn, 2, 0)]
/-- jdk/internal/util/Preconditions.checkIndex(IILjava/util/function/BiFunction;)I -/
def am_c262 : List am_I := [(.iload 0, 0, 0), (.ifCond .lt 5, 0, 0), (.iload 0, 0, 0), (.iload 1, 0, 0), (.if_icmp .lt 10, 0, 0), (.iload 2, 1, 0), (.iload 0, 0, 0), (.iload 1, 0, 0), (.athrow, 0, 0), (.athrow, 0, 0), (.iload 0, 0, 0), (.ireturn, 0, 0)]
/-- LentHandsLaw.law([I)Z -/
def am_c263 : List am_I := [(.athrow, 0, 0), (.dup, 0, 0), (.athrow, 0, 0), (.istore 1, 1, 0), (.athrow, 0, 0), (.dup, 0, 0), (.athrow, 0, 0), (.istore 2, 1, 0), (.bipush 0, 0, 0), (.istore 3, 0, 0), (.iload 3, 0, 0), (.iload 0, 1, 0), (.arraylength, 0, 0), (.bipush 6, 1, 0), (.isub, 0, 0), (.if_icmp .gt 1163, 0, 0), (.iload 0, 1, 0), (.iload 3, 0, 0), (.iaload, 0, 0), (.bipush 63, 1, 0), (.iand, 0, 0), (.tableswitch 1161 0 42 #[22, 39, 66, 103, 150, 177, 204, 231, 258, 275, 332, 349, 366, 383, 410, 437, 464, 491, 538, 565, 582, 589, 616, 633, 640, 657, 674, 711, 748, 795, 832, 869, 896, 913, 950, 977, 1004, 1031, 1058, 1065, 1112, 1119, 1144], 187, 0), (.iload 1, 1, 0), (.iload 0, 1, 0), (.iload 3, 0, 0), (.bipush 1, 0, 0), (.iadd, 0, 0), (.iaload, 0, 0), (.invokevirtual 181, 2, 27), (.iload 2, 1, 0), (.iload 0, 1, 0), (.iload 3, 0, 0), (.bipush 1, 0, 0), (.iadd, 0, 0), (.iaload, 0, 0), (.invokevirtual 15, 2, 35), (.if_icmp .eq 1161, 0, 0), (.bipush 0, 0, 0), (.ireturn, 1, 0), (.iload 1, 1, 0), (.iload 0, 1, 0), (.iload 3, 0, 0), (.bipush 1, 0, 0), (.iadd, 0, 0), (.iaload, 0, 0), (.iload 0, 1, 0), (.iload 3, 0, 0), (.bipush 2, 0, 0), (.iadd, 0, 0), (.iaload, 0, 0), (.invokevirtual 182, 3, 37), (.iload 2, 1, 0), (.iload 0, 1, 0), (.iload 3, 0, 0), (.bipush 1, 0, 0), (.iadd, 0, 0), (.iaload, 0, 0), (.iload 0, 1, 0), (.iload 3, 0, 0), (.bipush 2, 0, 0), (.iadd, 0, 0), (.iaload, 0, 0), (.invokevirtual 17, 3, 45), (.if_icmp .eq 1161, 0, 0), (.bipush 0, 0, 0), (.ireturn, 1, 0), (.iload 1, 1, 0), (.iload 0, 1, 0), (.iload 3, 0, 0), (.bipush 1, 0, 0), (.iadd, 0, 0), (.iaload, 0, 0), (.iload 0, 1, 0), (.iload 3, 0, 0), (.bipush 2, 0, 0), (.iadd, 0, 0), (.iaload, 0, 0), (.iload 0, 1, 0), (.iload 3, 0, 0), (.bipush 3, 0, 0), (.iadd, 0, 0), (.iaload, 0, 0), (.invokevirtual 183, 4, 47), (.iload 2, 1, 0), (.iload 0, 1, 0), (.iload 3, 0, 0), (.bipush 1, 0, 0), (.iadd, 0, 0), (.iaload, 0, 0), (.iload 0, 1, 0), (.iload 3, 0, 0), (.bipush 2, 0, 0), (.iadd, 0, 0), (.iaload, 0, 0), (.iload 0, 1, 0), (.iload 3, 0, 0), (.bipush 3, 0, 0), (.iadd, 0, 0), (.iaload, 0, 0), (.invokevirtual 18, 4, 55), (.if_icmp .eq 1161, 0, 0), (.bipush 0, 0, 0), (.ireturn, 1, 0), (.iload 1, 1, 0), (.iload 0, 1, 0), (.iload 3, 0, 0), (.bipush 1, 0, 0), (.iadd, 0, 0), (.iaload, 0, 0), (.iload 0, 1, 0), (.iload 3, 0, 0), (.bipush 2, 0, 0), (.iadd, 0, 0), (.iaload, 0, 0), (.iload 0, 1, 0), (.iload 3, 0, 0), (.bipush 3, 0, 0), (.iadd, 0, 0), (.iaload, 0, 0), (.iload 0, 1, 0), (.iload 3, 0, 0), (.bipush 4, 0, 0), (.iadd, 0, 0), (.iaload, 0, 0), (.invokevirtual 189, 5, 57), (.iload 2, 1, 0), (.iload 0, 1, 0), (.iload 3, 0, 0), (.bipush 1, 0, 0), (.iadd, 0, 0), (.iaload, 0, 0), (.iload 0, 1, 0), (.iload 3, 0, 0), (.bipush 2, 0, 0), (.iadd, 0, 0), (.iaload, 0, 0), (.iload 0, 1, 0), (.iload 3, 0, 0), (.bipush 3, 0, 0), (.iadd, 0, 0), (.iaload, 0, 0), (.iload 0, 1, 0), (.iload 3, 0, 0), (.bipush 4, 0, 0), (.iadd, 0, 0), (.iaload, 0, 0), (.invokevirtual 71, 5, 65), (.if_icmp .eq 1161, 0, 0), (.bipush 0, 0, 0), (.ireturn, 1, 0), (.iload 1, 1, 0), (.iload 0, 1, 0), (.iload 3, 0, 0), (.bipush 1, 0, 0), (.iadd, 0, 0), (.iaload, 0, 0), (.iload 0, 1, 0), (.iload 3, 0, 0), (.bipush 2, 0, 0), (.iadd, 0, 0), (.iaload, 0, 0), (.invokevirtual 190, 3, 67), (.iload 2, 1, 0), (.iload 0, 1, 0), (.iload 3, 0, 0), (.bipush 1, 0, 0), (.iadd, 0, 0), (.iaload, 0, 0), (.iload 0, 1, 0), (.iload 3, 0, 0), (.bipush 2, 0, 0), (.iadd, 0, 0), (.iaload, 0, 0), (.invokevirtual 72, 3, 75), (.if_icmp .eq 1161, 0, 0), (.bipush 0, 0, 0), (.ireturn, 1, 0), (.iload 1, 1, 0), (.iload 0, 1, 0), (.iload 3, 0, 0), (.bipush 1, 0, 0), (.iadd, 0, 0), (.iaload, 0, 0), (.iload 0, 1, 0), (.iload 3, 0, 0), (.bipush 2, 0, 0), (.iadd, 0, 0), (.iaload, 0, 0), (.invokevirtual 191, 3, 77), (.iload 2, 1, 0), (.iload 0, 1, 0), (.iload 3, 0, 0), (.bipush 1, 0, 0), (.iadd, 0, 0), (.iaload, 0, 0), (.iload 0, 1, 0), (.iload 3, 0, 0), (.bipush 2, 0, 0), (.iadd, 0, 0), (.iaload, 0, 0), (.invokevirtual 73, 3, 83), (.if_icmp .eq 1161, 0, 0), (.bipush 0, 0, 0), (.ireturn, 1, 0), (.iload 1, 1, 0), (.iload 0, 1, 0), (.iload 3, 0, 0), (.bipush 1, 0, 0), (.iadd, 0, 0), (.iaload, 0, 0), (.iload 0, 1, 0), (.iload 3, 0, 0), (.bipush 2, 0, 0), (.iadd, 0, 0), (.iaload, 0, 0), (.invokevirtual 192, 3, 85), (.iload 2, 1, 0), (.iload 0, 1, 0), (.iload 3, 0, 0), (.bipush 1, 0, 0), (.iadd, 0, 0), (.iaload, 0, 0), (.iload 0, 1, 0), (.iload 3, 0, 0), (.bipush 2, 0, 0), (.iadd, 0, 0), (.iaload, 0, 0), (.invokevirtual 74, 3, 91), (.if_icmp .eq 1161, 0, 0), (.bipush 0, 0, 0), (.ireturn, 1, 0), (.iload 1, 1, 0), (.iload 0, 1, 0), (.iload 3, 0, 0), (.bipush 1, 0, 0), (.iadd, 0, 0), (.iaload, 0, 0), (.iload 0, 1, 0), (.iload 3, 0, 0), (.bipush 2, 0, 0), (.iadd, 0, 0), (.iaload, 0, 0), (.invokevirtual 193, 3, 93), (.iload 2, 1, 0), (.iload 0, 1, 0), (.iload 3, 0, 0), (.bipush 1, 0, 0), (.iadd, 0, 0), (.iaload, 0, 0), (.iload 0, 1, 0), (.iload 3, 0, 0), (.bipush 2, 0, 0), (.iadd, 0, 0), (.iaload, 0, 0), (.invokevirtual 79, 3, 99), (.if_icmp .eq 1161, 0, 0), (.bipush 0, 0, 0), (.ireturn, 1, 0), (.iload 1, 1, 0), (.iload 0, 1, 0), (.iload 3, 0, 0), (.bipush 1, 0, 0), (.iadd, 0, 0), (.iaload, 0, 0), (.invokevirtual 195, 2, 101), (.iload 2, 1, 0), (.iload 0, 1, 0), (.iload 3, 0, 0), (.bipush 1, 0, 0), (.iadd, 0, 0), (.iaload, 0, 0), (.invokevirtual 88, 2, 107), (.if_icmp .eq 1161, 0, 0), (.bipush 0, 0, 0), (.ireturn, 1, 0), (.iload 1, 1, 0), (.iload 0, 1, 0), (.iload 3, 0, 0), (.bipush 1, 0, 0), (.iadd, 0, 0), (.iaload, 0, 0), (.iload 0, 1, 0), (.iload 3, 0, 0), (.bipush 2, 0, 0), (.iadd, 0, 0), (.iaload, 0, 0), (.iload 0, 1, 0), (.iload 3, 0, 0), (.bipush 3, 0, 0), (.iadd, 0, 0), (.iaload, 0, 0), (.iload 0, 1, 0), (.iload 3, 0, 0), (.bipush 4, 0, 0), (.iadd, 0, 0), (.iaload, 0, 0), (.iload 0, 1, 0), (.iload 3, 0, 0), (.bipush 5, 0, 0), (.iadd, 0, 0), (.iaload, 0, 0), (.invokevirtual 184, 6, 109), (.iload 2, 1, 0), (.iload 0, 1, 0), (.iload 3, 0, 0), (.bipush 1, 0, 0), (.iadd, 0, 0), (.iaload, 0, 0), (.iload 0, 1, 0), (.iload 3, 0, 0), (.bipush 2, 0, 0), (.iadd, 0, 0), (.iaload, 0, 0), (.iload 0, 1, 0), (.iload 3, 0, 0), (.bipush 3, 0, 0), (.iadd, 0, 0), (.iaload, 0, 0), (.iload 0, 1, 0), (.iload 3, 0, 0), (.bipush 4, 0, 0), (.iadd, 0, 0), (.iaload, 0, 0), (.iload 0, 1, 0), (.iload 3, 0, 0), (.bipush 5, 0, 0), (.iadd, 0, 0), (.iaload, 0, 0), (.invokevirtual 19, 6, 117), (.if_icmp .eq 1161, 0, 0), (.bipush 0, 0, 0), (.ireturn, 1, 0), (.iload 1, 1, 0), (.iload 0, 1, 0), (.iload 3, 0, 0), (.bipush 1, 0, 0), (.iadd, 0, 0), (.iaload, 0, 0), (.invokevirtual 186, 2, 119), (.iload 2, 1, 0), (.iload 0, 1, 0), (.iload 3, 0, 0), (.bipush 1, 0, 0), (.iadd, 0, 0), (.iaload, 0, 0), (.invokevirtual 20, 2, 127), (.if_icmp .eq 1161, 0, 0), (.bipush 0, 0, 0), (.ireturn, 1, 0), (.iload 1, 1, 0), (.iload 0, 1, 0), (.iload 3, 0, 0), (.bipush 1, 0, 0), (.iadd, 0, 0), (.iaload, 0, 0), (.invokevirtual 187, 2, 129), (.iload 2, 1, 0), (.iload 0, 1, 0), (.iload 3, 0, 0), (.bipush 1, 0, 0), (.iadd, 0, 0), (.iaload, 0, 0), (.invokevirtual 52, 2, 135), (.if_icmp .eq 1161, 0, 0), (.bipush 0, 0, 0), (.ireturn, 1, 0), (.iload 1, 1, 0), (.iload 0, 1, 0), (.iload 3, 0, 0), (.bipush 1, 0, 0), (.iadd, 0, 0), (.iaload, 0, 0), (.invokevirtual 188, 2, 137), (.iload 2, 1, 0), (.iload 0, 1, 0), (.iload 3, 0, 0), (.bipush 1, 0, 0), (.iadd, 0, 0), (.iaload, 0, 0), (.invokevirtual 53, 2, 143), (.if_icmp .eq 1161, 0, 0), (.bipush 0, 0, 0), (.ireturn, 1, 0), (.iload 1, 1, 0), (.iload 0, 1, 0), (.iload 3, 0, 0), (.bipush 1, 0, 0), (.iadd, 0, 0), (.iaload, 0, 0), (.iload 0, 1, 0), (.iload 3, 0, 0), (.bipush 2, 0, 0), (.iadd, 0, 0), (.iaload, 0, 0), (.invokevirtual 200, 3, 145), (.iload 2, 1, 0), (.iload 0, 1, 0), (.iload 3, 0, 0), (.bipush 1, 0, 0), (.iadd, 0, 0), (.iaload, 0, 0), (.iload 0, 1, 0), (.iload 3, 0, 0), (.bipush 2, 0, 0), (.iadd, 0, 0), (.iaload, 0, 0), (.invokevirtual 90, 3, 151), (.if_icmp .eq 1161, 0, 0), (.bipush 0, 0, 0), (.ireturn, 1, 0), (.iload 1, 1, 0), (.iload 0, 1, 0), (.iload 3, 0, 0), (.bipush 1, 0, 0), (.iadd, 0, 0), (.iaload, 0, 0), (.iload 0, 1, 0), (.iload 3, 0, 0), (.bipush 2, 0, 0), (.iadd, 0, 0), (.iaload, 0, 0), (.invokevirtual 202, 3, 153), (.iload 2, 1, 0), (.iload 0, 1, 0), (.iload 3, 0, 0), (.bipush 1, 0, 0), (.iadd, 0, 0), (.iaload, 0, 0), (.iload 0, 1, 0), (.iload 3, 0, 0), (.bipush 2, 0, 0), (.iadd, 0, 0), (.iaload, 0, 0), (.invokevirtual 91, 3, 159), (.if_icmp .eq 1161, 0, 0), (.bipush 0, 0, 0), (.ireturn, 1, 0), (.iload 1, 1, 0), (.iload 0, 1, 0), (.iload 3, 0, 0), (.bipush 1, 0, 0), (.iadd, 0, 0), (.iaload, 0, 0), (.iload 0, 1, 0), (.iload 3, 0, 0), (.bipush 2, 0, 0), (.iadd, 0, 0), (.iaload, 0, 0), (.invokevirtual 203, 3, 161), (.iload 2, 1, 0), (.iload 0, 1, 0), (.iload 3, 0, 0), (.bipush 1, 0, 0), (.iadd, 0, 0), (.iaload, 0, 0), (.iload 0, 1, 0), (.iload 3, 0, 0), (.bipush 2, 0, 0), (.iadd, 0, 0), (.iaload, 0, 0), (.invokevirtual 92, 3, 167), (.if_icmp .eq 1161, 0, 0), (.bipush 0, 0, 0), (.ireturn, 1, 0), (.iload 1, 1, 0), (.iload 0, 1, 0), (.iload 3, 0, 0), (.bipush 1, 0, 0), (.iadd, 0, 0), (.iaload, 0, 0), (.iload 0, 1, 0), (.iload 3, 0, 0), (.bipush 2, 0, 0), (.iadd, 0, 0), (.iaload, 0, 0), (.invokevirtual 204, 3, 169), (.iload 2, 1, 0), (.iload 0, 1, 0), (.iload 3, 0, 0), (.bipush 1, 0, 0), (.iadd, 0, 0), (.iaload, 0, 0), (.iload 0, 1, 0), (.iload 3, 0, 0), (.bipush 2, 0, 0), (.iadd, 0, 0), (.iaload, 0, 0), (.invokevirtual 93, 3, 175), (.if_icmp .eq 1161, 0, 0), (.bipush 0, 0, 0), (.ireturn, 1, 0), (.iload 1, 1, 0), (.iload 0, 1, 0), (.iload 3, 0, 0), (.bipush 1, 0, 0), (.iadd, 0, 0), (.iaload, 0, 0), (.iload 0, 1, 0), (.iload 3, 0, 0), (.bipush 2, 0, 0), (.iadd, 0, 0), (.iaload, 0, 0), (.iload 0, 1, 0), (.iload 3, 0, 0), (.bipush 3, 0, 0), (.iadd, 0, 0), (.iaload, 0, 0), (.iload 0, 1, 0), (.iload 3, 0, 0), (.bipush 4, 0, 0), (.iadd, 0, 0), (.iaload, 0, 0), (.invokevirtual 216, 5, 177), (.iload 2, 1, 0), (.iload 0, 1, 0), (.iload 3, 0, 0), (.bipush 1, 0, 0), (.iadd, 0, 0), (.iaload, 0, 0), (.iload 0, 1, 0), (.iload 3, 0, 0), (.bipush 2, 0, 0), (.iadd, 0, 0), (.iaload, 0, 0), (.iload 0, 1, 0), (.iload 3, 0, 0), (.bipush 3, 0, 0), (.iadd, 0, 0), (.iaload, 0, 0), (.iload 0, 1, 0), (.iload 3, 0, 0), (.bipush 4, 0, 0), (.iadd, 0, 0), (.iaload, 0, 0), (.invokevirtual 94, 5, 183), (.if_icmp .eq 1161, 0, 0), (.bipush 0, 0, 0), (.ireturn, 1, 0), (.iload 1, 1, 0), (.iload 0, 1, 0), (.iload 3, 0, 0), (.bipush 1, 0, 0), (.iadd, 0, 0), (.iaload, 0, 0), (.iload 0, 1, 0), (.iload 3, 0, 0), (.bipush 2, 0, 0), (.iadd, 0, 0), (.iaload, 0, 0), (.invokevirtual 221, 3, 185), (.iload 2, 1, 0), (.iload 0, 1, 0), (.iload 3, 0, 0), (.bipush 1, 0, 0), (.iadd, 0, 0), (.iaload, 0, 0), (.iload 0, 1, 0), (.iload 3, 0, 0), (.bipush 2, 0, 0), (.iadd, 0, 0), (.iaload, 0, 0), (.invokevirtual 100, 3, 191), (.if_icmp .eq 1161, 0, 0), (.bipush 0, 0, 0), (.ireturn, 1, 0), (.iload 1, 1, 0), (.iload 0, 1, 0), (.iload 3, 0, 0), (.bipush 1, 0, 0), (.iadd, 0, 0), (.iaload, 0, 0), (.invokevirtual 225, 2, 193), (.iload 2, 1, 0), (.iload 0, 1, 0), (.iload 3, 0, 0), (.bipush 1, 0, 0), (.iadd, 0, 0), (.iaload, 0, 0), (.invokevirtual 103, 2, 199), (.if_icmp .eq 1161, 0, 0), (.bipush 0, 0, 0), (.ireturn, 1, 0), (.iload 1, 1, 0), (.invokevirtual 238, 1, 201), (.iload 2, 1, 0), (.invokevirtual 107, 1, 209), (.if_icmp .eq 1161, 0, 0), (.bipush 0, 0, 0), (.ireturn, 1, 0), (.iload 1, 1, 0), (.iload 0, 1, 0), (.iload 3, 0, 0), (.bipush 1, 0, 0), (.iadd, 0, 0), (.iaload, 0, 0), (.iload 0, 1, 0), (.iload 3, 0, 0), (.bipush 2, 0, 0), (.iadd, 0, 0), (.iaload, 0, 0), (.invokevirtual 239, 3, 211), (.iload 2, 1, 0), (.iload 0, 1, 0), (.iload 3, 0, 0), (.bipush 1, 0, 0), (.iadd, 0, 0), (.iaload, 0, 0), (.iload 0, 1, 0), (.iload 3, 0, 0), (.bipush 2, 0, 0), (.iadd, 0, 0), (.iaload, 0, 0), (.invokevirtual 108, 3, 217), (.if_icmp .eq 1161, 0, 0), (.bipush 0, 0, 0), (.ireturn, 1, 0), (.iload 1, 1, 0), (.iload 0, 1, 0), (.iload 3, 0, 0), (.bipush 1, 0, 0), (.iadd, 0, 0), (.iaload, 0, 0), (.invokevirtual 241, 2, 219), (.iload 2, 1, 0), (.iload 0, 1, 0), (.iload 3, 0, 0), (.bipush 1, 0, 0), (.iadd, 0, 0), (.iaload, 0, 0), (.invokevirtual 109, 2, 225), (.if_icmp .eq 1161, 0, 0), (.bipush 0, 0, 0), (.ireturn, 1, 0), (.iload 1, 1, 0), (.invokevirtual 210, 1, 227), (.iload 2, 1, 0), (.invokevirtual 110, 1, 233), (.if_icmp .eq 1161, 0, 0), (.bipush 0, 0, 0), (.ireturn, 1, 0), (.iload 1, 1, 0), (.iload 0, 1, 0), (.iload 3, 0, 0), (.bipush 1, 0, 0), (.iadd, 0, 0), (.iaload, 0, 0), (.invokevirtual 212, 2, 235), (.iload 2, 1, 0), (.iload 0, 1, 0), (.iload 3, 0, 0), (.bipush 1, 0, 0), (.iadd, 0, 0), (.iaload, 0, 0), (.invokevirtual 111, 2, 241), (.if_icmp .eq 1161, 0, 0), (.bipush 0, 0, 0), (.ireturn, 1, 0), (.iload 1, 1, 0), (.iload 0, 1, 0), (.iload 3, 0, 0), (.bipush 1, 0, 0), (.iadd, 0, 0), (.iaload, 0, 0), (.invokevirtual 213, 2, 243), (.iload 2, 1, 0), (.iload 0, 1, 0), (.iload 3, 0, 0), (.bipush 1, 0, 0), (.iadd, 0, 0), (.iaload, 0, 0), (.invokevirtual 113, 2, 249), (.if_icmp .eq 1161, 0, 0), (.bipush 0, 0, 0), (.ireturn, 1, 0), (.iload 1, 1, 0), (.iload 0, 1, 0), (.iload 3, 0, 0), (.bipush 1, 0, 0), (.iadd, 0, 0), (.iaload, 0, 0), (.iload 0, 1, 0), (.iload 3, 0, 0), (.bipush 2, 0, 0), (.iadd, 0, 0), (.iaload, 0, 0), (.iload 0, 1, 0), (.iload 3, 0, 0), (.bipush 3, 0, 0), (.iadd, 0, 0), (.iaload, 0, 0), (.invokevirtual 244, 4, 251), (.iload 2, 1, 0), (.iload 0, 1, 0), (.iload 3, 0, 0), (.bipush 1, 0, 0), (.iadd, 0, 0), (.iaload, 0, 0), (.iload 0, 1, 0), (.iload 3, 0, 0), (.bipush 2, 0, 0), (.iadd, 0, 0), (.iaload, 0, 0), (.iload 0, 1, 0), (.iload 3, 0, 0), (.bipush 3, 0, 0), (.iadd, 0, 0), (.iaload, 0, 0), (.invokevirtual 116, 4, 259), (.if_icmp .eq 1161, 0, 0), (.bipush 0, 0, 0), (.ireturn, 1, 0), (.iload 1, 1, 0), (.iload 0, 1, 0), (.iload 3, 0, 0), (.bipush 1, 0, 0), (.iadd, 0, 0), (.iaload, 0, 0), (.iload 0, 1, 0), (.iload 3, 0, 0), (.bipush 2, 0, 0), (.iadd, 0, 0), (.iaload, 0, 0), (.iload 0, 1, 0), (.iload 3, 0, 0), (.bipush 3, 0, 0), (.iadd, 0, 0), (.iaload, 0, 0), (.invokevirtual 245, 4, 261), (.iload 2, 1, 0), (.iload 0, 1, 0), (.iload 3, 0, 0), (.bipush 1, 0, 0), (.iadd, 0, 0), (.iaload, 0, 0), (.iload 0, 1, 0), (.iload 3, 0, 0), (.bipush 2, 0, 0), (.iadd, 0, 0), (.iaload, 0, 0), (.iload 0, 1, 0), (.iload 3, 0, 0), (.bipush 3, 0, 0), (.iadd, 0, 0), (.iaload, 0, 0), (.invokevirtual 117, 4, 267), (.if_icmp .eq 1161, 0, 0), (.bipush 0, 0, 0), (.ireturn, 1, 0), (.iload 1, 1, 0), (.iload 0, 1, 0), (.iload 3, 0, 0), (.bipush 1, 0, 0), (.iadd, 0, 0), (.iaload, 0, 0), (.iload 0, 1, 0), (.iload 3, 0, 0), (.bipush 2, 0, 0), (.iadd, 0, 0), (.iaload, 0, 0), (.iload 0, 1, 0), (.iload 3, 0, 0), (.bipush 3, 0, 0), (.iadd, 0, 0), (.iaload, 0, 0), (.iload 0, 1, 0), (.iload 3, 0, 0), (.bipush 4, 0, 0), (.iadd, 0, 0), (.iaload, 0, 0), (.invokevirtual 219, 5, 269), (.iload 2, 1, 0), (.iload 0, 1, 0), (.iload 3, 0, 0), (.bipush 1, 0, 0), (.iadd, 0, 0), (.iaload, 0, 0), (.iload 0, 1, 0), (.iload 3, 0, 0), (.bipush 2, 0, 0), (.iadd, 0, 0), (.iaload, 0, 0), (.iload 0, 1, 0), (.iload 3, 0, 0), (.bipush 3, 0, 0), (.iadd, 0, 0), (.iaload, 0, 0), (.iload 0, 1, 0), (.iload 3, 0, 0), (.bipush 4, 0, 0), (.iadd, 0, 0), (.iaload, 0, 0), (.invokevirtual 121, 5, 275), (.if_icmp .eq 1161, 0, 0), (.bipush 0, 0, 0), (.ireturn, 1, 0), (.iload 1, 1, 0), (.iload 0, 1, 0), (.iload 3, 0, 0), (.bipush 1, 0, 0), (.iadd, 0, 0), (.iaload, 0, 0), (.iload 0, 1, 0), (.iload 3, 0, 0), (.bipush 2, 0, 0), (.iadd, 0, 0), (.iaload, 0, 0), (.iload 0, 1, 0), (.iload 3, 0, 0), (.bipush 3, 0, 0), (.iadd, 0, 0), (.iaload, 0, 0), (.invokevirtual 220, 4, 277), (.iload 2, 1, 0), (.iload 0, 1, 0), (.iload 3, 0, 0), (.bipush 1, 0, 0), (.iadd, 0, 0), (.iaload, 0, 0), (.iload 0, 1, 0), (.iload 3, 0, 0), (.bipush 2, 0, 0), (.iadd, 0, 0), (.iaload, 0, 0), (.iload 0, 1, 0), (.iload 3, 0, 0), (.bipush 3, 0, 0), (.iadd, 0, 0), (.iaload, 0, 0), (.invokevirtual 122, 4, 283), (.if_icmp .eq 1161, 0, 0), (.bipush 0, 0, 0), (.ireturn, 1, 0), (.iload 1, 1, 0), (.iload 0, 1, 0), (.iload 3, 0, 0), (.bipush 1, 0, 0), (.iadd, 0, 0), (.iaload, 0, 0), (.iload 0, 1, 0), (.iload 3, 0, 0), (.bipush 2, 0, 0), (.iadd, 0, 0), (.iaload, 0, 0), (.iload 0, 1, 0), (.iload 3, 0, 0), (.bipush 3, 0, 0), (.iadd, 0, 0), (.iaload, 0, 0), (.invokevirtual 230, 4, 285), (.iload 2, 1, 0), (.iload 0, 1, 0), (.iload 3, 0, 0), (.bipush 1, 0, 0), (.iadd, 0, 0), (.iaload, 0, 0), (.iload 0, 1, 0), (.iload 3, 0, 0), (.bipush 2, 0, 0), (.iadd, 0, 0), (.iaload, 0, 0), (.iload 0, 1, 0), (.iload 3, 0, 0), (.bipush 3, 0, 0), (.iadd, 0, 0), (.iaload, 0, 0), (.invokevirtual 126, 4, 291), (.if_icmp .eq 1161, 0, 0), (.bipush 0, 0, 0), (.ireturn, 1, 0), (.iload 1, 1, 0), (.iload 0, 1, 0), (.iload 3, 0, 0), (.bipush 1, 0, 0), (.iadd, 0, 0), (.iaload, 0, 0), (.iload 0, 1, 0), (.iload 3, 0, 0), (.bipush 2, 0, 0), (.iadd, 0, 0), (.iaload, 0, 0), (.invokevirtual 211, 3, 293), (.iload 2, 1, 0), (.iload 0, 1, 0), (.iload 3, 0, 0), (.bipush 1, 0, 0), (.iadd, 0, 0), (.iaload, 0, 0), (.iload 0, 1, 0), (.iload 3, 0, 0), (.bipush 2, 0, 0), (.iadd, 0, 0), (.iaload, 0, 0), (.invokevirtual 127, 3, 299), (.if_icmp .eq 1161, 0, 0), (.bipush 0, 0, 0), (.ireturn, 1, 0), (.iload 1, 1, 0), (.iload 0, 1, 0), (.iload 3, 0, 0), (.bipush 1, 0, 0), (.iadd, 0, 0), (.iaload, 0, 0), (.invokevirtual 240, 2, 301), (.iload 2, 1, 0), (.iload 0, 1, 0), (.iload 3, 0, 0), (.bipush 1, 0, 0), (.iadd, 0, 0), (.iaload, 0, 0), (.invokevirtual 128, 2, 307), (.if_icmp .eq 1161, 0, 0), (.bipush 0, 0, 0), (.ireturn, 1, 0), (.iload 1, 1, 0), (.iload 0, 1, 0), (.iload 3, 0, 0), (.bipush 1, 0, 0), (.iadd, 0, 0), (.iaload, 0, 0), (.iload 0, 1, 0), (.iload 3, 0, 0), (.bipush 2, 0, 0), (.iadd, 0, 0), (.iaload, 0, 0), (.iload 0, 1, 0), (.iload 3, 0, 0), (.bipush 3, 0, 0), (.iadd, 0, 0), (.iaload, 0, 0), (.invokevirtual 249, 4, 309), (.iload 2, 1, 0), (.iload 0, 1, 0), (.iload 3, 0, 0), (.bipush 1, 0, 0), (.iadd, 0, 0), (.iaload, 0, 0), (.iload 0, 1, 0), (.iload 3, 0, 0), (.bipush 2, 0, 0), (.iadd, 0, 0), (.iaload, 0, 0), (.iload 0, 1, 0), (.iload 3, 0, 0), (.bipush 3, 0, 0), (.iadd, 0, 0), (.iaload, 0, 0), (.invokevirtual 119, 4, 315), (.if_icmp .eq 1161, 0, 0), (.bipush 0, 0, 0), (.ireturn, 1, 0), (.iload 1, 1, 0), (.iload 0, 1, 0), (.iload 3, 0, 0), (.bipush 1, 0, 0), (.iadd, 0, 0), (.iaload, 0, 0), (.iload 0, 1, 0), (.iload 3, 0, 0), (.bipush 2, 0, 0), (.iadd, 0, 0), (.iaload, 0, 0), (.invokevirtual 250, 3, 317), (.iload 2, 1, 0), (.iload 0, 1, 0), (.iload 3, 0, 0), (.bipush 1, 0, 0), (.iadd, 0, 0), (.iaload, 0, 0), (.iload 0, 1, 0), (.iload 3, 0, 0), (.bipush 2, 0, 0), (.iadd, 0, 0), (.iaload, 0, 0), (.invokevirtual 120, 3, 323), (.if_icmp .eq 1161, 0, 0), (.bipush 0, 0, 0), (.ireturn, 1, 0), (.iload 1, 1, 0), (.iload 0, 1, 0), (.iload 3, 0, 0), (.bipush 1, 0, 0), (.iadd, 0, 0), (.iaload, 0, 0), (.iload 0, 1, 0), (.iload 3, 0, 0), (.bipush 2, 0, 0), (.iadd, 0, 0), (.iaload, 0, 0), (.invokevirtual 247, 3, 325), (.iload 2, 1, 0), (.iload 0, 1, 0), (.iload 3, 0, 0), (.bipush 1, 0, 0), (.iadd, 0, 0), (.iaload, 0, 0), (.iload 0, 1, 0), (.iload 3, 0, 0), (.bipush 2, 0, 0), (.iadd, 0, 0), (.iaload, 0, 0), (.invokevirtual 118, 3, 331), (.if_icmp .eq 1161, 0, 0), (.bipush 0, 0, 0), (.ireturn, 1, 0), (.iload 1, 1, 0), (.iload 0, 1, 0), (.iload 3, 0, 0), (.bipush 1, 0, 0), (.iadd, 0, 0), (.iaload, 0, 0), (.iload 0, 1, 0), (.iload 3, 0, 0), (.bipush 2, 0, 0), (.iadd, 0, 0), (.iaload, 0, 0), (.invokevirtual 207, 3, 333), (.iload 2, 1, 0), (.iload 0, 1, 0), (.iload 3, 0, 0), (.bipush 1, 0, 0), (.iadd, 0, 0), (.iaload, 0, 0), (.iload 0, 1, 0), (.iload 3, 0, 0), (.bipush 2, 0, 0), (.iadd, 0, 0), (.iaload, 0, 0), (.invokevirtual 95, 3, 339), (.if_icmp .eq 1161, 0, 0), (.bipush 0, 0, 0), (.ireturn, 1, 0), (.iload 1, 1, 0), (.iload 0, 1, 0), (.iload 3, 0, 0), (.bipush 1, 0, 0), (.iadd, 0, 0), (.iaload, 0, 0), (.iload 0, 1, 0), (.iload 3, 0, 0), (.bipush 2, 0, 0), (.iadd, 0, 0), (.iaload, 0, 0), (.invokevirtual 208, 3, 341), (.iload 2, 1, 0), (.iload 0, 1, 0), (.iload 3, 0, 0), (.bipush 1, 0, 0), (.iadd, 0, 0), (.iaload, 0, 0), (.iload 0, 1, 0), (.iload 3, 0, 0), (.bipush 2, 0, 0), (.iadd, 0, 0), (.iaload, 0, 0), (.invokevirtual 96, 3, 347), (.if_icmp .eq 1161, 0, 0), (.bipush 0, 0, 0), (.ireturn, 1, 0), (.iload 1, 1, 0), (.invokevirtual 209, 1, 349), (.iload 2, 1, 0), (.invokevirtual 97, 1, 355), (.if_icmp .eq 1161, 0, 0), (.bipush 0, 0, 0), (.ireturn, 1, 0), (.iload 1, 1, 0), (.iload 0, 1, 0), (.iload 3, 0, 0), (.bipush 1, 0, 0), (.iadd, 0, 0), (.iaload, 0, 0), (.iload 0, 1, 0), (.iload 3, 0, 0), (.bipush 2, 0, 0), (.iadd, 0, 0), (.iaload, 0, 0), (.iload 0, 1, 0), (.iload 3, 0, 0), (.bipush 3, 0, 0), (.iadd, 0, 0), (.iaload, 0, 0), (.iload 0, 1, 0), (.iload 3, 0, 0), (.bipush 4, 0, 0), (.iadd, 0, 0), (.iaload, 0, 0), (.invokevirtual 215, 5, 357), (.iload 2, 1, 0), (.iload 0, 1, 0), (.iload 3, 0, 0), (.bipush 1, 0, 0), (.iadd, 0, 0), (.iaload, 0, 0), (.iload 0, 1, 0), (.iload 3, 0, 0), (.bipush 2, 0, 0), (.iadd, 0, 0), (.iaload, 0, 0), (.iload 0, 1, 0), (.iload 3, 0, 0), (.bipush 3, 0, 0), (.iadd, 0, 0), (.iaload, 0, 0), (.iload 0, 1, 0), (.iload 3, 0, 0), (.bipush 4, 0, 0), (.iadd, 0, 0), (.iaload, 0, 0), (.invokevirtual 129, 5, 363), (.if_icmp .eq 1161, 0, 0), (.bipush 0, 0, 0), (.ireturn, 1, 0), (.iload 1, 1, 0), (.invokevirtual 198, 1, 365), (.iload 2, 1, 0), (.invokevirtual 65, 1, 373), (.if_icmp .eq 1161, 0, 0), (.bipush 0, 0, 0), (.ireturn, 1, 0), (.iload 1, 1, 0), (.iload 0, 1, 0), (.iload 3, 0, 0), (.bipush 1, 0, 0), (.iadd, 0, 0), (.iaload, 0, 0), (.ifCond .eq 1128, 0, 0), (.bipush 1, 0, 0), (.goto 1129, 0, 0), (.bipush 0, 0, 0), (.invokevirtual 199, 2, 375), (.iload 2, 1, 0), (.iload 0, 1, 0), (.iload 3, 0, 0), (.bipush 1, 0, 0), (.iadd, 0, 0), (.iaload, 0, 0), (.ifCond .eq 1139, 0, 0), (.bipush 1, 0, 0), (.goto 1140, 0, 0), (.bipush 0, 0, 0), (.invokevirtual 130, 2, 383), (.if_icmp .eq 1161, 0, 0), (.bipush 0, 0, 0), (.ireturn, 1, 0), (.iload 1, 1, 0), (.iload 0, 1, 0), (.iload 3, 0, 0), (.bipush 1, 0, 0), (.iadd, 0, 0), (.iaload, 0, 0), (.invokevirtual 205, 2, 385), (.iload 2, 1, 0), (.iload 0, 1, 0), (.iload 3, 0, 0), (.bipush 1, 0, 0), (.iadd, 0, 0), (.iaload, 0, 0), (.invokevirtual 132, 2, 391), (.if_icmp .eq 1161, 0, 0), (.bipush 0, 0, 0), (.ireturn, 1, 0), (.iinc 3 6, 0, 0), (.goto 10, 0, 0), (.bipush 1, 0, 0), (.ireturn, 1, 0)]
def am_codes : List (List am_I) := [am_c0, am_c1, am_c2, am_c3, am_c4, am_c5, am_c6, am_c7, am_c8, am_c9, am_c10, am_c11, am_c12, am_c13, am_c14, am_c15, am_c16, am_c17, am_c18, am_c19, am_c20, am_c21, am_c22, am_c23, am_c24, am_c25, am_c26, am_c27, am_c28, am_c29, am_c30, am_c31, am_c32, am_c33, am_c34, am_c35, am_c36, am_c37, am_c38, am_c39, am_c40, am_c41, am_c42, am_c43, am_c44, am_c45, am_c46, am_c47, am_c48, am_c49, am_c50, am_c51, am_c52, am_c53, am_c54, am_c55, am_c56, am_c57, am_c58, am_c59, am_c60, am_c61, am_c62, am_c63, am_c64, am_c65, am_c66, am_c67, am_c68, am_c69, am_c70, am_c71, am_c72, am_c73, am_c74, am_c75, am_c76, am_c77, am_c78, am_c79, am_c80, am_c81, am_c82, am_c83, am_c84, am_c85, am_c86, am_c87, am_c88, am_c89, am_c90, am_c91, am_c92, am_c93, am_c94, am_c95, am_c96, am_c97, am_c98, am_c99, am_c100, am_c101, am_c102, am_c103, am_c104, am_c105, am_c106, am_c107, am_c108, am_c109, am_c110, am_c111, am_c112, am_c113, am_c114, am_c115, am_c116, am_c117, am_c118, am_c119, am_c120, am_c121, am_c122, am_c123, am_c124, am_c125, am_c126, am_c127, am_c128, am_c129, am_c130, am_c131, am_c132, am_c133, am_c134, am_c135, am_c136, am_c137, am_c138, am_c139, am_c140, am_c141, am_c142, am_c143, am_c144, am_c145, am_c146, am_c147, am_c148, am_c149, am_c150, am_c151, am_c152, am_c153, am_c154, am_c155, am_c156, am_c157, am_c158, am_c159, am_c160, am_c161, am_c162, am_c163, am_c164, am_c165, am_c166, am_c167, am_c168, am_c169, am_c170, am_c171, am_c172, am_c173, am_c174, am_c175, am_c176, am_c177, am_c178, am_c179, am_c180, am_c181, am_c182, am_c183, am_c184, am_c185, am_c186, am_c187, am_c188, am_c189, am_c190, am_c191, am_c192, am_c193, am_c194, am_c195, am_c196, am_c197, am_c198, am_c199, am_c200, am_c201, am_c202, am_c203, am_c204, am_c205, am_c206, am_c207, am_c208, am_c209, am_c210, am_c211, am_c212, am_c213, am_c214, am_c215, am_c216, am_c217, am_c218, am_c219, am_c220, am_c221, am_c222, am_c223, am_c224, am_c225, am_c226, am_c227, am_c228, am_c229, am_c230, am_c231, am_c232, am_c233, am_c234, am_c235, am_c236, am_c237, am_c238, am_c239, am_c240, am_c241, am_c242, am_c243, am_c244, am_c245, am_c246, am_c247, am_c248, am_c249, am_c250, am_c251, am_c252, am_c253, am_c254, am_c255, am_c256, am_c257, am_c258, am_c259, am_c260, am_c261, am_c262, am_c263]
def am_code (j : Nat) : List am_I := am_codes.getD j []
def am_ml (j : Nat) : Nat := (202475270969518801633398771941987991240263985648659324903068535432024629132919424497296593034614334074667707202324053704878787106880777967624956528128920247972460054359214424151718500392498511810163509996812791219244071061929912881009108785337241704312666914377806030450974056611974545428537536876003426544921831813667 >>> (4 * j)) % 16
def am_mc (j : Nat) : Nat := (772097824362795745835521145737649030359681646894510705393556728067805755446125686071753161366823454663933236368866491583946465834577440860343906992838294140607811882944797907539858161082984767579223163976639077603883580274830165661748017069850258649501593046702431875216170126776556254896766041562192675480013075087359 >>> (4 * j)) % 16
def am_rcv (j : Nat) (args : List am_V) : Bool := cond (Nat.beq (am_mc j) 15) true (match args with
  | .inr a :: _ => Nat.beq (am_cls a) (am_mc j)
  | _ => false)
def am_ini (n : Nat) (args : List am_V) : List (Option am_V) := args.map some ++ List.replicate (n - args.length) none
noncomputable def am_run : Nat → Nat → List am_V → am_M → am_R
  | 0 => fun _ _ _ => none
  | d + 1 => fun j args M => cond (am_rcv j args) (am_lim am_cls am_rf am_len (am_run d) (am_code j) 0 (am_ini (am_ml j) args) [] M) none
noncomputable def am_L (d j : Nat) : am_K := am_lim am_cls am_rf am_len (am_run d) (am_code j)
theorem am_run_s (d j : Nat) (args : List am_V) (M : am_M) : am_run (d + 1) j args M = cond (am_rcv j args) (am_L d j 0 (am_ini (am_ml j) args) [] M) none := rfl
theorem am_blk {j : Nat} {c : List am_I} (h : am_code j = c) (stops : List Nat) (n d pc : Nat) (ls : List (Option am_V)) (st : List am_V) (M : am_M) : am_L d j pc ls st M = am_go am_cls am_rf am_len (am_run d) c stops (am_L d j) n (c.drop pc) pc ls st M := by
  subst h
  exact am_go_eq _ _ _ _ _ _ _
theorem am_h0 : am_code 0 = am_c0 := rfl
theorem am_h1 : am_code 1 = am_c1 := rfl
theorem am_h2 : am_code 2 = am_c2 := rfl
theorem am_h3 : am_code 3 = am_c3 := rfl
theorem am_h4 : am_code 4 = am_c4 := rfl
theorem am_h5 : am_code 5 = am_c5 := rfl
theorem am_h6 : am_code 6 = am_c6 := rfl
theorem am_h7 : am_code 7 = am_c7 := rfl
theorem am_h8 : am_code 8 = am_c8 := rfl
theorem am_h9 : am_code 9 = am_c9 := rfl
theorem am_h10 : am_code 10 = am_c10 := rfl
theorem am_h11 : am_code 11 = am_c11 := rfl
theorem am_h12 : am_code 12 = am_c12 := rfl
theorem am_h13 : am_code 13 = am_c13 := rfl
theorem am_h14 : am_code 14 = am_c14 := rfl
theorem am_h15 : am_code 15 = am_c15 := rfl
theorem am_h16 : am_code 16 = am_c16 := rfl
theorem am_h17 : am_code 17 = am_c17 := rfl
theorem am_h18 : am_code 18 = am_c18 := rfl
theorem am_h19 : am_code 19 = am_c19 := rfl
theorem am_h20 : am_code 20 = am_c20 := rfl
theorem am_h21 : am_code 21 = am_c21 := rfl
theorem am_h22 : am_code 22 = am_c22 := rfl
theorem am_h23 : am_code 23 = am_c23 := rfl
theorem am_h24 : am_code 24 = am_c24 := rfl
theorem am_h25 : am_code 25 = am_c25 := rfl
theorem am_h26 : am_code 26 = am_c26 := rfl
theorem am_h27 : am_code 27 = am_c27 := rfl
theorem am_h28 : am_code 28 = am_c28 := rfl
theorem am_h29 : am_code 29 = am_c29 := rfl
theorem am_h30 : am_code 30 = am_c30 := rfl
theorem am_h31 : am_code 31 = am_c31 := rfl
theorem am_h32 : am_code 32 = am_c32 := rfl
theorem am_h33 : am_code 33 = am_c33 := rfl
theorem am_h34 : am_code 34 = am_c34 := rfl
theorem am_h35 : am_code 35 = am_c35 := rfl
theorem am_h36 : am_code 36 = am_c36 := rfl
theorem am_h37 : am_code 37 = am_c37 := rfl
theorem am_h38 : am_code 38 = am_c38 := rfl
theorem am_h39 : am_code 39 = am_c39 := rfl
theorem am_h40 : am_code 40 = am_c40 := rfl
theorem am_h41 : am_code 41 = am_c41 := rfl
theorem am_h42 : am_code 42 = am_c42 := rfl
theorem am_h43 : am_code 43 = am_c43 := rfl
theorem am_h44 : am_code 44 = am_c44 := rfl
theorem am_h45 : am_code 45 = am_c45 := rfl
theorem am_h46 : am_code 46 = am_c46 := rfl
theorem am_h47 : am_code 47 = am_c47 := rfl
theorem am_h48 : am_code 48 = am_c48 := rfl
theorem am_h49 : am_code 49 = am_c49 := rfl
theorem am_h50 : am_code 50 = am_c50 := rfl
theorem am_h51 : am_code 51 = am_c51 := rfl
theorem am_h52 : am_code 52 = am_c52 := rfl
theorem am_h53 : am_code 53 = am_c53 := rfl
theorem am_h54 : am_code 54 = am_c54 := rfl
theorem am_h55 : am_code 55 = am_c55 := rfl
theorem am_h56 : am_code 56 = am_c56 := rfl
theorem am_h57 : am_code 57 = am_c57 := rfl
theorem am_h58 : am_code 58 = am_c58 := rfl
theorem am_h59 : am_code 59 = am_c59 := rfl
theorem am_h60 : am_code 60 = am_c60 := rfl
theorem am_h61 : am_code 61 = am_c61 := rfl
theorem am_h62 : am_code 62 = am_c62 := rfl
theorem am_h63 : am_code 63 = am_c63 := rfl
theorem am_h64 : am_code 64 = am_c64 := rfl
theorem am_h65 : am_code 65 = am_c65 := rfl
theorem am_h66 : am_code 66 = am_c66 := rfl
theorem am_h67 : am_code 67 = am_c67 := rfl
theorem am_h68 : am_code 68 = am_c68 := rfl
theorem am_h69 : am_code 69 = am_c69 := rfl
theorem am_h70 : am_code 70 = am_c70 := rfl
theorem am_h71 : am_code 71 = am_c71 := rfl
theorem am_h72 : am_code 72 = am_c72 := rfl
theorem am_h73 : am_code 73 = am_c73 := rfl
theorem am_h74 : am_code 74 = am_c74 := rfl
theorem am_h75 : am_code 75 = am_c75 := rfl
theorem am_h76 : am_code 76 = am_c76 := rfl
theorem am_h77 : am_code 77 = am_c77 := rfl
theorem am_h78 : am_code 78 = am_c78 := rfl
theorem am_h79 : am_code 79 = am_c79 := rfl
theorem am_h80 : am_code 80 = am_c80 := rfl
theorem am_h81 : am_code 81 = am_c81 := rfl
theorem am_h82 : am_code 82 = am_c82 := rfl
theorem am_h83 : am_code 83 = am_c83 := rfl
theorem am_h84 : am_code 84 = am_c84 := rfl
theorem am_h85 : am_code 85 = am_c85 := rfl
theorem am_h86 : am_code 86 = am_c86 := rfl
theorem am_h87 : am_code 87 = am_c87 := rfl
theorem am_h88 : am_code 88 = am_c88 := rfl
theorem am_h89 : am_code 89 = am_c89 := rfl
theorem am_h90 : am_code 90 = am_c90 := rfl
theorem am_h91 : am_code 91 = am_c91 := rfl
theorem am_h92 : am_code 92 = am_c92 := rfl
theorem am_h93 : am_code 93 = am_c93 := rfl
theorem am_h94 : am_code 94 = am_c94 := rfl
theorem am_h95 : am_code 95 = am_c95 := rfl
theorem am_h96 : am_code 96 = am_c96 := rfl
theorem am_h97 : am_code 97 = am_c97 := rfl
theorem am_h98 : am_code 98 = am_c98 := rfl
theorem am_h99 : am_code 99 = am_c99 := rfl
theorem am_h100 : am_code 100 = am_c100 := rfl
theorem am_h101 : am_code 101 = am_c101 := rfl
theorem am_h102 : am_code 102 = am_c102 := rfl
theorem am_h103 : am_code 103 = am_c103 := rfl
theorem am_h104 : am_code 104 = am_c104 := rfl
theorem am_h105 : am_code 105 = am_c105 := rfl
theorem am_h106 : am_code 106 = am_c106 := rfl
theorem am_h107 : am_code 107 = am_c107 := rfl
theorem am_h108 : am_code 108 = am_c108 := rfl
theorem am_h109 : am_code 109 = am_c109 := rfl
theorem am_h110 : am_code 110 = am_c110 := rfl
theorem am_h111 : am_code 111 = am_c111 := rfl
theorem am_h112 : am_code 112 = am_c112 := rfl
theorem am_h113 : am_code 113 = am_c113 := rfl
theorem am_h114 : am_code 114 = am_c114 := rfl
theorem am_h115 : am_code 115 = am_c115 := rfl
theorem am_h116 : am_code 116 = am_c116 := rfl
theorem am_h117 : am_code 117 = am_c117 := rfl
theorem am_h118 : am_code 118 = am_c118 := rfl
theorem am_h119 : am_code 119 = am_c119 := rfl
theorem am_h120 : am_code 120 = am_c120 := rfl
theorem am_h121 : am_code 121 = am_c121 := rfl
theorem am_h122 : am_code 122 = am_c122 := rfl
theorem am_h123 : am_code 123 = am_c123 := rfl
theorem am_h124 : am_code 124 = am_c124 := rfl
theorem am_h125 : am_code 125 = am_c125 := rfl
theorem am_h126 : am_code 126 = am_c126 := rfl
theorem am_h127 : am_code 127 = am_c127 := rfl
theorem am_h128 : am_code 128 = am_c128 := rfl
theorem am_h129 : am_code 129 = am_c129 := rfl
theorem am_h130 : am_code 130 = am_c130 := rfl
theorem am_h131 : am_code 131 = am_c131 := rfl
theorem am_h132 : am_code 132 = am_c132 := rfl
theorem am_h133 : am_code 133 = am_c133 := rfl
theorem am_h134 : am_code 134 = am_c134 := rfl
theorem am_h135 : am_code 135 = am_c135 := rfl
theorem am_h136 : am_code 136 = am_c136 := rfl
theorem am_h137 : am_code 137 = am_c137 := rfl
theorem am_h138 : am_code 138 = am_c138 := rfl
theorem am_h139 : am_code 139 = am_c139 := rfl
theorem am_h140 : am_code 140 = am_c140 := rfl
theorem am_h141 : am_code 141 = am_c141 := rfl
theorem am_h142 : am_code 142 = am_c142 := rfl
theorem am_h143 : am_code 143 = am_c143 := rfl
theorem am_h144 : am_code 144 = am_c144 := rfl
theorem am_h145 : am_code 145 = am_c145 := rfl
theorem am_h146 : am_code 146 = am_c146 := rfl
theorem am_h147 : am_code 147 = am_c147 := rfl
theorem am_h148 : am_code 148 = am_c148 := rfl
theorem am_h149 : am_code 149 = am_c149 := rfl
theorem am_h150 : am_code 150 = am_c150 := rfl
theorem am_h151 : am_code 151 = am_c151 := rfl
theorem am_h152 : am_code 152 = am_c152 := rfl
theorem am_h153 : am_code 153 = am_c153 := rfl
theorem am_h154 : am_code 154 = am_c154 := rfl
theorem am_h155 : am_code 155 = am_c155 := rfl
theorem am_h156 : am_code 156 = am_c156 := rfl
theorem am_h157 : am_code 157 = am_c157 := rfl
theorem am_h158 : am_code 158 = am_c158 := rfl
theorem am_h159 : am_code 159 = am_c159 := rfl
theorem am_h160 : am_code 160 = am_c160 := rfl
theorem am_h161 : am_code 161 = am_c161 := rfl
theorem am_h162 : am_code 162 = am_c162 := rfl
theorem am_h163 : am_code 163 = am_c163 := rfl
theorem am_h164 : am_code 164 = am_c164 := rfl
theorem am_h165 : am_code 165 = am_c165 := rfl
theorem am_h166 : am_code 166 = am_c166 := rfl
theorem am_h167 : am_code 167 = am_c167 := rfl
theorem am_h168 : am_code 168 = am_c168 := rfl
theorem am_h169 : am_code 169 = am_c169 := rfl
theorem am_h170 : am_code 170 = am_c170 := rfl
theorem am_h171 : am_code 171 = am_c171 := rfl
theorem am_h172 : am_code 172 = am_c172 := rfl
theorem am_h173 : am_code 173 = am_c173 := rfl
theorem am_h174 : am_code 174 = am_c174 := rfl
theorem am_h175 : am_code 175 = am_c175 := rfl
theorem am_h176 : am_code 176 = am_c176 := rfl
theorem am_h177 : am_code 177 = am_c177 := rfl
theorem am_h178 : am_code 178 = am_c178 := rfl
theorem am_h179 : am_code 179 = am_c179 := rfl
theorem am_h180 : am_code 180 = am_c180 := rfl
theorem am_h181 : am_code 181 = am_c181 := rfl
theorem am_h182 : am_code 182 = am_c182 := rfl
theorem am_h183 : am_code 183 = am_c183 := rfl
theorem am_h184 : am_code 184 = am_c184 := rfl
theorem am_h185 : am_code 185 = am_c185 := rfl
theorem am_h186 : am_code 186 = am_c186 := rfl
theorem am_h187 : am_code 187 = am_c187 := rfl
theorem am_h188 : am_code 188 = am_c188 := rfl
theorem am_h189 : am_code 189 = am_c189 := rfl
theorem am_h190 : am_code 190 = am_c190 := rfl
theorem am_h191 : am_code 191 = am_c191 := rfl
theorem am_h192 : am_code 192 = am_c192 := rfl
theorem am_h193 : am_code 193 = am_c193 := rfl
theorem am_h194 : am_code 194 = am_c194 := rfl
theorem am_h195 : am_code 195 = am_c195 := rfl
theorem am_h196 : am_code 196 = am_c196 := rfl
theorem am_h197 : am_code 197 = am_c197 := rfl
theorem am_h198 : am_code 198 = am_c198 := rfl
theorem am_h199 : am_code 199 = am_c199 := rfl
theorem am_h200 : am_code 200 = am_c200 := rfl
theorem am_h201 : am_code 201 = am_c201 := rfl
theorem am_h202 : am_code 202 = am_c202 := rfl
theorem am_h203 : am_code 203 = am_c203 := rfl
theorem am_h204 : am_code 204 = am_c204 := rfl
theorem am_h205 : am_code 205 = am_c205 := rfl
theorem am_h206 : am_code 206 = am_c206 := rfl
theorem am_h207 : am_code 207 = am_c207 := rfl
theorem am_h208 : am_code 208 = am_c208 := rfl
theorem am_h209 : am_code 209 = am_c209 := rfl
theorem am_h210 : am_code 210 = am_c210 := rfl
theorem am_h211 : am_code 211 = am_c211 := rfl
theorem am_h212 : am_code 212 = am_c212 := rfl
theorem am_h213 : am_code 213 = am_c213 := rfl
theorem am_h214 : am_code 214 = am_c214 := rfl
theorem am_h215 : am_code 215 = am_c215 := rfl
theorem am_h216 : am_code 216 = am_c216 := rfl
theorem am_h217 : am_code 217 = am_c217 := rfl
theorem am_h218 : am_code 218 = am_c218 := rfl
theorem am_h219 : am_code 219 = am_c219 := rfl
theorem am_h220 : am_code 220 = am_c220 := rfl
theorem am_h221 : am_code 221 = am_c221 := rfl
theorem am_h222 : am_code 222 = am_c222 := rfl
theorem am_h223 : am_code 223 = am_c223 := rfl
theorem am_h224 : am_code 224 = am_c224 := rfl
theorem am_h225 : am_code 225 = am_c225 := rfl
theorem am_h226 : am_code 226 = am_c226 := rfl
theorem am_h227 : am_code 227 = am_c227 := rfl
theorem am_h228 : am_code 228 = am_c228 := rfl
theorem am_h229 : am_code 229 = am_c229 := rfl
theorem am_h230 : am_code 230 = am_c230 := rfl
theorem am_h231 : am_code 231 = am_c231 := rfl
theorem am_h232 : am_code 232 = am_c232 := rfl
theorem am_h233 : am_code 233 = am_c233 := rfl
theorem am_h234 : am_code 234 = am_c234 := rfl
theorem am_h235 : am_code 235 = am_c235 := rfl
theorem am_h236 : am_code 236 = am_c236 := rfl
theorem am_h237 : am_code 237 = am_c237 := rfl
theorem am_h238 : am_code 238 = am_c238 := rfl
theorem am_h239 : am_code 239 = am_c239 := rfl
theorem am_h240 : am_code 240 = am_c240 := rfl
theorem am_h241 : am_code 241 = am_c241 := rfl
theorem am_h242 : am_code 242 = am_c242 := rfl
theorem am_h243 : am_code 243 = am_c243 := rfl
theorem am_h244 : am_code 244 = am_c244 := rfl
theorem am_h245 : am_code 245 = am_c245 := rfl
theorem am_h246 : am_code 246 = am_c246 := rfl
theorem am_h247 : am_code 247 = am_c247 := rfl
theorem am_h248 : am_code 248 = am_c248 := rfl
theorem am_h249 : am_code 249 = am_c249 := rfl
theorem am_h250 : am_code 250 = am_c250 := rfl
theorem am_h251 : am_code 251 = am_c251 := rfl
theorem am_h252 : am_code 252 = am_c252 := rfl
theorem am_h253 : am_code 253 = am_c253 := rfl
theorem am_h254 : am_code 254 = am_c254 := rfl
theorem am_h255 : am_code 255 = am_c255 := rfl
theorem am_h256 : am_code 256 = am_c256 := rfl
theorem am_h257 : am_code 257 = am_c257 := rfl
theorem am_h258 : am_code 258 = am_c258 := rfl
theorem am_h259 : am_code 259 = am_c259 := rfl
theorem am_h260 : am_code 260 = am_c260 := rfl
theorem am_h261 : am_code 261 = am_c261 := rfl
theorem am_h262 : am_code 262 = am_c262 := rfl
theorem am_h263 : am_code 263 = am_c263 := rfl
end
section
/-! names and field tables of the classes (from the printed names) -/
def RX0 : String := "LentHands$Asked"
def TX0 : u_T := fun k => match k with
  | 0 => ("LentHands$Asked", "value", "[I", true)
  | _ => ("LentHands$Asked", "stack", "[I", true)
def tyX0 : Nat → FieldType := fun k => match k with
  | 0 => .array .int
  | _ => .array .int
theorem nmX0 : ∀ a, a < 2 → ∀ b, b < 2 → a ≠ b → (TX0 a).2.1 ≠ (TX0 b).2.1 := by decide +kernel
theorem tyX0_ok : ∀ k, k < 2 → parseFieldDescriptor (TX0 k).2.2.1 = some (tyX0 k) := by decide +kernel
def RX1 : String := "LentHands$Law"
def TX1 : u_T := fun k => match k with
  | 0 => ("LentHands$Law", "lines", "I", false)
  | 1 => ("LentHands$Law", "size", "I", false)
  | 2 => ("LentHands$Law", "verb", "[I", true)
  | 3 => ("LentHands$Law", "start", "[I", true)
  | 4 => ("LentHands$Law", "middle", "[I", true)
  | 5 => ("LentHands$Law", "stop", "[I", true)
  | _ => ("LentHands$Law", "code", "[I", true)
def tyX1 : Nat → FieldType := fun k => match k with
  | 0 => .int
  | 1 => .int
  | 2 => .array .int
  | 3 => .array .int
  | 4 => .array .int
  | 5 => .array .int
  | _ => .array .int
theorem nmX1 : ∀ a, a < 7 → ∀ b, b < 7 → a ≠ b → (TX1 a).2.1 ≠ (TX1 b).2.1 := by decide +kernel
theorem tyX1_ok : ∀ k, k < 7 → parseFieldDescriptor (TX1 k).2.2.1 = some (tyX1 k) := by decide +kernel
def RX2 : String := "LentHands$Reader"
def TX2 : u_T := fun k => match k with
  | 0 => ("LentHands$Reader", "kind", "[I", true)
  | 1 => ("LentHands$Reader", "value", "[I", true)
  | 2 => ("LentHands$Reader", "place", "[I", true)
  | 3 => ("LentHands$Reader", "tokens", "I", false)
  | 4 => ("LentHands$Reader", "next", "I", false)
  | 5 => ("LentHands$Reader", "fault", "I", false)
  | 6 => ("LentHands$Reader", "faultPlace", "I", false)
  | 7 => ("LentHands$Reader", "asks", "I", false)
  | 8 => ("LentHands$Reader", "law", "LLentHands$Law;", true)
  | _ => ("LentHands$Reader", "table", "LLentHands$Table;", true)
def tyX2 : Nat → FieldType := fun k => match k with
  | 0 => .array .int
  | 1 => .array .int
  | 2 => .array .int
  | 3 => .int
  | 4 => .int
  | 5 => .int
  | 6 => .int
  | 7 => .int
  | 8 => .object "LentHands$Law"
  | _ => .object "LentHands$Table"
theorem nmX2 : ∀ a, a < 10 → ∀ b, b < 10 → a ≠ b → (TX2 a).2.1 ≠ (TX2 b).2.1 := by decide +kernel
theorem tyX2_ok : ∀ k, k < 10 → parseFieldDescriptor (TX2 k).2.2.1 = some (tyX2 k) := by decide +kernel
def RX3 : String := "LentHands$Table"
def TX3 : u_T := fun k => match k with
  | 0 => ("LentHands$Table", "lines", "I", false)
  | _ => ("LentHands$Table", "cells", "[I", true)
def tyX3 : Nat → FieldType := fun k => match k with
  | 0 => .int
  | _ => .array .int
theorem nmX3 : ∀ a, a < 2 → ∀ b, b < 2 → a ≠ b → (TX3 a).2.1 ≠ (TX3 b).2.1 := by decide +kernel
theorem tyX3_ok : ∀ k, k < 2 → parseFieldDescriptor (TX3 k).2.2.1 = some (tyX3 k) := by decide +kernel
def RX4 : String := "LentHands$Texts"
def TX4 : u_T := fun k => match k with
  | 0 => ("LentHands$Texts", "laws", "[LLentHands$Law;", true)
  | 1 => ("LentHands$Texts", "bookings", "LLentHands$Table;", true)
  | _ => ("LentHands$Texts", "works", "LLentHands$Table;", true)
def tyX4 : Nat → FieldType := fun k => match k with
  | 0 => .array (.object "LentHands$Law")
  | 1 => .object "LentHands$Table"
  | _ => .object "LentHands$Table"
theorem nmX4 : ∀ a, a < 3 → ∀ b, b < 3 → a ≠ b → (TX4 a).2.1 ≠ (TX4 b).2.1 := by decide +kernel
theorem tyX4_ok : ∀ k, k < 3 → parseFieldDescriptor (TX4 k).2.2.1 = some (tyX4 k) := by decide +kernel
def RX5 : String := "LentHands$World"
def TX5 : u_T := fun k => match k with
  | 0 => ("LentHands$World", "draws", "I", false)
  | 1 => ("LentHands$World", "hour", "I", false)
  | 2 => ("LentHands$World", "people", "I", false)
  | 3 => ("LentHands$World", "loanCount", "I", false)
  | 4 => ("LentHands$World", "bookLines", "I", false)
  | 5 => ("LentHands$World", "coin", "[I", true)
  | 6 => ("LentHands$World", "child", "[I", true)
  | 7 => ("LentHands$World", "task", "[I", true)
  | 8 => ("LentHands$World", "guilt", "[I", true)
  | 9 => ("LentHands$World", "wrist", "[I", true)
  | 10 => ("LentHands$World", "place", "[I", true)
  | 11 => ("LentHands$World", "skill", "[I", true)
  | 12 => ("LentHands$World", "wear", "[I", true)
  | 13 => ("LentHands$World", "scars", "[I", true)
  | 14 => ("LentHands$World", "marks", "[I", true)
  | 15 => ("LentHands$World", "held", "[I", true)
  | _ => ("LentHands$World", "loans", "[I", true)
def tyX5 : Nat → FieldType := fun k => match k with
  | 0 => .int
  | 1 => .int
  | 2 => .int
  | 3 => .int
  | 4 => .int
  | 5 => .array .int
  | 6 => .array .int
  | 7 => .array .int
  | 8 => .array .int
  | 9 => .array .int
  | 10 => .array .int
  | 11 => .array .int
  | 12 => .array .int
  | 13 => .array .int
  | 14 => .array .int
  | 15 => .array .int
  | _ => .array .int
theorem nmX5 : ∀ a, a < 17 → ∀ b, b < 17 → a ≠ b → (TX5 a).2.1 ≠ (TX5 b).2.1 := by decide +kernel
theorem tyX5_ok : ∀ k, k < 17 → parseFieldDescriptor (TX5 k).2.2.1 = some (tyX5 k) := by decide +kernel
def RX6 : String := "LentHands"
def TX6 : u_T := fun k => match k with
  | 0 => ("LentHands", "now", "LLentHands$World;", true)
  | 1 => ("LentHands", "thought", "LLentHands$World;", true)
  | 2 => ("LentHands", "kept", "[LLentHands$World;", true)
  | 3 => ("LentHands", "keptCount", "I", false)
  | 4 => ("LentHands", "keptNext", "I", false)
  | 5 => ("LentHands", "texts", "LLentHands$Texts;", true)
  | 6 => ("LentHands", "lines", "[I", true)
  | 7 => ("LentHands", "imageWorld", "LLentHands$World;", true)
  | 8 => ("LentHands", "imageTexts", "LLentHands$Texts;", true)
  | 9 => ("LentHands", "imageLines", "[I", true)
  | 10 => ("LentHands", "imaged", "Z", false)
  | 11 => ("LentHands", "tape", "[C", true)
  | 12 => ("LentHands", "taped", "I", false)
  | 13 => ("LentHands", "reader", "LLentHands$Reader;", true)
  | 14 => ("LentHands", "asked", "LLentHands$Asked;", true)
  | _ => ("LentHands", "plan", "[I", true)
def tyX6 : Nat → FieldType := fun k => match k with
  | 0 => .object "LentHands$World"
  | 1 => .object "LentHands$World"
  | 2 => .array (.object "LentHands$World")
  | 3 => .int
  | 4 => .int
  | 5 => .object "LentHands$Texts"
  | 6 => .array .int
  | 7 => .object "LentHands$World"
  | 8 => .object "LentHands$Texts"
  | 9 => .array .int
  | 10 => .boolean
  | 11 => .array .char
  | 12 => .int
  | 13 => .object "LentHands$Reader"
  | 14 => .object "LentHands$Asked"
  | _ => .array .int
theorem nmX6 : ∀ a, a < 16 → ∀ b, b < 16 → a ≠ b → (TX6 a).2.1 ≠ (TX6 b).2.1 := by decide +kernel
theorem tyX6_ok : ∀ k, k < 16 → parseFieldDescriptor (TX6 k).2.2.1 = some (tyX6 k) := by decide +kernel
def RX7 : String := "LentHandsModel"
def TX7 : u_T := fun k => match k with
  | 0 => ("LentHandsModel", "w", "[I", true)
  | 1 => ("LentHandsModel", "kept", "[I", true)
  | 2 => ("LentHandsModel", "back", "[I", true)
  | 3 => ("LentHandsModel", "lying", "[I", true)
  | 4 => ("LentHandsModel", "backMany", "I", false)
  | 5 => ("LentHandsModel", "hasImage", "Z", false)
  | 6 => ("LentHandsModel", "freshLine", "[I", true)
  | 7 => ("LentHandsModel", "freshStep", "[I", true)
  | 8 => ("LentHandsModel", "freshRow", "[I", true)
  | 9 => ("LentHandsModel", "tape", "[I", true)
  | 10 => ("LentHandsModel", "pile", "[I", true)
  | 11 => ("LentHandsModel", "facts", "[I", true)
  | 12 => ("LentHandsModel", "reading", "I", false)
  | 13 => ("LentHandsModel", "lines", "I", false)
  | 14 => ("LentHandsModel", "steps", "I", false)
  | 15 => ("LentHandsModel", "rows", "I", false)
  | 16 => ("LentHandsModel", "taped", "I", false)
  | 17 => ("LentHandsModel", "at", "I", false)
  | 18 => ("LentHandsModel", "token", "I", false)
  | 19 => ("LentHandsModel", "tokenAt", "I", false)
  | 20 => ("LentHandsModel", "value", "I", false)
  | 21 => ("LentHandsModel", "wrong", "I", false)
  | 22 => ("LentHandsModel", "wrongAt", "I", false)
  | 23 => ("LentHandsModel", "faultKind", "I", false)
  | 24 => ("LentHandsModel", "depth", "I", false)
  | 25 => ("LentHandsModel", "faultPlace", "I", false)
  | 26 => ("LentHandsModel", "numbered", "I", false)
  | 27 => ("LentHandsModel", "failedAt", "I", false)
  | 28 => ("LentHandsModel", "failedHour", "I", false)
  | 29 => ("LentHandsModel", "paid", "[I", true)
  | 30 => ("LentHandsModel", "worker", "[I", true)
  | 31 => ("LentHandsModel", "learnt", "I", false)
  | 32 => ("LentHandsModel", "unscarred", "I", false)
  | 33 => ("LentHandsModel", "wishMany", "I", false)
  | 34 => ("LentHandsModel", "wishLeft", "I", false)
  | _ => ("LentHandsModel", "wishRight", "I", false)
def tyX7 : Nat → FieldType := fun k => match k with
  | 0 => .array .int
  | 1 => .array .int
  | 2 => .array .int
  | 3 => .array .int
  | 4 => .int
  | 5 => .boolean
  | 6 => .array .int
  | 7 => .array .int
  | 8 => .array .int
  | 9 => .array .int
  | 10 => .array .int
  | 11 => .array .int
  | 12 => .int
  | 13 => .int
  | 14 => .int
  | 15 => .int
  | 16 => .int
  | 17 => .int
  | 18 => .int
  | 19 => .int
  | 20 => .int
  | 21 => .int
  | 22 => .int
  | 23 => .int
  | 24 => .int
  | 25 => .int
  | 26 => .int
  | 27 => .int
  | 28 => .int
  | 29 => .array .int
  | 30 => .array .int
  | 31 => .int
  | 32 => .int
  | 33 => .int
  | 34 => .int
  | _ => .int
theorem nmX7 : ∀ a, a < 36 → ∀ b, b < 36 → a ≠ b → (TX7 a).2.1 ≠ (TX7 b).2.1 := by decide +kernel
theorem tyX7_ok : ∀ k, k < 36 → parseFieldDescriptor (TX7 k).2.2.1 = some (tyX7 k) := by decide +kernel
def RJ6 : String := "java/lang/Integer"
def RJ9 : String := "java/lang/Math"
def RJ0 : String := "java/lang/String"
def RJ1 : String := "java/lang/StringLatin1"
def RJ2 : String := "java/lang/StringUTF16"
def RJ10 : String := "java/lang/System"
def RJ3 : String := "jdk/internal/util/Preconditions"
def RL : String := "LentHandsLaw"
abbrev vwCl : List vw_C := [(RX0, TX0, 2), (RX1, TX1, 7), (RX2, TX2, 10), (RX3, TX3, 2), (RX4, TX4, 3), (RX5, TX5, 17), (RX6, TX6, 16), (RX7, TX7, 36)]
def am_nf (ci : Nat) : Nat := ([2, 7, 10, 2, 3, 17, 16, 36] : List Nat).getD ci 0
def am_isrl : List (List Bool) := [[true, true], [false, false, true, true, true, true, true], [true, true, true, false, false, false, false, false, true, true], [false, true], [true, true, true], [false, false, false, false, false, true, true, true, true, true, true, true, true, true, true, true, true], [true, true, true, false, false, true, true, true, true, true, false, true, false, true, true, true], [true, true, true, true, false, false, true, true, true, true, true, true, false, false, false, false, false, false, false, false, false, false, false, false, false, false, false, false, false, true, true, false, false, false, false, false]]
def am_isr (ci k : Nat) : Bool := (am_isrl.getD ci []).getD k false
end
section
/-! links of the code, and what the code says of the bytes: checked method by method -/
abbrev am_in (x : Int) : Prop := -2147483648 ≤ x ∧ x < 2147483648
def am_cn (own : Nat) : String := (["LentHands$Asked", "LentHands$Law", "LentHands$Reader", "LentHands$Table", "LentHands$Texts", "LentHands$World", "LentHands", "LentHandsModel", "LentHandsLaw", "java/lang/Integer", "java/lang/Math", "java/lang/String", "java/lang/StringLatin1", "jdk/internal/util/Preconditions"] : List String).getD own ""
def am_fl : List (Nat × Nat × Nat × Nat × Nat) := [(7, 7, 7, 0, 1), (7, 80, 7, 16, 0), (7, 31, 7, 9, 1), (7, 83, 7, 17, 0), (7, 86, 7, 19, 0), (7, 167, 7, 12, 0), (7, 209, 7, 20, 0), (7, 197, 7, 18, 0), (7, 25, 7, 7, 1), (7, 224, 7, 14, 0), (7, 227, 7, 24, 0), (7, 259, 7, 13, 0), (7, 22, 7, 6, 1), (7, 28, 7, 8, 1), (7, 265, 7, 26, 0), (7, 272, 7, 15, 0), (7, 212, 7, 21, 0), (7, 215, 7, 22, 0), (7, 285, 7, 23, 0), (7, 40, 7, 25, 0), (7, 34, 7, 10, 1), (7, 37, 7, 11, 1), (7, 58, 7, 4, 0), (7, 16, 7, 2, 1), (7, 383, 7, 27, 0), (7, 44, 7, 29, 1), (7, 47, 7, 30, 1), (7, 19, 7, 3, 1), (7, 386, 7, 28, 0), (7, 451, 7, 32, 0), (7, 454, 7, 31, 0), (7, 469, 7, 33, 0), (7, 475, 7, 34, 0), (7, 478, 7, 35, 0), (7, 484, 7, 5, 0), (7, 13, 7, 1, 1), (5, 48, 5, 0, 0), (5, 52, 5, 1, 0), (5, 55, 5, 2, 0), (5, 58, 5, 3, 0), (5, 61, 5, 4, 0), (5, 9, 5, 5, 1), (5, 15, 5, 6, 1), (5, 18, 5, 7, 1), (5, 21, 5, 8, 1), (5, 24, 5, 9, 1), (5, 27, 5, 10, 1), (5, 30, 5, 11, 1), (5, 33, 5, 12, 1), (5, 36, 5, 13, 1), (5, 39, 5, 14, 1), (5, 42, 5, 15, 1), (5, 45, 5, 16, 1), (1, 27, 1, 0, 0), (1, 31, 1, 1, 0), (1, 9, 1, 2, 1), (1, 15, 1, 3, 1), (1, 18, 1, 4, 1), (1, 21, 1, 5, 1), (1, 24, 1, 6, 1), (1, 44, 0, 1, 1), (1, 49, 0, 0, 1), (3, 9, 3, 1, 1), (3, 15, 3, 0, 0), (4, 11, 4, 0, 1), (4, 20, 4, 1, 1), (4, 24, 4, 2, 1), (2, 39, 2, 3, 0), (2, 9, 2, 0, 1), (2, 15, 2, 1, 1), (2, 18, 2, 2, 1), (2, 42, 2, 4, 0), (2, 28, 2, 8, 1), (2, 92, 1, 0, 0), (2, 113, 1, 2, 1), (2, 116, 1, 3, 1), (2, 95, 1, 1, 0), (2, 123, 1, 4, 1), (2, 129, 1, 5, 1), (2, 101, 2, 7, 0), (2, 35, 2, 9, 1), (2, 146, 3, 0, 0), (2, 154, 3, 1, 1), (6, 10, 6, 0, 1), (6, 64, 5, 0, 0), (6, 75, 5, 2, 0), (6, 96, 6, 12, 0), (6, 43, 6, 11, 1), (6, 50, 6, 13, 1), (6, 26, 6, 5, 1), (6, 110, 4, 0, 1), (6, 114, 2, 8, 1), (6, 124, 1, 0, 0), (6, 130, 4, 1, 1), (6, 134, 2, 9, 1), (6, 142, 4, 2, 1), (6, 145, 3, 0, 0), (6, 146, 2, 5, 0), (6, 149, 2, 6, 0), (6, 169, 5, 9, 1), (6, 172, 5, 10, 1), (6, 179, 5, 7, 1), (6, 186, 5, 8, 1), (6, 193, 5, 4, 0), (6, 30, 6, 6, 1), (6, 196, 5, 1, 0), (6, 19, 6, 2, 1), (6, 209, 6, 4, 0), (6, 215, 6, 3, 0), (6, 34, 6, 7, 1), (6, 37, 6, 8, 1), (6, 40, 6, 9, 1), (6, 232, 6, 10, 0), (6, 236, 5, 5, 1), (6, 239, 5, 6, 1), (6, 248, 5, 11, 1), (6, 251, 5, 12, 1), (6, 254, 5, 13, 1), (6, 257, 5, 14, 1), (6, 260, 5, 15, 1), (6, 269, 5, 3, 0), (6, 57, 6, 14, 1), (6, 288, 0, 0, 1), (6, 61, 6, 15, 1), (6, 16, 6, 1, 1)]
def am_fp : List (Nat × Nat × Nat × Nat) := [(7, 116, 7, 4), (7, 160, 7, 16), (7, 166, 7, 17), (7, 172, 7, 19), (7, 394, 7, 18), (7, 418, 7, 20), (7, 424, 7, 21), (7, 430, 7, 22), (7, 448, 7, 14), (7, 454, 7, 24), (7, 518, 7, 13), (7, 530, 7, 26), (7, 544, 7, 15), (7, 570, 7, 23), (7, 80, 7, 25), (7, 334, 7, 12), (7, 766, 7, 27), (7, 772, 7, 28), (7, 902, 7, 32), (7, 908, 7, 31), (7, 938, 7, 33), (7, 950, 7, 34), (7, 956, 7, 35), (7, 969, 7, 5), (5, 96, 5, 0), (5, 104, 5, 1), (5, 110, 5, 2), (5, 116, 5, 3), (5, 122, 5, 4), (1, 54, 1, 0), (1, 62, 1, 1), (3, 30, 3, 0), (2, 78, 2, 3), (2, 84, 2, 4), (2, 90, 2, 5), (2, 42, 2, 6), (2, 184, 1, 0), (2, 190, 1, 1), (2, 202, 2, 7), (2, 292, 3, 0), (6, 128, 5, 0), (6, 192, 6, 12), (6, 386, 5, 4), (6, 418, 6, 4), (6, 430, 6, 3), (6, 465, 6, 10), (6, 392, 5, 1)]
def am_gl : List (Nat × Nat × Nat) := [(2, 98, 202), (2, 107, 200), (2, 110, 201)]
def am_sl : List (Nat × Nat × Nat) := [(7, 99, 321), (7, 105, 322), (7, 107, 323), (7, 109, 324), (7, 111, 314), (7, 113, 315), (7, 115, 316), (7, 117, 317), (7, 119, 318), (7, 121, 305), (7, 123, 319), (7, 125, 320), (7, 130, 325), (7, 132, 326), (7, 134, 327), (7, 136, 328), (7, 138, 329), (7, 140, 330), (7, 142, 331), (7, 144, 332), (7, 146, 333), (7, 148, 334), (7, 150, 309), (7, 152, 335), (7, 154, 301), (7, 156, 302), (7, 158, 303), (7, 159, 304), (7, 161, 306), (7, 163, 307), (7, 165, 308), (7, 176, 310), (7, 178, 311), (7, 180, 312), (7, 182, 313), (2, 69, 300)]
def am_kl : List (Nat × Nat × Int) := [(7, 64, 1664525), (7, 65, 1013904223), (7, 450, 1000000), (5, 91, 1664525), (5, 92, 1013904223), (6, 373, 1000000), (9, 265, 1431655765), (9, 266, 858993459), (9, 267, 252645135)]
def am_mk : List (Nat × Nat × Nat) := [(7, 50, 0), (7, 54, 5), (7, 61, 14), (7, 66, 4), (7, 70, 6), (7, 73, 8), (7, 77, 9), (7, 89, 256), (7, 95, 257), (7, 101, 24), (7, 127, 25), (7, 170, 29), (7, 173, 30), (7, 184, 26), (7, 187, 27), (7, 190, 28), (7, 193, 21), (7, 200, 22), (7, 203, 31), (7, 206, 23), (7, 218, 33), (7, 221, 32), (7, 230, 38), (7, 234, 35), (7, 238, 39), (7, 241, 41), (7, 244, 42), (7, 247, 36), (7, 250, 40), (7, 253, 34), (7, 256, 37), (7, 262, 43), (7, 268, 45), (7, 275, 46), (7, 279, 47), (7, 282, 48), (7, 288, 44), (7, 291, 49), (7, 294, 50), (7, 297, 51), (7, 300, 54), (7, 303, 55), (7, 306, 56), (7, 309, 1), (7, 312, 2), (7, 315, 7), (7, 318, 59), (7, 321, 13), (7, 324, 62), (7, 327, 3), (7, 330, 60), (7, 333, 57), (7, 336, 67), (7, 339, 61), (7, 342, 63), (7, 345, 69), (7, 348, 12), (7, 351, 66), (7, 354, 68), (7, 357, 64), (7, 360, 70), (7, 364, 11), (7, 367, 10), (7, 370, 77), (7, 373, 78), (7, 376, 76), (7, 380, 75), (7, 389, 81), (7, 393, 58), (7, 396, 16), (7, 399, 82), (7, 403, 83), (7, 406, 80), (7, 409, 84), (7, 413, 85), (7, 416, 86), (7, 419, 87), (7, 423, 89), (7, 426, 98), (7, 429, 99), (7, 432, 102), (7, 435, 101), (7, 438, 104), (7, 441, 106), (7, 444, 105), (7, 447, 112), (7, 457, 115), (7, 460, 114), (7, 463, 117), (7, 466, 123), (7, 472, 124), (7, 481, 125), (7, 488, 131), (5, 70, 139), (5, 74, 142), (5, 83, 145), (5, 87, 146), (5, 93, 151), (1, 40, 156), (4, 28, 152), (4, 32, 158), (2, 48, 161), (2, 52, 162), (2, 56, 163), (2, 60, 166), (2, 63, 164), (2, 66, 165), (2, 71, 256), (2, 77, 257), (2, 81, 167), (2, 85, 168), (2, 88, 169), (2, 104, 172), (2, 119, 175), (2, 126, 173), (2, 132, 170), (2, 135, 174), (2, 138, 153), (2, 142, 176), (2, 147, 178), (2, 151, 179), (2, 157, 180), (6, 68, 197), (6, 71, 253), (6, 78, 136), (6, 82, 134), (6, 86, 137), (6, 90, 135), (6, 93, 138), (6, 99, 185), (6, 103, 160), (6, 107, 171), (6, 118, 152), (6, 126, 177), (6, 137, 158), (6, 152, 218), (6, 156, 196), (6, 159, 147), (6, 163, 252), (6, 166, 145), (6, 175, 146), (6, 182, 248), (6, 189, 194), (6, 199, 233), (6, 203, 255), (6, 212, 133), (6, 223, 159), (6, 242, 201), (6, 245, 143), (6, 263, 144), (6, 266, 142), (6, 272, 206), (6, 276, 139), (6, 279, 214), (6, 285, 217), (6, 291, 251), (6, 295, 154), (6, 299, 222), (6, 303, 223), (6, 306, 224), (6, 309, 157), (6, 312, 226), (6, 315, 228), (6, 318, 227), (6, 321, 229), (6, 324, 231), (6, 327, 232), (6, 330, 234), (6, 334, 235), (6, 338, 149), (6, 341, 150), (6, 344, 236), (6, 348, 148), (6, 351, 155), (6, 355, 254), (6, 358, 140), (6, 361, 237), (6, 364, 242), (6, 367, 243), (6, 370, 246), (6, 374, 141), (11, 335, 258), (11, 492, 259), (11, 495, 261), (11, 1059, 262), (12, 9, 260), (8, 13, 181), (8, 17, 15), (8, 18, 182), (8, 22, 17), (8, 23, 183), (8, 27, 18), (8, 28, 189), (8, 32, 71), (8, 33, 190), (8, 37, 72), (8, 38, 191), (8, 41, 73), (8, 42, 192), (8, 45, 74), (8, 46, 193), (8, 49, 79), (8, 50, 195), (8, 53, 88), (8, 54, 184), (8, 58, 19), (8, 59, 186), (8, 63, 20), (8, 64, 187), (8, 67, 52), (8, 68, 188), (8, 71, 53), (8, 72, 200), (8, 75, 90), (8, 76, 202), (8, 79, 91), (8, 80, 203), (8, 83, 92), (8, 84, 204), (8, 87, 93), (8, 88, 216), (8, 91, 94), (8, 92, 221), (8, 95, 100), (8, 96, 225), (8, 99, 103), (8, 100, 238), (8, 104, 107), (8, 105, 239), (8, 108, 108), (8, 109, 241), (8, 112, 109), (8, 113, 210), (8, 116, 110), (8, 117, 212), (8, 120, 111), (8, 121, 213), (8, 124, 113), (8, 125, 244), (8, 129, 116), (8, 130, 245), (8, 133, 117), (8, 134, 219), (8, 137, 121), (8, 138, 220), (8, 141, 122), (8, 142, 230), (8, 145, 126), (8, 146, 211), (8, 149, 127), (8, 150, 240), (8, 153, 128), (8, 154, 249), (8, 157, 119), (8, 158, 250), (8, 161, 120), (8, 162, 247), (8, 165, 118), (8, 166, 207), (8, 169, 95), (8, 170, 208), (8, 173, 96), (8, 174, 209), (8, 177, 97), (8, 178, 215), (8, 181, 129), (8, 182, 198), (8, 186, 65), (8, 187, 199), (8, 191, 130), (8, 192, 205), (8, 195, 132)]
def am_xl : List (Nat × Nat) := [(6, 282)]
def am_nl : List (Nat × Nat) := [(5, 78), (6, 218)]
def am_ac : List (Nat × Nat) := [(5, 64), (1, 34), (3, 19), (6, 226)]
/-- how many a method takes, its own object too; what it answers (0 int, 1 boolean, 2 char, 3 byte, 9 nothing) -/
def am_na (j : Nat) : Nat := (57705898048068016873406147583081574666636399793991815648514831054008585740602878342677437209949679630149172838256079651753077411192124949020454343632199601686487116271550212710763958423145243406898689704026758698684865520624168617165696345240914442315079576157170609151010488773706179332846376729340483535925536895523 >>> (4 * j)) % 16
def am_rt (j : Nat) : Nat := (48740373621961767960398844018751749379834947479991599873878857742174266212211549987464017708301597520679481983243366152688472693321018929872065243454276666189979139192539754854857610590237565723442930708046938554112489284211678793462225355048171299981886541821835126094450311684317648389181990592815301495384418353153 >>> (4 * j)) % 16
/-- the bytes at bp hold this instruction, of this length; the next stands at nx -/
def am_d0 (cc : ByteArray) (bp : Nat) (ins : Jvm.ClassFile.Instr) (n : Nat) : Bool := decide (decode cc bp = .ok (ins, n))
def am_d1 (cc : ByteArray) (bp nx : Nat) (ins : Jvm.ClassFile.Instr) (n : Nat) : Bool := am_d0 cc bp ins n && Nat.beq nx (bp + n)
def am_off (ps : List Nat) (bp : Nat) (t : Int) : Int := (ps.getD t.toNat 0 : Int) - bp
def am_dec (own rt : Nat) (cc : ByteArray) (ps : List Nat) (bp nx : Nat) (ai : am_I) : Bool := match ai with
  | (.bipush v, a, b) => decide (am_in v) && (match a with
    | 0 => am_d1 cc bp nx (.iconst v) 1
    | 1 => am_d1 cc bp nx (.bipush v) 2 && decide ((Int8.ofInt v).toInt32 = Int32.ofInt v)
    | 2 => am_d1 cc bp nx (.sipush v) 3 && decide ((Int16.ofInt v).toInt32 = Int32.ofInt v)
    | 3 => am_d1 cc bp nx (.ldc b) 2 && am_kl.contains (own, b, v)
    | 4 => am_d1 cc bp nx (.ldc_w b) 3 && am_kl.contains (own, b, v)
    | _ => am_d1 cc bp nx (.getstatic b) 3 && decide (own = 11 ∧ b = 38 ∧ v = 1))
  | (.aload n, a, b) => (match a with
    | 0 => am_d1 cc bp nx (.ldc b) 2 && am_sl.contains (own, b, n)
    | 1 => am_d1 cc bp nx (.getstatic b) 3 && am_gl.contains (own, b, n)
    | _ => am_d1 cc bp nx (.getstatic b) 3 && decide (own = 11 ∧ b = 1053 ∧ n = 204))
  | (.iload n, kd, v) => (match kd, v with
    | 0, 0 => am_d1 cc bp nx (.iload_n (Fin.ofNat 4 n)) 1 && decide (n < 4)
    | 0, _ => am_d1 cc bp nx (.iload n) 2
    | _, 0 => am_d1 cc bp nx (.aload_n (Fin.ofNat 4 n)) 1 && decide (n < 4)
    | _, _ => am_d1 cc bp nx (.aload n) 2)
  | (.istore n, kd, v) => (match kd, v with
    | 0, 0 => am_d1 cc bp nx (.istore_n (Fin.ofNat 4 n)) 1 && decide (n < 4)
    | 0, _ => am_d1 cc bp nx (.istore n) 2
    | _, 0 => am_d1 cc bp nx (.astore_n (Fin.ofNat 4 n)) 1 && decide (n < 4)
    | _, _ => am_d1 cc bp nx (.astore n) 2)
  | (.iinc n c, _, _) => am_d1 cc bp nx (.iinc n c) 3
  | (.iadd, _, _) => am_d1 cc bp nx .iadd 1
  | (.isub, _, _) => am_d1 cc bp nx .isub 1
  | (.imul, _, _) => am_d1 cc bp nx .imul 1
  | (.idiv, _, _) => am_d1 cc bp nx .idiv 1
  | (.irem, _, _) => am_d1 cc bp nx .irem 1
  | (.ineg, _, _) => am_d1 cc bp nx .ineg 1
  | (.iand, _, _) => am_d1 cc bp nx .iand 1
  | (.ior, _, _) => am_d1 cc bp nx .ior 1
  | (.ixor, _, _) => am_d1 cc bp nx .ixor 1
  | (.ishl, _, _) => am_d1 cc bp nx .ishl 1
  | (.ishr, _, _) => am_d1 cc bp nx .ishr 1
  | (.iushr, _, _) => am_d1 cc bp nx .iushr 1
  | (.i2c, _, _) => am_d1 cc bp nx .i2c 1
  | (.dup, _, _) => am_d1 cc bp nx .dup 1
  | (.dup2, _, _) => am_d1 cc bp nx .dup2 1
  | (.pop, _, _) => am_d1 cc bp nx .pop 1
  | (.ifCond c t, _, _) => am_d1 cc bp nx (.ifCond c (am_off ps bp t)) 3
  | (.if_icmp c t, _, _) => am_d1 cc bp nx (.if_icmp c (am_off ps bp t)) 3
  | (.goto t, _, _) => am_d0 cc bp (.goto (am_off ps bp t)) 3
  | (.tableswitch d lo hi ts, len, _) => am_d0 cc bp (.tableswitch (am_off ps bp d) lo hi (ts.map (am_off ps bp))) len && decide (hi = lo + (ts.size : Int) - 1)
  | (.lookupswitch d ts, len, _) => am_d0 cc bp (.lookupswitch (am_off ps bp d) (ts.map (fun q => (q.1, am_off ps bp q.2)))) len && ((ts.toList.zip (ts.toList.drop 1)).all (fun (a, next) => a.1 < next.1))
  | (.getfield k, ci, b) => am_d1 cc bp nx (.getfield b) 3 && (match Nat.beq ci 8 with
    | true => decide (own = 11 ∧ b = 15 ∧ k = 0)
    | false => am_fl.contains (own, b, ci, k, 0))
  | (.checkcast k, ci, b) => am_d1 cc bp nx (.getfield b) 3 && (match Nat.beq ci 8 with
    | true => decide (own = 11 ∧ b = 9 ∧ k = 0)
    | false => am_fl.contains (own, b, ci, k, 1))
  | (.putfield k, ci, b) => am_d1 cc bp nx (.putfield (b / 2)) 3 && am_fp.contains (own, b, ci, k)
  | (.iaload, _, _) => am_d1 cc bp nx .iaload 1
  | (.caload, _, _) => am_d1 cc bp nx .caload 1
  | (.baload, _, _) => am_d1 cc bp nx .baload 1
  | (.aaload, _, _) => am_d1 cc bp nx .aaload 1
  | (.iastore, _, _) => am_d1 cc bp nx .iastore 1
  | (.castore, _, _) => am_d1 cc bp nx .castore 1
  | (.arraylength, _, _) => am_d1 cc bp nx .arraylength 1
  | (.ladd, b, _) => am_d1 cc bp nx (.invokestatic b) 3 && am_xl.contains (own, b)
  | (.lsub, b, _) => am_d1 cc bp nx (.invokestatic b) 3 && am_nl.contains (own, b)
  | (.lcmp, b, _) => am_d1 cc bp nx (.invokestatic b) 3 && am_ac.contains (own, b)
  | (.invokevirtual j, n, b) => (match Nat.beq (am_mc j) 15 with
    | true => am_d1 cc bp nx (.invokestatic (b / 2)) 3
    | false => am_d1 cc bp nx (.invokevirtual (b / 2)) 3) && am_mk.contains (own, b / 2, j) && Nat.beq n (am_na j) && Nat.beq (b % 2) (cond (Nat.beq (am_rt j) 9) 0 1)
  | (.ireturn, t, _) => am_d0 cc bp .ireturn 1 && Nat.beq t rt && Nat.ble rt 3
  | (.return_, _, _) => am_d0 cc bp .return_ 1 && Nat.beq rt 9
  | _ => true
def am_decs (own rt : Nat) (cc : ByteArray) (ps : List Nat) : List Nat → List am_I → Bool
  | bp :: nx :: r, ai :: c => am_dec own rt cc ps bp nx ai && am_decs own rt cc ps (nx :: r) c
  | [_], [] => true
  | _, _ => false
end
section
def am_p0 : List Nat := [0, 1, 2, 5, 6, 7, 10, 11, 14, 15, 16]
def am_p1 : List Nat := [0, 1, 2, 5, 6, 9, 10, 11]
def am_p2 : List Nat := [0, 1, 2, 5, 6, 9, 10, 11]
def am_p3 : List Nat := [0, 1, 4, 5, 6, 7, 8, 9, 10, 11, 12, 13]
def am_p4 : List Nat := [0, 1, 4, 5, 6, 7, 8, 9, 10, 11, 12, 13, 14]
def am_p5 : List Nat := [0, 1, 4, 6, 8, 9, 10, 11, 12, 13, 14, 15]
def am_p6 : List Nat := [0, 1, 4, 6, 8, 9, 10, 11, 12, 13, 14, 15, 16]
def am_p7 : List Nat := [0, 1, 4, 7, 8, 9, 10, 11, 12, 13, 14, 15]
def am_p8 : List Nat := [0, 1, 2, 3, 6, 9, 10, 11, 12, 15, 16]
def am_p9 : List Nat := [0, 1, 2, 3, 4, 7, 10, 11, 12, 13, 14, 17, 18]
def am_p10 : List Nat := [0, 1, 2, 3, 6, 7]
def am_p11 : List Nat := [0, 1, 2, 3, 6, 7]
def am_p12 : List Nat := [0, 1, 2, 3, 4, 5, 8, 11, 12, 13, 16, 17, 18, 20, 23, 24, 27, 28, 29, 32, 35, 36, 37]
def am_p13 : List Nat := [0, 1, 2, 3, 4]
def am_p14 : List Nat := [0, 1, 2, 5, 6]
def am_p15 : List Nat := [0, 1, 4, 5, 6, 7, 8, 11, 12, 13, 14, 15, 18, 19, 20]
def am_p16 : List Nat := [0, 1, 4, 5, 7, 8, 11, 12, 13, 14, 16, 17, 18, 19, 22, 23, 24, 26, 27, 28, 29, 30]
def am_p17 : List Nat := [0, 1, 2, 5, 8, 11, 12, 13, 14, 17, 20, 21, 24, 27, 28, 30, 33, 34, 35, 36, 39, 42, 43, 44, 45, 46, 47, 48, 51, 52, 53, 54, 55, 58, 59, 60, 61, 62, 65, 66, 69, 72, 73, 74, 75, 76, 77, 78, 79, 81, 83, 84, 85, 86, 87, 88, 91, 92, 94, 96, 98, 101, 102, 104, 106, 107, 110, 113, 116, 117, 119, 121, 122, 125, 128, 131, 132, 135, 138, 139, 140, 141, 142, 143, 144, 147, 148, 149]
def am_p18 : List Nat := [0, 1, 4, 5, 6, 9, 12, 13, 14, 17, 20, 23, 24, 25, 26, 27, 30, 33, 34, 35, 38, 39, 40, 43, 46, 47, 48, 49, 52, 55, 56, 59, 62, 63, 64, 65, 66, 69, 70, 71, 73, 76, 79, 80, 81, 84, 87, 88, 89, 91, 94, 97, 98, 99, 100, 101, 102, 103, 106, 109, 110, 112, 115, 116, 117, 120, 123, 124, 125, 127, 130, 133, 134, 135, 136, 137, 140, 143, 144, 145, 146, 149, 150, 151]
def am_p19 : List Nat := [0, 1, 4, 6, 7, 10, 13, 14, 15, 16, 18, 20, 22, 25, 27, 28, 31, 32, 35, 37, 39, 42, 43, 46, 48, 50, 53, 54, 57, 59, 61, 64, 66, 69, 71, 73, 74, 77, 78, 81, 83, 85, 87, 89, 90, 91, 92, 93, 94, 97, 98, 99, 100, 101, 104, 105, 106, 109, 112, 115, 116, 119, 120]
def am_p20 : List Nat := [0, 1, 2, 3, 6, 9, 12, 13, 14, 15, 16, 19, 20, 21]
def am_p21 : List Nat := [0, 1, 2, 5, 8, 9, 12, 13, 14, 17, 18, 19]
def am_p22 : List Nat := [0, 1, 3, 5, 8, 11, 12, 14, 16, 19, 22, 23, 26, 27, 28]
def am_p23 : List Nat := [0, 1, 3, 5, 8, 9]
def am_p24 : List Nat := [0, 1, 4, 5, 8, 9, 10, 13, 16, 17, 20, 21, 22, 23, 24, 25, 26, 29, 32, 33, 36, 37, 40, 41, 44, 45, 46, 47, 48, 49, 52, 55, 56, 59, 60, 61, 64, 67, 68, 69]
def am_p25 : List Nat := [0, 1, 3, 6, 9, 11, 12, 13, 15, 18, 21, 23, 24, 25, 27, 30, 33, 35, 36, 37, 39, 42, 45, 47, 50, 51, 52]
def am_p26 : List Nat := [0, 1, 3, 6, 9, 11, 12, 13, 15, 18, 21, 23, 24, 25, 27, 30, 33, 35, 36, 37, 39, 42, 45, 47, 48, 49, 51, 54, 57, 59, 60, 61, 63, 66, 69, 71, 72, 73, 75, 78, 81, 83, 84, 85, 87, 90, 93, 95, 98, 99, 102, 103]
def am_p27 : List Nat := [0, 1, 3, 6, 9, 11, 12, 13, 15, 18, 21, 23, 24, 25, 27, 30, 33, 35, 36, 37, 39, 42, 45, 47, 48, 49, 51, 54, 57, 59, 60, 61, 63, 66, 69, 71, 72, 73, 75, 78, 81, 83, 84, 85, 87, 90, 93, 95, 96, 97, 99, 102, 105, 107, 110, 111, 114, 115]
def am_p28 : List Nat := [0, 1, 3, 6, 9, 11, 12, 13, 15, 18, 21, 23, 24, 25, 27, 30, 33, 35, 36, 37, 39, 42, 45, 47, 48, 49, 51, 54, 57, 59, 60, 61, 63, 66, 69, 71, 72, 73, 75, 78, 81, 83, 86, 87, 90, 91]
def am_p29 : List Nat := [0, 1, 3, 6, 9, 11, 12, 13, 15, 18, 21, 23, 24, 25, 27, 30, 33, 35, 36, 37, 39, 42, 45, 47, 48, 49, 51, 54, 57, 59, 62, 63, 64]
def am_p30 : List Nat := [0, 1, 3, 6, 9, 11, 12, 13, 15, 18, 21, 23, 24, 25, 27, 30, 33, 35, 36, 37, 39, 42, 45, 47, 50, 51, 52]
def am_p31 : List Nat := [0, 1, 4, 5, 8, 9, 12, 13, 14, 17, 18, 21, 22, 25, 26, 27, 29, 32, 35, 36, 37, 38, 40, 43, 46, 47, 48, 49, 51, 54, 57, 58, 59, 60, 62, 65, 68, 70, 71, 72, 75, 78, 79, 82, 85, 86, 89, 90, 93, 94, 97, 100, 101, 104, 105]
def am_p32 : List Nat := [0, 1, 2, 5, 8, 10, 13, 14, 15, 18, 21, 23, 26, 27, 28, 31, 32, 33, 36, 39, 40, 41, 44, 47, 48, 49, 52, 55, 56, 57, 58, 61, 62, 63, 66, 69, 70, 73, 76, 77, 78, 81, 84, 87, 90, 91, 92, 95, 96, 97, 100, 103, 104, 105, 108, 111, 114, 115, 118, 121, 122, 123, 126, 127, 128, 131, 134, 137, 140, 141, 144, 145, 148, 149, 150, 153, 154, 156, 157, 160, 161, 162, 163, 166, 169, 170, 172, 173, 176, 177, 178, 181, 182, 183, 186, 189, 190, 191, 194, 195, 198, 199, 200, 203, 204, 207, 208, 211, 214, 215, 216, 219, 220, 221, 224, 225, 227, 230, 231, 233, 236, 237, 239, 242, 243, 245, 248, 249, 251, 254, 255, 257, 260, 261, 263, 266, 267, 269, 272, 273, 275, 278, 279, 281, 284, 285, 288, 289, 290, 291, 292, 295, 297, 298, 299, 302, 303, 306, 307]
def am_p33 : List Nat := [0, 1, 2, 5, 6, 7, 10, 13, 14, 15]
def am_p34 : List Nat := [0, 1, 4, 5, 8, 9, 10, 13, 14, 15, 18, 19, 20]
def am_p35 : List Nat := [0, 1, 4, 5, 6, 9, 10, 11, 12, 13, 16, 17, 18, 21, 22, 23, 24, 25, 26, 27, 28, 31, 32, 33, 36, 37]
def am_p36 : List Nat := [0, 1, 4, 6, 9, 10, 11, 14, 15, 16, 17, 20, 21, 22, 25, 26, 29, 30, 31]
def am_p37 : List Nat := [0, 1, 4, 7, 8, 9, 10, 13, 16, 19, 20, 23, 26, 29, 30, 33, 36, 39, 41, 44, 46, 47, 48, 51, 52, 55, 58, 59, 60, 61, 62, 63, 66, 69, 70, 71]
def am_p38 : List Nat := [0, 1, 4, 7, 8, 9, 10, 13, 16, 19, 20, 23, 26, 29, 30, 33, 36, 39, 40, 43, 44, 45, 46, 49, 50, 53, 54, 57, 58, 59, 62, 63, 66, 67, 68, 71, 72, 73, 76, 77, 78, 81, 82, 83, 86, 87, 89, 90, 93, 96, 97, 100, 103, 104, 105, 106, 108, 109, 112, 115, 116, 117]
def am_p39 : List Nat := [0, 1, 4, 6, 8, 11, 12, 13, 16, 17, 20, 21, 24, 25, 26, 29, 30, 31, 32, 35, 36, 39, 41, 42, 45, 46, 47, 50, 53, 54, 57, 58, 59]
def am_p40 : List Nat := [0, 1, 4, 7, 8, 9, 10, 13, 14, 17, 18, 21, 22, 25, 28, 29, 30, 31, 33, 34, 37, 40, 41, 42]
def am_p41 : List Nat := [0, 1, 4, 7, 8, 9, 10, 13, 14, 17, 18, 21, 22, 25, 28, 29, 30, 31, 33, 34, 37, 40, 41, 42]
def am_p42 : List Nat := [0, 1, 4, 6, 9, 10, 13, 16, 17, 20, 23, 24, 25, 26, 27, 30, 31, 32, 35, 36, 38, 39, 42, 43, 44, 45, 48, 51, 54, 55, 58, 61, 62, 65, 68, 69, 72, 75, 78, 79, 80, 81, 82, 85, 86, 87, 90, 91, 92, 93, 96, 99, 100, 101, 102, 105, 108, 111, 113, 116, 117, 120, 123, 126, 128, 131, 132, 135, 138, 141, 143, 146, 147, 148, 149, 150, 153, 154, 155, 158, 159, 160, 163, 164, 167, 170, 171, 172, 173, 174, 175, 178, 179, 180]
def am_p43 : List Nat := [0, 1, 4, 6, 8, 11, 14, 15, 16, 19, 20, 21, 24, 26, 29, 30, 31, 34, 35, 36, 37, 40, 41, 44, 45, 46, 49, 50, 51, 52, 53, 56, 57, 58, 61, 62, 65, 66, 67, 70, 71, 72, 75, 76, 77, 80, 81, 84, 85, 88, 91, 92, 93, 94, 97, 98, 99, 102, 103, 104, 105, 106, 109, 110, 111, 114, 115, 118, 119, 122, 123, 126, 129, 130, 131, 132, 135, 136, 137, 140, 141, 142, 143, 144, 147, 148, 149, 152, 155, 156]
def am_p44 : List Nat := [0, 1, 2, 5, 6, 7, 10, 11, 12, 13, 16, 17, 20, 23, 24, 27, 28, 29, 30, 33, 34, 37, 38, 41, 42, 43, 46, 49, 50, 51]
def am_p45 : List Nat := [0, 1, 4, 5, 8, 9, 10, 13, 14, 15, 18, 19, 20, 23, 26, 27, 28, 31, 32, 33, 34, 37, 40, 41, 44, 45, 46]
def am_p46 : List Nat := [0, 1, 2, 5, 8, 9, 10, 12, 15, 18, 19, 20, 21, 24, 25, 26, 29, 30, 31, 32]
def am_p47 : List Nat := [0, 1, 2, 5, 6, 7, 8, 9, 11, 12, 13, 14, 17, 20, 21, 22, 23, 24, 27, 30, 31, 32, 33, 34, 36, 37, 38, 41, 44, 45, 46, 47, 50, 53, 54, 55, 56, 57, 59, 60, 63, 66, 69, 70, 71, 72, 73, 75, 76, 78, 81, 84, 85, 86, 87, 90, 91, 92, 93, 94, 95, 96, 99, 101, 104, 105, 106, 107, 108, 110, 111, 113, 116, 119, 120, 123, 126, 129, 130, 133, 134, 135]
def am_p48 : List Nat := [0, 1, 2, 5, 6, 7, 8, 9, 11, 12, 13, 16, 19, 20, 21, 22, 23, 25, 26, 28, 31, 34, 35, 36, 37, 38, 40, 41, 43, 46, 49, 50, 51, 52, 55, 56, 57, 58, 59, 62, 64, 67, 68, 71, 72, 73, 74, 77, 79, 82, 83, 86, 87, 90, 93, 94]
def am_p49 : List Nat := [0, 1, 2, 5, 6, 7, 8, 11, 12, 15, 18, 19, 22, 23, 26, 27, 30, 32, 35, 37, 40, 41, 42, 45, 46, 47, 50, 51, 54, 55, 58, 60, 63, 65, 68, 69, 70, 73, 74, 75, 78, 79, 82, 83, 86, 89, 90, 93, 94, 95, 96, 99, 100, 103, 104, 107, 108, 109, 112, 115, 116, 117]
def am_p50 : List Nat := [0, 1, 4, 7, 8, 9, 10, 13, 14, 15, 16, 17, 18, 21, 24, 25, 28, 31, 33, 34, 35, 36, 37, 38, 39, 42, 43, 44, 45, 46, 47, 48, 51, 54, 56, 57, 58, 59, 60, 61, 62, 65, 66, 67, 68, 69, 70, 71, 72, 73, 76, 79, 81, 82, 83, 84, 85, 86, 87, 90, 91, 92, 93, 94, 95, 96, 97, 98, 101, 104, 106, 107, 108, 109, 110, 111, 112, 115, 116, 117, 118, 119, 120, 121, 122, 125, 128, 129, 130, 131, 132, 133, 136, 137, 140, 141, 144, 147, 150, 151, 152, 153, 154, 155, 156, 159, 160, 161, 162, 165, 168, 169, 172, 173]
def am_p51 : List Nat := [0, 1, 4, 5, 8, 9, 12, 13, 14, 15, 18, 19, 22, 25, 28, 31, 32, 35, 36, 37, 38, 39, 40, 43, 44, 47, 48, 49, 52, 53, 56, 57, 60, 61, 64, 67, 70, 73, 74, 75, 76, 79, 80, 81, 82, 85, 88, 89, 92, 93, 96, 97, 100, 101]
def am_p52 : List Nat := [0, 1, 2, 5, 6, 7, 10, 11, 12, 13, 16, 19, 20, 21, 24, 25, 26, 27, 28, 31, 32, 33, 36, 37, 38, 41, 42, 45, 46, 47, 50, 51, 54, 57, 58, 61, 62, 63, 64, 67, 68, 71, 72, 73, 76, 77, 78, 81, 84, 85, 88, 89, 90, 91, 94, 97, 98, 99, 102, 105, 106, 107]
def am_p53 : List Nat := [0, 1, 4, 5, 8, 11, 12, 13, 16, 17, 20, 23, 24, 25]
def am_p54 : List Nat := [0, 1, 52, 53, 54, 55, 56, 57, 58, 59, 60, 61, 62, 63, 64, 65, 66, 69, 70, 73, 74, 75, 76, 77, 80, 81, 84, 85, 86, 87, 88, 91, 92, 95, 96, 97, 98, 99, 100, 101, 102, 103, 104, 105]
def am_p55 : List Nat := [0, 1, 3, 4, 6, 8, 9, 12, 13, 16, 19, 22, 23, 24, 25, 26, 28, 29, 30, 31, 33, 34, 37, 40, 43, 44, 45, 46, 47, 49, 50, 51, 52, 53, 54, 56, 58, 60, 63, 64, 67, 69, 71, 74, 76, 79, 80, 83, 85, 86, 87, 90, 93, 95, 97, 100, 101, 104, 106, 107, 108, 109, 110, 112, 113, 114, 117, 119, 121, 124, 125, 128, 130, 131, 132, 133, 134, 137, 139, 140, 141, 142, 143, 144, 147, 150, 151, 154, 156, 157, 158, 160, 161, 164, 166, 167, 168, 169, 170, 173, 175, 176, 179, 180, 183, 186, 187, 190, 191, 192, 193]
def am_p56 : List Nat := [0, 1, 4, 7, 9, 10, 11, 12, 13, 14, 15, 16, 19, 22, 24, 25, 26, 27, 28, 29, 30, 33, 34, 35, 36, 39, 42, 44, 45, 46, 47, 48, 49, 50, 51, 54, 57, 59, 60, 61, 62, 63, 64, 65, 68, 69, 72, 73, 76, 77, 78]
def am_p57 : List Nat := [0, 1, 2, 3, 4, 7, 10, 11, 12, 13, 16, 17, 18, 19, 22, 25, 26, 29, 32, 34, 35, 36, 37, 38, 39, 40, 41, 44, 47, 48, 49]
def am_p58 : List Nat := [0, 1, 2, 3, 4, 7, 10, 11, 14, 15, 18, 21, 22, 23, 24, 25, 28, 29, 30, 31, 34, 37, 38, 39, 40, 41, 42, 45, 48, 49, 50, 51, 52, 55, 58, 59, 60, 61, 64, 67, 70, 71, 74, 77, 78, 79]
def am_p59 : List Nat := [0, 1, 2, 3, 4, 5, 6, 9, 10, 11, 12, 13, 14, 15, 18, 21, 22, 25, 28, 29, 30]
def am_p60 : List Nat := [0, 1, 2, 3, 4, 5, 6, 9, 10, 11, 14, 15, 16, 17, 18, 21, 22, 25, 26, 29, 30, 31, 32, 35, 38, 39, 40]
def am_p61 : List Nat := [0, 1, 4, 5, 6, 7, 8, 9, 10, 13, 14, 15, 16, 19, 20, 23, 24, 25, 28, 31, 32, 33]
def am_p62 : List Nat := [0, 1, 4, 5, 6, 7, 8, 9, 10, 11, 12, 15, 16, 17, 18, 21, 22, 23, 26, 27, 28, 29, 30, 33, 34, 35, 38, 39, 40, 41, 42, 45, 46, 47, 50, 52, 53, 54, 56, 59, 60, 61, 64, 66, 67, 70, 71, 74, 75, 78, 79, 80, 81, 84, 86, 87, 90, 93, 94, 95, 96, 97, 98]
def am_p63 : List Nat := [0, 1, 2, 3, 6, 7, 10, 11, 12, 13, 14, 17, 19, 21, 22, 23, 26, 28, 29, 30, 31, 34, 35, 36, 39, 41, 42, 43, 46, 47, 48, 49, 51, 54, 56, 59, 60, 63, 64, 65]
def am_p64 : List Nat := [0, 1, 4, 6, 9, 10, 11, 12, 15, 18, 19, 22, 23, 24, 27, 28, 31, 32, 33, 34, 37, 40, 41, 42, 45, 46, 47, 50, 51, 52, 53, 56, 59, 60, 63, 66, 67, 70, 71, 72, 73, 74, 77, 78, 79, 80, 83, 86, 87, 88, 91, 92, 93, 96, 97]
def am_p65 : List Nat := [0, 1, 4, 7, 8, 9, 10, 11, 14, 15, 16, 19, 20, 21, 22, 25, 28, 29, 32, 33, 34, 37, 40, 41, 44, 45, 46, 47, 48, 49, 52, 55, 56, 57]
def am_p66 : List Nat := [0, 1, 2, 4, 5, 8, 9, 10, 12, 13, 16, 17]
def am_p67 : List Nat := [0, 1, 2, 4, 7, 10, 11, 12, 14, 17, 20, 21, 24, 25, 26]
def am_p68 : List Nat := [0, 1, 2, 5, 8, 9, 10, 13, 16, 17, 19, 22, 25, 26, 29, 30, 31, 33, 36, 37, 38, 40, 43, 44, 47, 48, 49, 51, 54, 55, 58, 59, 60, 61, 62, 65, 67, 69, 70, 73, 74, 77, 78, 79, 80, 81, 82, 84, 85, 88, 91, 92, 93, 94, 95, 96, 99, 100, 102, 103, 106, 107, 108, 109, 110, 112, 115, 118, 119, 122, 123, 124]
def am_p69 : List Nat := [0, 1, 2, 3, 6, 7, 8, 9, 10, 11, 12, 15, 16, 19, 22, 23]
def am_p70 : List Nat := [0, 1, 2, 4, 7, 9, 12, 13, 14, 17, 18, 19, 20, 21, 23, 24, 27, 29, 30, 31, 32, 33, 34, 37, 39, 40, 41, 43, 44, 45, 48, 50, 51, 52, 53, 54, 55, 58, 60, 61, 62, 63, 66, 67, 68, 69, 70, 71, 72, 75, 77, 78, 79, 81, 82, 83, 86, 87, 88, 89, 90, 91, 92, 93, 94, 95, 96, 98, 99, 102, 103, 105, 106, 108, 109, 112, 113, 114, 115, 116, 117, 120, 122, 124, 125, 128, 129, 131, 132, 135, 136, 137, 138, 141, 142, 145, 146, 147, 148, 149, 150]
def am_p71 : List Nat := [0, 1, 2, 3, 4, 6, 9, 12, 13, 14, 15, 18, 19, 20, 21, 22, 24, 27, 28]
def am_p72 : List Nat := [0, 1, 2, 5, 8, 9, 12, 15, 16, 17, 18, 21, 22, 23, 24, 25, 26, 29, 30, 31, 32, 35, 36, 37, 38, 39, 40, 41, 42, 45, 46, 47]
def am_p73 : List Nat := [0, 1, 2, 5, 8, 9, 12, 15, 16, 17, 18, 21, 22, 25, 26, 27, 28, 29, 30, 31, 33, 36, 37, 40, 41, 42, 43, 46, 47, 48, 49, 50, 51, 52, 53, 56, 57, 58]
def am_p74 : List Nat := [0, 1, 2, 5, 8, 9, 10, 13, 14, 17, 20, 21, 22, 23, 26, 27, 28, 29, 30, 33, 34, 35]
def am_p75 : List Nat := [0, 1, 4, 5, 6, 8, 11, 12, 15, 16, 17, 20, 21, 22, 23, 24, 26, 27, 30, 32, 33, 36, 37, 38, 39, 40, 43, 45, 46, 47, 48, 49, 50, 53, 55, 56, 57, 58, 59, 60, 63, 65, 66, 67, 68, 69, 70, 73, 74, 75, 76, 77, 78, 79, 80]
def am_p76 : List Nat := [0, 1, 2, 3, 4, 5, 6, 9, 10, 11, 14, 15]
def am_p77 : List Nat := [0, 1, 2, 5, 8, 9, 12, 15, 16, 17, 18, 21, 22, 25, 26, 29, 30, 31]
def am_p78 : List Nat := [0, 1, 2, 3, 6, 8, 9, 11, 14, 16, 17, 19, 20, 23, 24, 27, 29, 30, 31, 32, 33, 34, 35, 38, 40, 42, 43, 46, 47, 50, 51, 53, 54, 57, 58, 59, 60, 62, 65, 67, 68, 69]
def am_p79 : List Nat := [0, 1, 2, 3, 6, 9, 10, 11, 12, 15, 16, 17, 18, 21, 22, 23, 24, 25, 26, 29, 31, 33, 36, 38, 39, 42, 43, 44, 47, 50, 52, 53, 56, 58, 59, 62, 63, 64, 67, 68, 69, 70, 72, 75, 77, 78]
def am_p80 : List Nat := [0, 1, 2, 3, 4, 5, 6, 9, 12, 13, 16, 19, 20, 21, 22, 23, 24, 25, 28, 29, 30, 31, 32, 33, 36, 37, 38, 41, 44, 45, 46, 49, 50, 51, 52, 55, 56, 57, 58, 59, 60, 63, 64, 65, 66, 67, 68, 71, 72, 73, 74, 75, 78, 81, 82, 83, 86, 87, 88, 89, 92, 93, 94, 95, 96, 97, 100, 101, 102, 103, 104, 105, 108, 109, 110, 111, 112, 115, 116, 119, 120, 123, 124, 127, 128, 129, 132, 133, 134, 137, 138, 139, 142, 145, 148, 151, 152, 153]
def am_p81 : List Nat := [0, 1, 2, 3, 6, 7, 10, 12, 14, 15, 16, 19, 21, 22, 23, 24, 27, 29, 30, 33, 34, 35, 36, 37]
def am_p82 : List Nat := [0, 1, 2, 3, 6, 8, 9, 10, 11, 13, 14, 15, 16, 18, 19, 22, 25, 26, 28, 30, 33, 35, 36, 38, 40, 43, 45, 46, 48, 50, 53, 55, 56, 59, 60, 62, 65, 68, 71, 72, 74, 75, 76, 77, 79, 80, 82, 83, 84, 85, 87, 88, 91, 93, 94, 97, 100, 101, 102, 103, 105, 106, 107, 108, 111, 113, 114, 117, 120, 121, 122, 124, 127, 129, 132, 133, 136, 139, 141, 144, 145, 146, 147, 149, 150, 151, 152, 155, 156, 157, 160, 163, 164]
def am_p83 : List Nat := [0, 1, 2, 3, 6, 7, 8, 9, 10, 13, 14, 15, 16, 17, 20, 22, 23, 24, 25, 27, 28, 29, 31, 32, 35, 36, 37, 38, 39, 41, 44, 45, 48, 49, 52, 53, 56, 57, 59, 60, 62, 63, 65, 66, 68, 70, 73, 74, 77, 78, 80, 82, 85, 86, 89, 90, 92, 94, 97, 100, 101, 102, 103, 104, 106, 108, 111, 112, 113, 116, 117, 118, 119, 120, 121, 122, 125, 126, 129, 131, 132, 135, 137, 138, 139, 140, 141, 144, 147, 148, 151, 152, 153, 154, 155, 156, 157, 158]
def am_p84 : List Nat := [0, 1, 2, 3, 4, 7, 8, 9, 10, 13, 15, 17, 18, 21, 22, 23, 25, 26, 29, 32, 35, 36]
def am_p85 : List Nat := [0, 1, 2, 3, 4, 5, 8, 11, 12, 13, 16, 17, 18, 20, 23, 24, 25, 26, 29, 32, 33, 34, 36, 37, 38, 40, 43, 44, 45, 48, 49, 50, 52, 53, 54, 56, 59, 60, 61, 62, 63, 66, 69, 72, 73]
def am_p86 : List Nat := [0, 1, 4, 5, 6, 7, 8, 9, 10, 13, 14, 15, 16, 19, 20, 23, 24, 25, 28, 29, 30, 33, 36, 39, 40]
def am_p87 : List Nat := [0, 1, 4, 5, 6, 7, 8, 9, 12, 15, 16, 19, 20, 21, 22, 25, 26, 29, 30, 31, 32, 35, 38, 41, 42, 45, 46, 49, 50, 51, 52, 53, 54, 55, 56, 59, 60, 61]
def am_p88 : List Nat := [0, 1, 2, 4, 7, 10, 11, 14, 15, 16, 17, 18, 21, 24, 25, 26, 27, 28, 29, 30, 31, 32, 35, 36, 39, 40, 41, 42, 45, 46, 47, 50, 53, 54, 55]
def am_p89 : List Nat := [0, 1, 2, 3, 5, 7, 9, 12, 13, 14, 15, 18, 20, 22, 23, 26, 27, 28, 30, 33, 34, 35, 36, 39, 41, 42, 45, 48, 49, 50]
def am_p90 : List Nat := [0, 1, 2, 5, 8, 10, 11, 12, 60, 61, 62, 63, 66, 67, 68, 71, 74, 75, 76, 77, 78, 79, 80, 81, 84, 85, 86, 87, 88, 91, 92, 93, 94, 95, 98, 99, 100, 101, 102, 105, 106, 107, 108, 109, 112, 113, 114, 115, 116, 119, 120, 122, 123]
def am_p91 : List Nat := [0, 1, 2, 5, 8, 9, 10, 12, 15, 18, 20, 21, 22, 24, 27, 28, 29, 30, 33, 34, 35, 37, 40, 41, 42, 45, 46, 47, 48, 51, 52, 53, 54, 57, 58, 61, 62, 63, 64, 67, 68]
def am_p92 : List Nat := [0, 1, 2, 3, 6, 7, 8, 9, 10, 13, 16, 17, 18, 19, 22, 25, 26, 27, 28, 31, 34, 35, 36]
def am_p93 : List Nat := [0, 1, 2, 3, 6, 7, 8, 9, 10, 13, 16, 17, 18, 19, 22, 25, 26, 29, 32, 33, 34, 35, 36, 37, 38, 39, 42, 43, 44]
def am_p94 : List Nat := [0, 1, 2, 5, 8, 9, 10, 13, 16, 17, 19, 22, 25, 26, 27, 28, 29, 30, 31, 33, 36, 39, 40, 43, 44, 45]
def am_p95 : List Nat := [0, 1, 2, 5, 8, 9, 10, 11, 12, 15, 16, 17, 20, 23, 24, 25, 26, 27, 28, 30, 31, 33, 34, 37, 38, 41, 42, 43, 46, 47, 48, 50, 51, 54, 55, 58, 59, 62, 63, 64, 65, 68, 71, 72, 74, 75, 78, 79]
def am_p96 : List Nat := [0, 1, 2, 5, 8, 9, 10, 11, 14, 17, 18, 19, 20, 21, 22, 24, 26, 27, 30, 31, 32, 35, 36, 37, 39, 40, 43, 44, 47, 48, 51, 52, 55, 56, 57, 59, 60, 63, 64, 67, 68, 69, 70, 73, 76, 77, 78]
def am_p97 : List Nat := [0, 1, 2, 3, 4, 5, 6, 7, 10, 13, 14, 15, 18, 19, 20, 22, 25, 26, 29, 32, 33, 34, 37, 38, 39, 40, 43, 44, 45, 46, 49, 52, 53, 54, 57, 60, 61, 62]
def am_p98 : List Nat := [0, 1, 2, 3, 6, 8, 10, 11, 14, 15, 17, 18, 19, 20, 23, 25, 28, 29, 32, 33, 34]
def am_p99 : List Nat := [0, 3, 4, 5, 6, 7, 8, 9, 10, 11, 12, 15, 16, 17, 18, 21, 22, 23, 24, 25, 28, 30, 31, 32, 33, 34, 37, 38, 39, 40, 43, 44, 45, 46, 47, 50, 52, 53, 56, 57, 58, 59, 60, 61, 64, 66, 69, 71, 74, 75, 78, 79, 82, 84, 87, 89, 92, 93, 96, 97, 98]
def am_p100 : List Nat := [0, 1, 2, 5, 8, 9, 10, 11, 14, 17, 18, 19, 20, 23, 26, 27, 28, 29, 30, 31, 34, 37, 38, 41, 42, 43]
def am_p101 : List Nat := [0, 1, 2, 5, 8, 9, 10, 11, 12, 13, 14, 15, 18, 19, 22, 25, 26, 29, 32, 33, 34, 35, 36, 37, 38, 41, 44, 45, 48, 51, 52, 53, 54, 55, 56, 59, 60, 61, 62, 63, 66, 67, 70, 73, 74, 75, 76, 77, 78, 79, 80, 82, 83, 85, 87, 88, 91, 94, 95, 98, 99, 101, 102, 103, 104, 107, 108, 110, 111, 114, 117, 119, 120, 123, 126, 127, 128, 129, 130, 131, 132, 133, 134, 137, 140, 141, 142, 143, 144, 145, 146, 148, 149, 150, 151, 152, 153, 156, 158, 161, 164, 165, 168, 171, 172, 173, 174, 175, 177, 178, 181, 184, 187, 190, 191, 192, 193, 194, 195, 196, 199, 202, 203, 206, 207, 210, 211, 212, 213, 214, 217, 218, 219, 220, 223, 224, 225, 226, 229, 230, 233, 234, 235, 238, 239, 240, 241, 242, 243, 246, 249, 250]
def am_p102 : List Nat := [0, 1, 4, 7, 8, 9, 10, 11, 12, 13, 14, 17, 20, 21, 22, 23, 24, 25, 26, 27, 28, 31, 32, 33, 34, 36, 37, 39, 40, 41, 42, 43, 46, 47, 49, 50, 53, 56, 57, 60, 63, 64, 65, 66, 67, 68, 69, 70, 71, 74, 77, 78, 79, 80, 81, 82, 83, 85, 86, 87, 88, 89, 90, 91, 94, 97, 100, 102, 103]
def am_p103 : List Nat := [0, 1, 4, 5, 7, 9, 10, 13, 16, 17, 18, 21, 24, 25, 26, 27, 30, 31, 34, 35, 38, 39, 40, 43, 44, 47, 48, 50, 51, 52, 53]
def am_p104 : List Nat := [0, 1, 2, 3, 6, 9, 10, 13, 14, 15, 18, 19, 20, 21, 24, 27, 28]
def am_p105 : List Nat := [0, 1, 2, 3, 6, 9, 10, 13, 14, 15, 18, 19, 20, 21, 24, 27, 28]
def am_p106 : List Nat := [0, 1, 2, 3, 4, 5, 8, 11, 12, 13, 16, 17, 18, 20, 23, 24, 27, 30, 31, 32, 35, 38, 39, 40]
def am_p107 : List Nat := [0, 1, 4, 5, 6, 7, 8, 9, 12, 15, 16, 17, 20, 21, 24, 27, 28, 31, 32, 33, 34, 37, 38, 39, 42, 43, 46, 49, 50, 53, 54, 55]
def am_p108 : List Nat := [0, 1, 2, 5, 8, 9, 10, 13, 16, 19, 21, 22, 23, 26, 27, 28, 29, 30, 33, 34, 35, 38, 39, 42, 45, 46, 47, 49, 52, 53, 54, 57, 58, 59]
def am_p109 : List Nat := [0, 1, 2, 3, 6, 9, 10, 11, 12, 15, 16, 17, 20, 21, 22, 25, 26, 27, 28, 31, 34, 35, 38, 39, 42, 43, 44, 47, 48, 51, 54, 55, 58, 59, 62, 63, 66, 69, 70, 73, 74]
def am_p110 : List Nat := [0, 1, 2, 3, 4, 5, 6, 9, 12, 13, 16, 17, 18, 19, 20, 21, 23, 26, 27, 30, 31, 32, 33, 34, 35, 36, 38, 41, 42, 45, 46, 47, 48, 51, 52, 53, 54, 57, 60, 61, 62]
def am_p111 : List Nat := [0, 1, 2, 3, 4, 7, 10, 11, 12, 13, 14, 17, 20, 21, 22, 23, 24, 25, 26, 27, 28, 29, 32, 35, 36, 37, 40, 41, 42, 43, 44, 46, 49, 50, 51, 52, 55, 56, 57, 58, 61, 62, 63, 64, 67, 70, 71, 72]
def am_p112 : List Nat := [0, 1, 2, 3, 4, 5, 7, 10, 11, 12, 13, 14, 15, 16, 17, 18, 21, 24, 25, 26]
def am_p113 : List Nat := [0, 1, 2, 3, 4, 5, 8, 11, 12, 13, 14, 15, 16, 19, 22, 23, 26, 27, 30, 31, 32, 33, 34, 36, 37, 38, 40, 42, 43, 46, 49, 50, 53, 54, 56, 57, 59, 61, 63, 66, 68, 69, 71, 72, 73, 74, 75, 78, 79, 81, 83, 86, 88, 89, 90, 91, 92, 95, 96, 99, 100, 101, 103, 106, 109, 111, 112, 115, 117, 118, 121, 123, 125, 126, 129, 132, 134, 135, 137, 138, 141, 144, 145, 146]
def am_p114 : List Nat := [0, 1, 2, 4, 7, 9, 10, 11, 12, 13, 14, 17, 19, 20, 21, 22, 25, 27, 28, 31, 34, 35, 37, 39, 40, 43, 44, 45, 47, 48, 50, 53, 54, 57, 58, 60, 61, 62, 65, 67, 68, 69, 71, 74, 76, 77, 78, 79, 82, 84, 85, 88, 89, 90, 92, 93, 94, 95, 97, 99, 102, 104, 105, 107, 109, 112, 114, 115, 116, 119, 122, 123, 125, 128, 131, 132, 133, 136, 137, 140, 142, 144, 146, 147, 150, 152, 154, 156, 158, 159, 162, 164, 167, 170, 171, 173, 176, 177]
def am_p115 : List Nat := [0, 1, 2, 5, 8, 9, 10, 12, 15, 16, 19, 20, 23, 26, 27, 28, 30, 33, 36, 37, 40, 41, 42]
def am_p116 : List Nat := [0, 1, 2, 3, 4, 7, 10, 11, 12, 13, 14, 15, 16, 19, 20, 23, 24]
def am_p117 : List Nat := [0, 1, 2, 3, 4, 7, 10, 11, 12, 13, 14, 15, 16, 19, 20, 23, 24]
def am_p118 : List Nat := [0, 1, 4, 7, 8, 9, 11, 14, 17, 18, 19, 20, 21, 22, 24, 26, 27, 28, 31, 34, 35, 36, 39, 40, 42, 44, 47, 48, 51, 52, 55, 56, 58, 59, 60, 63, 64, 65, 66, 69, 72, 73, 74]
def am_p119 : List Nat := [0, 1, 2, 3, 6, 9, 10, 11, 13, 16, 19, 20, 21, 22, 23, 26, 29, 30, 31]
def am_p120 : List Nat := [0, 1, 2, 3, 6, 9, 10, 11, 12, 13, 14, 16, 19, 20, 21, 22, 23, 26, 27, 28, 29, 30, 33, 36, 37, 38, 41, 44, 45, 46]
def am_p121 : List Nat := [0, 1, 2, 5, 8, 9, 12, 15, 17, 18, 20, 23, 26, 27, 28, 29, 31, 33, 34, 35, 38, 41, 42, 43, 46, 47, 49, 50, 51, 52, 55, 56, 59, 60, 62, 63, 65, 66, 69, 72, 74, 75, 78, 81, 82, 83]
def am_p122 : List Nat := [0, 2, 4, 6, 9, 10, 11, 12, 13, 15, 18, 21, 23, 24, 27, 30, 31, 32]
def am_p123 : List Nat := [0, 1, 2, 5, 6, 7, 8, 9, 10, 11, 12, 15, 18, 19, 20, 21, 22, 23, 24, 25, 28, 29, 30, 31]
def am_p124 : List Nat := [0, 1, 4, 5, 6, 7, 10, 13, 14, 16, 17, 20, 23, 24, 25, 26, 29, 32, 33, 36, 37, 39, 40, 43, 45, 46]
def am_p125 : List Nat := [0, 1, 2, 5, 7, 8, 9, 10, 11, 14, 17, 18, 19, 22, 23, 25, 27, 28, 29, 32, 35, 36, 37, 40, 41, 44, 45, 48, 49, 51, 53, 54, 57, 58, 61, 62, 64, 65, 68, 69, 72, 73, 74, 76, 77, 80, 81, 84, 86, 87, 90, 93, 94, 95, 96, 98, 100, 103, 106, 109, 110, 112, 115, 116, 118, 121, 122, 124, 127, 130, 133, 136, 139, 140]
def am_p126 : List Nat := [0, 1, 2, 5, 8, 9, 10, 11, 14, 17, 18, 19, 20, 23, 26, 27, 28, 29, 32, 35, 37, 38, 39, 40, 41, 44, 45, 48, 49, 52, 54, 55, 56, 59, 60, 63, 66, 67, 68, 71, 72, 75, 78, 79, 82, 83]
def am_p127 : List Nat := [0, 1, 4, 7, 8, 9, 10, 11, 12, 14, 16, 17, 20, 23, 24, 27, 28, 29, 31, 32, 33, 34, 37, 40, 41, 43, 44, 45, 46, 49, 52, 53, 55, 56, 59, 60, 61, 62, 65, 68, 69, 70]
def am_p128 : List Nat := [0, 1, 2, 5, 8, 11, 12, 13, 14, 17, 18, 19, 20, 21, 24, 25, 26, 29, 30, 33, 36, 37, 38, 39, 40, 41, 42, 43, 46, 49, 50, 51, 54, 55, 56, 57, 59, 62, 63, 66, 69, 70, 71, 72, 75, 76, 77, 78, 81, 84, 85, 88, 89, 90]
def am_p129 : List Nat := [0, 1, 2, 4, 7, 10, 11, 12, 14, 17, 20, 21, 22, 24, 27, 30, 32, 35, 37, 39, 41, 42, 43, 46, 49, 50, 51, 52, 54, 55, 57, 58, 60, 62, 63, 66, 68, 69, 70, 72, 73, 74, 77, 78, 81, 82, 84, 86, 88, 90, 91, 94, 96, 99, 100, 103, 104, 105, 107, 109, 112, 113, 116, 117, 118, 120, 122, 124, 127, 128, 131, 132, 133, 135, 138, 141, 143, 144]
def am_p130 : List Nat := [0, 1, 4, 5, 8, 11, 12, 13, 14, 15, 16, 19, 22, 23, 26, 27, 30, 31, 32, 35, 36, 37, 38, 41, 42, 45, 46, 47, 50, 51, 52, 53, 56, 59, 60, 63, 64, 67, 68, 69, 72, 73, 74]
def am_p131 : List Nat := [0, 1, 2, 3, 4, 5, 6, 7, 10, 13, 14, 15, 18, 19, 20, 21, 23, 26, 27, 30, 31, 32, 33, 36, 37, 38, 39, 42, 45, 46, 47]
def am_p132 : List Nat := [0, 1, 64, 65, 68, 71, 72, 73, 74, 77, 78, 79, 80, 81, 84, 85, 86, 87, 88, 91, 92, 93, 94, 95, 98, 99, 100, 101, 102, 105, 108, 109, 110, 111, 114, 117, 118, 119, 120, 123, 126, 127, 128, 129, 132, 135, 136, 137, 138, 141, 144, 145, 146, 147, 150, 151, 152, 155, 156, 157, 158]
def am_p133 : List Nat := [0, 1, 2, 5, 8, 9, 10, 13, 16, 17, 18, 21, 24, 25, 26, 29, 32, 33, 34, 37, 40, 41, 44, 45, 46, 49, 50, 52, 55, 56, 59, 60, 61, 64, 65, 67, 70, 71, 74, 75, 76, 79, 80, 82, 85, 86, 89, 90, 91, 94, 95, 97, 100, 101, 104, 105, 106, 109, 110, 112, 115, 116, 119, 120, 121, 124, 125, 127, 130, 131, 134, 135, 136, 139, 140, 142, 145, 146, 149, 150, 151, 154, 155, 157, 160, 161, 164, 165, 166, 169, 170, 172, 175, 176, 179, 180, 181, 184, 185, 187, 190, 191, 194, 195, 196, 199, 200, 202, 205, 206, 209, 210, 211, 214, 215, 217, 220, 221]
def am_p134 : List Nat := [0, 1, 4, 5, 6, 9, 12, 13, 16, 17, 18]
def am_p135 : List Nat := [0, 1, 4, 5, 6, 7, 10, 11, 14, 15, 18, 19, 20]
def am_p136 : List Nat := [0, 1, 4, 5, 6, 7, 10, 11, 12, 15, 16, 19, 20, 21, 22, 23, 26, 27, 28, 29, 30, 33, 34, 35, 36, 37, 40, 41, 42, 43, 44, 45, 46, 47, 48, 51, 52, 53, 54, 55, 56, 57, 58, 59, 60, 61, 62, 63, 66, 67, 68, 69, 70, 71, 72, 75, 76, 77, 78, 79, 80, 81, 82, 83, 84]
def am_p137 : List Nat := [0, 1, 4, 5, 6, 9, 12, 15, 16, 19, 20, 21, 22, 25, 26, 29, 30, 31, 32, 35, 36, 39, 40, 41, 42, 43, 44]
def am_p138 : List Nat := [0, 1, 4, 5, 6, 9, 10, 13, 14, 15, 16, 19, 21, 24, 26, 29, 30, 31, 32, 33, 36, 37, 40, 41, 42, 43, 44, 45, 46, 47, 50, 51, 52, 55, 56, 59, 60, 61, 62, 65, 66, 69, 70, 71, 72, 73, 74]
def am_p139 : List Nat := [0, 1, 4, 5, 6, 7, 8, 9, 12, 13, 16, 17, 18]
def am_p140 : List Nat := [0, 1, 2, 3, 4, 5, 6, 7, 10, 11, 14, 15, 16, 19, 22, 23, 24, 25, 26, 27, 28, 31, 34, 35, 36]
def am_p141 : List Nat := [0, 1, 2, 3, 4, 5, 6, 9, 10, 13, 14, 15, 16, 17, 18, 19, 21, 23, 24, 27, 29, 32, 33, 34, 37, 40, 41, 42]
def am_p142 : List Nat := [0, 1, 4, 5, 6, 7, 8, 9, 10, 11]
def am_p143 : List Nat := [0, 1, 4, 5, 6, 7, 8, 11, 12, 13, 14, 17, 18, 21, 22, 23, 26, 29, 30, 31]
def am_p144 : List Nat := [0, 1, 2, 3, 4, 5, 6, 9, 12, 13, 14, 15, 18, 19, 22, 25, 28, 31, 32, 33]
def am_p145 : List Nat := [0, 1, 4, 5, 6, 7, 10, 11, 14, 15, 16, 19, 20, 21, 22, 23, 24, 25, 26, 27, 28, 29, 32, 33, 34, 35, 36, 39, 40, 41, 42, 43]
def am_p146 : List Nat := [0, 1, 4, 5, 6, 7, 8, 9, 10, 11, 12, 13, 14, 17, 18, 19, 20, 21, 24, 25, 26, 27, 28]
def am_p147 : List Nat := [0, 1, 4, 5, 6, 8, 9, 12, 13, 14, 15, 16, 17, 18, 19, 20, 22, 23, 26, 27, 28, 29, 30, 32, 33, 34, 35, 36, 39, 41, 42, 45, 47, 48, 49, 51, 52, 53, 56, 59, 60, 62, 63, 66, 67, 69, 72, 73, 74, 77, 78, 79, 80, 83, 84, 87, 88, 89, 91, 92, 95, 97, 98, 99, 100, 101, 102, 105, 107, 108, 109, 111, 112, 113, 116, 118, 119, 120, 121, 122, 123, 126, 128, 129, 130, 131, 134, 135, 136, 137, 138, 141, 143, 144, 145, 147, 148, 149, 150, 153, 154, 155, 158, 159, 162, 163, 164, 165]
def am_p148 : List Nat := [0, 1, 2, 5, 7, 8, 10, 11, 14, 15, 18, 20, 21, 24, 25, 26]
def am_p149 : List Nat := [0, 1, 2, 3, 4, 5, 8, 9, 12, 13, 16, 17, 18, 19, 22, 23, 26, 27, 28, 29, 30, 31, 32, 33, 36, 37, 38, 39, 40, 41, 44, 45, 46, 47, 48, 49, 52, 55, 56, 57, 60, 61, 62, 65, 66]
def am_p150 : List Nat := [0, 1, 4, 5, 6, 7, 8, 11, 12, 13, 14, 17, 18, 21, 24, 25, 26, 27, 28, 31, 32, 33, 34, 37, 38, 39, 40, 43, 46, 47, 48, 49, 50, 51, 52, 53, 56, 57, 58, 61, 62, 63, 64, 65, 68, 69, 70, 71, 72, 75, 76, 77, 80, 81, 82, 85, 88, 91, 92]
def am_p151 : List Nat := [0, 1, 2, 3, 5, 6, 7, 8, 10, 11, 13, 14, 15, 18, 19, 22, 23, 24, 25, 27, 28, 29, 30, 33, 34, 35, 36, 39, 40, 43, 45, 46, 47, 50, 51, 54, 56, 57, 58, 61, 62, 64, 65, 68, 69]
def am_p152 : List Nat := [0, 1, 2, 5, 8, 9, 10, 13, 16, 17, 20, 21, 22, 25, 26, 28, 31, 32, 35, 36, 37, 40, 41, 43, 46, 47, 50, 51, 52, 55, 56, 58, 61, 62, 65, 66, 67, 70, 71, 73, 76, 77, 80, 81, 82, 85, 86, 89, 92, 93]
def am_p153 : List Nat := [0, 1, 4, 7, 10, 11, 14, 15, 18, 19, 20, 21, 22, 25, 26, 27, 30, 31]
def am_p154 : List Nat := [0, 1, 2, 3, 4, 7, 10, 11, 14, 15, 16, 17, 20, 21, 22, 25, 26, 27, 30, 31, 32, 33, 36, 37, 38, 39, 42, 45, 46, 49, 50, 51, 52, 55, 58, 59, 60]
def am_p155 : List Nat := [0, 1, 2, 3, 4, 7, 10, 11, 14, 15, 16, 17, 20, 21, 24, 25, 26, 27, 30, 31, 32, 35, 36, 37, 40, 41, 42, 43, 46, 47, 48, 49, 52, 55, 56, 57, 60, 61, 62, 63, 66, 67, 68, 69, 72, 73, 76, 79, 80, 81]
def am_p156 : List Nat := [0, 1, 4, 6, 7, 9, 10, 12, 14, 15, 18, 19, 22, 24, 25, 27, 29, 32, 35, 37, 39, 42, 44, 46, 48, 51, 54, 56, 59, 60, 63, 65, 68, 69, 70, 71, 74, 77, 79, 82, 85, 87, 88, 91, 93, 95, 96, 97, 98, 100, 102, 103, 104, 105, 106, 107, 110, 112, 113, 116, 119, 121, 123, 124, 125, 126, 128, 130, 132, 133, 135, 137, 140, 141, 216, 218, 220, 221, 223, 226, 228, 230, 231, 233, 236, 238, 240, 241, 243, 246, 248, 251, 252, 255, 257, 259, 260, 262, 265, 267, 269, 272, 273, 276, 277, 279, 282, 284, 286, 289, 290, 293, 294, 296, 299, 301, 303, 306, 307, 310, 311, 313, 316, 318, 320, 321, 323, 326, 328, 330, 331, 333, 335, 337, 338, 339, 341, 342, 345, 348, 350, 351, 352, 353]
def am_p157 : List Nat := [0, 1, 4, 5, 6, 7, 8, 9, 10, 11]
def am_p158 : List Nat := [0, 1, 2, 5, 8, 9, 12, 13, 14, 17, 18, 20, 23, 24]
def am_p159 : List Nat := [0, 1, 2, 3, 4, 7, 8, 11, 12, 13, 14, 17, 18, 19, 22, 25, 28, 29, 32, 33, 36, 39, 40, 43, 44, 47, 50, 51]
def am_p160 : List Nat := [0, 1, 2, 5, 6, 7, 10, 11, 12, 15, 16, 17, 20, 21, 22, 23, 25, 27, 30, 33, 34, 35, 38, 39, 40, 41, 43, 46, 47, 48, 49, 51, 54, 57, 60, 61, 62, 63, 64, 67, 68, 71, 74, 75, 78, 79, 80, 83, 84]
def am_p161 : List Nat := [0, 1, 2, 3, 5, 6, 7, 8, 11, 14, 16, 17, 20, 21, 23, 24, 27, 30, 33, 36, 37, 38, 39, 41, 44, 45, 46, 49, 52, 53, 54, 55, 58, 61, 62, 63, 64, 66, 67, 69, 71, 72, 75, 76, 78, 79, 82, 85, 87, 89, 90, 91, 93, 94, 95, 97, 98, 100, 103, 106, 107, 109, 110, 111, 112, 115, 118, 121, 124, 126, 127, 130, 133, 134, 135, 136, 137, 140, 143, 144, 145, 146, 149, 152, 153, 154, 157, 159, 160]
def am_p162 : List Nat := [0, 1, 4, 7, 10, 11, 14, 15, 18, 19, 20, 21, 24, 25, 28, 29, 30, 31, 34, 35, 38, 39, 40, 41, 42, 45, 46, 47, 50, 51]
def am_p163 : List Nat := [0, 1, 3, 6, 7, 9, 12, 13, 15, 18, 19, 21, 24, 25, 28, 29, 30]
def am_p164 : List Nat := [0, 1, 3, 6, 7, 9, 12, 13, 16, 17, 18]
def am_p165 : List Nat := [0, 1, 3, 6, 7, 9, 12, 13, 15, 18, 19, 21, 24, 25, 27, 30, 31, 33, 36, 37, 40, 41, 42]
def am_p166 : List Nat := [0, 1, 2, 3, 5, 6, 8, 10, 12, 15, 18, 20, 22, 25, 28, 30, 32, 35, 37, 40, 42, 44, 45, 46, 47, 48, 51, 52, 53, 55, 57, 60, 63, 64, 65, 68, 70, 71, 72, 74, 77, 80, 83, 84]
def am_p167 : List Nat := [0, 1, 3, 5, 6, 9, 11, 13, 16, 17, 18, 20, 21, 22, 23, 24, 27, 28, 29, 32, 35, 36, 37]
def am_p168 : List Nat := [0, 1, 4, 5, 8, 11, 12, 15, 16, 19, 20, 23, 26, 27]
def am_p169 : List Nat := [0, 1, 2, 5, 6, 7, 10, 11, 14, 17, 18, 21, 22, 25, 26, 29, 30, 33, 34, 35]
def am_p170 : List Nat := [0, 1, 4, 5, 8, 9, 10, 13, 14, 15, 16, 19, 20, 21, 24, 25, 26]
def am_p171 : List Nat := [0, 1, 4, 5, 8, 9, 12, 13, 16, 17, 20, 21, 22, 25, 26, 27, 28, 31, 34, 35, 38, 41, 44, 45, 46, 49, 52, 53, 54, 57, 60, 61, 62]
def am_p172 : List Nat := [0, 1, 4, 5, 6, 9, 12, 13, 14, 17, 18, 19, 22, 23, 26, 27, 28, 31, 32, 33, 36, 37, 38, 40, 43, 44, 45, 48, 49, 50, 51, 54, 55, 56, 59, 60, 63, 66, 67, 68, 69, 70, 73, 76, 77, 78, 81, 84, 85, 86, 87, 90, 91, 94, 97, 98, 99, 100, 103, 106, 107, 108, 111, 114, 115, 116, 119, 121, 124, 125, 126, 129, 130, 131, 134, 135, 136, 139, 142, 143, 144, 145, 148, 151, 152, 153, 156, 159, 160, 161, 164, 165, 168, 169, 170, 173, 174, 176, 179, 180]
def am_p173 : List Nat := [0, 1, 2, 3, 6, 9, 10, 11, 12, 15, 18, 19, 20, 23, 26, 27, 28, 29, 32, 33, 36, 39, 42, 43, 46, 48, 51, 54, 55, 56, 59, 60, 61, 64, 67, 70, 71, 74, 75, 78, 81, 84, 85, 88, 90, 93, 96, 97, 98, 101, 102, 103, 106, 109, 112, 113, 114]
def am_p174 : List Nat := [0, 1, 4, 5, 6, 8, 11, 12, 14, 17, 18, 20, 23, 24, 25, 28, 29, 30, 31, 34, 35, 36, 39, 40, 42, 45, 46, 47, 48, 49, 52, 55, 56, 58, 61, 64, 65, 68, 69, 70, 71, 72, 73, 74, 77, 80, 81, 82, 83, 86, 89, 92, 93, 94, 95, 98, 101, 102, 103, 104, 107, 108, 109, 111, 114, 115, 117, 120, 121, 123, 126, 127, 128, 131, 132, 133, 134, 137, 138, 139, 142, 143, 146, 149, 150, 151, 152, 155, 158, 159, 160, 163, 164, 165]
def am_p175 : List Nat := [0, 1, 2, 3, 4, 5, 8, 11, 12, 13, 16, 19, 20, 21, 22, 23, 24, 27, 30, 31, 34, 36, 39, 40, 43, 45, 48, 49, 52, 54, 55, 56, 59, 60, 61, 64, 65, 67, 69, 72, 73, 76, 77, 80, 83, 84, 85, 86, 89, 92, 94, 95, 98, 101, 104, 105, 106, 109, 110, 113, 116, 117, 118, 121, 122, 125, 126, 127, 129, 132, 133, 135, 138, 139, 140, 141, 142, 145, 146, 147, 150, 153, 156, 157, 158]
def am_p176 : List Nat := [0, 1, 4, 5, 6, 9, 12, 13, 16, 17, 20, 21, 24, 25, 28, 29, 30, 33, 34, 35, 38, 39, 42, 43, 46, 47, 50, 53, 54, 57, 58, 60, 63, 64, 67, 68, 69, 70, 71, 72, 75, 76, 79, 82, 83, 84, 87, 90, 91, 92, 95, 96, 97, 98, 101, 102, 103, 106, 107, 108]
def am_p177 : List Nat := [0, 1, 4, 5, 8, 9, 10, 11, 14, 17, 18, 21, 24, 27, 28, 31, 32, 35, 37, 40, 42, 45, 46, 47, 50, 51, 52, 55, 58, 59, 62, 64, 67, 69, 72, 73, 74, 77, 78, 79, 80, 83, 84, 85, 88, 89, 92, 95, 96, 97, 99, 100, 103, 104, 106, 107, 110, 113, 114, 116, 119, 121, 123, 126, 127, 129, 132, 135, 136, 137, 138, 141, 142, 145, 146, 147, 150, 153, 156, 157, 158]
def am_p178 : List Nat := [0, 1, 4, 7, 8, 9, 10, 11, 12, 13, 14, 15, 16, 17, 18, 19, 20, 21, 22, 25, 28, 29, 31, 34, 37, 38, 39, 40, 41, 42, 43, 44, 45, 48, 51, 52, 54, 57, 60, 61, 62, 63, 64, 65, 68, 71, 74, 75, 77, 80, 83, 84, 85, 86, 87, 88, 90, 93, 96, 97, 100, 101, 102, 103, 106, 107, 110, 111, 114, 115, 116, 117, 118, 121, 122, 123, 126, 127, 128, 129, 130, 131, 133, 136, 137]
def am_p179 : List Nat := [0, 1, 2, 3, 4, 5, 6, 9, 12, 13, 15, 18, 21, 22, 23, 24, 25, 26, 28, 31, 34, 35, 37, 40, 43, 44, 45, 46, 47, 48, 50, 53, 56, 57, 60, 61, 62, 63, 66, 67, 68, 69, 72, 74, 77, 78, 81, 82, 83, 84, 87, 90, 91, 92, 93, 94, 97, 98, 101, 102, 103, 104, 107, 108, 109, 112, 113, 114, 117, 118, 119]
def am_p180 : List Nat := [0, 1, 4, 7, 10, 11, 12, 15, 16, 17, 20, 21, 24, 25, 26, 29, 30, 33, 34, 37, 38, 39, 42, 43, 44, 47, 48, 49, 52, 55, 56, 57, 60, 61, 64, 65, 66, 67, 68, 71, 72, 73, 76, 77, 78]
def am_p181 : List Nat := [0, 1, 4, 7, 8, 9, 12, 13, 16, 17, 20, 21, 22]
def am_p182 : List Nat := [0, 1, 2, 5, 8, 11, 12, 13, 14, 17, 20, 21, 24, 27, 29, 32, 33, 34, 35, 38, 39, 42, 43, 44, 47, 48]
def am_p183 : List Nat := [0, 1, 4, 5, 6, 9, 10, 13, 14, 17, 20, 21, 24, 25, 28, 29, 32, 33, 34, 35, 38, 41, 42, 45, 46, 48, 51, 52, 55, 56, 59, 62, 63, 66, 67, 68, 69, 70, 71, 74, 77, 78, 81, 82, 84, 86, 89, 90, 93, 95, 96]
def am_p184 : List Nat := [0, 1, 4, 6, 7, 10, 13, 14, 15, 16, 17, 20, 21, 22, 25, 26, 27, 30, 31, 33, 36, 37, 39, 42, 43, 46, 47]
def am_p185 : List Nat := [0, 2, 3, 4, 7, 8, 11, 14, 17, 18, 21, 22, 25, 26, 27, 28, 31, 32, 33, 34, 35, 36, 39, 40, 41, 44, 47, 50, 51]
def am_p186 : List Nat := [0, 1, 2, 3, 6, 9, 12, 13, 14, 15, 16, 19, 20, 21]
def am_p187 : List Nat := [0, 1, 4, 5, 8, 9, 12, 15, 16, 17, 20, 21, 22, 23, 26, 29, 30, 31, 32, 33, 36, 37, 40, 41, 44, 47, 48, 51, 54, 55, 56, 57, 60, 63, 66, 67, 70, 73, 76, 77, 78, 79, 80, 81, 84, 85, 88, 89, 90, 91, 94, 95, 96, 99, 102, 105, 108, 109, 110, 111, 114, 115, 118, 121, 122, 125, 128, 131, 132, 135, 138, 139, 142, 145, 146, 149, 152, 155, 156, 159, 162, 165, 166]
def am_p188 : List Nat := [0, 1, 4, 5, 8, 11, 14, 15, 16, 19, 20, 23, 26, 29, 30, 31]
def am_p189 : List Nat := [0, 1, 2, 5, 6, 7, 8, 10, 13, 16, 17, 18, 19, 22, 23, 26, 27, 28, 29, 31, 34, 35]
def am_p190 : List Nat := [0, 1, 2, 3, 6, 7, 8, 9, 12, 13, 14, 15, 16, 17, 18, 21, 22, 23, 24, 27, 28, 31, 32, 35, 36, 37]
def am_p191 : List Nat := [0, 1, 4, 5, 8, 11, 12, 13, 14, 17, 20, 21, 22, 23, 24, 25, 26, 27, 28, 29, 32, 35, 36, 37, 38, 41, 42, 45, 48, 49, 50, 51, 54, 55, 56, 57, 60, 61, 64, 65, 66, 69, 70, 71]
def am_p192 : List Nat := [0, 1, 4, 5, 8, 11, 12, 13, 14, 17, 20, 21, 22, 23, 26, 27, 30, 33, 34, 35, 36, 37, 38]
def am_p193 : List Nat := [0, 1, 2, 3, 6, 7, 8, 9, 12, 13, 14, 15, 16, 17, 18, 21, 23, 24, 27, 29, 31, 34, 36, 38, 41, 42, 45, 48, 49, 50, 51, 52, 53, 54, 55, 56, 58, 60, 63, 65, 67, 70, 71, 74, 77, 78, 79, 80, 81, 82, 83, 84, 85, 86, 88, 90, 91, 94, 96, 98, 99, 100]
def am_p194 : List Nat := [0, 1, 4, 7, 9, 12, 13, 16, 19, 20, 21, 23, 24, 27, 29, 30, 33, 36, 37, 38, 41, 43, 44, 45, 46, 47, 48, 51, 53, 54, 55, 56, 57, 58, 61, 63, 64, 65, 66, 67, 68, 71, 72, 75, 76, 77, 80, 81]
def am_p195 : List Nat := [0, 1, 2, 4, 7, 10, 11, 14, 17, 18, 19, 22, 25, 26, 27, 28, 29, 30, 31, 32, 33, 36, 37, 38, 39, 41, 44, 45, 48, 49, 50, 51, 54, 55, 58, 61, 62, 63, 66, 69, 70, 71]
def am_p196 : List Nat := [0, 1, 4, 5, 8, 9, 10, 13, 16, 17, 18, 21, 22, 23, 25, 26, 29, 30, 31, 34, 35, 36, 38, 41, 44, 45]
def am_p197 : List Nat := [0, 1, 2, 5, 6]
def am_p198 : List Nat := [0, 1, 4, 7, 8, 9, 10, 11, 14, 15, 16, 19, 20, 21, 24, 26, 27, 28, 29, 31, 32, 35, 36, 39, 40, 43, 44, 47, 48, 51, 52, 53]
def am_p199 : List Nat := [0, 1, 4, 5, 8, 9, 12, 15, 16, 19, 20, 23, 26, 27, 30, 31, 32, 35, 36, 37, 40, 41, 44, 45, 46, 49, 52, 53, 56, 59, 60, 63, 64, 67, 70, 71, 74, 75, 78, 81, 82, 85, 86, 87, 90, 91, 92, 95, 96, 99, 100, 103, 104, 107, 108]
def am_p200 : List Nat := [0, 1, 4, 5, 8, 11, 13, 14, 15, 60, 61, 64, 67, 68, 69, 70, 71, 74, 77, 78, 79, 80, 81, 84, 87, 88, 89, 90, 91, 94, 97, 98, 99, 100, 101, 104, 107, 108, 109, 110, 111, 112, 113, 116, 119, 120, 121, 122, 123, 124, 125, 126, 127, 128, 129, 132, 133, 134, 135, 136, 139, 140, 142, 143]
def am_p201 : List Nat := [0, 1, 2, 3, 5, 7, 9, 12, 13, 14, 15, 18, 20, 22, 23, 26, 27, 28, 30, 31, 32, 33, 34, 35, 38, 40, 41, 44, 47, 48, 49]
def am_p202 : List Nat := [0, 1, 4, 5, 8, 11, 13, 14, 15, 18, 19, 22, 23, 24, 84, 85, 88, 91, 92, 93, 94, 95, 96, 97, 98, 99, 102, 105, 106, 107, 108, 109, 112, 115, 116, 117, 118, 119, 122, 125, 126, 127, 128, 129, 132, 135, 136, 137, 138, 139, 142, 145, 146, 147, 148, 149, 152, 153, 156, 157, 158, 159, 162, 163, 166, 167, 170, 171, 172, 175, 176, 178, 179]
def am_p203 : List Nat := [0, 1, 2, 3, 6, 9, 10, 11, 14, 17, 18, 19, 20, 23, 26, 27, 28, 29, 32, 33, 34, 37, 38]
def am_p204 : List Nat := [0, 1, 2, 3, 6, 9, 10, 11, 14, 17, 18, 19, 20, 23, 26, 27, 28, 29, 32, 33, 34, 35, 36, 37, 38, 39]
def am_p205 : List Nat := [0, 1, 64, 65, 68, 71, 72, 73, 76, 79, 80, 81, 84, 87, 88, 89, 92, 95, 96, 97, 100, 103, 104, 105, 108, 111, 112, 113, 114, 115, 118, 119, 120, 123, 126, 129, 130, 131, 134, 137, 140, 141, 142, 145, 146, 147, 150, 151, 152, 153]
def am_p206 : List Nat := [0, 1, 2, 3, 4, 5, 6, 7, 10, 13, 14, 17, 18, 21, 24, 25, 26, 27, 30, 31, 32, 33, 34, 35, 36, 39, 42, 43, 44]
def am_p207 : List Nat := [0, 1, 4, 5, 8, 11, 12, 15, 16, 17, 18, 19, 20, 22, 24, 25, 28, 31, 34, 35, 38, 40, 41, 44, 45, 48, 49, 50, 53, 54, 57, 59, 60, 63, 64, 67, 70, 73, 74, 75]
def am_p208 : List Nat := [0, 1, 4, 5, 8, 11, 12, 13, 14, 17, 20, 21, 22, 23, 26, 27, 30, 31, 32, 33, 35, 36, 38, 40, 41, 44, 47, 50, 51, 54, 56, 57, 60, 61, 64, 66, 67, 68, 71, 73, 74, 77, 78, 79, 81, 84, 87, 89, 90]
def am_p209 : List Nat := [0, 1, 2, 3, 4, 5, 6, 7, 10, 13, 14, 17, 18, 21, 22, 25, 28, 29, 30, 33, 34, 37, 40, 41, 42, 43, 46, 49, 50, 51, 54, 55, 56, 59, 62, 63, 64]
def am_p210 : List Nat := [0, 1, 2, 3, 4, 5, 6, 9, 12, 15, 16, 19, 20, 21, 22, 25, 28, 29, 32, 33, 34, 35, 36, 37, 40, 43, 44, 45, 46, 47, 48, 49, 52, 55, 56, 57]
def am_p211 : List Nat := [0, 1, 2, 3, 6, 9, 10, 11, 12, 13, 14, 16, 18, 19, 20, 23, 26, 27, 30, 31, 34, 37, 39, 40, 42, 44, 45, 48, 49, 52, 55, 57, 58, 59, 60, 61, 62, 63, 66, 67, 68, 70, 71, 72, 73, 76, 79, 80, 81]
def am_p212 : List Nat := [0, 1, 2, 3, 4, 7, 10, 11, 12, 13, 16, 19, 20, 21, 22, 23, 24, 25, 26, 27, 28, 31, 34, 35, 38, 39, 42, 45, 46, 47, 48, 49, 50, 53, 54, 55, 56, 57, 58, 59, 62, 65, 66, 67]
def am_p213 : List Nat := [0, 1, 4, 5, 6, 7, 8, 9, 10, 13, 16, 17, 18, 19, 20, 23, 26, 27, 28, 31, 32, 33, 34, 35, 37, 39, 40, 42, 44, 45, 48, 51, 54, 55, 56, 58, 61, 63, 65, 66, 68, 69, 72, 74, 76, 78, 81, 83, 84, 86, 88, 91, 94, 95, 96]
def am_p214 : List Nat := [0, 1, 2, 3, 5, 7, 8, 9, 12, 15, 16, 19, 20, 22, 23, 24, 25, 26, 29, 30, 33, 36, 38, 39, 40, 41, 42, 43, 44, 47, 50, 53, 56, 57, 58]
def am_p215 : List Nat := [0, 1, 2, 4, 7, 10, 11, 12, 14, 17, 20, 21, 22, 24, 27, 30, 31, 32, 34, 37, 39, 41, 43, 44, 45, 48, 51, 52, 53, 54, 56, 57, 59, 61, 62, 65, 67, 68, 69, 71, 73, 74, 75, 76, 79, 80, 83, 84, 86, 88, 90, 92, 93, 96, 98, 101, 102, 105, 106, 107, 109, 112, 115, 118, 121, 123, 124]
def am_p216 : List Nat := [0, 1, 4, 5, 8, 11, 12, 15, 16, 19, 22, 23, 24, 25, 26, 28, 31, 34, 36, 37, 39, 42, 45, 46, 47, 48, 49, 52, 53, 54, 55, 57, 60, 63, 64, 67, 68, 69]
def am_p217 : List Nat := [0, 1, 4, 7, 9, 10, 11, 12, 13, 16, 18, 19, 21, 22, 24, 25, 27, 28, 30, 32, 33, 36, 37, 38, 39, 41, 43, 44, 45, 48, 49, 50, 53, 56, 57, 58, 59, 62, 65, 67, 69, 70, 73, 75, 77, 80, 81, 84, 85, 86]
def am_p218 : List Nat := [0, 1, 2, 5, 8, 9, 10, 13, 16, 17, 20, 21, 22, 23, 26, 27, 30, 31, 32, 33, 36, 37, 38, 40, 41, 43, 46, 49, 51, 52, 54, 57, 60, 61, 62, 63, 66, 68, 71, 72, 75, 76, 77, 79, 81, 82, 85, 86, 87, 88, 89, 92, 94, 96, 97, 100, 101, 104, 106, 107, 108, 110, 111, 114, 117, 118, 119, 120, 121, 122, 123, 125, 127, 130, 131]
def am_p219 : List Nat := [0, 1, 4, 5, 8, 11, 12, 13, 14, 17, 20, 21, 22, 23, 25, 27, 28, 29, 32, 35, 36, 39, 40, 43, 46, 48, 49, 50, 51, 52, 53, 54, 57, 58, 59, 62, 64, 65, 67, 68, 71, 74, 76, 77, 80, 83, 84, 85]
def am_p220 : List Nat := [0, 2, 4, 6, 9, 10, 11, 14, 15, 16, 17, 19, 22, 25, 27, 28, 31, 34, 35, 36]
def am_p221 : List Nat := [0, 1, 4, 5, 8, 11, 12, 13, 14, 17, 20, 23, 24, 25, 28, 31, 32, 33, 34, 35, 36, 39, 42, 43, 46, 47, 48]
def am_p222 : List Nat := [0, 1, 2, 3, 6, 9, 10, 11, 12, 13, 14, 17, 20, 21, 22, 23, 24, 25, 26, 29, 30]
def am_p223 : List Nat := [0, 1, 2, 3, 6, 8, 9, 10, 11, 14, 16, 17, 20, 23, 24, 25, 28, 29, 32, 34, 37, 39, 42, 43, 46, 47, 50, 52, 55, 57, 60, 61, 64, 65, 66]
def am_p224 : List Nat := [0, 1, 4, 7, 8, 9, 12, 13, 14, 17, 18, 21, 24, 25, 28, 31, 32, 33, 34, 35, 36, 37, 38, 41, 44, 45, 46, 49, 52, 53, 56, 57, 58]
def am_p225 : List Nat := [0, 1, 4, 7, 10, 11, 12, 15, 16, 18, 20, 21, 22, 25, 28, 29, 30, 31, 32, 33, 34, 35, 38, 41, 42, 45, 46, 49, 50, 52, 53, 54, 55, 56, 57, 60, 63, 64, 65, 66, 67, 68, 71, 72, 73, 76, 79, 82, 83, 86, 87, 90, 91, 92, 95, 96, 97, 99, 100, 103, 104]
def am_p226 : List Nat := [0, 1, 3, 4, 5, 6, 7, 8, 10, 11, 12, 13, 16, 19, 20, 21, 24, 26, 27, 28, 31, 33, 34, 36, 38, 39, 40, 43, 46, 47, 50, 51, 54, 55, 57, 58, 59, 61, 62, 64, 66, 67, 70, 73, 76, 78, 80, 81, 82, 83, 85, 86, 87, 88, 89, 92, 94, 96, 97, 100, 101, 103, 104, 106, 107, 108, 109, 110, 111, 114, 116, 119, 122, 123, 126, 127, 129, 130, 132, 133, 136, 139, 140]
def am_p227 : List Nat := [0, 1, 2, 3, 4, 5, 6, 9, 12, 15, 16, 17, 18, 21, 24, 25, 26, 27, 28, 29, 30, 33, 36, 37, 38]
def am_p228 : List Nat := [0, 1, 2, 3, 4, 5, 7, 9, 10, 13, 14, 16, 17, 20, 21, 22, 23, 26, 27, 28, 29, 30, 31, 32, 35, 38, 39, 40]
def am_p229 : List Nat := [0, 1, 2, 3, 5, 6, 7, 8, 11, 12, 14, 15, 16, 17, 18, 20, 21, 24, 25, 26, 27, 28, 30, 33, 34, 35, 36, 39, 42, 43, 44, 47, 49, 50, 51, 54, 55, 56, 57, 58, 60, 61, 63, 65, 66, 69, 72, 75, 77, 79, 80, 81, 82, 83, 86, 88, 89, 92, 93, 94, 95, 97, 98, 99, 100, 101, 102, 104, 107, 109, 110, 113, 116, 117, 118]
def am_p230 : List Nat := [0, 1, 4, 5, 8, 11, 12, 13, 14, 17, 20, 23, 24, 25, 28, 31, 32, 33, 34, 37, 40, 42, 43, 44, 45, 46, 49, 52, 53, 56, 57, 60, 61, 62, 63, 64, 65, 66, 69, 71, 73, 74, 77, 78, 81, 82, 85, 86, 87, 90, 91, 94, 96, 97, 98, 99, 100, 101, 104, 106, 108, 109, 112, 113, 116, 117, 120, 121, 122, 125, 127, 130, 131, 132, 133, 135, 137, 138, 139, 142, 145, 146, 149, 150, 151, 152, 154, 157, 159, 161, 162, 165, 166, 169, 170, 173, 174, 175, 178, 180, 183, 185, 186, 189, 192, 194, 195]
def am_p231 : List Nat := [0, 1, 4, 7, 8, 9, 10, 11, 12, 13, 14, 15, 17, 18, 20, 22, 23, 24, 27, 30, 31, 34, 35, 36, 38, 40, 43, 46, 47, 48, 51, 53, 54, 55, 56, 59, 62, 64, 65, 68, 71, 72, 73]
def am_p232 : List Nat := [0, 1, 2, 5, 6, 7, 8, 9, 12, 15, 16, 17, 18, 21, 22, 25, 28, 29, 32, 33, 34, 35, 36, 39, 40, 41, 43, 45, 46, 47, 50, 53, 54, 57, 58, 59, 60, 62, 65, 68, 69, 70, 73, 75, 76, 77, 78, 81, 84, 86, 87, 90, 93, 94, 95]
def am_p233 : List Nat := [0, 1, 2, 5, 6, 7, 9, 11, 12, 15, 18, 19, 22, 24, 25, 26, 29, 30, 31, 33, 34, 35, 38, 39, 40, 42, 43, 44, 47, 50, 53, 54, 57, 58, 61, 62, 63]
def am_p234 : List Nat := [0, 1, 4, 7, 8, 9, 10, 11, 13, 15, 16, 19, 22, 23, 25, 26, 29, 30, 33, 36, 37, 39, 40, 43, 45, 46, 48, 49, 52, 54, 55, 57, 58, 61, 63, 64, 66, 67, 70, 72, 73, 74, 76, 78, 80, 82, 85, 88, 89, 91, 93, 95, 97, 100, 101, 104, 105, 106, 108, 109, 110, 111, 114, 117, 118, 119]
def am_p235 : List Nat := [0, 1, 4, 5, 6, 7, 8, 9, 10, 12, 14, 15, 18, 19, 20, 21, 23, 24, 27, 28, 29, 32, 34, 36, 39, 41, 44, 45, 48, 50, 53, 54, 57, 59, 60, 63, 65, 66, 67, 68, 70, 73, 74, 75]
def am_p236 : List Nat := [0, 1, 4, 7, 9, 10, 11, 12, 14, 15, 17, 18, 19, 20, 21, 24, 26, 28, 29, 32, 34, 35, 36, 38, 40, 42, 43, 45, 47, 48, 51, 52, 53, 56, 59, 60, 61, 63, 65, 67, 68, 71, 74, 76, 79, 81, 83, 85, 86, 89, 92, 94, 97, 99, 101, 103, 104, 107, 110, 112, 115, 117, 119, 121, 122, 125, 128, 131, 134, 136, 137, 140, 142, 143, 146, 148, 149, 151, 152, 154, 157, 158, 159, 162, 163, 164, 167, 168, 169, 171, 172, 174, 177, 178, 179, 182, 183, 184, 187, 188, 189, 191, 192, 195, 198, 199, 201, 202]
def am_p237 : List Nat := [0, 1, 4, 5, 8, 11, 12, 13, 14, 15, 18, 19, 20, 23, 24, 27, 28, 31, 34, 35]
def am_p238 : List Nat := [0, 1, 4, 5, 8, 11, 12, 13, 14, 17, 20, 21, 24, 27, 30, 31, 34, 37, 38, 39, 40, 43, 44, 47, 48, 51, 54, 55, 58, 61, 64, 65, 68, 71, 74, 75, 76]
def am_p239 : List Nat := [0, 1, 4, 5, 8, 11, 12, 13, 16, 19, 22, 24, 25, 26, 27, 30, 31, 34, 37, 38, 39, 40]
def am_p240 : List Nat := [0, 1, 2, 5, 8, 11, 12, 13, 14, 15, 18, 19, 22, 25, 26]
def am_p241 : List Nat := [0, 1, 2, 3, 6, 9, 10, 11, 12, 15, 16, 19, 22, 23, 24, 25, 28, 31, 32, 35, 38, 39, 40, 41, 44, 45, 48, 50, 52, 55, 56, 57, 60, 61, 64, 66, 69, 70, 73, 76, 77, 78]
def am_p242 : List Nat := [0, 1, 2, 3, 5, 8, 9, 10, 11, 12, 13, 14, 17, 18, 19, 22, 25, 26, 27]
def am_p243 : List Nat := [0, 1, 4, 5, 8, 11, 12, 15, 18, 19, 20, 21, 24, 25, 26, 27, 30, 33, 34, 35, 37, 40, 43, 44, 47, 48, 49]
def am_p244 : List Nat := [0, 1, 2, 3, 4, 7, 10, 11, 12, 13, 14, 15, 16, 19, 20, 21, 24, 27, 28, 29, 30, 31, 32, 33, 34]
def am_p245 : List Nat := [0, 1, 2, 3, 4, 7, 10, 11, 12, 13, 14, 17, 20, 21, 22]
def am_p246 : List Nat := [0, 1, 4, 5, 8, 11, 12, 15, 18, 19, 20, 22, 25, 27, 28, 30, 32, 33, 36, 37, 38, 41, 43, 44, 45, 48, 50, 52, 55, 57, 58, 59, 62, 63, 65, 66, 69, 72, 73, 74, 75, 76, 77, 78, 79, 82, 83, 86, 87, 88, 91, 94, 97, 99, 100]
def am_p247 : List Nat := [0, 1, 2, 3, 6, 9, 10, 11, 13, 16, 19, 20, 21, 22, 23, 24, 26, 28, 29, 30, 33, 36, 37, 40, 41, 44, 47, 49, 50, 51, 54, 55, 58, 59, 61, 62, 63, 66, 67, 68, 69, 72, 75, 76, 77]
def am_p248 : List Nat := [0, 1, 4, 7, 9, 10, 13, 14, 17, 19, 20, 21, 24, 25, 26, 29, 31, 33, 34, 35, 36, 37, 38, 40, 41, 43, 44, 47, 48, 51, 52, 55, 57, 58, 61, 62, 63, 66, 69, 70, 71, 72, 75, 78, 80, 82, 83, 86, 88, 91, 93, 94]
def am_p249 : List Nat := [0, 1, 2, 3, 6, 8, 10, 11, 14, 15, 16, 18, 21, 24, 25, 26, 27, 28, 30, 31, 34, 36, 37, 38]
def am_p250 : List Nat := [0, 1, 2, 3, 6, 7, 8, 9, 12, 13, 14, 15, 16, 17, 18, 21, 23, 24, 26, 28, 30, 33, 34, 35, 36, 38, 41, 43, 46, 48, 49, 52, 55, 56, 57]
def am_p251 : List Nat := [0, 1, 4, 7, 9, 11, 12, 13, 14, 15, 16, 17, 18, 20, 21, 22, 23, 26, 27, 29, 30, 31, 34, 35, 36, 37, 39, 40, 41, 44, 45, 46, 47, 49, 51, 52, 55, 56, 57, 58, 60, 62, 63, 64, 65, 66, 69, 70, 73, 74, 75, 77, 79, 80, 83, 84, 85, 86, 87]
def am_p252 : List Nat := [0, 1, 4, 5, 8, 11, 12, 13, 14, 17, 20, 21, 24, 27, 28, 29, 30, 31, 32, 33, 36, 37, 38]
def am_p253 : List Nat := [0, 1, 2, 5, 6, 7, 10, 11, 14, 15, 16]
def am_p254 : List Nat := [0, 1, 2, 3, 6, 9, 10]
def am_p255 : List Nat := [0, 1, 2, 3, 4, 7, 8, 9, 10, 11, 14, 15, 16, 17, 18, 21, 22, 23, 24, 25, 26, 27, 28, 29, 32, 33, 34, 35, 36, 38, 39, 40, 41, 42, 43, 45, 46, 47, 48, 49, 51, 52, 53]
def am_p256 : List Nat := [0, 1, 4, 5, 6, 9, 10, 11]
def am_p257 : List Nat := [0, 1, 4, 7, 8, 11, 12, 15, 16, 17, 20, 21, 24, 25]
def am_p258 : List Nat := [0, 3, 6, 7, 10, 13, 14, 15]
def am_p259 : List Nat := [0, 3, 6, 7, 10, 13, 14, 17, 18, 19]
def am_p260 : List Nat := [0, 1, 2, 5, 8, 9, 10]
def am_p261 : List Nat := [0, 1, 2, 3, 6, 7, 8, 9, 12, 13, 14, 15]
def am_p262 : List Nat := [0, 1, 4, 5, 6, 9, 10, 11, 12, 15, 16, 17, 18]
def am_p263 : List Nat := [0, 3, 4, 7, 8, 11, 12, 15, 16, 17, 18, 19, 20, 21, 23, 24, 27, 28, 29, 30, 32, 33, 220, 221, 222, 223, 224, 225, 226, 229, 230, 231, 232, 233, 234, 235, 238, 241, 242, 243, 244, 245, 246, 247, 248, 249, 250, 251, 252, 253, 254, 257, 258, 259, 260, 261, 262, 263, 264, 265, 266, 267, 268, 271, 274, 275, 276, 277, 278, 279, 280, 281, 282, 283, 284, 285, 286, 287, 288, 289, 290, 291, 292, 295, 296, 297, 298, 299, 300, 301, 302, 303, 304, 305, 306, 307, 308, 309, 310, 311, 314, 317, 318, 319, 320, 321, 322, 323, 324, 325, 326, 327, 328, 329, 330, 331, 332, 333, 334, 335, 336, 337, 338, 339, 340, 343, 344, 345, 346, 347, 348, 349, 350, 351, 352, 353, 354, 355, 356, 357, 358, 359, 360, 361, 362, 363, 364, 367, 370, 371, 372, 373, 374, 375, 376, 377, 378, 379, 380, 381, 382, 383, 386, 387, 388, 389, 390, 391, 392, 393, 394, 395, 396, 397, 400, 403, 404, 405, 406, 407, 408, 409, 410, 411, 412, 413, 414, 415, 416, 419, 420, 421, 422, 423, 424, 425, 426, 427, 428, 429, 430, 433, 436, 437, 438, 439, 440, 441, 442, 443, 444, 445, 446, 447, 448, 449, 452, 453, 454, 455, 456, 457, 458, 459, 460, 461, 462, 463, 466, 469, 470, 471, 472, 473, 474, 475, 476, 477, 478, 479, 480, 481, 482, 485, 486, 487, 488, 489, 490, 491, 492, 493, 494, 495, 496, 499, 502, 503, 504, 505, 506, 507, 508, 509, 510, 513, 514, 515, 516, 517, 518, 519, 522, 525, 526, 527, 528, 529, 530, 531, 532, 533, 534, 535, 536, 537, 538, 539, 540, 541, 542, 543, 544, 545, 546, 547, 548, 549, 550, 551, 552, 553, 556, 557, 558, 559, 560, 561, 562, 563, 564, 565, 566, 567, 568, 569, 570, 571, 572, 573, 574, 575, 576, 577, 578, 579, 580, 581, 582, 585, 588, 589, 590, 591, 592, 593, 594, 595, 596, 599, 600, 601, 602, 603, 604, 605, 608, 611, 612, 613, 614, 615, 616, 617, 618, 619, 622, 623, 624, 625, 626, 627, 628, 631, 634, 635, 636, 637, 638, 639, 640, 641, 642, 645, 646, 647, 648, 649, 650, 651, 654, 657, 658, 659, 660, 661, 662, 663, 664, 665, 666, 667, 668, 669, 670, 673, 674, 675, 676, 677, 678, 679, 680, 681, 682, 683, 684, 687, 690, 691, 692, 693, 694, 695, 696, 697, 698, 699, 700, 701, 702, 703, 706, 707, 708, 709, 710, 711, 712, 713, 714, 715, 716, 717, 720, 723, 724, 725, 726, 727, 728, 729, 730, 731, 732, 733, 734, 735, 736, 739, 740, 741, 742, 743, 744, 745, 746, 747, 748, 749, 750, 753, 756, 757, 758, 759, 760, 761, 762, 763, 764, 765, 766, 767, 768, 769, 772, 773, 774, 775, 776, 777, 778, 779, 780, 781, 782, 783, 786, 789, 790, 791, 792, 793, 794, 795, 796, 797, 798, 799, 800, 801, 802, 803, 804, 805, 806, 807, 808, 809, 810, 811, 812, 815, 816, 817, 818, 819, 820, 821, 822, 823, 824, 825, 826, 827, 828, 829, 830, 831, 832, 833, 834, 835, 836, 839, 842, 843, 844, 845, 846, 847, 848, 849, 850, 851, 852, 853, 854, 855, 858, 859, 860, 861, 862, 863, 864, 865, 866, 867, 868, 869, 872, 875, 876, 877, 878, 879, 880, 881, 882, 883, 886, 887, 888, 889, 890, 891, 892, 895, 898, 899, 900, 901, 904, 905, 908, 911, 912, 913, 914, 915, 916, 917, 918, 919, 920, 921, 922, 923, 924, 927, 928, 929, 930, 931, 932, 933, 934, 935, 936, 937, 938, 941, 944, 945, 946, 947, 948, 949, 950, 951, 952, 955, 956, 957, 958, 959, 960, 961, 964, 967, 968, 969, 970, 973, 974, 977, 980, 981, 982, 983, 984, 985, 986, 987, 988, 991, 992, 993, 994, 995, 996, 997, 1000, 1003, 1004, 1005, 1006, 1007, 1008, 1009, 1010, 1011, 1014, 1015, 1016, 1017, 1018, 1019, 1020, 1023, 1026, 1027, 1028, 1029, 1030, 1031, 1032, 1033, 1034, 1035, 1036, 1037, 1038, 1039, 1040, 1041, 1042, 1043, 1044, 1047, 1048, 1049, 1050, 1051, 1052, 1053, 1054, 1055, 1056, 1057, 1058, 1059, 1060, 1061, 1062, 1063, 1066, 1069, 1070, 1071, 1072, 1073, 1074, 1075, 1076, 1077, 1078, 1079, 1080, 1081, 1082, 1083, 1084, 1085, 1086, 1087, 1090, 1091, 1092, 1093, 1094, 1095, 1096, 1097, 1098, 1099, 1100, 1101, 1102, 1103, 1104, 1105, 1106, 1109, 1112, 1113, 1114, 1115, 1116, 1117, 1118, 1119, 1120, 1121, 1122, 1123, 1124, 1125, 1126, 1127, 1128, 1129, 1130, 1131, 1132, 1133, 1134, 1135, 1138, 1139, 1140, 1141, 1142, 1143, 1144, 1145, 1146, 1147, 1148, 1149, 1150, 1151, 1152, 1153, 1154, 1155, 1156, 1157, 1158, 1159, 1162, 1165, 1166, 1167, 1168, 1169, 1170, 1171, 1172, 1173, 1174, 1175, 1176, 1177, 1178, 1179, 1180, 1181, 1182, 1183, 1186, 1187, 1188, 1189, 1190, 1191, 1192, 1193, 1194, 1195, 1196, 1197, 1198, 1199, 1200, 1201, 1202, 1205, 1208, 1209, 1210, 1211, 1212, 1213, 1214, 1215, 1216, 1217, 1218, 1219, 1220, 1221, 1222, 1223, 1224, 1225, 1226, 1229, 1230, 1231, 1232, 1233, 1234, 1235, 1236, 1237, 1238, 1239, 1240, 1241, 1242, 1243, 1244, 1245, 1248, 1251, 1252, 1253, 1254, 1255, 1256, 1257, 1258, 1259, 1260, 1261, 1262, 1263, 1264, 1267, 1268, 1269, 1270, 1271, 1272, 1273, 1274, 1275, 1276, 1277, 1278, 1281, 1284, 1285, 1286, 1287, 1288, 1289, 1290, 1291, 1292, 1295, 1296, 1297, 1298, 1299, 1300, 1301, 1304, 1307, 1308, 1309, 1310, 1311, 1312, 1313, 1314, 1315, 1316, 1317, 1318, 1319, 1320, 1321, 1322, 1323, 1324, 1325, 1328, 1329, 1330, 1331, 1332, 1333, 1334, 1335, 1336, 1337, 1338, 1339, 1340, 1341, 1342, 1343, 1344, 1347, 1350, 1351, 1352, 1353, 1354, 1355, 1356, 1357, 1358, 1359, 1360, 1361, 1362, 1363, 1366, 1367, 1368, 1369, 1370, 1371, 1372, 1373, 1374, 1375, 1376, 1377, 1380, 1383, 1384, 1385, 1386, 1387, 1388, 1389, 1390, 1391, 1392, 1393, 1394, 1395, 1396, 1399, 1400, 1401, 1402, 1403, 1404, 1405, 1406, 1407, 1408, 1409, 1410, 1413, 1416, 1417, 1418, 1419, 1420, 1421, 1422, 1423, 1424, 1425, 1426, 1427, 1428, 1429, 1432, 1433, 1434, 1435, 1436, 1437, 1438, 1439, 1440, 1441, 1442, 1443, 1446, 1449, 1450, 1451, 1452, 1453, 1454, 1455, 1456, 1457, 1458, 1459, 1460, 1461, 1462, 1465, 1466, 1467, 1468, 1469, 1470, 1471, 1472, 1473, 1474, 1475, 1476, 1479, 1482, 1483, 1484, 1485, 1488, 1489, 1492, 1495, 1496, 1497, 1498, 1499, 1500, 1501, 1502, 1503, 1504, 1505, 1506, 1507, 1508, 1509, 1510, 1511, 1512, 1513, 1514, 1515, 1516, 1517, 1518, 1521, 1522, 1523, 1524, 1525, 1526, 1527, 1528, 1529, 1530, 1531, 1532, 1533, 1534, 1535, 1536, 1537, 1538, 1539, 1540, 1541, 1542, 1545, 1548, 1549, 1550, 1551, 1554, 1555, 1558, 1561, 1562, 1563, 1564, 1565, 1566, 1567, 1568, 1569, 1572, 1573, 1576, 1577, 1580, 1581, 1582, 1583, 1584, 1585, 1586, 1589, 1590, 1593, 1594, 1597, 1600, 1601, 1602, 1603, 1604, 1605, 1606, 1607, 1608, 1611, 1612, 1613, 1614, 1615, 1616, 1617, 1620, 1623, 1624, 1625, 1628, 1631, 1632, 1633]
end
section
/-! numbers of the abstract machine and of the real one -/
theorem am_in_wrap (z : Int) : am_in (am_wrap z) := by
  unfold am_wrap
  constructor <;> omega
theorem am_toInt {x : Int} (h : am_in x) : (Int32.ofInt x).toInt = x := by
  rw [Int32.toInt_ofInt, Int.bmod_def]
  obtain ⟨h1, h2⟩ := h
  simp only [Int32.size]
  split <;> omega
theorem am_in_toInt (x : Int32) : am_in x.toInt := ⟨Int32.le_toInt x, Int32.toInt_lt x⟩
theorem am_ofInt_wrap (z : Int) : Int32.ofInt (am_wrap z) = Int32.ofInt z := by
  rw [← Int32.toInt_inj, Int32.toInt_ofInt, Int32.toInt_ofInt, Int.bmod_def, Int.bmod_def]
  unfold am_wrap
  simp only [Int32.size]
  split <;> split <;> omega
theorem am_eq {x y : Int} (hx : am_in x) (hy : am_in y) : Int32.ofInt x = Int32.ofInt y ↔ x = y := by
  rw [← Int32.toInt_inj, am_toInt hx, am_toInt hy]
theorem am_lt {x y : Int} (hx : am_in x) (hy : am_in y) : Int32.ofInt x < Int32.ofInt y ↔ x < y := by
  rw [Int32.lt_iff_toInt_lt, am_toInt hx, am_toInt hy]
theorem am_le {x y : Int} (hx : am_in x) (hy : am_in y) : Int32.ofInt x ≤ Int32.ofInt y ↔ x ≤ y := by
  rw [Int32.le_iff_toInt_le, am_toInt hx, am_toInt hy]
theorem am_eq0 {x : Int} (hx : am_in x) : Int32.ofInt x = 0 ↔ x = 0 := am_eq (y := 0) hx (by constructor <;> decide)
theorem am_lt0 {x : Int} (hx : am_in x) : Int32.ofInt x < 0 ↔ x < 0 := am_lt (y := 0) hx (by constructor <;> decide)
theorem am_0lt {x : Int} (hx : am_in x) : 0 < Int32.ofInt x ↔ 0 < x := am_lt (x := 0) (by constructor <;> decide) hx
theorem am_clamp {i : Int} (hi : am_in i) : (Int32.ofInt i).toNatClampNeg = i.toNat := by
  show (Int32.ofInt i).toInt.toNat = _
  rw [am_toInt hi]
theorem am_vin {i : Int} {n : Nat} (hi : am_in i) (h : 0 ≤ i ∧ i < n) : vp_in (Int32.ofInt i) n := by
  rw [vp_in_iff, am_toInt hi]; exact h
theorem am_int (x : Int32) : Int32.ofInt x.toInt = x := Int32.ofInt_toInt x
theorem am_e_add (x y : Int) : Int32.ofInt (am_wrap (x + y)) = Int32.ofInt x + Int32.ofInt y := by rw [am_ofInt_wrap, Int32.ofInt_add]
theorem am_e_mul (x y : Int) : Int32.ofInt (am_wrap (x * y)) = Int32.ofInt x * Int32.ofInt y := by rw [am_ofInt_wrap, Int32.ofInt_mul]
theorem am_e_sub (x y : Int) : Int32.ofInt (am_wrap (x - y)) = Int32.ofInt x - Int32.ofInt y := by rw [am_ofInt_wrap, Int32.ofInt_sub]
theorem am_e_neg (x : Int) : Int32.ofInt (am_wrap (-x)) = - Int32.ofInt x := by rw [am_ofInt_wrap, Int32.ofInt_neg]
theorem am_e_chr (x : Int) : Int32.ofInt (am_chr x) = ((Int32.ofInt x).toUInt32 % 65536).toInt32 := by
  rw [pk_char]
  show Int32.ofInt (x % 65536) = nI ((Int32.ofInt x).toBitVec.toNat % 65536)
  have h : ((Int32.ofInt x).toBitVec.toNat % 65536 : Nat) = (x % 65536).toNat := by
    rw [Int32.toBitVec_ofInt, BitVec.toNat_ofInt]
    omega
  rw [h]
  show Int32.ofInt (x % 65536) = nI (x % 65536).toNat
  rw [← Int32.toInt_inj, am_toInt (by constructor <;> omega), nI_toInt (by omega)]
  omega
theorem am_in_chr (x : Int) : am_in (am_chr x) := by
  unfold am_chr
  constructor <;> omega
end
section
/-! the real heap's cells that an abstract memory stands for -/
section WLD
variable (D : va_G) (ad : Nat → Nat) (cA : Nat → ClassId)
def am_fld (M : am_M) (k ci : Nat) (j : Nat) : Value := if am_isr ci j = true then .ref (ad (am_rf k j)) else .int (Int32.ofInt (M k j))
def am_fs (M : am_M) (k ci : Nat) : List Value := (List.range (am_nf ci)).map (am_fld ad M k ci)
def am_ln (k : Nat) : Nat := (am_len (fun _ _ => 0) k).toNat
def am_row (M : am_M) (k : Nat) : Nat → Int32 := fun j => Int32.ofInt (M k j)
def am_rrow (k : Nat) : Nat → Option Nat := fun j => some (ad (am_rf k j))
def am_cell (M : am_M) (k : Nat) : va_E :=
  if am_cls k = 9 ∨ am_cls k = 10 then .inl (cA (am_cls k), am_ln k, .inl (am_row M k))
  else if am_cls k = 11 ∨ am_cls k = 14 then .inl (cA (am_cls k), am_ln k, .inr (.inr (.inr (.inr (am_rrow ad k)))))
  else .inr (am_cls k, am_fs ad M k (am_cls k))
def am_ws (M : am_M) : va_W := (List.range 199).map (fun k => (ad k, am_cell ad cA M k))
def am_A : Nat → Prop := fun q => ∃ k, k < 199 ∧ q = ad k
theorem am_ws_get (M : am_M) {k : Nat} (h : k < 199) : (am_ws ad cA M)[k]? = some (ad k, am_cell ad cA M k) := by
  simp [am_ws, List.getElem?_map, List.getElem?_range h]
theorem am_ws_len (M : am_M) : (am_ws ad cA M).length = 199 := by simp [am_ws]
theorem am_own {a c : Nat} (h : am_cls a = c) (hc : c < 8 ∨ c = 9 ∨ c = 10 ∨ c = 11 ∨ c = 14) : a < 199 := by
  rcases Nat.lt_or_ge a 199 with h1 | h1
  · exact h1
  · exfalso
    have key : ∀ b, b < 256 → 199 ≤ b → am_cls b = 12 ∨ am_cls b = 15 := by decide +kernel
    rcases Nat.lt_or_ge a 256 with h2 | h2
    · rcases key a h2 h1 with h3 | h3 <;> omega
    · have e : am_cls a = (cond (Nat.ble a 299) 15 (cond (Nat.ble a 335) 8 (cond (Nat.ble a 399) 15 (cond (Nat.ble a 435) 13 15)))) := by
        unfold am_cls
        rw [show Nat.ble a 255 = false from by
          rw [← Bool.not_eq_true]; intro q; have := Nat.le_of_ble_eq_true q; omega]
        rfl
      rw [e] at h
      revert h
      cases Nat.ble a 299 <;> cases Nat.ble a 335 <;> cases Nat.ble a 399 <;> cases Nat.ble a 435 <;> simp only [cond] <;> omega
theorem am_ws_set {M M' : am_M} {k : Nat} (hk : k < 199) {e : va_E} (he : am_cell ad cA M' k = e) (ho : ∀ b, b ≠ k → am_cell ad cA M' b = am_cell ad cA M b) : (am_ws ad cA M).set k (ad k, e) = am_ws ad cA M' := by
  apply List.ext_getElem?
  intro j
  rw [List.getElem?_set, am_ws_len]
  by_cases hj : k = j
  · subst hj
    rw [if_pos rfl, if_pos hk, am_ws_get ad cA M' hk, he]
  · rw [if_neg hj]
    rcases Nat.lt_or_ge j 199 with h | h
    · rw [am_ws_get ad cA M h, am_ws_get ad cA M' h, ho j (fun q => hj q.symm)]
    · rw [List.getElem?_eq_none (by rw [am_ws_len]; exact h), List.getElem?_eq_none (by rw [am_ws_len]; exact h)]
theorem am_cell_other {M M' : am_M} {k : Nat} (h : ∀ b, b ≠ k → M' b = M b) : ∀ b, b ≠ k → am_cell ad cA M' b = am_cell ad cA M b := by
  intro b hb
  have hr : am_row M' b = am_row M b := by funext j; simp only [am_row, h b hb]
  have hg : am_fld ad M' b (am_cls b) = am_fld ad M b (am_cls b) := by funext j; simp only [am_fld, h b hb]
  have hf : am_fs ad M' b (am_cls b) = am_fs ad M b (am_cls b) := by simp only [am_fs, hg]
  simp only [am_cell, hr, hf]
theorem am_upd_other (M : am_M) (a : Nat) (i v : Int) : ∀ b, b ≠ a → am_upd M a i v b = M b := by
  intro b hb
  funext j
  simp [am_upd, hb]
theorem am_cpy_other (M : am_M) (a : Nat) (i : Int) (b : Nat) (j n : Int) : ∀ c, c ≠ b → am_cpy M a i b j n c = M c := by
  intro c hc
  funext k
  simp [am_cpy, hc]
/-- a field of an object is written -/
theorem am_set_f {M : am_M} {k ci j : Nat} {v : Int} (hk : am_cls k = ci) (hc : ci < 8) (hr : am_isr ci j = false) : (am_ws ad cA M).set k (ad k, .inr (ci, (am_fs ad M k ci).set j (.int (Int32.ofInt v)))) = am_ws ad cA (am_upd M k j v) := by
  refine am_ws_set ad cA (am_own hk (Or.inl hc)) ?_ (am_cell_other ad cA (am_upd_other M k j v))
  have h9 : ¬ (am_cls k = 9 ∨ am_cls k = 10) := by omega
  have h11 : ¬ (am_cls k = 11 ∨ am_cls k = 14) := by omega
  rw [am_cell, if_neg h9, if_neg h11, hk]
  congr 2
  apply List.ext_getElem?
  intro i
  simp only [am_fs, List.getElem?_set, List.getElem?_map, List.length_map, List.length_range]
  by_cases hi : i < am_nf ci
  · rw [List.getElem?_range hi]
    by_cases hj : j = i
    · subst hj
      simp [hi, am_fld, hr, am_upd]
    · have hj' : ¬ (i : Int) = (j : Int) := by omega
      simp [hj, am_fld, am_upd, hj']
  · rw [List.getElem?_eq_none (by simp; omega)]
    by_cases hj : j = i
    · subst hj
      simp [hi]
    · simp [hj]
/-- an element of a row is written -/
theorem am_set_r {M : am_M} {k c : Nat} {i v : Int} (hk : am_cls k = c) (hc : c = 9 ∨ c = 10) (hi : 0 ≤ i) : (am_ws ad cA M).set k (ad k, .inl (cA c, am_ln k, .inl (upd (am_row M k) i.toNat (Int32.ofInt v)))) = am_ws ad cA (am_upd M k i v) := by
  refine am_ws_set ad cA (am_own hk (by omega)) ?_ (am_cell_other ad cA (am_upd_other M k i v))
  rw [am_cell, if_pos (show am_cls k = 9 ∨ am_cls k = 10 from by omega), hk]
  congr 4
  funext j
  simp only [am_row, upd, am_upd]
  by_cases hj : j = i.toNat
  · rw [if_pos hj, if_pos ⟨trivial, by omega⟩]
  · rw [if_neg hj, if_neg (by omega)]
/-- a stretch of a row is copied -/
theorem am_set_c {M : am_M} {a k : Nat} {i j n : Int} (hk : am_cls k = 9) (hi : 0 ≤ i) (hj : 0 ≤ j) (hn : 0 ≤ n) : (am_ws ad cA M).set k (ad k, .inl (cA 9, am_ln k, .inl (va_cpy (am_row M a) (am_row M k) i.toNat j.toNat n.toNat))) = am_ws ad cA (am_cpy M a i k j n) := by
  refine am_ws_set ad cA (am_own hk (by omega)) ?_ (am_cell_other ad cA (am_cpy_other M a i k j n))
  rw [am_cell, if_pos (show am_cls k = 9 ∨ am_cls k = 10 from by omega), hk]
  congr 4
  funext q
  simp only [am_row, va_cpy, am_cpy]
  by_cases hq : j.toNat ≤ q ∧ q < j.toNat + n.toNat
  · rw [if_pos hq, if_pos ⟨trivial, by omega, by omega⟩]
    congr 2
    omega
  · rw [if_neg hq, if_neg (by omega)]
end WLD
end
section
/-! the tables say what the links are -/
theorem lw_i1 {w : Cond} (h : w ∈ tables_1_1) : w ∈ lw_tbl := List.mem_append_right _ (List.mem_append_left _ h)
theorem lw_i2 {w : Cond} (h : w ∈ tables_1_2) : w ∈ lw_tbl := List.mem_append_right _ (List.mem_append_right _ (List.mem_append_left _ h))
theorem lw_i3 {w : Cond} (h : w ∈ tables_1_3) : w ∈ lw_tbl := List.mem_append_right _ (List.mem_append_right _ (List.mem_append_right _ (List.mem_append_left _ h)))
theorem lw_i4 {w : Cond} (h : w ∈ tables_1_4) : w ∈ lw_tbl := List.mem_append_right _ (List.mem_append_right _ (List.mem_append_right _ (List.mem_append_right _ (List.mem_append_left _ h))))
theorem lw_i5 {w : Cond} (h : w ∈ tables_1_5) : w ∈ lw_tbl := List.mem_append_right _ (List.mem_append_right _ (List.mem_append_right _ (List.mem_append_right _ (List.mem_append_right _ (List.mem_append_left _ h)))))
theorem lw_i6 {w : Cond} (h : w ∈ tables_1_6) : w ∈ lw_tbl := List.mem_append_right _ (List.mem_append_right _ (List.mem_append_right _ (List.mem_append_right _ (List.mem_append_right _ (List.mem_append_right _ (List.mem_append_left _ h))))))
theorem lw_i7 {w : Cond} (h : w ∈ tables_1_7) : w ∈ lw_tbl := List.mem_append_right _ (List.mem_append_right _ (List.mem_append_right _ (List.mem_append_right _ (List.mem_append_right _ (List.mem_append_right _ (List.mem_append_right _ (h)))))))
theorem lw_s1 {q : MethodName × Nat} (h : q ∈ lw_privs_1) : Cond.selects q.1.cls q.1 q.1 ∈ lw_tbl := List.mem_append_left _ (List.mem_map.mpr ⟨q, List.mem_append_left _ h, rfl⟩)
theorem lw_s2 {q : MethodName × Nat} (h : q ∈ lw_privs_2) : Cond.selects q.1.cls q.1 q.1 ∈ lw_tbl := List.mem_append_left _ (List.mem_map.mpr ⟨q, List.mem_append_right _ (List.mem_append_left _ h), rfl⟩)
theorem lw_s3 {q : MethodName × Nat} (h : q ∈ lw_privs_3) : Cond.selects q.1.cls q.1 q.1 ∈ lw_tbl := List.mem_append_left _ (List.mem_map.mpr ⟨q, List.mem_append_right _ (List.mem_append_right _ (List.mem_append_left _ h)), rfl⟩)
theorem lw_s4 {q : MethodName × Nat} (h : q ∈ lw_privs_4) : Cond.selects q.1.cls q.1 q.1 ∈ lw_tbl := List.mem_append_left _ (List.mem_map.mpr ⟨q, List.mem_append_right _ (List.mem_append_right _ (List.mem_append_right _ (List.mem_append_left _ h))), rfl⟩)
theorem lw_s5 {q : MethodName × Nat} (h : q ∈ lw_privs_5) : Cond.selects q.1.cls q.1 q.1 ∈ lw_tbl := List.mem_append_left _ (List.mem_map.mpr ⟨q, List.mem_append_right _ (List.mem_append_right _ (List.mem_append_right _ (List.mem_append_right _ (List.mem_append_left _ h)))), rfl⟩)
theorem lw_s6 {q : MethodName × Nat} (h : q ∈ lw_privs_6) : Cond.selects q.1.cls q.1 q.1 ∈ lw_tbl := List.mem_append_left _ (List.mem_map.mpr ⟨q, List.mem_append_right _ (List.mem_append_right _ (List.mem_append_right _ (List.mem_append_right _ (List.mem_append_right _ (List.mem_append_left _ h))))), rfl⟩)
theorem lw_s7 {q : MethodName × Nat} (h : q ∈ lw_privs_7) : Cond.selects q.1.cls q.1 q.1 ∈ lw_tbl := List.mem_append_left _ (List.mem_map.mpr ⟨q, List.mem_append_right _ (List.mem_append_right _ (List.mem_append_right _ (List.mem_append_right _ (List.mem_append_right _ (List.mem_append_right _ (List.mem_append_left _ h)))))), rfl⟩)
theorem lw_s8 {q : MethodName × Nat} (h : q ∈ lw_privs_8) : Cond.selects q.1.cls q.1 q.1 ∈ lw_tbl := List.mem_append_left _ (List.mem_map.mpr ⟨q, List.mem_append_right _ (List.mem_append_right _ (List.mem_append_right _ (List.mem_append_right _ (List.mem_append_right _ (List.mem_append_right _ (List.mem_append_right _ (h))))))), rfl⟩)
def am_FL (q : Nat × Nat × Nat × Nat × Nat) : Prop := ∃ (C : String) (T : u_T) (N : Nat), vwCl[q.2.2.1]? = some (C, T, N) ∧ q.2.2.2.1 < N ∧ (T q.2.2.2.1).1 = C ∧ Cond.fieldLink (am_cn q.1) q.2.1 C (T q.2.2.2.1).2.1 (T q.2.2.2.1).2.2.1 ∈ lw_tbl ∧ am_isr q.2.2.1 q.2.2.2.1 = Nat.beq q.2.2.2.2 1 ∧ q.2.2.1 < 8
def am_FP (q : Nat × Nat × Nat × Nat) : Prop := ∃ (C : String) (T : u_T) (N : Nat), vwCl[q.2.2.1]? = some (C, T, N) ∧ q.2.2.2 < N ∧ (T q.2.2.2).1 = C ∧ Cond.fieldLink (am_cn q.1) (q.2.1 / 2) C (T q.2.2.2).2.1 (T q.2.2.2).2.2.1 ∈ lw_tbl ∧ am_isr q.2.2.1 q.2.2.2 = false ∧ q.2.2.1 < 8 ∧ (T q.2.2.2).2.2.2 = false ∧ parseFieldDescriptor (T q.2.2.2).2.2.1 = some (cond (Nat.beq (q.2.1 % 2) 1) .boolean .int)
def am_GN (n : Nat) : String := (["FIRST_VERB", "LAST_VERB", "ASKS"] : List String).getD (n - 200) ""
def am_GL (q : Nat × Nat × Nat) : Prop := Cond.fieldLinkNest (am_cn q.1) q.2.1 "LentHands" (am_GN q.2.2) "[I" "LentHands" ∈ lw_tbl ∧ 200 ≤ q.2.2 ∧ q.2.2 < 203
def am_KL (q : Nat × Nat × Int) : Prop := Cond.constant (am_cn q.1) q.2.1 (Int32.ofInt q.2.2) ∈ lw_tbl
def am_AC (q : Nat × Nat) : Prop := Cond.methodLink (am_cn q.1) q.2 arraycopyName ∈ lw_tbl
def am_XL (q : Nat × Nat) : Prop := Cond.methodLink (am_cn q.1) q.2 Lib.Math.max.name ∈ lw_tbl
def am_NL (q : Nat × Nat) : Prop := Cond.methodLink (am_cn q.1) q.2 Lib.Math.min.name ∈ lw_tbl
theorem am_fl_0 : am_FL (7, 7, 7, 0, 1) := ⟨_, _, _, rfl, by decide, rfl, lw_i4 (List.mem_of_getElem? (i := 132) rfl), rfl, by decide⟩
theorem am_fl_1 : am_FL (7, 80, 7, 16, 0) := ⟨_, _, _, rfl, by decide, rfl, lw_i4 (List.mem_of_getElem? (i := 148) rfl), rfl, by decide⟩
theorem am_fl_2 : am_FL (7, 31, 7, 9, 1) := ⟨_, _, _, rfl, by decide, rfl, lw_i4 (List.mem_of_getElem? (i := 141) rfl), rfl, by decide⟩
theorem am_fl_3 : am_FL (7, 83, 7, 17, 0) := ⟨_, _, _, rfl, by decide, rfl, lw_i4 (List.mem_of_getElem? (i := 149) rfl), rfl, by decide⟩
theorem am_fl_4 : am_FL (7, 86, 7, 19, 0) := ⟨_, _, _, rfl, by decide, rfl, lw_i4 (List.mem_of_getElem? (i := 151) rfl), rfl, by decide⟩
theorem am_fl_5 : am_FL (7, 167, 7, 12, 0) := ⟨_, _, _, rfl, by decide, rfl, lw_i4 (List.mem_of_getElem? (i := 144) rfl), rfl, by decide⟩
theorem am_fl_6 : am_FL (7, 209, 7, 20, 0) := ⟨_, _, _, rfl, by decide, rfl, lw_i4 (List.mem_of_getElem? (i := 152) rfl), rfl, by decide⟩
theorem am_fl_7 : am_FL (7, 197, 7, 18, 0) := ⟨_, _, _, rfl, by decide, rfl, lw_i4 (List.mem_of_getElem? (i := 150) rfl), rfl, by decide⟩
theorem am_fl_8 : am_FL (7, 25, 7, 7, 1) := ⟨_, _, _, rfl, by decide, rfl, lw_i4 (List.mem_of_getElem? (i := 139) rfl), rfl, by decide⟩
theorem am_fl_9 : am_FL (7, 224, 7, 14, 0) := ⟨_, _, _, rfl, by decide, rfl, lw_i4 (List.mem_of_getElem? (i := 146) rfl), rfl, by decide⟩
theorem am_fl_10 : am_FL (7, 227, 7, 24, 0) := ⟨_, _, _, rfl, by decide, rfl, lw_i4 (List.mem_of_getElem? (i := 156) rfl), rfl, by decide⟩
theorem am_fl_11 : am_FL (7, 259, 7, 13, 0) := ⟨_, _, _, rfl, by decide, rfl, lw_i4 (List.mem_of_getElem? (i := 145) rfl), rfl, by decide⟩
theorem am_fl_12 : am_FL (7, 22, 7, 6, 1) := ⟨_, _, _, rfl, by decide, rfl, lw_i4 (List.mem_of_getElem? (i := 138) rfl), rfl, by decide⟩
theorem am_fl_13 : am_FL (7, 28, 7, 8, 1) := ⟨_, _, _, rfl, by decide, rfl, lw_i4 (List.mem_of_getElem? (i := 140) rfl), rfl, by decide⟩
theorem am_fl_14 : am_FL (7, 265, 7, 26, 0) := ⟨_, _, _, rfl, by decide, rfl, lw_i4 (List.mem_of_getElem? (i := 158) rfl), rfl, by decide⟩
theorem am_fl_15 : am_FL (7, 272, 7, 15, 0) := ⟨_, _, _, rfl, by decide, rfl, lw_i4 (List.mem_of_getElem? (i := 147) rfl), rfl, by decide⟩
theorem am_fl_16 : am_FL (7, 212, 7, 21, 0) := ⟨_, _, _, rfl, by decide, rfl, lw_i4 (List.mem_of_getElem? (i := 153) rfl), rfl, by decide⟩
theorem am_fl_17 : am_FL (7, 215, 7, 22, 0) := ⟨_, _, _, rfl, by decide, rfl, lw_i4 (List.mem_of_getElem? (i := 154) rfl), rfl, by decide⟩
theorem am_fl_18 : am_FL (7, 285, 7, 23, 0) := ⟨_, _, _, rfl, by decide, rfl, lw_i4 (List.mem_of_getElem? (i := 155) rfl), rfl, by decide⟩
theorem am_fl_19 : am_FL (7, 40, 7, 25, 0) := ⟨_, _, _, rfl, by decide, rfl, lw_i4 (List.mem_of_getElem? (i := 157) rfl), rfl, by decide⟩
theorem am_fl_20 : am_FL (7, 34, 7, 10, 1) := ⟨_, _, _, rfl, by decide, rfl, lw_i4 (List.mem_of_getElem? (i := 142) rfl), rfl, by decide⟩
theorem am_fl_21 : am_FL (7, 37, 7, 11, 1) := ⟨_, _, _, rfl, by decide, rfl, lw_i4 (List.mem_of_getElem? (i := 143) rfl), rfl, by decide⟩
theorem am_fl_22 : am_FL (7, 58, 7, 4, 0) := ⟨_, _, _, rfl, by decide, rfl, lw_i4 (List.mem_of_getElem? (i := 136) rfl), rfl, by decide⟩
theorem am_fl_23 : am_FL (7, 16, 7, 2, 1) := ⟨_, _, _, rfl, by decide, rfl, lw_i4 (List.mem_of_getElem? (i := 134) rfl), rfl, by decide⟩
theorem am_fl_24 : am_FL (7, 383, 7, 27, 0) := ⟨_, _, _, rfl, by decide, rfl, lw_i4 (List.mem_of_getElem? (i := 159) rfl), rfl, by decide⟩
theorem am_fl_25 : am_FL (7, 44, 7, 29, 1) := ⟨_, _, _, rfl, by decide, rfl, lw_i4 (List.mem_of_getElem? (i := 161) rfl), rfl, by decide⟩
theorem am_fl_26 : am_FL (7, 47, 7, 30, 1) := ⟨_, _, _, rfl, by decide, rfl, lw_i4 (List.mem_of_getElem? (i := 162) rfl), rfl, by decide⟩
theorem am_fl_27 : am_FL (7, 19, 7, 3, 1) := ⟨_, _, _, rfl, by decide, rfl, lw_i4 (List.mem_of_getElem? (i := 135) rfl), rfl, by decide⟩
theorem am_fl_28 : am_FL (7, 386, 7, 28, 0) := ⟨_, _, _, rfl, by decide, rfl, lw_i4 (List.mem_of_getElem? (i := 160) rfl), rfl, by decide⟩
theorem am_fl_29 : am_FL (7, 451, 7, 32, 0) := ⟨_, _, _, rfl, by decide, rfl, lw_i4 (List.mem_of_getElem? (i := 164) rfl), rfl, by decide⟩
theorem am_fl_30 : am_FL (7, 454, 7, 31, 0) := ⟨_, _, _, rfl, by decide, rfl, lw_i4 (List.mem_of_getElem? (i := 163) rfl), rfl, by decide⟩
theorem am_fl_31 : am_FL (7, 469, 7, 33, 0) := ⟨_, _, _, rfl, by decide, rfl, lw_i4 (List.mem_of_getElem? (i := 165) rfl), rfl, by decide⟩
theorem am_fl_32 : am_FL (7, 475, 7, 34, 0) := ⟨_, _, _, rfl, by decide, rfl, lw_i4 (List.mem_of_getElem? (i := 166) rfl), rfl, by decide⟩
theorem am_fl_33 : am_FL (7, 478, 7, 35, 0) := ⟨_, _, _, rfl, by decide, rfl, lw_i4 (List.mem_of_getElem? (i := 167) rfl), rfl, by decide⟩
theorem am_fl_34 : am_FL (7, 484, 7, 5, 0) := ⟨_, _, _, rfl, by decide, rfl, lw_i4 (List.mem_of_getElem? (i := 137) rfl), rfl, by decide⟩
theorem am_fl_35 : am_FL (7, 13, 7, 1, 1) := ⟨_, _, _, rfl, by decide, rfl, lw_i4 (List.mem_of_getElem? (i := 133) rfl), rfl, by decide⟩
theorem am_fl_36 : am_FL (5, 48, 5, 0, 0) := ⟨_, _, _, rfl, by decide, rfl, lw_i1 (List.mem_of_getElem? (i := 30) rfl), rfl, by decide⟩
theorem am_fl_37 : am_FL (5, 52, 5, 1, 0) := ⟨_, _, _, rfl, by decide, rfl, lw_i1 (List.mem_of_getElem? (i := 32) rfl), rfl, by decide⟩
theorem am_fl_38 : am_FL (5, 55, 5, 2, 0) := ⟨_, _, _, rfl, by decide, rfl, lw_i1 (List.mem_of_getElem? (i := 34) rfl), rfl, by decide⟩
theorem am_fl_39 : am_FL (5, 58, 5, 3, 0) := ⟨_, _, _, rfl, by decide, rfl, lw_i1 (List.mem_of_getElem? (i := 36) rfl), rfl, by decide⟩
theorem am_fl_40 : am_FL (5, 61, 5, 4, 0) := ⟨_, _, _, rfl, by decide, rfl, lw_i1 (List.mem_of_getElem? (i := 38) rfl), rfl, by decide⟩
theorem am_fl_41 : am_FL (5, 9, 5, 5, 1) := ⟨_, _, _, rfl, by decide, rfl, lw_i1 (List.mem_of_getElem? (i := 40) rfl), rfl, by decide⟩
theorem am_fl_42 : am_FL (5, 15, 5, 6, 1) := ⟨_, _, _, rfl, by decide, rfl, lw_i1 (List.mem_of_getElem? (i := 42) rfl), rfl, by decide⟩
theorem am_fl_43 : am_FL (5, 18, 5, 7, 1) := ⟨_, _, _, rfl, by decide, rfl, lw_i1 (List.mem_of_getElem? (i := 44) rfl), rfl, by decide⟩
theorem am_fl_44 : am_FL (5, 21, 5, 8, 1) := ⟨_, _, _, rfl, by decide, rfl, lw_i1 (List.mem_of_getElem? (i := 46) rfl), rfl, by decide⟩
theorem am_fl_45 : am_FL (5, 24, 5, 9, 1) := ⟨_, _, _, rfl, by decide, rfl, lw_i1 (List.mem_of_getElem? (i := 48) rfl), rfl, by decide⟩
theorem am_fl_46 : am_FL (5, 27, 5, 10, 1) := ⟨_, _, _, rfl, by decide, rfl, lw_i1 (List.mem_of_getElem? (i := 50) rfl), rfl, by decide⟩
theorem am_fl_47 : am_FL (5, 30, 5, 11, 1) := ⟨_, _, _, rfl, by decide, rfl, lw_i1 (List.mem_of_getElem? (i := 52) rfl), rfl, by decide⟩
theorem am_fl_48 : am_FL (5, 33, 5, 12, 1) := ⟨_, _, _, rfl, by decide, rfl, lw_i1 (List.mem_of_getElem? (i := 54) rfl), rfl, by decide⟩
theorem am_fl_49 : am_FL (5, 36, 5, 13, 1) := ⟨_, _, _, rfl, by decide, rfl, lw_i1 (List.mem_of_getElem? (i := 56) rfl), rfl, by decide⟩
theorem am_fl_50 : am_FL (5, 39, 5, 14, 1) := ⟨_, _, _, rfl, by decide, rfl, lw_i1 (List.mem_of_getElem? (i := 58) rfl), rfl, by decide⟩
theorem am_fl_51 : am_FL (5, 42, 5, 15, 1) := ⟨_, _, _, rfl, by decide, rfl, lw_i1 (List.mem_of_getElem? (i := 60) rfl), rfl, by decide⟩
theorem am_fl_52 : am_FL (5, 45, 5, 16, 1) := ⟨_, _, _, rfl, by decide, rfl, lw_i1 (List.mem_of_getElem? (i := 62) rfl), rfl, by decide⟩
theorem am_fl_53 : am_FL (1, 27, 1, 0, 0) := ⟨_, _, _, rfl, by decide, rfl, lw_i1 (List.mem_of_getElem? (i := 129) rfl), rfl, by decide⟩
theorem am_fl_54 : am_FL (1, 31, 1, 1, 0) := ⟨_, _, _, rfl, by decide, rfl, lw_i1 (List.mem_of_getElem? (i := 132) rfl), rfl, by decide⟩
theorem am_fl_55 : am_FL (1, 9, 1, 2, 1) := ⟨_, _, _, rfl, by decide, rfl, lw_i1 (List.mem_of_getElem? (i := 134) rfl), rfl, by decide⟩
theorem am_fl_56 : am_FL (1, 15, 1, 3, 1) := ⟨_, _, _, rfl, by decide, rfl, lw_i1 (List.mem_of_getElem? (i := 136) rfl), rfl, by decide⟩
theorem am_fl_57 : am_FL (1, 18, 1, 4, 1) := ⟨_, _, _, rfl, by decide, rfl, lw_i1 (List.mem_of_getElem? (i := 138) rfl), rfl, by decide⟩
theorem am_fl_58 : am_FL (1, 21, 1, 5, 1) := ⟨_, _, _, rfl, by decide, rfl, lw_i1 (List.mem_of_getElem? (i := 140) rfl), rfl, by decide⟩
theorem am_fl_59 : am_FL (1, 24, 1, 6, 1) := ⟨_, _, _, rfl, by decide, rfl, lw_i1 (List.mem_of_getElem? (i := 142) rfl), rfl, by decide⟩
theorem am_fl_60 : am_FL (1, 44, 0, 1, 1) := ⟨_, _, _, rfl, by decide, rfl, lw_i1 (List.mem_of_getElem? (i := 227) rfl), rfl, by decide⟩
theorem am_fl_61 : am_FL (1, 49, 0, 0, 1) := ⟨_, _, _, rfl, by decide, rfl, lw_i1 (List.mem_of_getElem? (i := 224) rfl), rfl, by decide⟩
theorem am_fl_62 : am_FL (3, 9, 3, 1, 1) := ⟨_, _, _, rfl, by decide, rfl, lw_i1 (List.mem_of_getElem? (i := 117) rfl), rfl, by decide⟩
theorem am_fl_63 : am_FL (3, 15, 3, 0, 0) := ⟨_, _, _, rfl, by decide, rfl, lw_i1 (List.mem_of_getElem? (i := 114) rfl), rfl, by decide⟩
theorem am_fl_64 : am_FL (4, 11, 4, 0, 1) := ⟨_, _, _, rfl, by decide, rfl, lw_i1 (List.mem_of_getElem? (i := 158) rfl), rfl, by decide⟩
theorem am_fl_65 : am_FL (4, 20, 4, 1, 1) := ⟨_, _, _, rfl, by decide, rfl, lw_i1 (List.mem_of_getElem? (i := 160) rfl), rfl, by decide⟩
theorem am_fl_66 : am_FL (4, 24, 4, 2, 1) := ⟨_, _, _, rfl, by decide, rfl, lw_i1 (List.mem_of_getElem? (i := 162) rfl), rfl, by decide⟩
theorem am_fl_67 : am_FL (2, 39, 2, 3, 0) := ⟨_, _, _, rfl, by decide, rfl, lw_i1 (List.mem_of_getElem? (i := 184) rfl), rfl, by decide⟩
theorem am_fl_68 : am_FL (2, 9, 2, 0, 1) := ⟨_, _, _, rfl, by decide, rfl, lw_i1 (List.mem_of_getElem? (i := 181) rfl), rfl, by decide⟩
theorem am_fl_69 : am_FL (2, 15, 2, 1, 1) := ⟨_, _, _, rfl, by decide, rfl, lw_i1 (List.mem_of_getElem? (i := 182) rfl), rfl, by decide⟩
theorem am_fl_70 : am_FL (2, 18, 2, 2, 1) := ⟨_, _, _, rfl, by decide, rfl, lw_i1 (List.mem_of_getElem? (i := 183) rfl), rfl, by decide⟩
theorem am_fl_71 : am_FL (2, 42, 2, 4, 0) := ⟨_, _, _, rfl, by decide, rfl, lw_i1 (List.mem_of_getElem? (i := 185) rfl), rfl, by decide⟩
theorem am_fl_72 : am_FL (2, 28, 2, 8, 1) := ⟨_, _, _, rfl, by decide, rfl, lw_i1 (List.mem_of_getElem? (i := 191) rfl), rfl, by decide⟩
theorem am_fl_73 : am_FL (2, 92, 1, 0, 0) := ⟨_, _, _, rfl, by decide, rfl, lw_i1 (List.mem_of_getElem? (i := 131) rfl), rfl, by decide⟩
theorem am_fl_74 : am_FL (2, 113, 1, 2, 1) := ⟨_, _, _, rfl, by decide, rfl, lw_i1 (List.mem_of_getElem? (i := 135) rfl), rfl, by decide⟩
theorem am_fl_75 : am_FL (2, 116, 1, 3, 1) := ⟨_, _, _, rfl, by decide, rfl, lw_i1 (List.mem_of_getElem? (i := 137) rfl), rfl, by decide⟩
theorem am_fl_76 : am_FL (2, 95, 1, 1, 0) := ⟨_, _, _, rfl, by decide, rfl, lw_i1 (List.mem_of_getElem? (i := 133) rfl), rfl, by decide⟩
theorem am_fl_77 : am_FL (2, 123, 1, 4, 1) := ⟨_, _, _, rfl, by decide, rfl, lw_i1 (List.mem_of_getElem? (i := 139) rfl), rfl, by decide⟩
theorem am_fl_78 : am_FL (2, 129, 1, 5, 1) := ⟨_, _, _, rfl, by decide, rfl, lw_i1 (List.mem_of_getElem? (i := 141) rfl), rfl, by decide⟩
theorem am_fl_79 : am_FL (2, 101, 2, 7, 0) := ⟨_, _, _, rfl, by decide, rfl, lw_i1 (List.mem_of_getElem? (i := 190) rfl), rfl, by decide⟩
theorem am_fl_80 : am_FL (2, 35, 2, 9, 1) := ⟨_, _, _, rfl, by decide, rfl, lw_i1 (List.mem_of_getElem? (i := 193) rfl), rfl, by decide⟩
theorem am_fl_81 : am_FL (2, 146, 3, 0, 0) := ⟨_, _, _, rfl, by decide, rfl, lw_i1 (List.mem_of_getElem? (i := 116) rfl), rfl, by decide⟩
theorem am_fl_82 : am_FL (2, 154, 3, 1, 1) := ⟨_, _, _, rfl, by decide, rfl, lw_i1 (List.mem_of_getElem? (i := 118) rfl), rfl, by decide⟩
theorem am_fl_83 : am_FL (6, 10, 6, 0, 1) := ⟨_, _, _, rfl, by decide, rfl, lw_i1 (List.mem_of_getElem? (i := 233) rfl), rfl, by decide⟩
theorem am_fl_84 : am_FL (6, 64, 5, 0, 0) := ⟨_, _, _, rfl, by decide, rfl, lw_i1 (List.mem_of_getElem? (i := 31) rfl), rfl, by decide⟩
theorem am_fl_85 : am_FL (6, 75, 5, 2, 0) := ⟨_, _, _, rfl, by decide, rfl, lw_i1 (List.mem_of_getElem? (i := 35) rfl), rfl, by decide⟩
theorem am_fl_86 : am_FL (6, 96, 6, 12, 0) := ⟨_, _, _, rfl, by decide, rfl, lw_i2 (List.mem_of_getElem? (i := 5) rfl), rfl, by decide⟩
theorem am_fl_87 : am_FL (6, 43, 6, 11, 1) := ⟨_, _, _, rfl, by decide, rfl, lw_i2 (List.mem_of_getElem? (i := 4) rfl), rfl, by decide⟩
theorem am_fl_88 : am_FL (6, 50, 6, 13, 1) := ⟨_, _, _, rfl, by decide, rfl, lw_i2 (List.mem_of_getElem? (i := 6) rfl), rfl, by decide⟩
theorem am_fl_89 : am_FL (6, 26, 6, 5, 1) := ⟨_, _, _, rfl, by decide, rfl, lw_i1 (List.mem_of_getElem? (i := 238) rfl), rfl, by decide⟩
theorem am_fl_90 : am_FL (6, 110, 4, 0, 1) := ⟨_, _, _, rfl, by decide, rfl, lw_i1 (List.mem_of_getElem? (i := 159) rfl), rfl, by decide⟩
theorem am_fl_91 : am_FL (6, 114, 2, 8, 1) := ⟨_, _, _, rfl, by decide, rfl, lw_i1 (List.mem_of_getElem? (i := 192) rfl), rfl, by decide⟩
theorem am_fl_92 : am_FL (6, 124, 1, 0, 0) := ⟨_, _, _, rfl, by decide, rfl, lw_i1 (List.mem_of_getElem? (i := 130) rfl), rfl, by decide⟩
theorem am_fl_93 : am_FL (6, 130, 4, 1, 1) := ⟨_, _, _, rfl, by decide, rfl, lw_i1 (List.mem_of_getElem? (i := 161) rfl), rfl, by decide⟩
theorem am_fl_94 : am_FL (6, 134, 2, 9, 1) := ⟨_, _, _, rfl, by decide, rfl, lw_i1 (List.mem_of_getElem? (i := 194) rfl), rfl, by decide⟩
theorem am_fl_95 : am_FL (6, 142, 4, 2, 1) := ⟨_, _, _, rfl, by decide, rfl, lw_i1 (List.mem_of_getElem? (i := 163) rfl), rfl, by decide⟩
theorem am_fl_96 : am_FL (6, 145, 3, 0, 0) := ⟨_, _, _, rfl, by decide, rfl, lw_i1 (List.mem_of_getElem? (i := 115) rfl), rfl, by decide⟩
theorem am_fl_97 : am_FL (6, 146, 2, 5, 0) := ⟨_, _, _, rfl, by decide, rfl, lw_i1 (List.mem_of_getElem? (i := 187) rfl), rfl, by decide⟩
theorem am_fl_98 : am_FL (6, 149, 2, 6, 0) := ⟨_, _, _, rfl, by decide, rfl, lw_i1 (List.mem_of_getElem? (i := 189) rfl), rfl, by decide⟩
theorem am_fl_99 : am_FL (6, 169, 5, 9, 1) := ⟨_, _, _, rfl, by decide, rfl, lw_i1 (List.mem_of_getElem? (i := 49) rfl), rfl, by decide⟩
theorem am_fl_100 : am_FL (6, 172, 5, 10, 1) := ⟨_, _, _, rfl, by decide, rfl, lw_i1 (List.mem_of_getElem? (i := 51) rfl), rfl, by decide⟩
theorem am_fl_101 : am_FL (6, 179, 5, 7, 1) := ⟨_, _, _, rfl, by decide, rfl, lw_i1 (List.mem_of_getElem? (i := 45) rfl), rfl, by decide⟩
theorem am_fl_102 : am_FL (6, 186, 5, 8, 1) := ⟨_, _, _, rfl, by decide, rfl, lw_i1 (List.mem_of_getElem? (i := 47) rfl), rfl, by decide⟩
theorem am_fl_103 : am_FL (6, 193, 5, 4, 0) := ⟨_, _, _, rfl, by decide, rfl, lw_i1 (List.mem_of_getElem? (i := 39) rfl), rfl, by decide⟩
theorem am_fl_104 : am_FL (6, 30, 6, 6, 1) := ⟨_, _, _, rfl, by decide, rfl, lw_i1 (List.mem_of_getElem? (i := 239) rfl), rfl, by decide⟩
theorem am_fl_105 : am_FL (6, 196, 5, 1, 0) := ⟨_, _, _, rfl, by decide, rfl, lw_i1 (List.mem_of_getElem? (i := 33) rfl), rfl, by decide⟩
theorem am_fl_106 : am_FL (6, 19, 6, 2, 1) := ⟨_, _, _, rfl, by decide, rfl, lw_i1 (List.mem_of_getElem? (i := 235) rfl), rfl, by decide⟩
theorem am_fl_107 : am_FL (6, 209, 6, 4, 0) := ⟨_, _, _, rfl, by decide, rfl, lw_i1 (List.mem_of_getElem? (i := 237) rfl), rfl, by decide⟩
theorem am_fl_108 : am_FL (6, 215, 6, 3, 0) := ⟨_, _, _, rfl, by decide, rfl, lw_i1 (List.mem_of_getElem? (i := 236) rfl), rfl, by decide⟩
theorem am_fl_109 : am_FL (6, 34, 6, 7, 1) := ⟨_, _, _, rfl, by decide, rfl, lw_i2 (List.mem_of_getElem? (i := 0) rfl), rfl, by decide⟩
theorem am_fl_110 : am_FL (6, 37, 6, 8, 1) := ⟨_, _, _, rfl, by decide, rfl, lw_i2 (List.mem_of_getElem? (i := 1) rfl), rfl, by decide⟩
theorem am_fl_111 : am_FL (6, 40, 6, 9, 1) := ⟨_, _, _, rfl, by decide, rfl, lw_i2 (List.mem_of_getElem? (i := 2) rfl), rfl, by decide⟩
theorem am_fl_112 : am_FL (6, 232, 6, 10, 0) := ⟨_, _, _, rfl, by decide, rfl, lw_i2 (List.mem_of_getElem? (i := 3) rfl), rfl, by decide⟩
theorem am_fl_113 : am_FL (6, 236, 5, 5, 1) := ⟨_, _, _, rfl, by decide, rfl, lw_i1 (List.mem_of_getElem? (i := 41) rfl), rfl, by decide⟩
theorem am_fl_114 : am_FL (6, 239, 5, 6, 1) := ⟨_, _, _, rfl, by decide, rfl, lw_i1 (List.mem_of_getElem? (i := 43) rfl), rfl, by decide⟩
theorem am_fl_115 : am_FL (6, 248, 5, 11, 1) := ⟨_, _, _, rfl, by decide, rfl, lw_i1 (List.mem_of_getElem? (i := 53) rfl), rfl, by decide⟩
theorem am_fl_116 : am_FL (6, 251, 5, 12, 1) := ⟨_, _, _, rfl, by decide, rfl, lw_i1 (List.mem_of_getElem? (i := 55) rfl), rfl, by decide⟩
theorem am_fl_117 : am_FL (6, 254, 5, 13, 1) := ⟨_, _, _, rfl, by decide, rfl, lw_i1 (List.mem_of_getElem? (i := 57) rfl), rfl, by decide⟩
theorem am_fl_118 : am_FL (6, 257, 5, 14, 1) := ⟨_, _, _, rfl, by decide, rfl, lw_i1 (List.mem_of_getElem? (i := 59) rfl), rfl, by decide⟩
theorem am_fl_119 : am_FL (6, 260, 5, 15, 1) := ⟨_, _, _, rfl, by decide, rfl, lw_i1 (List.mem_of_getElem? (i := 61) rfl), rfl, by decide⟩
theorem am_fl_120 : am_FL (6, 269, 5, 3, 0) := ⟨_, _, _, rfl, by decide, rfl, lw_i1 (List.mem_of_getElem? (i := 37) rfl), rfl, by decide⟩
theorem am_fl_121 : am_FL (6, 57, 6, 14, 1) := ⟨_, _, _, rfl, by decide, rfl, lw_i2 (List.mem_of_getElem? (i := 7) rfl), rfl, by decide⟩
theorem am_fl_122 : am_FL (6, 288, 0, 0, 1) := ⟨_, _, _, rfl, by decide, rfl, lw_i1 (List.mem_of_getElem? (i := 225) rfl), rfl, by decide⟩
theorem am_fl_123 : am_FL (6, 61, 6, 15, 1) := ⟨_, _, _, rfl, by decide, rfl, lw_i2 (List.mem_of_getElem? (i := 8) rfl), rfl, by decide⟩
theorem am_fl_124 : am_FL (6, 16, 6, 1, 1) := ⟨_, _, _, rfl, by decide, rfl, lw_i1 (List.mem_of_getElem? (i := 234) rfl), rfl, by decide⟩
theorem am_fl_all : ∀ q ∈ am_fl, am_FL q := List.forall_mem_cons.mpr ⟨am_fl_0, List.forall_mem_cons.mpr ⟨am_fl_1, List.forall_mem_cons.mpr ⟨am_fl_2, List.forall_mem_cons.mpr ⟨am_fl_3, List.forall_mem_cons.mpr ⟨am_fl_4, List.forall_mem_cons.mpr ⟨am_fl_5, List.forall_mem_cons.mpr ⟨am_fl_6, List.forall_mem_cons.mpr ⟨am_fl_7, List.forall_mem_cons.mpr ⟨am_fl_8, List.forall_mem_cons.mpr ⟨am_fl_9, List.forall_mem_cons.mpr ⟨am_fl_10, List.forall_mem_cons.mpr ⟨am_fl_11, List.forall_mem_cons.mpr ⟨am_fl_12, List.forall_mem_cons.mpr ⟨am_fl_13, List.forall_mem_cons.mpr ⟨am_fl_14, List.forall_mem_cons.mpr ⟨am_fl_15, List.forall_mem_cons.mpr ⟨am_fl_16, List.forall_mem_cons.mpr ⟨am_fl_17, List.forall_mem_cons.mpr ⟨am_fl_18, List.forall_mem_cons.mpr ⟨am_fl_19, List.forall_mem_cons.mpr ⟨am_fl_20, List.forall_mem_cons.mpr ⟨am_fl_21, List.forall_mem_cons.mpr ⟨am_fl_22, List.forall_mem_cons.mpr ⟨am_fl_23, List.forall_mem_cons.mpr ⟨am_fl_24, List.forall_mem_cons.mpr ⟨am_fl_25, List.forall_mem_cons.mpr ⟨am_fl_26, List.forall_mem_cons.mpr ⟨am_fl_27, List.forall_mem_cons.mpr ⟨am_fl_28, List.forall_mem_cons.mpr ⟨am_fl_29, List.forall_mem_cons.mpr ⟨am_fl_30, List.forall_mem_cons.mpr ⟨am_fl_31, List.forall_mem_cons.mpr ⟨am_fl_32, List.forall_mem_cons.mpr ⟨am_fl_33, List.forall_mem_cons.mpr ⟨am_fl_34, List.forall_mem_cons.mpr ⟨am_fl_35, List.forall_mem_cons.mpr ⟨am_fl_36, List.forall_mem_cons.mpr ⟨am_fl_37, List.forall_mem_cons.mpr ⟨am_fl_38, List.forall_mem_cons.mpr ⟨am_fl_39, List.forall_mem_cons.mpr ⟨am_fl_40, List.forall_mem_cons.mpr ⟨am_fl_41, List.forall_mem_cons.mpr ⟨am_fl_42, List.forall_mem_cons.mpr ⟨am_fl_43, List.forall_mem_cons.mpr ⟨am_fl_44, List.forall_mem_cons.mpr ⟨am_fl_45, List.forall_mem_cons.mpr ⟨am_fl_46, List.forall_mem_cons.mpr ⟨am_fl_47, List.forall_mem_cons.mpr ⟨am_fl_48, List.forall_mem_cons.mpr ⟨am_fl_49, List.forall_mem_cons.mpr ⟨am_fl_50, List.forall_mem_cons.mpr ⟨am_fl_51, List.forall_mem_cons.mpr ⟨am_fl_52, List.forall_mem_cons.mpr ⟨am_fl_53, List.forall_mem_cons.mpr ⟨am_fl_54, List.forall_mem_cons.mpr ⟨am_fl_55, List.forall_mem_cons.mpr ⟨am_fl_56, List.forall_mem_cons.mpr ⟨am_fl_57, List.forall_mem_cons.mpr ⟨am_fl_58, List.forall_mem_cons.mpr ⟨am_fl_59, List.forall_mem_cons.mpr ⟨am_fl_60, List.forall_mem_cons.mpr ⟨am_fl_61, List.forall_mem_cons.mpr ⟨am_fl_62, List.forall_mem_cons.mpr ⟨am_fl_63, List.forall_mem_cons.mpr ⟨am_fl_64, List.forall_mem_cons.mpr ⟨am_fl_65, List.forall_mem_cons.mpr ⟨am_fl_66, List.forall_mem_cons.mpr ⟨am_fl_67, List.forall_mem_cons.mpr ⟨am_fl_68, List.forall_mem_cons.mpr ⟨am_fl_69, List.forall_mem_cons.mpr ⟨am_fl_70, List.forall_mem_cons.mpr ⟨am_fl_71, List.forall_mem_cons.mpr ⟨am_fl_72, List.forall_mem_cons.mpr ⟨am_fl_73, List.forall_mem_cons.mpr ⟨am_fl_74, List.forall_mem_cons.mpr ⟨am_fl_75, List.forall_mem_cons.mpr ⟨am_fl_76, List.forall_mem_cons.mpr ⟨am_fl_77, List.forall_mem_cons.mpr ⟨am_fl_78, List.forall_mem_cons.mpr ⟨am_fl_79, List.forall_mem_cons.mpr ⟨am_fl_80, List.forall_mem_cons.mpr ⟨am_fl_81, List.forall_mem_cons.mpr ⟨am_fl_82, List.forall_mem_cons.mpr ⟨am_fl_83, List.forall_mem_cons.mpr ⟨am_fl_84, List.forall_mem_cons.mpr ⟨am_fl_85, List.forall_mem_cons.mpr ⟨am_fl_86, List.forall_mem_cons.mpr ⟨am_fl_87, List.forall_mem_cons.mpr ⟨am_fl_88, List.forall_mem_cons.mpr ⟨am_fl_89, List.forall_mem_cons.mpr ⟨am_fl_90, List.forall_mem_cons.mpr ⟨am_fl_91, List.forall_mem_cons.mpr ⟨am_fl_92, List.forall_mem_cons.mpr ⟨am_fl_93, List.forall_mem_cons.mpr ⟨am_fl_94, List.forall_mem_cons.mpr ⟨am_fl_95, List.forall_mem_cons.mpr ⟨am_fl_96, List.forall_mem_cons.mpr ⟨am_fl_97, List.forall_mem_cons.mpr ⟨am_fl_98, List.forall_mem_cons.mpr ⟨am_fl_99, List.forall_mem_cons.mpr ⟨am_fl_100, List.forall_mem_cons.mpr ⟨am_fl_101, List.forall_mem_cons.mpr ⟨am_fl_102, List.forall_mem_cons.mpr ⟨am_fl_103, List.forall_mem_cons.mpr ⟨am_fl_104, List.forall_mem_cons.mpr ⟨am_fl_105, List.forall_mem_cons.mpr ⟨am_fl_106, List.forall_mem_cons.mpr ⟨am_fl_107, List.forall_mem_cons.mpr ⟨am_fl_108, List.forall_mem_cons.mpr ⟨am_fl_109, List.forall_mem_cons.mpr ⟨am_fl_110, List.forall_mem_cons.mpr ⟨am_fl_111, List.forall_mem_cons.mpr ⟨am_fl_112, List.forall_mem_cons.mpr ⟨am_fl_113, List.forall_mem_cons.mpr ⟨am_fl_114, List.forall_mem_cons.mpr ⟨am_fl_115, List.forall_mem_cons.mpr ⟨am_fl_116, List.forall_mem_cons.mpr ⟨am_fl_117, List.forall_mem_cons.mpr ⟨am_fl_118, List.forall_mem_cons.mpr ⟨am_fl_119, List.forall_mem_cons.mpr ⟨am_fl_120, List.forall_mem_cons.mpr ⟨am_fl_121, List.forall_mem_cons.mpr ⟨am_fl_122, List.forall_mem_cons.mpr ⟨am_fl_123, List.forall_mem_cons.mpr ⟨am_fl_124, fun _ h => absurd h List.not_mem_nil⟩⟩⟩⟩⟩⟩⟩⟩⟩⟩⟩⟩⟩⟩⟩⟩⟩⟩⟩⟩⟩⟩⟩⟩⟩⟩⟩⟩⟩⟩⟩⟩⟩⟩⟩⟩⟩⟩⟩⟩⟩⟩⟩⟩⟩⟩⟩⟩⟩⟩⟩⟩⟩⟩⟩⟩⟩⟩⟩⟩⟩⟩⟩⟩⟩⟩⟩⟩⟩⟩⟩⟩⟩⟩⟩⟩⟩⟩⟩⟩⟩⟩⟩⟩⟩⟩⟩⟩⟩⟩⟩⟩⟩⟩⟩⟩⟩⟩⟩⟩⟩⟩⟩⟩⟩⟩⟩⟩⟩⟩⟩⟩⟩⟩⟩⟩⟩⟩⟩⟩⟩⟩⟩⟩⟩
theorem am_fp_0 : am_FP (7, 116, 7, 4) := ⟨_, _, _, rfl, by decide, rfl, lw_i4 (List.mem_of_getElem? (i := 136) rfl), rfl, by decide, rfl, by decide +kernel⟩
theorem am_fp_1 : am_FP (7, 160, 7, 16) := ⟨_, _, _, rfl, by decide, rfl, lw_i4 (List.mem_of_getElem? (i := 148) rfl), rfl, by decide, rfl, by decide +kernel⟩
theorem am_fp_2 : am_FP (7, 166, 7, 17) := ⟨_, _, _, rfl, by decide, rfl, lw_i4 (List.mem_of_getElem? (i := 149) rfl), rfl, by decide, rfl, by decide +kernel⟩
theorem am_fp_3 : am_FP (7, 172, 7, 19) := ⟨_, _, _, rfl, by decide, rfl, lw_i4 (List.mem_of_getElem? (i := 151) rfl), rfl, by decide, rfl, by decide +kernel⟩
theorem am_fp_4 : am_FP (7, 394, 7, 18) := ⟨_, _, _, rfl, by decide, rfl, lw_i4 (List.mem_of_getElem? (i := 150) rfl), rfl, by decide, rfl, by decide +kernel⟩
theorem am_fp_5 : am_FP (7, 418, 7, 20) := ⟨_, _, _, rfl, by decide, rfl, lw_i4 (List.mem_of_getElem? (i := 152) rfl), rfl, by decide, rfl, by decide +kernel⟩
theorem am_fp_6 : am_FP (7, 424, 7, 21) := ⟨_, _, _, rfl, by decide, rfl, lw_i4 (List.mem_of_getElem? (i := 153) rfl), rfl, by decide, rfl, by decide +kernel⟩
theorem am_fp_7 : am_FP (7, 430, 7, 22) := ⟨_, _, _, rfl, by decide, rfl, lw_i4 (List.mem_of_getElem? (i := 154) rfl), rfl, by decide, rfl, by decide +kernel⟩
theorem am_fp_8 : am_FP (7, 448, 7, 14) := ⟨_, _, _, rfl, by decide, rfl, lw_i4 (List.mem_of_getElem? (i := 146) rfl), rfl, by decide, rfl, by decide +kernel⟩
theorem am_fp_9 : am_FP (7, 454, 7, 24) := ⟨_, _, _, rfl, by decide, rfl, lw_i4 (List.mem_of_getElem? (i := 156) rfl), rfl, by decide, rfl, by decide +kernel⟩
theorem am_fp_10 : am_FP (7, 518, 7, 13) := ⟨_, _, _, rfl, by decide, rfl, lw_i4 (List.mem_of_getElem? (i := 145) rfl), rfl, by decide, rfl, by decide +kernel⟩
theorem am_fp_11 : am_FP (7, 530, 7, 26) := ⟨_, _, _, rfl, by decide, rfl, lw_i4 (List.mem_of_getElem? (i := 158) rfl), rfl, by decide, rfl, by decide +kernel⟩
theorem am_fp_12 : am_FP (7, 544, 7, 15) := ⟨_, _, _, rfl, by decide, rfl, lw_i4 (List.mem_of_getElem? (i := 147) rfl), rfl, by decide, rfl, by decide +kernel⟩
theorem am_fp_13 : am_FP (7, 570, 7, 23) := ⟨_, _, _, rfl, by decide, rfl, lw_i4 (List.mem_of_getElem? (i := 155) rfl), rfl, by decide, rfl, by decide +kernel⟩
theorem am_fp_14 : am_FP (7, 80, 7, 25) := ⟨_, _, _, rfl, by decide, rfl, lw_i4 (List.mem_of_getElem? (i := 157) rfl), rfl, by decide, rfl, by decide +kernel⟩
theorem am_fp_15 : am_FP (7, 334, 7, 12) := ⟨_, _, _, rfl, by decide, rfl, lw_i4 (List.mem_of_getElem? (i := 144) rfl), rfl, by decide, rfl, by decide +kernel⟩
theorem am_fp_16 : am_FP (7, 766, 7, 27) := ⟨_, _, _, rfl, by decide, rfl, lw_i4 (List.mem_of_getElem? (i := 159) rfl), rfl, by decide, rfl, by decide +kernel⟩
theorem am_fp_17 : am_FP (7, 772, 7, 28) := ⟨_, _, _, rfl, by decide, rfl, lw_i4 (List.mem_of_getElem? (i := 160) rfl), rfl, by decide, rfl, by decide +kernel⟩
theorem am_fp_18 : am_FP (7, 902, 7, 32) := ⟨_, _, _, rfl, by decide, rfl, lw_i4 (List.mem_of_getElem? (i := 164) rfl), rfl, by decide, rfl, by decide +kernel⟩
theorem am_fp_19 : am_FP (7, 908, 7, 31) := ⟨_, _, _, rfl, by decide, rfl, lw_i4 (List.mem_of_getElem? (i := 163) rfl), rfl, by decide, rfl, by decide +kernel⟩
theorem am_fp_20 : am_FP (7, 938, 7, 33) := ⟨_, _, _, rfl, by decide, rfl, lw_i4 (List.mem_of_getElem? (i := 165) rfl), rfl, by decide, rfl, by decide +kernel⟩
theorem am_fp_21 : am_FP (7, 950, 7, 34) := ⟨_, _, _, rfl, by decide, rfl, lw_i4 (List.mem_of_getElem? (i := 166) rfl), rfl, by decide, rfl, by decide +kernel⟩
theorem am_fp_22 : am_FP (7, 956, 7, 35) := ⟨_, _, _, rfl, by decide, rfl, lw_i4 (List.mem_of_getElem? (i := 167) rfl), rfl, by decide, rfl, by decide +kernel⟩
theorem am_fp_23 : am_FP (7, 969, 7, 5) := ⟨_, _, _, rfl, by decide, rfl, lw_i4 (List.mem_of_getElem? (i := 137) rfl), rfl, by decide, rfl, by decide +kernel⟩
theorem am_fp_24 : am_FP (5, 96, 5, 0) := ⟨_, _, _, rfl, by decide, rfl, lw_i1 (List.mem_of_getElem? (i := 30) rfl), rfl, by decide, rfl, by decide +kernel⟩
theorem am_fp_25 : am_FP (5, 104, 5, 1) := ⟨_, _, _, rfl, by decide, rfl, lw_i1 (List.mem_of_getElem? (i := 32) rfl), rfl, by decide, rfl, by decide +kernel⟩
theorem am_fp_26 : am_FP (5, 110, 5, 2) := ⟨_, _, _, rfl, by decide, rfl, lw_i1 (List.mem_of_getElem? (i := 34) rfl), rfl, by decide, rfl, by decide +kernel⟩
theorem am_fp_27 : am_FP (5, 116, 5, 3) := ⟨_, _, _, rfl, by decide, rfl, lw_i1 (List.mem_of_getElem? (i := 36) rfl), rfl, by decide, rfl, by decide +kernel⟩
theorem am_fp_28 : am_FP (5, 122, 5, 4) := ⟨_, _, _, rfl, by decide, rfl, lw_i1 (List.mem_of_getElem? (i := 38) rfl), rfl, by decide, rfl, by decide +kernel⟩
theorem am_fp_29 : am_FP (1, 54, 1, 0) := ⟨_, _, _, rfl, by decide, rfl, lw_i1 (List.mem_of_getElem? (i := 129) rfl), rfl, by decide, rfl, by decide +kernel⟩
theorem am_fp_30 : am_FP (1, 62, 1, 1) := ⟨_, _, _, rfl, by decide, rfl, lw_i1 (List.mem_of_getElem? (i := 132) rfl), rfl, by decide, rfl, by decide +kernel⟩
theorem am_fp_31 : am_FP (3, 30, 3, 0) := ⟨_, _, _, rfl, by decide, rfl, lw_i1 (List.mem_of_getElem? (i := 114) rfl), rfl, by decide, rfl, by decide +kernel⟩
theorem am_fp_32 : am_FP (2, 78, 2, 3) := ⟨_, _, _, rfl, by decide, rfl, lw_i1 (List.mem_of_getElem? (i := 184) rfl), rfl, by decide, rfl, by decide +kernel⟩
theorem am_fp_33 : am_FP (2, 84, 2, 4) := ⟨_, _, _, rfl, by decide, rfl, lw_i1 (List.mem_of_getElem? (i := 185) rfl), rfl, by decide, rfl, by decide +kernel⟩
theorem am_fp_34 : am_FP (2, 90, 2, 5) := ⟨_, _, _, rfl, by decide, rfl, lw_i1 (List.mem_of_getElem? (i := 186) rfl), rfl, by decide, rfl, by decide +kernel⟩
theorem am_fp_35 : am_FP (2, 42, 2, 6) := ⟨_, _, _, rfl, by decide, rfl, lw_i1 (List.mem_of_getElem? (i := 188) rfl), rfl, by decide, rfl, by decide +kernel⟩
theorem am_fp_36 : am_FP (2, 184, 1, 0) := ⟨_, _, _, rfl, by decide, rfl, lw_i1 (List.mem_of_getElem? (i := 131) rfl), rfl, by decide, rfl, by decide +kernel⟩
theorem am_fp_37 : am_FP (2, 190, 1, 1) := ⟨_, _, _, rfl, by decide, rfl, lw_i1 (List.mem_of_getElem? (i := 133) rfl), rfl, by decide, rfl, by decide +kernel⟩
theorem am_fp_38 : am_FP (2, 202, 2, 7) := ⟨_, _, _, rfl, by decide, rfl, lw_i1 (List.mem_of_getElem? (i := 190) rfl), rfl, by decide, rfl, by decide +kernel⟩
theorem am_fp_39 : am_FP (2, 292, 3, 0) := ⟨_, _, _, rfl, by decide, rfl, lw_i1 (List.mem_of_getElem? (i := 116) rfl), rfl, by decide, rfl, by decide +kernel⟩
theorem am_fp_40 : am_FP (6, 128, 5, 0) := ⟨_, _, _, rfl, by decide, rfl, lw_i1 (List.mem_of_getElem? (i := 31) rfl), rfl, by decide, rfl, by decide +kernel⟩
theorem am_fp_41 : am_FP (6, 192, 6, 12) := ⟨_, _, _, rfl, by decide, rfl, lw_i2 (List.mem_of_getElem? (i := 5) rfl), rfl, by decide, rfl, by decide +kernel⟩
theorem am_fp_42 : am_FP (6, 386, 5, 4) := ⟨_, _, _, rfl, by decide, rfl, lw_i1 (List.mem_of_getElem? (i := 39) rfl), rfl, by decide, rfl, by decide +kernel⟩
theorem am_fp_43 : am_FP (6, 418, 6, 4) := ⟨_, _, _, rfl, by decide, rfl, lw_i1 (List.mem_of_getElem? (i := 237) rfl), rfl, by decide, rfl, by decide +kernel⟩
theorem am_fp_44 : am_FP (6, 430, 6, 3) := ⟨_, _, _, rfl, by decide, rfl, lw_i1 (List.mem_of_getElem? (i := 236) rfl), rfl, by decide, rfl, by decide +kernel⟩
theorem am_fp_45 : am_FP (6, 465, 6, 10) := ⟨_, _, _, rfl, by decide, rfl, lw_i2 (List.mem_of_getElem? (i := 3) rfl), rfl, by decide, rfl, by decide +kernel⟩
theorem am_fp_46 : am_FP (6, 392, 5, 1) := ⟨_, _, _, rfl, by decide, rfl, lw_i1 (List.mem_of_getElem? (i := 33) rfl), rfl, by decide, rfl, by decide +kernel⟩
theorem am_fp_all : ∀ q ∈ am_fp, am_FP q := List.forall_mem_cons.mpr ⟨am_fp_0, List.forall_mem_cons.mpr ⟨am_fp_1, List.forall_mem_cons.mpr ⟨am_fp_2, List.forall_mem_cons.mpr ⟨am_fp_3, List.forall_mem_cons.mpr ⟨am_fp_4, List.forall_mem_cons.mpr ⟨am_fp_5, List.forall_mem_cons.mpr ⟨am_fp_6, List.forall_mem_cons.mpr ⟨am_fp_7, List.forall_mem_cons.mpr ⟨am_fp_8, List.forall_mem_cons.mpr ⟨am_fp_9, List.forall_mem_cons.mpr ⟨am_fp_10, List.forall_mem_cons.mpr ⟨am_fp_11, List.forall_mem_cons.mpr ⟨am_fp_12, List.forall_mem_cons.mpr ⟨am_fp_13, List.forall_mem_cons.mpr ⟨am_fp_14, List.forall_mem_cons.mpr ⟨am_fp_15, List.forall_mem_cons.mpr ⟨am_fp_16, List.forall_mem_cons.mpr ⟨am_fp_17, List.forall_mem_cons.mpr ⟨am_fp_18, List.forall_mem_cons.mpr ⟨am_fp_19, List.forall_mem_cons.mpr ⟨am_fp_20, List.forall_mem_cons.mpr ⟨am_fp_21, List.forall_mem_cons.mpr ⟨am_fp_22, List.forall_mem_cons.mpr ⟨am_fp_23, List.forall_mem_cons.mpr ⟨am_fp_24, List.forall_mem_cons.mpr ⟨am_fp_25, List.forall_mem_cons.mpr ⟨am_fp_26, List.forall_mem_cons.mpr ⟨am_fp_27, List.forall_mem_cons.mpr ⟨am_fp_28, List.forall_mem_cons.mpr ⟨am_fp_29, List.forall_mem_cons.mpr ⟨am_fp_30, List.forall_mem_cons.mpr ⟨am_fp_31, List.forall_mem_cons.mpr ⟨am_fp_32, List.forall_mem_cons.mpr ⟨am_fp_33, List.forall_mem_cons.mpr ⟨am_fp_34, List.forall_mem_cons.mpr ⟨am_fp_35, List.forall_mem_cons.mpr ⟨am_fp_36, List.forall_mem_cons.mpr ⟨am_fp_37, List.forall_mem_cons.mpr ⟨am_fp_38, List.forall_mem_cons.mpr ⟨am_fp_39, List.forall_mem_cons.mpr ⟨am_fp_40, List.forall_mem_cons.mpr ⟨am_fp_41, List.forall_mem_cons.mpr ⟨am_fp_42, List.forall_mem_cons.mpr ⟨am_fp_43, List.forall_mem_cons.mpr ⟨am_fp_44, List.forall_mem_cons.mpr ⟨am_fp_45, List.forall_mem_cons.mpr ⟨am_fp_46, fun _ h => absurd h List.not_mem_nil⟩⟩⟩⟩⟩⟩⟩⟩⟩⟩⟩⟩⟩⟩⟩⟩⟩⟩⟩⟩⟩⟩⟩⟩⟩⟩⟩⟩⟩⟩⟩⟩⟩⟩⟩⟩⟩⟩⟩⟩⟩⟩⟩⟩⟩⟩⟩
theorem am_gl_0 : am_GL (2, 98, 202) := ⟨lw_i2 (List.mem_of_getElem? (i := 177) rfl), by decide, by decide⟩
theorem am_gl_1 : am_GL (2, 107, 200) := ⟨lw_i2 (List.mem_of_getElem? (i := 187) rfl), by decide, by decide⟩
theorem am_gl_2 : am_GL (2, 110, 201) := ⟨lw_i2 (List.mem_of_getElem? (i := 189) rfl), by decide, by decide⟩
theorem am_gl_all : ∀ q ∈ am_gl, am_GL q := List.forall_mem_cons.mpr ⟨am_gl_0, List.forall_mem_cons.mpr ⟨am_gl_1, List.forall_mem_cons.mpr ⟨am_gl_2, fun _ h => absurd h List.not_mem_nil⟩⟩⟩
theorem am_kl_0 : am_KL (7, 64, 1664525) := lw_i6 (List.mem_of_getElem? (i := 132) rfl)
theorem am_kl_1 : am_KL (7, 65, 1013904223) := lw_i6 (List.mem_of_getElem? (i := 133) rfl)
theorem am_kl_2 : am_KL (7, 450, 1000000) := lw_i7 (List.mem_of_getElem? (i := 17) rfl)
theorem am_kl_3 : am_KL (5, 91, 1664525) := lw_i3 (List.mem_of_getElem? (i := 146) rfl)
theorem am_kl_4 : am_KL (5, 92, 1013904223) := lw_i3 (List.mem_of_getElem? (i := 147) rfl)
theorem am_kl_5 : am_KL (6, 373, 1000000) := lw_i4 (List.mem_of_getElem? (i := 109) rfl)
theorem am_kl_6 : am_KL (9, 265, 1431655765) := lw_i3 (List.mem_of_getElem? (i := 163) rfl)
theorem am_kl_7 : am_KL (9, 266, 858993459) := lw_i3 (List.mem_of_getElem? (i := 164) rfl)
theorem am_kl_8 : am_KL (9, 267, 252645135) := lw_i3 (List.mem_of_getElem? (i := 165) rfl)
theorem am_kl_all : ∀ q ∈ am_kl, am_KL q := List.forall_mem_cons.mpr ⟨am_kl_0, List.forall_mem_cons.mpr ⟨am_kl_1, List.forall_mem_cons.mpr ⟨am_kl_2, List.forall_mem_cons.mpr ⟨am_kl_3, List.forall_mem_cons.mpr ⟨am_kl_4, List.forall_mem_cons.mpr ⟨am_kl_5, List.forall_mem_cons.mpr ⟨am_kl_6, List.forall_mem_cons.mpr ⟨am_kl_7, List.forall_mem_cons.mpr ⟨am_kl_8, fun _ h => absurd h List.not_mem_nil⟩⟩⟩⟩⟩⟩⟩⟩⟩
theorem am_xl_0 : am_XL (6, 282) := lw_i3 (List.mem_of_getElem? (i := 139) rfl)
theorem am_xl_all : ∀ q ∈ am_xl, am_XL q := List.forall_mem_cons.mpr ⟨am_xl_0, fun _ h => absurd h List.not_mem_nil⟩
theorem am_nl_0 : am_NL (5, 78) := lw_i3 (List.mem_of_getElem? (i := 69) rfl)
theorem am_nl_1 : am_NL (6, 218) := lw_i3 (List.mem_of_getElem? (i := 62) rfl)
theorem am_nl_all : ∀ q ∈ am_nl, am_NL q := List.forall_mem_cons.mpr ⟨am_nl_0, List.forall_mem_cons.mpr ⟨am_nl_1, fun _ h => absurd h List.not_mem_nil⟩⟩
theorem am_ac_0 : am_AC (5, 64) := lw_i3 (List.mem_of_getElem? (i := 61) rfl)
theorem am_ac_1 : am_AC (1, 34) := lw_i2 (List.mem_of_getElem? (i := 223) rfl)
theorem am_ac_2 : am_AC (3, 19) := lw_i3 (List.mem_of_getElem? (i := 6) rfl)
theorem am_ac_3 : am_AC (6, 226) := lw_i3 (List.mem_of_getElem? (i := 180) rfl)
theorem am_ac_all : ∀ q ∈ am_ac, am_AC q := List.forall_mem_cons.mpr ⟨am_ac_0, List.forall_mem_cons.mpr ⟨am_ac_1, List.forall_mem_cons.mpr ⟨am_ac_2, List.forall_mem_cons.mpr ⟨am_ac_3, fun _ h => absurd h List.not_mem_nil⟩⟩⟩⟩
theorem am_l_coder : Cond.fieldLink (am_cn 11) 15 "java/lang/String" "coder" "B" ∈ lw_tbl := lw_i7 (List.mem_of_getElem? (i := 84) rfl)
theorem am_l_value : Cond.fieldLink (am_cn 11) 9 "java/lang/String" "value" "[B" ∈ lw_tbl := lw_i7 (List.mem_of_getElem? (i := 83) rfl)
theorem am_l_compact : Cond.fieldLink (am_cn 11) 38 "java/lang/String" "COMPACT_STRINGS" "Z" ∈ lw_tbl := lw_i2 (List.mem_of_getElem? (i := 120) rfl)
theorem am_l_sioobe : Cond.fieldLink (am_cn 11) 1053 "jdk/internal/util/Preconditions" "SIOOBE_FORMATTER" "Ljava/util/function/BiFunction;" ∈ lw_tbl := lw_i2 (List.mem_of_getElem? (i := 136) rfl)
theorem am_l_nat : Cond.native arraycopyName ∈ lw_tbl := lw_i2 (List.mem_of_getElem? (i := 225) rfl)
theorem am_l_stat : Cond.static arraycopyName ∈ lw_tbl := lw_i2 (List.mem_of_getElem? (i := 224) rfl)
theorem am_l_max1 : Cond.static Lib.Math.max.name ∈ lw_tbl := lw_i3 (List.mem_of_getElem? (i := 140) rfl)
theorem am_l_max2 : Cond.code Lib.Math.max.name Lib.Math.max.code 2 (some .int) ∈ lw_tbl := lw_i3 (List.mem_of_getElem? (i := 141) rfl)
theorem am_l_min1 : Cond.static Lib.Math.min.name ∈ lw_tbl := lw_i3 (List.mem_of_getElem? (i := 63) rfl)
theorem am_l_min2 : Cond.code Lib.Math.min.name Lib.Math.min.code 2 (some .int) ∈ lw_tbl := lw_i3 (List.mem_of_getElem? (i := 64) rfl)
theorem am_l_math : Cond.initialized "java/lang/Math" ∈ lw_tbl := lw_i1 (List.mem_of_getElem? (i := 10) rfl)
theorem am_l_sys : Cond.initialized "java/lang/System" ∈ lw_tbl := lw_i1 (List.mem_of_getElem? (i := 9) rfl)
def lw_gd : List Cond := lw_tbl.filter goodWord
theorem lw_g {w : Cond} (h : w ∈ lw_tbl) (g : goodWord w = true) : w ∈ lw_gd := List.mem_filter.mpr ⟨h, g⟩
theorem lw_gd_good : ∀ w ∈ lw_gd, (w.onTables && w.keeps) = true ∨ ∃ ty, w = .arrayClass ty := fun w h => good_of_word (List.mem_filter.mp h).2
/-- each class: its fields' types, apart, in the tables -/
def am_CF (q : vw_C) : Prop := (∃ ty : Nat → FieldType, ∀ k, k < q.2.2 → parseFieldDescriptor (q.2.1 k).2.2.1 = some (ty k)) ∧ (∀ a, a < q.2.2 → ∀ b, b < q.2.2 → a ≠ b → (q.2.1 a).2.1 ≠ (q.2.1 b).2.1) ∧ ∀ w ∈ u_ws q.1 q.2.1 q.2.2, w ∈ lw_gd
theorem am_cf0 : am_CF (RX0, TX0, 2) := ⟨⟨tyX0, tyX0_ok⟩, nmX0, List.forall_mem_cons.mpr ⟨lw_g (lw_i1 (List.mem_of_getElem? (i := 228) rfl)) rfl, List.forall_mem_cons.mpr ⟨lw_g (lw_i1 (List.mem_of_getElem? (i := 230) rfl)) rfl, fun _ h => absurd h List.not_mem_nil⟩⟩⟩
theorem am_cf1 : am_CF (RX1, TX1, 7) := ⟨⟨tyX1, tyX1_ok⟩, nmX1, List.forall_mem_cons.mpr ⟨lw_g (lw_i1 (List.mem_of_getElem? (i := 143) rfl)) rfl, List.forall_mem_cons.mpr ⟨lw_g (lw_i1 (List.mem_of_getElem? (i := 145) rfl)) rfl, List.forall_mem_cons.mpr ⟨lw_g (lw_i1 (List.mem_of_getElem? (i := 147) rfl)) rfl, List.forall_mem_cons.mpr ⟨lw_g (lw_i1 (List.mem_of_getElem? (i := 149) rfl)) rfl, List.forall_mem_cons.mpr ⟨lw_g (lw_i1 (List.mem_of_getElem? (i := 151) rfl)) rfl, List.forall_mem_cons.mpr ⟨lw_g (lw_i1 (List.mem_of_getElem? (i := 153) rfl)) rfl, List.forall_mem_cons.mpr ⟨lw_g (lw_i1 (List.mem_of_getElem? (i := 155) rfl)) rfl, fun _ h => absurd h List.not_mem_nil⟩⟩⟩⟩⟩⟩⟩⟩
theorem am_cf2 : am_CF (RX2, TX2, 10) := ⟨⟨tyX2, tyX2_ok⟩, nmX2, List.forall_mem_cons.mpr ⟨lw_g (lw_i1 (List.mem_of_getElem? (i := 195) rfl)) rfl, List.forall_mem_cons.mpr ⟨lw_g (lw_i1 (List.mem_of_getElem? (i := 197) rfl)) rfl, List.forall_mem_cons.mpr ⟨lw_g (lw_i1 (List.mem_of_getElem? (i := 199) rfl)) rfl, List.forall_mem_cons.mpr ⟨lw_g (lw_i1 (List.mem_of_getElem? (i := 201) rfl)) rfl, List.forall_mem_cons.mpr ⟨lw_g (lw_i1 (List.mem_of_getElem? (i := 203) rfl)) rfl, List.forall_mem_cons.mpr ⟨lw_g (lw_i1 (List.mem_of_getElem? (i := 205) rfl)) rfl, List.forall_mem_cons.mpr ⟨lw_g (lw_i1 (List.mem_of_getElem? (i := 207) rfl)) rfl, List.forall_mem_cons.mpr ⟨lw_g (lw_i1 (List.mem_of_getElem? (i := 209) rfl)) rfl, List.forall_mem_cons.mpr ⟨lw_g (lw_i1 (List.mem_of_getElem? (i := 211) rfl)) rfl, List.forall_mem_cons.mpr ⟨lw_g (lw_i1 (List.mem_of_getElem? (i := 213) rfl)) rfl, fun _ h => absurd h List.not_mem_nil⟩⟩⟩⟩⟩⟩⟩⟩⟩⟩⟩
theorem am_cf3 : am_CF (RX3, TX3, 2) := ⟨⟨tyX3, tyX3_ok⟩, nmX3, List.forall_mem_cons.mpr ⟨lw_g (lw_i1 (List.mem_of_getElem? (i := 119) rfl)) rfl, List.forall_mem_cons.mpr ⟨lw_g (lw_i1 (List.mem_of_getElem? (i := 121) rfl)) rfl, fun _ h => absurd h List.not_mem_nil⟩⟩⟩
theorem am_cf4 : am_CF (RX4, TX4, 3) := ⟨⟨tyX4, tyX4_ok⟩, nmX4, List.forall_mem_cons.mpr ⟨lw_g (lw_i1 (List.mem_of_getElem? (i := 164) rfl)) rfl, List.forall_mem_cons.mpr ⟨lw_g (lw_i1 (List.mem_of_getElem? (i := 166) rfl)) rfl, List.forall_mem_cons.mpr ⟨lw_g (lw_i1 (List.mem_of_getElem? (i := 168) rfl)) rfl, fun _ h => absurd h List.not_mem_nil⟩⟩⟩⟩
theorem am_cf5 : am_CF (RX5, TX5, 17) := ⟨⟨tyX5, tyX5_ok⟩, nmX5, List.forall_mem_cons.mpr ⟨lw_g (lw_i1 (List.mem_of_getElem? (i := 63) rfl)) rfl, List.forall_mem_cons.mpr ⟨lw_g (lw_i1 (List.mem_of_getElem? (i := 65) rfl)) rfl, List.forall_mem_cons.mpr ⟨lw_g (lw_i1 (List.mem_of_getElem? (i := 67) rfl)) rfl, List.forall_mem_cons.mpr ⟨lw_g (lw_i1 (List.mem_of_getElem? (i := 69) rfl)) rfl, List.forall_mem_cons.mpr ⟨lw_g (lw_i1 (List.mem_of_getElem? (i := 71) rfl)) rfl, List.forall_mem_cons.mpr ⟨lw_g (lw_i1 (List.mem_of_getElem? (i := 73) rfl)) rfl, List.forall_mem_cons.mpr ⟨lw_g (lw_i1 (List.mem_of_getElem? (i := 75) rfl)) rfl, List.forall_mem_cons.mpr ⟨lw_g (lw_i1 (List.mem_of_getElem? (i := 77) rfl)) rfl, List.forall_mem_cons.mpr ⟨lw_g (lw_i1 (List.mem_of_getElem? (i := 79) rfl)) rfl, List.forall_mem_cons.mpr ⟨lw_g (lw_i1 (List.mem_of_getElem? (i := 81) rfl)) rfl, List.forall_mem_cons.mpr ⟨lw_g (lw_i1 (List.mem_of_getElem? (i := 83) rfl)) rfl, List.forall_mem_cons.mpr ⟨lw_g (lw_i1 (List.mem_of_getElem? (i := 85) rfl)) rfl, List.forall_mem_cons.mpr ⟨lw_g (lw_i1 (List.mem_of_getElem? (i := 87) rfl)) rfl, List.forall_mem_cons.mpr ⟨lw_g (lw_i1 (List.mem_of_getElem? (i := 89) rfl)) rfl, List.forall_mem_cons.mpr ⟨lw_g (lw_i1 (List.mem_of_getElem? (i := 91) rfl)) rfl, List.forall_mem_cons.mpr ⟨lw_g (lw_i1 (List.mem_of_getElem? (i := 93) rfl)) rfl, List.forall_mem_cons.mpr ⟨lw_g (lw_i1 (List.mem_of_getElem? (i := 95) rfl)) rfl, fun _ h => absurd h List.not_mem_nil⟩⟩⟩⟩⟩⟩⟩⟩⟩⟩⟩⟩⟩⟩⟩⟩⟩⟩
theorem am_cf6 : am_CF (RX6, TX6, 16) := ⟨⟨tyX6, tyX6_ok⟩, nmX6, List.forall_mem_cons.mpr ⟨lw_g (lw_i2 (List.mem_of_getElem? (i := 9) rfl)) rfl, List.forall_mem_cons.mpr ⟨lw_g (lw_i2 (List.mem_of_getElem? (i := 11) rfl)) rfl, List.forall_mem_cons.mpr ⟨lw_g (lw_i2 (List.mem_of_getElem? (i := 13) rfl)) rfl, List.forall_mem_cons.mpr ⟨lw_g (lw_i2 (List.mem_of_getElem? (i := 15) rfl)) rfl, List.forall_mem_cons.mpr ⟨lw_g (lw_i2 (List.mem_of_getElem? (i := 17) rfl)) rfl, List.forall_mem_cons.mpr ⟨lw_g (lw_i2 (List.mem_of_getElem? (i := 19) rfl)) rfl, List.forall_mem_cons.mpr ⟨lw_g (lw_i2 (List.mem_of_getElem? (i := 21) rfl)) rfl, List.forall_mem_cons.mpr ⟨lw_g (lw_i2 (List.mem_of_getElem? (i := 23) rfl)) rfl, List.forall_mem_cons.mpr ⟨lw_g (lw_i2 (List.mem_of_getElem? (i := 25) rfl)) rfl, List.forall_mem_cons.mpr ⟨lw_g (lw_i2 (List.mem_of_getElem? (i := 27) rfl)) rfl, List.forall_mem_cons.mpr ⟨lw_g (lw_i2 (List.mem_of_getElem? (i := 29) rfl)) rfl, List.forall_mem_cons.mpr ⟨lw_g (lw_i2 (List.mem_of_getElem? (i := 31) rfl)) rfl, List.forall_mem_cons.mpr ⟨lw_g (lw_i2 (List.mem_of_getElem? (i := 33) rfl)) rfl, List.forall_mem_cons.mpr ⟨lw_g (lw_i2 (List.mem_of_getElem? (i := 35) rfl)) rfl, List.forall_mem_cons.mpr ⟨lw_g (lw_i2 (List.mem_of_getElem? (i := 37) rfl)) rfl, List.forall_mem_cons.mpr ⟨lw_g (lw_i2 (List.mem_of_getElem? (i := 39) rfl)) rfl, fun _ h => absurd h List.not_mem_nil⟩⟩⟩⟩⟩⟩⟩⟩⟩⟩⟩⟩⟩⟩⟩⟩⟩
theorem am_cf7 : am_CF (RX7, TX7, 36) := ⟨⟨tyX7, tyX7_ok⟩, nmX7, List.forall_mem_cons.mpr ⟨lw_g (lw_i4 (List.mem_of_getElem? (i := 168) rfl)) rfl, List.forall_mem_cons.mpr ⟨lw_g (lw_i4 (List.mem_of_getElem? (i := 170) rfl)) rfl, List.forall_mem_cons.mpr ⟨lw_g (lw_i4 (List.mem_of_getElem? (i := 172) rfl)) rfl, List.forall_mem_cons.mpr ⟨lw_g (lw_i4 (List.mem_of_getElem? (i := 174) rfl)) rfl, List.forall_mem_cons.mpr ⟨lw_g (lw_i4 (List.mem_of_getElem? (i := 176) rfl)) rfl, List.forall_mem_cons.mpr ⟨lw_g (lw_i4 (List.mem_of_getElem? (i := 178) rfl)) rfl, List.forall_mem_cons.mpr ⟨lw_g (lw_i4 (List.mem_of_getElem? (i := 180) rfl)) rfl, List.forall_mem_cons.mpr ⟨lw_g (lw_i4 (List.mem_of_getElem? (i := 182) rfl)) rfl, List.forall_mem_cons.mpr ⟨lw_g (lw_i4 (List.mem_of_getElem? (i := 184) rfl)) rfl, List.forall_mem_cons.mpr ⟨lw_g (lw_i4 (List.mem_of_getElem? (i := 186) rfl)) rfl, List.forall_mem_cons.mpr ⟨lw_g (lw_i4 (List.mem_of_getElem? (i := 188) rfl)) rfl, List.forall_mem_cons.mpr ⟨lw_g (lw_i4 (List.mem_of_getElem? (i := 190) rfl)) rfl, List.forall_mem_cons.mpr ⟨lw_g (lw_i4 (List.mem_of_getElem? (i := 192) rfl)) rfl, List.forall_mem_cons.mpr ⟨lw_g (lw_i4 (List.mem_of_getElem? (i := 194) rfl)) rfl, List.forall_mem_cons.mpr ⟨lw_g (lw_i4 (List.mem_of_getElem? (i := 196) rfl)) rfl, List.forall_mem_cons.mpr ⟨lw_g (lw_i4 (List.mem_of_getElem? (i := 198) rfl)) rfl, List.forall_mem_cons.mpr ⟨lw_g (lw_i4 (List.mem_of_getElem? (i := 200) rfl)) rfl, List.forall_mem_cons.mpr ⟨lw_g (lw_i4 (List.mem_of_getElem? (i := 202) rfl)) rfl, List.forall_mem_cons.mpr ⟨lw_g (lw_i4 (List.mem_of_getElem? (i := 204) rfl)) rfl, List.forall_mem_cons.mpr ⟨lw_g (lw_i4 (List.mem_of_getElem? (i := 206) rfl)) rfl, List.forall_mem_cons.mpr ⟨lw_g (lw_i4 (List.mem_of_getElem? (i := 208) rfl)) rfl, List.forall_mem_cons.mpr ⟨lw_g (lw_i4 (List.mem_of_getElem? (i := 210) rfl)) rfl, List.forall_mem_cons.mpr ⟨lw_g (lw_i4 (List.mem_of_getElem? (i := 212) rfl)) rfl, List.forall_mem_cons.mpr ⟨lw_g (lw_i4 (List.mem_of_getElem? (i := 214) rfl)) rfl, List.forall_mem_cons.mpr ⟨lw_g (lw_i4 (List.mem_of_getElem? (i := 216) rfl)) rfl, List.forall_mem_cons.mpr ⟨lw_g (lw_i4 (List.mem_of_getElem? (i := 218) rfl)) rfl, List.forall_mem_cons.mpr ⟨lw_g (lw_i4 (List.mem_of_getElem? (i := 220) rfl)) rfl, List.forall_mem_cons.mpr ⟨lw_g (lw_i4 (List.mem_of_getElem? (i := 222) rfl)) rfl, List.forall_mem_cons.mpr ⟨lw_g (lw_i4 (List.mem_of_getElem? (i := 224) rfl)) rfl, List.forall_mem_cons.mpr ⟨lw_g (lw_i4 (List.mem_of_getElem? (i := 226) rfl)) rfl, List.forall_mem_cons.mpr ⟨lw_g (lw_i4 (List.mem_of_getElem? (i := 228) rfl)) rfl, List.forall_mem_cons.mpr ⟨lw_g (lw_i4 (List.mem_of_getElem? (i := 230) rfl)) rfl, List.forall_mem_cons.mpr ⟨lw_g (lw_i4 (List.mem_of_getElem? (i := 232) rfl)) rfl, List.forall_mem_cons.mpr ⟨lw_g (lw_i4 (List.mem_of_getElem? (i := 234) rfl)) rfl, List.forall_mem_cons.mpr ⟨lw_g (lw_i4 (List.mem_of_getElem? (i := 236) rfl)) rfl, List.forall_mem_cons.mpr ⟨lw_g (lw_i4 (List.mem_of_getElem? (i := 238) rfl)) rfl, fun _ h => absurd h List.not_mem_nil⟩⟩⟩⟩⟩⟩⟩⟩⟩⟩⟩⟩⟩⟩⟩⟩⟩⟩⟩⟩⟩⟩⟩⟩⟩⟩⟩⟩⟩⟩⟩⟩⟩⟩⟩⟩⟩
theorem am_cf_all : ∀ (ci : Nat) (q : vw_C), vwCl[ci]? = some q → am_CF q := by
  intro ci q h
  match ci, h with
  | 0, h => cases h; exact am_cf0
  | 1, h => cases h; exact am_cf1
  | 2, h => cases h; exact am_cf2
  | 3, h => cases h; exact am_cf3
  | 4, h => cases h; exact am_cf4
  | 5, h => cases h; exact am_cf5
  | 6, h => cases h; exact am_cf6
  | 7, h => cases h; exact am_cf7
  | k + 8, h => simp [vwCl] at h
end
section
/-! the methods: names, code, what the tables say of them -/
def am_ys : List MethodName := [⟨"LentHandsModel", "isIn", "(III)Z"⟩, ⟨"LentHandsModel", "lesser", "(II)I"⟩, ⟨"LentHandsModel", "greater", "(II)I"⟩, ⟨"LentHandsModel", "ofPerson", "(II)I"⟩, ⟨"LentHandsModel", "persons", "(III)V"⟩, ⟨"LentHandsModel", "ofHand", "(II)I"⟩, ⟨"LentHandsModel", "hands", "(III)V"⟩, ⟨"LentHandsModel", "ofLoan", "(II)I"⟩, ⟨"LentHandsModel", "isPerson", "(I)Z"⟩, ⟨"LentHandsModel", "isHand", "(I)Z"⟩, ⟨"LentHandsModel", "isKind", "(I)Z"⟩, ⟨"LentHandsModel", "isSide", "(I)Z"⟩, ⟨"LentHandsModel", "onWrist", "(II)I"⟩, ⟨"LentHandsModel", "bornWith", "(I)I"⟩, ⟨"LentHandsModel", "forgets", "()V"⟩, ⟨"LentHandsModel", "state", "(I)I"⟩, ⟨"LentHandsModel", "draw", "(I)I"⟩, ⟨"LentHandsModel", "person", "(II)I"⟩, ⟨"LentHandsModel", "set", "(III)Z"⟩, ⟨"LentHandsModel", "feed", "(IIIII)I"⟩, ⟨"LentHandsModel", "end", "(I)Z"⟩, ⟨"LentHandsModel", "see", "(I)I"⟩, ⟨"LentHandsModel", "isLetter", "(I)Z"⟩, ⟨"LentHandsModel", "isDigit", "(I)Z"⟩, ⟨"LentHandsModel", "is", "(Ljava/lang/String;)Z"⟩, ⟨"LentHandsModel", "handName", "()I"⟩, ⟨"LentHandsModel", "loanWord", "()I"⟩, ⟨"LentHandsModel", "handWord", "()I"⟩, ⟨"LentHandsModel", "guiltWord", "()I"⟩, ⟨"LentHandsModel", "bookingWord", "()I"⟩, ⟨"LentHandsModel", "workWord", "()I"⟩, ⟨"LentHandsModel", "word", "()I"⟩, ⟨"LentHandsModel", "next0", "()V"⟩, ⟨"LentHandsModel", "bad", "(I)Z"⟩, ⟨"LentHandsModel", "need", "(I)Z"⟩, ⟨"LentHandsModel", "lay", "(II)V"⟩, ⟨"LentHandsModel", "opens", "()Z"⟩, ⟨"LentHandsModel", "sumUp", "()Z"⟩, ⟨"LentHandsModel", "product", "()Z"⟩, ⟨"LentHandsModel", "unit", "()Z"⟩, ⟨"LentHandsModel", "any", "()Z"⟩, ⟨"LentHandsModel", "every", "()Z"⟩, ⟨"LentHandsModel", "oneTest", "()Z"⟩, ⟨"LentHandsModel", "aLine", "()Z"⟩, ⟨"LentHandsModel", "readsLaw", "()Z"⟩, ⟨"LentHandsModel", "number", "(II)Z"⟩, ⟨"LentHandsModel", "told", "(IIII)Z"⟩, ⟨"LentHandsModel", "aBooking", "()Z"⟩, ⟨"LentHandsModel", "aWork", "()Z"⟩, ⟨"LentHandsModel", "readsRows", "()Z"⟩, ⟨"LentHandsModel", "putsLaw", "(I)I"⟩, ⟨"LentHandsModel", "putsRows", "()I"⟩, ⟨"LentHandsModel", "text", "(I)I"⟩, ⟨"LentHandsModel", "fault", "(I)I"⟩, ⟨"LentHandsModel", "both", "(III)I"⟩, ⟨"LentHandsModel", "comesTo", "(III)I"⟩, ⟨"LentHandsModel", "holds", "(II)Z"⟩, ⟨"LentHandsModel", "saysWord", "(II)I"⟩, ⟨"LentHandsModel", "saysOf", "(II)I"⟩, ⟨"LentHandsModel", "bestOf", "(I)I"⟩, ⟨"LentHandsModel", "loansOf", "(I)I"⟩, ⟨"LentHandsModel", "latestOf", "(I)I"⟩, ⟨"LentHandsModel", "handFacts", "(II)V"⟩, ⟨"LentHandsModel", "mayBe", "(IIII)Z"⟩, ⟨"LentHandsModel", "keeps", "()V"⟩, ⟨"LentHandsModel", "undo", "()Z"⟩, ⟨"LentHandsModel", "goes", "(II)V"⟩, ⟨"LentHandsModel", "isLoan", "(II)Z"⟩, ⟨"LentHandsModel", "canLend", "(IIII)Z"⟩, ⟨"LentHandsModel", "earns", "(II)V"⟩, ⟨"LentHandsModel", "lends", "(IIII)I"⟩, ⟨"LentHandsModel", "lend", "(IIII)I"⟩, ⟨"LentHandsModel", "leave", "(II)Z"⟩, ⟨"LentHandsModel", "fetch", "(II)Z"⟩, ⟨"LentHandsModel", "task", "(II)Z"⟩, ⟨"LentHandsModel", "notes", "(III)V"⟩, ⟨"LentHandsModel", "guilty", "(I)V"⟩, ⟨"LentHandsModel", "canDeed", "(II)Z"⟩, ⟨"LentHandsModel", "deedBy", "(III)I"⟩, ⟨"LentHandsModel", "deed", "(II)I"⟩, ⟨"LentHandsModel", "books", "()I"⟩, ⟨"LentHandsModel", "taskFacts", "(IIII)V"⟩, ⟨"LentHandsModel", "works", "(IIZ)V"⟩, ⟨"LentHandsModel", "ends", "(I)V"⟩, ⟨"LentHandsModel", "worksOn", "(IZ)V"⟩, ⟨"LentHandsModel", "marksAll", "()V"⟩, ⟨"LentHandsModel", "endsAll", "()V"⟩, ⟨"LentHandsModel", "anHour", "(Z)I"⟩, ⟨"LentHandsModel", "hours", "(I)I"⟩, ⟨"LentHandsModel", "ring", "(II)I"⟩, ⟨"LentHandsModel", "of", "(II)I"⟩, ⟨"LentHandsModel", "at", "(II)I"⟩, ⟨"LentHandsModel", "loan", "(II)I"⟩, ⟨"LentHandsModel", "book", "(II)I"⟩, ⟨"LentHandsModel", "may", "(IIII)I"⟩, ⟨"LentHandsModel", "chain", "(II)I"⟩, ⟨"LentHandsModel", "owes", "(II)I"⟩, ⟨"LentHandsModel", "callus", "()I"⟩, ⟨"LentHandsModel", "hasSkill", "(IIII)Z"⟩, ⟨"LentHandsModel", "canDo", "(II)Z"⟩, ⟨"LentHandsModel", "can", "(II)I"⟩, ⟨"LentHandsModel", "laysPay", "()V"⟩, ⟨"LentHandsModel", "workerOf", "(II)I"⟩, ⟨"LentHandsModel", "pay", "(I)I"⟩, ⟨"LentHandsModel", "laysAside", "()V"⟩, ⟨"LentHandsModel", "putsBack", "()V"⟩, ⟨"LentHandsModel", "areBack", "()Z"⟩, ⟨"LentHandsModel", "back", "()I"⟩, ⟨"LentHandsModel", "where", "(II)I"⟩, ⟨"LentHandsModel", "fails", "(I)I"⟩, ⟨"LentHandsModel", "bare", "()I"⟩, ⟨"LentHandsModel", "whose", "(I)I"⟩, ⟨"LentHandsModel", "count", "(I)I"⟩, ⟨"LentHandsModel", "ask", "(I)I"⟩, ⟨"LentHandsModel", "laysHours", "(III)V"⟩, ⟨"LentHandsModel", "canLearn", "(III)Z"⟩, ⟨"LentHandsModel", "learns", "(III)I"⟩, ⟨"LentHandsModel", "safe", "(III)I"⟩, ⟨"LentHandsModel", "premium", "(II)I"⟩, ⟨"LentHandsModel", "judged", "(III)I"⟩, ⟨"LentHandsModel", "loophole", "(II)I"⟩, ⟨"LentHandsModel", "finds", "(IIII)I"⟩, ⟨"LentHandsModel", "dear", "(III)I"⟩, ⟨"LentHandsModel", "isLent", "(II)Z"⟩, ⟨"LentHandsModel", "canBy", "(IIII)Z"⟩, ⟨"LentHandsModel", "laysWishes", "(II)V"⟩, ⟨"LentHandsModel", "wishes", "(III)I"⟩, ⟨"LentHandsModel", "spread", "(II)I"⟩, ⟨"LentHandsModel", "out", "(I)I"⟩, ⟨"LentHandsModel", "turnsOf", "(IIII)I"⟩, ⟨"LentHandsModel", "image", "(Z)Z"⟩, ⟨"LentHandsModel", "inOffice", "()I"⟩, ⟨"LentHandsModel", "look", "(I)I"⟩, ⟨"LentHands$World", "copyFrom", "(LLentHands$World;)V"⟩, ⟨"LentHands$World", "hasPerson", "(I)Z"⟩, ⟨"LentHands$World", "hasHand", "(I)Z"⟩, ⟨"LentHands$World", "born", "(II)I"⟩, ⟨"LentHands$World", "tellPerson", "(ZII)Z"⟩, ⟨"LentHands$World", "tellHand", "(III)Z"⟩, ⟨"LentHands$World", "isHome", "(I)Z"⟩, ⟨"LentHands$World", "astray", "()I"⟩, ⟨"LentHands$World", "bestSkill", "(I)I"⟩, ⟨"LentHands$World", "loanCell", "(II)I"⟩, ⟨"LentHands$World", "latestLoan", "(I)I"⟩, ⟨"LentHands$World", "loansOf", "(I)I"⟩, ⟨"LentHands$World", "toOffice", "(I)V"⟩, ⟨"LentHands$World", "toWrist", "(II)V"⟩, ⟨"LentHands$World", "makeLoan", "(IIII)I"⟩, ⟨"LentHands$World", "drawOfThousand", "()I"⟩, ⟨"LentHands$World", "growOld", "()V"⟩, ⟨"LentHands$World", "endLoans", "()V"⟩, ⟨"LentHands$World", "giveBack", "(III)V"⟩, ⟨"LentHands$Law", "copyFrom", "(LLentHands$Law;)V"⟩, ⟨"LentHands$Law", "put", "(I)V"⟩, ⟨"LentHands$Law", "firstVerb", "(LLentHands$Asked;)I"⟩, ⟨"LentHands$Law", "amount", "(ILLentHands$Asked;)I"⟩, ⟨"LentHands$Law", "reckon", "(IILLentHands$Asked;)I"⟩, ⟨"LentHands$Table", "cell", "(II)I"⟩, ⟨"LentHands$Table", "copyFrom", "(LLentHands$Table;)V"⟩, ⟨"LentHands$Texts", "copyFrom", "(LLentHands$Texts;)V"⟩, ⟨"LentHands$Reader", "begin", "([CI)V"⟩, ⟨"LentHands$Reader", "cutToken", "([CII)I"⟩, ⟨"LentHands$Reader", "addToken", "(III)V"⟩, ⟨"LentHands$Reader", "isLetter", "(C)Z"⟩, ⟨"LentHands$Reader", "isDigit", "(C)Z"⟩, ⟨"LentHands$Reader", "isSign", "(C)Z"⟩, ⟨"LentHands$Reader", "wordNumber", "([CII)I"⟩, ⟨"LentHands$Reader", "isWordAt", "([CIII)Z"⟩, ⟨"LentHands$Reader", "seen", "()I"⟩, ⟨"LentHands$Reader", "refuse", "(I)Z"⟩, ⟨"LentHands$Reader", "skip", "(I)Z"⟩, ⟨"LentHands$Reader", "readLaw", "(I)Z"⟩, ⟨"LentHands$Reader", "lawLine", "(I)Z"⟩, ⟨"LentHands$Reader", "anyOf", "(I)Z"⟩, ⟨"LentHands$Reader", "single", "(I)Z"⟩, ⟨"LentHands$Reader", "sum", "()Z"⟩, ⟨"LentHands$Reader", "unit", "(Z)Z"⟩, ⟨"LentHands$Reader", "readTable", "(ZI)Z"⟩, ⟨"LentHands$Reader", "bookingRow", "(II)Z"⟩, ⟨"LentHands$Reader", "workRow", "(I)Z"⟩, ⟨"LentHands$Reader", "cell", "(III)Z"⟩, ⟨"LentHands", "state", "(I)I"⟩, ⟨"LentHands", "person", "(II)I"⟩, ⟨"LentHands", "set", "(III)Z"⟩, ⟨"LentHands", "feed", "(IIIII)I"⟩, ⟨"LentHands", "feedNumber", "(I)V"⟩, ⟨"LentHands", "end", "(I)Z"⟩, ⟨"LentHands", "text", "(I)I"⟩, ⟨"LentHands", "fault", "(I)I"⟩, ⟨"LentHands", "lend", "(IIII)I"⟩, ⟨"LentHands", "leave", "(II)Z"⟩, ⟨"LentHands", "fetch", "(II)Z"⟩, ⟨"LentHands", "task", "(II)Z"⟩, ⟨"LentHands", "deed", "(II)I"⟩, ⟨"LentHands", "writeDeed", "(III)V"⟩, ⟨"LentHands", "hours", "(I)I"⟩, ⟨"LentHands", "keep", "()V"⟩, ⟨"LentHands", "forget", "()V"⟩, ⟨"LentHands", "undo", "()Z"⟩, ⟨"LentHands", "image", "(Z)Z"⟩, ⟨"LentHands", "of", "(II)I"⟩, ⟨"LentHands", "ring", "(II)I"⟩, ⟨"LentHands", "at", "(II)I"⟩, ⟨"LentHands", "loan", "(II)I"⟩, ⟨"LentHands", "book", "(II)I"⟩, ⟨"LentHands", "look", "(I)I"⟩, ⟨"LentHands", "inOffice", "()I"⟩, ⟨"LentHands", "chain", "(II)I"⟩, ⟨"LentHands", "owes", "(II)I"⟩, ⟨"LentHands", "callus", "()I"⟩, ⟨"LentHands", "bare", "()I"⟩, ⟨"LentHands", "spread", "(II)I"⟩, ⟨"LentHands", "whose", "(I)I"⟩, ⟨"LentHands", "ask", "(I)I"⟩, ⟨"LentHands", "markedAmong", "(II)I"⟩, ⟨"LentHands", "turnsOf", "(IIII)I"⟩, ⟨"LentHands", "may", "(IIII)I"⟩, ⟨"LentHands", "lawLends", "(LLentHands$World;IIII)Z"⟩, ⟨"LentHands", "canBeLent", "(LLentHands$World;IIII)Z"⟩, ⟨"LentHands", "finds", "(IIII)I"⟩, ⟨"LentHands", "dear", "(III)I"⟩, ⟨"LentHands", "can", "(II)I"⟩, ⟨"LentHands", "canDo", "(II)Z"⟩, ⟨"LentHands", "suffice", "(III)Z"⟩, ⟨"LentHands", "suffices", "(II)Z"⟩, ⟨"LentHands", "pay", "(I)I"⟩, ⟨"LentHands", "planWork", "(I)V"⟩, ⟨"LentHands", "doersOf", "(I)I"⟩, ⟨"LentHands", "doer", "(I)I"⟩, ⟨"LentHands", "firstDoer", "(II)I"⟩, ⟨"LentHands", "wishes", "(III)I"⟩, ⟨"LentHands", "oneWish", "(III)I"⟩, ⟨"LentHands", "secondWish", "(III)I"⟩, ⟨"LentHands", "passHour", "(LLentHands$World;Z)I"⟩, ⟨"LentHands", "runBookings", "(LLentHands$World;)I"⟩, ⟨"LentHands", "toilOn", "(LLentHands$World;IIZ)V"⟩, ⟨"LentHands", "toil", "(LLentHands$World;III)I"⟩, ⟨"LentHands", "thinkAhead", "(I)V"⟩, ⟨"LentHands", "back", "()I"⟩, ⟨"LentHands", "where", "(II)I"⟩, ⟨"LentHands", "out", "(I)I"⟩, ⟨"LentHands", "fails", "(I)I"⟩, ⟨"LentHands", "leastOf", "(I)I"⟩, ⟨"LentHands", "canTry", "(III)Z"⟩, ⟨"LentHands", "learns", "(III)I"⟩, ⟨"LentHands", "safe", "(III)I"⟩, ⟨"LentHands", "unscarred", "(III)I"⟩, ⟨"LentHands", "premium", "(II)I"⟩, ⟨"LentHands", "judge", "(III)I"⟩, ⟨"LentHands", "judged", "(III)I"⟩, ⟨"LentHands", "loophole", "(II)I"⟩, ⟨"LentHands", "askOfHand", "(LLentHands$World;II)V"⟩, ⟨"LentHands", "onWrist", "(II)I"⟩, ⟨"LentHands", "within", "(III)Z"⟩, ⟨"LentHands", "heldTo", "(II)I"⟩, ⟨"java/lang/Integer", "bitCount", "(I)I"⟩, ⟨"java/lang/String", "length", "()I"⟩, ⟨"java/lang/String", "charAt", "(I)C"⟩, ⟨"java/lang/String", "coder", "()B"⟩, ⟨"java/lang/String", "isLatin1", "()Z"⟩, ⟨"java/lang/String", "checkIndex", "(II)V"⟩, ⟨"java/lang/StringLatin1", "charAt", "([BI)C"⟩, ⟨"jdk/internal/util/Preconditions", "checkIndex", "(IILjava/util/function/BiFunction;)I"⟩]
def am_y (j : Nat) : MethodName := am_ys.getD j ⟨"", "", ""⟩
def am_bs : List ByteArray := [prog_9_method_2_code, prog_9_method_3_code, prog_9_method_4_code, prog_9_method_5_code, prog_9_method_6_code, prog_9_method_7_code, prog_9_method_8_code, prog_9_method_9_code, prog_9_method_10_code, prog_9_method_11_code, prog_9_method_12_code, prog_9_method_13_code, prog_9_method_14_code, prog_9_method_15_code, prog_9_method_16_code, prog_9_method_17_code, prog_9_method_18_code, prog_9_method_19_code, prog_9_method_20_code, prog_9_method_21_code, prog_9_method_22_code, prog_9_method_23_code, prog_9_method_24_code, prog_9_method_25_code, prog_9_method_26_code, prog_9_method_27_code, prog_9_method_28_code, prog_9_method_29_code, prog_9_method_30_code, prog_9_method_31_code, prog_9_method_32_code, prog_9_method_33_code, prog_9_method_34_code, prog_9_method_35_code, prog_9_method_36_code, prog_9_method_37_code, prog_9_method_38_code, prog_9_method_39_code, prog_9_method_40_code, prog_9_method_41_code, prog_9_method_42_code, prog_9_method_43_code, prog_9_method_44_code, prog_9_method_45_code, prog_9_method_46_code, prog_9_method_47_code, prog_9_method_48_code, prog_9_method_49_code, prog_9_method_50_code, prog_9_method_51_code, prog_9_method_52_code, prog_9_method_53_code, prog_9_method_54_code, prog_9_method_55_code, prog_9_method_56_code, prog_9_method_57_code, prog_9_method_58_code, prog_9_method_59_code, prog_9_method_60_code, prog_9_method_61_code, prog_9_method_62_code, prog_9_method_63_code, prog_9_method_64_code, prog_9_method_65_code, prog_9_method_66_code, prog_9_method_67_code, prog_9_method_68_code, prog_9_method_69_code, prog_9_method_70_code, prog_9_method_71_code, prog_9_method_72_code, prog_9_method_73_code, prog_9_method_74_code, prog_9_method_75_code, prog_9_method_76_code, prog_9_method_77_code, prog_9_method_78_code, prog_9_method_79_code, prog_9_method_80_code, prog_9_method_81_code, prog_9_method_82_code, prog_9_method_83_code, prog_9_method_84_code, prog_9_method_85_code, prog_9_method_86_code, prog_9_method_87_code, prog_9_method_88_code, prog_9_method_89_code, prog_9_method_90_code, prog_9_method_91_code, prog_9_method_92_code, prog_9_method_93_code, prog_9_method_94_code, prog_9_method_95_code, prog_9_method_96_code, prog_9_method_97_code, prog_9_method_98_code, prog_9_method_99_code, prog_9_method_100_code, prog_9_method_101_code, prog_9_method_102_code, prog_9_method_103_code, prog_9_method_104_code, prog_9_method_105_code, prog_9_method_106_code, prog_9_method_107_code, prog_9_method_108_code, prog_9_method_109_code, prog_9_method_110_code, prog_9_method_111_code, prog_9_method_112_code, prog_9_method_113_code, prog_9_method_114_code, prog_9_method_115_code, prog_9_method_116_code, prog_9_method_117_code, prog_9_method_118_code, prog_9_method_119_code, prog_9_method_120_code, prog_9_method_121_code, prog_9_method_122_code, prog_9_method_123_code, prog_9_method_124_code, prog_9_method_125_code, prog_9_method_126_code, prog_9_method_127_code, prog_9_method_128_code, prog_9_method_129_code, prog_9_method_130_code, prog_9_method_131_code, prog_9_method_132_code, prog_9_method_133_code, prog_9_method_134_code, prog_7_method_2_code, prog_7_method_3_code, prog_7_method_4_code, prog_7_method_5_code, prog_7_method_6_code, prog_7_method_7_code, prog_7_method_8_code, prog_7_method_9_code, prog_7_method_10_code, prog_7_method_11_code, prog_7_method_12_code, prog_7_method_13_code, prog_7_method_14_code, prog_7_method_15_code, prog_7_method_16_code, prog_7_method_17_code, prog_7_method_18_code, prog_7_method_19_code, prog_7_method_20_code, prog_3_method_2_code, prog_3_method_3_code, prog_3_method_4_code, prog_3_method_5_code, prog_3_method_6_code, prog_5_method_2_code, prog_5_method_3_code, prog_6_method_2_code, prog_4_method_2_code, prog_4_method_3_code, prog_4_method_4_code, prog_4_method_5_code, prog_4_method_6_code, prog_4_method_7_code, prog_4_method_8_code, prog_4_method_9_code, prog_4_method_10_code, prog_4_method_11_code, prog_4_method_12_code, prog_4_method_13_code, prog_4_method_14_code, prog_4_method_15_code, prog_4_method_16_code, prog_4_method_17_code, prog_4_method_18_code, prog_4_method_19_code, prog_4_method_20_code, prog_4_method_21_code, prog_4_method_22_code, prog_1_method_2_code, prog_1_method_3_code, prog_1_method_4_code, prog_1_method_5_code, prog_1_method_6_code, prog_1_method_7_code, prog_1_method_8_code, prog_1_method_9_code, prog_1_method_10_code, prog_1_method_11_code, prog_1_method_12_code, prog_1_method_13_code, prog_1_method_14_code, prog_1_method_15_code, prog_1_method_16_code, prog_1_method_17_code, prog_1_method_18_code, prog_1_method_19_code, prog_1_method_20_code, prog_1_method_21_code, prog_1_method_22_code, prog_1_method_23_code, prog_1_method_24_code, prog_1_method_25_code, prog_1_method_26_code, prog_1_method_27_code, prog_1_method_28_code, prog_1_method_29_code, prog_1_method_30_code, prog_1_method_31_code, prog_1_method_32_code, prog_1_method_33_code, prog_1_method_34_code, prog_1_method_35_code, prog_1_method_36_code, prog_1_method_37_code, prog_1_method_38_code, prog_1_method_39_code, prog_1_method_40_code, prog_1_method_41_code, prog_1_method_42_code, prog_1_method_43_code, prog_1_method_44_code, prog_1_method_45_code, prog_1_method_46_code, prog_1_method_47_code, prog_1_method_48_code, prog_1_method_49_code, prog_1_method_50_code, prog_1_method_51_code, prog_1_method_52_code, prog_1_method_53_code, prog_1_method_54_code, prog_1_method_55_code, prog_1_method_56_code, prog_1_method_57_code, prog_1_method_58_code, prog_1_method_59_code, prog_1_method_60_code, prog_1_method_61_code, prog_1_method_62_code, prog_1_method_63_code, prog_1_method_64_code, prog_1_method_65_code, prog_1_method_66_code, prog_1_method_67_code, prog_1_method_68_code, prog_1_method_69_code, prog_1_method_70_code, prog_1_method_71_code, prog_1_method_72_code, prog_1_method_73_code, prog_1_method_74_code, prog_1_method_75_code, prog_10_method_49_code, prog_12_method_54_code, prog_12_method_56_code, prog_12_method_152_code, prog_12_method_154_code, prog_12_method_155_code, prog_13_method_2_code, prog_16_method_11_code]
def am_b (j : Nat) : ByteArray := am_bs.getD j ByteArray.empty
def am_pps : List (List Nat) := [am_p0, am_p1, am_p2, am_p3, am_p4, am_p5, am_p6, am_p7, am_p8, am_p9, am_p10, am_p11, am_p12, am_p13, am_p14, am_p15, am_p16, am_p17, am_p18, am_p19, am_p20, am_p21, am_p22, am_p23, am_p24, am_p25, am_p26, am_p27, am_p28, am_p29, am_p30, am_p31, am_p32, am_p33, am_p34, am_p35, am_p36, am_p37, am_p38, am_p39, am_p40, am_p41, am_p42, am_p43, am_p44, am_p45, am_p46, am_p47, am_p48, am_p49, am_p50, am_p51, am_p52, am_p53, am_p54, am_p55, am_p56, am_p57, am_p58, am_p59, am_p60, am_p61, am_p62, am_p63, am_p64, am_p65, am_p66, am_p67, am_p68, am_p69, am_p70, am_p71, am_p72, am_p73, am_p74, am_p75, am_p76, am_p77, am_p78, am_p79, am_p80, am_p81, am_p82, am_p83, am_p84, am_p85, am_p86, am_p87, am_p88, am_p89, am_p90, am_p91, am_p92, am_p93, am_p94, am_p95, am_p96, am_p97, am_p98, am_p99, am_p100, am_p101, am_p102, am_p103, am_p104, am_p105, am_p106, am_p107, am_p108, am_p109, am_p110, am_p111, am_p112, am_p113, am_p114, am_p115, am_p116, am_p117, am_p118, am_p119, am_p120, am_p121, am_p122, am_p123, am_p124, am_p125, am_p126, am_p127, am_p128, am_p129, am_p130, am_p131, am_p132, am_p133, am_p134, am_p135, am_p136, am_p137, am_p138, am_p139, am_p140, am_p141, am_p142, am_p143, am_p144, am_p145, am_p146, am_p147, am_p148, am_p149, am_p150, am_p151, am_p152, am_p153, am_p154, am_p155, am_p156, am_p157, am_p158, am_p159, am_p160, am_p161, am_p162, am_p163, am_p164, am_p165, am_p166, am_p167, am_p168, am_p169, am_p170, am_p171, am_p172, am_p173, am_p174, am_p175, am_p176, am_p177, am_p178, am_p179, am_p180, am_p181, am_p182, am_p183, am_p184, am_p185, am_p186, am_p187, am_p188, am_p189, am_p190, am_p191, am_p192, am_p193, am_p194, am_p195, am_p196, am_p197, am_p198, am_p199, am_p200, am_p201, am_p202, am_p203, am_p204, am_p205, am_p206, am_p207, am_p208, am_p209, am_p210, am_p211, am_p212, am_p213, am_p214, am_p215, am_p216, am_p217, am_p218, am_p219, am_p220, am_p221, am_p222, am_p223, am_p224, am_p225, am_p226, am_p227, am_p228, am_p229, am_p230, am_p231, am_p232, am_p233, am_p234, am_p235, am_p236, am_p237, am_p238, am_p239, am_p240, am_p241, am_p242, am_p243, am_p244, am_p245, am_p246, am_p247, am_p248, am_p249, am_p250, am_p251, am_p252, am_p253, am_p254, am_p255, am_p256, am_p257, am_p258, am_p259, am_p260, am_p261, am_p262]
def am_pp (j : Nat) : List Nat := am_pps.getD j []
def am_ow (j : Nat) : Nat := (41608627902856807721833464600604430189979608479611382897775930147807970628286341170762971037346259278236147970648756692635968774043404655959745427835719724105389662856278665467110883493403195636758464435981649139658852412422819906603045861323719299944254772122178492597066450380400843239332756936240644709880673302391 >>> (4 * j)) % 16
def am_rty (rt : Nat) : Option FieldType := match rt with
  | 0 => some .int
  | 1 => some .boolean
  | 2 => some .char
  | 3 => some .byte
  | _ => none
/-- what is known of method j: plain name; its code in the tables; how many parameters; static or selected; its class -/
def am_MF (j : Nat) : Prop := plainName (am_y j).cls = true ∧ Cond.code (am_y j) (am_b j) (am_ml j) (am_rty (am_rt j)) ∈ lw_tbl ∧ ((am_y j).cls ≠ "java/lang/invoke/MethodHandle" ∧ (am_y j).cls ≠ "java/lang/invoke/VarHandle" ∧ (parseMethodDescriptor (am_y j).desc).map (fun d => d.parameters.length) = some (cond (Nat.beq (am_mc j) 15) (am_na j) (am_na j - 1))) ∧ (cond (Nat.beq (am_mc j) 15) (Cond.static (am_y j) ∈ lw_tbl) (Cond.instanceMethod (am_y j) ∈ lw_tbl ∧ Cond.selects (am_y j).cls (am_y j) (am_y j) ∈ lw_tbl ∧ 1 ≤ am_na j ∧ (am_mc j < 9) ∧ am_cn (cond (Nat.beq (am_mc j) 8) 11 (am_mc j)) = (am_y j).cls)) ∧ Cond.initialized (am_y j).cls ∈ lw_tbl ∧ am_cn (am_ow j) = (am_y j).cls ∧ am_ml j ≤ 15 ∧ am_na j ≤ am_ml j
theorem am_mf0 : am_MF 0 := ⟨by decide +kernel, lw_i5 (List.mem_of_getElem? (i := 15) rfl), ⟨by decide +kernel, by decide +kernel, by decide +kernel⟩, lw_i5 (List.mem_of_getElem? (i := 14) rfl), lw_i1 (List.mem_of_getElem? (i := 8) rfl), rfl, by decide +kernel, by decide +kernel⟩
theorem am_mf1 : am_MF 1 := ⟨by decide +kernel, lw_i6 (List.mem_of_getElem? (i := 53) rfl), ⟨by decide +kernel, by decide +kernel, by decide +kernel⟩, lw_i6 (List.mem_of_getElem? (i := 52) rfl), lw_i1 (List.mem_of_getElem? (i := 8) rfl), rfl, by decide +kernel, by decide +kernel⟩
theorem am_mf2 : am_MF 2 := ⟨by decide +kernel, lw_i6 (List.mem_of_getElem? (i := 16) rfl), ⟨by decide +kernel, by decide +kernel, by decide +kernel⟩, lw_i6 (List.mem_of_getElem? (i := 15) rfl), lw_i1 (List.mem_of_getElem? (i := 8) rfl), rfl, by decide +kernel, by decide +kernel⟩
theorem am_mf3 : am_MF 3 := ⟨by decide +kernel, lw_i6 (List.mem_of_getElem? (i := 1) rfl), ⟨by decide +kernel, by decide +kernel, by decide +kernel⟩, ⟨lw_i6 (List.mem_of_getElem? (i := 0) rfl), lw_s6 (List.mem_of_getElem? (i := 0) rfl), by decide +kernel, by decide +kernel, rfl⟩, lw_i1 (List.mem_of_getElem? (i := 8) rfl), rfl, by decide +kernel, by decide +kernel⟩
theorem am_mf4 : am_MF 4 := ⟨by decide +kernel, lw_i5 (List.mem_of_getElem? (i := 19) rfl), ⟨by decide +kernel, by decide +kernel, by decide +kernel⟩, ⟨lw_i5 (List.mem_of_getElem? (i := 18) rfl), lw_s3 (List.mem_of_getElem? (i := 11) rfl), by decide +kernel, by decide +kernel, rfl⟩, lw_i1 (List.mem_of_getElem? (i := 8) rfl), rfl, by decide +kernel, by decide +kernel⟩
theorem am_mf5 : am_MF 5 := ⟨by decide +kernel, lw_i5 (List.mem_of_getElem? (i := 229) rfl), ⟨by decide +kernel, by decide +kernel, by decide +kernel⟩, ⟨lw_i5 (List.mem_of_getElem? (i := 228) rfl), lw_s5 (List.mem_of_getElem? (i := 13) rfl), by decide +kernel, by decide +kernel, rfl⟩, lw_i1 (List.mem_of_getElem? (i := 8) rfl), rfl, by decide +kernel, by decide +kernel⟩
theorem am_mf6 : am_MF 6 := ⟨by decide +kernel, lw_i5 (List.mem_of_getElem? (i := 23) rfl), ⟨by decide +kernel, by decide +kernel, by decide +kernel⟩, ⟨lw_i5 (List.mem_of_getElem? (i := 22) rfl), lw_s3 (List.mem_of_getElem? (i := 12) rfl), by decide +kernel, by decide +kernel, rfl⟩, lw_i1 (List.mem_of_getElem? (i := 8) rfl), rfl, by decide +kernel, by decide +kernel⟩
theorem am_mf7 : am_MF 7 := ⟨by decide +kernel, lw_i5 (List.mem_of_getElem? (i := 237) rfl), ⟨by decide +kernel, by decide +kernel, by decide +kernel⟩, ⟨lw_i5 (List.mem_of_getElem? (i := 236) rfl), lw_s5 (List.mem_of_getElem? (i := 15) rfl), by decide +kernel, by decide +kernel, rfl⟩, lw_i1 (List.mem_of_getElem? (i := 8) rfl), rfl, by decide +kernel, by decide +kernel⟩
theorem am_mf8 : am_MF 8 := ⟨by decide +kernel, lw_i5 (List.mem_of_getElem? (i := 31) rfl), ⟨by decide +kernel, by decide +kernel, by decide +kernel⟩, ⟨lw_i5 (List.mem_of_getElem? (i := 30) rfl), lw_s3 (List.mem_of_getElem? (i := 13) rfl), by decide +kernel, by decide +kernel, rfl⟩, lw_i1 (List.mem_of_getElem? (i := 8) rfl), rfl, by decide +kernel, by decide +kernel⟩
theorem am_mf9 : am_MF 9 := ⟨by decide +kernel, lw_i5 (List.mem_of_getElem? (i := 35) rfl), ⟨by decide +kernel, by decide +kernel, by decide +kernel⟩, ⟨lw_i5 (List.mem_of_getElem? (i := 34) rfl), lw_s3 (List.mem_of_getElem? (i := 14) rfl), by decide +kernel, by decide +kernel, rfl⟩, lw_i1 (List.mem_of_getElem? (i := 8) rfl), rfl, by decide +kernel, by decide +kernel⟩
theorem am_mf10 : am_MF 10 := ⟨by decide +kernel, lw_i6 (List.mem_of_getElem? (i := 79) rfl), ⟨by decide +kernel, by decide +kernel, by decide +kernel⟩, lw_i6 (List.mem_of_getElem? (i := 78) rfl), lw_i1 (List.mem_of_getElem? (i := 8) rfl), rfl, by decide +kernel, by decide +kernel⟩
theorem am_mf11 : am_MF 11 := ⟨by decide +kernel, lw_i6 (List.mem_of_getElem? (i := 68) rfl), ⟨by decide +kernel, by decide +kernel, by decide +kernel⟩, lw_i6 (List.mem_of_getElem? (i := 67) rfl), lw_i1 (List.mem_of_getElem? (i := 8) rfl), rfl, by decide +kernel, by decide +kernel⟩
theorem am_mf12 : am_MF 12 := ⟨by decide +kernel, lw_i6 (List.mem_of_getElem? (i := 57) rfl), ⟨by decide +kernel, by decide +kernel, by decide +kernel⟩, ⟨lw_i6 (List.mem_of_getElem? (i := 56) rfl), lw_s6 (List.mem_of_getElem? (i := 11) rfl), by decide +kernel, by decide +kernel, rfl⟩, lw_i1 (List.mem_of_getElem? (i := 8) rfl), rfl, by decide +kernel, by decide +kernel⟩
theorem am_mf13 : am_MF 13 := ⟨by decide +kernel, lw_i6 (List.mem_of_getElem? (i := 19) rfl), ⟨by decide +kernel, by decide +kernel, by decide +kernel⟩, lw_i6 (List.mem_of_getElem? (i := 18) rfl), lw_i1 (List.mem_of_getElem? (i := 8) rfl), rfl, by decide +kernel, by decide +kernel⟩
theorem am_mf14 : am_MF 14 := ⟨by decide +kernel, lw_i5 (List.mem_of_getElem? (i := 8) rfl), ⟨by decide +kernel, by decide +kernel, by decide +kernel⟩, ⟨lw_i5 (List.mem_of_getElem? (i := 7) rfl), lw_s3 (List.mem_of_getElem? (i := 10) rfl), by decide +kernel, by decide +kernel, rfl⟩, lw_i1 (List.mem_of_getElem? (i := 8) rfl), rfl, by decide +kernel, by decide +kernel⟩
theorem am_mf15 : am_MF 15 := ⟨by decide +kernel, lw_i5 (List.mem_of_getElem? (i := 4) rfl), ⟨by decide +kernel, by decide +kernel, by decide +kernel⟩, ⟨lw_i5 (List.mem_of_getElem? (i := 2) rfl), lw_i5 (List.mem_of_getElem? (i := 3) rfl), by decide +kernel, by decide +kernel, rfl⟩, lw_i1 (List.mem_of_getElem? (i := 8) rfl), rfl, by decide +kernel, by decide +kernel⟩
theorem am_mf16 : am_MF 16 := ⟨by decide +kernel, lw_i6 (List.mem_of_getElem? (i := 131) rfl), ⟨by decide +kernel, by decide +kernel, by decide +kernel⟩, ⟨lw_i6 (List.mem_of_getElem? (i := 130) rfl), lw_s7 (List.mem_of_getElem? (i := 7) rfl), by decide +kernel, by decide +kernel, rfl⟩, lw_i1 (List.mem_of_getElem? (i := 8) rfl), rfl, by decide +kernel, by decide +kernel⟩
theorem am_mf17 : am_MF 17 := ⟨by decide +kernel, lw_i5 (List.mem_of_getElem? (i := 12) rfl), ⟨by decide +kernel, by decide +kernel, by decide +kernel⟩, ⟨lw_i5 (List.mem_of_getElem? (i := 10) rfl), lw_i5 (List.mem_of_getElem? (i := 11) rfl), by decide +kernel, by decide +kernel, rfl⟩, lw_i1 (List.mem_of_getElem? (i := 8) rfl), rfl, by decide +kernel, by decide +kernel⟩
theorem am_mf18 : am_MF 18 := ⟨by decide +kernel, lw_i5 (List.mem_of_getElem? (i := 27) rfl), ⟨by decide +kernel, by decide +kernel, by decide +kernel⟩, ⟨lw_i5 (List.mem_of_getElem? (i := 25) rfl), lw_i5 (List.mem_of_getElem? (i := 26) rfl), by decide +kernel, by decide +kernel, rfl⟩, lw_i1 (List.mem_of_getElem? (i := 8) rfl), rfl, by decide +kernel, by decide +kernel⟩
theorem am_mf19 : am_MF 19 := ⟨by decide +kernel, lw_i5 (List.mem_of_getElem? (i := 39) rfl), ⟨by decide +kernel, by decide +kernel, by decide +kernel⟩, ⟨lw_i5 (List.mem_of_getElem? (i := 37) rfl), lw_i5 (List.mem_of_getElem? (i := 38) rfl), by decide +kernel, by decide +kernel, rfl⟩, lw_i1 (List.mem_of_getElem? (i := 8) rfl), rfl, by decide +kernel, by decide +kernel⟩
theorem am_mf20 : am_MF 20 := ⟨by decide +kernel, lw_i5 (List.mem_of_getElem? (i := 43) rfl), ⟨by decide +kernel, by decide +kernel, by decide +kernel⟩, ⟨lw_i5 (List.mem_of_getElem? (i := 41) rfl), lw_i5 (List.mem_of_getElem? (i := 42) rfl), by decide +kernel, by decide +kernel, rfl⟩, lw_i1 (List.mem_of_getElem? (i := 8) rfl), rfl, by decide +kernel, by decide +kernel⟩
theorem am_mf21 : am_MF 21 := ⟨by decide +kernel, lw_i5 (List.mem_of_getElem? (i := 55) rfl), ⟨by decide +kernel, by decide +kernel, by decide +kernel⟩, ⟨lw_i5 (List.mem_of_getElem? (i := 54) rfl), lw_s4 (List.mem_of_getElem? (i := 0) rfl), by decide +kernel, by decide +kernel, rfl⟩, lw_i1 (List.mem_of_getElem? (i := 8) rfl), rfl, by decide +kernel, by decide +kernel⟩
theorem am_mf22 : am_MF 22 := ⟨by decide +kernel, lw_i5 (List.mem_of_getElem? (i := 58) rfl), ⟨by decide +kernel, by decide +kernel, by decide +kernel⟩, lw_i5 (List.mem_of_getElem? (i := 57) rfl), lw_i1 (List.mem_of_getElem? (i := 8) rfl), rfl, by decide +kernel, by decide +kernel⟩
theorem am_mf23 : am_MF 23 := ⟨by decide +kernel, lw_i5 (List.mem_of_getElem? (i := 130) rfl), ⟨by decide +kernel, by decide +kernel, by decide +kernel⟩, lw_i5 (List.mem_of_getElem? (i := 129) rfl), lw_i1 (List.mem_of_getElem? (i := 8) rfl), rfl, by decide +kernel, by decide +kernel⟩
theorem am_mf24 : am_MF 24 := ⟨by decide +kernel, lw_i5 (List.mem_of_getElem? (i := 71) rfl), ⟨by decide +kernel, by decide +kernel, by decide +kernel⟩, ⟨lw_i5 (List.mem_of_getElem? (i := 70) rfl), lw_s4 (List.mem_of_getElem? (i := 3) rfl), by decide +kernel, by decide +kernel, rfl⟩, lw_i1 (List.mem_of_getElem? (i := 8) rfl), rfl, by decide +kernel, by decide +kernel⟩
theorem am_mf25 : am_MF 25 := ⟨by decide +kernel, lw_i5 (List.mem_of_getElem? (i := 104) rfl), ⟨by decide +kernel, by decide +kernel, by decide +kernel⟩, ⟨lw_i5 (List.mem_of_getElem? (i := 103) rfl), lw_s4 (List.mem_of_getElem? (i := 6) rfl), by decide +kernel, by decide +kernel, rfl⟩, lw_i1 (List.mem_of_getElem? (i := 8) rfl), rfl, by decide +kernel, by decide +kernel⟩
theorem am_mf26 : am_MF 26 := ⟨by decide +kernel, lw_i5 (List.mem_of_getElem? (i := 93) rfl), ⟨by decide +kernel, by decide +kernel, by decide +kernel⟩, ⟨lw_i5 (List.mem_of_getElem? (i := 92) rfl), lw_s4 (List.mem_of_getElem? (i := 5) rfl), by decide +kernel, by decide +kernel, rfl⟩, lw_i1 (List.mem_of_getElem? (i := 8) rfl), rfl, by decide +kernel, by decide +kernel⟩
theorem am_mf27 : am_MF 27 := ⟨by decide +kernel, lw_i5 (List.mem_of_getElem? (i := 112) rfl), ⟨by decide +kernel, by decide +kernel, by decide +kernel⟩, ⟨lw_i5 (List.mem_of_getElem? (i := 111) rfl), lw_s4 (List.mem_of_getElem? (i := 7) rfl), by decide +kernel, by decide +kernel, rfl⟩, lw_i1 (List.mem_of_getElem? (i := 8) rfl), rfl, by decide +kernel, by decide +kernel⟩
theorem am_mf28 : am_MF 28 := ⟨by decide +kernel, lw_i5 (List.mem_of_getElem? (i := 124) rfl), ⟨by decide +kernel, by decide +kernel, by decide +kernel⟩, ⟨lw_i5 (List.mem_of_getElem? (i := 123) rfl), lw_s4 (List.mem_of_getElem? (i := 8) rfl), by decide +kernel, by decide +kernel, rfl⟩, lw_i1 (List.mem_of_getElem? (i := 8) rfl), rfl, by decide +kernel, by decide +kernel⟩
theorem am_mf29 : am_MF 29 := ⟨by decide +kernel, lw_i5 (List.mem_of_getElem? (i := 66) rfl), ⟨by decide +kernel, by decide +kernel, by decide +kernel⟩, ⟨lw_i5 (List.mem_of_getElem? (i := 65) rfl), lw_s4 (List.mem_of_getElem? (i := 2) rfl), by decide +kernel, by decide +kernel, rfl⟩, lw_i1 (List.mem_of_getElem? (i := 8) rfl), rfl, by decide +kernel, by decide +kernel⟩
theorem am_mf30 : am_MF 30 := ⟨by decide +kernel, lw_i5 (List.mem_of_getElem? (i := 81) rfl), ⟨by decide +kernel, by decide +kernel, by decide +kernel⟩, ⟨lw_i5 (List.mem_of_getElem? (i := 80) rfl), lw_s4 (List.mem_of_getElem? (i := 4) rfl), by decide +kernel, by decide +kernel, rfl⟩, lw_i1 (List.mem_of_getElem? (i := 8) rfl), rfl, by decide +kernel, by decide +kernel⟩
theorem am_mf31 : am_MF 31 := ⟨by decide +kernel, lw_i5 (List.mem_of_getElem? (i := 62) rfl), ⟨by decide +kernel, by decide +kernel, by decide +kernel⟩, ⟨lw_i5 (List.mem_of_getElem? (i := 61) rfl), lw_s4 (List.mem_of_getElem? (i := 1) rfl), by decide +kernel, by decide +kernel, rfl⟩, lw_i1 (List.mem_of_getElem? (i := 8) rfl), rfl, by decide +kernel, by decide +kernel⟩
theorem am_mf32 : am_MF 32 := ⟨by decide +kernel, lw_i5 (List.mem_of_getElem? (i := 51) rfl), ⟨by decide +kernel, by decide +kernel, by decide +kernel⟩, ⟨lw_i5 (List.mem_of_getElem? (i := 50) rfl), lw_s3 (List.mem_of_getElem? (i := 15) rfl), by decide +kernel, by decide +kernel, rfl⟩, lw_i1 (List.mem_of_getElem? (i := 8) rfl), rfl, by decide +kernel, by decide +kernel⟩
theorem am_mf33 : am_MF 33 := ⟨by decide +kernel, lw_i5 (List.mem_of_getElem? (i := 142) rfl), ⟨by decide +kernel, by decide +kernel, by decide +kernel⟩, ⟨lw_i5 (List.mem_of_getElem? (i := 141) rfl), lw_s4 (List.mem_of_getElem? (i := 11) rfl), by decide +kernel, by decide +kernel, rfl⟩, lw_i1 (List.mem_of_getElem? (i := 8) rfl), rfl, by decide +kernel, by decide +kernel⟩
theorem am_mf34 : am_MF 34 := ⟨by decide +kernel, lw_i5 (List.mem_of_getElem? (i := 178) rfl), ⟨by decide +kernel, by decide +kernel, by decide +kernel⟩, ⟨lw_i5 (List.mem_of_getElem? (i := 177) rfl), lw_s5 (List.mem_of_getElem? (i := 4) rfl), by decide +kernel, by decide +kernel, rfl⟩, lw_i1 (List.mem_of_getElem? (i := 8) rfl), rfl, by decide +kernel, by decide +kernel⟩
theorem am_mf35 : am_MF 35 := ⟨by decide +kernel, lw_i5 (List.mem_of_getElem? (i := 158) rfl), ⟨by decide +kernel, by decide +kernel, by decide +kernel⟩, ⟨lw_i5 (List.mem_of_getElem? (i := 157) rfl), lw_s4 (List.mem_of_getElem? (i := 15) rfl), by decide +kernel, by decide +kernel, rfl⟩, lw_i1 (List.mem_of_getElem? (i := 8) rfl), rfl, by decide +kernel, by decide +kernel⟩
theorem am_mf36 : am_MF 36 := ⟨by decide +kernel, lw_i5 (List.mem_of_getElem? (i := 174) rfl), ⟨by decide +kernel, by decide +kernel, by decide +kernel⟩, ⟨lw_i5 (List.mem_of_getElem? (i := 173) rfl), lw_s5 (List.mem_of_getElem? (i := 3) rfl), by decide +kernel, by decide +kernel, rfl⟩, lw_i1 (List.mem_of_getElem? (i := 8) rfl), rfl, by decide +kernel, by decide +kernel⟩
theorem am_mf37 : am_MF 37 := ⟨by decide +kernel, lw_i5 (List.mem_of_getElem? (i := 146) rfl), ⟨by decide +kernel, by decide +kernel, by decide +kernel⟩, ⟨lw_i5 (List.mem_of_getElem? (i := 145) rfl), lw_s4 (List.mem_of_getElem? (i := 12) rfl), by decide +kernel, by decide +kernel, rfl⟩, lw_i1 (List.mem_of_getElem? (i := 8) rfl), rfl, by decide +kernel, by decide +kernel⟩
theorem am_mf38 : am_MF 38 := ⟨by decide +kernel, lw_i5 (List.mem_of_getElem? (i := 150) rfl), ⟨by decide +kernel, by decide +kernel, by decide +kernel⟩, ⟨lw_i5 (List.mem_of_getElem? (i := 149) rfl), lw_s4 (List.mem_of_getElem? (i := 13) rfl), by decide +kernel, by decide +kernel, rfl⟩, lw_i1 (List.mem_of_getElem? (i := 8) rfl), rfl, by decide +kernel, by decide +kernel⟩
theorem am_mf39 : am_MF 39 := ⟨by decide +kernel, lw_i5 (List.mem_of_getElem? (i := 154) rfl), ⟨by decide +kernel, by decide +kernel, by decide +kernel⟩, ⟨lw_i5 (List.mem_of_getElem? (i := 153) rfl), lw_s4 (List.mem_of_getElem? (i := 14) rfl), by decide +kernel, by decide +kernel, rfl⟩, lw_i1 (List.mem_of_getElem? (i := 8) rfl), rfl, by decide +kernel, by decide +kernel⟩
theorem am_mf40 : am_MF 40 := ⟨by decide +kernel, lw_i5 (List.mem_of_getElem? (i := 162) rfl), ⟨by decide +kernel, by decide +kernel, by decide +kernel⟩, ⟨lw_i5 (List.mem_of_getElem? (i := 161) rfl), lw_s5 (List.mem_of_getElem? (i := 0) rfl), by decide +kernel, by decide +kernel, rfl⟩, lw_i1 (List.mem_of_getElem? (i := 8) rfl), rfl, by decide +kernel, by decide +kernel⟩
theorem am_mf41 : am_MF 41 := ⟨by decide +kernel, lw_i5 (List.mem_of_getElem? (i := 166) rfl), ⟨by decide +kernel, by decide +kernel, by decide +kernel⟩, ⟨lw_i5 (List.mem_of_getElem? (i := 165) rfl), lw_s5 (List.mem_of_getElem? (i := 1) rfl), by decide +kernel, by decide +kernel, rfl⟩, lw_i1 (List.mem_of_getElem? (i := 8) rfl), rfl, by decide +kernel, by decide +kernel⟩
theorem am_mf42 : am_MF 42 := ⟨by decide +kernel, lw_i5 (List.mem_of_getElem? (i := 170) rfl), ⟨by decide +kernel, by decide +kernel, by decide +kernel⟩, ⟨lw_i5 (List.mem_of_getElem? (i := 169) rfl), lw_s5 (List.mem_of_getElem? (i := 2) rfl), by decide +kernel, by decide +kernel, rfl⟩, lw_i1 (List.mem_of_getElem? (i := 8) rfl), rfl, by decide +kernel, by decide +kernel⟩
theorem am_mf43 : am_MF 43 := ⟨by decide +kernel, lw_i5 (List.mem_of_getElem? (i := 138) rfl), ⟨by decide +kernel, by decide +kernel, by decide +kernel⟩, ⟨lw_i5 (List.mem_of_getElem? (i := 137) rfl), lw_s4 (List.mem_of_getElem? (i := 10) rfl), by decide +kernel, by decide +kernel, rfl⟩, lw_i1 (List.mem_of_getElem? (i := 8) rfl), rfl, by decide +kernel, by decide +kernel⟩
theorem am_mf44 : am_MF 44 := ⟨by decide +kernel, lw_i5 (List.mem_of_getElem? (i := 134) rfl), ⟨by decide +kernel, by decide +kernel, by decide +kernel⟩, ⟨lw_i5 (List.mem_of_getElem? (i := 133) rfl), lw_s4 (List.mem_of_getElem? (i := 9) rfl), by decide +kernel, by decide +kernel, rfl⟩, lw_i1 (List.mem_of_getElem? (i := 8) rfl), rfl, by decide +kernel, by decide +kernel⟩
theorem am_mf45 : am_MF 45 := ⟨by decide +kernel, lw_i5 (List.mem_of_getElem? (i := 194) rfl), ⟨by decide +kernel, by decide +kernel, by decide +kernel⟩, ⟨lw_i5 (List.mem_of_getElem? (i := 193) rfl), lw_s5 (List.mem_of_getElem? (i := 8) rfl), by decide +kernel, by decide +kernel, rfl⟩, lw_i1 (List.mem_of_getElem? (i := 8) rfl), rfl, by decide +kernel, by decide +kernel⟩
theorem am_mf46 : am_MF 46 := ⟨by decide +kernel, lw_i5 (List.mem_of_getElem? (i := 190) rfl), ⟨by decide +kernel, by decide +kernel, by decide +kernel⟩, ⟨lw_i5 (List.mem_of_getElem? (i := 189) rfl), lw_s5 (List.mem_of_getElem? (i := 7) rfl), by decide +kernel, by decide +kernel, rfl⟩, lw_i1 (List.mem_of_getElem? (i := 8) rfl), rfl, by decide +kernel, by decide +kernel⟩
theorem am_mf47 : am_MF 47 := ⟨by decide +kernel, lw_i5 (List.mem_of_getElem? (i := 186) rfl), ⟨by decide +kernel, by decide +kernel, by decide +kernel⟩, ⟨lw_i5 (List.mem_of_getElem? (i := 185) rfl), lw_s5 (List.mem_of_getElem? (i := 6) rfl), by decide +kernel, by decide +kernel, rfl⟩, lw_i1 (List.mem_of_getElem? (i := 8) rfl), rfl, by decide +kernel, by decide +kernel⟩
theorem am_mf48 : am_MF 48 := ⟨by decide +kernel, lw_i5 (List.mem_of_getElem? (i := 198) rfl), ⟨by decide +kernel, by decide +kernel, by decide +kernel⟩, ⟨lw_i5 (List.mem_of_getElem? (i := 197) rfl), lw_s5 (List.mem_of_getElem? (i := 9) rfl), by decide +kernel, by decide +kernel, rfl⟩, lw_i1 (List.mem_of_getElem? (i := 8) rfl), rfl, by decide +kernel, by decide +kernel⟩
theorem am_mf49 : am_MF 49 := ⟨by decide +kernel, lw_i5 (List.mem_of_getElem? (i := 182) rfl), ⟨by decide +kernel, by decide +kernel, by decide +kernel⟩, ⟨lw_i5 (List.mem_of_getElem? (i := 181) rfl), lw_s5 (List.mem_of_getElem? (i := 5) rfl), by decide +kernel, by decide +kernel, rfl⟩, lw_i1 (List.mem_of_getElem? (i := 8) rfl), rfl, by decide +kernel, by decide +kernel⟩
theorem am_mf50 : am_MF 50 := ⟨by decide +kernel, lw_i5 (List.mem_of_getElem? (i := 202) rfl), ⟨by decide +kernel, by decide +kernel, by decide +kernel⟩, ⟨lw_i5 (List.mem_of_getElem? (i := 201) rfl), lw_s5 (List.mem_of_getElem? (i := 10) rfl), by decide +kernel, by decide +kernel, rfl⟩, lw_i1 (List.mem_of_getElem? (i := 8) rfl), rfl, by decide +kernel, by decide +kernel⟩
theorem am_mf51 : am_MF 51 := ⟨by decide +kernel, lw_i5 (List.mem_of_getElem? (i := 206) rfl), ⟨by decide +kernel, by decide +kernel, by decide +kernel⟩, ⟨lw_i5 (List.mem_of_getElem? (i := 205) rfl), lw_s5 (List.mem_of_getElem? (i := 11) rfl), by decide +kernel, by decide +kernel, rfl⟩, lw_i1 (List.mem_of_getElem? (i := 8) rfl), rfl, by decide +kernel, by decide +kernel⟩
theorem am_mf52 : am_MF 52 := ⟨by decide +kernel, lw_i5 (List.mem_of_getElem? (i := 47) rfl), ⟨by decide +kernel, by decide +kernel, by decide +kernel⟩, ⟨lw_i5 (List.mem_of_getElem? (i := 45) rfl), lw_i5 (List.mem_of_getElem? (i := 46) rfl), by decide +kernel, by decide +kernel, rfl⟩, lw_i1 (List.mem_of_getElem? (i := 8) rfl), rfl, by decide +kernel, by decide +kernel⟩
theorem am_mf53 : am_MF 53 := ⟨by decide +kernel, lw_i5 (List.mem_of_getElem? (i := 210) rfl), ⟨by decide +kernel, by decide +kernel, by decide +kernel⟩, ⟨lw_i5 (List.mem_of_getElem? (i := 208) rfl), lw_i5 (List.mem_of_getElem? (i := 209) rfl), by decide +kernel, by decide +kernel, rfl⟩, lw_i1 (List.mem_of_getElem? (i := 8) rfl), rfl, by decide +kernel, by decide +kernel⟩
theorem am_mf54 : am_MF 54 := ⟨by decide +kernel, lw_i6 (List.mem_of_getElem? (i := 38) rfl), ⟨by decide +kernel, by decide +kernel, by decide +kernel⟩, lw_i6 (List.mem_of_getElem? (i := 37) rfl), lw_i1 (List.mem_of_getElem? (i := 8) rfl), rfl, by decide +kernel, by decide +kernel⟩
theorem am_mf55 : am_MF 55 := ⟨by decide +kernel, lw_i6 (List.mem_of_getElem? (i := 35) rfl), ⟨by decide +kernel, by decide +kernel, by decide +kernel⟩, ⟨lw_i6 (List.mem_of_getElem? (i := 34) rfl), lw_s6 (List.mem_of_getElem? (i := 7) rfl), by decide +kernel, by decide +kernel, rfl⟩, lw_i1 (List.mem_of_getElem? (i := 8) rfl), rfl, by decide +kernel, by decide +kernel⟩
theorem am_mf56 : am_MF 56 := ⟨by decide +kernel, lw_i6 (List.mem_of_getElem? (i := 31) rfl), ⟨by decide +kernel, by decide +kernel, by decide +kernel⟩, ⟨lw_i6 (List.mem_of_getElem? (i := 30) rfl), lw_s6 (List.mem_of_getElem? (i := 6) rfl), by decide +kernel, by decide +kernel, rfl⟩, lw_i1 (List.mem_of_getElem? (i := 8) rfl), rfl, by decide +kernel, by decide +kernel⟩
theorem am_mf57 : am_MF 57 := ⟨by decide +kernel, lw_i6 (List.mem_of_getElem? (i := 27) rfl), ⟨by decide +kernel, by decide +kernel, by decide +kernel⟩, ⟨lw_i6 (List.mem_of_getElem? (i := 26) rfl), lw_s6 (List.mem_of_getElem? (i := 5) rfl), by decide +kernel, by decide +kernel, rfl⟩, lw_i1 (List.mem_of_getElem? (i := 8) rfl), rfl, by decide +kernel, by decide +kernel⟩
theorem am_mf58 : am_MF 58 := ⟨by decide +kernel, lw_i6 (List.mem_of_getElem? (i := 127) rfl), ⟨by decide +kernel, by decide +kernel, by decide +kernel⟩, ⟨lw_i6 (List.mem_of_getElem? (i := 126) rfl), lw_s7 (List.mem_of_getElem? (i := 6) rfl), by decide +kernel, by decide +kernel, rfl⟩, lw_i1 (List.mem_of_getElem? (i := 8) rfl), rfl, by decide +kernel, by decide +kernel⟩
theorem am_mf59 : am_MF 59 := ⟨by decide +kernel, lw_i6 (List.mem_of_getElem? (i := 13) rfl), ⟨by decide +kernel, by decide +kernel, by decide +kernel⟩, ⟨lw_i6 (List.mem_of_getElem? (i := 12) rfl), lw_s6 (List.mem_of_getElem? (i := 3) rfl), by decide +kernel, by decide +kernel, rfl⟩, lw_i1 (List.mem_of_getElem? (i := 8) rfl), rfl, by decide +kernel, by decide +kernel⟩
theorem am_mf60 : am_MF 60 := ⟨by decide +kernel, lw_i6 (List.mem_of_getElem? (i := 23) rfl), ⟨by decide +kernel, by decide +kernel, by decide +kernel⟩, ⟨lw_i6 (List.mem_of_getElem? (i := 22) rfl), lw_s6 (List.mem_of_getElem? (i := 4) rfl), by decide +kernel, by decide +kernel, rfl⟩, lw_i1 (List.mem_of_getElem? (i := 8) rfl), rfl, by decide +kernel, by decide +kernel⟩
theorem am_mf61 : am_MF 61 := ⟨by decide +kernel, lw_i5 (List.mem_of_getElem? (i := 233) rfl), ⟨by decide +kernel, by decide +kernel, by decide +kernel⟩, ⟨lw_i5 (List.mem_of_getElem? (i := 232) rfl), lw_s5 (List.mem_of_getElem? (i := 14) rfl), by decide +kernel, by decide +kernel, rfl⟩, lw_i1 (List.mem_of_getElem? (i := 8) rfl), rfl, by decide +kernel, by decide +kernel⟩
theorem am_mf62 : am_MF 62 := ⟨by decide +kernel, lw_i6 (List.mem_of_getElem? (i := 9) rfl), ⟨by decide +kernel, by decide +kernel, by decide +kernel⟩, ⟨lw_i6 (List.mem_of_getElem? (i := 8) rfl), lw_s6 (List.mem_of_getElem? (i := 2) rfl), by decide +kernel, by decide +kernel, rfl⟩, lw_i1 (List.mem_of_getElem? (i := 8) rfl), rfl, by decide +kernel, by decide +kernel⟩
theorem am_mf63 : am_MF 63 := ⟨by decide +kernel, lw_i6 (List.mem_of_getElem? (i := 5) rfl), ⟨by decide +kernel, by decide +kernel, by decide +kernel⟩, ⟨lw_i6 (List.mem_of_getElem? (i := 4) rfl), lw_s6 (List.mem_of_getElem? (i := 1) rfl), by decide +kernel, by decide +kernel, rfl⟩, lw_i1 (List.mem_of_getElem? (i := 8) rfl), rfl, by decide +kernel, by decide +kernel⟩
theorem am_mf64 : am_MF 64 := ⟨by decide +kernel, lw_i6 (List.mem_of_getElem? (i := 42) rfl), ⟨by decide +kernel, by decide +kernel, by decide +kernel⟩, ⟨lw_i6 (List.mem_of_getElem? (i := 41) rfl), lw_s6 (List.mem_of_getElem? (i := 8) rfl), by decide +kernel, by decide +kernel, rfl⟩, lw_i1 (List.mem_of_getElem? (i := 8) rfl), rfl, by decide +kernel, by decide +kernel⟩
theorem am_mf65 : am_MF 65 := ⟨by decide +kernel, lw_i5 (List.mem_of_getElem? (i := 214) rfl), ⟨by decide +kernel, by decide +kernel, by decide +kernel⟩, ⟨lw_i5 (List.mem_of_getElem? (i := 212) rfl), lw_i5 (List.mem_of_getElem? (i := 213) rfl), by decide +kernel, by decide +kernel, rfl⟩, lw_i1 (List.mem_of_getElem? (i := 8) rfl), rfl, by decide +kernel, by decide +kernel⟩
theorem am_mf66 : am_MF 66 := ⟨by decide +kernel, lw_i6 (List.mem_of_getElem? (i := 61) rfl), ⟨by decide +kernel, by decide +kernel, by decide +kernel⟩, ⟨lw_i6 (List.mem_of_getElem? (i := 60) rfl), lw_s6 (List.mem_of_getElem? (i := 12) rfl), by decide +kernel, by decide +kernel, rfl⟩, lw_i1 (List.mem_of_getElem? (i := 8) rfl), rfl, by decide +kernel, by decide +kernel⟩
theorem am_mf67 : am_MF 67 := ⟨by decide +kernel, lw_i5 (List.mem_of_getElem? (i := 225) rfl), ⟨by decide +kernel, by decide +kernel, by decide +kernel⟩, lw_i5 (List.mem_of_getElem? (i := 224) rfl), lw_i1 (List.mem_of_getElem? (i := 8) rfl), rfl, by decide +kernel, by decide +kernel⟩
theorem am_mf68 : am_MF 68 := ⟨by decide +kernel, lw_i5 (List.mem_of_getElem? (i := 222) rfl), ⟨by decide +kernel, by decide +kernel, by decide +kernel⟩, ⟨lw_i5 (List.mem_of_getElem? (i := 221) rfl), lw_s5 (List.mem_of_getElem? (i := 12) rfl), by decide +kernel, by decide +kernel, rfl⟩, lw_i1 (List.mem_of_getElem? (i := 8) rfl), rfl, by decide +kernel, by decide +kernel⟩
theorem am_mf69 : am_MF 69 := ⟨by decide +kernel, lw_i6 (List.mem_of_getElem? (i := 50) rfl), ⟨by decide +kernel, by decide +kernel, by decide +kernel⟩, ⟨lw_i6 (List.mem_of_getElem? (i := 49) rfl), lw_s6 (List.mem_of_getElem? (i := 10) rfl), by decide +kernel, by decide +kernel, rfl⟩, lw_i1 (List.mem_of_getElem? (i := 8) rfl), rfl, by decide +kernel, by decide +kernel⟩
theorem am_mf70 : am_MF 70 := ⟨by decide +kernel, lw_i6 (List.mem_of_getElem? (i := 46) rfl), ⟨by decide +kernel, by decide +kernel, by decide +kernel⟩, ⟨lw_i6 (List.mem_of_getElem? (i := 45) rfl), lw_s6 (List.mem_of_getElem? (i := 9) rfl), by decide +kernel, by decide +kernel, rfl⟩, lw_i1 (List.mem_of_getElem? (i := 8) rfl), rfl, by decide +kernel, by decide +kernel⟩
theorem am_mf71 : am_MF 71 := ⟨by decide +kernel, lw_i5 (List.mem_of_getElem? (i := 218) rfl), ⟨by decide +kernel, by decide +kernel, by decide +kernel⟩, ⟨lw_i5 (List.mem_of_getElem? (i := 216) rfl), lw_i5 (List.mem_of_getElem? (i := 217) rfl), by decide +kernel, by decide +kernel, rfl⟩, lw_i1 (List.mem_of_getElem? (i := 8) rfl), rfl, by decide +kernel, by decide +kernel⟩
theorem am_mf72 : am_MF 72 := ⟨by decide +kernel, lw_i6 (List.mem_of_getElem? (i := 65) rfl), ⟨by decide +kernel, by decide +kernel, by decide +kernel⟩, ⟨lw_i6 (List.mem_of_getElem? (i := 63) rfl), lw_i6 (List.mem_of_getElem? (i := 64) rfl), by decide +kernel, by decide +kernel, rfl⟩, lw_i1 (List.mem_of_getElem? (i := 8) rfl), rfl, by decide +kernel, by decide +kernel⟩
theorem am_mf73 : am_MF 73 := ⟨by decide +kernel, lw_i6 (List.mem_of_getElem? (i := 72) rfl), ⟨by decide +kernel, by decide +kernel, by decide +kernel⟩, ⟨lw_i6 (List.mem_of_getElem? (i := 70) rfl), lw_i6 (List.mem_of_getElem? (i := 71) rfl), by decide +kernel, by decide +kernel, rfl⟩, lw_i1 (List.mem_of_getElem? (i := 8) rfl), rfl, by decide +kernel, by decide +kernel⟩
theorem am_mf74 : am_MF 74 := ⟨by decide +kernel, lw_i6 (List.mem_of_getElem? (i := 76) rfl), ⟨by decide +kernel, by decide +kernel, by decide +kernel⟩, ⟨lw_i6 (List.mem_of_getElem? (i := 74) rfl), lw_i6 (List.mem_of_getElem? (i := 75) rfl), by decide +kernel, by decide +kernel, rfl⟩, lw_i1 (List.mem_of_getElem? (i := 8) rfl), rfl, by decide +kernel, by decide +kernel⟩
theorem am_mf75 : am_MF 75 := ⟨by decide +kernel, lw_i6 (List.mem_of_getElem? (i := 99) rfl), ⟨by decide +kernel, by decide +kernel, by decide +kernel⟩, ⟨lw_i6 (List.mem_of_getElem? (i := 98) rfl), lw_s7 (List.mem_of_getElem? (i := 0) rfl), by decide +kernel, by decide +kernel, rfl⟩, lw_i1 (List.mem_of_getElem? (i := 8) rfl), rfl, by decide +kernel, by decide +kernel⟩
theorem am_mf76 : am_MF 76 := ⟨by decide +kernel, lw_i6 (List.mem_of_getElem? (i := 95) rfl), ⟨by decide +kernel, by decide +kernel, by decide +kernel⟩, ⟨lw_i6 (List.mem_of_getElem? (i := 94) rfl), lw_s6 (List.mem_of_getElem? (i := 15) rfl), by decide +kernel, by decide +kernel, rfl⟩, lw_i1 (List.mem_of_getElem? (i := 8) rfl), rfl, by decide +kernel, by decide +kernel⟩
theorem am_mf77 : am_MF 77 := ⟨by decide +kernel, lw_i6 (List.mem_of_getElem? (i := 87) rfl), ⟨by decide +kernel, by decide +kernel, by decide +kernel⟩, ⟨lw_i6 (List.mem_of_getElem? (i := 86) rfl), lw_s6 (List.mem_of_getElem? (i := 13) rfl), by decide +kernel, by decide +kernel, rfl⟩, lw_i1 (List.mem_of_getElem? (i := 8) rfl), rfl, by decide +kernel, by decide +kernel⟩
theorem am_mf78 : am_MF 78 := ⟨by decide +kernel, lw_i6 (List.mem_of_getElem? (i := 91) rfl), ⟨by decide +kernel, by decide +kernel, by decide +kernel⟩, ⟨lw_i6 (List.mem_of_getElem? (i := 90) rfl), lw_s6 (List.mem_of_getElem? (i := 14) rfl), by decide +kernel, by decide +kernel, rfl⟩, lw_i1 (List.mem_of_getElem? (i := 8) rfl), rfl, by decide +kernel, by decide +kernel⟩
theorem am_mf79 : am_MF 79 := ⟨by decide +kernel, lw_i6 (List.mem_of_getElem? (i := 83) rfl), ⟨by decide +kernel, by decide +kernel, by decide +kernel⟩, ⟨lw_i6 (List.mem_of_getElem? (i := 81) rfl), lw_i6 (List.mem_of_getElem? (i := 82) rfl), by decide +kernel, by decide +kernel, rfl⟩, lw_i1 (List.mem_of_getElem? (i := 8) rfl), rfl, by decide +kernel, by decide +kernel⟩
theorem am_mf80 : am_MF 80 := ⟨by decide +kernel, lw_i6 (List.mem_of_getElem? (i := 111) rfl), ⟨by decide +kernel, by decide +kernel, by decide +kernel⟩, ⟨lw_i6 (List.mem_of_getElem? (i := 110) rfl), lw_s7 (List.mem_of_getElem? (i := 2) rfl), by decide +kernel, by decide +kernel, rfl⟩, lw_i1 (List.mem_of_getElem? (i := 8) rfl), rfl, by decide +kernel, by decide +kernel⟩
theorem am_mf81 : am_MF 81 := ⟨by decide +kernel, lw_i6 (List.mem_of_getElem? (i := 123) rfl), ⟨by decide +kernel, by decide +kernel, by decide +kernel⟩, ⟨lw_i6 (List.mem_of_getElem? (i := 122) rfl), lw_s7 (List.mem_of_getElem? (i := 5) rfl), by decide +kernel, by decide +kernel, rfl⟩, lw_i1 (List.mem_of_getElem? (i := 8) rfl), rfl, by decide +kernel, by decide +kernel⟩
theorem am_mf82 : am_MF 82 := ⟨by decide +kernel, lw_i6 (List.mem_of_getElem? (i := 119) rfl), ⟨by decide +kernel, by decide +kernel, by decide +kernel⟩, ⟨lw_i6 (List.mem_of_getElem? (i := 118) rfl), lw_s7 (List.mem_of_getElem? (i := 4) rfl), by decide +kernel, by decide +kernel, rfl⟩, lw_i1 (List.mem_of_getElem? (i := 8) rfl), rfl, by decide +kernel, by decide +kernel⟩
theorem am_mf83 : am_MF 83 := ⟨by decide +kernel, lw_i6 (List.mem_of_getElem? (i := 145) rfl), ⟨by decide +kernel, by decide +kernel, by decide +kernel⟩, ⟨lw_i6 (List.mem_of_getElem? (i := 144) rfl), lw_s7 (List.mem_of_getElem? (i := 10) rfl), by decide +kernel, by decide +kernel, rfl⟩, lw_i1 (List.mem_of_getElem? (i := 8) rfl), rfl, by decide +kernel, by decide +kernel⟩
theorem am_mf84 : am_MF 84 := ⟨by decide +kernel, lw_i6 (List.mem_of_getElem? (i := 115) rfl), ⟨by decide +kernel, by decide +kernel, by decide +kernel⟩, ⟨lw_i6 (List.mem_of_getElem? (i := 114) rfl), lw_s7 (List.mem_of_getElem? (i := 3) rfl), by decide +kernel, by decide +kernel, rfl⟩, lw_i1 (List.mem_of_getElem? (i := 8) rfl), rfl, by decide +kernel, by decide +kernel⟩
theorem am_mf85 : am_MF 85 := ⟨by decide +kernel, lw_i6 (List.mem_of_getElem? (i := 137) rfl), ⟨by decide +kernel, by decide +kernel, by decide +kernel⟩, ⟨lw_i6 (List.mem_of_getElem? (i := 136) rfl), lw_s7 (List.mem_of_getElem? (i := 8) rfl), by decide +kernel, by decide +kernel, rfl⟩, lw_i1 (List.mem_of_getElem? (i := 8) rfl), rfl, by decide +kernel, by decide +kernel⟩
theorem am_mf86 : am_MF 86 := ⟨by decide +kernel, lw_i6 (List.mem_of_getElem? (i := 141) rfl), ⟨by decide +kernel, by decide +kernel, by decide +kernel⟩, ⟨lw_i6 (List.mem_of_getElem? (i := 140) rfl), lw_s7 (List.mem_of_getElem? (i := 9) rfl), by decide +kernel, by decide +kernel, rfl⟩, lw_i1 (List.mem_of_getElem? (i := 8) rfl), rfl, by decide +kernel, by decide +kernel⟩
theorem am_mf87 : am_MF 87 := ⟨by decide +kernel, lw_i6 (List.mem_of_getElem? (i := 107) rfl), ⟨by decide +kernel, by decide +kernel, by decide +kernel⟩, ⟨lw_i6 (List.mem_of_getElem? (i := 106) rfl), lw_s7 (List.mem_of_getElem? (i := 1) rfl), by decide +kernel, by decide +kernel, rfl⟩, lw_i1 (List.mem_of_getElem? (i := 8) rfl), rfl, by decide +kernel, by decide +kernel⟩
theorem am_mf88 : am_MF 88 := ⟨by decide +kernel, lw_i6 (List.mem_of_getElem? (i := 103) rfl), ⟨by decide +kernel, by decide +kernel, by decide +kernel⟩, ⟨lw_i6 (List.mem_of_getElem? (i := 101) rfl), lw_i6 (List.mem_of_getElem? (i := 102) rfl), by decide +kernel, by decide +kernel, rfl⟩, lw_i1 (List.mem_of_getElem? (i := 8) rfl), rfl, by decide +kernel, by decide +kernel⟩
theorem am_mf89 : am_MF 89 := ⟨by decide +kernel, lw_i6 (List.mem_of_getElem? (i := 153) rfl), ⟨by decide +kernel, by decide +kernel, by decide +kernel⟩, ⟨lw_i6 (List.mem_of_getElem? (i := 152) rfl), lw_s7 (List.mem_of_getElem? (i := 11) rfl), by decide +kernel, by decide +kernel, rfl⟩, lw_i1 (List.mem_of_getElem? (i := 8) rfl), rfl, by decide +kernel, by decide +kernel⟩
theorem am_mf90 : am_MF 90 := ⟨by decide +kernel, lw_i6 (List.mem_of_getElem? (i := 149) rfl), ⟨by decide +kernel, by decide +kernel, by decide +kernel⟩, ⟨lw_i6 (List.mem_of_getElem? (i := 147) rfl), lw_i6 (List.mem_of_getElem? (i := 148) rfl), by decide +kernel, by decide +kernel, rfl⟩, lw_i1 (List.mem_of_getElem? (i := 8) rfl), rfl, by decide +kernel, by decide +kernel⟩
theorem am_mf91 : am_MF 91 := ⟨by decide +kernel, lw_i6 (List.mem_of_getElem? (i := 157) rfl), ⟨by decide +kernel, by decide +kernel, by decide +kernel⟩, ⟨lw_i6 (List.mem_of_getElem? (i := 155) rfl), lw_i6 (List.mem_of_getElem? (i := 156) rfl), by decide +kernel, by decide +kernel, rfl⟩, lw_i1 (List.mem_of_getElem? (i := 8) rfl), rfl, by decide +kernel, by decide +kernel⟩
theorem am_mf92 : am_MF 92 := ⟨by decide +kernel, lw_i6 (List.mem_of_getElem? (i := 161) rfl), ⟨by decide +kernel, by decide +kernel, by decide +kernel⟩, ⟨lw_i6 (List.mem_of_getElem? (i := 159) rfl), lw_i6 (List.mem_of_getElem? (i := 160) rfl), by decide +kernel, by decide +kernel, rfl⟩, lw_i1 (List.mem_of_getElem? (i := 8) rfl), rfl, by decide +kernel, by decide +kernel⟩
theorem am_mf93 : am_MF 93 := ⟨by decide +kernel, lw_i6 (List.mem_of_getElem? (i := 165) rfl), ⟨by decide +kernel, by decide +kernel, by decide +kernel⟩, ⟨lw_i6 (List.mem_of_getElem? (i := 163) rfl), lw_i6 (List.mem_of_getElem? (i := 164) rfl), by decide +kernel, by decide +kernel, rfl⟩, lw_i1 (List.mem_of_getElem? (i := 8) rfl), rfl, by decide +kernel, by decide +kernel⟩
theorem am_mf94 : am_MF 94 := ⟨by decide +kernel, lw_i6 (List.mem_of_getElem? (i := 169) rfl), ⟨by decide +kernel, by decide +kernel, by decide +kernel⟩, ⟨lw_i6 (List.mem_of_getElem? (i := 167) rfl), lw_i6 (List.mem_of_getElem? (i := 168) rfl), by decide +kernel, by decide +kernel, rfl⟩, lw_i1 (List.mem_of_getElem? (i := 8) rfl), rfl, by decide +kernel, by decide +kernel⟩
theorem am_mf95 : am_MF 95 := ⟨by decide +kernel, lw_i6 (List.mem_of_getElem? (i := 173) rfl), ⟨by decide +kernel, by decide +kernel, by decide +kernel⟩, ⟨lw_i6 (List.mem_of_getElem? (i := 171) rfl), lw_i6 (List.mem_of_getElem? (i := 172) rfl), by decide +kernel, by decide +kernel, rfl⟩, lw_i1 (List.mem_of_getElem? (i := 8) rfl), rfl, by decide +kernel, by decide +kernel⟩
theorem am_mf96 : am_MF 96 := ⟨by decide +kernel, lw_i6 (List.mem_of_getElem? (i := 177) rfl), ⟨by decide +kernel, by decide +kernel, by decide +kernel⟩, ⟨lw_i6 (List.mem_of_getElem? (i := 175) rfl), lw_i6 (List.mem_of_getElem? (i := 176) rfl), by decide +kernel, by decide +kernel, rfl⟩, lw_i1 (List.mem_of_getElem? (i := 8) rfl), rfl, by decide +kernel, by decide +kernel⟩
theorem am_mf97 : am_MF 97 := ⟨by decide +kernel, lw_i6 (List.mem_of_getElem? (i := 181) rfl), ⟨by decide +kernel, by decide +kernel, by decide +kernel⟩, ⟨lw_i6 (List.mem_of_getElem? (i := 179) rfl), lw_i6 (List.mem_of_getElem? (i := 180) rfl), by decide +kernel, by decide +kernel, rfl⟩, lw_i1 (List.mem_of_getElem? (i := 8) rfl), rfl, by decide +kernel, by decide +kernel⟩
theorem am_mf98 : am_MF 98 := ⟨by decide +kernel, lw_i6 (List.mem_of_getElem? (i := 193) rfl), ⟨by decide +kernel, by decide +kernel, by decide +kernel⟩, ⟨lw_i6 (List.mem_of_getElem? (i := 192) rfl), lw_s7 (List.mem_of_getElem? (i := 13) rfl), by decide +kernel, by decide +kernel, rfl⟩, lw_i1 (List.mem_of_getElem? (i := 8) rfl), rfl, by decide +kernel, by decide +kernel⟩
theorem am_mf99 : am_MF 99 := ⟨by decide +kernel, lw_i6 (List.mem_of_getElem? (i := 189) rfl), ⟨by decide +kernel, by decide +kernel, by decide +kernel⟩, ⟨lw_i6 (List.mem_of_getElem? (i := 188) rfl), lw_s7 (List.mem_of_getElem? (i := 12) rfl), by decide +kernel, by decide +kernel, rfl⟩, lw_i1 (List.mem_of_getElem? (i := 8) rfl), rfl, by decide +kernel, by decide +kernel⟩
theorem am_mf100 : am_MF 100 := ⟨by decide +kernel, lw_i6 (List.mem_of_getElem? (i := 185) rfl), ⟨by decide +kernel, by decide +kernel, by decide +kernel⟩, ⟨lw_i6 (List.mem_of_getElem? (i := 183) rfl), lw_i6 (List.mem_of_getElem? (i := 184) rfl), by decide +kernel, by decide +kernel, rfl⟩, lw_i1 (List.mem_of_getElem? (i := 8) rfl), rfl, by decide +kernel, by decide +kernel⟩
theorem am_mf101 : am_MF 101 := ⟨by decide +kernel, lw_i6 (List.mem_of_getElem? (i := 201) rfl), ⟨by decide +kernel, by decide +kernel, by decide +kernel⟩, ⟨lw_i6 (List.mem_of_getElem? (i := 200) rfl), lw_s7 (List.mem_of_getElem? (i := 14) rfl), by decide +kernel, by decide +kernel, rfl⟩, lw_i1 (List.mem_of_getElem? (i := 8) rfl), rfl, by decide +kernel, by decide +kernel⟩
theorem am_mf102 : am_MF 102 := ⟨by decide +kernel, lw_i6 (List.mem_of_getElem? (i := 205) rfl), ⟨by decide +kernel, by decide +kernel, by decide +kernel⟩, ⟨lw_i6 (List.mem_of_getElem? (i := 204) rfl), lw_s7 (List.mem_of_getElem? (i := 15) rfl), by decide +kernel, by decide +kernel, rfl⟩, lw_i1 (List.mem_of_getElem? (i := 8) rfl), rfl, by decide +kernel, by decide +kernel⟩
theorem am_mf103 : am_MF 103 := ⟨by decide +kernel, lw_i6 (List.mem_of_getElem? (i := 197) rfl), ⟨by decide +kernel, by decide +kernel, by decide +kernel⟩, ⟨lw_i6 (List.mem_of_getElem? (i := 195) rfl), lw_i6 (List.mem_of_getElem? (i := 196) rfl), by decide +kernel, by decide +kernel, rfl⟩, lw_i1 (List.mem_of_getElem? (i := 8) rfl), rfl, by decide +kernel, by decide +kernel⟩
theorem am_mf104 : am_MF 104 := ⟨by decide +kernel, lw_i6 (List.mem_of_getElem? (i := 213) rfl), ⟨by decide +kernel, by decide +kernel, by decide +kernel⟩, ⟨lw_i6 (List.mem_of_getElem? (i := 212) rfl), lw_s8 (List.mem_of_getElem? (i := 0) rfl), by decide +kernel, by decide +kernel, rfl⟩, lw_i1 (List.mem_of_getElem? (i := 8) rfl), rfl, by decide +kernel, by decide +kernel⟩
theorem am_mf105 : am_MF 105 := ⟨by decide +kernel, lw_i6 (List.mem_of_getElem? (i := 221) rfl), ⟨by decide +kernel, by decide +kernel, by decide +kernel⟩, ⟨lw_i6 (List.mem_of_getElem? (i := 220) rfl), lw_s8 (List.mem_of_getElem? (i := 2) rfl), by decide +kernel, by decide +kernel, rfl⟩, lw_i1 (List.mem_of_getElem? (i := 8) rfl), rfl, by decide +kernel, by decide +kernel⟩
theorem am_mf106 : am_MF 106 := ⟨by decide +kernel, lw_i6 (List.mem_of_getElem? (i := 217) rfl), ⟨by decide +kernel, by decide +kernel, by decide +kernel⟩, ⟨lw_i6 (List.mem_of_getElem? (i := 216) rfl), lw_s8 (List.mem_of_getElem? (i := 1) rfl), by decide +kernel, by decide +kernel, rfl⟩, lw_i1 (List.mem_of_getElem? (i := 8) rfl), rfl, by decide +kernel, by decide +kernel⟩
theorem am_mf107 : am_MF 107 := ⟨by decide +kernel, lw_i6 (List.mem_of_getElem? (i := 209) rfl), ⟨by decide +kernel, by decide +kernel, by decide +kernel⟩, ⟨lw_i6 (List.mem_of_getElem? (i := 207) rfl), lw_i6 (List.mem_of_getElem? (i := 208) rfl), by decide +kernel, by decide +kernel, rfl⟩, lw_i1 (List.mem_of_getElem? (i := 8) rfl), rfl, by decide +kernel, by decide +kernel⟩
theorem am_mf108 : am_MF 108 := ⟨by decide +kernel, lw_i6 (List.mem_of_getElem? (i := 225) rfl), ⟨by decide +kernel, by decide +kernel, by decide +kernel⟩, ⟨lw_i6 (List.mem_of_getElem? (i := 223) rfl), lw_i6 (List.mem_of_getElem? (i := 224) rfl), by decide +kernel, by decide +kernel, rfl⟩, lw_i1 (List.mem_of_getElem? (i := 8) rfl), rfl, by decide +kernel, by decide +kernel⟩
theorem am_mf109 : am_MF 109 := ⟨by decide +kernel, lw_i6 (List.mem_of_getElem? (i := 229) rfl), ⟨by decide +kernel, by decide +kernel, by decide +kernel⟩, ⟨lw_i6 (List.mem_of_getElem? (i := 227) rfl), lw_i6 (List.mem_of_getElem? (i := 228) rfl), by decide +kernel, by decide +kernel, rfl⟩, lw_i1 (List.mem_of_getElem? (i := 8) rfl), rfl, by decide +kernel, by decide +kernel⟩
theorem am_mf110 : am_MF 110 := ⟨by decide +kernel, lw_i6 (List.mem_of_getElem? (i := 233) rfl), ⟨by decide +kernel, by decide +kernel, by decide +kernel⟩, ⟨lw_i6 (List.mem_of_getElem? (i := 231) rfl), lw_i6 (List.mem_of_getElem? (i := 232) rfl), by decide +kernel, by decide +kernel, rfl⟩, lw_i1 (List.mem_of_getElem? (i := 8) rfl), rfl, by decide +kernel, by decide +kernel⟩
theorem am_mf111 : am_MF 111 := ⟨by decide +kernel, lw_i6 (List.mem_of_getElem? (i := 237) rfl), ⟨by decide +kernel, by decide +kernel, by decide +kernel⟩, ⟨lw_i6 (List.mem_of_getElem? (i := 235) rfl), lw_i6 (List.mem_of_getElem? (i := 236) rfl), by decide +kernel, by decide +kernel, rfl⟩, lw_i1 (List.mem_of_getElem? (i := 8) rfl), rfl, by decide +kernel, by decide +kernel⟩
theorem am_mf112 : am_MF 112 := ⟨by decide +kernel, lw_i7 (List.mem_of_getElem? (i := 4) rfl), ⟨by decide +kernel, by decide +kernel, by decide +kernel⟩, lw_i7 (List.mem_of_getElem? (i := 3) rfl), lw_i1 (List.mem_of_getElem? (i := 8) rfl), rfl, by decide +kernel, by decide +kernel⟩
theorem am_mf113 : am_MF 113 := ⟨by decide +kernel, lw_i7 (List.mem_of_getElem? (i := 1) rfl), ⟨by decide +kernel, by decide +kernel, by decide +kernel⟩, ⟨lw_i6 (List.mem_of_getElem? (i := 239) rfl), lw_i7 (List.mem_of_getElem? (i := 0) rfl), by decide +kernel, by decide +kernel, rfl⟩, lw_i1 (List.mem_of_getElem? (i := 8) rfl), rfl, by decide +kernel, by decide +kernel⟩
theorem am_mf114 : am_MF 114 := ⟨by decide +kernel, lw_i7 (List.mem_of_getElem? (i := 16) rfl), ⟨by decide +kernel, by decide +kernel, by decide +kernel⟩, ⟨lw_i7 (List.mem_of_getElem? (i := 15) rfl), lw_s8 (List.mem_of_getElem? (i := 4) rfl), by decide +kernel, by decide +kernel, rfl⟩, lw_i1 (List.mem_of_getElem? (i := 8) rfl), rfl, by decide +kernel, by decide +kernel⟩
theorem am_mf115 : am_MF 115 := ⟨by decide +kernel, lw_i7 (List.mem_of_getElem? (i := 12) rfl), ⟨by decide +kernel, by decide +kernel, by decide +kernel⟩, ⟨lw_i7 (List.mem_of_getElem? (i := 11) rfl), lw_s8 (List.mem_of_getElem? (i := 3) rfl), by decide +kernel, by decide +kernel, rfl⟩, lw_i1 (List.mem_of_getElem? (i := 8) rfl), rfl, by decide +kernel, by decide +kernel⟩
theorem am_mf116 : am_MF 116 := ⟨by decide +kernel, lw_i7 (List.mem_of_getElem? (i := 8) rfl), ⟨by decide +kernel, by decide +kernel, by decide +kernel⟩, ⟨lw_i7 (List.mem_of_getElem? (i := 6) rfl), lw_i7 (List.mem_of_getElem? (i := 7) rfl), by decide +kernel, by decide +kernel, rfl⟩, lw_i1 (List.mem_of_getElem? (i := 8) rfl), rfl, by decide +kernel, by decide +kernel⟩
theorem am_mf117 : am_MF 117 := ⟨by decide +kernel, lw_i7 (List.mem_of_getElem? (i := 21) rfl), ⟨by decide +kernel, by decide +kernel, by decide +kernel⟩, ⟨lw_i7 (List.mem_of_getElem? (i := 19) rfl), lw_i7 (List.mem_of_getElem? (i := 20) rfl), by decide +kernel, by decide +kernel, rfl⟩, lw_i1 (List.mem_of_getElem? (i := 8) rfl), rfl, by decide +kernel, by decide +kernel⟩
theorem am_mf118 : am_MF 118 := ⟨by decide +kernel, lw_i7 (List.mem_of_getElem? (i := 25) rfl), ⟨by decide +kernel, by decide +kernel, by decide +kernel⟩, ⟨lw_i7 (List.mem_of_getElem? (i := 23) rfl), lw_i7 (List.mem_of_getElem? (i := 24) rfl), by decide +kernel, by decide +kernel, rfl⟩, lw_i1 (List.mem_of_getElem? (i := 8) rfl), rfl, by decide +kernel, by decide +kernel⟩
theorem am_mf119 : am_MF 119 := ⟨by decide +kernel, lw_i7 (List.mem_of_getElem? (i := 30) rfl), ⟨by decide +kernel, by decide +kernel, by decide +kernel⟩, ⟨lw_i7 (List.mem_of_getElem? (i := 28) rfl), lw_i7 (List.mem_of_getElem? (i := 29) rfl), by decide +kernel, by decide +kernel, rfl⟩, lw_i1 (List.mem_of_getElem? (i := 8) rfl), rfl, by decide +kernel, by decide +kernel⟩
theorem am_mf120 : am_MF 120 := ⟨by decide +kernel, lw_i7 (List.mem_of_getElem? (i := 34) rfl), ⟨by decide +kernel, by decide +kernel, by decide +kernel⟩, ⟨lw_i7 (List.mem_of_getElem? (i := 32) rfl), lw_i7 (List.mem_of_getElem? (i := 33) rfl), by decide +kernel, by decide +kernel, rfl⟩, lw_i1 (List.mem_of_getElem? (i := 8) rfl), rfl, by decide +kernel, by decide +kernel⟩
theorem am_mf121 : am_MF 121 := ⟨by decide +kernel, lw_i7 (List.mem_of_getElem? (i := 38) rfl), ⟨by decide +kernel, by decide +kernel, by decide +kernel⟩, ⟨lw_i7 (List.mem_of_getElem? (i := 36) rfl), lw_i7 (List.mem_of_getElem? (i := 37) rfl), by decide +kernel, by decide +kernel, rfl⟩, lw_i1 (List.mem_of_getElem? (i := 8) rfl), rfl, by decide +kernel, by decide +kernel⟩
theorem am_mf122 : am_MF 122 := ⟨by decide +kernel, lw_i7 (List.mem_of_getElem? (i := 42) rfl), ⟨by decide +kernel, by decide +kernel, by decide +kernel⟩, ⟨lw_i7 (List.mem_of_getElem? (i := 40) rfl), lw_i7 (List.mem_of_getElem? (i := 41) rfl), by decide +kernel, by decide +kernel, rfl⟩, lw_i1 (List.mem_of_getElem? (i := 8) rfl), rfl, by decide +kernel, by decide +kernel⟩
theorem am_mf123 : am_MF 123 := ⟨by decide +kernel, lw_i7 (List.mem_of_getElem? (i := 58) rfl), ⟨by decide +kernel, by decide +kernel, by decide +kernel⟩, ⟨lw_i7 (List.mem_of_getElem? (i := 57) rfl), lw_s8 (List.mem_of_getElem? (i := 7) rfl), by decide +kernel, by decide +kernel, rfl⟩, lw_i1 (List.mem_of_getElem? (i := 8) rfl), rfl, by decide +kernel, by decide +kernel⟩
theorem am_mf124 : am_MF 124 := ⟨by decide +kernel, lw_i7 (List.mem_of_getElem? (i := 54) rfl), ⟨by decide +kernel, by decide +kernel, by decide +kernel⟩, ⟨lw_i7 (List.mem_of_getElem? (i := 53) rfl), lw_s8 (List.mem_of_getElem? (i := 6) rfl), by decide +kernel, by decide +kernel, rfl⟩, lw_i1 (List.mem_of_getElem? (i := 8) rfl), rfl, by decide +kernel, by decide +kernel⟩
theorem am_mf125 : am_MF 125 := ⟨by decide +kernel, lw_i7 (List.mem_of_getElem? (i := 50) rfl), ⟨by decide +kernel, by decide +kernel, by decide +kernel⟩, ⟨lw_i7 (List.mem_of_getElem? (i := 49) rfl), lw_s8 (List.mem_of_getElem? (i := 5) rfl), by decide +kernel, by decide +kernel, rfl⟩, lw_i1 (List.mem_of_getElem? (i := 8) rfl), rfl, by decide +kernel, by decide +kernel⟩
theorem am_mf126 : am_MF 126 := ⟨by decide +kernel, lw_i7 (List.mem_of_getElem? (i := 46) rfl), ⟨by decide +kernel, by decide +kernel, by decide +kernel⟩, ⟨lw_i7 (List.mem_of_getElem? (i := 44) rfl), lw_i7 (List.mem_of_getElem? (i := 45) rfl), by decide +kernel, by decide +kernel, rfl⟩, lw_i1 (List.mem_of_getElem? (i := 8) rfl), rfl, by decide +kernel, by decide +kernel⟩
theorem am_mf127 : am_MF 127 := ⟨by decide +kernel, lw_i7 (List.mem_of_getElem? (i := 62) rfl), ⟨by decide +kernel, by decide +kernel, by decide +kernel⟩, ⟨lw_i7 (List.mem_of_getElem? (i := 60) rfl), lw_i7 (List.mem_of_getElem? (i := 61) rfl), by decide +kernel, by decide +kernel, rfl⟩, lw_i1 (List.mem_of_getElem? (i := 8) rfl), rfl, by decide +kernel, by decide +kernel⟩
theorem am_mf128 : am_MF 128 := ⟨by decide +kernel, lw_i7 (List.mem_of_getElem? (i := 66) rfl), ⟨by decide +kernel, by decide +kernel, by decide +kernel⟩, ⟨lw_i7 (List.mem_of_getElem? (i := 64) rfl), lw_i7 (List.mem_of_getElem? (i := 65) rfl), by decide +kernel, by decide +kernel, rfl⟩, lw_i1 (List.mem_of_getElem? (i := 8) rfl), rfl, by decide +kernel, by decide +kernel⟩
theorem am_mf129 : am_MF 129 := ⟨by decide +kernel, lw_i7 (List.mem_of_getElem? (i := 70) rfl), ⟨by decide +kernel, by decide +kernel, by decide +kernel⟩, ⟨lw_i7 (List.mem_of_getElem? (i := 68) rfl), lw_i7 (List.mem_of_getElem? (i := 69) rfl), by decide +kernel, by decide +kernel, rfl⟩, lw_i1 (List.mem_of_getElem? (i := 8) rfl), rfl, by decide +kernel, by decide +kernel⟩
theorem am_mf130 : am_MF 130 := ⟨by decide +kernel, lw_i7 (List.mem_of_getElem? (i := 74) rfl), ⟨by decide +kernel, by decide +kernel, by decide +kernel⟩, ⟨lw_i7 (List.mem_of_getElem? (i := 72) rfl), lw_i7 (List.mem_of_getElem? (i := 73) rfl), by decide +kernel, by decide +kernel, rfl⟩, lw_i1 (List.mem_of_getElem? (i := 8) rfl), rfl, by decide +kernel, by decide +kernel⟩
theorem am_mf131 : am_MF 131 := ⟨by decide +kernel, lw_i7 (List.mem_of_getElem? (i := 82) rfl), ⟨by decide +kernel, by decide +kernel, by decide +kernel⟩, ⟨lw_i7 (List.mem_of_getElem? (i := 81) rfl), lw_s8 (List.mem_of_getElem? (i := 8) rfl), by decide +kernel, by decide +kernel, rfl⟩, lw_i1 (List.mem_of_getElem? (i := 8) rfl), rfl, by decide +kernel, by decide +kernel⟩
theorem am_mf132 : am_MF 132 := ⟨by decide +kernel, lw_i7 (List.mem_of_getElem? (i := 78) rfl), ⟨by decide +kernel, by decide +kernel, by decide +kernel⟩, ⟨lw_i7 (List.mem_of_getElem? (i := 76) rfl), lw_i7 (List.mem_of_getElem? (i := 77) rfl), by decide +kernel, by decide +kernel, rfl⟩, lw_i1 (List.mem_of_getElem? (i := 8) rfl), rfl, by decide +kernel, by decide +kernel⟩
theorem am_mf133 : am_MF 133 := ⟨by decide +kernel, lw_i3 (List.mem_of_getElem? (i := 60) rfl), ⟨by decide +kernel, by decide +kernel, by decide +kernel⟩, ⟨lw_i3 (List.mem_of_getElem? (i := 58) rfl), lw_i3 (List.mem_of_getElem? (i := 59) rfl), by decide +kernel, by decide +kernel, rfl⟩, lw_i1 (List.mem_of_getElem? (i := 2) rfl), rfl, by decide +kernel, by decide +kernel⟩
theorem am_mf134 : am_MF 134 := ⟨by decide +kernel, lw_i2 (List.mem_of_getElem? (i := 68) rfl), ⟨by decide +kernel, by decide +kernel, by decide +kernel⟩, ⟨lw_i2 (List.mem_of_getElem? (i := 66) rfl), lw_i2 (List.mem_of_getElem? (i := 67) rfl), by decide +kernel, by decide +kernel, rfl⟩, lw_i1 (List.mem_of_getElem? (i := 2) rfl), rfl, by decide +kernel, by decide +kernel⟩
theorem am_mf135 : am_MF 135 := ⟨by decide +kernel, lw_i2 (List.mem_of_getElem? (i := 76) rfl), ⟨by decide +kernel, by decide +kernel, by decide +kernel⟩, ⟨lw_i2 (List.mem_of_getElem? (i := 74) rfl), lw_i2 (List.mem_of_getElem? (i := 75) rfl), by decide +kernel, by decide +kernel, rfl⟩, lw_i1 (List.mem_of_getElem? (i := 2) rfl), rfl, by decide +kernel, by decide +kernel⟩
theorem am_mf136 : am_MF 136 := ⟨by decide +kernel, lw_i2 (List.mem_of_getElem? (i := 60) rfl), ⟨by decide +kernel, by decide +kernel, by decide +kernel⟩, ⟨lw_i2 (List.mem_of_getElem? (i := 58) rfl), lw_i2 (List.mem_of_getElem? (i := 59) rfl), by decide +kernel, by decide +kernel, rfl⟩, lw_i1 (List.mem_of_getElem? (i := 2) rfl), rfl, by decide +kernel, by decide +kernel⟩
theorem am_mf137 : am_MF 137 := ⟨by decide +kernel, lw_i2 (List.mem_of_getElem? (i := 72) rfl), ⟨by decide +kernel, by decide +kernel, by decide +kernel⟩, ⟨lw_i2 (List.mem_of_getElem? (i := 70) rfl), lw_i2 (List.mem_of_getElem? (i := 71) rfl), by decide +kernel, by decide +kernel, rfl⟩, lw_i1 (List.mem_of_getElem? (i := 2) rfl), rfl, by decide +kernel, by decide +kernel⟩
theorem am_mf138 : am_MF 138 := ⟨by decide +kernel, lw_i2 (List.mem_of_getElem? (i := 80) rfl), ⟨by decide +kernel, by decide +kernel, by decide +kernel⟩, ⟨lw_i2 (List.mem_of_getElem? (i := 78) rfl), lw_i2 (List.mem_of_getElem? (i := 79) rfl), by decide +kernel, by decide +kernel, rfl⟩, lw_i1 (List.mem_of_getElem? (i := 2) rfl), rfl, by decide +kernel, by decide +kernel⟩
theorem am_mf139 : am_MF 139 := ⟨by decide +kernel, lw_i3 (List.mem_of_getElem? (i := 224) rfl), ⟨by decide +kernel, by decide +kernel, by decide +kernel⟩, ⟨lw_i3 (List.mem_of_getElem? (i := 222) rfl), lw_i3 (List.mem_of_getElem? (i := 223) rfl), by decide +kernel, by decide +kernel, rfl⟩, lw_i1 (List.mem_of_getElem? (i := 2) rfl), rfl, by decide +kernel, by decide +kernel⟩
theorem am_mf140 : am_MF 140 := ⟨by decide +kernel, lw_i4 (List.mem_of_getElem? (i := 76) rfl), ⟨by decide +kernel, by decide +kernel, by decide +kernel⟩, ⟨lw_i4 (List.mem_of_getElem? (i := 74) rfl), lw_i4 (List.mem_of_getElem? (i := 75) rfl), by decide +kernel, by decide +kernel, rfl⟩, lw_i1 (List.mem_of_getElem? (i := 2) rfl), rfl, by decide +kernel, by decide +kernel⟩
theorem am_mf141 : am_MF 141 := ⟨by decide +kernel, lw_i3 (List.mem_of_getElem? (i := 40) rfl), ⟨by decide +kernel, by decide +kernel, by decide +kernel⟩, ⟨lw_i3 (List.mem_of_getElem? (i := 38) rfl), lw_i3 (List.mem_of_getElem? (i := 39) rfl), by decide +kernel, by decide +kernel, rfl⟩, lw_i1 (List.mem_of_getElem? (i := 2) rfl), rfl, by decide +kernel, by decide +kernel⟩
theorem am_mf142 : am_MF 142 := ⟨by decide +kernel, lw_i3 (List.mem_of_getElem? (i := 27) rfl), ⟨by decide +kernel, by decide +kernel, by decide +kernel⟩, ⟨lw_i3 (List.mem_of_getElem? (i := 25) rfl), lw_i3 (List.mem_of_getElem? (i := 26) rfl), by decide +kernel, by decide +kernel, rfl⟩, lw_i1 (List.mem_of_getElem? (i := 2) rfl), rfl, by decide +kernel, by decide +kernel⟩
theorem am_mf143 : am_MF 143 := ⟨by decide +kernel, lw_i3 (List.mem_of_getElem? (i := 23) rfl), ⟨by decide +kernel, by decide +kernel, by decide +kernel⟩, ⟨lw_i3 (List.mem_of_getElem? (i := 21) rfl), lw_i3 (List.mem_of_getElem? (i := 22) rfl), by decide +kernel, by decide +kernel, rfl⟩, lw_i1 (List.mem_of_getElem? (i := 2) rfl), rfl, by decide +kernel, by decide +kernel⟩
theorem am_mf144 : am_MF 144 := ⟨by decide +kernel, lw_i3 (List.mem_of_getElem? (i := 44) rfl), ⟨by decide +kernel, by decide +kernel, by decide +kernel⟩, ⟨lw_i3 (List.mem_of_getElem? (i := 42) rfl), lw_i3 (List.mem_of_getElem? (i := 43) rfl), by decide +kernel, by decide +kernel, rfl⟩, lw_i1 (List.mem_of_getElem? (i := 2) rfl), rfl, by decide +kernel, by decide +kernel⟩
theorem am_mf145 : am_MF 145 := ⟨by decide +kernel, lw_i3 (List.mem_of_getElem? (i := 73) rfl), ⟨by decide +kernel, by decide +kernel, by decide +kernel⟩, ⟨lw_i3 (List.mem_of_getElem? (i := 71) rfl), lw_i3 (List.mem_of_getElem? (i := 72) rfl), by decide +kernel, by decide +kernel, rfl⟩, lw_i1 (List.mem_of_getElem? (i := 2) rfl), rfl, by decide +kernel, by decide +kernel⟩
theorem am_mf146 : am_MF 146 := ⟨by decide +kernel, lw_i3 (List.mem_of_getElem? (i := 77) rfl), ⟨by decide +kernel, by decide +kernel, by decide +kernel⟩, ⟨lw_i3 (List.mem_of_getElem? (i := 75) rfl), lw_i3 (List.mem_of_getElem? (i := 76) rfl), by decide +kernel, by decide +kernel, rfl⟩, lw_i1 (List.mem_of_getElem? (i := 2) rfl), rfl, by decide +kernel, by decide +kernel⟩
theorem am_mf147 : am_MF 147 := ⟨by decide +kernel, lw_i3 (List.mem_of_getElem? (i := 68) rfl), ⟨by decide +kernel, by decide +kernel, by decide +kernel⟩, ⟨lw_i3 (List.mem_of_getElem? (i := 66) rfl), lw_i3 (List.mem_of_getElem? (i := 67) rfl), by decide +kernel, by decide +kernel, rfl⟩, lw_i1 (List.mem_of_getElem? (i := 2) rfl), rfl, by decide +kernel, by decide +kernel⟩
theorem am_mf148 : am_MF 148 := ⟨by decide +kernel, lw_i3 (List.mem_of_getElem? (i := 145) rfl), ⟨by decide +kernel, by decide +kernel, by decide +kernel⟩, ⟨lw_i3 (List.mem_of_getElem? (i := 143) rfl), lw_i3 (List.mem_of_getElem? (i := 144) rfl), by decide +kernel, by decide +kernel, rfl⟩, lw_i1 (List.mem_of_getElem? (i := 2) rfl), rfl, by decide +kernel, by decide +kernel⟩
theorem am_mf149 : am_MF 149 := ⟨by decide +kernel, lw_i3 (List.mem_of_getElem? (i := 151) rfl), ⟨by decide +kernel, by decide +kernel, by decide +kernel⟩, ⟨lw_i3 (List.mem_of_getElem? (i := 149) rfl), lw_i3 (List.mem_of_getElem? (i := 150) rfl), by decide +kernel, by decide +kernel, rfl⟩, lw_i1 (List.mem_of_getElem? (i := 2) rfl), rfl, by decide +kernel, by decide +kernel⟩
theorem am_mf150 : am_MF 150 := ⟨by decide +kernel, lw_i3 (List.mem_of_getElem? (i := 155) rfl), ⟨by decide +kernel, by decide +kernel, by decide +kernel⟩, ⟨lw_i3 (List.mem_of_getElem? (i := 153) rfl), lw_i3 (List.mem_of_getElem? (i := 154) rfl), by decide +kernel, by decide +kernel, rfl⟩, lw_i1 (List.mem_of_getElem? (i := 2) rfl), rfl, by decide +kernel, by decide +kernel⟩
theorem am_mf151 : am_MF 151 := ⟨by decide +kernel, lw_i3 (List.mem_of_getElem? (i := 159) rfl), ⟨by decide +kernel, by decide +kernel, by decide +kernel⟩, ⟨lw_i3 (List.mem_of_getElem? (i := 157) rfl), lw_i3 (List.mem_of_getElem? (i := 158) rfl), by decide +kernel, by decide +kernel, rfl⟩, lw_i1 (List.mem_of_getElem? (i := 2) rfl), rfl, by decide +kernel, by decide +kernel⟩
theorem am_mf152 : am_MF 152 := ⟨by decide +kernel, lw_i2 (List.mem_of_getElem? (i := 222) rfl), ⟨by decide +kernel, by decide +kernel, by decide +kernel⟩, ⟨lw_i2 (List.mem_of_getElem? (i := 220) rfl), lw_i2 (List.mem_of_getElem? (i := 221) rfl), by decide +kernel, by decide +kernel, rfl⟩, lw_i1 (List.mem_of_getElem? (i := 5) rfl), rfl, by decide +kernel, by decide +kernel⟩
theorem am_mf153 : am_MF 153 := ⟨by decide +kernel, lw_i2 (List.mem_of_getElem? (i := 206) rfl), ⟨by decide +kernel, by decide +kernel, by decide +kernel⟩, ⟨lw_i2 (List.mem_of_getElem? (i := 204) rfl), lw_i2 (List.mem_of_getElem? (i := 205) rfl), by decide +kernel, by decide +kernel, rfl⟩, lw_i1 (List.mem_of_getElem? (i := 5) rfl), rfl, by decide +kernel, by decide +kernel⟩
theorem am_mf154 : am_MF 154 := ⟨by decide +kernel, lw_i3 (List.mem_of_getElem? (i := 48) rfl), ⟨by decide +kernel, by decide +kernel, by decide +kernel⟩, ⟨lw_i3 (List.mem_of_getElem? (i := 46) rfl), lw_i3 (List.mem_of_getElem? (i := 47) rfl), by decide +kernel, by decide +kernel, rfl⟩, lw_i1 (List.mem_of_getElem? (i := 5) rfl), rfl, by decide +kernel, by decide +kernel⟩
theorem am_mf155 : am_MF 155 := ⟨by decide +kernel, lw_i3 (List.mem_of_getElem? (i := 135) rfl), ⟨by decide +kernel, by decide +kernel, by decide +kernel⟩, ⟨lw_i3 (List.mem_of_getElem? (i := 133) rfl), lw_i3 (List.mem_of_getElem? (i := 134) rfl), by decide +kernel, by decide +kernel, rfl⟩, lw_i1 (List.mem_of_getElem? (i := 5) rfl), rfl, by decide +kernel, by decide +kernel⟩
theorem am_mf156 : am_MF 156 := ⟨by decide +kernel, lw_i3 (List.mem_of_getElem? (i := 52) rfl), ⟨by decide +kernel, by decide +kernel, by decide +kernel⟩, ⟨lw_i3 (List.mem_of_getElem? (i := 51) rfl), lw_s2 (List.mem_of_getElem? (i := 2) rfl), by decide +kernel, by decide +kernel, rfl⟩, lw_i1 (List.mem_of_getElem? (i := 5) rfl), rfl, by decide +kernel, by decide +kernel⟩
theorem am_mf157 : am_MF 157 := ⟨by decide +kernel, lw_i3 (List.mem_of_getElem? (i := 123) rfl), ⟨by decide +kernel, by decide +kernel, by decide +kernel⟩, ⟨lw_i3 (List.mem_of_getElem? (i := 121) rfl), lw_i3 (List.mem_of_getElem? (i := 122) rfl), by decide +kernel, by decide +kernel, rfl⟩, lw_i1 (List.mem_of_getElem? (i := 4) rfl), rfl, by decide +kernel, by decide +kernel⟩
theorem am_mf158 : am_MF 158 := ⟨by decide +kernel, lw_i3 (List.mem_of_getElem? (i := 5) rfl), ⟨by decide +kernel, by decide +kernel, by decide +kernel⟩, ⟨lw_i3 (List.mem_of_getElem? (i := 3) rfl), lw_i3 (List.mem_of_getElem? (i := 4) rfl), by decide +kernel, by decide +kernel, rfl⟩, lw_i1 (List.mem_of_getElem? (i := 4) rfl), rfl, by decide +kernel, by decide +kernel⟩
theorem am_mf159 : am_MF 159 := ⟨by decide +kernel, lw_i3 (List.mem_of_getElem? (i := 177) rfl), ⟨by decide +kernel, by decide +kernel, by decide +kernel⟩, ⟨lw_i3 (List.mem_of_getElem? (i := 175) rfl), lw_i3 (List.mem_of_getElem? (i := 176) rfl), by decide +kernel, by decide +kernel, rfl⟩, lw_i1 (List.mem_of_getElem? (i := 3) rfl), rfl, by decide +kernel, by decide +kernel⟩
theorem am_mf160 : am_MF 160 := ⟨by decide +kernel, lw_i2 (List.mem_of_getElem? (i := 100) rfl), ⟨by decide +kernel, by decide +kernel, by decide +kernel⟩, ⟨lw_i2 (List.mem_of_getElem? (i := 98) rfl), lw_i2 (List.mem_of_getElem? (i := 99) rfl), by decide +kernel, by decide +kernel, rfl⟩, lw_i1 (List.mem_of_getElem? (i := 6) rfl), rfl, by decide +kernel, by decide +kernel⟩
theorem am_mf161 : am_MF 161 := ⟨by decide +kernel, lw_i2 (List.mem_of_getElem? (i := 104) rfl), ⟨by decide +kernel, by decide +kernel, by decide +kernel⟩, ⟨lw_i2 (List.mem_of_getElem? (i := 103) rfl), lw_s1 (List.mem_of_getElem? (i := 2) rfl), by decide +kernel, by decide +kernel, rfl⟩, lw_i1 (List.mem_of_getElem? (i := 6) rfl), rfl, by decide +kernel, by decide +kernel⟩
theorem am_mf162 : am_MF 162 := ⟨by decide +kernel, lw_i2 (List.mem_of_getElem? (i := 166) rfl), ⟨by decide +kernel, by decide +kernel, by decide +kernel⟩, ⟨lw_i2 (List.mem_of_getElem? (i := 165) rfl), lw_s1 (List.mem_of_getElem? (i := 3) rfl), by decide +kernel, by decide +kernel, rfl⟩, lw_i1 (List.mem_of_getElem? (i := 6) rfl), rfl, by decide +kernel, by decide +kernel⟩
theorem am_mf163 : am_MF 163 := ⟨by decide +kernel, lw_i2 (List.mem_of_getElem? (i := 107) rfl), ⟨by decide +kernel, by decide +kernel, by decide +kernel⟩, lw_i2 (List.mem_of_getElem? (i := 106) rfl), lw_i1 (List.mem_of_getElem? (i := 6) rfl), rfl, by decide +kernel, by decide +kernel⟩
theorem am_mf164 : am_MF 164 := ⟨by decide +kernel, lw_i2 (List.mem_of_getElem? (i := 169) rfl), ⟨by decide +kernel, by decide +kernel, by decide +kernel⟩, lw_i2 (List.mem_of_getElem? (i := 168) rfl), lw_i1 (List.mem_of_getElem? (i := 6) rfl), rfl, by decide +kernel, by decide +kernel⟩
theorem am_mf165 : am_MF 165 := ⟨by decide +kernel, lw_i2 (List.mem_of_getElem? (i := 172) rfl), ⟨by decide +kernel, by decide +kernel, by decide +kernel⟩, lw_i2 (List.mem_of_getElem? (i := 171) rfl), lw_i1 (List.mem_of_getElem? (i := 6) rfl), rfl, by decide +kernel, by decide +kernel⟩
theorem am_mf166 : am_MF 166 := ⟨by decide +kernel, lw_i2 (List.mem_of_getElem? (i := 110) rfl), ⟨by decide +kernel, by decide +kernel, by decide +kernel⟩, lw_i2 (List.mem_of_getElem? (i := 109) rfl), lw_i1 (List.mem_of_getElem? (i := 6) rfl), rfl, by decide +kernel, by decide +kernel⟩
theorem am_mf167 : am_MF 167 := ⟨by decide +kernel, lw_i2 (List.mem_of_getElem? (i := 162) rfl), ⟨by decide +kernel, by decide +kernel, by decide +kernel⟩, lw_i2 (List.mem_of_getElem? (i := 161) rfl), lw_i1 (List.mem_of_getElem? (i := 6) rfl), rfl, by decide +kernel, by decide +kernel⟩
theorem am_mf168 : am_MF 168 := ⟨by decide +kernel, lw_i2 (List.mem_of_getElem? (i := 182) rfl), ⟨by decide +kernel, by decide +kernel, by decide +kernel⟩, ⟨lw_i2 (List.mem_of_getElem? (i := 181) rfl), lw_s1 (List.mem_of_getElem? (i := 4) rfl), by decide +kernel, by decide +kernel, rfl⟩, lw_i1 (List.mem_of_getElem? (i := 6) rfl), rfl, by decide +kernel, by decide +kernel⟩
theorem am_mf169 : am_MF 169 := ⟨by decide +kernel, lw_i2 (List.mem_of_getElem? (i := 194) rfl), ⟨by decide +kernel, by decide +kernel, by decide +kernel⟩, ⟨lw_i2 (List.mem_of_getElem? (i := 193) rfl), lw_s1 (List.mem_of_getElem? (i := 6) rfl), by decide +kernel, by decide +kernel, rfl⟩, lw_i1 (List.mem_of_getElem? (i := 6) rfl), rfl, by decide +kernel, by decide +kernel⟩
theorem am_mf170 : am_MF 170 := ⟨by decide +kernel, lw_i2 (List.mem_of_getElem? (i := 218) rfl), ⟨by decide +kernel, by decide +kernel, by decide +kernel⟩, ⟨lw_i2 (List.mem_of_getElem? (i := 217) rfl), lw_s1 (List.mem_of_getElem? (i := 11) rfl), by decide +kernel, by decide +kernel, rfl⟩, lw_i1 (List.mem_of_getElem? (i := 6) rfl), rfl, by decide +kernel, by decide +kernel⟩
theorem am_mf171 : am_MF 171 := ⟨by decide +kernel, lw_i2 (List.mem_of_getElem? (i := 176) rfl), ⟨by decide +kernel, by decide +kernel, by decide +kernel⟩, ⟨lw_i2 (List.mem_of_getElem? (i := 174) rfl), lw_i2 (List.mem_of_getElem? (i := 175) rfl), by decide +kernel, by decide +kernel, rfl⟩, lw_i1 (List.mem_of_getElem? (i := 6) rfl), rfl, by decide +kernel, by decide +kernel⟩
theorem am_mf172 : am_MF 172 := ⟨by decide +kernel, lw_i2 (List.mem_of_getElem? (i := 186) rfl), ⟨by decide +kernel, by decide +kernel, by decide +kernel⟩, ⟨lw_i2 (List.mem_of_getElem? (i := 185) rfl), lw_s1 (List.mem_of_getElem? (i := 5) rfl), by decide +kernel, by decide +kernel, rfl⟩, lw_i1 (List.mem_of_getElem? (i := 6) rfl), rfl, by decide +kernel, by decide +kernel⟩
theorem am_mf173 : am_MF 173 := ⟨by decide +kernel, lw_i2 (List.mem_of_getElem? (i := 210) rfl), ⟨by decide +kernel, by decide +kernel, by decide +kernel⟩, ⟨lw_i2 (List.mem_of_getElem? (i := 209) rfl), lw_s1 (List.mem_of_getElem? (i := 9) rfl), by decide +kernel, by decide +kernel, rfl⟩, lw_i1 (List.mem_of_getElem? (i := 6) rfl), rfl, by decide +kernel, by decide +kernel⟩
theorem am_mf174 : am_MF 174 := ⟨by decide +kernel, lw_i2 (List.mem_of_getElem? (i := 214) rfl), ⟨by decide +kernel, by decide +kernel, by decide +kernel⟩, ⟨lw_i2 (List.mem_of_getElem? (i := 213) rfl), lw_s1 (List.mem_of_getElem? (i := 10) rfl), by decide +kernel, by decide +kernel, rfl⟩, lw_i1 (List.mem_of_getElem? (i := 6) rfl), rfl, by decide +kernel, by decide +kernel⟩
theorem am_mf175 : am_MF 175 := ⟨by decide +kernel, lw_i2 (List.mem_of_getElem? (i := 198) rfl), ⟨by decide +kernel, by decide +kernel, by decide +kernel⟩, ⟨lw_i2 (List.mem_of_getElem? (i := 197) rfl), lw_s1 (List.mem_of_getElem? (i := 7) rfl), by decide +kernel, by decide +kernel, rfl⟩, lw_i1 (List.mem_of_getElem? (i := 6) rfl), rfl, by decide +kernel, by decide +kernel⟩
theorem am_mf176 : am_MF 176 := ⟨by decide +kernel, lw_i2 (List.mem_of_getElem? (i := 202) rfl), ⟨by decide +kernel, by decide +kernel, by decide +kernel⟩, ⟨lw_i2 (List.mem_of_getElem? (i := 201) rfl), lw_s1 (List.mem_of_getElem? (i := 8) rfl), by decide +kernel, by decide +kernel, rfl⟩, lw_i1 (List.mem_of_getElem? (i := 6) rfl), rfl, by decide +kernel, by decide +kernel⟩
theorem am_mf177 : am_MF 177 := ⟨by decide +kernel, lw_i2 (List.mem_of_getElem? (i := 229) rfl), ⟨by decide +kernel, by decide +kernel, by decide +kernel⟩, ⟨lw_i2 (List.mem_of_getElem? (i := 227) rfl), lw_i2 (List.mem_of_getElem? (i := 228) rfl), by decide +kernel, by decide +kernel, rfl⟩, lw_i1 (List.mem_of_getElem? (i := 6) rfl), rfl, by decide +kernel, by decide +kernel⟩
theorem am_mf178 : am_MF 178 := ⟨by decide +kernel, lw_i2 (List.mem_of_getElem? (i := 233) rfl), ⟨by decide +kernel, by decide +kernel, by decide +kernel⟩, ⟨lw_i2 (List.mem_of_getElem? (i := 232) rfl), lw_s1 (List.mem_of_getElem? (i := 12) rfl), by decide +kernel, by decide +kernel, rfl⟩, lw_i1 (List.mem_of_getElem? (i := 6) rfl), rfl, by decide +kernel, by decide +kernel⟩
theorem am_mf179 : am_MF 179 := ⟨by decide +kernel, lw_i3 (List.mem_of_getElem? (i := 1) rfl), ⟨by decide +kernel, by decide +kernel, by decide +kernel⟩, ⟨lw_i3 (List.mem_of_getElem? (i := 0) rfl), lw_s1 (List.mem_of_getElem? (i := 14) rfl), by decide +kernel, by decide +kernel, rfl⟩, lw_i1 (List.mem_of_getElem? (i := 6) rfl), rfl, by decide +kernel, by decide +kernel⟩
theorem am_mf180 : am_MF 180 := ⟨by decide +kernel, lw_i2 (List.mem_of_getElem? (i := 237) rfl), ⟨by decide +kernel, by decide +kernel, by decide +kernel⟩, ⟨lw_i2 (List.mem_of_getElem? (i := 236) rfl), lw_s1 (List.mem_of_getElem? (i := 13) rfl), by decide +kernel, by decide +kernel, rfl⟩, lw_i1 (List.mem_of_getElem? (i := 6) rfl), rfl, by decide +kernel, by decide +kernel⟩
theorem am_mf181 : am_MF 181 := ⟨by decide +kernel, lw_i2 (List.mem_of_getElem? (i := 45) rfl), ⟨by decide +kernel, by decide +kernel, by decide +kernel⟩, ⟨lw_i2 (List.mem_of_getElem? (i := 43) rfl), lw_i2 (List.mem_of_getElem? (i := 44) rfl), by decide +kernel, by decide +kernel, rfl⟩, lw_i1 (List.mem_of_getElem? (i := 1) rfl), rfl, by decide +kernel, by decide +kernel⟩
theorem am_mf182 : am_MF 182 := ⟨by decide +kernel, lw_i2 (List.mem_of_getElem? (i := 53) rfl), ⟨by decide +kernel, by decide +kernel, by decide +kernel⟩, ⟨lw_i2 (List.mem_of_getElem? (i := 51) rfl), lw_i2 (List.mem_of_getElem? (i := 52) rfl), by decide +kernel, by decide +kernel, rfl⟩, lw_i1 (List.mem_of_getElem? (i := 1) rfl), rfl, by decide +kernel, by decide +kernel⟩
theorem am_mf183 : am_MF 183 := ⟨by decide +kernel, lw_i2 (List.mem_of_getElem? (i := 64) rfl), ⟨by decide +kernel, by decide +kernel, by decide +kernel⟩, ⟨lw_i2 (List.mem_of_getElem? (i := 62) rfl), lw_i2 (List.mem_of_getElem? (i := 63) rfl), by decide +kernel, by decide +kernel, rfl⟩, lw_i1 (List.mem_of_getElem? (i := 1) rfl), rfl, by decide +kernel, by decide +kernel⟩
theorem am_mf184 : am_MF 184 := ⟨by decide +kernel, lw_i2 (List.mem_of_getElem? (i := 84) rfl), ⟨by decide +kernel, by decide +kernel, by decide +kernel⟩, ⟨lw_i2 (List.mem_of_getElem? (i := 82) rfl), lw_i2 (List.mem_of_getElem? (i := 83) rfl), by decide +kernel, by decide +kernel, rfl⟩, lw_i1 (List.mem_of_getElem? (i := 1) rfl), rfl, by decide +kernel, by decide +kernel⟩
theorem am_mf185 : am_MF 185 := ⟨by decide +kernel, lw_i2 (List.mem_of_getElem? (i := 88) rfl), ⟨by decide +kernel, by decide +kernel, by decide +kernel⟩, ⟨lw_i2 (List.mem_of_getElem? (i := 87) rfl), lw_s1 (List.mem_of_getElem? (i := 1) rfl), by decide +kernel, by decide +kernel, rfl⟩, lw_i1 (List.mem_of_getElem? (i := 1) rfl), rfl, by decide +kernel, by decide +kernel⟩
theorem am_mf186 : am_MF 186 := ⟨by decide +kernel, lw_i2 (List.mem_of_getElem? (i := 92) rfl), ⟨by decide +kernel, by decide +kernel, by decide +kernel⟩, ⟨lw_i2 (List.mem_of_getElem? (i := 90) rfl), lw_i2 (List.mem_of_getElem? (i := 91) rfl), by decide +kernel, by decide +kernel, rfl⟩, lw_i1 (List.mem_of_getElem? (i := 1) rfl), rfl, by decide +kernel, by decide +kernel⟩
theorem am_mf187 : am_MF 187 := ⟨by decide +kernel, lw_i2 (List.mem_of_getElem? (i := 96) rfl), ⟨by decide +kernel, by decide +kernel, by decide +kernel⟩, ⟨lw_i2 (List.mem_of_getElem? (i := 94) rfl), lw_i2 (List.mem_of_getElem? (i := 95) rfl), by decide +kernel, by decide +kernel, rfl⟩, lw_i1 (List.mem_of_getElem? (i := 1) rfl), rfl, by decide +kernel, by decide +kernel⟩
theorem am_mf188 : am_MF 188 := ⟨by decide +kernel, lw_i3 (List.mem_of_getElem? (i := 11) rfl), ⟨by decide +kernel, by decide +kernel, by decide +kernel⟩, ⟨lw_i3 (List.mem_of_getElem? (i := 9) rfl), lw_i3 (List.mem_of_getElem? (i := 10) rfl), by decide +kernel, by decide +kernel, rfl⟩, lw_i1 (List.mem_of_getElem? (i := 1) rfl), rfl, by decide +kernel, by decide +kernel⟩
theorem am_mf189 : am_MF 189 := ⟨by decide +kernel, lw_i3 (List.mem_of_getElem? (i := 15) rfl), ⟨by decide +kernel, by decide +kernel, by decide +kernel⟩, ⟨lw_i3 (List.mem_of_getElem? (i := 13) rfl), lw_i3 (List.mem_of_getElem? (i := 14) rfl), by decide +kernel, by decide +kernel, rfl⟩, lw_i1 (List.mem_of_getElem? (i := 1) rfl), rfl, by decide +kernel, by decide +kernel⟩
theorem am_mf190 : am_MF 190 := ⟨by decide +kernel, lw_i3 (List.mem_of_getElem? (i := 81) rfl), ⟨by decide +kernel, by decide +kernel, by decide +kernel⟩, ⟨lw_i3 (List.mem_of_getElem? (i := 79) rfl), lw_i3 (List.mem_of_getElem? (i := 80) rfl), by decide +kernel, by decide +kernel, rfl⟩, lw_i1 (List.mem_of_getElem? (i := 1) rfl), rfl, by decide +kernel, by decide +kernel⟩
theorem am_mf191 : am_MF 191 := ⟨by decide +kernel, lw_i3 (List.mem_of_getElem? (i := 90) rfl), ⟨by decide +kernel, by decide +kernel, by decide +kernel⟩, ⟨lw_i3 (List.mem_of_getElem? (i := 88) rfl), lw_i3 (List.mem_of_getElem? (i := 89) rfl), by decide +kernel, by decide +kernel, rfl⟩, lw_i1 (List.mem_of_getElem? (i := 1) rfl), rfl, by decide +kernel, by decide +kernel⟩
theorem am_mf192 : am_MF 192 := ⟨by decide +kernel, lw_i3 (List.mem_of_getElem? (i := 95) rfl), ⟨by decide +kernel, by decide +kernel, by decide +kernel⟩, ⟨lw_i3 (List.mem_of_getElem? (i := 93) rfl), lw_i3 (List.mem_of_getElem? (i := 94) rfl), by decide +kernel, by decide +kernel, rfl⟩, lw_i1 (List.mem_of_getElem? (i := 1) rfl), rfl, by decide +kernel, by decide +kernel⟩
theorem am_mf193 : am_MF 193 := ⟨by decide +kernel, lw_i3 (List.mem_of_getElem? (i := 99) rfl), ⟨by decide +kernel, by decide +kernel, by decide +kernel⟩, ⟨lw_i3 (List.mem_of_getElem? (i := 97) rfl), lw_i3 (List.mem_of_getElem? (i := 98) rfl), by decide +kernel, by decide +kernel, rfl⟩, lw_i1 (List.mem_of_getElem? (i := 1) rfl), rfl, by decide +kernel, by decide +kernel⟩
theorem am_mf194 : am_MF 194 := ⟨by decide +kernel, lw_i3 (List.mem_of_getElem? (i := 107) rfl), ⟨by decide +kernel, by decide +kernel, by decide +kernel⟩, ⟨lw_i3 (List.mem_of_getElem? (i := 106) rfl), lw_s2 (List.mem_of_getElem? (i := 6) rfl), by decide +kernel, by decide +kernel, rfl⟩, lw_i1 (List.mem_of_getElem? (i := 1) rfl), rfl, by decide +kernel, by decide +kernel⟩
theorem am_mf195 : am_MF 195 := ⟨by decide +kernel, lw_i3 (List.mem_of_getElem? (i := 111) rfl), ⟨by decide +kernel, by decide +kernel, by decide +kernel⟩, ⟨lw_i3 (List.mem_of_getElem? (i := 109) rfl), lw_i3 (List.mem_of_getElem? (i := 110) rfl), by decide +kernel, by decide +kernel, rfl⟩, lw_i1 (List.mem_of_getElem? (i := 1) rfl), rfl, by decide +kernel, by decide +kernel⟩
theorem am_mf196 : am_MF 196 := ⟨by decide +kernel, lw_i3 (List.mem_of_getElem? (i := 56) rfl), ⟨by decide +kernel, by decide +kernel, by decide +kernel⟩, ⟨lw_i3 (List.mem_of_getElem? (i := 55) rfl), lw_s2 (List.mem_of_getElem? (i := 3) rfl), by decide +kernel, by decide +kernel, rfl⟩, lw_i1 (List.mem_of_getElem? (i := 1) rfl), rfl, by decide +kernel, by decide +kernel⟩
theorem am_mf197 : am_MF 197 := ⟨by decide +kernel, lw_i2 (List.mem_of_getElem? (i := 49) rfl), ⟨by decide +kernel, by decide +kernel, by decide +kernel⟩, ⟨lw_i2 (List.mem_of_getElem? (i := 48) rfl), lw_s1 (List.mem_of_getElem? (i := 0) rfl), by decide +kernel, by decide +kernel, rfl⟩, lw_i1 (List.mem_of_getElem? (i := 1) rfl), rfl, by decide +kernel, by decide +kernel⟩
theorem am_mf198 : am_MF 198 := ⟨by decide +kernel, lw_i3 (List.mem_of_getElem? (i := 169) rfl), ⟨by decide +kernel, by decide +kernel, by decide +kernel⟩, ⟨lw_i3 (List.mem_of_getElem? (i := 167) rfl), lw_i3 (List.mem_of_getElem? (i := 168) rfl), by decide +kernel, by decide +kernel, rfl⟩, lw_i1 (List.mem_of_getElem? (i := 1) rfl), rfl, by decide +kernel, by decide +kernel⟩
theorem am_mf199 : am_MF 199 := ⟨by decide +kernel, lw_i3 (List.mem_of_getElem? (i := 173) rfl), ⟨by decide +kernel, by decide +kernel, by decide +kernel⟩, ⟨lw_i3 (List.mem_of_getElem? (i := 171) rfl), lw_i3 (List.mem_of_getElem? (i := 172) rfl), by decide +kernel, by decide +kernel, rfl⟩, lw_i1 (List.mem_of_getElem? (i := 1) rfl), rfl, by decide +kernel, by decide +kernel⟩
theorem am_mf200 : am_MF 200 := ⟨by decide +kernel, lw_i3 (List.mem_of_getElem? (i := 184) rfl), ⟨by decide +kernel, by decide +kernel, by decide +kernel⟩, ⟨lw_i3 (List.mem_of_getElem? (i := 182) rfl), lw_i3 (List.mem_of_getElem? (i := 183) rfl), by decide +kernel, by decide +kernel, rfl⟩, lw_i1 (List.mem_of_getElem? (i := 1) rfl), rfl, by decide +kernel, by decide +kernel⟩
theorem am_mf201 : am_MF 201 := ⟨by decide +kernel, lw_i3 (List.mem_of_getElem? (i := 188) rfl), ⟨by decide +kernel, by decide +kernel, by decide +kernel⟩, ⟨lw_i3 (List.mem_of_getElem? (i := 187) rfl), lw_s2 (List.mem_of_getElem? (i := 11) rfl), by decide +kernel, by decide +kernel, rfl⟩, lw_i1 (List.mem_of_getElem? (i := 1) rfl), rfl, by decide +kernel, by decide +kernel⟩
theorem am_mf202 : am_MF 202 := ⟨by decide +kernel, lw_i3 (List.mem_of_getElem? (i := 192) rfl), ⟨by decide +kernel, by decide +kernel, by decide +kernel⟩, ⟨lw_i3 (List.mem_of_getElem? (i := 190) rfl), lw_i3 (List.mem_of_getElem? (i := 191) rfl), by decide +kernel, by decide +kernel, rfl⟩, lw_i1 (List.mem_of_getElem? (i := 1) rfl), rfl, by decide +kernel, by decide +kernel⟩
theorem am_mf203 : am_MF 203 := ⟨by decide +kernel, lw_i3 (List.mem_of_getElem? (i := 196) rfl), ⟨by decide +kernel, by decide +kernel, by decide +kernel⟩, ⟨lw_i3 (List.mem_of_getElem? (i := 194) rfl), lw_i3 (List.mem_of_getElem? (i := 195) rfl), by decide +kernel, by decide +kernel, rfl⟩, lw_i1 (List.mem_of_getElem? (i := 1) rfl), rfl, by decide +kernel, by decide +kernel⟩
theorem am_mf204 : am_MF 204 := ⟨by decide +kernel, lw_i3 (List.mem_of_getElem? (i := 200) rfl), ⟨by decide +kernel, by decide +kernel, by decide +kernel⟩, ⟨lw_i3 (List.mem_of_getElem? (i := 198) rfl), lw_i3 (List.mem_of_getElem? (i := 199) rfl), by decide +kernel, by decide +kernel, rfl⟩, lw_i1 (List.mem_of_getElem? (i := 1) rfl), rfl, by decide +kernel, by decide +kernel⟩
theorem am_mf205 : am_MF 205 := ⟨by decide +kernel, lw_i3 (List.mem_of_getElem? (i := 204) rfl), ⟨by decide +kernel, by decide +kernel, by decide +kernel⟩, ⟨lw_i3 (List.mem_of_getElem? (i := 202) rfl), lw_i3 (List.mem_of_getElem? (i := 203) rfl), by decide +kernel, by decide +kernel, rfl⟩, lw_i1 (List.mem_of_getElem? (i := 1) rfl), rfl, by decide +kernel, by decide +kernel⟩
theorem am_mf206 : am_MF 206 := ⟨by decide +kernel, lw_i3 (List.mem_of_getElem? (i := 208) rfl), ⟨by decide +kernel, by decide +kernel, by decide +kernel⟩, ⟨lw_i3 (List.mem_of_getElem? (i := 207) rfl), lw_s2 (List.mem_of_getElem? (i := 12) rfl), by decide +kernel, by decide +kernel, rfl⟩, lw_i1 (List.mem_of_getElem? (i := 1) rfl), rfl, by decide +kernel, by decide +kernel⟩
theorem am_mf207 : am_MF 207 := ⟨by decide +kernel, lw_i3 (List.mem_of_getElem? (i := 212) rfl), ⟨by decide +kernel, by decide +kernel, by decide +kernel⟩, ⟨lw_i3 (List.mem_of_getElem? (i := 210) rfl), lw_i3 (List.mem_of_getElem? (i := 211) rfl), by decide +kernel, by decide +kernel, rfl⟩, lw_i1 (List.mem_of_getElem? (i := 1) rfl), rfl, by decide +kernel, by decide +kernel⟩
theorem am_mf208 : am_MF 208 := ⟨by decide +kernel, lw_i3 (List.mem_of_getElem? (i := 216) rfl), ⟨by decide +kernel, by decide +kernel, by decide +kernel⟩, ⟨lw_i3 (List.mem_of_getElem? (i := 214) rfl), lw_i3 (List.mem_of_getElem? (i := 215) rfl), by decide +kernel, by decide +kernel, rfl⟩, lw_i1 (List.mem_of_getElem? (i := 1) rfl), rfl, by decide +kernel, by decide +kernel⟩
theorem am_mf209 : am_MF 209 := ⟨by decide +kernel, lw_i3 (List.mem_of_getElem? (i := 220) rfl), ⟨by decide +kernel, by decide +kernel, by decide +kernel⟩, ⟨lw_i3 (List.mem_of_getElem? (i := 218) rfl), lw_i3 (List.mem_of_getElem? (i := 219) rfl), by decide +kernel, by decide +kernel, rfl⟩, lw_i1 (List.mem_of_getElem? (i := 1) rfl), rfl, by decide +kernel, by decide +kernel⟩
theorem am_mf210 : am_MF 210 := ⟨by decide +kernel, lw_i3 (List.mem_of_getElem? (i := 228) rfl), ⟨by decide +kernel, by decide +kernel, by decide +kernel⟩, ⟨lw_i3 (List.mem_of_getElem? (i := 226) rfl), lw_i3 (List.mem_of_getElem? (i := 227) rfl), by decide +kernel, by decide +kernel, rfl⟩, lw_i1 (List.mem_of_getElem? (i := 1) rfl), rfl, by decide +kernel, by decide +kernel⟩
theorem am_mf211 : am_MF 211 := ⟨by decide +kernel, lw_i3 (List.mem_of_getElem? (i := 232) rfl), ⟨by decide +kernel, by decide +kernel, by decide +kernel⟩, ⟨lw_i3 (List.mem_of_getElem? (i := 230) rfl), lw_i3 (List.mem_of_getElem? (i := 231) rfl), by decide +kernel, by decide +kernel, rfl⟩, lw_i1 (List.mem_of_getElem? (i := 1) rfl), rfl, by decide +kernel, by decide +kernel⟩
theorem am_mf212 : am_MF 212 := ⟨by decide +kernel, lw_i3 (List.mem_of_getElem? (i := 236) rfl), ⟨by decide +kernel, by decide +kernel, by decide +kernel⟩, ⟨lw_i3 (List.mem_of_getElem? (i := 234) rfl), lw_i3 (List.mem_of_getElem? (i := 235) rfl), by decide +kernel, by decide +kernel, rfl⟩, lw_i1 (List.mem_of_getElem? (i := 1) rfl), rfl, by decide +kernel, by decide +kernel⟩
theorem am_mf213 : am_MF 213 := ⟨by decide +kernel, lw_i4 (List.mem_of_getElem? (i := 0) rfl), ⟨by decide +kernel, by decide +kernel, by decide +kernel⟩, ⟨lw_i3 (List.mem_of_getElem? (i := 238) rfl), lw_i3 (List.mem_of_getElem? (i := 239) rfl), by decide +kernel, by decide +kernel, rfl⟩, lw_i1 (List.mem_of_getElem? (i := 1) rfl), rfl, by decide +kernel, by decide +kernel⟩
theorem am_mf214 : am_MF 214 := ⟨by decide +kernel, lw_i4 (List.mem_of_getElem? (i := 4) rfl), ⟨by decide +kernel, by decide +kernel, by decide +kernel⟩, ⟨lw_i4 (List.mem_of_getElem? (i := 3) rfl), lw_s2 (List.mem_of_getElem? (i := 13) rfl), by decide +kernel, by decide +kernel, rfl⟩, lw_i1 (List.mem_of_getElem? (i := 1) rfl), rfl, by decide +kernel, by decide +kernel⟩
theorem am_mf215 : am_MF 215 := ⟨by decide +kernel, lw_i4 (List.mem_of_getElem? (i := 8) rfl), ⟨by decide +kernel, by decide +kernel, by decide +kernel⟩, ⟨lw_i4 (List.mem_of_getElem? (i := 6) rfl), lw_i4 (List.mem_of_getElem? (i := 7) rfl), by decide +kernel, by decide +kernel, rfl⟩, lw_i1 (List.mem_of_getElem? (i := 1) rfl), rfl, by decide +kernel, by decide +kernel⟩
theorem am_mf216 : am_MF 216 := ⟨by decide +kernel, lw_i4 (List.mem_of_getElem? (i := 12) rfl), ⟨by decide +kernel, by decide +kernel, by decide +kernel⟩, ⟨lw_i4 (List.mem_of_getElem? (i := 10) rfl), lw_i4 (List.mem_of_getElem? (i := 11) rfl), by decide +kernel, by decide +kernel, rfl⟩, lw_i1 (List.mem_of_getElem? (i := 1) rfl), rfl, by decide +kernel, by decide +kernel⟩
theorem am_mf217 : am_MF 217 := ⟨by decide +kernel, lw_i3 (List.mem_of_getElem? (i := 32) rfl), ⟨by decide +kernel, by decide +kernel, by decide +kernel⟩, ⟨lw_i3 (List.mem_of_getElem? (i := 31) rfl), lw_s2 (List.mem_of_getElem? (i := 0) rfl), by decide +kernel, by decide +kernel, rfl⟩, lw_i1 (List.mem_of_getElem? (i := 1) rfl), rfl, by decide +kernel, by decide +kernel⟩
theorem am_mf218 : am_MF 218 := ⟨by decide +kernel, lw_i3 (List.mem_of_getElem? (i := 19) rfl), ⟨by decide +kernel, by decide +kernel, by decide +kernel⟩, ⟨lw_i3 (List.mem_of_getElem? (i := 18) rfl), lw_s1 (List.mem_of_getElem? (i := 15) rfl), by decide +kernel, by decide +kernel, rfl⟩, lw_i1 (List.mem_of_getElem? (i := 1) rfl), rfl, by decide +kernel, by decide +kernel⟩
theorem am_mf219 : am_MF 219 := ⟨by decide +kernel, lw_i4 (List.mem_of_getElem? (i := 16) rfl), ⟨by decide +kernel, by decide +kernel, by decide +kernel⟩, ⟨lw_i4 (List.mem_of_getElem? (i := 14) rfl), lw_i4 (List.mem_of_getElem? (i := 15) rfl), by decide +kernel, by decide +kernel, rfl⟩, lw_i1 (List.mem_of_getElem? (i := 1) rfl), rfl, by decide +kernel, by decide +kernel⟩
theorem am_mf220 : am_MF 220 := ⟨by decide +kernel, lw_i4 (List.mem_of_getElem? (i := 20) rfl), ⟨by decide +kernel, by decide +kernel, by decide +kernel⟩, ⟨lw_i4 (List.mem_of_getElem? (i := 18) rfl), lw_i4 (List.mem_of_getElem? (i := 19) rfl), by decide +kernel, by decide +kernel, rfl⟩, lw_i1 (List.mem_of_getElem? (i := 1) rfl), rfl, by decide +kernel, by decide +kernel⟩
theorem am_mf221 : am_MF 221 := ⟨by decide +kernel, lw_i4 (List.mem_of_getElem? (i := 24) rfl), ⟨by decide +kernel, by decide +kernel, by decide +kernel⟩, ⟨lw_i4 (List.mem_of_getElem? (i := 22) rfl), lw_i4 (List.mem_of_getElem? (i := 23) rfl), by decide +kernel, by decide +kernel, rfl⟩, lw_i1 (List.mem_of_getElem? (i := 1) rfl), rfl, by decide +kernel, by decide +kernel⟩
theorem am_mf222 : am_MF 222 := ⟨by decide +kernel, lw_i4 (List.mem_of_getElem? (i := 28) rfl), ⟨by decide +kernel, by decide +kernel, by decide +kernel⟩, ⟨lw_i4 (List.mem_of_getElem? (i := 27) rfl), lw_s2 (List.mem_of_getElem? (i := 14) rfl), by decide +kernel, by decide +kernel, rfl⟩, lw_i1 (List.mem_of_getElem? (i := 1) rfl), rfl, by decide +kernel, by decide +kernel⟩
theorem am_mf223 : am_MF 223 := ⟨by decide +kernel, lw_i4 (List.mem_of_getElem? (i := 32) rfl), ⟨by decide +kernel, by decide +kernel, by decide +kernel⟩, ⟨lw_i4 (List.mem_of_getElem? (i := 31) rfl), lw_s2 (List.mem_of_getElem? (i := 15) rfl), by decide +kernel, by decide +kernel, rfl⟩, lw_i1 (List.mem_of_getElem? (i := 1) rfl), rfl, by decide +kernel, by decide +kernel⟩
theorem am_mf224 : am_MF 224 := ⟨by decide +kernel, lw_i4 (List.mem_of_getElem? (i := 36) rfl), ⟨by decide +kernel, by decide +kernel, by decide +kernel⟩, ⟨lw_i4 (List.mem_of_getElem? (i := 35) rfl), lw_s3 (List.mem_of_getElem? (i := 0) rfl), by decide +kernel, by decide +kernel, rfl⟩, lw_i1 (List.mem_of_getElem? (i := 1) rfl), rfl, by decide +kernel, by decide +kernel⟩
theorem am_mf225 : am_MF 225 := ⟨by decide +kernel, lw_i4 (List.mem_of_getElem? (i := 40) rfl), ⟨by decide +kernel, by decide +kernel, by decide +kernel⟩, ⟨lw_i4 (List.mem_of_getElem? (i := 38) rfl), lw_i4 (List.mem_of_getElem? (i := 39) rfl), by decide +kernel, by decide +kernel, rfl⟩, lw_i1 (List.mem_of_getElem? (i := 1) rfl), rfl, by decide +kernel, by decide +kernel⟩
theorem am_mf226 : am_MF 226 := ⟨by decide +kernel, lw_i4 (List.mem_of_getElem? (i := 44) rfl), ⟨by decide +kernel, by decide +kernel, by decide +kernel⟩, ⟨lw_i4 (List.mem_of_getElem? (i := 43) rfl), lw_s3 (List.mem_of_getElem? (i := 1) rfl), by decide +kernel, by decide +kernel, rfl⟩, lw_i1 (List.mem_of_getElem? (i := 1) rfl), rfl, by decide +kernel, by decide +kernel⟩
theorem am_mf227 : am_MF 227 := ⟨by decide +kernel, lw_i4 (List.mem_of_getElem? (i := 48) rfl), ⟨by decide +kernel, by decide +kernel, by decide +kernel⟩, ⟨lw_i4 (List.mem_of_getElem? (i := 47) rfl), lw_s3 (List.mem_of_getElem? (i := 2) rfl), by decide +kernel, by decide +kernel, rfl⟩, lw_i1 (List.mem_of_getElem? (i := 1) rfl), rfl, by decide +kernel, by decide +kernel⟩
theorem am_mf228 : am_MF 228 := ⟨by decide +kernel, lw_i4 (List.mem_of_getElem? (i := 52) rfl), ⟨by decide +kernel, by decide +kernel, by decide +kernel⟩, ⟨lw_i4 (List.mem_of_getElem? (i := 51) rfl), lw_s3 (List.mem_of_getElem? (i := 3) rfl), by decide +kernel, by decide +kernel, rfl⟩, lw_i1 (List.mem_of_getElem? (i := 1) rfl), rfl, by decide +kernel, by decide +kernel⟩
theorem am_mf229 : am_MF 229 := ⟨by decide +kernel, lw_i4 (List.mem_of_getElem? (i := 56) rfl), ⟨by decide +kernel, by decide +kernel, by decide +kernel⟩, ⟨lw_i4 (List.mem_of_getElem? (i := 55) rfl), lw_s3 (List.mem_of_getElem? (i := 4) rfl), by decide +kernel, by decide +kernel, rfl⟩, lw_i1 (List.mem_of_getElem? (i := 1) rfl), rfl, by decide +kernel, by decide +kernel⟩
theorem am_mf230 : am_MF 230 := ⟨by decide +kernel, lw_i4 (List.mem_of_getElem? (i := 60) rfl), ⟨by decide +kernel, by decide +kernel, by decide +kernel⟩, ⟨lw_i4 (List.mem_of_getElem? (i := 58) rfl), lw_i4 (List.mem_of_getElem? (i := 59) rfl), by decide +kernel, by decide +kernel, rfl⟩, lw_i1 (List.mem_of_getElem? (i := 1) rfl), rfl, by decide +kernel, by decide +kernel⟩
theorem am_mf231 : am_MF 231 := ⟨by decide +kernel, lw_i4 (List.mem_of_getElem? (i := 64) rfl), ⟨by decide +kernel, by decide +kernel, by decide +kernel⟩, ⟨lw_i4 (List.mem_of_getElem? (i := 63) rfl), lw_s3 (List.mem_of_getElem? (i := 5) rfl), by decide +kernel, by decide +kernel, rfl⟩, lw_i1 (List.mem_of_getElem? (i := 1) rfl), rfl, by decide +kernel, by decide +kernel⟩
theorem am_mf232 : am_MF 232 := ⟨by decide +kernel, lw_i4 (List.mem_of_getElem? (i := 68) rfl), ⟨by decide +kernel, by decide +kernel, by decide +kernel⟩, ⟨lw_i4 (List.mem_of_getElem? (i := 67) rfl), lw_s3 (List.mem_of_getElem? (i := 6) rfl), by decide +kernel, by decide +kernel, rfl⟩, lw_i1 (List.mem_of_getElem? (i := 1) rfl), rfl, by decide +kernel, by decide +kernel⟩
theorem am_mf233 : am_MF 233 := ⟨by decide +kernel, lw_i3 (List.mem_of_getElem? (i := 115) rfl), ⟨by decide +kernel, by decide +kernel, by decide +kernel⟩, ⟨lw_i3 (List.mem_of_getElem? (i := 114) rfl), lw_s2 (List.mem_of_getElem? (i := 7) rfl), by decide +kernel, by decide +kernel, rfl⟩, lw_i1 (List.mem_of_getElem? (i := 1) rfl), rfl, by decide +kernel, by decide +kernel⟩
theorem am_mf234 : am_MF 234 := ⟨by decide +kernel, lw_i3 (List.mem_of_getElem? (i := 119) rfl), ⟨by decide +kernel, by decide +kernel, by decide +kernel⟩, ⟨lw_i3 (List.mem_of_getElem? (i := 118) rfl), lw_s2 (List.mem_of_getElem? (i := 8) rfl), by decide +kernel, by decide +kernel, rfl⟩, lw_i1 (List.mem_of_getElem? (i := 1) rfl), rfl, by decide +kernel, by decide +kernel⟩
theorem am_mf235 : am_MF 235 := ⟨by decide +kernel, lw_i3 (List.mem_of_getElem? (i := 127) rfl), ⟨by decide +kernel, by decide +kernel, by decide +kernel⟩, ⟨lw_i3 (List.mem_of_getElem? (i := 126) rfl), lw_s2 (List.mem_of_getElem? (i := 9) rfl), by decide +kernel, by decide +kernel, rfl⟩, lw_i1 (List.mem_of_getElem? (i := 1) rfl), rfl, by decide +kernel, by decide +kernel⟩
theorem am_mf236 : am_MF 236 := ⟨by decide +kernel, lw_i3 (List.mem_of_getElem? (i := 131) rfl), ⟨by decide +kernel, by decide +kernel, by decide +kernel⟩, ⟨lw_i3 (List.mem_of_getElem? (i := 130) rfl), lw_s2 (List.mem_of_getElem? (i := 10) rfl), by decide +kernel, by decide +kernel, rfl⟩, lw_i1 (List.mem_of_getElem? (i := 1) rfl), rfl, by decide +kernel, by decide +kernel⟩
theorem am_mf237 : am_MF 237 := ⟨by decide +kernel, lw_i4 (List.mem_of_getElem? (i := 85) rfl), ⟨by decide +kernel, by decide +kernel, by decide +kernel⟩, ⟨lw_i4 (List.mem_of_getElem? (i := 84) rfl), lw_s3 (List.mem_of_getElem? (i := 7) rfl), by decide +kernel, by decide +kernel, rfl⟩, lw_i1 (List.mem_of_getElem? (i := 1) rfl), rfl, by decide +kernel, by decide +kernel⟩
theorem am_mf238 : am_MF 238 := ⟨by decide +kernel, lw_i4 (List.mem_of_getElem? (i := 72) rfl), ⟨by decide +kernel, by decide +kernel, by decide +kernel⟩, ⟨lw_i4 (List.mem_of_getElem? (i := 70) rfl), lw_i4 (List.mem_of_getElem? (i := 71) rfl), by decide +kernel, by decide +kernel, rfl⟩, lw_i1 (List.mem_of_getElem? (i := 1) rfl), rfl, by decide +kernel, by decide +kernel⟩
theorem am_mf239 : am_MF 239 := ⟨by decide +kernel, lw_i4 (List.mem_of_getElem? (i := 81) rfl), ⟨by decide +kernel, by decide +kernel, by decide +kernel⟩, ⟨lw_i4 (List.mem_of_getElem? (i := 79) rfl), lw_i4 (List.mem_of_getElem? (i := 80) rfl), by decide +kernel, by decide +kernel, rfl⟩, lw_i1 (List.mem_of_getElem? (i := 1) rfl), rfl, by decide +kernel, by decide +kernel⟩
theorem am_mf240 : am_MF 240 := ⟨by decide +kernel, lw_i4 (List.mem_of_getElem? (i := 89) rfl), ⟨by decide +kernel, by decide +kernel, by decide +kernel⟩, ⟨lw_i4 (List.mem_of_getElem? (i := 87) rfl), lw_i4 (List.mem_of_getElem? (i := 88) rfl), by decide +kernel, by decide +kernel, rfl⟩, lw_i1 (List.mem_of_getElem? (i := 1) rfl), rfl, by decide +kernel, by decide +kernel⟩
theorem am_mf241 : am_MF 241 := ⟨by decide +kernel, lw_i4 (List.mem_of_getElem? (i := 93) rfl), ⟨by decide +kernel, by decide +kernel, by decide +kernel⟩, ⟨lw_i4 (List.mem_of_getElem? (i := 91) rfl), lw_i4 (List.mem_of_getElem? (i := 92) rfl), by decide +kernel, by decide +kernel, rfl⟩, lw_i1 (List.mem_of_getElem? (i := 1) rfl), rfl, by decide +kernel, by decide +kernel⟩
theorem am_mf242 : am_MF 242 := ⟨by decide +kernel, lw_i4 (List.mem_of_getElem? (i := 96) rfl), ⟨by decide +kernel, by decide +kernel, by decide +kernel⟩, lw_i4 (List.mem_of_getElem? (i := 95) rfl), lw_i1 (List.mem_of_getElem? (i := 1) rfl), rfl, by decide +kernel, by decide +kernel⟩
theorem am_mf243 : am_MF 243 := ⟨by decide +kernel, lw_i4 (List.mem_of_getElem? (i := 104) rfl), ⟨by decide +kernel, by decide +kernel, by decide +kernel⟩, ⟨lw_i4 (List.mem_of_getElem? (i := 103) rfl), lw_s3 (List.mem_of_getElem? (i := 8) rfl), by decide +kernel, by decide +kernel, rfl⟩, lw_i1 (List.mem_of_getElem? (i := 1) rfl), rfl, by decide +kernel, by decide +kernel⟩
theorem am_mf244 : am_MF 244 := ⟨by decide +kernel, lw_i4 (List.mem_of_getElem? (i := 100) rfl), ⟨by decide +kernel, by decide +kernel, by decide +kernel⟩, ⟨lw_i4 (List.mem_of_getElem? (i := 98) rfl), lw_i4 (List.mem_of_getElem? (i := 99) rfl), by decide +kernel, by decide +kernel, rfl⟩, lw_i1 (List.mem_of_getElem? (i := 1) rfl), rfl, by decide +kernel, by decide +kernel⟩
theorem am_mf245 : am_MF 245 := ⟨by decide +kernel, lw_i4 (List.mem_of_getElem? (i := 113) rfl), ⟨by decide +kernel, by decide +kernel, by decide +kernel⟩, ⟨lw_i4 (List.mem_of_getElem? (i := 111) rfl), lw_i4 (List.mem_of_getElem? (i := 112) rfl), by decide +kernel, by decide +kernel, rfl⟩, lw_i1 (List.mem_of_getElem? (i := 1) rfl), rfl, by decide +kernel, by decide +kernel⟩
theorem am_mf246 : am_MF 246 := ⟨by decide +kernel, lw_i4 (List.mem_of_getElem? (i := 108) rfl), ⟨by decide +kernel, by decide +kernel, by decide +kernel⟩, ⟨lw_i4 (List.mem_of_getElem? (i := 107) rfl), lw_s3 (List.mem_of_getElem? (i := 9) rfl), by decide +kernel, by decide +kernel, rfl⟩, lw_i1 (List.mem_of_getElem? (i := 1) rfl), rfl, by decide +kernel, by decide +kernel⟩
theorem am_mf247 : am_MF 247 := ⟨by decide +kernel, lw_i4 (List.mem_of_getElem? (i := 117) rfl), ⟨by decide +kernel, by decide +kernel, by decide +kernel⟩, ⟨lw_i4 (List.mem_of_getElem? (i := 115) rfl), lw_i4 (List.mem_of_getElem? (i := 116) rfl), by decide +kernel, by decide +kernel, rfl⟩, lw_i1 (List.mem_of_getElem? (i := 1) rfl), rfl, by decide +kernel, by decide +kernel⟩
theorem am_mf248 : am_MF 248 := ⟨by decide +kernel, lw_i3 (List.mem_of_getElem? (i := 103) rfl), ⟨by decide +kernel, by decide +kernel, by decide +kernel⟩, ⟨lw_i3 (List.mem_of_getElem? (i := 102) rfl), lw_s2 (List.mem_of_getElem? (i := 5) rfl), by decide +kernel, by decide +kernel, rfl⟩, lw_i1 (List.mem_of_getElem? (i := 1) rfl), rfl, by decide +kernel, by decide +kernel⟩
theorem am_mf249 : am_MF 249 := ⟨by decide +kernel, lw_i4 (List.mem_of_getElem? (i := 121) rfl), ⟨by decide +kernel, by decide +kernel, by decide +kernel⟩, ⟨lw_i4 (List.mem_of_getElem? (i := 119) rfl), lw_i4 (List.mem_of_getElem? (i := 120) rfl), by decide +kernel, by decide +kernel, rfl⟩, lw_i1 (List.mem_of_getElem? (i := 1) rfl), rfl, by decide +kernel, by decide +kernel⟩
theorem am_mf250 : am_MF 250 := ⟨by decide +kernel, lw_i4 (List.mem_of_getElem? (i := 125) rfl), ⟨by decide +kernel, by decide +kernel, by decide +kernel⟩, ⟨lw_i4 (List.mem_of_getElem? (i := 123) rfl), lw_i4 (List.mem_of_getElem? (i := 124) rfl), by decide +kernel, by decide +kernel, rfl⟩, lw_i1 (List.mem_of_getElem? (i := 1) rfl), rfl, by decide +kernel, by decide +kernel⟩
theorem am_mf251 : am_MF 251 := ⟨by decide +kernel, lw_i3 (List.mem_of_getElem? (i := 36) rfl), ⟨by decide +kernel, by decide +kernel, by decide +kernel⟩, ⟨lw_i3 (List.mem_of_getElem? (i := 35) rfl), lw_s2 (List.mem_of_getElem? (i := 1) rfl), by decide +kernel, by decide +kernel, rfl⟩, lw_i1 (List.mem_of_getElem? (i := 1) rfl), rfl, by decide +kernel, by decide +kernel⟩
theorem am_mf252 : am_MF 252 := ⟨by decide +kernel, lw_i3 (List.mem_of_getElem? (i := 85) rfl), ⟨by decide +kernel, by decide +kernel, by decide +kernel⟩, ⟨lw_i3 (List.mem_of_getElem? (i := 84) rfl), lw_s2 (List.mem_of_getElem? (i := 4) rfl), by decide +kernel, by decide +kernel, rfl⟩, lw_i1 (List.mem_of_getElem? (i := 1) rfl), rfl, by decide +kernel, by decide +kernel⟩
theorem am_mf253 : am_MF 253 := ⟨by decide +kernel, lw_i2 (List.mem_of_getElem? (i := 56) rfl), ⟨by decide +kernel, by decide +kernel, by decide +kernel⟩, lw_i2 (List.mem_of_getElem? (i := 55) rfl), lw_i1 (List.mem_of_getElem? (i := 1) rfl), rfl, by decide +kernel, by decide +kernel⟩
theorem am_mf254 : am_MF 254 := ⟨by decide +kernel, lw_i3 (List.mem_of_getElem? (i := 138) rfl), ⟨by decide +kernel, by decide +kernel, by decide +kernel⟩, lw_i3 (List.mem_of_getElem? (i := 137) rfl), lw_i1 (List.mem_of_getElem? (i := 1) rfl), rfl, by decide +kernel, by decide +kernel⟩
theorem am_mf255 : am_MF 255 := ⟨by decide +kernel, lw_i3 (List.mem_of_getElem? (i := 162) rfl), ⟨by decide +kernel, by decide +kernel, by decide +kernel⟩, lw_i3 (List.mem_of_getElem? (i := 161) rfl), lw_i1 (List.mem_of_getElem? (i := 11) rfl), rfl, by decide +kernel, by decide +kernel⟩
theorem am_mf256 : am_MF 256 := ⟨by decide +kernel, lw_i2 (List.mem_of_getElem? (i := 115) rfl), ⟨by decide +kernel, by decide +kernel, by decide +kernel⟩, ⟨lw_i2 (List.mem_of_getElem? (i := 113) rfl), lw_i2 (List.mem_of_getElem? (i := 114) rfl), by decide +kernel, by decide +kernel, rfl⟩, lw_i1 (List.mem_of_getElem? (i := 12) rfl), rfl, by decide +kernel, by decide +kernel⟩
theorem am_mf257 : am_MF 257 := ⟨by decide +kernel, lw_i2 (List.mem_of_getElem? (i := 125) rfl), ⟨by decide +kernel, by decide +kernel, by decide +kernel⟩, ⟨lw_i2 (List.mem_of_getElem? (i := 123) rfl), lw_i2 (List.mem_of_getElem? (i := 124) rfl), by decide +kernel, by decide +kernel, rfl⟩, lw_i1 (List.mem_of_getElem? (i := 12) rfl), rfl, by decide +kernel, by decide +kernel⟩
theorem am_mf258 : am_MF 258 := ⟨by decide +kernel, lw_i2 (List.mem_of_getElem? (i := 119) rfl), ⟨by decide +kernel, by decide +kernel, by decide +kernel⟩, ⟨lw_i2 (List.mem_of_getElem? (i := 117) rfl), lw_i2 (List.mem_of_getElem? (i := 118) rfl), by decide +kernel, by decide +kernel, rfl⟩, lw_i1 (List.mem_of_getElem? (i := 12) rfl), rfl, by decide +kernel, by decide +kernel⟩
theorem am_mf259 : am_MF 259 := ⟨by decide +kernel, lw_i2 (List.mem_of_getElem? (i := 129) rfl), ⟨by decide +kernel, by decide +kernel, by decide +kernel⟩, ⟨lw_i2 (List.mem_of_getElem? (i := 127) rfl), lw_i2 (List.mem_of_getElem? (i := 128) rfl), by decide +kernel, by decide +kernel, rfl⟩, lw_i1 (List.mem_of_getElem? (i := 12) rfl), rfl, by decide +kernel, by decide +kernel⟩
theorem am_mf260 : am_MF 260 := ⟨by decide +kernel, lw_i2 (List.mem_of_getElem? (i := 135) rfl), ⟨by decide +kernel, by decide +kernel, by decide +kernel⟩, lw_i2 (List.mem_of_getElem? (i := 134) rfl), lw_i1 (List.mem_of_getElem? (i := 12) rfl), rfl, by decide +kernel, by decide +kernel⟩
theorem am_mf261 : am_MF 261 := ⟨by decide +kernel, lw_i2 (List.mem_of_getElem? (i := 132) rfl), ⟨by decide +kernel, by decide +kernel, by decide +kernel⟩, lw_i2 (List.mem_of_getElem? (i := 131) rfl), lw_i1 (List.mem_of_getElem? (i := 13) rfl), rfl, by decide +kernel, by decide +kernel⟩
theorem am_mf262 : am_MF 262 := ⟨by decide +kernel, lw_i2 (List.mem_of_getElem? (i := 140) rfl), ⟨by decide +kernel, by decide +kernel, by decide +kernel⟩, lw_i2 (List.mem_of_getElem? (i := 139) rfl), lw_i1 (List.mem_of_getElem? (i := 14) rfl), rfl, by decide +kernel, by decide +kernel⟩
theorem am_mfa40 : ∀ j, j < 40 → am_MF j := lt_s (lt_s (lt_s (lt_s (lt_s (lt_s (lt_s (lt_s (lt_s (lt_s (lt_s (lt_s (lt_s (lt_s (lt_s (lt_s (lt_s (lt_s (lt_s (lt_s (lt_s (lt_s (lt_s (lt_s (lt_s (lt_s (lt_s (lt_s (lt_s (lt_s (lt_s (lt_s (lt_s (lt_s (lt_s (lt_s (lt_s (lt_s (lt_s (lt_s (lt_0) am_mf0) am_mf1) am_mf2) am_mf3) am_mf4) am_mf5) am_mf6) am_mf7) am_mf8) am_mf9) am_mf10) am_mf11) am_mf12) am_mf13) am_mf14) am_mf15) am_mf16) am_mf17) am_mf18) am_mf19) am_mf20) am_mf21) am_mf22) am_mf23) am_mf24) am_mf25) am_mf26) am_mf27) am_mf28) am_mf29) am_mf30) am_mf31) am_mf32) am_mf33) am_mf34) am_mf35) am_mf36) am_mf37) am_mf38) am_mf39
theorem am_mfa80 : ∀ j, j < 80 → am_MF j := lt_s (lt_s (lt_s (lt_s (lt_s (lt_s (lt_s (lt_s (lt_s (lt_s (lt_s (lt_s (lt_s (lt_s (lt_s (lt_s (lt_s (lt_s (lt_s (lt_s (lt_s (lt_s (lt_s (lt_s (lt_s (lt_s (lt_s (lt_s (lt_s (lt_s (lt_s (lt_s (lt_s (lt_s (lt_s (lt_s (lt_s (lt_s (lt_s (lt_s (am_mfa40) am_mf40) am_mf41) am_mf42) am_mf43) am_mf44) am_mf45) am_mf46) am_mf47) am_mf48) am_mf49) am_mf50) am_mf51) am_mf52) am_mf53) am_mf54) am_mf55) am_mf56) am_mf57) am_mf58) am_mf59) am_mf60) am_mf61) am_mf62) am_mf63) am_mf64) am_mf65) am_mf66) am_mf67) am_mf68) am_mf69) am_mf70) am_mf71) am_mf72) am_mf73) am_mf74) am_mf75) am_mf76) am_mf77) am_mf78) am_mf79
theorem am_mfa120 : ∀ j, j < 120 → am_MF j := lt_s (lt_s (lt_s (lt_s (lt_s (lt_s (lt_s (lt_s (lt_s (lt_s (lt_s (lt_s (lt_s (lt_s (lt_s (lt_s (lt_s (lt_s (lt_s (lt_s (lt_s (lt_s (lt_s (lt_s (lt_s (lt_s (lt_s (lt_s (lt_s (lt_s (lt_s (lt_s (lt_s (lt_s (lt_s (lt_s (lt_s (lt_s (lt_s (lt_s (am_mfa80) am_mf80) am_mf81) am_mf82) am_mf83) am_mf84) am_mf85) am_mf86) am_mf87) am_mf88) am_mf89) am_mf90) am_mf91) am_mf92) am_mf93) am_mf94) am_mf95) am_mf96) am_mf97) am_mf98) am_mf99) am_mf100) am_mf101) am_mf102) am_mf103) am_mf104) am_mf105) am_mf106) am_mf107) am_mf108) am_mf109) am_mf110) am_mf111) am_mf112) am_mf113) am_mf114) am_mf115) am_mf116) am_mf117) am_mf118) am_mf119
theorem am_mfa160 : ∀ j, j < 160 → am_MF j := lt_s (lt_s (lt_s (lt_s (lt_s (lt_s (lt_s (lt_s (lt_s (lt_s (lt_s (lt_s (lt_s (lt_s (lt_s (lt_s (lt_s (lt_s (lt_s (lt_s (lt_s (lt_s (lt_s (lt_s (lt_s (lt_s (lt_s (lt_s (lt_s (lt_s (lt_s (lt_s (lt_s (lt_s (lt_s (lt_s (lt_s (lt_s (lt_s (lt_s (am_mfa120) am_mf120) am_mf121) am_mf122) am_mf123) am_mf124) am_mf125) am_mf126) am_mf127) am_mf128) am_mf129) am_mf130) am_mf131) am_mf132) am_mf133) am_mf134) am_mf135) am_mf136) am_mf137) am_mf138) am_mf139) am_mf140) am_mf141) am_mf142) am_mf143) am_mf144) am_mf145) am_mf146) am_mf147) am_mf148) am_mf149) am_mf150) am_mf151) am_mf152) am_mf153) am_mf154) am_mf155) am_mf156) am_mf157) am_mf158) am_mf159
theorem am_mfa200 : ∀ j, j < 200 → am_MF j := lt_s (lt_s (lt_s (lt_s (lt_s (lt_s (lt_s (lt_s (lt_s (lt_s (lt_s (lt_s (lt_s (lt_s (lt_s (lt_s (lt_s (lt_s (lt_s (lt_s (lt_s (lt_s (lt_s (lt_s (lt_s (lt_s (lt_s (lt_s (lt_s (lt_s (lt_s (lt_s (lt_s (lt_s (lt_s (lt_s (lt_s (lt_s (lt_s (lt_s (am_mfa160) am_mf160) am_mf161) am_mf162) am_mf163) am_mf164) am_mf165) am_mf166) am_mf167) am_mf168) am_mf169) am_mf170) am_mf171) am_mf172) am_mf173) am_mf174) am_mf175) am_mf176) am_mf177) am_mf178) am_mf179) am_mf180) am_mf181) am_mf182) am_mf183) am_mf184) am_mf185) am_mf186) am_mf187) am_mf188) am_mf189) am_mf190) am_mf191) am_mf192) am_mf193) am_mf194) am_mf195) am_mf196) am_mf197) am_mf198) am_mf199
theorem am_mfa240 : ∀ j, j < 240 → am_MF j := lt_s (lt_s (lt_s (lt_s (lt_s (lt_s (lt_s (lt_s (lt_s (lt_s (lt_s (lt_s (lt_s (lt_s (lt_s (lt_s (lt_s (lt_s (lt_s (lt_s (lt_s (lt_s (lt_s (lt_s (lt_s (lt_s (lt_s (lt_s (lt_s (lt_s (lt_s (lt_s (lt_s (lt_s (lt_s (lt_s (lt_s (lt_s (lt_s (lt_s (am_mfa200) am_mf200) am_mf201) am_mf202) am_mf203) am_mf204) am_mf205) am_mf206) am_mf207) am_mf208) am_mf209) am_mf210) am_mf211) am_mf212) am_mf213) am_mf214) am_mf215) am_mf216) am_mf217) am_mf218) am_mf219) am_mf220) am_mf221) am_mf222) am_mf223) am_mf224) am_mf225) am_mf226) am_mf227) am_mf228) am_mf229) am_mf230) am_mf231) am_mf232) am_mf233) am_mf234) am_mf235) am_mf236) am_mf237) am_mf238) am_mf239
theorem am_mfa263 : ∀ j, j < 263 → am_MF j := lt_s (lt_s (lt_s (lt_s (lt_s (lt_s (lt_s (lt_s (lt_s (lt_s (lt_s (lt_s (lt_s (lt_s (lt_s (lt_s (lt_s (lt_s (lt_s (lt_s (lt_s (lt_s (lt_s (am_mfa240) am_mf240) am_mf241) am_mf242) am_mf243) am_mf244) am_mf245) am_mf246) am_mf247) am_mf248) am_mf249) am_mf250) am_mf251) am_mf252) am_mf253) am_mf254) am_mf255) am_mf256) am_mf257) am_mf258) am_mf259) am_mf260) am_mf261) am_mf262
def am_MK (q : Nat × Nat × Nat) : Prop := Cond.methodLink (am_cn q.1) q.2.1 (am_y q.2.2) ∈ lw_tbl ∧ q.2.2 < 263
theorem am_mk_0 : am_MK (7, 50, 0) := ⟨lw_i5 (List.mem_of_getElem? (i := 13) rfl), by decide⟩
theorem am_mk_1 : am_MK (7, 54, 5) := ⟨lw_i5 (List.mem_of_getElem? (i := 226) rfl), by decide⟩
theorem am_mk_2 : am_MK (7, 61, 14) := ⟨lw_i5 (List.mem_of_getElem? (i := 5) rfl), by decide⟩
theorem am_mk_3 : am_MK (7, 66, 4) := ⟨lw_i5 (List.mem_of_getElem? (i := 16) rfl), by decide⟩
theorem am_mk_4 : am_MK (7, 70, 6) := ⟨lw_i5 (List.mem_of_getElem? (i := 20) rfl), by decide⟩
theorem am_mk_5 : am_MK (7, 73, 8) := ⟨lw_i5 (List.mem_of_getElem? (i := 28) rfl), by decide⟩
theorem am_mk_6 : am_MK (7, 77, 9) := ⟨lw_i5 (List.mem_of_getElem? (i := 32) rfl), by decide⟩
theorem am_mk_7 : am_MK (7, 89, 256) := ⟨lw_i5 (List.mem_of_getElem? (i := 72) rfl), by decide⟩
theorem am_mk_8 : am_MK (7, 95, 257) := ⟨lw_i5 (List.mem_of_getElem? (i := 73) rfl), by decide⟩
theorem am_mk_9 : am_MK (7, 101, 24) := ⟨lw_i5 (List.mem_of_getElem? (i := 68) rfl), by decide⟩
theorem am_mk_10 : am_MK (7, 127, 25) := ⟨lw_i5 (List.mem_of_getElem? (i := 101) rfl), by decide⟩
theorem am_mk_11 : am_MK (7, 170, 29) := ⟨lw_i5 (List.mem_of_getElem? (i := 63) rfl), by decide⟩
theorem am_mk_12 : am_MK (7, 173, 30) := ⟨lw_i5 (List.mem_of_getElem? (i := 78) rfl), by decide⟩
theorem am_mk_13 : am_MK (7, 184, 26) := ⟨lw_i5 (List.mem_of_getElem? (i := 90) rfl), by decide⟩
theorem am_mk_14 : am_MK (7, 187, 27) := ⟨lw_i5 (List.mem_of_getElem? (i := 109) rfl), by decide⟩
theorem am_mk_15 : am_MK (7, 190, 28) := ⟨lw_i5 (List.mem_of_getElem? (i := 121) rfl), by decide⟩
theorem am_mk_16 : am_MK (7, 193, 21) := ⟨lw_i5 (List.mem_of_getElem? (i := 52) rfl), by decide⟩
theorem am_mk_17 : am_MK (7, 200, 22) := ⟨lw_i5 (List.mem_of_getElem? (i := 56) rfl), by decide⟩
theorem am_mk_18 : am_MK (7, 203, 31) := ⟨lw_i5 (List.mem_of_getElem? (i := 59) rfl), by decide⟩
theorem am_mk_19 : am_MK (7, 206, 23) := ⟨lw_i5 (List.mem_of_getElem? (i := 128) rfl), by decide⟩
theorem am_mk_20 : am_MK (7, 218, 33) := ⟨lw_i5 (List.mem_of_getElem? (i := 139) rfl), by decide⟩
theorem am_mk_21 : am_MK (7, 221, 32) := ⟨lw_i5 (List.mem_of_getElem? (i := 48) rfl), by decide⟩
theorem am_mk_22 : am_MK (7, 230, 38) := ⟨lw_i5 (List.mem_of_getElem? (i := 147) rfl), by decide⟩
theorem am_mk_23 : am_MK (7, 234, 35) := ⟨lw_i5 (List.mem_of_getElem? (i := 155) rfl), by decide⟩
theorem am_mk_24 : am_MK (7, 238, 39) := ⟨lw_i5 (List.mem_of_getElem? (i := 151) rfl), by decide⟩
theorem am_mk_25 : am_MK (7, 241, 41) := ⟨lw_i5 (List.mem_of_getElem? (i := 163) rfl), by decide⟩
theorem am_mk_26 : am_MK (7, 244, 42) := ⟨lw_i5 (List.mem_of_getElem? (i := 167) rfl), by decide⟩
theorem am_mk_27 : am_MK (7, 247, 36) := ⟨lw_i5 (List.mem_of_getElem? (i := 171) rfl), by decide⟩
theorem am_mk_28 : am_MK (7, 250, 40) := ⟨lw_i5 (List.mem_of_getElem? (i := 159) rfl), by decide⟩
theorem am_mk_29 : am_MK (7, 253, 34) := ⟨lw_i5 (List.mem_of_getElem? (i := 175) rfl), by decide⟩
theorem am_mk_30 : am_MK (7, 256, 37) := ⟨lw_i5 (List.mem_of_getElem? (i := 143) rfl), by decide⟩
theorem am_mk_31 : am_MK (7, 262, 43) := ⟨lw_i5 (List.mem_of_getElem? (i := 135) rfl), by decide⟩
theorem am_mk_32 : am_MK (7, 268, 45) := ⟨lw_i5 (List.mem_of_getElem? (i := 191) rfl), by decide⟩
theorem am_mk_33 : am_MK (7, 275, 46) := ⟨lw_i5 (List.mem_of_getElem? (i := 187) rfl), by decide⟩
theorem am_mk_34 : am_MK (7, 279, 47) := ⟨lw_i5 (List.mem_of_getElem? (i := 183) rfl), by decide⟩
theorem am_mk_35 : am_MK (7, 282, 48) := ⟨lw_i5 (List.mem_of_getElem? (i := 195) rfl), by decide⟩
theorem am_mk_36 : am_MK (7, 288, 44) := ⟨lw_i5 (List.mem_of_getElem? (i := 131) rfl), by decide⟩
theorem am_mk_37 : am_MK (7, 291, 49) := ⟨lw_i5 (List.mem_of_getElem? (i := 179) rfl), by decide⟩
theorem am_mk_38 : am_MK (7, 294, 50) := ⟨lw_i5 (List.mem_of_getElem? (i := 199) rfl), by decide⟩
theorem am_mk_39 : am_MK (7, 297, 51) := ⟨lw_i5 (List.mem_of_getElem? (i := 203) rfl), by decide⟩
theorem am_mk_40 : am_MK (7, 300, 54) := ⟨lw_i6 (List.mem_of_getElem? (i := 36) rfl), by decide⟩
theorem am_mk_41 : am_MK (7, 303, 55) := ⟨lw_i6 (List.mem_of_getElem? (i := 32) rfl), by decide⟩
theorem am_mk_42 : am_MK (7, 306, 56) := ⟨lw_i6 (List.mem_of_getElem? (i := 28) rfl), by decide⟩
theorem am_mk_43 : am_MK (7, 309, 1) := ⟨lw_i6 (List.mem_of_getElem? (i := 51) rfl), by decide⟩
theorem am_mk_44 : am_MK (7, 312, 2) := ⟨lw_i6 (List.mem_of_getElem? (i := 14) rfl), by decide⟩
theorem am_mk_45 : am_MK (7, 315, 7) := ⟨lw_i5 (List.mem_of_getElem? (i := 234) rfl), by decide⟩
theorem am_mk_46 : am_MK (7, 318, 59) := ⟨lw_i6 (List.mem_of_getElem? (i := 10) rfl), by decide⟩
theorem am_mk_47 : am_MK (7, 321, 13) := ⟨lw_i6 (List.mem_of_getElem? (i := 17) rfl), by decide⟩
theorem am_mk_48 : am_MK (7, 324, 62) := ⟨lw_i6 (List.mem_of_getElem? (i := 6) rfl), by decide⟩
theorem am_mk_49 : am_MK (7, 327, 3) := ⟨lw_i5 (List.mem_of_getElem? (i := 238) rfl), by decide⟩
theorem am_mk_50 : am_MK (7, 330, 60) := ⟨lw_i6 (List.mem_of_getElem? (i := 20) rfl), by decide⟩
theorem am_mk_51 : am_MK (7, 333, 57) := ⟨lw_i6 (List.mem_of_getElem? (i := 24) rfl), by decide⟩
theorem am_mk_52 : am_MK (7, 336, 67) := ⟨lw_i5 (List.mem_of_getElem? (i := 223) rfl), by decide⟩
theorem am_mk_53 : am_MK (7, 339, 61) := ⟨lw_i5 (List.mem_of_getElem? (i := 230) rfl), by decide⟩
theorem am_mk_54 : am_MK (7, 342, 63) := ⟨lw_i6 (List.mem_of_getElem? (i := 2) rfl), by decide⟩
theorem am_mk_55 : am_MK (7, 345, 69) := ⟨lw_i6 (List.mem_of_getElem? (i := 47) rfl), by decide⟩
theorem am_mk_56 : am_MK (7, 348, 12) := ⟨lw_i6 (List.mem_of_getElem? (i := 54) rfl), by decide⟩
theorem am_mk_57 : am_MK (7, 351, 66) := ⟨lw_i6 (List.mem_of_getElem? (i := 58) rfl), by decide⟩
theorem am_mk_58 : am_MK (7, 354, 68) := ⟨lw_i5 (List.mem_of_getElem? (i := 219) rfl), by decide⟩
theorem am_mk_59 : am_MK (7, 357, 64) := ⟨lw_i6 (List.mem_of_getElem? (i := 39) rfl), by decide⟩
theorem am_mk_60 : am_MK (7, 360, 70) := ⟨lw_i6 (List.mem_of_getElem? (i := 43) rfl), by decide⟩
theorem am_mk_61 : am_MK (7, 364, 11) := ⟨lw_i6 (List.mem_of_getElem? (i := 66) rfl), by decide⟩
theorem am_mk_62 : am_MK (7, 367, 10) := ⟨lw_i6 (List.mem_of_getElem? (i := 77) rfl), by decide⟩
theorem am_mk_63 : am_MK (7, 370, 77) := ⟨lw_i6 (List.mem_of_getElem? (i := 84) rfl), by decide⟩
theorem am_mk_64 : am_MK (7, 373, 78) := ⟨lw_i6 (List.mem_of_getElem? (i := 88) rfl), by decide⟩
theorem am_mk_65 : am_MK (7, 376, 76) := ⟨lw_i6 (List.mem_of_getElem? (i := 92) rfl), by decide⟩
theorem am_mk_66 : am_MK (7, 380, 75) := ⟨lw_i6 (List.mem_of_getElem? (i := 96) rfl), by decide⟩
theorem am_mk_67 : am_MK (7, 389, 81) := ⟨lw_i6 (List.mem_of_getElem? (i := 120) rfl), by decide⟩
theorem am_mk_68 : am_MK (7, 393, 58) := ⟨lw_i6 (List.mem_of_getElem? (i := 124) rfl), by decide⟩
theorem am_mk_69 : am_MK (7, 396, 16) := ⟨lw_i6 (List.mem_of_getElem? (i := 128) rfl), by decide⟩
theorem am_mk_70 : am_MK (7, 399, 82) := ⟨lw_i6 (List.mem_of_getElem? (i := 116) rfl), by decide⟩
theorem am_mk_71 : am_MK (7, 403, 83) := ⟨lw_i6 (List.mem_of_getElem? (i := 142) rfl), by decide⟩
theorem am_mk_72 : am_MK (7, 406, 80) := ⟨lw_i6 (List.mem_of_getElem? (i := 108) rfl), by decide⟩
theorem am_mk_73 : am_MK (7, 409, 84) := ⟨lw_i6 (List.mem_of_getElem? (i := 112) rfl), by decide⟩
theorem am_mk_74 : am_MK (7, 413, 85) := ⟨lw_i6 (List.mem_of_getElem? (i := 134) rfl), by decide⟩
theorem am_mk_75 : am_MK (7, 416, 86) := ⟨lw_i6 (List.mem_of_getElem? (i := 138) rfl), by decide⟩
theorem am_mk_76 : am_MK (7, 419, 87) := ⟨lw_i6 (List.mem_of_getElem? (i := 104) rfl), by decide⟩
theorem am_mk_77 : am_MK (7, 423, 89) := ⟨lw_i6 (List.mem_of_getElem? (i := 150) rfl), by decide⟩
theorem am_mk_78 : am_MK (7, 426, 98) := ⟨lw_i6 (List.mem_of_getElem? (i := 190) rfl), by decide⟩
theorem am_mk_79 : am_MK (7, 429, 99) := ⟨lw_i6 (List.mem_of_getElem? (i := 186) rfl), by decide⟩
theorem am_mk_80 : am_MK (7, 432, 102) := ⟨lw_i6 (List.mem_of_getElem? (i := 202) rfl), by decide⟩
theorem am_mk_81 : am_MK (7, 435, 101) := ⟨lw_i6 (List.mem_of_getElem? (i := 198) rfl), by decide⟩
theorem am_mk_82 : am_MK (7, 438, 104) := ⟨lw_i6 (List.mem_of_getElem? (i := 210) rfl), by decide⟩
theorem am_mk_83 : am_MK (7, 441, 106) := ⟨lw_i6 (List.mem_of_getElem? (i := 214) rfl), by decide⟩
theorem am_mk_84 : am_MK (7, 444, 105) := ⟨lw_i6 (List.mem_of_getElem? (i := 218) rfl), by decide⟩
theorem am_mk_85 : am_MK (7, 447, 112) := ⟨lw_i7 (List.mem_of_getElem? (i := 2) rfl), by decide⟩
theorem am_mk_86 : am_MK (7, 457, 115) := ⟨lw_i7 (List.mem_of_getElem? (i := 9) rfl), by decide⟩
theorem am_mk_87 : am_MK (7, 460, 114) := ⟨lw_i7 (List.mem_of_getElem? (i := 13) rfl), by decide⟩
theorem am_mk_88 : am_MK (7, 463, 117) := ⟨lw_i7 (List.mem_of_getElem? (i := 26) rfl), by decide⟩
theorem am_mk_89 : am_MK (7, 466, 123) := ⟨lw_i7 (List.mem_of_getElem? (i := 55) rfl), by decide⟩
theorem am_mk_90 : am_MK (7, 472, 124) := ⟨lw_i7 (List.mem_of_getElem? (i := 51) rfl), by decide⟩
theorem am_mk_91 : am_MK (7, 481, 125) := ⟨lw_i7 (List.mem_of_getElem? (i := 47) rfl), by decide⟩
theorem am_mk_92 : am_MK (7, 488, 131) := ⟨lw_i7 (List.mem_of_getElem? (i := 79) rfl), by decide⟩
theorem am_mk_93 : am_MK (5, 70, 139) := ⟨lw_i4 (List.mem_of_getElem? (i := 77) rfl), by decide⟩
theorem am_mk_94 : am_MK (5, 74, 142) := ⟨lw_i3 (List.mem_of_getElem? (i := 24) rfl), by decide⟩
theorem am_mk_95 : am_MK (5, 83, 145) := ⟨lw_i3 (List.mem_of_getElem? (i := 70) rfl), by decide⟩
theorem am_mk_96 : am_MK (5, 87, 146) := ⟨lw_i3 (List.mem_of_getElem? (i := 74) rfl), by decide⟩
theorem am_mk_97 : am_MK (5, 93, 151) := ⟨lw_i3 (List.mem_of_getElem? (i := 156) rfl), by decide⟩
theorem am_mk_98 : am_MK (1, 40, 156) := ⟨lw_i3 (List.mem_of_getElem? (i := 49) rfl), by decide⟩
theorem am_mk_99 : am_MK (4, 28, 152) := ⟨lw_i3 (List.mem_of_getElem? (i := 178) rfl), by decide⟩
theorem am_mk_100 : am_MK (4, 32, 158) := ⟨lw_i3 (List.mem_of_getElem? (i := 179) rfl), by decide⟩
theorem am_mk_101 : am_MK (2, 48, 161) := ⟨lw_i2 (List.mem_of_getElem? (i := 101) rfl), by decide⟩
theorem am_mk_102 : am_MK (2, 52, 162) := ⟨lw_i2 (List.mem_of_getElem? (i := 163) rfl), by decide⟩
theorem am_mk_103 : am_MK (2, 56, 163) := ⟨lw_i2 (List.mem_of_getElem? (i := 105) rfl), by decide⟩
theorem am_mk_104 : am_MK (2, 60, 166) := ⟨lw_i2 (List.mem_of_getElem? (i := 108) rfl), by decide⟩
theorem am_mk_105 : am_MK (2, 63, 164) := ⟨lw_i2 (List.mem_of_getElem? (i := 167) rfl), by decide⟩
theorem am_mk_106 : am_MK (2, 66, 165) := ⟨lw_i2 (List.mem_of_getElem? (i := 170) rfl), by decide⟩
theorem am_mk_107 : am_MK (2, 71, 256) := ⟨lw_i2 (List.mem_of_getElem? (i := 112) rfl), by decide⟩
theorem am_mk_108 : am_MK (2, 77, 257) := ⟨lw_i2 (List.mem_of_getElem? (i := 122) rfl), by decide⟩
theorem am_mk_109 : am_MK (2, 81, 167) := ⟨lw_i2 (List.mem_of_getElem? (i := 160) rfl), by decide⟩
theorem am_mk_110 : am_MK (2, 85, 168) := ⟨lw_i2 (List.mem_of_getElem? (i := 179) rfl), by decide⟩
theorem am_mk_111 : am_MK (2, 88, 169) := ⟨lw_i2 (List.mem_of_getElem? (i := 191) rfl), by decide⟩
theorem am_mk_112 : am_MK (2, 104, 172) := ⟨lw_i2 (List.mem_of_getElem? (i := 183) rfl), by decide⟩
theorem am_mk_113 : am_MK (2, 119, 175) := ⟨lw_i2 (List.mem_of_getElem? (i := 195) rfl), by decide⟩
theorem am_mk_114 : am_MK (2, 126, 173) := ⟨lw_i2 (List.mem_of_getElem? (i := 207) rfl), by decide⟩
theorem am_mk_115 : am_MK (2, 132, 170) := ⟨lw_i2 (List.mem_of_getElem? (i := 215) rfl), by decide⟩
theorem am_mk_116 : am_MK (2, 135, 174) := ⟨lw_i2 (List.mem_of_getElem? (i := 211) rfl), by decide⟩
theorem am_mk_117 : am_MK (2, 138, 153) := ⟨lw_i2 (List.mem_of_getElem? (i := 203) rfl), by decide⟩
theorem am_mk_118 : am_MK (2, 142, 176) := ⟨lw_i2 (List.mem_of_getElem? (i := 199) rfl), by decide⟩
theorem am_mk_119 : am_MK (2, 147, 178) := ⟨lw_i2 (List.mem_of_getElem? (i := 230) rfl), by decide⟩
theorem am_mk_120 : am_MK (2, 151, 179) := ⟨lw_i2 (List.mem_of_getElem? (i := 238) rfl), by decide⟩
theorem am_mk_121 : am_MK (2, 157, 180) := ⟨lw_i2 (List.mem_of_getElem? (i := 234) rfl), by decide⟩
theorem am_mk_122 : am_MK (6, 68, 197) := ⟨lw_i2 (List.mem_of_getElem? (i := 46) rfl), by decide⟩
theorem am_mk_123 : am_MK (6, 71, 253) := ⟨lw_i2 (List.mem_of_getElem? (i := 54) rfl), by decide⟩
theorem am_mk_124 : am_MK (6, 78, 136) := ⟨lw_i2 (List.mem_of_getElem? (i := 57) rfl), by decide⟩
theorem am_mk_125 : am_MK (6, 82, 134) := ⟨lw_i2 (List.mem_of_getElem? (i := 65) rfl), by decide⟩
theorem am_mk_126 : am_MK (6, 86, 137) := ⟨lw_i2 (List.mem_of_getElem? (i := 69) rfl), by decide⟩
theorem am_mk_127 : am_MK (6, 90, 135) := ⟨lw_i2 (List.mem_of_getElem? (i := 73) rfl), by decide⟩
theorem am_mk_128 : am_MK (6, 93, 138) := ⟨lw_i2 (List.mem_of_getElem? (i := 77) rfl), by decide⟩
theorem am_mk_129 : am_MK (6, 99, 185) := ⟨lw_i2 (List.mem_of_getElem? (i := 85) rfl), by decide⟩
theorem am_mk_130 : am_MK (6, 103, 160) := ⟨lw_i2 (List.mem_of_getElem? (i := 97) rfl), by decide⟩
theorem am_mk_131 : am_MK (6, 107, 171) := ⟨lw_i2 (List.mem_of_getElem? (i := 173) rfl), by decide⟩
theorem am_mk_132 : am_MK (6, 118, 152) := ⟨lw_i2 (List.mem_of_getElem? (i := 219) rfl), by decide⟩
theorem am_mk_133 : am_MK (6, 126, 177) := ⟨lw_i2 (List.mem_of_getElem? (i := 226) rfl), by decide⟩
theorem am_mk_134 : am_MK (6, 137, 158) := ⟨lw_i3 (List.mem_of_getElem? (i := 2) rfl), by decide⟩
theorem am_mk_135 : am_MK (6, 152, 218) := ⟨lw_i3 (List.mem_of_getElem? (i := 16) rfl), by decide⟩
theorem am_mk_136 : am_MK (6, 156, 196) := ⟨lw_i3 (List.mem_of_getElem? (i := 53) rfl), by decide⟩
theorem am_mk_137 : am_MK (6, 159, 147) := ⟨lw_i3 (List.mem_of_getElem? (i := 65) rfl), by decide⟩
theorem am_mk_138 : am_MK (6, 163, 252) := ⟨lw_i3 (List.mem_of_getElem? (i := 82) rfl), by decide⟩
theorem am_mk_139 : am_MK (6, 166, 145) := ⟨lw_i3 (List.mem_of_getElem? (i := 86) rfl), by decide⟩
theorem am_mk_140 : am_MK (6, 175, 146) := ⟨lw_i3 (List.mem_of_getElem? (i := 91) rfl), by decide⟩
theorem am_mk_141 : am_MK (6, 182, 248) := ⟨lw_i3 (List.mem_of_getElem? (i := 100) rfl), by decide⟩
theorem am_mk_142 : am_MK (6, 189, 194) := ⟨lw_i3 (List.mem_of_getElem? (i := 104) rfl), by decide⟩
theorem am_mk_143 : am_MK (6, 199, 233) := ⟨lw_i3 (List.mem_of_getElem? (i := 112) rfl), by decide⟩
theorem am_mk_144 : am_MK (6, 203, 255) := ⟨lw_i3 (List.mem_of_getElem? (i := 160) rfl), by decide⟩
theorem am_mk_145 : am_MK (6, 212, 133) := ⟨lw_i3 (List.mem_of_getElem? (i := 57) rfl), by decide⟩
theorem am_mk_146 : am_MK (6, 223, 159) := ⟨lw_i3 (List.mem_of_getElem? (i := 174) rfl), by decide⟩
theorem am_mk_147 : am_MK (6, 242, 201) := ⟨lw_i3 (List.mem_of_getElem? (i := 185) rfl), by decide⟩
theorem am_mk_148 : am_MK (6, 245, 143) := ⟨lw_i3 (List.mem_of_getElem? (i := 20) rfl), by decide⟩
theorem am_mk_149 : am_MK (6, 263, 144) := ⟨lw_i3 (List.mem_of_getElem? (i := 41) rfl), by decide⟩
theorem am_mk_150 : am_MK (6, 266, 142) := ⟨lw_i3 (List.mem_of_getElem? (i := 28) rfl), by decide⟩
theorem am_mk_151 : am_MK (6, 272, 206) := ⟨lw_i3 (List.mem_of_getElem? (i := 205) rfl), by decide⟩
theorem am_mk_152 : am_MK (6, 276, 139) := ⟨lw_i3 (List.mem_of_getElem? (i := 221) rfl), by decide⟩
theorem am_mk_153 : am_MK (6, 279, 214) := ⟨lw_i4 (List.mem_of_getElem? (i := 1) rfl), by decide⟩
theorem am_mk_154 : am_MK (6, 285, 217) := ⟨lw_i3 (List.mem_of_getElem? (i := 29) rfl), by decide⟩
theorem am_mk_155 : am_MK (6, 291, 251) := ⟨lw_i3 (List.mem_of_getElem? (i := 33) rfl), by decide⟩
theorem am_mk_156 : am_MK (6, 295, 154) := ⟨lw_i3 (List.mem_of_getElem? (i := 45) rfl), by decide⟩
theorem am_mk_157 : am_MK (6, 299, 222) := ⟨lw_i4 (List.mem_of_getElem? (i := 25) rfl), by decide⟩
theorem am_mk_158 : am_MK (6, 303, 223) := ⟨lw_i4 (List.mem_of_getElem? (i := 29) rfl), by decide⟩
theorem am_mk_159 : am_MK (6, 306, 224) := ⟨lw_i4 (List.mem_of_getElem? (i := 33) rfl), by decide⟩
theorem am_mk_160 : am_MK (6, 309, 157) := ⟨lw_i3 (List.mem_of_getElem? (i := 120) rfl), by decide⟩
theorem am_mk_161 : am_MK (6, 312, 226) := ⟨lw_i4 (List.mem_of_getElem? (i := 41) rfl), by decide⟩
theorem am_mk_162 : am_MK (6, 315, 228) := ⟨lw_i4 (List.mem_of_getElem? (i := 49) rfl), by decide⟩
theorem am_mk_163 : am_MK (6, 318, 227) := ⟨lw_i4 (List.mem_of_getElem? (i := 45) rfl), by decide⟩
theorem am_mk_164 : am_MK (6, 321, 229) := ⟨lw_i4 (List.mem_of_getElem? (i := 53) rfl), by decide⟩
theorem am_mk_165 : am_MK (6, 324, 231) := ⟨lw_i4 (List.mem_of_getElem? (i := 61) rfl), by decide⟩
theorem am_mk_166 : am_MK (6, 327, 232) := ⟨lw_i4 (List.mem_of_getElem? (i := 65) rfl), by decide⟩
theorem am_mk_167 : am_MK (6, 330, 234) := ⟨lw_i3 (List.mem_of_getElem? (i := 116) rfl), by decide⟩
theorem am_mk_168 : am_MK (6, 334, 235) := ⟨lw_i3 (List.mem_of_getElem? (i := 124) rfl), by decide⟩
theorem am_mk_169 : am_MK (6, 338, 149) := ⟨lw_i3 (List.mem_of_getElem? (i := 148) rfl), by decide⟩
theorem am_mk_170 : am_MK (6, 341, 150) := ⟨lw_i3 (List.mem_of_getElem? (i := 152) rfl), by decide⟩
theorem am_mk_171 : am_MK (6, 344, 236) := ⟨lw_i3 (List.mem_of_getElem? (i := 128) rfl), by decide⟩
theorem am_mk_172 : am_MK (6, 348, 148) := ⟨lw_i3 (List.mem_of_getElem? (i := 142) rfl), by decide⟩
theorem am_mk_173 : am_MK (6, 351, 155) := ⟨lw_i3 (List.mem_of_getElem? (i := 132) rfl), by decide⟩
theorem am_mk_174 : am_MK (6, 355, 254) := ⟨lw_i3 (List.mem_of_getElem? (i := 136) rfl), by decide⟩
theorem am_mk_175 : am_MK (6, 358, 140) := ⟨lw_i4 (List.mem_of_getElem? (i := 73) rfl), by decide⟩
theorem am_mk_176 : am_MK (6, 361, 237) := ⟨lw_i4 (List.mem_of_getElem? (i := 82) rfl), by decide⟩
theorem am_mk_177 : am_MK (6, 364, 242) := ⟨lw_i4 (List.mem_of_getElem? (i := 94) rfl), by decide⟩
theorem am_mk_178 : am_MK (6, 367, 243) := ⟨lw_i4 (List.mem_of_getElem? (i := 101) rfl), by decide⟩
theorem am_mk_179 : am_MK (6, 370, 246) := ⟨lw_i4 (List.mem_of_getElem? (i := 105) rfl), by decide⟩
theorem am_mk_180 : am_MK (6, 374, 141) := ⟨lw_i3 (List.mem_of_getElem? (i := 37) rfl), by decide⟩
theorem am_mk_181 : am_MK (11, 335, 258) := ⟨lw_i2 (List.mem_of_getElem? (i := 116) rfl), by decide⟩
theorem am_mk_182 : am_MK (11, 492, 259) := ⟨lw_i2 (List.mem_of_getElem? (i := 126) rfl), by decide⟩
theorem am_mk_183 : am_MK (11, 495, 261) := ⟨lw_i2 (List.mem_of_getElem? (i := 130) rfl), by decide⟩
theorem am_mk_184 : am_MK (11, 1059, 262) := ⟨lw_i2 (List.mem_of_getElem? (i := 138) rfl), by decide⟩
theorem am_mk_185 : am_MK (12, 9, 260) := ⟨lw_i2 (List.mem_of_getElem? (i := 133) rfl), by decide⟩
theorem am_mk_186 : am_MK (8, 13, 181) := ⟨lw_i2 (List.mem_of_getElem? (i := 42) rfl), by decide⟩
theorem am_mk_187 : am_MK (8, 17, 15) := ⟨lw_i5 (List.mem_of_getElem? (i := 1) rfl), by decide⟩
theorem am_mk_188 : am_MK (8, 18, 182) := ⟨lw_i2 (List.mem_of_getElem? (i := 50) rfl), by decide⟩
theorem am_mk_189 : am_MK (8, 22, 17) := ⟨lw_i5 (List.mem_of_getElem? (i := 9) rfl), by decide⟩
theorem am_mk_190 : am_MK (8, 23, 183) := ⟨lw_i2 (List.mem_of_getElem? (i := 61) rfl), by decide⟩
theorem am_mk_191 : am_MK (8, 27, 18) := ⟨lw_i5 (List.mem_of_getElem? (i := 24) rfl), by decide⟩
theorem am_mk_192 : am_MK (8, 28, 189) := ⟨lw_i3 (List.mem_of_getElem? (i := 12) rfl), by decide⟩
theorem am_mk_193 : am_MK (8, 32, 71) := ⟨lw_i5 (List.mem_of_getElem? (i := 215) rfl), by decide⟩
theorem am_mk_194 : am_MK (8, 33, 190) := ⟨lw_i3 (List.mem_of_getElem? (i := 78) rfl), by decide⟩
theorem am_mk_195 : am_MK (8, 37, 72) := ⟨lw_i6 (List.mem_of_getElem? (i := 62) rfl), by decide⟩
theorem am_mk_196 : am_MK (8, 38, 191) := ⟨lw_i3 (List.mem_of_getElem? (i := 87) rfl), by decide⟩
theorem am_mk_197 : am_MK (8, 41, 73) := ⟨lw_i6 (List.mem_of_getElem? (i := 69) rfl), by decide⟩
theorem am_mk_198 : am_MK (8, 42, 192) := ⟨lw_i3 (List.mem_of_getElem? (i := 92) rfl), by decide⟩
theorem am_mk_199 : am_MK (8, 45, 74) := ⟨lw_i6 (List.mem_of_getElem? (i := 73) rfl), by decide⟩
theorem am_mk_200 : am_MK (8, 46, 193) := ⟨lw_i3 (List.mem_of_getElem? (i := 96) rfl), by decide⟩
theorem am_mk_201 : am_MK (8, 49, 79) := ⟨lw_i6 (List.mem_of_getElem? (i := 80) rfl), by decide⟩
theorem am_mk_202 : am_MK (8, 50, 195) := ⟨lw_i3 (List.mem_of_getElem? (i := 108) rfl), by decide⟩
theorem am_mk_203 : am_MK (8, 53, 88) := ⟨lw_i6 (List.mem_of_getElem? (i := 100) rfl), by decide⟩
theorem am_mk_204 : am_MK (8, 54, 184) := ⟨lw_i2 (List.mem_of_getElem? (i := 81) rfl), by decide⟩
theorem am_mk_205 : am_MK (8, 58, 19) := ⟨lw_i5 (List.mem_of_getElem? (i := 36) rfl), by decide⟩
theorem am_mk_206 : am_MK (8, 59, 186) := ⟨lw_i2 (List.mem_of_getElem? (i := 89) rfl), by decide⟩
theorem am_mk_207 : am_MK (8, 63, 20) := ⟨lw_i5 (List.mem_of_getElem? (i := 40) rfl), by decide⟩
theorem am_mk_208 : am_MK (8, 64, 187) := ⟨lw_i2 (List.mem_of_getElem? (i := 93) rfl), by decide⟩
theorem am_mk_209 : am_MK (8, 67, 52) := ⟨lw_i5 (List.mem_of_getElem? (i := 44) rfl), by decide⟩
theorem am_mk_210 : am_MK (8, 68, 188) := ⟨lw_i3 (List.mem_of_getElem? (i := 8) rfl), by decide⟩
theorem am_mk_211 : am_MK (8, 71, 53) := ⟨lw_i5 (List.mem_of_getElem? (i := 207) rfl), by decide⟩
theorem am_mk_212 : am_MK (8, 72, 200) := ⟨lw_i3 (List.mem_of_getElem? (i := 181) rfl), by decide⟩
theorem am_mk_213 : am_MK (8, 75, 90) := ⟨lw_i6 (List.mem_of_getElem? (i := 146) rfl), by decide⟩
theorem am_mk_214 : am_MK (8, 76, 202) := ⟨lw_i3 (List.mem_of_getElem? (i := 189) rfl), by decide⟩
theorem am_mk_215 : am_MK (8, 79, 91) := ⟨lw_i6 (List.mem_of_getElem? (i := 154) rfl), by decide⟩
theorem am_mk_216 : am_MK (8, 80, 203) := ⟨lw_i3 (List.mem_of_getElem? (i := 193) rfl), by decide⟩
theorem am_mk_217 : am_MK (8, 83, 92) := ⟨lw_i6 (List.mem_of_getElem? (i := 158) rfl), by decide⟩
theorem am_mk_218 : am_MK (8, 84, 204) := ⟨lw_i3 (List.mem_of_getElem? (i := 197) rfl), by decide⟩
theorem am_mk_219 : am_MK (8, 87, 93) := ⟨lw_i6 (List.mem_of_getElem? (i := 162) rfl), by decide⟩
theorem am_mk_220 : am_MK (8, 88, 216) := ⟨lw_i4 (List.mem_of_getElem? (i := 9) rfl), by decide⟩
theorem am_mk_221 : am_MK (8, 91, 94) := ⟨lw_i6 (List.mem_of_getElem? (i := 166) rfl), by decide⟩
theorem am_mk_222 : am_MK (8, 92, 221) := ⟨lw_i4 (List.mem_of_getElem? (i := 21) rfl), by decide⟩
theorem am_mk_223 : am_MK (8, 95, 100) := ⟨lw_i6 (List.mem_of_getElem? (i := 182) rfl), by decide⟩
theorem am_mk_224 : am_MK (8, 96, 225) := ⟨lw_i4 (List.mem_of_getElem? (i := 37) rfl), by decide⟩
theorem am_mk_225 : am_MK (8, 99, 103) := ⟨lw_i6 (List.mem_of_getElem? (i := 194) rfl), by decide⟩
theorem am_mk_226 : am_MK (8, 100, 238) := ⟨lw_i4 (List.mem_of_getElem? (i := 69) rfl), by decide⟩
theorem am_mk_227 : am_MK (8, 104, 107) := ⟨lw_i6 (List.mem_of_getElem? (i := 206) rfl), by decide⟩
theorem am_mk_228 : am_MK (8, 105, 239) := ⟨lw_i4 (List.mem_of_getElem? (i := 78) rfl), by decide⟩
theorem am_mk_229 : am_MK (8, 108, 108) := ⟨lw_i6 (List.mem_of_getElem? (i := 222) rfl), by decide⟩
theorem am_mk_230 : am_MK (8, 109, 241) := ⟨lw_i4 (List.mem_of_getElem? (i := 90) rfl), by decide⟩
theorem am_mk_231 : am_MK (8, 112, 109) := ⟨lw_i6 (List.mem_of_getElem? (i := 226) rfl), by decide⟩
theorem am_mk_232 : am_MK (8, 113, 210) := ⟨lw_i3 (List.mem_of_getElem? (i := 225) rfl), by decide⟩
theorem am_mk_233 : am_MK (8, 116, 110) := ⟨lw_i6 (List.mem_of_getElem? (i := 230) rfl), by decide⟩
theorem am_mk_234 : am_MK (8, 117, 212) := ⟨lw_i3 (List.mem_of_getElem? (i := 233) rfl), by decide⟩
theorem am_mk_235 : am_MK (8, 120, 111) := ⟨lw_i6 (List.mem_of_getElem? (i := 234) rfl), by decide⟩
theorem am_mk_236 : am_MK (8, 121, 213) := ⟨lw_i3 (List.mem_of_getElem? (i := 237) rfl), by decide⟩
theorem am_mk_237 : am_MK (8, 124, 113) := ⟨lw_i6 (List.mem_of_getElem? (i := 238) rfl), by decide⟩
theorem am_mk_238 : am_MK (8, 125, 244) := ⟨lw_i4 (List.mem_of_getElem? (i := 97) rfl), by decide⟩
theorem am_mk_239 : am_MK (8, 129, 116) := ⟨lw_i7 (List.mem_of_getElem? (i := 5) rfl), by decide⟩
theorem am_mk_240 : am_MK (8, 130, 245) := ⟨lw_i4 (List.mem_of_getElem? (i := 110) rfl), by decide⟩
theorem am_mk_241 : am_MK (8, 133, 117) := ⟨lw_i7 (List.mem_of_getElem? (i := 18) rfl), by decide⟩
theorem am_mk_242 : am_MK (8, 134, 219) := ⟨lw_i4 (List.mem_of_getElem? (i := 13) rfl), by decide⟩
theorem am_mk_243 : am_MK (8, 137, 121) := ⟨lw_i7 (List.mem_of_getElem? (i := 35) rfl), by decide⟩
theorem am_mk_244 : am_MK (8, 138, 220) := ⟨lw_i4 (List.mem_of_getElem? (i := 17) rfl), by decide⟩
theorem am_mk_245 : am_MK (8, 141, 122) := ⟨lw_i7 (List.mem_of_getElem? (i := 39) rfl), by decide⟩
theorem am_mk_246 : am_MK (8, 142, 230) := ⟨lw_i4 (List.mem_of_getElem? (i := 57) rfl), by decide⟩
theorem am_mk_247 : am_MK (8, 145, 126) := ⟨lw_i7 (List.mem_of_getElem? (i := 43) rfl), by decide⟩
theorem am_mk_248 : am_MK (8, 146, 211) := ⟨lw_i3 (List.mem_of_getElem? (i := 229) rfl), by decide⟩
theorem am_mk_249 : am_MK (8, 149, 127) := ⟨lw_i7 (List.mem_of_getElem? (i := 59) rfl), by decide⟩
theorem am_mk_250 : am_MK (8, 150, 240) := ⟨lw_i4 (List.mem_of_getElem? (i := 86) rfl), by decide⟩
theorem am_mk_251 : am_MK (8, 153, 128) := ⟨lw_i7 (List.mem_of_getElem? (i := 63) rfl), by decide⟩
theorem am_mk_252 : am_MK (8, 154, 249) := ⟨lw_i4 (List.mem_of_getElem? (i := 118) rfl), by decide⟩
theorem am_mk_253 : am_MK (8, 157, 119) := ⟨lw_i7 (List.mem_of_getElem? (i := 27) rfl), by decide⟩
theorem am_mk_254 : am_MK (8, 158, 250) := ⟨lw_i4 (List.mem_of_getElem? (i := 122) rfl), by decide⟩
theorem am_mk_255 : am_MK (8, 161, 120) := ⟨lw_i7 (List.mem_of_getElem? (i := 31) rfl), by decide⟩
theorem am_mk_256 : am_MK (8, 162, 247) := ⟨lw_i4 (List.mem_of_getElem? (i := 114) rfl), by decide⟩
theorem am_mk_257 : am_MK (8, 165, 118) := ⟨lw_i7 (List.mem_of_getElem? (i := 22) rfl), by decide⟩
theorem am_mk_258 : am_MK (8, 166, 207) := ⟨lw_i3 (List.mem_of_getElem? (i := 209) rfl), by decide⟩
theorem am_mk_259 : am_MK (8, 169, 95) := ⟨lw_i6 (List.mem_of_getElem? (i := 170) rfl), by decide⟩
theorem am_mk_260 : am_MK (8, 170, 208) := ⟨lw_i3 (List.mem_of_getElem? (i := 213) rfl), by decide⟩
theorem am_mk_261 : am_MK (8, 173, 96) := ⟨lw_i6 (List.mem_of_getElem? (i := 174) rfl), by decide⟩
theorem am_mk_262 : am_MK (8, 174, 209) := ⟨lw_i3 (List.mem_of_getElem? (i := 217) rfl), by decide⟩
theorem am_mk_263 : am_MK (8, 177, 97) := ⟨lw_i6 (List.mem_of_getElem? (i := 178) rfl), by decide⟩
theorem am_mk_264 : am_MK (8, 178, 215) := ⟨lw_i4 (List.mem_of_getElem? (i := 5) rfl), by decide⟩
theorem am_mk_265 : am_MK (8, 181, 129) := ⟨lw_i7 (List.mem_of_getElem? (i := 67) rfl), by decide⟩
theorem am_mk_266 : am_MK (8, 182, 198) := ⟨lw_i3 (List.mem_of_getElem? (i := 166) rfl), by decide⟩
theorem am_mk_267 : am_MK (8, 186, 65) := ⟨lw_i5 (List.mem_of_getElem? (i := 211) rfl), by decide⟩
theorem am_mk_268 : am_MK (8, 187, 199) := ⟨lw_i3 (List.mem_of_getElem? (i := 170) rfl), by decide⟩
theorem am_mk_269 : am_MK (8, 191, 130) := ⟨lw_i7 (List.mem_of_getElem? (i := 71) rfl), by decide⟩
theorem am_mk_270 : am_MK (8, 192, 205) := ⟨lw_i3 (List.mem_of_getElem? (i := 201) rfl), by decide⟩
theorem am_mk_271 : am_MK (8, 195, 132) := ⟨lw_i7 (List.mem_of_getElem? (i := 75) rfl), by decide⟩
set_option maxRecDepth 100000 in
theorem am_mk_all : ∀ q ∈ am_mk, am_MK q := List.forall_mem_cons.mpr ⟨am_mk_0, List.forall_mem_cons.mpr ⟨am_mk_1, List.forall_mem_cons.mpr ⟨am_mk_2, List.forall_mem_cons.mpr ⟨am_mk_3, List.forall_mem_cons.mpr ⟨am_mk_4, List.forall_mem_cons.mpr ⟨am_mk_5, List.forall_mem_cons.mpr ⟨am_mk_6, List.forall_mem_cons.mpr ⟨am_mk_7, List.forall_mem_cons.mpr ⟨am_mk_8, List.forall_mem_cons.mpr ⟨am_mk_9, List.forall_mem_cons.mpr ⟨am_mk_10, List.forall_mem_cons.mpr ⟨am_mk_11, List.forall_mem_cons.mpr ⟨am_mk_12, List.forall_mem_cons.mpr ⟨am_mk_13, List.forall_mem_cons.mpr ⟨am_mk_14, List.forall_mem_cons.mpr ⟨am_mk_15, List.forall_mem_cons.mpr ⟨am_mk_16, List.forall_mem_cons.mpr ⟨am_mk_17, List.forall_mem_cons.mpr ⟨am_mk_18, List.forall_mem_cons.mpr ⟨am_mk_19, List.forall_mem_cons.mpr ⟨am_mk_20, List.forall_mem_cons.mpr ⟨am_mk_21, List.forall_mem_cons.mpr ⟨am_mk_22, List.forall_mem_cons.mpr ⟨am_mk_23, List.forall_mem_cons.mpr ⟨am_mk_24, List.forall_mem_cons.mpr ⟨am_mk_25, List.forall_mem_cons.mpr ⟨am_mk_26, List.forall_mem_cons.mpr ⟨am_mk_27, List.forall_mem_cons.mpr ⟨am_mk_28, List.forall_mem_cons.mpr ⟨am_mk_29, List.forall_mem_cons.mpr ⟨am_mk_30, List.forall_mem_cons.mpr ⟨am_mk_31, List.forall_mem_cons.mpr ⟨am_mk_32, List.forall_mem_cons.mpr ⟨am_mk_33, List.forall_mem_cons.mpr ⟨am_mk_34, List.forall_mem_cons.mpr ⟨am_mk_35, List.forall_mem_cons.mpr ⟨am_mk_36, List.forall_mem_cons.mpr ⟨am_mk_37, List.forall_mem_cons.mpr ⟨am_mk_38, List.forall_mem_cons.mpr ⟨am_mk_39, List.forall_mem_cons.mpr ⟨am_mk_40, List.forall_mem_cons.mpr ⟨am_mk_41, List.forall_mem_cons.mpr ⟨am_mk_42, List.forall_mem_cons.mpr ⟨am_mk_43, List.forall_mem_cons.mpr ⟨am_mk_44, List.forall_mem_cons.mpr ⟨am_mk_45, List.forall_mem_cons.mpr ⟨am_mk_46, List.forall_mem_cons.mpr ⟨am_mk_47, List.forall_mem_cons.mpr ⟨am_mk_48, List.forall_mem_cons.mpr ⟨am_mk_49, List.forall_mem_cons.mpr ⟨am_mk_50, List.forall_mem_cons.mpr ⟨am_mk_51, List.forall_mem_cons.mpr ⟨am_mk_52, List.forall_mem_cons.mpr ⟨am_mk_53, List.forall_mem_cons.mpr ⟨am_mk_54, List.forall_mem_cons.mpr ⟨am_mk_55, List.forall_mem_cons.mpr ⟨am_mk_56, List.forall_mem_cons.mpr ⟨am_mk_57, List.forall_mem_cons.mpr ⟨am_mk_58, List.forall_mem_cons.mpr ⟨am_mk_59, List.forall_mem_cons.mpr ⟨am_mk_60, List.forall_mem_cons.mpr ⟨am_mk_61, List.forall_mem_cons.mpr ⟨am_mk_62, List.forall_mem_cons.mpr ⟨am_mk_63, List.forall_mem_cons.mpr ⟨am_mk_64, List.forall_mem_cons.mpr ⟨am_mk_65, List.forall_mem_cons.mpr ⟨am_mk_66, List.forall_mem_cons.mpr ⟨am_mk_67, List.forall_mem_cons.mpr ⟨am_mk_68, List.forall_mem_cons.mpr ⟨am_mk_69, List.forall_mem_cons.mpr ⟨am_mk_70, List.forall_mem_cons.mpr ⟨am_mk_71, List.forall_mem_cons.mpr ⟨am_mk_72, List.forall_mem_cons.mpr ⟨am_mk_73, List.forall_mem_cons.mpr ⟨am_mk_74, List.forall_mem_cons.mpr ⟨am_mk_75, List.forall_mem_cons.mpr ⟨am_mk_76, List.forall_mem_cons.mpr ⟨am_mk_77, List.forall_mem_cons.mpr ⟨am_mk_78, List.forall_mem_cons.mpr ⟨am_mk_79, List.forall_mem_cons.mpr ⟨am_mk_80, List.forall_mem_cons.mpr ⟨am_mk_81, List.forall_mem_cons.mpr ⟨am_mk_82, List.forall_mem_cons.mpr ⟨am_mk_83, List.forall_mem_cons.mpr ⟨am_mk_84, List.forall_mem_cons.mpr ⟨am_mk_85, List.forall_mem_cons.mpr ⟨am_mk_86, List.forall_mem_cons.mpr ⟨am_mk_87, List.forall_mem_cons.mpr ⟨am_mk_88, List.forall_mem_cons.mpr ⟨am_mk_89, List.forall_mem_cons.mpr ⟨am_mk_90, List.forall_mem_cons.mpr ⟨am_mk_91, List.forall_mem_cons.mpr ⟨am_mk_92, List.forall_mem_cons.mpr ⟨am_mk_93, List.forall_mem_cons.mpr ⟨am_mk_94, List.forall_mem_cons.mpr ⟨am_mk_95, List.forall_mem_cons.mpr ⟨am_mk_96, List.forall_mem_cons.mpr ⟨am_mk_97, List.forall_mem_cons.mpr ⟨am_mk_98, List.forall_mem_cons.mpr ⟨am_mk_99, List.forall_mem_cons.mpr ⟨am_mk_100, List.forall_mem_cons.mpr ⟨am_mk_101, List.forall_mem_cons.mpr ⟨am_mk_102, List.forall_mem_cons.mpr ⟨am_mk_103, List.forall_mem_cons.mpr ⟨am_mk_104, List.forall_mem_cons.mpr ⟨am_mk_105, List.forall_mem_cons.mpr ⟨am_mk_106, List.forall_mem_cons.mpr ⟨am_mk_107, List.forall_mem_cons.mpr ⟨am_mk_108, List.forall_mem_cons.mpr ⟨am_mk_109, List.forall_mem_cons.mpr ⟨am_mk_110, List.forall_mem_cons.mpr ⟨am_mk_111, List.forall_mem_cons.mpr ⟨am_mk_112, List.forall_mem_cons.mpr ⟨am_mk_113, List.forall_mem_cons.mpr ⟨am_mk_114, List.forall_mem_cons.mpr ⟨am_mk_115, List.forall_mem_cons.mpr ⟨am_mk_116, List.forall_mem_cons.mpr ⟨am_mk_117, List.forall_mem_cons.mpr ⟨am_mk_118, List.forall_mem_cons.mpr ⟨am_mk_119, List.forall_mem_cons.mpr ⟨am_mk_120, List.forall_mem_cons.mpr ⟨am_mk_121, List.forall_mem_cons.mpr ⟨am_mk_122, List.forall_mem_cons.mpr ⟨am_mk_123, List.forall_mem_cons.mpr ⟨am_mk_124, List.forall_mem_cons.mpr ⟨am_mk_125, List.forall_mem_cons.mpr ⟨am_mk_126, List.forall_mem_cons.mpr ⟨am_mk_127, List.forall_mem_cons.mpr ⟨am_mk_128, List.forall_mem_cons.mpr ⟨am_mk_129, List.forall_mem_cons.mpr ⟨am_mk_130, List.forall_mem_cons.mpr ⟨am_mk_131, List.forall_mem_cons.mpr ⟨am_mk_132, List.forall_mem_cons.mpr ⟨am_mk_133, List.forall_mem_cons.mpr ⟨am_mk_134, List.forall_mem_cons.mpr ⟨am_mk_135, List.forall_mem_cons.mpr ⟨am_mk_136, List.forall_mem_cons.mpr ⟨am_mk_137, List.forall_mem_cons.mpr ⟨am_mk_138, List.forall_mem_cons.mpr ⟨am_mk_139, List.forall_mem_cons.mpr ⟨am_mk_140, List.forall_mem_cons.mpr ⟨am_mk_141, List.forall_mem_cons.mpr ⟨am_mk_142, List.forall_mem_cons.mpr ⟨am_mk_143, List.forall_mem_cons.mpr ⟨am_mk_144, List.forall_mem_cons.mpr ⟨am_mk_145, List.forall_mem_cons.mpr ⟨am_mk_146, List.forall_mem_cons.mpr ⟨am_mk_147, List.forall_mem_cons.mpr ⟨am_mk_148, List.forall_mem_cons.mpr ⟨am_mk_149, List.forall_mem_cons.mpr ⟨am_mk_150, List.forall_mem_cons.mpr ⟨am_mk_151, List.forall_mem_cons.mpr ⟨am_mk_152, List.forall_mem_cons.mpr ⟨am_mk_153, List.forall_mem_cons.mpr ⟨am_mk_154, List.forall_mem_cons.mpr ⟨am_mk_155, List.forall_mem_cons.mpr ⟨am_mk_156, List.forall_mem_cons.mpr ⟨am_mk_157, List.forall_mem_cons.mpr ⟨am_mk_158, List.forall_mem_cons.mpr ⟨am_mk_159, List.forall_mem_cons.mpr ⟨am_mk_160, List.forall_mem_cons.mpr ⟨am_mk_161, List.forall_mem_cons.mpr ⟨am_mk_162, List.forall_mem_cons.mpr ⟨am_mk_163, List.forall_mem_cons.mpr ⟨am_mk_164, List.forall_mem_cons.mpr ⟨am_mk_165, List.forall_mem_cons.mpr ⟨am_mk_166, List.forall_mem_cons.mpr ⟨am_mk_167, List.forall_mem_cons.mpr ⟨am_mk_168, List.forall_mem_cons.mpr ⟨am_mk_169, List.forall_mem_cons.mpr ⟨am_mk_170, List.forall_mem_cons.mpr ⟨am_mk_171, List.forall_mem_cons.mpr ⟨am_mk_172, List.forall_mem_cons.mpr ⟨am_mk_173, List.forall_mem_cons.mpr ⟨am_mk_174, List.forall_mem_cons.mpr ⟨am_mk_175, List.forall_mem_cons.mpr ⟨am_mk_176, List.forall_mem_cons.mpr ⟨am_mk_177, List.forall_mem_cons.mpr ⟨am_mk_178, List.forall_mem_cons.mpr ⟨am_mk_179, List.forall_mem_cons.mpr ⟨am_mk_180, List.forall_mem_cons.mpr ⟨am_mk_181, List.forall_mem_cons.mpr ⟨am_mk_182, List.forall_mem_cons.mpr ⟨am_mk_183, List.forall_mem_cons.mpr ⟨am_mk_184, List.forall_mem_cons.mpr ⟨am_mk_185, List.forall_mem_cons.mpr ⟨am_mk_186, List.forall_mem_cons.mpr ⟨am_mk_187, List.forall_mem_cons.mpr ⟨am_mk_188, List.forall_mem_cons.mpr ⟨am_mk_189, List.forall_mem_cons.mpr ⟨am_mk_190, List.forall_mem_cons.mpr ⟨am_mk_191, List.forall_mem_cons.mpr ⟨am_mk_192, List.forall_mem_cons.mpr ⟨am_mk_193, List.forall_mem_cons.mpr ⟨am_mk_194, List.forall_mem_cons.mpr ⟨am_mk_195, List.forall_mem_cons.mpr ⟨am_mk_196, List.forall_mem_cons.mpr ⟨am_mk_197, List.forall_mem_cons.mpr ⟨am_mk_198, List.forall_mem_cons.mpr ⟨am_mk_199, List.forall_mem_cons.mpr ⟨am_mk_200, List.forall_mem_cons.mpr ⟨am_mk_201, List.forall_mem_cons.mpr ⟨am_mk_202, List.forall_mem_cons.mpr ⟨am_mk_203, List.forall_mem_cons.mpr ⟨am_mk_204, List.forall_mem_cons.mpr ⟨am_mk_205, List.forall_mem_cons.mpr ⟨am_mk_206, List.forall_mem_cons.mpr ⟨am_mk_207, List.forall_mem_cons.mpr ⟨am_mk_208, List.forall_mem_cons.mpr ⟨am_mk_209, List.forall_mem_cons.mpr ⟨am_mk_210, List.forall_mem_cons.mpr ⟨am_mk_211, List.forall_mem_cons.mpr ⟨am_mk_212, List.forall_mem_cons.mpr ⟨am_mk_213, List.forall_mem_cons.mpr ⟨am_mk_214, List.forall_mem_cons.mpr ⟨am_mk_215, List.forall_mem_cons.mpr ⟨am_mk_216, List.forall_mem_cons.mpr ⟨am_mk_217, List.forall_mem_cons.mpr ⟨am_mk_218, List.forall_mem_cons.mpr ⟨am_mk_219, List.forall_mem_cons.mpr ⟨am_mk_220, List.forall_mem_cons.mpr ⟨am_mk_221, List.forall_mem_cons.mpr ⟨am_mk_222, List.forall_mem_cons.mpr ⟨am_mk_223, List.forall_mem_cons.mpr ⟨am_mk_224, List.forall_mem_cons.mpr ⟨am_mk_225, List.forall_mem_cons.mpr ⟨am_mk_226, List.forall_mem_cons.mpr ⟨am_mk_227, List.forall_mem_cons.mpr ⟨am_mk_228, List.forall_mem_cons.mpr ⟨am_mk_229, List.forall_mem_cons.mpr ⟨am_mk_230, List.forall_mem_cons.mpr ⟨am_mk_231, List.forall_mem_cons.mpr ⟨am_mk_232, List.forall_mem_cons.mpr ⟨am_mk_233, List.forall_mem_cons.mpr ⟨am_mk_234, List.forall_mem_cons.mpr ⟨am_mk_235, List.forall_mem_cons.mpr ⟨am_mk_236, List.forall_mem_cons.mpr ⟨am_mk_237, List.forall_mem_cons.mpr ⟨am_mk_238, List.forall_mem_cons.mpr ⟨am_mk_239, List.forall_mem_cons.mpr ⟨am_mk_240, List.forall_mem_cons.mpr ⟨am_mk_241, List.forall_mem_cons.mpr ⟨am_mk_242, List.forall_mem_cons.mpr ⟨am_mk_243, List.forall_mem_cons.mpr ⟨am_mk_244, List.forall_mem_cons.mpr ⟨am_mk_245, List.forall_mem_cons.mpr ⟨am_mk_246, List.forall_mem_cons.mpr ⟨am_mk_247, List.forall_mem_cons.mpr ⟨am_mk_248, List.forall_mem_cons.mpr ⟨am_mk_249, List.forall_mem_cons.mpr ⟨am_mk_250, List.forall_mem_cons.mpr ⟨am_mk_251, List.forall_mem_cons.mpr ⟨am_mk_252, List.forall_mem_cons.mpr ⟨am_mk_253, List.forall_mem_cons.mpr ⟨am_mk_254, List.forall_mem_cons.mpr ⟨am_mk_255, List.forall_mem_cons.mpr ⟨am_mk_256, List.forall_mem_cons.mpr ⟨am_mk_257, List.forall_mem_cons.mpr ⟨am_mk_258, List.forall_mem_cons.mpr ⟨am_mk_259, List.forall_mem_cons.mpr ⟨am_mk_260, List.forall_mem_cons.mpr ⟨am_mk_261, List.forall_mem_cons.mpr ⟨am_mk_262, List.forall_mem_cons.mpr ⟨am_mk_263, List.forall_mem_cons.mpr ⟨am_mk_264, List.forall_mem_cons.mpr ⟨am_mk_265, List.forall_mem_cons.mpr ⟨am_mk_266, List.forall_mem_cons.mpr ⟨am_mk_267, List.forall_mem_cons.mpr ⟨am_mk_268, List.forall_mem_cons.mpr ⟨am_mk_269, List.forall_mem_cons.mpr ⟨am_mk_270, List.forall_mem_cons.mpr ⟨am_mk_271, fun _ h => absurd h List.not_mem_nil⟩⟩⟩⟩⟩⟩⟩⟩⟩⟩⟩⟩⟩⟩⟩⟩⟩⟩⟩⟩⟩⟩⟩⟩⟩⟩⟩⟩⟩⟩⟩⟩⟩⟩⟩⟩⟩⟩⟩⟩⟩⟩⟩⟩⟩⟩⟩⟩⟩⟩⟩⟩⟩⟩⟩⟩⟩⟩⟩⟩⟩⟩⟩⟩⟩⟩⟩⟩⟩⟩⟩⟩⟩⟩⟩⟩⟩⟩⟩⟩⟩⟩⟩⟩⟩⟩⟩⟩⟩⟩⟩⟩⟩⟩⟩⟩⟩⟩⟩⟩⟩⟩⟩⟩⟩⟩⟩⟩⟩⟩⟩⟩⟩⟩⟩⟩⟩⟩⟩⟩⟩⟩⟩⟩⟩⟩⟩⟩⟩⟩⟩⟩⟩⟩⟩⟩⟩⟩⟩⟩⟩⟩⟩⟩⟩⟩⟩⟩⟩⟩⟩⟩⟩⟩⟩⟩⟩⟩⟩⟩⟩⟩⟩⟩⟩⟩⟩⟩⟩⟩⟩⟩⟩⟩⟩⟩⟩⟩⟩⟩⟩⟩⟩⟩⟩⟩⟩⟩⟩⟩⟩⟩⟩⟩⟩⟩⟩⟩⟩⟩⟩⟩⟩⟩⟩⟩⟩⟩⟩⟩⟩⟩⟩⟩⟩⟩⟩⟩⟩⟩⟩⟩⟩⟩⟩⟩⟩⟩⟩⟩⟩⟩⟩⟩⟩⟩⟩⟩⟩⟩⟩⟩⟩⟩⟩⟩⟩⟩⟩⟩⟩⟩⟩⟩⟩⟩⟩⟩⟩⟩⟩⟩⟩⟩⟩⟩⟩⟩⟩⟩⟩⟩
end
section
/-! SOUND: each instruction of the abstract machine is one of the real machine -/
def am_rv (ad : Nat → Nat) (vF : Value) (a : Nat) : Value := if a = 204 then vF else .ref (ad a)
def am_enc (ad : Nat → Nat) (vF : Value) (v : am_V) : Value := match v with
  | .inl x => .int (Int32.ofInt x)
  | .inr a => am_rv ad vF a
def am_vok (v : am_V) : Prop := match v with
  | .inl x => am_in x
  | .inr _ => True
def am_mok (C M : am_M) : Prop := (∀ a i, am_in (M a i)) ∧ ∀ a, 199 ≤ a → M a = C a
def am_tys (cA : Nat → ClassId) : List (ClassId × FieldType) := [(cA 9, .int), (cA 10, .char), (cA 11, .object "LentHands$World"), (cA 14, .object "LentHands$Law")]
def am_lok (ad : Nat → Nat) (vF : Value) (ls : List (Option am_V)) (L : Array Slot) : Prop := L.size = ls.length ∧ lv_wf L ∧ ∀ (k : Nat) (v : am_V), ls[k]? = some (some v) → L[k]? = some (.val (am_enc ad vF v)) ∧ am_vok v
def am_St (ad : Nat → Nat) (vF : Value) (C : am_M) (U : State) (H : Heap) : Prop :=
  (∀ i, 200 ≤ i → i < 203 → va_Z "LentHands" (am_GN i) "[I" (.ref (ad i)) (am_A ad) U H) ∧
  (∀ i, 200 ≤ i → i < 204 → va_T .int (ad i) (am_len C i).toNat (fun j => .int (Int32.ofInt (C i j))) (am_A ad) U H ∧ 0 ≤ am_len C i) ∧
  va_Z "java/lang/String" "COMPACT_STRINGS" "Z" (.int 1) (am_A ad) U H ∧
  va_Z "jdk/internal/util/Preconditions" "SIOOBE_FORMATTER" "Ljava/util/function/BiFunction;" vF (am_A ad) U H ∧
  (∀ i, i < 36 → va_O "java/lang/String" (ad (300 + i)) (am_A ad) U H ∧ va_OF "java/lang/String" "coder" "B" (.int 0) (ad (300 + i)) (am_A ad) U H ∧ va_OF "java/lang/String" "value" "[B" (.ref (ad (400 + i))) (ad (300 + i)) (am_A ad) U H ∧ va_T .byte (ad (400 + i)) (am_len C (400 + i)).toNat (fun j => .int (Int32.ofInt (C (400 + i) j))) (am_A ad) U H ∧ C (300 + i) 0 = 0) ∧
  (∀ q ∈ am_sl, ∃ tx : String, vk_R (am_cn q.1) q.2.1 tx (ad q.2.2) U ∧ ¬ q.2.2 = 204) ∧
  (∀ q ∈ am_gl, va_Nw (.fieldLinkNest (am_cn q.1) q.2.1 "LentHands" (am_GN q.2.2) "[I" "LentHands") U)
def am_Cx (p : Program) (R : Room) (s : State) (m : MethodId) (args : Array Value) (c : Code) (cells slots : Nat) (D : va_G) (ad : Nat → Nat) (cA : Nat → ClassId) (vF : Value) (C : am_M) (own nL : Nat) (cc : ByteArray) : Prop :=
  p.tables.exec = Jvm.exec ∧ c.code = cc ∧ c.maxLocals = nL ∧ s.vm.findClass (am_cn own) = some m.cls ∧ (∀ w ∈ lw_gd, w.before args s = true) ∧ va_K D vwCl (am_tys cA) s ∧ am_St ad vF C s s.heap ∧ (∀ i j, i < 199 → j < 199 → ad i = ad j → i = j) ∧ (vF = .null ∨ ∃ x, vF = .ref x) ∧ 1 ≤ R.frames ∧ nativeFrameWords "java/lang/System" "arraycopy" 5 + 11 ≤ R.locals ∧ 21 ≤ R.locals ∧ cells ≤ R.cells ∧ slots ≤ R.slots
def am_Go (p : Program) (l : Launch) (e : Env) (R : Room) (s : State) (m : MethodId) (args : Array Value) (below : List Frame) (meth : Method) (c : Code) (cells slots : Nat) (Q : State → Prop) (D : va_G) (ad : Nat → Nat) (cA : Nat → ClassId) (vF : Value) (C : am_M) (nL : Nat) (bp : Nat) (ls : List (Option am_V)) (st : List am_V) (M : am_M) : Prop :=
  ls.length = nL → (∀ v ∈ st, am_vok v) → am_mok C M → ∀ (H : Heap) (locs : List Loc) (L : Array Slot), am_lok ad vF ls L → va_P D vwCl (am_ws ad cA M) H → va_S (am_A ad) s.heap H locs → W p l e R s m args below meth c H locs cells slots Q (F0 m bp L (st.map (am_enc ad vF)))
def am_SS (p : Program) (l : Launch) (e : Env) (R : Room) (s : State) (m : MethodId) (args : Array Value) (below : List Frame) (meth : Method) (c : Code) (cells slots : Nat) (Q : State → Prop) (D : va_G) (ad : Nat → Nat) (cA : Nat → ClassId) (vF : Value) (C : am_M) (own rt nL : Nat) (cc : ByteArray) (ps : List Nat) (call : Nat → List am_V → am_M → am_R) (res : Int × am_M) (ai : am_I) : Prop :=
  ∀ bp nx, am_dec own rt cc ps bp nx ai = true → ∀ ls st M ks kj, am_stp am_cls am_rf am_len call ai ls st M ks kj = some res → (∀ l' s' m', ks l' s' m' = some res → am_Go p l e R s m args below meth c cells slots Q D ad cA vF C nL nx l' s' m') → (∀ t l' s' m', kj t l' s' m' = some res → am_Go p l e R s m args below meth c cells slots Q D ad cA vF C nL (ps.getD t 0) l' s' m') → am_Go p l e R s m args below meth c cells slots Q D ad cA vF C nL bp ls st M
theorem am_no {res : Int × am_M} (h : (none : am_R) = some res) : False := by cases h
theorem am_vtl {v : am_V} {st : List am_V} (h : ∀ w ∈ v :: st, am_vok w) : ∀ w ∈ st, am_vok w := fun w hw => h w (List.mem_cons_of_mem _ hw)
theorem am_vc {v : am_V} {st : List am_V} (h : am_vok v) (hs : ∀ w ∈ st, am_vok w) : ∀ w ∈ v :: st, am_vok w := fun w hw => (List.mem_cons.mp hw).elim (fun e => e ▸ h) (hs w)
theorem am_and {a b : Bool} (h : (a && b) = true) : a = true ∧ b = true := by simpa using h
theorem am_d1_ok {cc : ByteArray} {bp nx n : Nat} {ins : Jvm.ClassFile.Instr} (h : am_d1 cc bp nx ins n = true) : decode cc bp = .ok (ins, n) ∧ nx = bp + n := by
  obtain ⟨h1, h2⟩ := am_and h
  exact ⟨of_decide_eq_true h1, Nat.eq_of_beq_eq_true h2⟩
theorem am_mem {α : Type} [BEq α] [LawfulBEq α] {a : α} {l : List α} (h : l.contains a = true) : a ∈ l := List.contains_iff_mem.mp h
theorem am_chk_some {c : Prop} [Decidable c] {x : am_R} {res : Int × am_M} (h : am_chk c x = some res) : c ∧ x = some res := by
  unfold am_chk at h
  split at h
  · rename_i q; exact ⟨q, h⟩
  · cases h
theorem am_cond_some {b : Bool} {x : am_R} {res : Int × am_M} (h : cond b x none = some res) : b = true ∧ x = some res := by
  cases b with
  | true => exact ⟨rfl, h⟩
  | false => cases h
theorem am_lo_some {o : Option (Option am_V)} {f : am_V → am_R} {res : Int × am_M} (h : am_lo o f = some res) : ∃ v, o = some (some v) ∧ f v = some res := by
  match o, h with
  | some (some v), h => exact ⟨v, rfl, h⟩
theorem am_vi_some {v : am_V} {f : Int → am_R} {res : Int × am_M} (h : am_vi v f = some res) : ∃ x, v = .inl x ∧ f x = some res := by
  match v, h with
  | .inl x, h => exact ⟨x, rfl, h⟩
theorem am_put_some {b : Nat} {x : Int} {o : am_R} {res : Int × am_M} (h : am_ret (b % 2) x o = some res) : (Nat.beq (b % 2) 1 = true → x = 0 ∨ x = 1) ∧ o = some res := by
  rcases Nat.mod_two_eq_zero_or_one b with e | e
  · rw [e] at h ⊢
    exact ⟨fun q => (by cases q), h⟩
  · rw [e] at h ⊢
    obtain ⟨h1, h2⟩ := am_chk_some h
    exact ⟨fun _ => h1, h2⟩
theorem am_topI {p : Program} {l : Launch} {e : Env} {R : Room} {s : State} {m : MethodId} {args : Array Value} {below : List Frame} {meth : Method} {c : Code} {H : Heap} {locs : List Loc} {cells slots : Nat} {Q : State → Prop} {pc : Nat} {ls : Array Slot} {rest : List Value} {x y : Int32} (h : x = y) (k : W p l e R s m args below meth c H locs cells slots Q (F0 m pc ls (.int x :: rest))) : W p l e R s m args below meth c H locs cells slots Q (F0 m pc ls (.int y :: rest)) := h ▸ k
theorem am_rv_or {ad : Nat → Nat} {vF : Value} (h : vF = .null ∨ ∃ x, vF = .ref x) (a : Nat) : am_rv ad vF a = .null ∨ ∃ y, am_rv ad vF a = .ref y := by
  unfold am_rv
  split
  · exact h
  · exact Or.inr ⟨_, rfl⟩
theorem am_enc_cat {ad : Nat → Nat} {vF : Value} (h : vF = .null ∨ ∃ x, vF = .ref x) (v : am_V) : (am_enc ad vF v).category = 1 := by
  cases v with
  | inl x => rfl
  | inr a =>
    show (am_rv ad vF a).category = 1
    rcases am_rv_or (ad := ad) h a with e | ⟨y, e⟩ <;> rw [e] <;> rfl
theorem am_f4 {n : Nat} (h : decide (n < 4) = true) : ((Fin.ofNat 4 n : Fin 4) : Nat) = n := Nat.mod_eq_of_lt (of_decide_eq_true h)
/-- the locals that are known, as the kit's list -/
def am_lv (ad : Nat → Nat) (vF : Value) (ls : List (Option am_V)) : List (Nat × Value) := (List.range ls.length).filterMap (fun k => match ls[k]? with
  | some (some v) => some (k, am_enc ad vF v)
  | _ => none)
theorem am_lv_mem {ad : Nat → Nat} {vF : Value} {ls : List (Option am_V)} {q : Nat × Value} : q ∈ am_lv ad vF ls ↔ ∃ v, ls[q.1]? = some (some v) ∧ q.2 = am_enc ad vF v := by
  unfold am_lv
  rw [List.mem_filterMap]
  constructor
  · rintro ⟨k, -, h⟩
    split at h
    · rename_i v hv
      cases h
      exact ⟨v, hv, rfl⟩
    · cases h
  · rintro ⟨v, h1, h2⟩
    refine ⟨q.1, List.mem_range.mpr (List.getElem?_eq_some_iff.mp h1).1, ?_⟩
    rw [h1]
    exact congrArg some (Prod.ext rfl h2.symm)
theorem am_lv_at {ad : Nat → Nat} {vF : Value} {ls : List (Option am_V)} {n : Nat} {v : am_V} (h : ls[n]? = some (some v)) : ∃ i : Nat, (am_lv ad vF ls)[i]? = some (n, am_enc ad vF v) := List.mem_iff_getElem?.mp (am_lv_mem.mpr ⟨v, h, rfl⟩)
theorem am_lok_has {ad : Nat → Nat} {vF : Value} {ls : List (Option am_V)} {L : Array Slot} (_ : vF = .null ∨ ∃ x, vF = .ref x) (h : am_lok ad vF ls L) : lv_has L ls.length (am_lv ad vF ls) := by
  refine ⟨h.1, h.2.1, fun q hq => ?_⟩
  obtain ⟨v, h1, h2⟩ := am_lv_mem.mp hq
  rw [h2]
  exact (h.2.2 _ _ h1).1
theorem am_lok_set {ad : Nat → Nat} {vF : Value} {ls : List (Option am_V)} {L L' : Array Slot} {n : Nat} {v : am_V} (hF : vF = .null ∨ ∃ x, vF = .ref x) (h : am_lok ad vF ls L) (hn : n < ls.length) (hv : am_vok v) (h' : lv_has L' ls.length ((n, am_enc ad vF v) :: (am_lv ad vF ls).filter (fun q => !(q.1 == n) && !(q.1 + 1 == n && q.2.category == 2)))) : am_lok ad vF (ls.set n (some v)) L' := by
  refine ⟨by rw [List.length_set]; exact h'.1, h'.2.1, fun k w hk => ?_⟩
  rw [List.getElem?_set] at hk
  by_cases e : n = k
  · subst e
    rw [if_pos rfl, if_pos hn] at hk
    cases hk
    exact ⟨h'.2.2 (n, am_enc ad vF v) List.mem_cons_self, hv⟩
  · rw [if_neg e] at hk
    refine ⟨h'.2.2 (k, am_enc ad vF w) (List.mem_cons_of_mem _ (List.mem_filter.mpr ⟨am_lv_mem.mpr ⟨w, hk, rfl⟩, ?_⟩)), (h.2.2 _ _ hk).2⟩
    have h1 : (k == n) = false := by simpa using fun q => e q.symm
    have h2 : ((am_enc ad vF w).category == 2) = false := by rw [am_enc_cat hF w]; rfl
    simp [h1, h2]
theorem am_off_ok (ps : List Nat) (bp : Nat) (t : Int) : (bp : Int) + am_off ps bp t = ((ps.getD t.toNat 0 : Nat) : Int) := by
  unfold am_off
  omega
theorem am_sw_cases {x d : Int} (kj : Nat → am_R) : ∀ (ts : List Int) (lo : Int), ((x < lo ∨ lo + ts.length ≤ x) ∧ am_sw x d kj lo ts = kj d.toNat) ∨ ∃ (i : Nat) (t : Int), x = lo + i ∧ ts[i]? = some t ∧ am_sw x d kj lo ts = kj t.toNat := by
  intro ts
  induction ts with
  | nil => intro lo; exact Or.inl ⟨by simp; omega, rfl⟩
  | cons t ts ih =>
    intro lo
    by_cases h : x = lo
    · exact Or.inr ⟨0, t, by omega, rfl, by simp [am_sw, h]⟩
    · rcases ih (lo + 1) with ⟨g1, g2⟩ | ⟨i, u, g1, g2, g3⟩
      · refine Or.inl ⟨?_, by simp [am_sw, h, g2]⟩
        simp only [List.length_cons]
        omega
      · exact Or.inr ⟨i + 1, u, by omega, by simpa using g2, by simp [am_sw, h, g3]⟩
theorem am_swl_cases (f : Int → Int) (x d : Int) (kj : Nat → am_R) : ∀ ts : List (Int × Int), ∃ t : Int, Op.lookupswitch.offset (ts.map (fun q => (q.1, f q.2))) (f d) x = f t ∧ am_swl x d kj ts = kj t.toNat := by
  intro ts
  induction ts with
  | nil => exact ⟨d, rfl, rfl⟩
  | cons q ts ih =>
    obtain ⟨v, t⟩ := q
    by_cases h : x = v
    · exact ⟨t, by simp [Op.lookupswitch.offset, h], by simp [am_swl, h]⟩
    · obtain ⟨u, g1, g2⟩ := ih
      refine ⟨u, ?_, by simp [am_swl, h, g2]⟩
      rw [← g1]
      simp only [Op.lookupswitch.offset, List.map_cons]
      exact if_neg (fun q => h q.symm)
theorem am_sorted (f : Int → Int) : ∀ ts : List (Int × Int), (ts.zip (ts.drop 1)).all (fun (a, next) => a.1 < next.1) = true → ((ts.map (fun q => (q.1, f q.2))).zip ((ts.map (fun q => (q.1, f q.2))).drop 1)).all (fun (a, next) => a.1 < next.1) = true := by
  intro ts h
  rw [← List.map_drop, List.zip_map]
  rw [List.all_map]
  exact h
theorem am_cls_big {a : Nat} (h : 436 ≤ a) : am_cls a = 15 := by
  have f : ∀ n, n < 436 → Nat.ble a n = false := by
    intro n hn
    rw [← Bool.not_eq_true]; intro q; have := Nat.le_of_ble_eq_true q; omega
  unfold am_cls
  rw [f 255 (by omega), f 299 (by omega), f 335 (by omega), f 399 (by omega), f 435 (by omega)]
  rfl
theorem am_str {a : Nat} (h : am_cls a = 8) : ∃ i, i < 36 ∧ a = 300 + i := by
  rcases Nat.lt_or_ge a 436 with h1 | h1
  · have key : ∀ b, b < 436 → am_cls b = 8 → 300 ≤ b ∧ b < 336 := by decide +kernel
    have := key a h1 h
    exact ⟨a - 300, by omega, by omega⟩
  · exact absurd h (by rw [am_cls_big h1]; decide)
theorem am_byt {a : Nat} (h : am_cls a = 13) : ∃ i, i < 36 ∧ a = 400 + i := by
  rcases Nat.lt_or_ge a 436 with h1 | h1
  · have key : ∀ b, b < 436 → am_cls b = 13 → 400 ≤ b ∧ b < 436 := by decide +kernel
    have := key a h1 h
    exact ⟨a - 400, by omega, by omega⟩
  · exact absurd h (by rw [am_cls_big h1]; decide)
theorem am_stt {a : Nat} (h : am_cls a = 12) : 200 ≤ a ∧ a < 204 := by
  rcases Nat.lt_or_ge a 436 with h1 | h1
  · have key : ∀ b, b < 436 → am_cls b = 12 → 200 ≤ b ∧ b < 204 := by decide +kernel
    exact key a h1 h
  · exact absurd h (by rw [am_cls_big h1]; decide)
theorem am_own_k : ∀ a, a < 199 → am_cls a < 12 ∨ am_cls a = 14 := by decide +kernel
theorem am_nf_ok {ci : Nat} {Cn : String} {T : u_T} {N : Nat} (h : vwCl[ci]? = some (Cn, T, N)) : N = am_nf ci := by
  match ci, h with
  | 0, h => cases h; rfl
  | 1, h => cases h; rfl
  | 2, h => cases h; rfl
  | 3, h => cases h; rfl
  | 4, h => cases h; rfl
  | 5, h => cases h; rfl
  | 6, h => cases h; rfl
  | 7, h => cases h; rfl
  | k + 8, h => simp [vwCl] at h
theorem am_fs_get {ad : Nat → Nat} {M : am_M} {q ci k : Nat} (h : k < am_nf ci) : (am_fs ad M q ci)[k]? = some (am_fld ad M q ci k) := by
  rw [am_fs, List.getElem?_map, List.getElem?_range h]
  rfl
theorem am_ws_o {ad : Nat → Nat} {cA : Nat → ClassId} {M : am_M} {q ci : Nat} (hq : q < 199) (hc : am_cls q = ci) (h8 : ci < 8) : (am_ws ad cA M)[q]? = some (ad q, .inr (ci, am_fs ad M q ci)) := by
  rw [am_ws_get ad cA M hq, am_cell, if_neg (by omega), if_neg (by omega), hc]
theorem am_ws_r {ad : Nat → Nat} {cA : Nat → ClassId} {M : am_M} {q k : Nat} (hq : q < 199) (hc : am_cls q = k) (hk : k = 9 ∨ k = 10) : (am_ws ad cA M)[q]? = some (ad q, .inl (cA k, am_ln q, .inl (am_row M q))) := by
  rw [am_ws_get ad cA M hq, am_cell, if_pos (by omega), hc]
theorem am_ws_q {ad : Nat → Nat} {cA : Nat → ClassId} {M : am_M} {q k : Nat} (hq : q < 199) (hc : am_cls q = k) (hk : k = 11 ∨ k = 14) : (am_ws ad cA M)[q]? = some (ad q, .inl (cA k, am_ln q, .inr (.inr (.inr (.inr (am_rrow ad q)))))) := by
  rw [am_ws_get ad cA M hq, am_cell, if_neg (by omega), if_pos (by omega), hc]
theorem am_ws_D {ad : Nat → Nat} {cA : Nat → ClassId} (h : ∀ i j, i < 199 → j < 199 → ad i = ad j → i = j) (M : am_M) : va_D (am_A ad) (am_ws ad cA M) := by
  have key : ∀ (i : Nat) (q : Nat × va_E), (am_ws ad cA M)[i]? = some q → i < 199 ∧ q.1 = ad i := by
    intro i q hq
    have hi : i < 199 := by
      have := (List.getElem?_eq_some_iff.mp hq).1
      rwa [am_ws_len] at this
    rw [am_ws_get ad cA M hi] at hq
    cases hq
    exact ⟨hi, rfl⟩
  refine ⟨fun i j p q hi hj e => ?_, fun k q hk => ?_⟩
  · obtain ⟨a1, a2⟩ := key i p hi
    obtain ⟨b1, b2⟩ := key j q hj
    exact h i j a1 b1 (by rw [← a2, ← b2]; exact e)
  · obtain ⟨a1, a2⟩ := key k q hk
    exact ⟨k, a1, a2⟩
theorem am_rf_own : ∀ a, a < 199 → ∀ k : Nat, am_isr (am_cls a) k = true → am_rf a k < 199 := by
  have key : ∀ a, a < 199 → ∀ k, k < 36 → am_isr (am_cls a) k = true → am_rf a ((k : Nat) : Int) < 199 := by decide +kernel
  intro a ha k hk
  rcases Nat.lt_or_ge k 36 with h | h
  · exact key a ha k h hk
  · exfalso
    have big : ∀ c, c < 16 → ∀ k, 36 ≤ k → am_isr c k = false := by
      intro c hc k hk
      unfold am_isr
      rw [List.getD_eq_getElem?_getD, List.getElem?_eq_none]
      · rfl
      · have w : ∀ c, c < 16 → (am_isrl.getD c []).length ≤ 36 := by decide +kernel
        exact Nat.le_trans (w c hc) hk
    have hc : am_cls a < 16 := by have := am_own_k a ha; omega
    rw [big _ hc k h] at hk
    cases hk
theorem am_rf_row : ∀ a, a < 199 → (am_cls a = 11 ∨ am_cls a = 14) → ∀ i : Nat, i < am_ln a → am_rf a i < 199 := by
  have key : ∀ a, a < 199 → (am_cls a = 11 ∨ am_cls a = 14) → am_ln a ≤ 6 ∧ ∀ i, i < 6 → i < am_ln a → am_rf a ((i : Nat) : Int) < 199 := by decide +kernel
  intro a ha hc i hi
  obtain ⟨h1, h2⟩ := key a ha hc
  exact h2 i (by omega) hi
theorem am_len_own {a : Nat} (h : a < 199) (M : am_M) : am_len M a = am_ln a := by
  have h1 : Nat.beq a 203 = false := by
    rw [← Bool.not_eq_true]; intro q; have := Nat.eq_of_beq_eq_true q; omega
  have h2 : Nat.ble a 255 = true := Nat.ble_eq_true_of_le (by omega)
  unfold am_ln am_len
  rw [h1, h2]
  simp only [cond]
  exact (Int.toNat_of_nonneg (Int.natCast_nonneg _)).symm
theorem am_len_C {C M : am_M} (h : am_mok C M) (a : Nat) : am_len M a = am_len C a := by
  unfold am_len
  rw [h.2 203 (by omega)]
theorem am_len_pos (M : am_M) (a : Nat) (h : a ≠ 203) : 0 ≤ am_len M a := by
  have h1 : Nat.beq a 203 = false := by
    rw [← Bool.not_eq_true]; intro q; have := Nat.eq_of_beq_eq_true q; omega
  unfold am_len
  rw [h1]
  cases Nat.ble a 255 <;> exact Int.natCast_nonneg _
theorem am_len_in {C M : am_M} (h : am_mok C M) (a : Nat) : am_in (am_len M a) := by
  unfold am_len
  cases Nat.beq a 203 with
  | true => exact h.1 _ _
  | false =>
    have key : ∀ n : Nat, am_in (Int.ofNat (n % 65536)) := by
      intro n
      have : n % 65536 < 65536 := Nat.mod_lt _ (by omega)
      constructor
      · show (-2147483648 : Int) ≤ ((n % 65536 : Nat) : Int); omega
      · show ((n % 65536 : Nat) : Int) < 2147483648; omega
    cases Nat.ble a 255 <;> exact key _
theorem am_ofNat (n : Nat) : Int32.ofNat n = Int32.ofInt (n : Int) := by
  rw [← Int32.toInt_inj, Int32.toInt_ofInt, Int32.toInt_ofNat']
theorem am_narc (x : Int) : vp_nar .char (Int32.ofInt x) = Int32.ofInt (am_chr x) := by
  rw [vp_nar_char, am_e_chr, UInt32.toUInt32_toUInt16]
theorem am_mok_upd {C M : am_M} (h : am_mok C M) {a : Nat} {i v : Int} (ha : a < 199) (hv : am_in v) : am_mok C (am_upd M a i v) := by
  refine ⟨fun b j => ?_, fun b hb => ?_⟩
  · unfold am_upd
    split
    · exact hv
    · exact h.1 b j
  · rw [← h.2 b hb]
    exact am_upd_other M a i v b (by omega)
theorem am_mok_cpy {C M : am_M} (h : am_mok C M) {a b : Nat} {i j n : Int} (hb : b < 199) : am_mok C (am_cpy M a i b j n) := by
  refine ⟨fun c k => ?_, fun c hc => ?_⟩
  · unfold am_cpy
    split
    · exact h.1 _ _
    · exact h.1 c k
  · rw [← h.2 c hc]
    exact am_cpy_other M a i b j n c (by omega)
theorem am_in_max {x y : Int} (hx : am_in x) (hy : am_in y) : am_in (max x y) := by
  obtain ⟨a, b⟩ := hx
  obtain ⟨c, d⟩ := hy
  constructor <;> omega
theorem am_in_min {x y : Int} (hx : am_in x) (hy : am_in y) : am_in (min x y) := by
  obtain ⟨a, b⟩ := hx
  obtain ⟨c, d⟩ := hy
  constructor <;> omega
theorem am_e_max {x y : Int} (hx : am_in x) (hy : am_in y) : Int32.ofInt (max x y) = if Int32.ofInt x < Int32.ofInt y then Int32.ofInt y else Int32.ofInt x := by
  by_cases h : x < y
  · rw [if_pos ((am_lt hx hy).mpr h), show max x y = y from by omega]
  · rw [if_neg (fun q => h ((am_lt hx hy).mp q)), show max x y = x from by omega]
theorem am_e_min {x y : Int} (hx : am_in x) (hy : am_in y) : Int32.ofInt (min x y) = if Int32.ofInt y < Int32.ofInt x then Int32.ofInt y else Int32.ofInt x := by
  by_cases h : y < x
  · rw [if_pos ((am_lt hy hx).mpr h), show min x y = y from by omega]
  · rw [if_neg (fun q => h ((am_lt hy hx).mp q)), show min x y = x from by omega]
theorem am_cats {ad : Nat → Nat} {vF : Value} (hF : vF = .null ∨ ∃ x, vF = .ref x) : ∀ {st : List am_V} {n : Nat}, st.length ≤ n → ((st.map (am_enc ad vF)).map fun v => v.category).sum ≤ n := by
  intro st
  induction st with
  | nil => intro n _; exact Nat.zero_le _
  | cons v st ih =>
    intro n h
    obtain ⟨n, rfl⟩ : ∃ k, n = k + 1 := ⟨n - 1, by simp at h; omega⟩
    have := ih (n := n) (by simpa using h)
    simp only [List.map_cons, List.sum_cons, am_enc_cat hF v]
    omega
end
section
/-! a method's entry: its locals are its arguments -/
theorem am_args_mem {k : Nat} {w : Value} : ∀ (vs : List Value) (i : Nat), (∀ v ∈ vs, v.category = 1) → vs[k]? = some w → (i + k, w) ∈ lv_args i vs := by
  induction k with
  | zero =>
    intro vs i hc h
    cases vs with
    | nil => simp at h
    | cons v vs => simp at h; subst h; exact List.mem_cons_self
  | succ k ih =>
    intro vs i hc h
    cases vs with
    | nil => simp at h
    | cons v vs =>
      have h1 : v.category = 1 := hc v List.mem_cons_self
      rw [show lv_args i (v :: vs) = (i, v) :: lv_args (if v.category = 2 then i + 2 else i + 1) vs from rfl, if_neg (by omega)]
      refine List.mem_cons_of_mem _ ?_
      rw [show i + (k + 1) = i + 1 + k from by omega]
      exact ih vs (i + 1) (fun q hq => hc q (List.mem_cons_of_mem _ hq)) (by simpa using h)
theorem am_sl_len : ∀ vs : List Value, (∀ v ∈ vs, v.category = 1) → (lg_sl vs).length = vs.length := by
  intro vs
  induction vs with
  | nil => intro _; rfl
  | cons v vs ih =>
    intro h
    have h1 : v.category = 1 := h v List.mem_cons_self
    rw [lg_sl, List.flatMap_cons, if_neg (by omega)]
    simp only [List.length_append, List.length_cons, List.length_nil]
    have := ih (fun q hq => h q (List.mem_cons_of_mem _ hq))
    unfold lg_sl at this
    rw [this]
    omega
theorem am_ini_len {n : Nat} {args : List am_V} (h : args.length ≤ n) : (am_ini n args).length = n := by
  rw [am_ini, List.length_append, List.length_map, List.length_replicate]
  omega
theorem am_entry {ad : Nat → Nat} {vF : Value} {n : Nat} {args : List am_V} (hF : vF = .null ∨ ∃ x, vF = .ref x) (hn : args.length ≤ n) (hv : ∀ v ∈ args, am_vok v) : am_lok ad vF (am_ini n args) ((lg_sl (args.map (am_enc ad vF)) ++ List.replicate (n - (lg_sl (args.map (am_enc ad vF))).length) Slot.unset).toArray) := by
  have hcat : ∀ v ∈ args.map (am_enc ad vF), v.category = 1 := by
    intro v hv
    obtain ⟨w, -, rfl⟩ := List.mem_map.mp hv
    exact am_enc_cat hF w
  have hl := lv_entry (args.map (am_enc ad vF)) (n := n) (by rw [am_sl_len _ hcat, List.length_map]; exact hn)
  refine ⟨by rw [am_ini_len hn]; exact hl.1, hl.2.1, fun k v hk => ?_⟩
  have hk1 : args[k]? = some v := by
    unfold am_ini at hk
    rcases Nat.lt_or_ge k args.length with h | h
    · rw [List.getElem?_append_left (by rw [List.length_map]; exact h), List.getElem?_map] at hk
      cases hq : args[k]? with
      | none => rw [hq] at hk; cases hk
      | some w => rw [hq] at hk; simp at hk; rw [hk]
    · exfalso
      rw [List.getElem?_append_right (by rw [List.length_map]; exact h)] at hk
      obtain ⟨-, h2⟩ := List.mem_replicate.mp (List.mem_of_getElem? hk)
      cases h2
  refine ⟨?_, hv v (List.mem_of_getElem? hk1)⟩
  have := am_args_mem (k := k) (w := am_enc ad vF v) (args.map (am_enc ad vF)) 0 hcat (by rw [List.getElem?_map, hk1]; rfl)
  rw [Nat.zero_add] at this
  exact hl.2.2 _ this
end
section
/-! START: the building machine: constructors, run once; a reference field is set (1) or not (0) -/
def bm_fl : List (Nat × Nat × Nat × Nat) := [(4, 11, 4, 0), (6, 19, 6, 2)]
def bm_fp : List (Nat × Nat × Nat × Nat) := [(0, 19, 0, 0), (0, 31, 0, 1), (1, 19, 1, 2), (1, 31, 1, 3), (1, 37, 1, 4), (1, 43, 1, 5), (1, 49, 1, 6), (2, 19, 2, 0), (2, 31, 2, 1), (2, 37, 2, 2), (2, 42, 2, 6), (2, 57, 2, 8), (2, 71, 2, 9), (3, 19, 3, 1), (4, 23, 4, 0), (4, 41, 4, 1), (4, 49, 4, 2), (5, 19, 5, 5), (5, 31, 5, 6), (5, 37, 5, 7), (5, 43, 5, 8), (5, 49, 5, 9), (5, 55, 5, 10), (5, 61, 5, 11), (5, 67, 5, 12), (5, 73, 5, 13), (5, 79, 5, 14), (5, 85, 5, 15), (5, 91, 5, 16), (6, 21, 6, 0), (6, 33, 6, 1), (6, 39, 6, 2), (6, 53, 6, 5), (6, 61, 6, 6), (6, 69, 6, 7), (6, 75, 6, 8), (6, 81, 6, 9), (6, 87, 6, 11), (6, 101, 6, 13), (6, 115, 6, 14), (6, 123, 6, 15), (7, 15, 7, 0), (7, 27, 7, 1), (7, 33, 7, 2), (7, 39, 7, 3), (7, 45, 7, 6), (7, 51, 7, 7), (7, 57, 7, 8), (7, 63, 7, 9), (7, 69, 7, 10), (7, 75, 7, 11), (7, 80, 7, 25), (7, 89, 7, 29), (7, 95, 7, 30)]
def bm_nw : List (Nat × Nat × Nat) := [(2, 25, 1), (2, 32, 3), (4, 17, 3), (4, 9, 1), (6, 7, 5), (6, 23, 4), (6, 47, 2), (6, 54, 0), (8, 7, 6), (8, 10, 7)]
def bm_an : List (Nat × Nat × Nat) := [(4, 9, 14), (6, 7, 11)]
def bm_iv : List (Nat × Nat × Nat × Nat) := [(2, 27, 1, 1), (2, 34, 3, 1), (4, 19, 3, 1), (4, 27, 1, 1), (6, 9, 5, 1), (6, 25, 4, 0), (6, 49, 2, 1), (6, 56, 0, 1), (8, 9, 6, 0), (8, 12, 7, 0)]
def bm_oi : List (Nat × Nat) := [(0, 3), (1, 3), (2, 3), (3, 3), (4, 3), (5, 3), (6, 1), (7, 1)]
def bm_c0 : List am_I := [(.iload 0, 1, 0), (.areturn, 3, 0), (.iload 0, 1, 0), (.bipush 14, 1, 0), (.newarray .int, 0, 0), (.putfield 0, 0, 19), (.iload 0, 1, 0), (.bipush 32, 1, 0), (.newarray .int, 0, 0), (.putfield 1, 0, 31), (.return_, 0, 0)]
def bm_p0 : List Nat := [0, 1, 4, 5, 7, 9, 12, 13, 15, 17, 20, 21]
def bm_c1 : List am_I := [(.iload 0, 1, 0), (.areturn, 3, 0), (.iload 0, 1, 0), (.bipush 16, 1, 0), (.newarray .int, 0, 0), (.putfield 2, 1, 19), (.iload 0, 1, 0), (.bipush 16, 1, 0), (.newarray .int, 0, 0), (.putfield 3, 1, 31), (.iload 0, 1, 0), (.bipush 16, 1, 0), (.newarray .int, 0, 0), (.putfield 4, 1, 37), (.iload 0, 1, 0), (.bipush 16, 1, 0), (.newarray .int, 0, 0), (.putfield 5, 1, 43), (.iload 0, 1, 0), (.bipush 400, 2, 0), (.newarray .int, 0, 0), (.putfield 6, 1, 49), (.return_, 0, 0)]
def bm_p1 : List Nat := [0, 1, 4, 5, 7, 9, 12, 13, 15, 17, 20, 21, 23, 25, 28, 29, 31, 33, 36, 37, 40, 42, 45, 46]
def bm_c2 : List am_I := [(.iload 0, 1, 0), (.areturn, 3, 0), (.iload 0, 1, 0), (.bipush 401, 2, 0), (.newarray .int, 0, 0), (.putfield 0, 2, 19), (.iload 0, 1, 0), (.bipush 401, 2, 0), (.newarray .int, 0, 0), (.putfield 1, 2, 31), (.iload 0, 1, 0), (.bipush 401, 2, 0), (.newarray .int, 0, 0), (.putfield 2, 2, 37), (.iload 0, 1, 0), (.bipush (-1), 0, 0), (.putfield 6, 2, 42), (.iload 0, 1, 0), (.new 1, 25, 0), (.dup, 0, 0), (.invokespecial 1, 27, 1), (.putfield 8, 2, 57), (.iload 0, 1, 0), (.new 3, 32, 0), (.dup, 0, 0), (.invokespecial 3, 34, 1), (.putfield 9, 2, 71), (.return_, 0, 0)]
def bm_p2 : List Nat := [0, 1, 4, 5, 8, 10, 13, 14, 17, 19, 22, 23, 26, 28, 31, 32, 33, 36, 37, 40, 41, 44, 47, 48, 51, 52, 55, 58, 59]
def bm_c3 : List am_I := [(.iload 0, 1, 0), (.areturn, 3, 0), (.iload 0, 1, 0), (.bipush 80, 1, 0), (.newarray .int, 0, 0), (.putfield 1, 3, 19), (.return_, 0, 0)]
def bm_p3 : List Nat := [0, 1, 4, 5, 7, 9, 12, 13]
def bm_c4 : List am_I := [(.iload 0, 1, 0), (.areturn, 3, 0), (.iload 0, 1, 0), (.bipush 3, 0, 0), (.anewarray 14, 9, 0), (.putfield 0, 4, 23), (.iload 0, 1, 0), (.new 3, 17, 0), (.dup, 0, 0), (.invokespecial 3, 19, 1), (.putfield 1, 4, 41), (.iload 0, 1, 0), (.new 3, 17, 0), (.dup, 0, 0), (.invokespecial 3, 19, 1), (.putfield 2, 4, 49), (.bipush 0, 0, 0), (.istore 1, 0, 0), (.iload 1, 0, 0), (.bipush 3, 0, 0), (.if_icmp .ge 30, 0, 0), (.iload 0, 1, 0), (.checkcast 0, 4, 11), (.iload 1, 0, 0), (.new 1, 9, 0), (.dup, 0, 0), (.invokespecial 1, 27, 1), (.aastore, 0, 0), (.iinc 1 1, 0, 0), (.goto 18, 0, 0), (.return_, 0, 0)]
def bm_p4 : List Nat := [0, 1, 4, 5, 6, 9, 12, 13, 16, 17, 20, 23, 24, 27, 28, 31, 34, 35, 36, 37, 38, 41, 42, 45, 46, 49, 50, 53, 54, 57, 60, 61]
def bm_c5 : List am_I := [(.iload 0, 1, 0), (.areturn, 3, 0), (.iload 0, 1, 0), (.bipush 8, 1, 0), (.newarray .int, 0, 0), (.putfield 5, 5, 19), (.iload 0, 1, 0), (.bipush 8, 1, 0), (.newarray .int, 0, 0), (.putfield 6, 5, 31), (.iload 0, 1, 0), (.bipush 8, 1, 0), (.newarray .int, 0, 0), (.putfield 7, 5, 37), (.iload 0, 1, 0), (.bipush 8, 1, 0), (.newarray .int, 0, 0), (.putfield 8, 5, 43), (.iload 0, 1, 0), (.bipush 16, 1, 0), (.newarray .int, 0, 0), (.putfield 9, 5, 49), (.iload 0, 1, 0), (.bipush 16, 1, 0), (.newarray .int, 0, 0), (.putfield 10, 5, 55), (.iload 0, 1, 0), (.bipush 64, 1, 0), (.newarray .int, 0, 0), (.putfield 11, 5, 61), (.iload 0, 1, 0), (.bipush 16, 1, 0), (.newarray .int, 0, 0), (.putfield 12, 5, 67), (.iload 0, 1, 0), (.bipush 16, 1, 0), (.newarray .int, 0, 0), (.putfield 13, 5, 73), (.iload 0, 1, 0), (.bipush 16, 1, 0), (.newarray .int, 0, 0), (.putfield 14, 5, 79), (.iload 0, 1, 0), (.bipush 16, 1, 0), (.newarray .int, 0, 0), (.putfield 15, 5, 85), (.iload 0, 1, 0), (.bipush 80, 1, 0), (.newarray .int, 0, 0), (.putfield 16, 5, 91), (.return_, 0, 0)]
def bm_p5 : List Nat := [0, 1, 4, 5, 7, 9, 12, 13, 15, 17, 20, 21, 23, 25, 28, 29, 31, 33, 36, 37, 39, 41, 44, 45, 47, 49, 52, 53, 55, 57, 60, 61, 63, 65, 68, 69, 71, 73, 76, 77, 79, 81, 84, 85, 87, 89, 92, 93, 95, 97, 100, 101]
def bm_c6 : List am_I := [(.iload 0, 1, 0), (.areturn, 1, 0), (.iload 0, 1, 0), (.new 5, 7, 0), (.dup, 0, 0), (.invokespecial 5, 9, 1), (.putfield 0, 6, 21), (.iload 0, 1, 0), (.new 5, 7, 0), (.dup, 0, 0), (.invokespecial 5, 9, 1), (.putfield 1, 6, 33), (.iload 0, 1, 0), (.bipush 6, 1, 0), (.anewarray 11, 7, 0), (.putfield 2, 6, 39), (.iload 0, 1, 0), (.new 4, 23, 0), (.dup, 0, 0), (.invokespecial 4, 25, 0), (.putfield 5, 6, 53), (.iload 0, 1, 0), (.bipush 400, 2, 0), (.newarray .int, 0, 0), (.putfield 6, 6, 61), (.iload 0, 1, 0), (.new 5, 7, 0), (.dup, 0, 0), (.invokespecial 5, 9, 1), (.putfield 7, 6, 69), (.iload 0, 1, 0), (.new 4, 23, 0), (.dup, 0, 0), (.invokespecial 4, 25, 0), (.putfield 8, 6, 75), (.iload 0, 1, 0), (.bipush 400, 2, 0), (.newarray .int, 0, 0), (.putfield 9, 6, 81), (.iload 0, 1, 0), (.bipush 400, 2, 0), (.newarray .char, 0, 0), (.putfield 11, 6, 87), (.iload 0, 1, 0), (.new 2, 47, 0), (.dup, 0, 0), (.invokespecial 2, 49, 1), (.putfield 13, 6, 101), (.iload 0, 1, 0), (.new 0, 54, 0), (.dup, 0, 0), (.invokespecial 0, 56, 1), (.putfield 14, 6, 115), (.iload 0, 1, 0), (.bipush 2304, 2, 0), (.newarray .int, 0, 0), (.putfield 15, 6, 123), (.bipush 0, 0, 0), (.istore 1, 0, 0), (.iload 1, 0, 0), (.bipush 6, 1, 0), (.if_icmp .ge 71, 0, 0), (.iload 0, 1, 0), (.checkcast 2, 6, 19), (.iload 1, 0, 0), (.new 5, 7, 0), (.dup, 0, 0), (.invokespecial 5, 9, 1), (.aastore, 0, 0), (.iinc 1 1, 0, 0), (.goto 59, 0, 0), (.return_, 0, 0)]
def bm_p6 : List Nat := [0, 1, 4, 5, 8, 9, 12, 15, 16, 19, 20, 23, 26, 27, 29, 32, 35, 36, 39, 40, 43, 46, 47, 50, 52, 55, 56, 59, 60, 63, 66, 67, 70, 71, 74, 77, 78, 81, 83, 86, 87, 90, 92, 95, 96, 99, 100, 103, 106, 107, 110, 111, 114, 117, 118, 121, 123, 126, 127, 128, 129, 131, 134, 135, 138, 139, 142, 143, 146, 147, 150, 153, 154]
def bm_c7 : List am_I := [(.iload 0, 1, 0), (.areturn, 1, 0), (.iload 0, 1, 0), (.bipush 3456, 2, 0), (.newarray .int, 0, 0), (.putfield 0, 7, 15), (.iload 0, 1, 0), (.bipush 3456, 2, 0), (.newarray .int, 0, 0), (.putfield 1, 7, 27), (.iload 0, 1, 0), (.bipush 1656, 2, 0), (.newarray .int, 0, 0), (.putfield 2, 7, 33), (.iload 0, 1, 0), (.bipush 276, 2, 0), (.newarray .int, 0, 0), (.putfield 3, 7, 39), (.iload 0, 1, 0), (.bipush 64, 1, 0), (.newarray .int, 0, 0), (.putfield 6, 7, 45), (.iload 0, 1, 0), (.bipush 820, 2, 0), (.newarray .int, 0, 0), (.putfield 7, 7, 51), (.iload 0, 1, 0), (.bipush 80, 1, 0), (.newarray .int, 0, 0), (.putfield 8, 7, 57), (.iload 0, 1, 0), (.bipush 400, 2, 0), (.newarray .int, 0, 0), (.putfield 9, 7, 63), (.iload 0, 1, 0), (.bipush 420, 2, 0), (.newarray .int, 0, 0), (.putfield 10, 7, 69), (.iload 0, 1, 0), (.bipush 15, 1, 0), (.newarray .int, 0, 0), (.putfield 11, 7, 75), (.iload 0, 1, 0), (.bipush (-1), 0, 0), (.putfield 25, 7, 80), (.iload 0, 1, 0), (.bipush 2304, 2, 0), (.newarray .int, 0, 0), (.putfield 29, 7, 89), (.iload 0, 1, 0), (.bipush 8, 1, 0), (.newarray .int, 0, 0), (.putfield 30, 7, 95), (.return_, 0, 0)]
def bm_p7 : List Nat := [0, 1, 4, 5, 8, 10, 13, 14, 17, 19, 22, 23, 26, 28, 31, 32, 35, 37, 40, 41, 43, 45, 48, 49, 52, 54, 57, 58, 60, 62, 65, 66, 69, 71, 74, 75, 78, 80, 83, 84, 86, 88, 91, 92, 93, 96, 97, 100, 102, 105, 106, 108, 110, 113, 114]
def bm_code (ci : Nat) : List am_I := ([bm_c0, bm_c1, bm_c2, bm_c3, bm_c4, bm_c5, bm_c6, bm_c7] : List (List am_I)).getD ci []
def bm_pp (ci : Nat) : List Nat := ([bm_p0, bm_p1, bm_p2, bm_p3, bm_p4, bm_p5, bm_p6, bm_p7] : List (List Nat)).getD ci []
def bm_b (ci : Nat) : ByteArray := ([prog_2_method_1_code, prog_3_method_1_code, prog_4_method_1_code, prog_5_method_1_code, prog_6_method_1_code, prog_7_method_1_code, prog_1_method_1_code, prog_9_method_1_code] : List ByteArray).getD ci ByteArray.empty
def bm_ml (ci : Nat) : Nat := ([1, 1, 1, 1, 2, 1, 2, 1] : List Nat).getD ci 0
def bm_y (ci : Nat) : MethodName := ⟨am_cn ci, "<init>", "()V"⟩
abbrev bm_R : Type := Option (Nat × Nat × am_M)
def bm_end : List (Option am_V) := [some (.inr 203), some (.inr 0), some (.inr 186), none]
/-- one instruction of a constructor: n objects are made, z slots in them -/
def bm_stp (call : Nat → List am_V → Nat → Nat → am_M → bm_R) (i : am_I) (ls : List (Option am_V)) (st : List am_V) (n z : Nat) (M : am_M) (ks : List (Option am_V) → List am_V → Nat → Nat → am_M → bm_R) (kj : Nat → List (Option am_V) → List am_V → Nat → Nat → am_M → bm_R) : bm_R :=
  match i with
  | (.iload k, kd, _) => (match ls[k]? with
    | some (some v) => cond (Nat.beq (am_kd v) kd) (ks ls (v :: st) n z M) none
    | _ => none)
  | (.istore k, kd, _) => (match st with
    | v :: st => cond (Nat.beq (am_kd v) kd && Nat.blt k ls.length) (ks (ls.set k (some v)) st n z M) none
    | _ => none)
  | (.bipush v, _, _) => ks ls (.inl v :: st) n z M
  | (.dup, _, _) => (match st with
    | v :: st => ks ls (v :: v :: st) n z M
    | _ => none)
  | (.if_icmp .ge t, _, _) => (match st with
    | .inl y :: .inl x :: st => cond (decide (x < y)) (ks ls st n z M) (kj t.toNat ls st n z M)
    | _ => none)
  | (.goto t, _, _) => kj t.toNat ls st n z M
  | (.iinc k c, _, _) => (match ls[k]? with
    | some (some (.inl x)) => ks (ls.set k (some (.inl (am_wrap (x + c))))) st n z M
    | _ => none)
  | (.checkcast k, ci, _) => (match st with
    | .inr a :: st => cond (Nat.beq (am_cls a) ci && Nat.blt a n && decide (M a k = 1)) (ks ls (.inr (am_rf a k) :: st) n z M) none
    | _ => none)
  | (.putfield k, ci, b) => (match st with
    | .inr v :: .inr a :: st => cond (Nat.beq (am_cls a) ci && Nat.blt a n && Nat.beq (am_rf a k) v && Nat.beq (b % 2) 1) (ks ls st n z (am_upd M a k 1)) none
    | .inl x :: .inr a :: st => cond (Nat.beq (am_cls a) ci && Nat.blt a n && Nat.beq (b % 2) 0) (ks ls st n z (am_upd M a k x)) none
    | _ => none)
  | (.new ci, _, _) => cond (Nat.beq (am_cls n) ci && Nat.blt n 199) (ks ls (.inr n :: st) (n + 1) (z + am_nf ci) M) none
  | (.newarray t, _, _) => (match st with
    | .inl x :: st => cond (Nat.beq (am_cls n) (match t with
      | .int => 9
      | .char => 10
      | _ => 99) && Nat.blt n 199 && decide (x = (am_ln n : Int))) (ks ls (.inr n :: st) (n + 1) (z + am_ln n) M) none
    | _ => none)
  | (.anewarray k, _, _) => (match st with
    | .inl x :: st => cond (Nat.beq (am_cls n) k && Nat.blt n 199 && decide (x = (am_ln n : Int))) (ks ls (.inr n :: st) (n + 1) (z + am_ln n) M) none
    | _ => none)
  | (.aastore, _, _) => (match st with
    | .inr v :: .inl i :: .inr a :: st => cond (Nat.blt a n && Nat.blt v n && Nat.beq (am_rf a i) v && decide (0 ≤ i ∧ i < (am_ln a : Int)) && ((Nat.beq (am_cls a) 11 && Nat.beq (am_cls v) 5) || (Nat.beq (am_cls a) 14 && Nat.beq (am_cls v) 1))) (ks ls st n z (am_upd M a i 1)) none
    | _ => none)
  -- Object's constructor
  | (.areturn, _, _) => (match st with
    | .inr a :: st => cond (Nat.blt a n && Nat.ble st.length 8) (ks ls st n z M) none
    | _ => none)
  | (.invokespecial ci, _, _) => (match st with
    | .inr a :: st => cond (Nat.beq (am_cls a) ci && Nat.blt a n && Nat.ble st.length 8) (match call ci [.inr a] n z M with
      | some (n', z', M') => ks ls st n' z' M'
      | none => none) none
    | _ => none)
  | (.return_, _, _) => (match st with
    | [] => some (n, z, M)
    | _ => none)
  -- the law's prologue ends
  | (.nop, _, _) => (match st with
    | [] => cond (decide (ls = bm_end)) (some (n, z, M)) none
    | _ => none)
  | _ => none
def bm_ex (call : Nat → List am_V → Nat → Nat → am_M → bm_R) (full : List am_I) : Nat → Nat → List (Option am_V) → List am_V → Nat → Nat → am_M → bm_R
  | 0 => fun _ _ _ _ _ _ => none
  | f + 1 => fun pc ls st n z M => match full[pc]? with
    | some i => bm_stp call i ls st n z M (bm_ex call full f (pc + 1)) (bm_ex call full f)
    | none => none
def bm_run : Nat → Nat → List am_V → Nat → Nat → am_M → bm_R
  | 0 => fun _ _ _ _ _ => none
  | d + 1 => fun ci args n z M => (match args with
    | [.inr a] => cond (Nat.beq (am_cls a) ci && Nat.blt a n) (bm_ex (bm_run d) (bm_code ci) 400 0 (am_ini (bm_ml ci) args) [] n z M) none
    | _ => none)
def bm_dec (own : Nat) (cc : ByteArray) (ps : List Nat) (bp nx : Nat) (ai : am_I) : Bool := match ai with
  | (.iload n, kd, _) => (match kd with
    | 0 => am_d1 cc bp nx (.iload_n (Fin.ofNat 4 n)) 1 && decide (n < 4)
    | _ => am_d1 cc bp nx (.aload_n (Fin.ofNat 4 n)) 1 && decide (n < 4))
  | (.istore n, kd, _) => (match kd with
    | 0 => am_d1 cc bp nx (.istore_n (Fin.ofNat 4 n)) 1 && decide (n < 4)
    | _ => am_d1 cc bp nx (.astore_n (Fin.ofNat 4 n)) 1 && decide (n < 4))
  | (.nop, _, _) => decide (own = 8)
  | (.bipush v, a, _) => decide (am_in v) && (match a with
    | 0 => am_d1 cc bp nx (.iconst v) 1
    | 1 => am_d1 cc bp nx (.bipush v) 2 && decide ((Int8.ofInt v).toInt32 = Int32.ofInt v)
    | _ => am_d1 cc bp nx (.sipush v) 3 && decide ((Int16.ofInt v).toInt32 = Int32.ofInt v))
  | (.dup, _, _) => am_d1 cc bp nx .dup 1
  | (.if_icmp .ge t, _, _) => am_d1 cc bp nx (.if_icmp .ge (am_off ps bp t)) 3
  | (.goto t, _, _) => am_d0 cc bp (.goto (am_off ps bp t)) 3
  | (.iinc n c, _, _) => am_d1 cc bp nx (.iinc n c) 3
  | (.checkcast k, ci, b) => am_d1 cc bp nx (.getfield b) 3 && bm_fl.contains (own, b, ci, k)
  | (.putfield k, ci, b) => am_d1 cc bp nx (.putfield (b / 2)) 3 && bm_fp.contains (own, b, ci, k)
  | (.new ci, b, _) => am_d1 cc bp nx (.new b) 3 && bm_nw.contains (own, b, ci)
  | (.newarray t, _, _) => am_d1 cc bp nx (.newarray t) 2
  | (.anewarray k, b, _) => am_d1 cc bp nx (.anewarray b) 3 && bm_an.contains (own, b, k)
  | (.aastore, _, _) => am_d1 cc bp nx .aastore 1
  | (.areturn, b, _) => am_d1 cc bp nx (.invokespecial b) 3 && bm_oi.contains (own, b)
  | (.invokespecial ci, b, t) => am_d1 cc bp nx (.invokespecial b) 3 && bm_iv.contains (own, b, ci, t)
  | (.return_, _, _) => am_d0 cc bp .return_ 1
  | _ => false
def bm_decs (own : Nat) (cc : ByteArray) (ps : List Nat) : List Nat → List am_I → Bool
  | bp :: nx :: r, ai :: c => bm_dec own cc ps bp nx ai && bm_decs own cc ps (nx :: r) c
  | [_], [] => true
  | _, _ => false
def bm_FL (q : Nat × Nat × Nat × Nat) : Prop := ∃ (C : String) (T : u_T) (N : Nat), vwCl[q.2.2.1]? = some (C, T, N) ∧ q.2.2.2 < N ∧ (T q.2.2.2).1 = C ∧ Cond.fieldLink (am_cn q.1) q.2.1 C (T q.2.2.2).2.1 (T q.2.2.2).2.2.1 ∈ lw_tbl ∧ am_isr q.2.2.1 q.2.2.2 = true ∧ q.2.2.1 < 8
def bm_FP (q : Nat × Nat × Nat × Nat) : Prop := ∃ (C : String) (T : u_T) (N : Nat), vwCl[q.2.2.1]? = some (C, T, N) ∧ q.2.2.2 < N ∧ (T q.2.2.2).1 = C ∧ Cond.fieldLink (am_cn q.1) (q.2.1 / 2) C (T q.2.2.2).2.1 (T q.2.2.2).2.2.1 ∈ lw_tbl ∧ am_isr q.2.2.1 q.2.2.2 = Nat.beq (q.2.1 % 2) 1 ∧ q.2.2.1 < 8 ∧ (T q.2.2.2).2.2.2 = Nat.beq (q.2.1 % 2) 1 ∧ ∃ ty, parseFieldDescriptor (T q.2.2.2).2.2.1 = some ty ∧ (cond (Nat.beq (q.2.1 % 2) 1) (∀ a : Nat, narrow ty (.ref a) = .ref a ∧ fits ty (.ref a) = true) (ty = .int))
def bm_NW (q : Nat × Nat × Nat) : Prop := Cond.classLink (am_cn q.1) q.2.1 (am_cn q.2.2) ∈ lw_tbl ∧ Cond.instantiable (am_cn q.2.2) (am_nf q.2.2) ∈ lw_tbl ∧ Cond.initialized (am_cn q.2.2) ∈ lw_tbl ∧ q.2.2 < 8
def bm_AN (q : Nat × Nat × Nat) : Prop := Cond.classLink (am_cn q.1) q.2.1 (am_cn (cond (Nat.beq q.2.2 11) 5 1)) ∈ lw_tbl
def bm_IV (q : Nat × Nat × Nat × Nat) : Prop := (cond (Nat.beq q.2.2.2 1) (Cond.methodLinkNest (am_cn q.1) q.2.1 (bm_y q.2.2.1) "LentHands" ∈ lw_tbl) (Cond.methodLink (am_cn q.1) q.2.1 (bm_y q.2.2.1) ∈ lw_tbl)) ∧ q.2.2.1 < 8
def bm_OI (q : Nat × Nat) : Prop := Cond.methodLink (am_cn q.1) q.2 Lib.objectInit ∈ lw_tbl
def bm_MF (ci : Nat) : Prop := plainName (bm_y ci).cls = true ∧ Cond.code (bm_y ci) (bm_b ci) (bm_ml ci) none ∈ lw_tbl ∧ ((bm_y ci).cls ≠ "java/lang/invoke/MethodHandle" ∧ (bm_y ci).cls ≠ "java/lang/invoke/VarHandle" ∧ (parseMethodDescriptor (bm_y ci).desc).map (fun d => d.parameters.length) = some 0) ∧ Cond.instanceMethod (bm_y ci) ∈ lw_tbl ∧ Cond.initialized (bm_y ci).cls ∈ lw_tbl

theorem bm_ok0 : bm_decs 0 (bm_b 0) bm_p0 bm_p0 bm_c0 = true := by decide +kernel
theorem bm_ok1 : bm_decs 1 (bm_b 1) bm_p1 bm_p1 bm_c1 = true := by decide +kernel
theorem bm_ok2 : bm_decs 2 (bm_b 2) bm_p2 bm_p2 bm_c2 = true := by decide +kernel
theorem bm_ok3 : bm_decs 3 (bm_b 3) bm_p3 bm_p3 bm_c3 = true := by decide +kernel
theorem bm_ok4 : bm_decs 4 (bm_b 4) bm_p4 bm_p4 bm_c4 = true := by decide +kernel
theorem bm_ok5 : bm_decs 5 (bm_b 5) bm_p5 bm_p5 bm_c5 = true := by decide +kernel
theorem bm_ok6 : bm_decs 6 (bm_b 6) bm_p6 bm_p6 bm_c6 = true := by decide +kernel
theorem bm_ok7 : bm_decs 7 (bm_b 7) bm_p7 bm_p7 bm_c7 = true := by decide +kernel
theorem bm_ok_all : ∀ ci, ci < 8 → bm_decs ci (bm_b ci) (bm_pp ci) (bm_pp ci) (bm_code ci) = true := lt_s (lt_s (lt_s (lt_s (lt_s (lt_s (lt_s (lt_s (lt_0) bm_ok0) bm_ok1) bm_ok2) bm_ok3) bm_ok4) bm_ok5) bm_ok6) bm_ok7
theorem bm_fl_0 : bm_FL (4, 11, 4, 0) := ⟨_, _, _, rfl, by decide, rfl, lw_i1 (List.mem_of_getElem? (i := 158) rfl), rfl, by decide⟩
theorem bm_fl_1 : bm_FL (6, 19, 6, 2) := ⟨_, _, _, rfl, by decide, rfl, lw_i1 (List.mem_of_getElem? (i := 235) rfl), rfl, by decide⟩
theorem bm_fl_all : ∀ q ∈ bm_fl, bm_FL q := List.forall_mem_cons.mpr ⟨bm_fl_0, List.forall_mem_cons.mpr ⟨bm_fl_1, fun _ h => absurd h List.not_mem_nil⟩⟩
theorem bm_fp_0 : bm_FP (0, 19, 0, 0) := ⟨_, _, _, rfl, by decide, rfl, lw_i1 (List.mem_of_getElem? (i := 223) rfl), rfl, by decide, rfl, _, rfl, fun _ => ⟨rfl, rfl⟩⟩
theorem bm_fp_1 : bm_FP (0, 31, 0, 1) := ⟨_, _, _, rfl, by decide, rfl, lw_i1 (List.mem_of_getElem? (i := 226) rfl), rfl, by decide, rfl, _, rfl, fun _ => ⟨rfl, rfl⟩⟩
theorem bm_fp_2 : bm_FP (1, 19, 1, 2) := ⟨_, _, _, rfl, by decide, rfl, lw_i1 (List.mem_of_getElem? (i := 134) rfl), rfl, by decide, rfl, _, rfl, fun _ => ⟨rfl, rfl⟩⟩
theorem bm_fp_3 : bm_FP (1, 31, 1, 3) := ⟨_, _, _, rfl, by decide, rfl, lw_i1 (List.mem_of_getElem? (i := 136) rfl), rfl, by decide, rfl, _, rfl, fun _ => ⟨rfl, rfl⟩⟩
theorem bm_fp_4 : bm_FP (1, 37, 1, 4) := ⟨_, _, _, rfl, by decide, rfl, lw_i1 (List.mem_of_getElem? (i := 138) rfl), rfl, by decide, rfl, _, rfl, fun _ => ⟨rfl, rfl⟩⟩
theorem bm_fp_5 : bm_FP (1, 43, 1, 5) := ⟨_, _, _, rfl, by decide, rfl, lw_i1 (List.mem_of_getElem? (i := 140) rfl), rfl, by decide, rfl, _, rfl, fun _ => ⟨rfl, rfl⟩⟩
theorem bm_fp_6 : bm_FP (1, 49, 1, 6) := ⟨_, _, _, rfl, by decide, rfl, lw_i1 (List.mem_of_getElem? (i := 142) rfl), rfl, by decide, rfl, _, rfl, fun _ => ⟨rfl, rfl⟩⟩
theorem bm_fp_7 : bm_FP (2, 19, 2, 0) := ⟨_, _, _, rfl, by decide, rfl, lw_i1 (List.mem_of_getElem? (i := 181) rfl), rfl, by decide, rfl, _, rfl, fun _ => ⟨rfl, rfl⟩⟩
theorem bm_fp_8 : bm_FP (2, 31, 2, 1) := ⟨_, _, _, rfl, by decide, rfl, lw_i1 (List.mem_of_getElem? (i := 182) rfl), rfl, by decide, rfl, _, rfl, fun _ => ⟨rfl, rfl⟩⟩
theorem bm_fp_9 : bm_FP (2, 37, 2, 2) := ⟨_, _, _, rfl, by decide, rfl, lw_i1 (List.mem_of_getElem? (i := 183) rfl), rfl, by decide, rfl, _, rfl, fun _ => ⟨rfl, rfl⟩⟩
theorem bm_fp_10 : bm_FP (2, 42, 2, 6) := ⟨_, _, _, rfl, by decide, rfl, lw_i1 (List.mem_of_getElem? (i := 188) rfl), rfl, by decide, rfl, _, rfl, rfl⟩
theorem bm_fp_11 : bm_FP (2, 57, 2, 8) := ⟨_, _, _, rfl, by decide, rfl, lw_i1 (List.mem_of_getElem? (i := 191) rfl), rfl, by decide, rfl, _, rfl, fun _ => ⟨rfl, rfl⟩⟩
theorem bm_fp_12 : bm_FP (2, 71, 2, 9) := ⟨_, _, _, rfl, by decide, rfl, lw_i1 (List.mem_of_getElem? (i := 193) rfl), rfl, by decide, rfl, _, rfl, fun _ => ⟨rfl, rfl⟩⟩
theorem bm_fp_13 : bm_FP (3, 19, 3, 1) := ⟨_, _, _, rfl, by decide, rfl, lw_i1 (List.mem_of_getElem? (i := 117) rfl), rfl, by decide, rfl, _, rfl, fun _ => ⟨rfl, rfl⟩⟩
theorem bm_fp_14 : bm_FP (4, 23, 4, 0) := ⟨_, _, _, rfl, by decide, rfl, lw_i1 (List.mem_of_getElem? (i := 158) rfl), rfl, by decide, rfl, _, rfl, fun _ => ⟨rfl, rfl⟩⟩
theorem bm_fp_15 : bm_FP (4, 41, 4, 1) := ⟨_, _, _, rfl, by decide, rfl, lw_i1 (List.mem_of_getElem? (i := 160) rfl), rfl, by decide, rfl, _, rfl, fun _ => ⟨rfl, rfl⟩⟩
theorem bm_fp_16 : bm_FP (4, 49, 4, 2) := ⟨_, _, _, rfl, by decide, rfl, lw_i1 (List.mem_of_getElem? (i := 162) rfl), rfl, by decide, rfl, _, rfl, fun _ => ⟨rfl, rfl⟩⟩
theorem bm_fp_17 : bm_FP (5, 19, 5, 5) := ⟨_, _, _, rfl, by decide, rfl, lw_i1 (List.mem_of_getElem? (i := 40) rfl), rfl, by decide, rfl, _, rfl, fun _ => ⟨rfl, rfl⟩⟩
theorem bm_fp_18 : bm_FP (5, 31, 5, 6) := ⟨_, _, _, rfl, by decide, rfl, lw_i1 (List.mem_of_getElem? (i := 42) rfl), rfl, by decide, rfl, _, rfl, fun _ => ⟨rfl, rfl⟩⟩
theorem bm_fp_19 : bm_FP (5, 37, 5, 7) := ⟨_, _, _, rfl, by decide, rfl, lw_i1 (List.mem_of_getElem? (i := 44) rfl), rfl, by decide, rfl, _, rfl, fun _ => ⟨rfl, rfl⟩⟩
theorem bm_fp_20 : bm_FP (5, 43, 5, 8) := ⟨_, _, _, rfl, by decide, rfl, lw_i1 (List.mem_of_getElem? (i := 46) rfl), rfl, by decide, rfl, _, rfl, fun _ => ⟨rfl, rfl⟩⟩
theorem bm_fp_21 : bm_FP (5, 49, 5, 9) := ⟨_, _, _, rfl, by decide, rfl, lw_i1 (List.mem_of_getElem? (i := 48) rfl), rfl, by decide, rfl, _, rfl, fun _ => ⟨rfl, rfl⟩⟩
theorem bm_fp_22 : bm_FP (5, 55, 5, 10) := ⟨_, _, _, rfl, by decide, rfl, lw_i1 (List.mem_of_getElem? (i := 50) rfl), rfl, by decide, rfl, _, rfl, fun _ => ⟨rfl, rfl⟩⟩
theorem bm_fp_23 : bm_FP (5, 61, 5, 11) := ⟨_, _, _, rfl, by decide, rfl, lw_i1 (List.mem_of_getElem? (i := 52) rfl), rfl, by decide, rfl, _, rfl, fun _ => ⟨rfl, rfl⟩⟩
theorem bm_fp_24 : bm_FP (5, 67, 5, 12) := ⟨_, _, _, rfl, by decide, rfl, lw_i1 (List.mem_of_getElem? (i := 54) rfl), rfl, by decide, rfl, _, rfl, fun _ => ⟨rfl, rfl⟩⟩
theorem bm_fp_25 : bm_FP (5, 73, 5, 13) := ⟨_, _, _, rfl, by decide, rfl, lw_i1 (List.mem_of_getElem? (i := 56) rfl), rfl, by decide, rfl, _, rfl, fun _ => ⟨rfl, rfl⟩⟩
theorem bm_fp_26 : bm_FP (5, 79, 5, 14) := ⟨_, _, _, rfl, by decide, rfl, lw_i1 (List.mem_of_getElem? (i := 58) rfl), rfl, by decide, rfl, _, rfl, fun _ => ⟨rfl, rfl⟩⟩
theorem bm_fp_27 : bm_FP (5, 85, 5, 15) := ⟨_, _, _, rfl, by decide, rfl, lw_i1 (List.mem_of_getElem? (i := 60) rfl), rfl, by decide, rfl, _, rfl, fun _ => ⟨rfl, rfl⟩⟩
theorem bm_fp_28 : bm_FP (5, 91, 5, 16) := ⟨_, _, _, rfl, by decide, rfl, lw_i1 (List.mem_of_getElem? (i := 62) rfl), rfl, by decide, rfl, _, rfl, fun _ => ⟨rfl, rfl⟩⟩
theorem bm_fp_29 : bm_FP (6, 21, 6, 0) := ⟨_, _, _, rfl, by decide, rfl, lw_i1 (List.mem_of_getElem? (i := 233) rfl), rfl, by decide, rfl, _, rfl, fun _ => ⟨rfl, rfl⟩⟩
theorem bm_fp_30 : bm_FP (6, 33, 6, 1) := ⟨_, _, _, rfl, by decide, rfl, lw_i1 (List.mem_of_getElem? (i := 234) rfl), rfl, by decide, rfl, _, rfl, fun _ => ⟨rfl, rfl⟩⟩
theorem bm_fp_31 : bm_FP (6, 39, 6, 2) := ⟨_, _, _, rfl, by decide, rfl, lw_i1 (List.mem_of_getElem? (i := 235) rfl), rfl, by decide, rfl, _, rfl, fun _ => ⟨rfl, rfl⟩⟩
theorem bm_fp_32 : bm_FP (6, 53, 6, 5) := ⟨_, _, _, rfl, by decide, rfl, lw_i1 (List.mem_of_getElem? (i := 238) rfl), rfl, by decide, rfl, _, rfl, fun _ => ⟨rfl, rfl⟩⟩
theorem bm_fp_33 : bm_FP (6, 61, 6, 6) := ⟨_, _, _, rfl, by decide, rfl, lw_i1 (List.mem_of_getElem? (i := 239) rfl), rfl, by decide, rfl, _, rfl, fun _ => ⟨rfl, rfl⟩⟩
theorem bm_fp_34 : bm_FP (6, 69, 6, 7) := ⟨_, _, _, rfl, by decide, rfl, lw_i2 (List.mem_of_getElem? (i := 0) rfl), rfl, by decide, rfl, _, rfl, fun _ => ⟨rfl, rfl⟩⟩
theorem bm_fp_35 : bm_FP (6, 75, 6, 8) := ⟨_, _, _, rfl, by decide, rfl, lw_i2 (List.mem_of_getElem? (i := 1) rfl), rfl, by decide, rfl, _, rfl, fun _ => ⟨rfl, rfl⟩⟩
theorem bm_fp_36 : bm_FP (6, 81, 6, 9) := ⟨_, _, _, rfl, by decide, rfl, lw_i2 (List.mem_of_getElem? (i := 2) rfl), rfl, by decide, rfl, _, rfl, fun _ => ⟨rfl, rfl⟩⟩
theorem bm_fp_37 : bm_FP (6, 87, 6, 11) := ⟨_, _, _, rfl, by decide, rfl, lw_i2 (List.mem_of_getElem? (i := 4) rfl), rfl, by decide, rfl, _, rfl, fun _ => ⟨rfl, rfl⟩⟩
theorem bm_fp_38 : bm_FP (6, 101, 6, 13) := ⟨_, _, _, rfl, by decide, rfl, lw_i2 (List.mem_of_getElem? (i := 6) rfl), rfl, by decide, rfl, _, rfl, fun _ => ⟨rfl, rfl⟩⟩
theorem bm_fp_39 : bm_FP (6, 115, 6, 14) := ⟨_, _, _, rfl, by decide, rfl, lw_i2 (List.mem_of_getElem? (i := 7) rfl), rfl, by decide, rfl, _, rfl, fun _ => ⟨rfl, rfl⟩⟩
theorem bm_fp_40 : bm_FP (6, 123, 6, 15) := ⟨_, _, _, rfl, by decide, rfl, lw_i2 (List.mem_of_getElem? (i := 8) rfl), rfl, by decide, rfl, _, rfl, fun _ => ⟨rfl, rfl⟩⟩
theorem bm_fp_41 : bm_FP (7, 15, 7, 0) := ⟨_, _, _, rfl, by decide, rfl, lw_i4 (List.mem_of_getElem? (i := 132) rfl), rfl, by decide, rfl, _, rfl, fun _ => ⟨rfl, rfl⟩⟩
theorem bm_fp_42 : bm_FP (7, 27, 7, 1) := ⟨_, _, _, rfl, by decide, rfl, lw_i4 (List.mem_of_getElem? (i := 133) rfl), rfl, by decide, rfl, _, rfl, fun _ => ⟨rfl, rfl⟩⟩
theorem bm_fp_43 : bm_FP (7, 33, 7, 2) := ⟨_, _, _, rfl, by decide, rfl, lw_i4 (List.mem_of_getElem? (i := 134) rfl), rfl, by decide, rfl, _, rfl, fun _ => ⟨rfl, rfl⟩⟩
theorem bm_fp_44 : bm_FP (7, 39, 7, 3) := ⟨_, _, _, rfl, by decide, rfl, lw_i4 (List.mem_of_getElem? (i := 135) rfl), rfl, by decide, rfl, _, rfl, fun _ => ⟨rfl, rfl⟩⟩
theorem bm_fp_45 : bm_FP (7, 45, 7, 6) := ⟨_, _, _, rfl, by decide, rfl, lw_i4 (List.mem_of_getElem? (i := 138) rfl), rfl, by decide, rfl, _, rfl, fun _ => ⟨rfl, rfl⟩⟩
theorem bm_fp_46 : bm_FP (7, 51, 7, 7) := ⟨_, _, _, rfl, by decide, rfl, lw_i4 (List.mem_of_getElem? (i := 139) rfl), rfl, by decide, rfl, _, rfl, fun _ => ⟨rfl, rfl⟩⟩
theorem bm_fp_47 : bm_FP (7, 57, 7, 8) := ⟨_, _, _, rfl, by decide, rfl, lw_i4 (List.mem_of_getElem? (i := 140) rfl), rfl, by decide, rfl, _, rfl, fun _ => ⟨rfl, rfl⟩⟩
theorem bm_fp_48 : bm_FP (7, 63, 7, 9) := ⟨_, _, _, rfl, by decide, rfl, lw_i4 (List.mem_of_getElem? (i := 141) rfl), rfl, by decide, rfl, _, rfl, fun _ => ⟨rfl, rfl⟩⟩
theorem bm_fp_49 : bm_FP (7, 69, 7, 10) := ⟨_, _, _, rfl, by decide, rfl, lw_i4 (List.mem_of_getElem? (i := 142) rfl), rfl, by decide, rfl, _, rfl, fun _ => ⟨rfl, rfl⟩⟩
theorem bm_fp_50 : bm_FP (7, 75, 7, 11) := ⟨_, _, _, rfl, by decide, rfl, lw_i4 (List.mem_of_getElem? (i := 143) rfl), rfl, by decide, rfl, _, rfl, fun _ => ⟨rfl, rfl⟩⟩
theorem bm_fp_51 : bm_FP (7, 80, 7, 25) := ⟨_, _, _, rfl, by decide, rfl, lw_i4 (List.mem_of_getElem? (i := 157) rfl), rfl, by decide, rfl, _, rfl, rfl⟩
theorem bm_fp_52 : bm_FP (7, 89, 7, 29) := ⟨_, _, _, rfl, by decide, rfl, lw_i4 (List.mem_of_getElem? (i := 161) rfl), rfl, by decide, rfl, _, rfl, fun _ => ⟨rfl, rfl⟩⟩
theorem bm_fp_53 : bm_FP (7, 95, 7, 30) := ⟨_, _, _, rfl, by decide, rfl, lw_i4 (List.mem_of_getElem? (i := 162) rfl), rfl, by decide, rfl, _, rfl, fun _ => ⟨rfl, rfl⟩⟩
theorem bm_fp_all : ∀ q ∈ bm_fp, bm_FP q := List.forall_mem_cons.mpr ⟨bm_fp_0, List.forall_mem_cons.mpr ⟨bm_fp_1, List.forall_mem_cons.mpr ⟨bm_fp_2, List.forall_mem_cons.mpr ⟨bm_fp_3, List.forall_mem_cons.mpr ⟨bm_fp_4, List.forall_mem_cons.mpr ⟨bm_fp_5, List.forall_mem_cons.mpr ⟨bm_fp_6, List.forall_mem_cons.mpr ⟨bm_fp_7, List.forall_mem_cons.mpr ⟨bm_fp_8, List.forall_mem_cons.mpr ⟨bm_fp_9, List.forall_mem_cons.mpr ⟨bm_fp_10, List.forall_mem_cons.mpr ⟨bm_fp_11, List.forall_mem_cons.mpr ⟨bm_fp_12, List.forall_mem_cons.mpr ⟨bm_fp_13, List.forall_mem_cons.mpr ⟨bm_fp_14, List.forall_mem_cons.mpr ⟨bm_fp_15, List.forall_mem_cons.mpr ⟨bm_fp_16, List.forall_mem_cons.mpr ⟨bm_fp_17, List.forall_mem_cons.mpr ⟨bm_fp_18, List.forall_mem_cons.mpr ⟨bm_fp_19, List.forall_mem_cons.mpr ⟨bm_fp_20, List.forall_mem_cons.mpr ⟨bm_fp_21, List.forall_mem_cons.mpr ⟨bm_fp_22, List.forall_mem_cons.mpr ⟨bm_fp_23, List.forall_mem_cons.mpr ⟨bm_fp_24, List.forall_mem_cons.mpr ⟨bm_fp_25, List.forall_mem_cons.mpr ⟨bm_fp_26, List.forall_mem_cons.mpr ⟨bm_fp_27, List.forall_mem_cons.mpr ⟨bm_fp_28, List.forall_mem_cons.mpr ⟨bm_fp_29, List.forall_mem_cons.mpr ⟨bm_fp_30, List.forall_mem_cons.mpr ⟨bm_fp_31, List.forall_mem_cons.mpr ⟨bm_fp_32, List.forall_mem_cons.mpr ⟨bm_fp_33, List.forall_mem_cons.mpr ⟨bm_fp_34, List.forall_mem_cons.mpr ⟨bm_fp_35, List.forall_mem_cons.mpr ⟨bm_fp_36, List.forall_mem_cons.mpr ⟨bm_fp_37, List.forall_mem_cons.mpr ⟨bm_fp_38, List.forall_mem_cons.mpr ⟨bm_fp_39, List.forall_mem_cons.mpr ⟨bm_fp_40, List.forall_mem_cons.mpr ⟨bm_fp_41, List.forall_mem_cons.mpr ⟨bm_fp_42, List.forall_mem_cons.mpr ⟨bm_fp_43, List.forall_mem_cons.mpr ⟨bm_fp_44, List.forall_mem_cons.mpr ⟨bm_fp_45, List.forall_mem_cons.mpr ⟨bm_fp_46, List.forall_mem_cons.mpr ⟨bm_fp_47, List.forall_mem_cons.mpr ⟨bm_fp_48, List.forall_mem_cons.mpr ⟨bm_fp_49, List.forall_mem_cons.mpr ⟨bm_fp_50, List.forall_mem_cons.mpr ⟨bm_fp_51, List.forall_mem_cons.mpr ⟨bm_fp_52, List.forall_mem_cons.mpr ⟨bm_fp_53, fun _ h => absurd h List.not_mem_nil⟩⟩⟩⟩⟩⟩⟩⟩⟩⟩⟩⟩⟩⟩⟩⟩⟩⟩⟩⟩⟩⟩⟩⟩⟩⟩⟩⟩⟩⟩⟩⟩⟩⟩⟩⟩⟩⟩⟩⟩⟩⟩⟩⟩⟩⟩⟩⟩⟩⟩⟩⟩⟩⟩
theorem bm_nw_0 : bm_NW (2, 25, 1) := ⟨lw_i1 (List.mem_of_getElem? (i := 177) rfl), lw_i1 (List.mem_of_getElem? (i := 124) rfl), lw_i1 (List.mem_of_getElem? (i := 5) rfl), by decide⟩
theorem bm_nw_1 : bm_NW (2, 32, 3) := ⟨lw_i1 (List.mem_of_getElem? (i := 179) rfl), lw_i1 (List.mem_of_getElem? (i := 109) rfl), lw_i1 (List.mem_of_getElem? (i := 4) rfl), by decide⟩
theorem bm_nw_2 : bm_NW (4, 17, 3) := ⟨lw_i1 (List.mem_of_getElem? (i := 108) rfl), lw_i1 (List.mem_of_getElem? (i := 109) rfl), lw_i1 (List.mem_of_getElem? (i := 4) rfl), by decide⟩
theorem bm_nw_3 : bm_NW (4, 9, 1) := ⟨lw_i1 (List.mem_of_getElem? (i := 106) rfl), lw_i1 (List.mem_of_getElem? (i := 124) rfl), lw_i1 (List.mem_of_getElem? (i := 5) rfl), by decide⟩
theorem bm_nw_4 : bm_NW (6, 7, 5) := ⟨lw_i1 (List.mem_of_getElem? (i := 24) rfl), lw_i1 (List.mem_of_getElem? (i := 25) rfl), lw_i1 (List.mem_of_getElem? (i := 2) rfl), by decide⟩
theorem bm_nw_5 : bm_NW (6, 23, 4) := ⟨lw_i1 (List.mem_of_getElem? (i := 100) rfl), lw_i1 (List.mem_of_getElem? (i := 101) rfl), lw_i1 (List.mem_of_getElem? (i := 3) rfl), by decide⟩
theorem bm_nw_6 : bm_NW (6, 47, 2) := ⟨lw_i1 (List.mem_of_getElem? (i := 171) rfl), lw_i1 (List.mem_of_getElem? (i := 172) rfl), lw_i1 (List.mem_of_getElem? (i := 6) rfl), by decide⟩
theorem bm_nw_7 : bm_NW (6, 54, 0) := ⟨lw_i1 (List.mem_of_getElem? (i := 217) rfl), lw_i1 (List.mem_of_getElem? (i := 218) rfl), lw_i1 (List.mem_of_getElem? (i := 7) rfl), by decide⟩
theorem bm_nw_8 : bm_NW (8, 7, 6) := ⟨lw_i1 (List.mem_of_getElem? (i := 16) rfl), lw_i1 (List.mem_of_getElem? (i := 17) rfl), lw_i1 (List.mem_of_getElem? (i := 1) rfl), by decide⟩
theorem bm_nw_9 : bm_NW (8, 10, 7) := ⟨lw_i4 (List.mem_of_getElem? (i := 126) rfl), lw_i4 (List.mem_of_getElem? (i := 127) rfl), lw_i1 (List.mem_of_getElem? (i := 8) rfl), by decide⟩
theorem bm_nw_all : ∀ q ∈ bm_nw, bm_NW q := List.forall_mem_cons.mpr ⟨bm_nw_0, List.forall_mem_cons.mpr ⟨bm_nw_1, List.forall_mem_cons.mpr ⟨bm_nw_2, List.forall_mem_cons.mpr ⟨bm_nw_3, List.forall_mem_cons.mpr ⟨bm_nw_4, List.forall_mem_cons.mpr ⟨bm_nw_5, List.forall_mem_cons.mpr ⟨bm_nw_6, List.forall_mem_cons.mpr ⟨bm_nw_7, List.forall_mem_cons.mpr ⟨bm_nw_8, List.forall_mem_cons.mpr ⟨bm_nw_9, fun _ h => absurd h List.not_mem_nil⟩⟩⟩⟩⟩⟩⟩⟩⟩⟩
theorem bm_an_0 : bm_AN (4, 9, 14) := lw_i1 (List.mem_of_getElem? (i := 106) rfl)
theorem bm_an_1 : bm_AN (6, 7, 11) := lw_i1 (List.mem_of_getElem? (i := 24) rfl)
theorem bm_an_all : ∀ q ∈ bm_an, bm_AN q := List.forall_mem_cons.mpr ⟨bm_an_0, List.forall_mem_cons.mpr ⟨bm_an_1, fun _ h => absurd h List.not_mem_nil⟩⟩
theorem bm_iv_0 : bm_IV (2, 27, 1, 1) := ⟨lw_i1 (List.mem_of_getElem? (i := 178) rfl), by decide⟩
theorem bm_iv_1 : bm_IV (2, 34, 3, 1) := ⟨lw_i1 (List.mem_of_getElem? (i := 180) rfl), by decide⟩
theorem bm_iv_2 : bm_IV (4, 19, 3, 1) := ⟨lw_i1 (List.mem_of_getElem? (i := 110) rfl), by decide⟩
theorem bm_iv_3 : bm_IV (4, 27, 1, 1) := ⟨lw_i1 (List.mem_of_getElem? (i := 125) rfl), by decide⟩
theorem bm_iv_4 : bm_IV (6, 9, 5, 1) := ⟨lw_i1 (List.mem_of_getElem? (i := 26) rfl), by decide⟩
theorem bm_iv_5 : bm_IV (6, 25, 4, 0) := ⟨lw_i1 (List.mem_of_getElem? (i := 102) rfl), by decide⟩
theorem bm_iv_6 : bm_IV (6, 49, 2, 1) := ⟨lw_i1 (List.mem_of_getElem? (i := 173) rfl), by decide⟩
theorem bm_iv_7 : bm_IV (6, 56, 0, 1) := ⟨lw_i1 (List.mem_of_getElem? (i := 219) rfl), by decide⟩
theorem bm_iv_8 : bm_IV (8, 9, 6, 0) := ⟨lw_i1 (List.mem_of_getElem? (i := 18) rfl), by decide⟩
theorem bm_iv_9 : bm_IV (8, 12, 7, 0) := ⟨lw_i4 (List.mem_of_getElem? (i := 128) rfl), by decide⟩
theorem bm_iv_all : ∀ q ∈ bm_iv, bm_IV q := List.forall_mem_cons.mpr ⟨bm_iv_0, List.forall_mem_cons.mpr ⟨bm_iv_1, List.forall_mem_cons.mpr ⟨bm_iv_2, List.forall_mem_cons.mpr ⟨bm_iv_3, List.forall_mem_cons.mpr ⟨bm_iv_4, List.forall_mem_cons.mpr ⟨bm_iv_5, List.forall_mem_cons.mpr ⟨bm_iv_6, List.forall_mem_cons.mpr ⟨bm_iv_7, List.forall_mem_cons.mpr ⟨bm_iv_8, List.forall_mem_cons.mpr ⟨bm_iv_9, fun _ h => absurd h List.not_mem_nil⟩⟩⟩⟩⟩⟩⟩⟩⟩⟩
theorem bm_oi_0 : bm_OI (0, 3) := lw_i1 (List.mem_of_getElem? (i := 222) rfl)
theorem bm_oi_1 : bm_OI (1, 3) := lw_i1 (List.mem_of_getElem? (i := 128) rfl)
theorem bm_oi_2 : bm_OI (2, 3) := lw_i1 (List.mem_of_getElem? (i := 176) rfl)
theorem bm_oi_3 : bm_OI (3, 3) := lw_i1 (List.mem_of_getElem? (i := 113) rfl)
theorem bm_oi_4 : bm_OI (4, 3) := lw_i1 (List.mem_of_getElem? (i := 105) rfl)
theorem bm_oi_5 : bm_OI (5, 3) := lw_i1 (List.mem_of_getElem? (i := 29) rfl)
theorem bm_oi_6 : bm_OI (6, 1) := lw_i1 (List.mem_of_getElem? (i := 21) rfl)
theorem bm_oi_7 : bm_OI (7, 1) := lw_i4 (List.mem_of_getElem? (i := 131) rfl)
theorem bm_oi_all : ∀ q ∈ bm_oi, bm_OI q := List.forall_mem_cons.mpr ⟨bm_oi_0, List.forall_mem_cons.mpr ⟨bm_oi_1, List.forall_mem_cons.mpr ⟨bm_oi_2, List.forall_mem_cons.mpr ⟨bm_oi_3, List.forall_mem_cons.mpr ⟨bm_oi_4, List.forall_mem_cons.mpr ⟨bm_oi_5, List.forall_mem_cons.mpr ⟨bm_oi_6, List.forall_mem_cons.mpr ⟨bm_oi_7, fun _ h => absurd h List.not_mem_nil⟩⟩⟩⟩⟩⟩⟩⟩
theorem bm_mf0 : bm_MF 0 := ⟨by decide +kernel, lw_i1 (List.mem_of_getElem? (i := 221) rfl), ⟨by decide +kernel, by decide +kernel, by decide +kernel⟩, lw_i1 (List.mem_of_getElem? (i := 220) rfl), lw_i1 (List.mem_of_getElem? (i := 7) rfl)⟩
theorem bm_mf1 : bm_MF 1 := ⟨by decide +kernel, lw_i1 (List.mem_of_getElem? (i := 127) rfl), ⟨by decide +kernel, by decide +kernel, by decide +kernel⟩, lw_i1 (List.mem_of_getElem? (i := 126) rfl), lw_i1 (List.mem_of_getElem? (i := 5) rfl)⟩
theorem bm_mf2 : bm_MF 2 := ⟨by decide +kernel, lw_i1 (List.mem_of_getElem? (i := 175) rfl), ⟨by decide +kernel, by decide +kernel, by decide +kernel⟩, lw_i1 (List.mem_of_getElem? (i := 174) rfl), lw_i1 (List.mem_of_getElem? (i := 6) rfl)⟩
theorem bm_mf3 : bm_MF 3 := ⟨by decide +kernel, lw_i1 (List.mem_of_getElem? (i := 112) rfl), ⟨by decide +kernel, by decide +kernel, by decide +kernel⟩, lw_i1 (List.mem_of_getElem? (i := 111) rfl), lw_i1 (List.mem_of_getElem? (i := 4) rfl)⟩
theorem bm_mf4 : bm_MF 4 := ⟨by decide +kernel, lw_i1 (List.mem_of_getElem? (i := 104) rfl), ⟨by decide +kernel, by decide +kernel, by decide +kernel⟩, lw_i1 (List.mem_of_getElem? (i := 103) rfl), lw_i1 (List.mem_of_getElem? (i := 3) rfl)⟩
theorem bm_mf5 : bm_MF 5 := ⟨by decide +kernel, lw_i1 (List.mem_of_getElem? (i := 28) rfl), ⟨by decide +kernel, by decide +kernel, by decide +kernel⟩, lw_i1 (List.mem_of_getElem? (i := 27) rfl), lw_i1 (List.mem_of_getElem? (i := 2) rfl)⟩
theorem bm_mf6 : bm_MF 6 := ⟨by decide +kernel, lw_i1 (List.mem_of_getElem? (i := 20) rfl), ⟨by decide +kernel, by decide +kernel, by decide +kernel⟩, lw_i1 (List.mem_of_getElem? (i := 19) rfl), lw_i1 (List.mem_of_getElem? (i := 1) rfl)⟩
theorem bm_mf7 : bm_MF 7 := ⟨by decide +kernel, lw_i4 (List.mem_of_getElem? (i := 130) rfl), ⟨by decide +kernel, by decide +kernel, by decide +kernel⟩, lw_i4 (List.mem_of_getElem? (i := 129) rfl), lw_i1 (List.mem_of_getElem? (i := 8) rfl)⟩
theorem bm_mf_all : ∀ ci, ci < 8 → bm_MF ci := lt_s (lt_s (lt_s (lt_s (lt_s (lt_s (lt_s (lt_s (lt_0) bm_mf0) bm_mf1) bm_mf2) bm_mf3) bm_mf4) bm_mf5) bm_mf6) bm_mf7
theorem bm_l_obj1 : Cond.instanceMethod Lib.objectInit ∈ lw_tbl := lw_i1 (List.mem_of_getElem? (i := 22) rfl)
theorem bm_l_obj2 : Cond.code Lib.objectInit ⟨#[0xb1]⟩ 1 none ∈ lw_tbl := lw_i1 (List.mem_of_getElem? (i := 23) rfl)
theorem bm_l_int : Cond.arrayClass .int ∈ lw_tbl := lw_i1 (List.mem_of_getElem? (i := 98) rfl)
theorem bm_l_char : Cond.arrayClass .char ∈ lw_tbl := lw_i1 (List.mem_of_getElem? (i := 216) rfl)
theorem bm_l_aoWorld : Cond.arrayOver (.object "LentHands$World") ∈ lw_tbl := lw_i1 (List.mem_of_getElem? (i := 99) rfl)
theorem bm_l_aoLaw : Cond.arrayOver (.object "LentHands$Law") ∈ lw_tbl := lw_i1 (List.mem_of_getElem? (i := 107) rfl)
theorem bm_df0 : ∀ k, k < 2 → defaultValue (tyX0 k) = if am_isr 0 k = true then .null else .int 0 := by decide +kernel
theorem bm_df1 : ∀ k, k < 7 → defaultValue (tyX1 k) = if am_isr 1 k = true then .null else .int 0 := by decide +kernel
theorem bm_df2 : ∀ k, k < 10 → defaultValue (tyX2 k) = if am_isr 2 k = true then .null else .int 0 := by decide +kernel
theorem bm_df3 : ∀ k, k < 2 → defaultValue (tyX3 k) = if am_isr 3 k = true then .null else .int 0 := by decide +kernel
theorem bm_df4 : ∀ k, k < 3 → defaultValue (tyX4 k) = if am_isr 4 k = true then .null else .int 0 := by decide +kernel
theorem bm_df5 : ∀ k, k < 17 → defaultValue (tyX5 k) = if am_isr 5 k = true then .null else .int 0 := by decide +kernel
theorem bm_df6 : ∀ k, k < 16 → defaultValue (tyX6 k) = if am_isr 6 k = true then .null else .int 0 := by decide +kernel
theorem bm_df7 : ∀ k, k < 36 → defaultValue (tyX7 k) = if am_isr 7 k = true then .null else .int 0 := by decide +kernel
theorem bm_cd_all : ∀ (ci : Nat) (q : vw_C), vwCl[ci]? = some q → ∃ ty : Nat → FieldType, (∀ k, k < q.2.2 → parseFieldDescriptor (q.2.1 k).2.2.1 = some (ty k)) ∧ ∀ k, k < q.2.2 → defaultValue (ty k) = if am_isr ci k = true then .null else .int 0 := by
  intro ci q h
  match ci, h with
  | 0, h => cases h; exact ⟨_, tyX0_ok, bm_df0⟩
  | 1, h => cases h; exact ⟨_, tyX1_ok, bm_df1⟩
  | 2, h => cases h; exact ⟨_, tyX2_ok, bm_df2⟩
  | 3, h => cases h; exact ⟨_, tyX3_ok, bm_df3⟩
  | 4, h => cases h; exact ⟨_, tyX4_ok, bm_df4⟩
  | 5, h => cases h; exact ⟨_, tyX5_ok, bm_df5⟩
  | 6, h => cases h; exact ⟨_, tyX6_ok, bm_df6⟩
  | 7, h => cases h; exact ⟨_, tyX7_ok, bm_df7⟩
  | k + 8, h => simp [vwCl] at h
end
section
/-! START: the building machine is sound -/
section BW
variable (D : va_G) (ad : Nat → Nat) (cA : Nat → ClassId)
def bm_fld (M : am_M) (k ci : Nat) (j : Nat) : Value := if am_isr ci j = true then (if M k j = 1 then .ref (ad (am_rf k j)) else .null) else .int (Int32.ofInt (M k j))
def bm_fs (M : am_M) (k ci : Nat) : List Value := (List.range (am_nf ci)).map (bm_fld ad M k ci)
def bm_rrow (M : am_M) (k : Nat) : Nat → Option Nat := fun j => if M k j = 1 then some (ad (am_rf k j)) else none
def bm_cell (M : am_M) (k : Nat) : va_E :=
  if am_cls k = 9 ∨ am_cls k = 10 then .inl (cA (am_cls k), am_ln k, .inl (am_row M k))
  else if am_cls k = 11 ∨ am_cls k = 14 then .inl (cA (am_cls k), am_ln k, .inr (.inr (.inr (.inr (bm_rrow ad M k)))))
  else .inr (am_cls k, bm_fs ad M k (am_cls k))
def bm_ws (M : am_M) (n : Nat) : va_W := (List.range n).map (fun k => (ad k, bm_cell ad cA M k))
theorem bm_ws_get (M : am_M) {k n : Nat} (h : k < n) : (bm_ws ad cA M n)[k]? = some (ad k, bm_cell ad cA M k) := by
  simp [bm_ws, List.getElem?_map, List.getElem?_range h]
theorem bm_ws_len (M : am_M) (n : Nat) : (bm_ws ad cA M n).length = n := by simp [bm_ws]
theorem bm_ws_push (M : am_M) (n : Nat) : bm_ws ad cA M (n + 1) = bm_ws ad cA M n ++ [(ad n, bm_cell ad cA M n)] := by
  simp [bm_ws, List.range_succ]
theorem bm_ws_set {M M' : am_M} {k n : Nat} (hk : k < n) {e : va_E} (he : bm_cell ad cA M' k = e) (ho : ∀ b, b ≠ k → M' b = M b) : (bm_ws ad cA M n).set k (ad k, e) = bm_ws ad cA M' n := by
  apply List.ext_getElem?
  intro j
  rw [List.getElem?_set, bm_ws_len]
  by_cases hj : k = j
  · subst hj
    rw [if_pos rfl, if_pos hk, bm_ws_get ad cA M' hk, he]
  · rw [if_neg hj]
    rcases Nat.lt_or_ge j n with h | h
    · rw [bm_ws_get ad cA M h, bm_ws_get ad cA M' h]
      have e1 := ho j (fun q => hj q.symm)
      have hr : am_row M' j = am_row M j := by funext i; simp only [am_row, e1]
      have hg : bm_fld ad M' j (am_cls j) = bm_fld ad M j (am_cls j) := by funext i; simp only [bm_fld, e1]
      have hf : bm_fs ad M' j (am_cls j) = bm_fs ad M j (am_cls j) := by simp only [bm_fs, hg]
      have hq : bm_rrow ad M' j = bm_rrow ad M j := by funext i; simp only [bm_rrow, e1]
      simp only [bm_cell, hr, hf, hq]
    · rw [List.getElem?_eq_none (by rw [bm_ws_len]; exact h), List.getElem?_eq_none (by rw [bm_ws_len]; exact h)]
theorem bm_ws_o {M : am_M} {q ci n : Nat} (hq : q < n) (hc : am_cls q = ci) (h8 : ci < 8) : (bm_ws ad cA M n)[q]? = some (ad q, .inr (ci, bm_fs ad M q ci)) := by
  rw [bm_ws_get ad cA M hq, bm_cell, if_neg (by omega), if_neg (by omega), hc]
theorem bm_ws_q {M : am_M} {q k n : Nat} (hq : q < n) (hc : am_cls q = k) (hk : k = 11 ∨ k = 14) : (bm_ws ad cA M n)[q]? = some (ad q, .inl (cA k, am_ln q, .inr (.inr (.inr (.inr (bm_rrow ad M q)))))) := by
  rw [bm_ws_get ad cA M hq, bm_cell, if_neg (by omega), if_pos (by omega), hc]
theorem bm_fs_get {M : am_M} {q ci k : Nat} (h : k < am_nf ci) : (bm_fs ad M q ci)[k]? = some (bm_fld ad M q ci k) := by
  rw [bm_fs, List.getElem?_map, List.getElem?_range h]
  rfl
theorem bm_set_f {M : am_M} {k ci j n : Nat} {x : Int} {v : Value} (hk : am_cls k = ci) (hc : ci < 8) (hn : k < n) (hv : bm_fld ad (am_upd M k j x) k ci j = v) : (bm_ws ad cA M n).set k (ad k, .inr (ci, (bm_fs ad M k ci).set j v)) = bm_ws ad cA (am_upd M k j x) n := by
  refine bm_ws_set ad cA hn ?_ (am_upd_other M k j x)
  have h9 : ¬ (am_cls k = 9 ∨ am_cls k = 10) := by omega
  have h11 : ¬ (am_cls k = 11 ∨ am_cls k = 14) := by omega
  rw [bm_cell, if_neg h9, if_neg h11, hk]
  congr 2
  apply List.ext_getElem?
  intro i
  simp only [bm_fs, List.getElem?_set, List.getElem?_map, List.length_map, List.length_range]
  by_cases hi : i < am_nf ci
  · rw [List.getElem?_range hi]
    by_cases hj : j = i
    · subst hj
      simp [hi, hv]
    · have hj' : ¬ (i : Int) = (j : Int) := by omega
      simp [hj, bm_fld, am_upd, hj']
  · rw [List.getElem?_eq_none (by simp; omega)]
    by_cases hj : j = i
    · subst hj
      simp [hi]
    · simp [hj]
theorem bm_set_q {M : am_M} {k c n : Nat} {i : Int} (hk : am_cls k = c) (hc : c = 11 ∨ c = 14) (hn : k < n) (hi : 0 ≤ i) : (bm_ws ad cA M n).set k (ad k, .inl (cA c, am_ln k, .inr (.inr (.inr (.inr (va_up (bm_rrow ad M k) i.toNat (some (ad (am_rf k i))))))))) = bm_ws ad cA (am_upd M k i 1) n := by
  refine bm_ws_set ad cA hn ?_ (am_upd_other M k i 1)
  rw [bm_cell, if_neg (by omega), if_pos (by omega), hk]
  congr 7
  funext j
  simp only [bm_rrow, va_up, am_upd]
  by_cases hj : j = i.toNat
  · rw [if_pos hj, if_pos (if_pos ⟨trivial, by omega⟩), show (j : Int) = i from by omega]
  · have hj2 : ¬ (j : Int) = i := by omega
    simp only [hj, hj2, and_false, if_false]
end BW
def bm_St (U : State) : Prop := (∀ q ∈ bm_iv, q.2.2.2 = 1 → va_Nw (.methodLinkNest (am_cn q.1) q.2.1 (bm_y q.2.2.1) "LentHands") U) ∧ va_AO "LentHands$World" U ∧ va_AO "LentHands$Law" U
def bm_Wd (D : va_G) (ad : Nat → Nat) (cA : Nat → ClassId) (b0 : Nat) (M : am_M) (n : Nat) (H : Heap) : Prop := va_P D vwCl (bm_ws ad cA M n) H ∧ H.size = b0 + n ∧ n ≤ 199 ∧ ∀ k, n ≤ k → k < 199 → ∀ j, M k j = 0
def bm_A (b0 : Nat) : Nat → Prop := fun q => b0 ≤ q
def bm_Cx (p : Program) (R : Room) (s : State) (m : MethodId) (args : Array Value) (c : Code) (D : va_G) (ad : Nat → Nat) (cA : Nat → ClassId) (b0 n0 own nL : Nat) (cc : ByteArray) : Prop :=
  p.tables.exec = Jvm.exec ∧ c.code = cc ∧ c.maxLocals = nL ∧ s.vm.findClass (am_cn own) = some m.cls ∧ (∀ w ∈ lw_gd, w.before args s = true) ∧ va_K D vwCl (am_tys cA) s ∧ bm_St s ∧ (∀ k, k < 199 → ad k = b0 + k) ∧ 1 ≤ R.frames ∧ 21 ≤ R.locals ∧ s.heap.size = b0 + n0
def bm_Go (p : Program) (l : Launch) (e : Env) (R : Room) (s : State) (m : MethodId) (args : Array Value) (below : List Frame) (meth : Method) (c : Code) (Q : State → Prop) (D : va_G) (ad : Nat → Nat) (cA : Nat → ClassId) (C : am_M) (b0 nL n0 z0 : Nat) (bp : Nat) (ls : List (Option am_V)) (st : List am_V) (n z : Nat) (M : am_M) : Prop :=
  ls.length = nL → (∀ v ∈ st, am_vok v) → ∀ (H : Heap) (locs : List Loc) (L : Array Slot), am_lok ad .null ls L → bm_Wd D ad cA b0 M n H → va_S (bm_A b0) s.heap H locs → n0 ≤ n → z0 ≤ z → W p l e R s m args below meth c H locs (n - n0) (z - z0) Q (F0 m bp L (st.map (am_enc ad .null)))
theorem bm_ad {ad : Nat → Nat} {b0 : Nat} (had : ∀ k, k < 199 → ad k = b0 + k) {a : Nat} (ha : a < 199) : am_rv ad .null a = .ref (ad a) := if_neg (by omega)
theorem bm_D {ad : Nat → Nat} {cA : Nat → ClassId} {b0 : Nat} (had : ∀ k, k < 199 → ad k = b0 + k) (M : am_M) {n : Nat} (hn : n ≤ 199) : va_D (bm_A b0) (bm_ws ad cA M n) := by
  have key : ∀ (i : Nat) (q : Nat × va_E), (bm_ws ad cA M n)[i]? = some q → i < n ∧ q.1 = ad i := by
    intro i q hq
    have hi : i < n := by
      have := (List.getElem?_eq_some_iff.mp hq).1
      rwa [bm_ws_len] at this
    rw [bm_ws_get ad cA M hi] at hq
    cases hq
    exact ⟨hi, rfl⟩
  refine ⟨fun i j p q hi hj e => ?_, fun k q hk => ?_⟩
  · obtain ⟨a1, a2⟩ := key i p hi
    obtain ⟨b1, b2⟩ := key j q hj
    rw [a2, b2, had i (by omega), had j (by omega)] at e
    omega
  · obtain ⟨a1, a2⟩ := key k q hk
    show b0 ≤ q.1
    rw [a2, had k (by omega)]
    omega
/-- what a row leaves, if nothing was made -/
theorem bm_W_row {D : va_G} {ad : Nat → Nat} {cA : Nat → ClassId} {b0 : Nat} {M : am_M} {n : Nat} {H H1 : Heap} {a : Nat} {i v : Int} (h : bm_Wd D ad cA b0 M n H) (ha : a < n) (hP : va_P D vwCl (bm_ws ad cA (am_upd M a i v) n) H1) (h1 : H.size ≤ H1.size) (h2 : H1.size ≤ b0 + n) : bm_Wd D ad cA b0 (am_upd M a i v) n H1 := by
  have := h.2.1
  refine ⟨hP, by omega, h.2.2.1, fun k h1 h2 j => ?_⟩
  rw [am_upd_other M a i v k (by omega)]
  exact h.2.2.2 k h1 h2 j
theorem bm_sz {p : Program} {l : Launch} {e : Env} {R : Room} {s : State} {m : MethodId} {args : Array Value} {below : List Frame} {meth : Method} {c : Code} {H : Heap} {locs : List Loc} {cells slots : Nat} {Q : State → Prop} {g : JFrame} (k : H.size ≤ s.heap.size + cells → W p l e R s m args below meth c H locs cells slots Q g) : W p l e R s m args below meth c H locs cells slots Q g := by
  intro T hT X
  have h := X.same.2.2.1
  exact k (by rw [← hT]; exact h) T hT X
theorem va_S_hh {A : Nat → Prop} {H0 H : Heap} {locs : List Loc} (h : va_S A H0 H locs) : va_S A H H locs := ⟨Nat.le_refl _, fun _ _ _ => rfl, h.2.2⟩
theorem va_S_tr {A : Nat → Prop} {H0 H H1 : Heap} {locs locs1 : List Loc} (h : va_S A H0 H locs) (h1 : va_S A H H1 locs1) : va_S A H0 H1 locs1 := ⟨Nat.le_trans h.1 h1.1, fun q a b => (h1.2.1 q (Nat.lt_of_lt_of_le a h.1) b).trans (h.2.1 q a b), h1.2.2⟩
/-- a new cell: its address is the next -/
theorem bm_push {D : va_G} {ad : Nat → Nat} {cA : Nat → ClassId} {b0 : Nat} {M : am_M} {n q : Nat} {ev : va_E} {H H1 : Heap} (had : ∀ k, k < 199 → ad k = b0 + k) (h : bm_Wd D ad cA b0 M n H) (hn : n < 199) (hP : va_P D vwCl (bm_ws ad cA M n ++ [(q, ev)]) H1) (hD : va_D (bm_A b0) (bm_ws ad cA M n ++ [(q, ev)])) (h2 : H1.size ≤ b0 + n + 1) (he : ∀ H2 : Heap, va_at D vwCl (ad n, ev) H2 → va_at D vwCl (ad n, bm_cell ad cA M n) H2) : q = ad n ∧ bm_Wd D ad cA b0 M (n + 1) H1 := by
  have hl : (bm_ws ad cA M n).length = n := bm_ws_len ad cA M n
  have g1 : (bm_ws ad cA M n ++ [(q, ev)])[n]? = some (q, ev) := by
    rw [List.getElem?_append_right (by rw [hl]; exact Nat.le_refl _), hl, Nat.sub_self]
    rfl
  have hq : q < H1.size := (hP n _ g1).lt
  have hb : b0 ≤ q := hD.2 n _ g1
  have hne : ∀ k, k < n → q ≠ b0 + k := by
    intro k hk e
    have g2 : (bm_ws ad cA M n ++ [(q, ev)])[k]? = some (ad k, bm_cell ad cA M k) := by
      rw [List.getElem?_append_left (by rw [hl]; exact hk)]
      exact bm_ws_get ad cA M hk
    have := hD.1 n k _ _ g1 g2 (by show q = ad k; rw [had k (by omega), e])
    omega
  have e1 : q = b0 + n := by
    rcases Nat.lt_or_ge q (b0 + n) with h | h
    · exact absurd (by omega : q = b0 + (q - b0)) (hne (q - b0) (by omega))
    · omega
  have e2 : q = ad n := by rw [had n hn, e1]
  refine ⟨e2, ?_, by omega, by omega, fun k h1 h2 j => h.2.2.2 k (by omega) h2 j⟩
  rw [bm_ws_push]
  intro k x hx
  rcases Nat.lt_or_ge k n with hk | hk
  · rw [List.getElem?_append_left (by rw [hl]; exact hk)] at hx
    exact hP k x (by rw [List.getElem?_append_left (by rw [hl]; exact hk)]; exact hx)
  · rw [List.getElem?_append_right (by rw [hl]; exact hk), hl] at hx
    have hz : k - n < 1 := (List.getElem?_eq_some_iff.mp hx).1
    rw [show k - n = 0 from by omega] at hx
    cases hx
    have := hP n _ g1
    rw [e2] at this
    exact he H1 this
def bm_SS (p : Program) (l : Launch) (e : Env) (R : Room) (s : State) (m : MethodId) (args : Array Value) (below : List Frame) (meth : Method) (c : Code) (Q : State → Prop) (D : va_G) (ad : Nat → Nat) (cA : Nat → ClassId) (C : am_M) (b0 own nL n0 z0 : Nat) (cc : ByteArray) (ps : List Nat) (call : Nat → List am_V → Nat → Nat → am_M → bm_R) (res : Nat × Nat × am_M) (ai : am_I) : Prop :=
  ∀ bp nx, bm_dec own cc ps bp nx ai = true → ∀ ls st n z M ks kj, bm_stp call ai ls st n z M ks kj = some res → (∀ l' s' n' z' m', ks l' s' n' z' m' = some res → (n' ≤ res.1 ∧ z' ≤ res.2.1) ∧ bm_Go p l e R s m args below meth c Q D ad cA C b0 nL n0 z0 nx l' s' n' z' m') → (∀ t l' s' n' z' m', kj t l' s' n' z' m' = some res → (n' ≤ res.1 ∧ z' ≤ res.2.1) ∧ bm_Go p l e R s m args below meth c Q D ad cA C b0 nL n0 z0 (ps.getD t 0) l' s' n' z' m') → (n ≤ res.1 ∧ z ≤ res.2.1) ∧ bm_Go p l e R s m args below meth c Q D ad cA C b0 nL n0 z0 bp ls st n z M
theorem bm_no {res : Nat × Nat × am_M} (h : (none : bm_R) = some res) : False := by cases h
theorem bm_cond {b : Bool} {x : bm_R} {res : Nat × Nat × am_M} (h : cond b x none = some res) : b = true ∧ x = some res := by
  cases b with
  | true => exact ⟨rfl, h⟩
  | false => cases h
end
section
theorem bm_lnb : ∀ n, n < 199 → am_ln n ≤ 65535 := by decide +kernel
theorem bm_ank {own b k : Nat} (h : (own, b, k) ∈ bm_an) : k = 11 ∨ k = 14 := by
  have key : ∀ q ∈ bm_an, q.2.2 = 11 ∨ q.2.2 = 14 := by decide +kernel
  exact key _ h
theorem am_vw : ∀ k, k < 8 → ∃ q : vw_C, vwCl[k]? = some q ∧ q.1 = am_cn k := by
  intro k hk
  match k, hk with
  | 0, _ => exact ⟨_, rfl, rfl⟩
  | 1, _ => exact ⟨_, rfl, rfl⟩
  | 2, _ => exact ⟨_, rfl, rfl⟩
  | 3, _ => exact ⟨_, rfl, rfl⟩
  | 4, _ => exact ⟨_, rfl, rfl⟩
  | 5, _ => exact ⟨_, rfl, rfl⟩
  | 6, _ => exact ⟨_, rfl, rfl⟩
  | 7, _ => exact ⟨_, rfl, rfl⟩
section BSN
variable {p : Program} {l : Launch} {e : Env} {R : Room} {s : State} {m : MethodId} {args : Array Value} {below : List Frame} {meth : Method} {c : Code} {Q : State → Prop} {D : va_G} {ad : Nat → Nat} {cA : Nat → ClassId} {C : am_M} {b0 own nL n0 z0 : Nat} {cc : ByteArray} {ps : List Nat} {call : Nat → List am_V → Nat → Nat → am_M → bm_R} {res : Nat × Nat × am_M}

theorem bm_s_iload (X : bm_Cx p R s m args c D ad cA b0 n0 own nL cc) (hRc : res.1 - n0 ≤ R.cells) (hRs : res.2.1 - z0 ≤ R.slots) {k kd b : Nat} : bm_SS p l e R s m args below meth c Q D ad cA C b0 own nL n0 z0 cc ps call res (.iload k, kd, b) := by
  intro bp nx hd ls st n z M ks kj h hs hj
  obtain ⟨hx, hb, hml, hown, hts, hK, hSt, had, hRf, hRl, hsz0⟩ := id X
  have hvF : (Value.null = .null ∨ ∃ x, Value.null = .ref x) := Or.inl rfl
  cases hlv : ls[k]? with
  | none => simp only [bm_stp, hlv] at h; exact (bm_no h).elim
  | some ov =>
  cases ov with
  | none => simp only [bm_stp, hlv] at h; exact (bm_no h).elim
  | some v =>
  simp only [bm_stp, hlv] at h
  obtain ⟨hkd, h⟩ := bm_cond h
  obtain ⟨g1, g2⟩ := hs _ _ _ _ _ h
  refine ⟨g1, fun hn hv H locs L hL hW hS h0 h1 => ?_⟩
  obtain ⟨hLv, hok⟩ := hL.2.2 k v hlv
  have kk := fun (q : Nat) (hq : nx = q) => (hq ▸ g2 hn (am_vc hok hv) H locs L hL hW hS h0 h1 : W p l e R s m args below meth c H locs (n - n0) (z - z0) Q (F0 m q L (am_enc ad .null v :: st.map (am_enc ad .null))))
  revert hd hkd
  match v with
  | .inl x =>
    match kd with
    | 0 => intro hd _; obtain ⟨hd, h3⟩ := am_and hd; obtain ⟨hd1, h2⟩ := am_d1_ok hd; exact lv_iload_n hx hb hd1 (am_f4 h3) hLv (kk _ h2)
    | kd + 1 => intro _ hkd; cases hkd
  | .inr x =>
    match kd with
    | 0 => intro _ hkd; cases hkd
    | kd + 1 =>
      intro hd _
      obtain ⟨hd, h3⟩ := am_and hd
      obtain ⟨hd1, h2⟩ := am_d1_ok hd
      have k := kk _ h2
      have hr : am_rv ad .null x = .null ∨ ∃ y, am_rv ad .null x = .ref y := am_rv_or hvF x
      simp only [am_enc] at hLv k
      rcases hr with hr | ⟨y, hr⟩
      · rw [hr] at hLv k; exact lv_aload_nN hx hb hd1 (am_f4 h3) hLv k
      · rw [hr] at hLv k; exact lv_aload_n hx hb hd1 (am_f4 h3) hLv k

theorem bm_s_istore (X : bm_Cx p R s m args c D ad cA b0 n0 own nL cc) (hRc : res.1 - n0 ≤ R.cells) (hRs : res.2.1 - z0 ≤ R.slots) {k kd b : Nat} : bm_SS p l e R s m args below meth c Q D ad cA C b0 own nL n0 z0 cc ps call res (.istore k, kd, b) := by
  intro bp nx hd ls st n z M ks kj h hs hj
  obtain ⟨hx, hb, hml, hown, hts, hK, hSt, had, hRf, hRl, hsz0⟩ := id X
  have hvF : (Value.null = .null ∨ ∃ x, Value.null = .ref x) := Or.inl rfl
  rcases st with _ | ⟨v, st⟩
  · exact (bm_no h).elim
  obtain ⟨hkd, h⟩ := bm_cond h
  obtain ⟨hkd, hlt⟩ := am_and hkd
  have hlt : k < ls.length := Nat.le_of_ble_eq_true hlt
  obtain ⟨g1, g2⟩ := hs _ _ _ _ _ h
  refine ⟨g1, fun hn hv H locs L hL hW hS h0 h1 => ?_⟩
  have hok := hv _ List.mem_cons_self
  have hlh := am_lok_has hvF hL
  have k := fun (q : Nat) (hq : nx = q) (L' : Array Slot) (h' : lv_has L' ls.length ((k, am_enc ad .null v) :: (am_lv ad .null ls).filter (fun q => !(q.1 == k) && !(q.1 + 1 == k && q.2.category == 2)))) => (hq ▸ g2 (by rw [List.length_set]; exact hn) (am_vtl hv) H locs L' (am_lok_set hvF hL hlt hok h') hW hS h0 h1 : W p l e R s m args below meth c H locs (n - n0) (z - z0) Q (F0 m q L' (st.map (am_enc ad .null))))
  revert hd hkd
  match v with
  | .inl x =>
    match kd with
    | 0 => intro hd _; obtain ⟨hd, h3⟩ := am_and hd; obtain ⟨hd1, h2⟩ := am_d1_ok hd; exact lv_istore_n hx hb hd1 (am_f4 h3) hlh hlt rfl (k _ h2)
    | kd + 1 => intro _ hkd; cases hkd
  | .inr x =>
    match kd with
    | 0 => intro _ hkd; cases hkd
    | kd + 1 =>
      intro hd _
      obtain ⟨hd, h3⟩ := am_and hd
      obtain ⟨hd1, h2⟩ := am_d1_ok hd
      have k := k _ h2
      have hr : am_rv ad .null x = .null ∨ ∃ y, am_rv ad .null x = .ref y := am_rv_or hvF x
      show W p l e R s m args below meth c H locs (n - n0) (z - z0) Q (F0 m bp L (am_rv ad .null x :: st.map (am_enc ad .null)))
      simp only [am_enc] at k
      rcases hr with hr | ⟨y, hr⟩
      · rw [hr] at k ⊢; exact lv_astore_nN hx hb hd1 (am_f4 h3) hlh hlt rfl k
      · rw [hr] at k ⊢; exact lv_astore_n hx hb hd1 (am_f4 h3) hlh hlt rfl k

theorem bm_s_bipush (X : bm_Cx p R s m args c D ad cA b0 n0 own nL cc) (hRc : res.1 - n0 ≤ R.cells) (hRs : res.2.1 - z0 ≤ R.slots) {v : Int} {a b : Nat} : bm_SS p l e R s m args below meth c Q D ad cA C b0 own nL n0 z0 cc ps call res (.bipush v, a, b) := by
  intro bp nx hd ls st n z M ks kj h hs hj
  obtain ⟨hx, hb, hml, hown, hts, hK, hSt, had, hRf, hRl, hsz0⟩ := id X
  have hvF : (Value.null = .null ∨ ∃ x, Value.null = .ref x) := Or.inl rfl
  obtain ⟨g1, g2⟩ := hs _ _ _ _ _ h
  refine ⟨g1, fun hn hv H locs L hL hW hS h0 h1 => ?_⟩
  obtain ⟨hin, hd⟩ := am_and hd
  have hin : am_in v := of_decide_eq_true hin
  have k := fun (q : Nat) (hq : nx = q) => (hq ▸ g2 hn (am_vc (v := .inl v) hin hv) H locs L hL hW hS h0 h1 : W p l e R s m args below meth c H locs (n - n0) (z - z0) Q (F0 m q L (.int (Int32.ofInt v) :: st.map (am_enc ad .null))))
  revert hd
  match a with
  | 0 => intro hd; obtain ⟨hd1, h2⟩ := am_d1_ok hd; exact lv_iconst hx hb hd1 rfl (k _ h2)
  | 1 => intro hd; obtain ⟨hd, h3⟩ := am_and hd; obtain ⟨hd1, h2⟩ := am_d1_ok hd; exact lv_bipush hx hb hd1 (of_decide_eq_true h3) (k _ h2)
  | a + 2 => intro hd; obtain ⟨hd, h3⟩ := am_and hd; obtain ⟨hd1, h2⟩ := am_d1_ok hd; exact lv_sipush hx hb hd1 (of_decide_eq_true h3) (k _ h2)

theorem bm_s_dup (X : bm_Cx p R s m args c D ad cA b0 n0 own nL cc) (hRc : res.1 - n0 ≤ R.cells) (hRs : res.2.1 - z0 ≤ R.slots) {a b : Nat} : bm_SS p l e R s m args below meth c Q D ad cA C b0 own nL n0 z0 cc ps call res (.dup, a, b) := by
  intro bp nx hd ls st n z M ks kj h hs hj
  obtain ⟨hx, hb, hml, hown, hts, hK, hSt, had, hRf, hRl, hsz0⟩ := id X
  have hvF : (Value.null = .null ∨ ∃ x, Value.null = .ref x) := Or.inl rfl
  rcases st with _ | ⟨v, st⟩
  · exact (bm_no h).elim
  obtain ⟨g1, g2⟩ := hs _ _ _ _ _ h
  refine ⟨g1, fun hn hv H locs L hL hW hS h0 h1 => ?_⟩
  obtain ⟨hd1, rfl⟩ := am_d1_ok hd
  exact lv_dup hx hb hd1 (am_enc_cat hvF v) (g2 hn (am_vc (hv _ List.mem_cons_self) hv) H locs L hL hW hS h0 h1)

theorem bm_s_icmp (X : bm_Cx p R s m args c D ad cA b0 n0 own nL cc) (hRc : res.1 - n0 ≤ R.cells) (hRs : res.2.1 - z0 ≤ R.slots) {t : Int} {a b : Nat} : bm_SS p l e R s m args below meth c Q D ad cA C b0 own nL n0 z0 cc ps call res (.if_icmp .ge t, a, b) := by
  intro bp nx hd ls st n z M ks kj h hs hj
  obtain ⟨hx, hb, hml, hown, hts, hK, hSt, had, hRf, hRl, hsz0⟩ := id X
  have hvF : (Value.null = .null ∨ ∃ x, Value.null = .ref x) := Or.inl rfl
  rcases st with _ | ⟨y | y, _ | ⟨x | x, st⟩⟩ <;> try (exact (bm_no h).elim)
  have h : cond (decide (x < y)) (ks ls st n z M) (kj t.toNat ls st n z M) = some res := h
  obtain ⟨hd1, rfl⟩ := am_d1_ok hd
  by_cases q : x < y
  · rw [decide_eq_true q] at h
    obtain ⟨g1, g2⟩ := hs _ _ _ _ _ h
    refine ⟨g1, fun hn hv H locs L hL hW hS h0 h1 => ?_⟩
    have vy : am_in y := hv _ List.mem_cons_self
    have vx : am_in x := hv _ (List.mem_cons_of_mem _ List.mem_cons_self)
    exact lv_icmp_ge (tgt := ps.getD t.toNat 0) hx hb hd1 (am_off_ok _ _ _) (fun w => absurd ((am_le vy vx).mp w) (by omega)) (fun _ => g2 hn (am_vtl (am_vtl hv)) H locs L hL hW hS h0 h1)
  · rw [decide_eq_false q] at h
    obtain ⟨g1, g2⟩ := hj _ _ _ _ _ _ h
    refine ⟨g1, fun hn hv H locs L hL hW hS h0 h1 => ?_⟩
    have vy : am_in y := hv _ List.mem_cons_self
    have vx : am_in x := hv _ (List.mem_cons_of_mem _ List.mem_cons_self)
    exact lv_icmp_ge (tgt := ps.getD t.toNat 0) hx hb hd1 (am_off_ok _ _ _) (fun _ => g2 hn (am_vtl (am_vtl hv)) H locs L hL hW hS h0 h1) (fun w => absurd ((am_le vy vx).mpr (by omega)) w)

theorem bm_s_goto (X : bm_Cx p R s m args c D ad cA b0 n0 own nL cc) (hRc : res.1 - n0 ≤ R.cells) (hRs : res.2.1 - z0 ≤ R.slots) {t : Int} {a b : Nat} : bm_SS p l e R s m args below meth c Q D ad cA C b0 own nL n0 z0 cc ps call res (.goto t, a, b) := by
  intro bp nx hd ls st n z M ks kj h hs hj
  obtain ⟨hx, hb, hml, hown, hts, hK, hSt, had, hRf, hRl, hsz0⟩ := id X
  have hvF : (Value.null = .null ∨ ∃ x, Value.null = .ref x) := Or.inl rfl
  obtain ⟨g1, g2⟩ := hj _ _ _ _ _ _ h
  exact ⟨g1, fun hn hv H locs L hL hW hS h0 h1 => lv_goto (tgt := ps.getD t.toNat 0) hx hb (of_decide_eq_true hd) (am_off_ok _ _ _) (g2 hn hv H locs L hL hW hS h0 h1)⟩

theorem bm_s_iinc (X : bm_Cx p R s m args c D ad cA b0 n0 own nL cc) (hRc : res.1 - n0 ≤ R.cells) (hRs : res.2.1 - z0 ≤ R.slots) {k a b : Nat} {w : Int} : bm_SS p l e R s m args below meth c Q D ad cA C b0 own nL n0 z0 cc ps call res (.iinc k w, a, b) := by
  intro bp nx hd ls st n z M ks kj h hs hj
  obtain ⟨hx, hb, hml, hown, hts, hK, hSt, had, hRf, hRl, hsz0⟩ := id X
  have hvF : (Value.null = .null ∨ ∃ x, Value.null = .ref x) := Or.inl rfl
  cases hlv : ls[k]? with
  | none => simp only [bm_stp, hlv] at h; exact (bm_no h).elim
  | some ov =>
  cases ov with
  | none => simp only [bm_stp, hlv] at h; exact (bm_no h).elim
  | some v =>
  cases v with
  | inr x => simp only [bm_stp, hlv] at h; exact (bm_no h).elim
  | inl x =>
  simp only [bm_stp, hlv] at h
  obtain ⟨g1, g2⟩ := hs _ _ _ _ _ h
  refine ⟨g1, fun hn hv H locs L hL hW hS h0 h1 => ?_⟩
  obtain ⟨hd1, rfl⟩ := am_d1_ok hd
  have hlt : k < ls.length := (List.getElem?_eq_some_iff.mp hlv).1
  have hlh := am_lok_has hvF hL
  obtain ⟨i, hi⟩ := am_lv_at (ad := ad) (vF := .null) hlv
  exact lv_iinc (k := i) hx hb hd1 hlh hi (am_e_add x w).symm hlt rfl (fun L' h' => g2 (by rw [List.length_set]; exact hn) hv H locs L' (am_lok_set (v := .inl (am_wrap (x + w))) hvF hL hlt (am_in_wrap _) h') hW hS h0 h1)

theorem bm_s_checkcast (X : bm_Cx p R s m args c D ad cA b0 n0 own nL cc) (hRc : res.1 - n0 ≤ R.cells) (hRs : res.2.1 - z0 ≤ R.slots) {k ci b : Nat} : bm_SS p l e R s m args below meth c Q D ad cA C b0 own nL n0 z0 cc ps call res (.checkcast k, ci, b) := by
  intro bp nx hd ls st n z M ks kj h hs hj
  obtain ⟨hx, hb, hml, hown, hts, hK, hSt, had, hRf, hRl, hsz0⟩ := id X
  have hvF : (Value.null = .null ∨ ∃ x, Value.null = .ref x) := Or.inl rfl
  rcases st with _ | ⟨x | q, st⟩ <;> try (exact (bm_no h).elim)
  obtain ⟨hc, h⟩ := bm_cond h
  obtain ⟨hc, hset⟩ := am_and hc
  obtain ⟨hc, hq⟩ := am_and hc
  have hset : M q k = 1 := of_decide_eq_true hset
  have hc : am_cls q = ci := Nat.eq_of_beq_eq_true hc
  have hq : q < n := Nat.le_of_ble_eq_true hq
  obtain ⟨g1, g2⟩ := hs _ _ _ _ _ h
  refine ⟨g1, fun hn hv H locs L hL hW hS h0 h1 => ?_⟩
  obtain ⟨hd, h3⟩ := am_and hd
  obtain ⟨hd1, rfl⟩ := am_d1_ok hd
  obtain ⟨Cn, T, N, f1, f2, f3, f4, f5, f6⟩ := bm_fl_all _ (am_mem h3)
  dsimp only at f1 f2 f3 f4 f5 f6
  have hq199 : q < 199 := am_own hc (Or.inl f6)
  have hr : am_rf q k < 199 := am_rf_own q hq199 k (by rw [hc]; exact f5)
  have kk := g2 hn (am_vc (v := .inr (am_rf q k)) trivial (am_vtl hv)) H locs L hL hW hS h0 h1
  rw [List.map_cons, show am_enc ad .null (.inr (am_rf q k)) = .ref (ad (am_rf q k)) from bm_ad had hr] at kk
  show W p l e R s m args below meth c H locs (n - n0) (z - z0) Q (F0 m bp L (am_rv ad .null q :: st.map (am_enc ad .null)))
  rw [bm_ad had hq199]
  refine va_get (v := .ref (ad (am_rf q k))) hx hb hts (am_cf_all ci _ f1).2.2 hown hK hW.1 q (bm_ws_o ad cA hq hc f6) f1 k f2 (hts _ (lw_g f4 rfl)) (f3 ▸ fun _ h9 => h9) ?_ hd1 kk
  rw [bm_fs_get ad (am_nf_ok f1 ▸ f2)]
  simp [bm_fld, f5, hset]

theorem bm_s_putfield (X : bm_Cx p R s m args c D ad cA b0 n0 own nL cc) (hRc : res.1 - n0 ≤ R.cells) (hRs : res.2.1 - z0 ≤ R.slots) (hin : meth.name = "<init>") {k ci b : Nat} (hdecl : ∀ (ci : Nat) (Cn : String) (T : u_T) (N b : Nat), vwCl[ci]? = some (Cn, T, N) → bm_fp.contains (own, b, ci, k) = true → Cn = am_cn own) : bm_SS p l e R s m args below meth c Q D ad cA C b0 own nL n0 z0 cc ps call res (.putfield k, ci, b) := by
  intro bp nx hd ls st n z M ks kj h hs hj
  obtain ⟨hx, hb, hml, hown, hts, hK, hSt, had, hRf, hRl, hsz0⟩ := id X
  have hvF : (Value.null = .null ∨ ∃ x, Value.null = .ref x) := Or.inl rfl
  rcases st with _ | ⟨x | v, _ | ⟨q | q, st⟩⟩ <;> try (exact (bm_no h).elim)
  · obtain ⟨hc, h⟩ := bm_cond h
    obtain ⟨hc, hb2⟩ := am_and hc
    obtain ⟨hc, hq⟩ := am_and hc
    have hc : am_cls q = ci := Nat.eq_of_beq_eq_true hc
    have hq : q < n := Nat.le_of_ble_eq_true hq
    have hb2 := Nat.eq_of_beq_eq_true hb2
    obtain ⟨g1, g2⟩ := hs _ _ _ _ _ h
    refine ⟨g1, fun hn hv H locs L hL hW hS h0 h1 => ?_⟩
    have vx : am_in x := hv _ List.mem_cons_self
    obtain ⟨hd, h3⟩ := am_and hd
    obtain ⟨hd1, rfl⟩ := am_d1_ok hd
    obtain ⟨Cn, T, N, f1, f2, f3, f4, f5, f6, f7, ty, f8, f9⟩ := bm_fp_all _ (am_mem h3)
    dsimp only at f1 f2 f3 f4 f5 f6 f7 f8 f9
    rw [hb2] at f5 f7 f9
    have f9 : ty = .int := f9
    subst f9
    have hq199 : q < 199 := am_own hc (Or.inl f6)
    obtain ⟨⟨ty0, hty⟩, hnm, hws⟩ := am_cf_all ci _ f1
    show W p l e R s m args below meth c H locs (n - n0) (z - z0) Q (F0 m bp L (.int (Int32.ofInt x) :: am_rv ad .null q :: st.map (am_enc ad .null)))
    rw [bm_ad had hq199]
    refine va_put (v := .int (Int32.ofInt x)) hx hb hts hws ty0 hty hnm hown hK hW.1 (bm_D had M hW.2.2.1) (va_S_hh hS) q (bm_ws_o ad cA hq hc f6) f1 k f2 (hts _ (lw_g f4 rfl)) (f3 ▸ fun _ h9 => h9) f7 f8 rfl rfl ?_ hd1 (fun H1 locs1 hP1 _ hS1 => bm_sz fun hsz1 => ?_)
    · rw [bm_fs, List.length_map, List.length_range]; exact am_nf_ok f1 ▸ f2
    · rw [bm_set_f ad cA (x := x) hc f6 hq (by simp [bm_fld, f5, am_upd])] at hP1
      exact g2 hn (am_vtl (am_vtl hv)) H1 locs1 L hL (bm_W_row hW hq hP1 hS1.1 (by omega)) (va_S_tr hS hS1) h0 h1
  · obtain ⟨hc, h⟩ := bm_cond h
    obtain ⟨hc, hb2⟩ := am_and hc
    obtain ⟨hc, hrf⟩ := am_and hc
    obtain ⟨hc, hq⟩ := am_and hc
    have hc : am_cls q = ci := Nat.eq_of_beq_eq_true hc
    have hrf : am_rf q k = v := Nat.eq_of_beq_eq_true hrf
    have hq : q < n := Nat.le_of_ble_eq_true hq
    have hb2 := Nat.eq_of_beq_eq_true hb2
    obtain ⟨g1, g2⟩ := hs _ _ _ _ _ h
    refine ⟨g1, fun hn hv H locs L hL hW hS h0 h1 => ?_⟩
    obtain ⟨hd, h3⟩ := am_and hd
    obtain ⟨hd1, rfl⟩ := am_d1_ok hd
    obtain ⟨Cn, T, N, f1, f2, f3, f4, f5, f6, f7, ty, f8, f9⟩ := bm_fp_all _ (am_mem h3)
    dsimp only at f1 f2 f3 f4 f5 f6 f7 f8 f9
    rw [hb2] at f5 f7 f9
    have f9 : ∀ a : Nat, narrow ty (.ref a) = .ref a ∧ fits ty (.ref a) = true := f9
    have hq199 : q < 199 := am_own hc (Or.inl f6)
    have hr : am_rf q k < 199 := am_rf_own q hq199 k (by rw [hc]; exact f5)
    rw [hrf] at hr
    obtain ⟨⟨ty0, hty⟩, hnm, hws⟩ := am_cf_all ci _ f1
    show W p l e R s m args below meth c H locs (n - n0) (z - z0) Q (F0 m bp L (am_rv ad .null v :: am_rv ad .null q :: st.map (am_enc ad .null)))
    rw [bm_ad had hq199, bm_ad had hr]
    refine va_putF (v := .ref (ad v)) hx hb hts hws ty0 hty hnm hown hK hW.1 (bm_D had M hW.2.2.1) (va_S_hh hS) q (bm_ws_o ad cA hq hc f6) f1 k f2 (hts _ (lw_g f4 rfl)) (f3 ▸ fun _ h9 => h9) f7 hin (f3.trans (hdecl ci Cn T N b f1 h3)) f8 (f9 _).1 (f9 _).2 ?_ hd1 (fun H1 locs1 hP1 _ hS1 => bm_sz fun hsz1 => ?_)
    · rw [bm_fs, List.length_map, List.length_range]; exact am_nf_ok f1 ▸ f2
    · rw [bm_set_f ad cA (x := 1) hc f6 hq (by simp [bm_fld, f5, am_upd, hrf])] at hP1
      exact g2 hn (am_vtl (am_vtl hv)) H1 locs1 L hL (bm_W_row hW hq hP1 hS1.1 (by omega)) (va_S_tr hS hS1) h0 h1

theorem bm_s_new (X : bm_Cx p R s m args c D ad cA b0 n0 own nL cc) (hRc : res.1 - n0 ≤ R.cells) (hRs : res.2.1 - z0 ≤ R.slots) {ci b t : Nat} : bm_SS p l e R s m args below meth c Q D ad cA C b0 own nL n0 z0 cc ps call res (.new ci, b, t) := by
  intro bp nx hd ls st n z M ks kj h hs hj
  obtain ⟨hx, hb, hml, hown, hts, hK, hSt, had, hRf, hRl, hsz0⟩ := id X
  have hvF : (Value.null = .null ∨ ∃ x, Value.null = .ref x) := Or.inl rfl
  have h : cond (Nat.beq (am_cls n) ci && Nat.blt n 199) (ks ls (.inr n :: st) (n + 1) (z + am_nf ci) M) none = some res := h
  obtain ⟨hc, h⟩ := bm_cond h
  obtain ⟨hc, hn199⟩ := am_and hc
  have hc : am_cls n = ci := Nat.eq_of_beq_eq_true hc
  have hn199 : n < 199 := Nat.le_of_ble_eq_true hn199
  obtain ⟨g1, g2⟩ := hs _ _ _ _ _ h
  refine ⟨by omega, fun hn hv H locs L hL hW hS h0 h1 => ?_⟩
  obtain ⟨hd, h3⟩ := am_and hd
  obtain ⟨hd1, rfl⟩ := am_d1_ok hd
  obtain ⟨f1, f2, f3, f4⟩ := bm_nw_all _ (am_mem h3)
  dsimp only at f1 f2 f3 f4
  obtain ⟨⟨Cn, T, N⟩, hq1, hq2⟩ := am_vw ci f4
  have hq2 : Cn = am_cn ci := hq2
  subst hq2
  obtain ⟨ty, hty, hdef⟩ := bm_cd_all ci _ hq1
  have hN : N = am_nf ci := am_nf_ok hq1
  subst hN
  refine va_new (C := am_cn ci) (T := T) (N := am_nf ci) (fs := bm_fs ad M n ci) hx hb hts (am_cf_all ci _ hq1).2.2 ty hty hown (hts _ (lw_g f1 rfl)) (hts _ (lw_g f2 rfl)) (hts _ (lw_g f3 rfl)) hK hW.1 (bm_D had M hW.2.2.1) (va_S_hh hS) (fun q hq => by show b0 ≤ q; rw [hW.2.1] at hq; omega) hq1 ?_ (by omega) (by omega) hd1 (fun q H1 hP1 hD1 hS1 => bm_sz fun hsz1 => ?_)
  · intro j hj
    rw [hdef j hj, vp_V, List.getD_eq_getElem?_getD, bm_fs_get ad hj]
    have := hW.2.2.2 n (Nat.le_refl _) hn199 j
    simp only [bm_fld, this, Option.getD_some]
    cases am_isr ci j <;> simp
  · obtain ⟨e1, hW1⟩ := bm_push had hW hn199 hP1 hD1 (by omega) (fun H2 q => by
      rw [bm_cell, if_neg (by omega), if_neg (by omega), hc]
      exact q)
    have kk := g2 hn (am_vc (v := .inr n) trivial hv) H1 locs L hL hW1 (va_S_tr hS hS1) (by omega) (by omega)
    rw [List.map_cons, show am_enc ad .null (.inr n) = .ref (ad n) from bm_ad had hn199, ← e1] at kk
    rw [show n - n0 + 1 = n + 1 - n0 from by omega, show z - z0 + am_nf ci = z + am_nf ci - z0 from by omega]
    exact kk

theorem bm_s_newarray (X : bm_Cx p R s m args c D ad cA b0 n0 own nL cc) (hRc : res.1 - n0 ≤ R.cells) (hRs : res.2.1 - z0 ≤ R.slots) {t : ArrayType} {a b : Nat} : bm_SS p l e R s m args below meth c Q D ad cA C b0 own nL n0 z0 cc ps call res (.newarray t, a, b) := by
  intro bp nx hd ls st n z M ks kj h hs hj
  obtain ⟨hx, hb, hml, hown, hts, hK, hSt, had, hRf, hRl, hsz0⟩ := id X
  have hvF : (Value.null = .null ∨ ∃ x, Value.null = .ref x) := Or.inl rfl
  rcases st with _ | ⟨x | x, st⟩ <;> try (exact (bm_no h).elim)
  obtain ⟨hc, h⟩ := bm_cond h
  obtain ⟨hc, hlen⟩ := am_and hc
  have hlen : x = (am_ln n : Int) := of_decide_eq_true hlen
  obtain ⟨hc, hn199⟩ := am_and hc
  have hc := Nat.eq_of_beq_eq_true hc
  have hn199 : n < 199 := Nat.le_of_ble_eq_true hn199
  obtain ⟨g1, g2⟩ := hs _ _ _ _ _ h
  refine ⟨by omega, fun hn hv H locs L hL hW hS h0 h1 => ?_⟩
  have vx : am_in x := hv _ List.mem_cons_self
  obtain ⟨hd1, rfl⟩ := am_d1_ok hd
  have hbig := bm_lnb n hn199
  have hz : ∀ j, M n j = 0 := fun j => hW.2.2.2 n (Nat.le_refl _) hn199 j
  have hrow : am_row M n = fun _ => 0 := by funext j; rw [am_row, hz]; rfl
  have main : ∀ (ty : FieldType) (kd tk : Nat) (hty : newarray.typeOf t = ty) (harr : Cond.arrayClass ty ∈ lw_tbl) (htk : (am_tys cA)[tk]? = some (cA kd, ty)) (hkd : kd = 9 ∨ kd = 10) (hcl : am_cls n = kd) (hdv : defaultValue ty = .int 0) (hcb : componentBytes ty ≤ 4) (hra : ∀ (cB : ClassId), va_RA s cB ty → s.vm.findClass ("[" ++ ty.toString) = some cB), W p l e R s m args below meth c H locs (n - n0) (z - z0) Q (F0 m bp L (.int (Int32.ofInt x) :: st.map (am_enc ad .null))) := by
    intro ty kd tk hty harr htk hkd hcl hdv hcb hra
    subst hty
    refine va_newa (a0 := (am_ln n, .inl (am_row M n))) (N' := am_ln n) hx hb (hts _ (lw_g harr rfl)) rfl hK hW.1 (bm_D had M hW.2.2.1) (va_S_hh hS) (fun q hq => by show b0 ≤ q; rw [hW.2.1] at hq; omega) ?_ ?_ ?_ ?_ (by omega) (by omega) hd1 (fun q cB H1 hK1 hP1 hD1 hS1 => bm_sz fun hsz1 => ?_)
    · intro cB
      rw [vp_cell_i, hrow, hdv]
    · rw [am_lt0 vx]; omega
    · rw [am_clamp vx]; omega
    · have : am_ln n * componentBytes (newarray.typeOf t) ≤ am_ln n * 4 := Nat.mul_le_mul_left _ hcb
      omega
    · have e9 : cB = cA kd := by
        have a1 := (hK1.2 4 (cB, newarray.typeOf t) rfl).2
        have a2 := (hK.2 tk _ htk).2
        exact Option.some.inj ((hra cB a1).symm.trans (hra (cA kd) a2))
      obtain ⟨e1, hW1⟩ := bm_push had hW hn199 hP1 hD1 (by omega) (fun H2 q => by
        rw [bm_cell, if_pos (by omega), hcl, ← e9]
        exact q)
      have kk := g2 hn (am_vc (v := .inr n) trivial (am_vtl hv)) H1 locs L hL hW1 (va_S_tr hS hS1) (by omega) (by omega)
      rw [List.map_cons, show am_enc ad .null (.inr n) = .ref (ad n) from bm_ad had hn199, ← e1] at kk
      rw [show n - n0 + 1 = n + 1 - n0 from by omega, show z - z0 + am_ln n = z + am_ln n - z0 from by omega]
      exact kk
  cases t with
  | int => exact main .int 9 0 rfl bm_l_int rfl (Or.inl rfl) hc rfl (by decide) (fun _ q => q)
  | char => exact main .char 10 1 rfl bm_l_char rfl (Or.inr rfl) hc rfl (by decide) (fun _ q => q)
  | _ => exact absurd hc (by have := am_own_k n hn199; show ¬ am_cls n = 99; omega)

theorem bm_s_anewarray (X : bm_Cx p R s m args c D ad cA b0 n0 own nL cc) (hRc : res.1 - n0 ≤ R.cells) (hRs : res.2.1 - z0 ≤ R.slots) {k b t : Nat} : bm_SS p l e R s m args below meth c Q D ad cA C b0 own nL n0 z0 cc ps call res (.anewarray k, b, t) := by
  intro bp nx hd ls st n z M ks kj h hs hj
  obtain ⟨hx, hb, hml, hown, hts, hK, hSt, had, hRf, hRl, hsz0⟩ := id X
  have hvF : (Value.null = .null ∨ ∃ x, Value.null = .ref x) := Or.inl rfl
  rcases st with _ | ⟨x | x, st⟩ <;> try (exact (bm_no h).elim)
  obtain ⟨hc, h⟩ := bm_cond h
  obtain ⟨hc, hlen⟩ := am_and hc
  have hlen : x = (am_ln n : Int) := of_decide_eq_true hlen
  obtain ⟨hc, hn199⟩ := am_and hc
  have hc : am_cls n = k := Nat.eq_of_beq_eq_true hc
  have hn199 : n < 199 := Nat.le_of_ble_eq_true hn199
  obtain ⟨g1, g2⟩ := hs _ _ _ _ _ h
  refine ⟨by omega, fun hn hv H locs L hL hW hS h0 h1 => ?_⟩
  have vx : am_in x := hv _ List.mem_cons_self
  obtain ⟨hd, h3⟩ := am_and hd
  obtain ⟨hd1, rfl⟩ := am_d1_ok hd
  have f1 := bm_an_all _ (am_mem h3)
  have hk : k = 11 ∨ k = 14 := bm_ank (am_mem h3)
  have hbig := bm_lnb n hn199
  have hz : ∀ j, M n j = 0 := fun j => hW.2.2.2 n (Nat.le_refl _) hn199 j
  have hrow : bm_rrow ad M n = fun _ => none := by funext j; rw [bm_rrow, hz]; rfl
  have main : ∀ (Cn : String) (tk : Nat) (hcl : Cond.classLink (am_cn own) b Cn ∈ lw_tbl) (hao : va_AO Cn s) (htk : (am_tys cA)[tk]? = some (cA k, .object Cn)), W p l e R s m args below meth c H locs (n - n0) (z - z0) Q (F0 m bp L (.int (Int32.ofInt x) :: st.map (am_enc ad .null))) := by
    intro Cn tk hcl hao htk
    refine va_newq (N' := am_ln n) hx hb hown (hts _ (lw_g hcl rfl)) hao hK hW.1 (bm_D had M hW.2.2.1) (va_S_hh hS) (fun q hq => by show b0 ≤ q; rw [hW.2.1] at hq; omega) ?_ ?_ ?_ (by omega) (by omega) hd1 (fun q cB H1 hK1 hP1 hD1 hS1 => bm_sz fun hsz1 => ?_)
    · rw [am_lt0 vx]; omega
    · rw [am_clamp vx]; omega
    · omega
    · have e9 : cB = cA k := by
        obtain ⟨_, _, _, _, _, a1⟩ := (hK1.2 4 (cB, .object Cn) rfl).2
        obtain ⟨_, _, _, _, _, a2⟩ := (hK.2 tk _ htk).2
        exact Option.some.inj (a1.symm.trans a2)
      obtain ⟨e1, hW1⟩ := bm_push had hW hn199 hP1 hD1 (by omega) (fun H2 q => by
        rw [bm_cell, if_neg (by omega), if_pos (by omega), hrow, hc, ← e9]
        exact q)
      have kk := g2 hn (am_vc (v := .inr n) trivial (am_vtl hv)) H1 locs L hL hW1 (va_S_tr hS hS1) (by omega) (by omega)
      rw [List.map_cons, show am_enc ad .null (.inr n) = .ref (ad n) from bm_ad had hn199, ← e1] at kk
      rw [show n - n0 + 1 = n + 1 - n0 from by omega, show z - z0 + am_ln n = z + am_ln n - z0 from by omega]
      exact kk
  rcases hk with rfl | rfl
  · exact main "LentHands$World" 2 f1 hSt.2.1 rfl
  · exact main "LentHands$Law" 3 f1 hSt.2.2 rfl

theorem bm_s_aastore (X : bm_Cx p R s m args c D ad cA b0 n0 own nL cc) (hRc : res.1 - n0 ≤ R.cells) (hRs : res.2.1 - z0 ≤ R.slots) {a b : Nat} : bm_SS p l e R s m args below meth c Q D ad cA C b0 own nL n0 z0 cc ps call res (.aastore, a, b) := by
  intro bp nx hd ls st n z M ks kj h hs hj
  obtain ⟨hx, hb, hml, hown, hts, hK, hSt, had, hRf, hRl, hsz0⟩ := id X
  have hvF : (Value.null = .null ∨ ∃ x, Value.null = .ref x) := Or.inl rfl
  rcases st with _ | ⟨x | v, _ | ⟨i | i, _ | ⟨q | q, st⟩⟩⟩ <;> try (exact (bm_no h).elim)
  obtain ⟨hc, h⟩ := bm_cond h
  obtain ⟨hc, hcl⟩ := am_and hc
  obtain ⟨hc, hi⟩ := am_and hc
  obtain ⟨hc, hrf⟩ := am_and hc
  obtain ⟨hq, hvn⟩ := am_and hc
  have hq : q < n := Nat.le_of_ble_eq_true hq
  have hvn : v < n := Nat.le_of_ble_eq_true hvn
  have hrf : am_rf q i = v := Nat.eq_of_beq_eq_true hrf
  have hi : 0 ≤ i ∧ i < (am_ln q : Int) := of_decide_eq_true hi
  obtain ⟨g1, g2⟩ := hs _ _ _ _ _ h
  refine ⟨g1, fun hn hv H locs L hL hW hS h0 h1 => ?_⟩
  have vi : am_in i := hv _ (List.mem_cons_of_mem _ List.mem_cons_self)
  obtain ⟨hd1, rfl⟩ := am_d1_ok hd
  have hn199 := hW.2.2.1
  show W p l e R s m args below meth c H locs (n - n0) (z - z0) Q (F0 m bp L (am_rv ad .null v :: .int (Int32.ofInt i) :: am_rv ad .null q :: st.map (am_enc ad .null)))
  rw [bm_ad had (by omega), bm_ad had (by omega)]
  have main : ∀ (k ci tk : Nat) (r : vw_C) (hk : k = 11 ∨ k = 14) (hck : am_cls q = k) (hcv : am_cls v = ci) (h8 : ci < 8) (hr : vwCl[ci]? = some r) (htk : (am_tys cA)[tk]? = some (cA k, .object r.1)), W p l e R s m args below meth c H locs (n - n0) (z - z0) Q (F0 m bp L (.ref (ad v) :: .int (Int32.ofInt i) :: .ref (ad q) :: st.map (am_enc ad .null))) := by
    intro k ci tk r hk hck hcv h8 hr htk
    refine va_astq hx hb hK hW.1 (bm_D had M hW.2.2.1) (va_S_hh hS) q tk v ci (bm_ws_q ad cA hq hck hk) htk (bm_ws_o ad cA hvn hcv h8) hr (am_vin vi hi) hd1 (fun H1 locs1 hP1 _ hS1 => bm_sz fun hsz1 => ?_)
    rw [am_clamp vi, ← hrf, bm_set_q ad cA hck hk hq hi.1] at hP1
    exact g2 hn (am_vtl (am_vtl (am_vtl hv))) H1 locs1 L hL (bm_W_row hW hq hP1 hS1.1 (by omega)) (va_S_tr hS hS1) h0 h1
  rcases Bool.or_eq_true_iff.mp hcl with hcl | hcl
  · obtain ⟨c1, c2⟩ := am_and hcl
    exact main 11 5 2 _ (Or.inl rfl) (Nat.eq_of_beq_eq_true c1) (Nat.eq_of_beq_eq_true c2) (by omega) rfl rfl
  · obtain ⟨c1, c2⟩ := am_and hcl
    exact main 14 1 3 _ (Or.inr rfl) (Nat.eq_of_beq_eq_true c1) (Nat.eq_of_beq_eq_true c2) (by omega) rfl rfl

theorem bm_s_obj (X : bm_Cx p R s m args c D ad cA b0 n0 own nL cc) (hRc : res.1 - n0 ≤ R.cells) (hRs : res.2.1 - z0 ≤ R.slots) {b t : Nat} : bm_SS p l e R s m args below meth c Q D ad cA C b0 own nL n0 z0 cc ps call res (.areturn, b, t) := by
  intro bp nx hd ls st n z M ks kj h hs hj
  obtain ⟨hx, hb, hml, hown, hts, hK, hSt, had, hRf, hRl, hsz0⟩ := id X
  have hvF : (Value.null = .null ∨ ∃ x, Value.null = .ref x) := Or.inl rfl
  rcases st with _ | ⟨x | q, st⟩ <;> try (exact (bm_no h).elim)
  obtain ⟨hc, h⟩ := bm_cond h
  obtain ⟨hq, hlen⟩ := am_and hc
  have hq : q < n := Nat.le_of_ble_eq_true hq
  have hlen := Nat.le_of_ble_eq_true hlen
  obtain ⟨g1, g2⟩ := hs _ _ _ _ _ h
  refine ⟨g1, fun hn hv H locs L hL hW hS h0 h1 => ?_⟩
  obtain ⟨hd, h3⟩ := am_and hd
  obtain ⟨hd1, rfl⟩ := am_d1_ok hd
  have f1 := bm_oi_all _ (am_mem h3)
  have hn199 := hW.2.2.1
  have hcat := am_cats (ad := ad) hvF hlen
  show W p l e R s m args below meth c H locs (n - n0) (z - z0) Q (F0 m bp L (am_rv ad .null q :: st.map (am_enc ad .null)))
  rw [bm_ad had (by omega)]
  refine W.objInit hx hb hown (hts _ (lw_g f1 rfl)) (hts _ (lw_g bm_l_obj1 rfl)) (hts _ (lw_g bm_l_obj2 rfl)) rfl (by rw [hml]; exact hL.1.trans hn) rfl hd1 hRf (by show 2 * 0 + _ + 12 ≤ _; omega) ?_
  exact W.eq (g2 := F0 m (bp + 3) L (st.map (am_enc ad .null))) rfl (g2 hn (am_vtl hv) H locs L hL hW hS h0 h1)

end BSN
end
section
/-! START: calls of constructors; a run of the building machine is a contract of the real constructor -/
def bm_w (ci : Nat) : List Cond := Cond.code (bm_y ci) (bm_b ci) (bm_ml ci) none :: lw_gd
def bm_rm (d c z : Nat) : Room := { frames := d, cells := c, slots := z, locals := 40 * d }
def bm_Pc (D : va_G) (ad : Nat → Nat) (cA : Nat → ClassId) (b0 : Nat) (av : List Value) (M : am_M) (n : Nat) : Array Value → State → Prop := va_Pc av (fun U => bm_Wd D ad cA b0 M n U.heap ∧ va_K D vwCl (am_tys cA) U ∧ bm_St U)
def bm_Qv (D : va_G) (ad : Nat → Nat) (cA : Nat → ClassId) (b0 : Nat) (M : am_M) (n : Nat) : Array Value → State → Outcome → State → Prop := va_Qv (fun (_ : Unit) => True) (fun _ t => bm_Wd D ad cA b0 M n t.heap) (bm_A b0)
def bm_Cl (l : Launch) (D : va_G) (ad : Nat → Nat) (cA : Nat → ClassId) (b0 : Nat) (d : Nat) (call : Nat → List am_V → Nat → Nat → am_M → bm_R) : Prop := ∀ ci args n z M n1 z1 M1, call ci args n z M = some (n1, z1, M1) → ci < 8 → ∃ a, args = [.inr a] ∧ am_cls a = ci ∧ a < n ∧ (n ≤ n1 ∧ z ≤ z1) ∧ Met l (bm_y ci) (bm_w ci) (bm_rm d (n1 - n) (z1 - z)) (bm_Pc D ad cA b0 [.ref (ad a)] M n) (bm_Qv D ad cA b0 M1 n1) (n1 - n) (z1 - z) (bm_A b0)
theorem bm_St_moved {s U : State} (h : bm_St s) (ha : s.vm.Alike U.vm) (hn : ∀ a i x g, va_Nw (.methodLinkNest a i x g) s → va_Nw (.methodLinkNest a i x g) U) : bm_St U := ⟨fun q hq h1 => hn _ _ _ _ (h.1 q hq h1), va_AO.moved ha h.2.1, va_AO.moved ha h.2.2⟩
theorem bm_blind (D : va_G) (ad : Nat → Nat) (cA : Nat → ClassId) (b0 : Nat) (av : List Value) (M : am_M) (n : Nat) : FrameBlind (bm_Pc D ad cA b0 av M n) := fun a U g mk h => ⟨h.1, h.2.1, va_K.moved (u := U) (U := U.calling g mk a) (Vm.Alike.refl U.vm) h.2.2.1, bm_St_moved (s := U) h.2.2.2 (Vm.Alike.refl U.vm) (fun _ _ _ _ q => va_Nw.same rfl rfl q)⟩
theorem bm_good {w : Cond} (h : w ∈ lw_gd) : w ∈ lw_gd ∧ ((w.onTables && w.keeps) = true ∨ ∃ ty, w = .arrayClass ty) := ⟨h, lw_gd_good w h⟩
theorem bm_declall : ∀ q ∈ bm_fp, am_cn q.2.2.1 = am_cn q.1 := by decide +kernel
theorem bm_own8 : ∀ q ∈ bm_fp, q.1 ≠ 8 := by decide +kernel
theorem bm_ml15 : ∀ ci, ci < 8 → bm_ml ci ≤ 15 := by decide +kernel
section BSN
variable {p : Program} {l : Launch} {e : Env} {R : Room} {s : State} {m : MethodId} {args : Array Value} {below : List Frame} {meth : Method} {c : Code} {Q : State → Prop} {D : va_G} {ad : Nat → Nat} {cA : Nat → ClassId} {C : am_M} {b0 own nL n0 z0 : Nat} {cc : ByteArray} {ps : List Nat} {call : Nat → List am_V → Nat → Nat → am_M → bm_R} {res : Nat × Nat × am_M} {d : Nat}
theorem bm_s_call (X : bm_Cx p R s m args c D ad cA b0 n0 own nL cc) (hRc : res.1 - n0 ≤ R.cells) (hRs : res.2.1 - z0 ≤ R.slots) {ci b t : Nat} (hcl : bm_Cl l D ad cA b0 d call) (hr1 : d + 1 ≤ R.frames) (hr2 : 40 * d + 40 ≤ R.locals) : bm_SS p l e R s m args below meth c Q D ad cA C b0 own nL n0 z0 cc ps call res (.invokespecial ci, b, t) := by
  intro bp nx hd ls st n z M ks kj h hs hj
  obtain ⟨hx, hb, hml, hown, hts, hK, hSt, had, hRf, hRl, hsz0⟩ := id X
  have hvF : (Value.null = .null ∨ ∃ x, Value.null = .ref x) := Or.inl rfl
  rcases st with _ | ⟨x | q, st⟩ <;> try (exact (bm_no h).elim)
  obtain ⟨hc, h⟩ := bm_cond h
  obtain ⟨hc, hlen⟩ := am_and hc
  obtain ⟨hc, hq⟩ := am_and hc
  have hlen := Nat.le_of_ble_eq_true hlen
  have hq : q < n := Nat.le_of_ble_eq_true hq
  obtain ⟨hd, h3⟩ := am_and hd
  obtain ⟨hd1, rfl⟩ := am_d1_ok hd
  obtain ⟨hlk, hci⟩ := bm_iv_all _ (am_mem h3)
  dsimp only at hlk hci
  cases hcall : call ci [.inr q] n z M with
  | none => rw [hcall] at h; exact (bm_no h).elim
  | some rr =>
  obtain ⟨n1, z1, M1⟩ := rr
  rw [hcall] at h
  obtain ⟨a, ha1, ha2, ha3, ⟨ha4, ha5⟩, hMet⟩ := hcl ci _ n z M n1 z1 M1 hcall hci
  injection ha1 with ha1
  injection ha1 with ha1
  subst ha1
  obtain ⟨g1, g2⟩ := hs _ _ _ _ _ h
  refine ⟨by omega, fun hn hv H locs L hL hW hS h0 h1 => ?_⟩
  have hq199 : q < 199 := Nat.lt_of_lt_of_le hq hW.2.2.1
  show W p l e R s m args below meth c H locs (n - n0) (z - z0) Q (F0 m bp L (am_rv ad .null q :: st.map (am_enc ad .null)))
  rw [bm_ad had hq199]
  obtain ⟨mf1, mf2, mf3, mf4, mf5⟩ := bm_mf_all ci hci
  have hcw : Cond.code (bm_y ci) (bm_b ci) (bm_ml ci) none ∈ lw_gd := lw_g mf2 rfl
  have hml15 : bm_ml ci ≤ 15 := bm_ml15 ci hci
  have hroom : (bm_rm d (n1 - n) (z1 - z)).frames + 1 ≤ R.frames ∧ 8 + (bm_ml ci + 11) + (bm_rm d (n1 - n) (z1 - z)).locals ≤ R.locals := ⟨hr1, by show 8 + (bm_ml ci + 11) + 40 * d ≤ R.locals; omega⟩
  have hgood : GoodIn lw_gd (bm_w ci) := fun w hw => bm_good ((List.mem_cons.mp hw).elim (fun q => q ▸ hcw) id)
  have hpre : PreS s H (bm_Pc D ad cA b0 [.ref (ad q)] M n) [.ref (ad q)] := ⟨bm_blind _ _ _ _ _ _ _, fun U hU hWm => ⟨rfl, by rw [hU]; exact hW, va_K.moved hWm.alike hK, bm_St_moved hSt hWm.alike (fun _ _ _ _ q => va_Nw.warmM hWm q)⟩⟩
  have hrest : 2 * (F0 m bp L (Value.ref (ad q) :: st.map (am_enc ad .null))).monitorRoom + ((st.map (am_enc ad .null)).map fun v => v.category).sum ≤ 8 := lv_room (am_cats hvF hlen)
  have fin : ∀ (u : Unit) (t : State) (H1 : Heap) (locs1 : List Loc), t.heap = H1 → s.vm.Alike t.vm → True → bm_Wd D ad cA b0 M1 n1 t.heap → H.size ≤ H1.size → (∀ q : Nat, q < H.size → ¬ bm_A b0 q → H1[q]? = H[q]?) → va_S (bm_A b0) s.heap H1 locs1 → W p l e R s m args below meth c H1 locs1 (n - n0 + (n1 - n)) (z - z0 + (z1 - z)) Q (F0 m (bp + 3) L (st.map (am_enc ad .null))) := by
    intro u t H1 locs1 ht _ _ hW1 _ _ hS1
    have k := g2 hn (am_vtl hv) H1 locs1 L hL (ht ▸ hW1) hS1 (by omega) (by omega)
    rw [show n - n0 + (n1 - n) = n1 - n0 from by omega, show z - z0 + (z1 - z) = z1 - z0 from by omega]
    exact k
  revert hlk
  cases ht : Nat.beq t 1 with
  | true =>
    intro hlk
    have ht1 : t = 1 := Nat.eq_of_beq_eq_true ht
    have hnw := hSt.1 _ (am_mem h3) ht1
    have cw := va_cnB (R := R) (s := s) (args := args) (mc := n1 - n) (ms := z1 - z) 0 hts hgood (ws' := lw_gd) rfl (rm := bm_rm d (n1 - n) (z1 - z)) rfl rfl hnw (hts _ (lw_g mf5 rfl)) mf3 hroom
    exact va_callv (va_runIN (As := []) (rest := st.map (am_enc ad .null)) ⟨hx, hb, hml, hown, hts⟩ hMet ⟨cw, rfl, hts _ (lw_g mf4 rfl)⟩ hpre rfl rfl (hL.1.trans hn) rfl hrest hd1 ⟨by omega, by omega⟩) hS (fun q _ z => z) (fun q z => z) fin
  | false =>
    intro hlk
    have cw := cwI (R := R) (s := s) (args := args) (mc := n1 - n) (ms := z1 - z) 0 hts hgood (ws' := lw_gd) rfl (rm := bm_rm d (n1 - n) (z1 - z)) rfl rfl (hts _ (lw_g mf5 rfl)) (hts _ (lw_g hlk rfl)) (hts _ (lw_g mf4 rfl)) rfl mf3 hroom
    exact va_callv (va_runI (As := []) (rest := st.map (am_enc ad .null)) ⟨hx, hb, hml, hown, hts⟩ hMet cw hpre rfl rfl (hL.1.trans hn) rfl hrest hd1 ⟨by omega, by omega⟩) hS (fun q _ z => z) (fun q z => z) fin
def bm_Re (p : Program) (l : Launch) (e : Env) (R : Room) (s : State) (m : MethodId) (args : Array Value) (below : List Frame) (meth : Method) (c : Code) (Q : State → Prop) (D : va_G) (ad : Nat → Nat) (cA : Nat → ClassId) (b0 n0 z0 : Nat) (cc : ByteArray) (res : Nat × Nat × am_M) : Prop :=
  ∀ (bp : Nat) (H : Heap) (locs : List Loc) (L : Array Slot), bm_Wd D ad cA b0 res.2.2 res.1 H → va_S (bm_A b0) s.heap H locs → decode cc bp = .ok (.return_, 1) → W p l e R s m args below meth c H locs (res.1 - n0) (res.2.1 - z0) Q (F0 m bp L [])
theorem bm_s_ret (hre : bm_Re p l e R s m args below meth c Q D ad cA b0 n0 z0 cc res) {a b : Nat} : bm_SS p l e R s m args below meth c Q D ad cA C b0 own nL n0 z0 cc ps call res (.return_, a, b) := by
  intro bp nx hd ls st n z M ks kj h hs hj
  obtain rfl : st = [] := by
    cases st with
    | nil => rfl
    | cons v st => exact (bm_no h).elim
  have h : some (n, z, M) = some res := h
  cases h
  exact ⟨⟨Nat.le_refl _, Nat.le_refl _⟩, fun hn hv H locs L hL hW hS h0 h1 => hre bp H locs L hW hS (of_decide_eq_true hd)⟩
def bm_Rn (p : Program) (l : Launch) (e : Env) (R : Room) (s : State) (m : MethodId) (args : Array Value) (below : List Frame) (meth : Method) (c : Code) (Q : State → Prop) (D : va_G) (ad : Nat → Nat) (cA : Nat → ClassId) (b0 own n0 z0 : Nat) (ps : List Nat) (res : Nat × Nat × am_M) : Prop :=
  own = 8 → ∀ (H : Heap) (locs : List Loc) (L : Array Slot), bm_Wd D ad cA b0 res.2.2 res.1 H → va_S (bm_A b0) s.heap H locs → am_lok ad .null bm_end L → W p l e R s m args below meth c H locs (res.1 - n0) (res.2.1 - z0) Q (F0 m 16 L [])
theorem bm_s_nop (hrn : bm_Rn p l e R s m args below meth c Q D ad cA b0 own n0 z0 ps res) {a b : Nat} : ∀ nx, bm_dec own cc ps 16 nx (.nop, a, b) = true → ∀ ls st n z M ks kj, bm_stp call (.nop, a, b) ls st n z M ks kj = some res → (n ≤ res.1 ∧ z ≤ res.2.1) ∧ bm_Go p l e R s m args below meth c Q D ad cA C b0 nL n0 z0 16 ls st n z M := by
  intro nx hd ls st n z M ks kj h
  obtain rfl : st = [] := by
    cases st with
    | nil => rfl
    | cons v st => exact (bm_no h).elim
  have h : cond (decide (ls = bm_end)) (some (n, z, M)) none = some res := h
  obtain ⟨h1, h⟩ := bm_cond h
  have h1 : ls = bm_end := of_decide_eq_true h1
  cases h
  subst h1
  exact ⟨⟨Nat.le_refl _, Nat.le_refl _⟩, fun hn hv H locs L hL hW hS h0 h1 => hrn (of_decide_eq_true hd) H locs L hW hS hL⟩
def bm_DK (own : Nat) (cc : ByteArray) (ps : List Nat) (code : List am_I) : Prop := ∀ (pc : Nat) (ai : am_I), code[pc]? = some ai → bm_dec own cc ps (ps.getD pc 0) (ps.getD (pc + 1) 0) ai = true
theorem bm_decs_at {own : Nat} {cc : ByteArray} {ps : List Nat} : ∀ (qs : List Nat) (code : List am_I), bm_decs own cc ps qs code = true → ∀ (pc : Nat) (ai : am_I), code[pc]? = some ai → bm_dec own cc ps (qs.getD pc 0) (qs.getD (pc + 1) 0) ai = true := by
  intro qs code
  induction code generalizing qs with
  | nil => intro _ pc ai h; simp at h
  | cons a code ih =>
    intro h pc ai hpc
    match qs, h with
    | bp :: nx :: r, h =>
      obtain ⟨h1, h2⟩ := am_and h
      cases pc with
      | zero => cases hpc; exact h1
      | succ pc => exact ih (nx :: r) h2 pc ai (by simpa using hpc)
theorem bm_step (X : bm_Cx p R s m args c D ad cA b0 n0 own nL cc) (hRc : res.1 - n0 ≤ R.cells) (hRs : res.2.1 - z0 ≤ R.slots) (hin : own ≠ 8 → meth.name = "<init>") (hcl : bm_Cl l D ad cA b0 d call) (hr1 : d + 1 ≤ R.frames) (hr2 : 40 * d + 40 ≤ R.locals) (hre : bm_Re p l e R s m args below meth c Q D ad cA b0 n0 z0 cc res) (i : am_I) (hnop : i.1 ≠ .nop) : bm_SS p l e R s m args below meth c Q D ad cA C b0 own nL n0 z0 cc ps call res i := by
  have bad : ∀ (i : Jvm.ClassFile.Instr) (a b : Nat), (∀ bp nx, bm_dec own cc ps bp nx (i, a, b) = false) → bm_SS p l e R s m args below meth c Q D ad cA C b0 own nL n0 z0 cc ps call res (i, a, b) := by
    intro i a b h bp nx hd
    rw [h bp nx] at hd
    cases hd
  obtain ⟨i, a, b⟩ := i
  cases i with
  | nop => exact absurd rfl hnop
  | iload k => exact bm_s_iload X hRc hRs
  | istore k => exact bm_s_istore X hRc hRs
  | bipush v => exact bm_s_bipush X hRc hRs
  | dup => exact bm_s_dup X hRc hRs
  | if_icmp cd t =>
    cases cd with
    | ge => exact bm_s_icmp X hRc hRs
    | _ => exact bad _ _ _ (fun _ _ => rfl)
  | goto t => exact bm_s_goto X hRc hRs
  | iinc k w => exact bm_s_iinc X hRc hRs
  | checkcast k => exact bm_s_checkcast X hRc hRs
  | putfield k =>
    by_cases h8 : own = 8
    · intro bp nx hd
      have := bm_own8 _ (am_mem (am_and hd).2)
      exact absurd h8 this
    exact bm_s_putfield X hRc hRs (hin h8) (fun ci Cn T N b h1 h2 => by
      obtain ⟨q, hq1, hq2⟩ : ∃ q : vw_C, vwCl[ci]? = some q ∧ q.1 = am_cn ci := am_vw ci (by
        obtain ⟨_, _, _, _, _, _, _, _, f6, _⟩ := bm_fp_all _ (am_mem h2)
        exact f6)
      have e1 : (Cn, T, N) = q := Option.some.inj (h1.symm.trans hq1)
      rw [← e1] at hq2
      have hq2 : Cn = am_cn ci := hq2
      rw [hq2, bm_declall _ (am_mem h2)])
  | new ci => exact bm_s_new X hRc hRs
  | newarray t => exact bm_s_newarray X hRc hRs
  | anewarray k => exact bm_s_anewarray X hRc hRs
  | aastore => exact bm_s_aastore X hRc hRs
  | areturn => exact bm_s_obj X hRc hRs
  | invokespecial ci => exact bm_s_call X hRc hRs hcl hr1 hr2
  | return_ => exact bm_s_ret hre
  | _ => exact bad _ _ _ (fun _ _ => rfl)
theorem bm_exec (X : bm_Cx p R s m args c D ad cA b0 n0 own nL cc) (hRc : res.1 - n0 ≤ R.cells) (hRs : res.2.1 - z0 ≤ R.slots) (hin : own ≠ 8 → meth.name = "<init>") {code : List am_I} (hD : bm_DK own cc ps code) (hcl : bm_Cl l D ad cA b0 d call) (hr1 : d + 1 ≤ R.frames) (hr2 : 40 * d + 40 ≤ R.locals) (hre : bm_Re p l e R s m args below meth c Q D ad cA b0 n0 z0 cc res) (hrn : bm_Rn p l e R s m args below meth c Q D ad cA b0 own n0 z0 ps res) (hnp : ∀ (pc : Nat) (a b : Nat), code[pc]? = some (.nop, a, b) → ps.getD pc 0 = 16) : ∀ (f pc : Nat) (ls : List (Option am_V)) (st : List am_V) (n z : Nat) (M : am_M), bm_ex call code f pc ls st n z M = some res → (n ≤ res.1 ∧ z ≤ res.2.1) ∧ bm_Go p l e R s m args below meth c Q D ad cA C b0 nL n0 z0 (ps.getD pc 0) ls st n z M := by
  intro f
  induction f with
  | zero => intro pc ls st n z M h; exact (bm_no h).elim
  | succ f ih =>
    intro pc ls st n z M h
    have h : (match code[pc]? with
      | some i => bm_stp call i ls st n z M (bm_ex call code f (pc + 1)) (bm_ex call code f)
      | none => none) = some res := h
    cases hi : code[pc]? with
    | none => rw [hi] at h; exact (bm_no h).elim
    | some ai =>
      rw [hi] at h
      by_cases hnop : ai.1 = .nop
      · obtain ⟨i, a, b⟩ := ai
        have hnop : i = .nop := hnop
        subst hnop
        have e := hnp pc a b hi
        rw [e]
        have hd := hD pc _ hi
        rw [e] at hd
        exact bm_s_nop hrn _ hd _ _ _ _ _ _ _ h
      exact bm_step X hRc hRs hin hcl hr1 hr2 hre ai hnop (ps.getD pc 0) (ps.getD (pc + 1) 0) (hD pc ai hi) ls st n z M _ _ h (fun l s n z m h => ih (pc + 1) l s n z m h) (fun t l s n z m h => ih t l s n z m h)
end BSN
end
section
/-! START: the constructors' contracts -/
theorem bm_pp0 : ∀ ci, ci < 8 → (bm_pp ci).getD 0 0 = 0 := by decide +kernel
theorem bm_nonop : ∀ ci, ci < 8 → ∀ q ∈ bm_code ci, q.1 ≠ .nop := by decide +kernel
theorem bm_cc {b : Bool} {x y : bm_R} {r : Nat × Nat × am_M} (h : cond b x y = some r) : x = some r ∨ y = some r := by
  cases b with
  | true => exact Or.inl h
  | false => exact Or.inr h
theorem bm_mono {call : Nat → List am_V → Nat → Nat → am_M → bm_R} {code : List am_I} (hc : ∀ ci args n z M r, call ci args n z M = some r → n ≤ r.1 ∧ z ≤ r.2.1) : ∀ (f pc : Nat) (ls : List (Option am_V)) (st : List am_V) (n z : Nat) (M : am_M) (res : Nat × Nat × am_M), bm_ex call code f pc ls st n z M = some res → n ≤ res.1 ∧ z ≤ res.2.1 := by
  intro f
  induction f with
  | zero => intro pc ls st n z M res h; exact (bm_no h).elim
  | succ f ih =>
    intro pc ls st n z M res h
    have h : (match code[pc]? with
      | some i => bm_stp call i ls st n z M (bm_ex call code f (pc + 1)) (bm_ex call code f)
      | none => none) = some res := h
    cases hi : code[pc]? with
    | none => rw [hi] at h; exact (bm_no h).elim
    | some ai =>
      rw [hi] at h
      obtain ⟨i, a, b⟩ := ai
      have h : bm_stp call (i, a, b) ls st n z M (bm_ex call code f (pc + 1)) (bm_ex call code f) = some res := h
      have ks := fun {l s n z m} (h : bm_ex call code f (pc + 1) l s n z m = some res) => ih _ _ _ _ _ _ _ h
      have kj := fun {t l s n z m} (h : bm_ex call code f t l s n z m = some res) => ih _ _ _ _ _ _ _ h
      unfold bm_stp at h
      split at h
      · split at h
        · exact ks (bm_cond h).2
        · exact (bm_no h).elim
      · split at h
        · exact ks (bm_cond h).2
        · exact (bm_no h).elim
      · exact ks h
      · split at h
        · exact ks h
        · exact (bm_no h).elim
      · split at h
        · exact (bm_cc h).elim (fun h => ks h) (fun h => kj h)
        · exact (bm_no h).elim
      · exact kj h
      · split at h
        · exact ks h
        · exact (bm_no h).elim
      · split at h
        · exact ks (bm_cond h).2
        · exact (bm_no h).elim
      · split at h
        · exact ks (bm_cond h).2
        · exact ks (bm_cond h).2
        · exact (bm_no h).elim
      · have := ks (bm_cond h).2; omega
      · split at h
        · have := ks (bm_cond h).2; omega
        · exact (bm_no h).elim
      · split at h
        · have := ks (bm_cond h).2; omega
        · exact (bm_no h).elim
      · split at h
        · exact ks (bm_cond h).2
        · exact (bm_no h).elim
      · split at h
        · exact ks (bm_cond h).2
        · exact (bm_no h).elim
      · split at h
        · have h := (bm_cond h).2
          split at h
          · rename_i hcall
            have h1 := hc _ _ _ _ _ _ hcall
            have h2 := ks h
            dsimp only at h1
            omega
          · exact (bm_no h).elim
        · exact (bm_no h).elim
      · split at h
        · cases h; exact ⟨Nat.le_refl _, Nat.le_refl _⟩
        · exact (bm_no h).elim
      · split at h
        · have h := (bm_cond h).2; cases h; exact ⟨Nat.le_refl _, Nat.le_refl _⟩
        · exact (bm_no h).elim
      · exact (bm_no h).elim
theorem bm_run_s {d ci : Nat} {args : List am_V} {n z : Nat} {M : am_M} {r : Nat × Nat × am_M} (h : bm_run (d + 1) ci args n z M = some r) : ∃ a, args = [.inr a] ∧ am_cls a = ci ∧ a < n ∧ bm_ex (bm_run d) (bm_code ci) 400 0 (am_ini (bm_ml ci) args) [] n z M = some r := by
  unfold bm_run at h
  split at h
  · rename_i a
    obtain ⟨h1, h2⟩ := bm_cond h
    obtain ⟨h3, h4⟩ := am_and h1
    exact ⟨a, rfl, Nat.eq_of_beq_eq_true h3, Nat.le_of_ble_eq_true h4, h2⟩
  · exact (bm_no h).elim
theorem bm_run_mono : ∀ (d ci : Nat) (args : List am_V) (n z : Nat) (M : am_M) (r : Nat × Nat × am_M), bm_run d ci args n z M = some r → n ≤ r.1 ∧ z ≤ r.2.1 := by
  intro d
  induction d with
  | zero => intro ci args n z M r h; exact (bm_no h).elim
  | succ d ih =>
    intro ci args n z M r h
    obtain ⟨a, -, -, -, h⟩ := bm_run_s h
    exact bm_mono ih _ _ _ _ _ _ _ _ h
theorem bm_sound {l : Launch} {D : va_G} {ad : Nat → Nat} {cA : Nat → ClassId} {b0 : Nat} (had : ∀ k, k < 199 → ad k = b0 + k) : ∀ d, bm_Cl l D ad cA b0 d (bm_run d) := by
  intro d
  induction d with
  | zero => intro ci args n z M n1 z1 M1 h; exact (bm_no h).elim
  | succ d ih =>
    intro ci args n z M n1 z1 M1 h hci
    have hmono := bm_run_mono _ _ _ _ _ _ _ h
    obtain ⟨a, rfl, hcl, han, h⟩ := bm_run_s h
    refine ⟨a, rfl, hcl, han, hmono, ?_⟩
    obtain ⟨mf1, mf2, mf3, mf4, mf5⟩ := bm_mf_all ci hci
    refine Met.ofW (cc := bm_b ci) (maxL := bm_ml ci) (ret := none) mf1 rfl ?_
    intro p e s m args' below meth c s₁ B hml hvv
    obtain ⟨rfl, hW, hK, hSt⟩ := hvv
    have hb := B.bytes
    have hr := B.returns
    have hlocks := B.notSynchronized
    have hts := atoms_spec (ws := bm_w ci) B.pre
    have hown : s.vm.findClass (bm_y ci).cls = some m.cls := findClass_of_methodNamed B.named
    have hin : meth.name = "<init>" := (name_of_methodNamed B.named B.method).1
    have ha199 : a < 199 := Nat.lt_of_lt_of_le han hW.2.2.1
    have X : bm_Cx p (bm_rm (d + 1) (n1 - n) (z1 - z)) s m [Value.ref (ad a)].toArray c D ad cA b0 n ci (bm_ml ci) (bm_b ci) :=
      ⟨B.exec, hb, hml, hown, fun w hw => hts w (List.mem_cons_of_mem _ hw), hK, hSt, had, by show 1 ≤ d + 1; omega, by show 21 ≤ 40 * (d + 1); omega, hW.2.1⟩
    have hre : bm_Re p l e (bm_rm (d + 1) (n1 - n) (z1 - z)) s m [Value.ref (ad a)].toArray below meth c (MQ below (bm_Qv D ad cA b0 M1 n1) [Value.ref (ad a)].toArray s (n1 - n) (z1 - z) (bm_A b0)) D ad cA b0 n z (bm_b ci) (n1, z1, M1) := by
      intro bp H locs L hW1 hS1 hdg
      exact W.vret B.exec hb hr (fun t ht _ => ⟨⟨(), rfl, trivial, by show bm_Wd D ad cA b0 M1 n1 t.heap; rw [ht]; exact hW1⟩, hS1.F ht⟩) hS1.2.2 hdg
    have hml1 : ([.inr a] : List am_V).length ≤ bm_ml ci := by
      have : ∀ ci, ci < 8 → 1 ≤ bm_ml ci := by decide +kernel
      exact this ci hci
    have hD : bm_DK ci (bm_b ci) (bm_pp ci) (bm_code ci) := bm_decs_at _ _ (bm_ok_all ci hci)
    have k := (bm_exec (C := fun _ _ => 0) (nL := bm_ml ci) (Q := MQ below (bm_Qv D ad cA b0 M1 n1) [Value.ref (ad a)].toArray s (n1 - n) (z1 - z) (bm_A b0)) X (res := (n1, z1, M1)) (Nat.le_refl _) (Nat.le_refl _) (fun _ => hin) hD ih (by show d + 1 ≤ d + 1; omega) (by show 40 * d + 40 ≤ 40 * (d + 1); omega) hre (fun h8 => by omega) (fun pc x y hq => absurd rfl (bm_nonop ci hci _ (List.mem_of_getElem? hq))) 400 0 _ _ n z M h).2 (am_ini_len hml1) (fun _ q => absurd q List.not_mem_nil)
    have hent := am_entry (ad := ad) (vF := .null) (n := bm_ml ci) (args := [.inr a]) (Or.inl rfl) hml1 (fun v hv => by rw [List.mem_singleton.mp hv]; trivial)
    have emap : ([.inr a] : List am_V).map (am_enc ad .null) = [.ref (ad a)] := by
      show [am_rv ad .null a] = _
      rw [bm_ad had ha199]
    rw [emap] at hent
    have k := k s.heap [] _ hent hW va_S.rf (Nat.le_refl _) (Nat.le_refl _)
    rw [bm_pp0 ci hci, Nat.sub_self, Nat.sub_self] at k
    rw [lg_entry_eq]
    exact k
end
section
/-! START: the law's prologue, run once -/
def am_us : List (Nat × Int × Int) → am_M → am_M
  | [], M => M
  | (a, i, v) :: l, M => am_us l (am_upd M a i v)
def bm_cL : List am_I := [(.new 6, 7, 0), (.dup, 0, 0), (.invokespecial 6, 9, 0), (.istore 1, 1, 0), (.new 7, 10, 0), (.dup, 0, 0), (.invokespecial 7, 12, 0), (.istore 2, 1, 0), (.nop, 0, 0)]
def bm_pL : List Nat := [0, 3, 4, 7, 8, 11, 12, 15, 16, 16]
theorem bm_okL : bm_decs 8 code bm_pL bm_pL bm_cL = true := by decide +kernel
def bm_M : am_M := am_us [(1, 5, 1), (1, 6, 1), (1, 7, 1), (1, 8, 1), (1, 9, 1), (1, 10, 1), (1, 11, 1), (1, 12, 1), (1, 13, 1), (1, 14, 1), (1, 15, 1), (1, 16, 1), (0, 0, 1), (14, 5, 1), (14, 6, 1), (14, 7, 1), (14, 8, 1), (14, 9, 1), (14, 10, 1), (14, 11, 1), (14, 12, 1), (14, 13, 1), (14, 14, 1), (14, 15, 1), (14, 16, 1), (0, 1, 1), (0, 2, 1), (28, 0, 1), (30, 1, 1), (28, 1, 1), (32, 1, 1), (28, 2, 1), (34, 2, 1), (34, 3, 1), (34, 4, 1), (34, 5, 1), (34, 6, 1), (29, 0, 1), (40, 2, 1), (40, 3, 1), (40, 4, 1), (40, 5, 1), (40, 6, 1), (29, 1, 1), (46, 2, 1), (46, 3, 1), (46, 4, 1), (46, 5, 1), (46, 6, 1), (29, 2, 1), (0, 5, 1), (0, 6, 1), (53, 5, 1), (53, 6, 1), (53, 7, 1), (53, 8, 1), (53, 9, 1), (53, 10, 1), (53, 11, 1), (53, 12, 1), (53, 13, 1), (53, 14, 1), (53, 15, 1), (53, 16, 1), (0, 7, 1), (66, 0, 1), (68, 1, 1), (66, 1, 1), (70, 1, 1), (66, 2, 1), (72, 2, 1), (72, 3, 1), (72, 4, 1), (72, 5, 1), (72, 6, 1), (67, 0, 1), (78, 2, 1), (78, 3, 1), (78, 4, 1), (78, 5, 1), (78, 6, 1), (67, 1, 1), (84, 2, 1), (84, 3, 1), (84, 4, 1), (84, 5, 1), (84, 6, 1), (67, 2, 1), (0, 8, 1), (0, 9, 1), (0, 11, 1), (92, 0, 1), (92, 1, 1), (92, 2, 1), (92, 6, (-1)), (96, 2, 1), (96, 3, 1), (96, 4, 1), (96, 5, 1), (96, 6, 1), (92, 8, 1), (102, 1, 1), (92, 9, 1), (0, 13, 1), (104, 0, 1), (104, 1, 1), (0, 14, 1), (0, 15, 1), (108, 5, 1), (108, 6, 1), (108, 7, 1), (108, 8, 1), (108, 9, 1), (108, 10, 1), (108, 11, 1), (108, 12, 1), (108, 13, 1), (108, 14, 1), (108, 15, 1), (108, 16, 1), (27, 0, 1), (121, 5, 1), (121, 6, 1), (121, 7, 1), (121, 8, 1), (121, 9, 1), (121, 10, 1), (121, 11, 1), (121, 12, 1), (121, 13, 1), (121, 14, 1), (121, 15, 1), (121, 16, 1), (27, 1, 1), (134, 5, 1), (134, 6, 1), (134, 7, 1), (134, 8, 1), (134, 9, 1), (134, 10, 1), (134, 11, 1), (134, 12, 1), (134, 13, 1), (134, 14, 1), (134, 15, 1), (134, 16, 1), (27, 2, 1), (147, 5, 1), (147, 6, 1), (147, 7, 1), (147, 8, 1), (147, 9, 1), (147, 10, 1), (147, 11, 1), (147, 12, 1), (147, 13, 1), (147, 14, 1), (147, 15, 1), (147, 16, 1), (27, 3, 1), (160, 5, 1), (160, 6, 1), (160, 7, 1), (160, 8, 1), (160, 9, 1), (160, 10, 1), (160, 11, 1), (160, 12, 1), (160, 13, 1), (160, 14, 1), (160, 15, 1), (160, 16, 1), (27, 4, 1), (173, 5, 1), (173, 6, 1), (173, 7, 1), (173, 8, 1), (173, 9, 1), (173, 10, 1), (173, 11, 1), (173, 12, 1), (173, 13, 1), (173, 14, 1), (173, 15, 1), (173, 16, 1), (27, 5, 1), (186, 0, 1), (186, 1, 1), (186, 2, 1), (186, 3, 1), (186, 6, 1), (186, 7, 1), (186, 8, 1), (186, 9, 1), (186, 10, 1), (186, 11, 1), (186, 25, (-1)), (186, 29, 1), (186, 30, 1)] (fun _ _ => 0)
set_option maxRecDepth 1000000 in
set_option maxHeartbeats 4000000 in
theorem bm_runL : bm_ex (bm_run 6) bm_cL 20 0 [some (.inr 203), none, none, none] [] 0 0 (fun _ _ => 0) = some (199, 24098, bm_M) := by rfl
end
section
/-! START: what the start gives: strings, tables, statics (written by genstart.py) -/
def am_Fl : List Jvm.Cond := flatC (Jvm.Cond.and given_1 narrow_1)
def am_sb : List (Nat × Nat × Nat × List Int) := [(43, 2, 69, [108, 101, 102, 116, 32, 98, 101, 115, 116, 32, 119, 111, 114, 110, 32, 115, 99, 97, 114, 115, 32, 104, 111, 117, 114, 115, 32, 112, 114, 105, 99, 101, 32, 99, 111, 105, 110, 32, 99, 104, 105, 108, 100, 32, 111, 119, 110, 32, 99, 104, 97, 105, 110, 32, 115, 107, 105, 108, 108, 32, 104, 101, 108, 100, 32, 107, 105, 110, 100, 32, 104, 111, 117, 114, 32, 119, 104, 101, 110, 32, 111, 114, 32, 97, 110, 100, 32, 110, 111, 116, 32, 109, 97, 121, 32, 98, 97, 114, 32, 108, 101, 97, 114, 110, 32, 119, 101, 97, 114, 32, 115, 99, 97, 114, 32, 112, 97, 121, 32, 104, 97, 110, 100, 32, 104, 101, 97, 100, 32, 98, 111, 116, 104, 32, 110, 111, 110, 101, 32, 108, 101, 110, 100, 32, 116, 111, 32, 97, 116, 32, 102, 111, 114, 32, 119, 111, 114, 107, 32, 110, 101, 101, 100, 115, 32, 112, 97, 121, 115]), (216, 7, 154, [108, 101, 110, 100]), (224, 7, 156, [116, 111]), (230, 7, 158, [97, 116]), (236, 7, 159, [102, 111, 114]), (243, 7, 121, [112, 114, 105, 99, 101]), (252, 7, 161, [119, 111, 114, 107]), (260, 7, 163, [110, 101, 101, 100, 115]), (269, 7, 165, [112, 97, 121, 115]), (277, 7, 150, [98, 111, 116, 104]), (285, 7, 176, [119, 104, 101, 110]), (293, 7, 178, [111, 114]), (299, 7, 180, [97, 110, 100]), (306, 7, 182, [110, 111, 116]), (313, 7, 111, [109, 97, 121]), (320, 7, 113, [98, 97, 114]), (327, 7, 115, [98, 101, 115, 116]), (335, 7, 117, [119, 111, 114, 110]), (343, 7, 119, [104, 111, 117, 114, 115]), (352, 7, 123, [99, 111, 105, 110]), (360, 7, 125, [99, 104, 97, 105, 110]), (369, 7, 99, [108, 101, 102, 116]), (377, 7, 105, [115, 99, 97, 114, 115]), (386, 7, 107, [99, 104, 105, 108, 100]), (395, 7, 109, [111, 119, 110]), (402, 7, 130, [108, 101, 97, 114, 110]), (411, 7, 132, [119, 101, 97, 114]), (419, 7, 134, [115, 99, 97, 114]), (427, 7, 136, [112, 97, 121]), (434, 7, 138, [115, 107, 105, 108, 108]), (443, 7, 140, [104, 101, 108, 100]), (451, 7, 142, [107, 105, 110, 100]), (459, 7, 144, [104, 111, 117, 114]), (467, 7, 146, [104, 97, 110, 100]), (475, 7, 148, [104, 101, 97, 100]), (483, 7, 152, [110, 111, 110, 101])]
def am_tb : List (Nat × List Int) := [(15, [18, 20, 24]), (21, [19, 23, 27]), (9, [1023, 15757, 2475])]
def am_sg (i : Nat) : Nat × Nat × Nat × List Int := am_sb.getD i (0, 0, 0, [])
def am_by (i : Nat) : List Int := (am_sg i).2.2.2
def am_ti (i : Nat) : List Int := (am_tb.getD i (0, [])).2
def am_sT (i : Nat) : Term := .string (am_cn (am_sg i).2.1) (am_sg i).2.2.1
def am_sV (i : Nat) : Term := .field (am_sT i) "java/lang/String" "value" "[B"
def am_se (i : Nat) : List Jvm.Cond := [.exactly (am_sT i) "java/lang/String", .eq (.field (am_sT i) "java/lang/String" "coder" "B") (.int 0), .arrayOf (am_sV i) .byte, .eq (.length (am_sV i)) (.int (Int32.ofNat (am_by i).length))] ++ (List.range (am_by i).length).map (fun j => .eq (.elem (am_sV i) (.int (Int32.ofNat j))) (.int (Int32.ofInt ((am_by i).getD j 0))))
def am_sq (i : Nat) : Term := .static "LentHands" (am_GN (200 + i)) "[I"
def am_te (i : Nat) : List Jvm.Cond := [.arrayOf (am_sq i) .int, .eq (.length (am_sq i)) (.int (Int32.ofNat (am_ti i).length))] ++ (List.range (am_ti i).length).map (fun j => .eq (.elem (am_sq i) (.int (Int32.ofNat j))) (.int (Int32.ofInt ((am_ti i).getD j 0))))
set_option maxRecDepth 100000 in
theorem am_se_ok : ∀ i, i < 36 → (am_Fl.drop (am_sg i).1).take (4 + (am_by i).length) = am_se i := by decide +kernel
theorem am_te_ok : ∀ i, i < 3 → (am_Fl.drop ((am_tb.getD i (0, [])).1 + 1)).take (2 + (am_ti i).length) = am_te i := by decide +kernel
theorem am_by_len : ∀ i, i < 36 → am_len (fun _ _ => 0) (400 + i) = (am_by i).length ∧ (am_by i).length < 2000 ∧ ∀ x ∈ am_by i, am_in x := by decide +kernel
theorem am_ti_len : ∀ i, i < 3 → am_len (fun _ _ => 0) (200 + i) = (am_ti i).length ∧ (am_ti i).length < 2000 ∧ ∀ x ∈ am_ti i, am_in x := by decide +kernel
theorem am_Fl_sl : ∀ q ∈ am_sl, 300 ≤ q.2.2 ∧ q.2.2 < 336 ∧ am_sT (q.2.2 - 300) = .string (am_cn q.1) q.2.1 := by decide +kernel
theorem am_nC : am_Fl[4]? = some (.eq (.static "java/lang/String" "COMPACT_STRINGS" "Z") (.int 1)) := by rfl
theorem am_nS : am_Fl[5]? = some (.isRef (.static "jdk/internal/util/Preconditions" "SIOOBE_FORMATTER" "Ljava/util/function/BiFunction;")) := by rfl
theorem am_w_cs : Cond.laysStatic "java/lang/String" "COMPACT_STRINGS" "Z" ∈ lw_tbl := lw_i2 (List.mem_of_getElem? (i := 121) rfl)
theorem am_w_ss : Cond.laysStatic "jdk/internal/util/Preconditions" "SIOOBE_FORMATTER" "Ljava/util/function/BiFunction;" ∈ lw_tbl := lw_i2 (List.mem_of_getElem? (i := 137) rfl)
theorem am_w_istr : Cond.initialized "java/lang/String" ∈ lw_tbl := lw_i1 (List.mem_of_getElem? (i := 12) rfl)
theorem am_w_ipre : Cond.initialized "jdk/internal/util/Preconditions" ∈ lw_tbl := lw_i1 (List.mem_of_getElem? (i := 14) rfl)
theorem am_w_ilh : Cond.initialized "LentHands" ∈ lw_tbl := lw_i1 (List.mem_of_getElem? (i := 1) rfl)
theorem am_w_ts : ∀ i, i < 3 → Cond.laysStatic "LentHands" (am_GN (200 + i)) "[I" ∈ lw_tbl := by
  intro i hi
  match i, hi with
  | 0, _ => exact lw_i2 (List.mem_of_getElem? (i := 188) rfl)
  | 1, _ => exact lw_i2 (List.mem_of_getElem? (i := 190) rfl)
  | 2, _ => exact lw_i2 (List.mem_of_getElem? (i := 178) rfl)
theorem am_w_aint : Cond.arrayClass .int ∈ lw_tbl := lw_i1 (List.mem_of_getElem? (i := 98) rfl)
theorem am_w_achar : Cond.arrayClass .char ∈ lw_tbl := lw_i1 (List.mem_of_getElem? (i := 216) rfl)
theorem am_w_sr : ∀ q ∈ am_sl, ∃ tx : String, Cond.stringRef (am_cn q.1) q.2.1 tx ∈ lw_tbl := List.forall_mem_cons.mpr ⟨⟨"left", lw_i5 (List.mem_of_getElem? (i := 105) rfl)⟩, List.forall_mem_cons.mpr ⟨⟨"scars", lw_i5 (List.mem_of_getElem? (i := 106) rfl)⟩, List.forall_mem_cons.mpr ⟨⟨"child", lw_i5 (List.mem_of_getElem? (i := 107) rfl)⟩, List.forall_mem_cons.mpr ⟨⟨"own", lw_i5 (List.mem_of_getElem? (i := 108) rfl)⟩, List.forall_mem_cons.mpr ⟨⟨"may", lw_i5 (List.mem_of_getElem? (i := 94) rfl)⟩, List.forall_mem_cons.mpr ⟨⟨"bar", lw_i5 (List.mem_of_getElem? (i := 95) rfl)⟩, List.forall_mem_cons.mpr ⟨⟨"best", lw_i5 (List.mem_of_getElem? (i := 96) rfl)⟩, List.forall_mem_cons.mpr ⟨⟨"worn", lw_i5 (List.mem_of_getElem? (i := 97) rfl)⟩, List.forall_mem_cons.mpr ⟨⟨"hours", lw_i5 (List.mem_of_getElem? (i := 98) rfl)⟩, List.forall_mem_cons.mpr ⟨⟨"price", lw_i5 (List.mem_of_getElem? (i := 77) rfl)⟩, List.forall_mem_cons.mpr ⟨⟨"coin", lw_i5 (List.mem_of_getElem? (i := 99) rfl)⟩, List.forall_mem_cons.mpr ⟨⟨"chain", lw_i5 (List.mem_of_getElem? (i := 100) rfl)⟩, List.forall_mem_cons.mpr ⟨⟨"learn", lw_i5 (List.mem_of_getElem? (i := 113) rfl)⟩, List.forall_mem_cons.mpr ⟨⟨"wear", lw_i5 (List.mem_of_getElem? (i := 114) rfl)⟩, List.forall_mem_cons.mpr ⟨⟨"scar", lw_i5 (List.mem_of_getElem? (i := 115) rfl)⟩, List.forall_mem_cons.mpr ⟨⟨"pay", lw_i5 (List.mem_of_getElem? (i := 116) rfl)⟩, List.forall_mem_cons.mpr ⟨⟨"skill", lw_i5 (List.mem_of_getElem? (i := 117) rfl)⟩, List.forall_mem_cons.mpr ⟨⟨"held", lw_i5 (List.mem_of_getElem? (i := 118) rfl)⟩, List.forall_mem_cons.mpr ⟨⟨"kind", lw_i5 (List.mem_of_getElem? (i := 119) rfl)⟩, List.forall_mem_cons.mpr ⟨⟨"hour", lw_i5 (List.mem_of_getElem? (i := 120) rfl)⟩, List.forall_mem_cons.mpr ⟨⟨"hand", lw_i5 (List.mem_of_getElem? (i := 125) rfl)⟩, List.forall_mem_cons.mpr ⟨⟨"head", lw_i5 (List.mem_of_getElem? (i := 126) rfl)⟩, List.forall_mem_cons.mpr ⟨⟨"both", lw_i5 (List.mem_of_getElem? (i := 85) rfl)⟩, List.forall_mem_cons.mpr ⟨⟨"none", lw_i5 (List.mem_of_getElem? (i := 127) rfl)⟩, List.forall_mem_cons.mpr ⟨⟨"lend", lw_i5 (List.mem_of_getElem? (i := 67) rfl)⟩, List.forall_mem_cons.mpr ⟨⟨"to", lw_i5 (List.mem_of_getElem? (i := 74) rfl)⟩, List.forall_mem_cons.mpr ⟨⟨"at", lw_i5 (List.mem_of_getElem? (i := 75) rfl)⟩, List.forall_mem_cons.mpr ⟨⟨"for", lw_i5 (List.mem_of_getElem? (i := 76) rfl)⟩, List.forall_mem_cons.mpr ⟨⟨"work", lw_i5 (List.mem_of_getElem? (i := 82) rfl)⟩, List.forall_mem_cons.mpr ⟨⟨"needs", lw_i5 (List.mem_of_getElem? (i := 83) rfl)⟩, List.forall_mem_cons.mpr ⟨⟨"pays", lw_i5 (List.mem_of_getElem? (i := 84) rfl)⟩, List.forall_mem_cons.mpr ⟨⟨"when", lw_i5 (List.mem_of_getElem? (i := 86) rfl)⟩, List.forall_mem_cons.mpr ⟨⟨"or", lw_i5 (List.mem_of_getElem? (i := 87) rfl)⟩, List.forall_mem_cons.mpr ⟨⟨"and", lw_i5 (List.mem_of_getElem? (i := 88) rfl)⟩, List.forall_mem_cons.mpr ⟨⟨"not", lw_i5 (List.mem_of_getElem? (i := 89) rfl)⟩, List.forall_mem_cons.mpr ⟨⟨"left best worn scars hours price coin child own chain skill held kind hour when or and not may bar learn wear scar pay hand head both none lend to at for work needs pays", lw_i2 (List.mem_of_getElem? (i := 111) rfl)⟩, fun _ h => absurd h List.not_mem_nil⟩⟩⟩⟩⟩⟩⟩⟩⟩⟩⟩⟩⟩⟩⟩⟩⟩⟩⟩⟩⟩⟩⟩⟩⟩⟩⟩⟩⟩⟩⟩⟩⟩⟩⟩⟩
end
