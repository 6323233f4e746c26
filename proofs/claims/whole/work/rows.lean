section
-- ===== PART A: goes FIRST, ahead of the names: the tables' words, and 'selects' of the private methods out of them =====
/-- a private method of a class that the tables say can be made, by its rows of tables_1 -/
def lw_okq (q : MethodName × Nat) : Prop := (q.1.cls ≠ "java/lang/invoke/MethodHandle" ∧ q.1.cls ≠ "java/lang/invoke/VarHandle") ∧ Cond.instantiable q.1.cls q.2 ∈ tables_1 ∧ Cond.privateMethod q.1 ∈ tables_1 ∧ Cond.instanceMethod q.1 ∈ tables_1
theorem lw_p0 : lw_okq (⟨"LentHands", "forget", "()V"⟩, 16) := ⟨⟨by decide +kernel, by decide +kernel⟩, List.mem_of_getElem? (i := 17) (by decide +kernel), List.mem_of_getElem? (i := 287) (by decide +kernel), List.mem_of_getElem? (i := 288) (by decide +kernel)⟩
theorem lw_p1 : lw_okq (⟨"LentHands", "feedNumber", "(I)V"⟩, 16) := ⟨⟨by decide +kernel, by decide +kernel⟩, List.mem_of_getElem? (i := 17) (by decide +kernel), List.mem_of_getElem? (i := 326) (by decide +kernel), List.mem_of_getElem? (i := 327) (by decide +kernel)⟩
theorem lw_p2 : lw_okq (⟨"LentHands$Reader", "cutToken", "([CII)I"⟩, 10) := ⟨⟨by decide +kernel, by decide +kernel⟩, List.mem_of_getElem? (i := 172) (by decide +kernel), List.mem_of_getElem? (i := 342) (by decide +kernel), List.mem_of_getElem? (i := 343) (by decide +kernel)⟩
theorem lw_p3 : lw_okq (⟨"LentHands$Reader", "addToken", "(III)V"⟩, 10) := ⟨⟨by decide +kernel, by decide +kernel⟩, List.mem_of_getElem? (i := 172) (by decide +kernel), List.mem_of_getElem? (i := 404) (by decide +kernel), List.mem_of_getElem? (i := 405) (by decide +kernel)⟩
theorem lw_p4 : lw_okq (⟨"LentHands$Reader", "seen", "()I"⟩, 10) := ⟨⟨by decide +kernel, by decide +kernel⟩, List.mem_of_getElem? (i := 172) (by decide +kernel), List.mem_of_getElem? (i := 420) (by decide +kernel), List.mem_of_getElem? (i := 421) (by decide +kernel)⟩
theorem lw_p5 : lw_okq (⟨"LentHands$Reader", "lawLine", "(I)Z"⟩, 10) := ⟨⟨by decide +kernel, by decide +kernel⟩, List.mem_of_getElem? (i := 172) (by decide +kernel), List.mem_of_getElem? (i := 424) (by decide +kernel), List.mem_of_getElem? (i := 425) (by decide +kernel)⟩
theorem lw_p6 : lw_okq (⟨"LentHands$Reader", "refuse", "(I)Z"⟩, 10) := ⟨⟨by decide +kernel, by decide +kernel⟩, List.mem_of_getElem? (i := 172) (by decide +kernel), List.mem_of_getElem? (i := 432) (by decide +kernel), List.mem_of_getElem? (i := 433) (by decide +kernel)⟩
theorem lw_p7 : lw_okq (⟨"LentHands$Reader", "sum", "()Z"⟩, 10) := ⟨⟨by decide +kernel, by decide +kernel⟩, List.mem_of_getElem? (i := 172) (by decide +kernel), List.mem_of_getElem? (i := 436) (by decide +kernel), List.mem_of_getElem? (i := 437) (by decide +kernel)⟩
theorem lw_p8 : lw_okq (⟨"LentHands$Reader", "unit", "(Z)Z"⟩, 10) := ⟨⟨by decide +kernel, by decide +kernel⟩, List.mem_of_getElem? (i := 172) (by decide +kernel), List.mem_of_getElem? (i := 440) (by decide +kernel), List.mem_of_getElem? (i := 441) (by decide +kernel)⟩
theorem lw_p9 : lw_okq (⟨"LentHands$Reader", "anyOf", "(I)Z"⟩, 10) := ⟨⟨by decide +kernel, by decide +kernel⟩, List.mem_of_getElem? (i := 172) (by decide +kernel), List.mem_of_getElem? (i := 448) (by decide +kernel), List.mem_of_getElem? (i := 449) (by decide +kernel)⟩
theorem lw_p10 : lw_okq (⟨"LentHands$Reader", "single", "(I)Z"⟩, 10) := ⟨⟨by decide +kernel, by decide +kernel⟩, List.mem_of_getElem? (i := 172) (by decide +kernel), List.mem_of_getElem? (i := 452) (by decide +kernel), List.mem_of_getElem? (i := 453) (by decide +kernel)⟩
theorem lw_p11 : lw_okq (⟨"LentHands$Reader", "skip", "(I)Z"⟩, 10) := ⟨⟨by decide +kernel, by decide +kernel⟩, List.mem_of_getElem? (i := 172) (by decide +kernel), List.mem_of_getElem? (i := 456) (by decide +kernel), List.mem_of_getElem? (i := 457) (by decide +kernel)⟩
theorem lw_p12 : lw_okq (⟨"LentHands$Reader", "bookingRow", "(II)Z"⟩, 10) := ⟨⟨by decide +kernel, by decide +kernel⟩, List.mem_of_getElem? (i := 172) (by decide +kernel), List.mem_of_getElem? (i := 471) (by decide +kernel), List.mem_of_getElem? (i := 472) (by decide +kernel)⟩
theorem lw_p13 : lw_okq (⟨"LentHands$Reader", "cell", "(III)Z"⟩, 10) := ⟨⟨by decide +kernel, by decide +kernel⟩, List.mem_of_getElem? (i := 172) (by decide +kernel), List.mem_of_getElem? (i := 475) (by decide +kernel), List.mem_of_getElem? (i := 476) (by decide +kernel)⟩
theorem lw_p14 : lw_okq (⟨"LentHands$Reader", "workRow", "(I)Z"⟩, 10) := ⟨⟨by decide +kernel, by decide +kernel⟩, List.mem_of_getElem? (i := 172) (by decide +kernel), List.mem_of_getElem? (i := 479) (by decide +kernel), List.mem_of_getElem? (i := 480) (by decide +kernel)⟩
theorem lw_p15 : lw_okq (⟨"LentHands", "canBeLent", "(LLentHands$World;IIII)Z"⟩, 16) := ⟨⟨by decide +kernel, by decide +kernel⟩, List.mem_of_getElem? (i := 17) (by decide +kernel), List.mem_of_getElem? (i := 497) (by decide +kernel), List.mem_of_getElem? (i := 498) (by decide +kernel)⟩
def lw_privs_1 : List (MethodName × Nat) := [(⟨"LentHands", "forget", "()V"⟩, 16), (⟨"LentHands", "feedNumber", "(I)V"⟩, 16), (⟨"LentHands$Reader", "cutToken", "([CII)I"⟩, 10), (⟨"LentHands$Reader", "addToken", "(III)V"⟩, 10), (⟨"LentHands$Reader", "seen", "()I"⟩, 10), (⟨"LentHands$Reader", "lawLine", "(I)Z"⟩, 10), (⟨"LentHands$Reader", "refuse", "(I)Z"⟩, 10), (⟨"LentHands$Reader", "sum", "()Z"⟩, 10), (⟨"LentHands$Reader", "unit", "(Z)Z"⟩, 10), (⟨"LentHands$Reader", "anyOf", "(I)Z"⟩, 10), (⟨"LentHands$Reader", "single", "(I)Z"⟩, 10), (⟨"LentHands$Reader", "skip", "(I)Z"⟩, 10), (⟨"LentHands$Reader", "bookingRow", "(II)Z"⟩, 10), (⟨"LentHands$Reader", "cell", "(III)Z"⟩, 10), (⟨"LentHands$Reader", "workRow", "(I)Z"⟩, 10), (⟨"LentHands", "canBeLent", "(LLentHands$World;IIII)Z"⟩, 16)]
theorem lw_r1 : ∀ q ∈ lw_privs_1, lw_okq q := List.forall_mem_cons.mpr ⟨lw_p0, List.forall_mem_cons.mpr ⟨lw_p1, List.forall_mem_cons.mpr ⟨lw_p2, List.forall_mem_cons.mpr ⟨lw_p3, List.forall_mem_cons.mpr ⟨lw_p4, List.forall_mem_cons.mpr ⟨lw_p5, List.forall_mem_cons.mpr ⟨lw_p6, List.forall_mem_cons.mpr ⟨lw_p7, List.forall_mem_cons.mpr ⟨lw_p8, List.forall_mem_cons.mpr ⟨lw_p9, List.forall_mem_cons.mpr ⟨lw_p10, List.forall_mem_cons.mpr ⟨lw_p11, List.forall_mem_cons.mpr ⟨lw_p12, List.forall_mem_cons.mpr ⟨lw_p13, List.forall_mem_cons.mpr ⟨lw_p14, List.forall_mem_cons.mpr ⟨lw_p15, fun _ h => absurd h List.not_mem_nil⟩⟩⟩⟩⟩⟩⟩⟩⟩⟩⟩⟩⟩⟩⟩⟩
theorem lw_p16 : lw_okq (⟨"LentHands", "lawLends", "(LLentHands$World;IIII)Z"⟩, 16) := ⟨⟨by decide +kernel, by decide +kernel⟩, List.mem_of_getElem? (i := 17) (by decide +kernel), List.mem_of_getElem? (i := 510) (by decide +kernel), List.mem_of_getElem? (i := 511) (by decide +kernel)⟩
theorem lw_p17 : lw_okq (⟨"LentHands", "askOfHand", "(LLentHands$World;II)V"⟩, 16) := ⟨⟨by decide +kernel, by decide +kernel⟩, List.mem_of_getElem? (i := 17) (by decide +kernel), List.mem_of_getElem? (i := 514) (by decide +kernel), List.mem_of_getElem? (i := 515) (by decide +kernel)⟩
theorem lw_p18 : lw_okq (⟨"LentHands$Law", "reckon", "(IILLentHands$Asked;)I"⟩, 7) := ⟨⟨by decide +kernel, by decide +kernel⟩, List.mem_of_getElem? (i := 124) (by decide +kernel), List.mem_of_getElem? (i := 530) (by decide +kernel), List.mem_of_getElem? (i := 531) (by decide +kernel)⟩
theorem lw_p19 : lw_okq (⟨"LentHands", "keep", "()V"⟩, 16) := ⟨⟨by decide +kernel, by decide +kernel⟩, List.mem_of_getElem? (i := 17) (by decide +kernel), List.mem_of_getElem? (i := 534) (by decide +kernel), List.mem_of_getElem? (i := 535) (by decide +kernel)⟩
theorem lw_p20 : lw_okq (⟨"LentHands", "onWrist", "(II)I"⟩, 16) := ⟨⟨by decide +kernel, by decide +kernel⟩, List.mem_of_getElem? (i := 17) (by decide +kernel), List.mem_of_getElem? (i := 563) (by decide +kernel), List.mem_of_getElem? (i := 564) (by decide +kernel)⟩
theorem lw_p21 : lw_okq (⟨"LentHands", "judge", "(III)I"⟩, 16) := ⟨⟨by decide +kernel, by decide +kernel⟩, List.mem_of_getElem? (i := 17) (by decide +kernel), List.mem_of_getElem? (i := 581) (by decide +kernel), List.mem_of_getElem? (i := 582) (by decide +kernel)⟩
theorem lw_p22 : lw_okq (⟨"LentHands", "writeDeed", "(III)V"⟩, 16) := ⟨⟨by decide +kernel, by decide +kernel⟩, List.mem_of_getElem? (i := 17) (by decide +kernel), List.mem_of_getElem? (i := 585) (by decide +kernel), List.mem_of_getElem? (i := 586) (by decide +kernel)⟩
theorem lw_p23 : lw_okq (⟨"LentHands", "passHour", "(LLentHands$World;Z)I"⟩, 16) := ⟨⟨by decide +kernel, by decide +kernel⟩, List.mem_of_getElem? (i := 17) (by decide +kernel), List.mem_of_getElem? (i := 593) (by decide +kernel), List.mem_of_getElem? (i := 594) (by decide +kernel)⟩
theorem lw_p24 : lw_okq (⟨"LentHands", "runBookings", "(LLentHands$World;)I"⟩, 16) := ⟨⟨by decide +kernel, by decide +kernel⟩, List.mem_of_getElem? (i := 17) (by decide +kernel), List.mem_of_getElem? (i := 597) (by decide +kernel), List.mem_of_getElem? (i := 598) (by decide +kernel)⟩
theorem lw_p25 : lw_okq (⟨"LentHands", "toilOn", "(LLentHands$World;IIZ)V"⟩, 16) := ⟨⟨by decide +kernel, by decide +kernel⟩, List.mem_of_getElem? (i := 17) (by decide +kernel), List.mem_of_getElem? (i := 605) (by decide +kernel), List.mem_of_getElem? (i := 606) (by decide +kernel)⟩
theorem lw_p26 : lw_okq (⟨"LentHands", "toil", "(LLentHands$World;III)I"⟩, 16) := ⟨⟨by decide +kernel, by decide +kernel⟩, List.mem_of_getElem? (i := 17) (by decide +kernel), List.mem_of_getElem? (i := 609) (by decide +kernel), List.mem_of_getElem? (i := 610) (by decide +kernel)⟩
theorem lw_p27 : lw_okq (⟨"LentHands", "ring", "(II)I"⟩, 16) := ⟨⟨by decide +kernel, by decide +kernel⟩, List.mem_of_getElem? (i := 17) (by decide +kernel), List.mem_of_getElem? (i := 666) (by decide +kernel), List.mem_of_getElem? (i := 667) (by decide +kernel)⟩
theorem lw_p28 : lw_okq (⟨"LentHands", "inOffice", "()I"⟩, 16) := ⟨⟨by decide +kernel, by decide +kernel⟩, List.mem_of_getElem? (i := 17) (by decide +kernel), List.mem_of_getElem? (i := 686) (by decide +kernel), List.mem_of_getElem? (i := 687) (by decide +kernel)⟩
theorem lw_p29 : lw_okq (⟨"LentHands", "markedAmong", "(II)I"⟩, 16) := ⟨⟨by decide +kernel, by decide +kernel⟩, List.mem_of_getElem? (i := 17) (by decide +kernel), List.mem_of_getElem? (i := 722) (by decide +kernel), List.mem_of_getElem? (i := 723) (by decide +kernel)⟩
theorem lw_p30 : lw_okq (⟨"LentHands", "canDo", "(II)Z"⟩, 16) := ⟨⟨by decide +kernel, by decide +kernel⟩, List.mem_of_getElem? (i := 17) (by decide +kernel), List.mem_of_getElem? (i := 746) (by decide +kernel), List.mem_of_getElem? (i := 747) (by decide +kernel)⟩
theorem lw_p31 : lw_okq (⟨"LentHands", "suffice", "(III)Z"⟩, 16) := ⟨⟨by decide +kernel, by decide +kernel⟩, List.mem_of_getElem? (i := 17) (by decide +kernel), List.mem_of_getElem? (i := 750) (by decide +kernel), List.mem_of_getElem? (i := 751) (by decide +kernel)⟩
def lw_privs_2 : List (MethodName × Nat) := [(⟨"LentHands", "lawLends", "(LLentHands$World;IIII)Z"⟩, 16), (⟨"LentHands", "askOfHand", "(LLentHands$World;II)V"⟩, 16), (⟨"LentHands$Law", "reckon", "(IILLentHands$Asked;)I"⟩, 7), (⟨"LentHands", "keep", "()V"⟩, 16), (⟨"LentHands", "onWrist", "(II)I"⟩, 16), (⟨"LentHands", "judge", "(III)I"⟩, 16), (⟨"LentHands", "writeDeed", "(III)V"⟩, 16), (⟨"LentHands", "passHour", "(LLentHands$World;Z)I"⟩, 16), (⟨"LentHands", "runBookings", "(LLentHands$World;)I"⟩, 16), (⟨"LentHands", "toilOn", "(LLentHands$World;IIZ)V"⟩, 16), (⟨"LentHands", "toil", "(LLentHands$World;III)I"⟩, 16), (⟨"LentHands", "ring", "(II)I"⟩, 16), (⟨"LentHands", "inOffice", "()I"⟩, 16), (⟨"LentHands", "markedAmong", "(II)I"⟩, 16), (⟨"LentHands", "canDo", "(II)Z"⟩, 16), (⟨"LentHands", "suffice", "(III)Z"⟩, 16)]
theorem lw_r2 : ∀ q ∈ lw_privs_2, lw_okq q := List.forall_mem_cons.mpr ⟨lw_p16, List.forall_mem_cons.mpr ⟨lw_p17, List.forall_mem_cons.mpr ⟨lw_p18, List.forall_mem_cons.mpr ⟨lw_p19, List.forall_mem_cons.mpr ⟨lw_p20, List.forall_mem_cons.mpr ⟨lw_p21, List.forall_mem_cons.mpr ⟨lw_p22, List.forall_mem_cons.mpr ⟨lw_p23, List.forall_mem_cons.mpr ⟨lw_p24, List.forall_mem_cons.mpr ⟨lw_p25, List.forall_mem_cons.mpr ⟨lw_p26, List.forall_mem_cons.mpr ⟨lw_p27, List.forall_mem_cons.mpr ⟨lw_p28, List.forall_mem_cons.mpr ⟨lw_p29, List.forall_mem_cons.mpr ⟨lw_p30, List.forall_mem_cons.mpr ⟨lw_p31, fun _ h => absurd h List.not_mem_nil⟩⟩⟩⟩⟩⟩⟩⟩⟩⟩⟩⟩⟩⟩⟩⟩
theorem lw_p32 : lw_okq (⟨"LentHands", "suffices", "(II)Z"⟩, 16) := ⟨⟨by decide +kernel, by decide +kernel⟩, List.mem_of_getElem? (i := 17) (by decide +kernel), List.mem_of_getElem? (i := 754) (by decide +kernel), List.mem_of_getElem? (i := 755) (by decide +kernel)⟩
theorem lw_p33 : lw_okq (⟨"LentHands", "planWork", "(I)V"⟩, 16) := ⟨⟨by decide +kernel, by decide +kernel⟩, List.mem_of_getElem? (i := 17) (by decide +kernel), List.mem_of_getElem? (i := 762) (by decide +kernel), List.mem_of_getElem? (i := 763) (by decide +kernel)⟩
theorem lw_p34 : lw_okq (⟨"LentHands", "doersOf", "(I)I"⟩, 16) := ⟨⟨by decide +kernel, by decide +kernel⟩, List.mem_of_getElem? (i := 17) (by decide +kernel), List.mem_of_getElem? (i := 766) (by decide +kernel), List.mem_of_getElem? (i := 767) (by decide +kernel)⟩
theorem lw_p35 : lw_okq (⟨"LentHands", "doer", "(I)I"⟩, 16) := ⟨⟨by decide +kernel, by decide +kernel⟩, List.mem_of_getElem? (i := 17) (by decide +kernel), List.mem_of_getElem? (i := 770) (by decide +kernel), List.mem_of_getElem? (i := 771) (by decide +kernel)⟩
theorem lw_p36 : lw_okq (⟨"LentHands", "firstDoer", "(II)I"⟩, 16) := ⟨⟨by decide +kernel, by decide +kernel⟩, List.mem_of_getElem? (i := 17) (by decide +kernel), List.mem_of_getElem? (i := 774) (by decide +kernel), List.mem_of_getElem? (i := 775) (by decide +kernel)⟩
theorem lw_p37 : lw_okq (⟨"LentHands", "oneWish", "(III)I"⟩, 16) := ⟨⟨by decide +kernel, by decide +kernel⟩, List.mem_of_getElem? (i := 17) (by decide +kernel), List.mem_of_getElem? (i := 782) (by decide +kernel), List.mem_of_getElem? (i := 783) (by decide +kernel)⟩
theorem lw_p38 : lw_okq (⟨"LentHands", "secondWish", "(III)I"⟩, 16) := ⟨⟨by decide +kernel, by decide +kernel⟩, List.mem_of_getElem? (i := 17) (by decide +kernel), List.mem_of_getElem? (i := 786) (by decide +kernel), List.mem_of_getElem? (i := 787) (by decide +kernel)⟩
theorem lw_p39 : lw_okq (⟨"LentHands", "thinkAhead", "(I)V"⟩, 16) := ⟨⟨by decide +kernel, by decide +kernel⟩, List.mem_of_getElem? (i := 17) (by decide +kernel), List.mem_of_getElem? (i := 803) (by decide +kernel), List.mem_of_getElem? (i := 804) (by decide +kernel)⟩
theorem lw_p40 : lw_okq (⟨"LentHands", "canTry", "(III)Z"⟩, 16) := ⟨⟨by decide +kernel, by decide +kernel⟩, List.mem_of_getElem? (i := 17) (by decide +kernel), List.mem_of_getElem? (i := 822) (by decide +kernel), List.mem_of_getElem? (i := 823) (by decide +kernel)⟩
theorem lw_p41 : lw_okq (⟨"LentHands", "unscarred", "(III)I"⟩, 16) := ⟨⟨by decide +kernel, by decide +kernel⟩, List.mem_of_getElem? (i := 17) (by decide +kernel), List.mem_of_getElem? (i := 826) (by decide +kernel), List.mem_of_getElem? (i := 827) (by decide +kernel)⟩
theorem lw_p42 : lw_okq (⟨"LentHandsModel", "forgets", "()V"⟩, 36) := ⟨⟨by decide +kernel, by decide +kernel⟩, List.mem_of_getElem? (i := 847) (by decide +kernel), List.mem_of_getElem? (i := 966) (by decide +kernel), List.mem_of_getElem? (i := 967) (by decide +kernel)⟩
theorem lw_p43 : lw_okq (⟨"LentHandsModel", "persons", "(III)V"⟩, 36) := ⟨⟨by decide +kernel, by decide +kernel⟩, List.mem_of_getElem? (i := 847) (by decide +kernel), List.mem_of_getElem? (i := 977) (by decide +kernel), List.mem_of_getElem? (i := 978) (by decide +kernel)⟩
theorem lw_p44 : lw_okq (⟨"LentHandsModel", "hands", "(III)V"⟩, 36) := ⟨⟨by decide +kernel, by decide +kernel⟩, List.mem_of_getElem? (i := 847) (by decide +kernel), List.mem_of_getElem? (i := 981) (by decide +kernel), List.mem_of_getElem? (i := 982) (by decide +kernel)⟩
theorem lw_p45 : lw_okq (⟨"LentHandsModel", "isPerson", "(I)Z"⟩, 36) := ⟨⟨by decide +kernel, by decide +kernel⟩, List.mem_of_getElem? (i := 847) (by decide +kernel), List.mem_of_getElem? (i := 989) (by decide +kernel), List.mem_of_getElem? (i := 990) (by decide +kernel)⟩
theorem lw_p46 : lw_okq (⟨"LentHandsModel", "isHand", "(I)Z"⟩, 36) := ⟨⟨by decide +kernel, by decide +kernel⟩, List.mem_of_getElem? (i := 847) (by decide +kernel), List.mem_of_getElem? (i := 993) (by decide +kernel), List.mem_of_getElem? (i := 994) (by decide +kernel)⟩
theorem lw_p47 : lw_okq (⟨"LentHandsModel", "next0", "()V"⟩, 36) := ⟨⟨by decide +kernel, by decide +kernel⟩, List.mem_of_getElem? (i := 847) (by decide +kernel), List.mem_of_getElem? (i := 1009) (by decide +kernel), List.mem_of_getElem? (i := 1010) (by decide +kernel)⟩
def lw_privs_3 : List (MethodName × Nat) := [(⟨"LentHands", "suffices", "(II)Z"⟩, 16), (⟨"LentHands", "planWork", "(I)V"⟩, 16), (⟨"LentHands", "doersOf", "(I)I"⟩, 16), (⟨"LentHands", "doer", "(I)I"⟩, 16), (⟨"LentHands", "firstDoer", "(II)I"⟩, 16), (⟨"LentHands", "oneWish", "(III)I"⟩, 16), (⟨"LentHands", "secondWish", "(III)I"⟩, 16), (⟨"LentHands", "thinkAhead", "(I)V"⟩, 16), (⟨"LentHands", "canTry", "(III)Z"⟩, 16), (⟨"LentHands", "unscarred", "(III)I"⟩, 16), (⟨"LentHandsModel", "forgets", "()V"⟩, 36), (⟨"LentHandsModel", "persons", "(III)V"⟩, 36), (⟨"LentHandsModel", "hands", "(III)V"⟩, 36), (⟨"LentHandsModel", "isPerson", "(I)Z"⟩, 36), (⟨"LentHandsModel", "isHand", "(I)Z"⟩, 36), (⟨"LentHandsModel", "next0", "()V"⟩, 36)]
theorem lw_r3 : ∀ q ∈ lw_privs_3, lw_okq q := List.forall_mem_cons.mpr ⟨lw_p32, List.forall_mem_cons.mpr ⟨lw_p33, List.forall_mem_cons.mpr ⟨lw_p34, List.forall_mem_cons.mpr ⟨lw_p35, List.forall_mem_cons.mpr ⟨lw_p36, List.forall_mem_cons.mpr ⟨lw_p37, List.forall_mem_cons.mpr ⟨lw_p38, List.forall_mem_cons.mpr ⟨lw_p39, List.forall_mem_cons.mpr ⟨lw_p40, List.forall_mem_cons.mpr ⟨lw_p41, List.forall_mem_cons.mpr ⟨lw_p42, List.forall_mem_cons.mpr ⟨lw_p43, List.forall_mem_cons.mpr ⟨lw_p44, List.forall_mem_cons.mpr ⟨lw_p45, List.forall_mem_cons.mpr ⟨lw_p46, List.forall_mem_cons.mpr ⟨lw_p47, fun _ h => absurd h List.not_mem_nil⟩⟩⟩⟩⟩⟩⟩⟩⟩⟩⟩⟩⟩⟩⟩⟩
theorem lw_p48 : lw_okq (⟨"LentHandsModel", "see", "(I)I"⟩, 36) := ⟨⟨by decide +kernel, by decide +kernel⟩, List.mem_of_getElem? (i := 847) (by decide +kernel), List.mem_of_getElem? (i := 1013) (by decide +kernel), List.mem_of_getElem? (i := 1014) (by decide +kernel)⟩
theorem lw_p49 : lw_okq (⟨"LentHandsModel", "word", "()I"⟩, 36) := ⟨⟨by decide +kernel, by decide +kernel⟩, List.mem_of_getElem? (i := 847) (by decide +kernel), List.mem_of_getElem? (i := 1020) (by decide +kernel), List.mem_of_getElem? (i := 1021) (by decide +kernel)⟩
theorem lw_p50 : lw_okq (⟨"LentHandsModel", "bookingWord", "()I"⟩, 36) := ⟨⟨by decide +kernel, by decide +kernel⟩, List.mem_of_getElem? (i := 847) (by decide +kernel), List.mem_of_getElem? (i := 1024) (by decide +kernel), List.mem_of_getElem? (i := 1025) (by decide +kernel)⟩
theorem lw_p51 : lw_okq (⟨"LentHandsModel", "is", "(Ljava/lang/String;)Z"⟩, 36) := ⟨⟨by decide +kernel, by decide +kernel⟩, List.mem_of_getElem? (i := 847) (by decide +kernel), List.mem_of_getElem? (i := 1029) (by decide +kernel), List.mem_of_getElem? (i := 1030) (by decide +kernel)⟩
theorem lw_p52 : lw_okq (⟨"LentHandsModel", "workWord", "()I"⟩, 36) := ⟨⟨by decide +kernel, by decide +kernel⟩, List.mem_of_getElem? (i := 847) (by decide +kernel), List.mem_of_getElem? (i := 1039) (by decide +kernel), List.mem_of_getElem? (i := 1040) (by decide +kernel)⟩
theorem lw_p53 : lw_okq (⟨"LentHandsModel", "loanWord", "()I"⟩, 36) := ⟨⟨by decide +kernel, by decide +kernel⟩, List.mem_of_getElem? (i := 847) (by decide +kernel), List.mem_of_getElem? (i := 1051) (by decide +kernel), List.mem_of_getElem? (i := 1052) (by decide +kernel)⟩
theorem lw_p54 : lw_okq (⟨"LentHandsModel", "handName", "()I"⟩, 36) := ⟨⟨by decide +kernel, by decide +kernel⟩, List.mem_of_getElem? (i := 847) (by decide +kernel), List.mem_of_getElem? (i := 1062) (by decide +kernel), List.mem_of_getElem? (i := 1063) (by decide +kernel)⟩
theorem lw_p55 : lw_okq (⟨"LentHandsModel", "handWord", "()I"⟩, 36) := ⟨⟨by decide +kernel, by decide +kernel⟩, List.mem_of_getElem? (i := 847) (by decide +kernel), List.mem_of_getElem? (i := 1070) (by decide +kernel), List.mem_of_getElem? (i := 1071) (by decide +kernel)⟩
theorem lw_p56 : lw_okq (⟨"LentHandsModel", "guiltWord", "()I"⟩, 36) := ⟨⟨by decide +kernel, by decide +kernel⟩, List.mem_of_getElem? (i := 847) (by decide +kernel), List.mem_of_getElem? (i := 1082) (by decide +kernel), List.mem_of_getElem? (i := 1083) (by decide +kernel)⟩
theorem lw_p57 : lw_okq (⟨"LentHandsModel", "readsLaw", "()Z"⟩, 36) := ⟨⟨by decide +kernel, by decide +kernel⟩, List.mem_of_getElem? (i := 847) (by decide +kernel), List.mem_of_getElem? (i := 1092) (by decide +kernel), List.mem_of_getElem? (i := 1093) (by decide +kernel)⟩
theorem lw_p58 : lw_okq (⟨"LentHandsModel", "aLine", "()Z"⟩, 36) := ⟨⟨by decide +kernel, by decide +kernel⟩, List.mem_of_getElem? (i := 847) (by decide +kernel), List.mem_of_getElem? (i := 1096) (by decide +kernel), List.mem_of_getElem? (i := 1097) (by decide +kernel)⟩
theorem lw_p59 : lw_okq (⟨"LentHandsModel", "bad", "(I)Z"⟩, 36) := ⟨⟨by decide +kernel, by decide +kernel⟩, List.mem_of_getElem? (i := 847) (by decide +kernel), List.mem_of_getElem? (i := 1100) (by decide +kernel), List.mem_of_getElem? (i := 1101) (by decide +kernel)⟩
theorem lw_p60 : lw_okq (⟨"LentHandsModel", "sumUp", "()Z"⟩, 36) := ⟨⟨by decide +kernel, by decide +kernel⟩, List.mem_of_getElem? (i := 847) (by decide +kernel), List.mem_of_getElem? (i := 1104) (by decide +kernel), List.mem_of_getElem? (i := 1105) (by decide +kernel)⟩
theorem lw_p61 : lw_okq (⟨"LentHandsModel", "product", "()Z"⟩, 36) := ⟨⟨by decide +kernel, by decide +kernel⟩, List.mem_of_getElem? (i := 847) (by decide +kernel), List.mem_of_getElem? (i := 1108) (by decide +kernel), List.mem_of_getElem? (i := 1109) (by decide +kernel)⟩
theorem lw_p62 : lw_okq (⟨"LentHandsModel", "unit", "()Z"⟩, 36) := ⟨⟨by decide +kernel, by decide +kernel⟩, List.mem_of_getElem? (i := 847) (by decide +kernel), List.mem_of_getElem? (i := 1112) (by decide +kernel), List.mem_of_getElem? (i := 1113) (by decide +kernel)⟩
theorem lw_p63 : lw_okq (⟨"LentHandsModel", "lay", "(II)V"⟩, 36) := ⟨⟨by decide +kernel, by decide +kernel⟩, List.mem_of_getElem? (i := 847) (by decide +kernel), List.mem_of_getElem? (i := 1116) (by decide +kernel), List.mem_of_getElem? (i := 1117) (by decide +kernel)⟩
def lw_privs_4 : List (MethodName × Nat) := [(⟨"LentHandsModel", "see", "(I)I"⟩, 36), (⟨"LentHandsModel", "word", "()I"⟩, 36), (⟨"LentHandsModel", "bookingWord", "()I"⟩, 36), (⟨"LentHandsModel", "is", "(Ljava/lang/String;)Z"⟩, 36), (⟨"LentHandsModel", "workWord", "()I"⟩, 36), (⟨"LentHandsModel", "loanWord", "()I"⟩, 36), (⟨"LentHandsModel", "handName", "()I"⟩, 36), (⟨"LentHandsModel", "handWord", "()I"⟩, 36), (⟨"LentHandsModel", "guiltWord", "()I"⟩, 36), (⟨"LentHandsModel", "readsLaw", "()Z"⟩, 36), (⟨"LentHandsModel", "aLine", "()Z"⟩, 36), (⟨"LentHandsModel", "bad", "(I)Z"⟩, 36), (⟨"LentHandsModel", "sumUp", "()Z"⟩, 36), (⟨"LentHandsModel", "product", "()Z"⟩, 36), (⟨"LentHandsModel", "unit", "()Z"⟩, 36), (⟨"LentHandsModel", "lay", "(II)V"⟩, 36)]
theorem lw_r4 : ∀ q ∈ lw_privs_4, lw_okq q := List.forall_mem_cons.mpr ⟨lw_p48, List.forall_mem_cons.mpr ⟨lw_p49, List.forall_mem_cons.mpr ⟨lw_p50, List.forall_mem_cons.mpr ⟨lw_p51, List.forall_mem_cons.mpr ⟨lw_p52, List.forall_mem_cons.mpr ⟨lw_p53, List.forall_mem_cons.mpr ⟨lw_p54, List.forall_mem_cons.mpr ⟨lw_p55, List.forall_mem_cons.mpr ⟨lw_p56, List.forall_mem_cons.mpr ⟨lw_p57, List.forall_mem_cons.mpr ⟨lw_p58, List.forall_mem_cons.mpr ⟨lw_p59, List.forall_mem_cons.mpr ⟨lw_p60, List.forall_mem_cons.mpr ⟨lw_p61, List.forall_mem_cons.mpr ⟨lw_p62, List.forall_mem_cons.mpr ⟨lw_p63, fun _ h => absurd h List.not_mem_nil⟩⟩⟩⟩⟩⟩⟩⟩⟩⟩⟩⟩⟩⟩⟩⟩
theorem lw_p64 : lw_okq (⟨"LentHandsModel", "any", "()Z"⟩, 36) := ⟨⟨by decide +kernel, by decide +kernel⟩, List.mem_of_getElem? (i := 847) (by decide +kernel), List.mem_of_getElem? (i := 1120) (by decide +kernel), List.mem_of_getElem? (i := 1121) (by decide +kernel)⟩
theorem lw_p65 : lw_okq (⟨"LentHandsModel", "every", "()Z"⟩, 36) := ⟨⟨by decide +kernel, by decide +kernel⟩, List.mem_of_getElem? (i := 847) (by decide +kernel), List.mem_of_getElem? (i := 1124) (by decide +kernel), List.mem_of_getElem? (i := 1125) (by decide +kernel)⟩
theorem lw_p66 : lw_okq (⟨"LentHandsModel", "oneTest", "()Z"⟩, 36) := ⟨⟨by decide +kernel, by decide +kernel⟩, List.mem_of_getElem? (i := 847) (by decide +kernel), List.mem_of_getElem? (i := 1128) (by decide +kernel), List.mem_of_getElem? (i := 1129) (by decide +kernel)⟩
theorem lw_p67 : lw_okq (⟨"LentHandsModel", "opens", "()Z"⟩, 36) := ⟨⟨by decide +kernel, by decide +kernel⟩, List.mem_of_getElem? (i := 847) (by decide +kernel), List.mem_of_getElem? (i := 1132) (by decide +kernel), List.mem_of_getElem? (i := 1133) (by decide +kernel)⟩
theorem lw_p68 : lw_okq (⟨"LentHandsModel", "need", "(I)Z"⟩, 36) := ⟨⟨by decide +kernel, by decide +kernel⟩, List.mem_of_getElem? (i := 847) (by decide +kernel), List.mem_of_getElem? (i := 1136) (by decide +kernel), List.mem_of_getElem? (i := 1137) (by decide +kernel)⟩
theorem lw_p69 : lw_okq (⟨"LentHandsModel", "readsRows", "()Z"⟩, 36) := ⟨⟨by decide +kernel, by decide +kernel⟩, List.mem_of_getElem? (i := 847) (by decide +kernel), List.mem_of_getElem? (i := 1140) (by decide +kernel), List.mem_of_getElem? (i := 1141) (by decide +kernel)⟩
theorem lw_p70 : lw_okq (⟨"LentHandsModel", "aBooking", "()Z"⟩, 36) := ⟨⟨by decide +kernel, by decide +kernel⟩, List.mem_of_getElem? (i := 847) (by decide +kernel), List.mem_of_getElem? (i := 1144) (by decide +kernel), List.mem_of_getElem? (i := 1145) (by decide +kernel)⟩
theorem lw_p71 : lw_okq (⟨"LentHandsModel", "told", "(IIII)Z"⟩, 36) := ⟨⟨by decide +kernel, by decide +kernel⟩, List.mem_of_getElem? (i := 847) (by decide +kernel), List.mem_of_getElem? (i := 1148) (by decide +kernel), List.mem_of_getElem? (i := 1149) (by decide +kernel)⟩
theorem lw_p72 : lw_okq (⟨"LentHandsModel", "number", "(II)Z"⟩, 36) := ⟨⟨by decide +kernel, by decide +kernel⟩, List.mem_of_getElem? (i := 847) (by decide +kernel), List.mem_of_getElem? (i := 1152) (by decide +kernel), List.mem_of_getElem? (i := 1153) (by decide +kernel)⟩
theorem lw_p73 : lw_okq (⟨"LentHandsModel", "aWork", "()Z"⟩, 36) := ⟨⟨by decide +kernel, by decide +kernel⟩, List.mem_of_getElem? (i := 847) (by decide +kernel), List.mem_of_getElem? (i := 1156) (by decide +kernel), List.mem_of_getElem? (i := 1157) (by decide +kernel)⟩
theorem lw_p74 : lw_okq (⟨"LentHandsModel", "putsLaw", "(I)I"⟩, 36) := ⟨⟨by decide +kernel, by decide +kernel⟩, List.mem_of_getElem? (i := 847) (by decide +kernel), List.mem_of_getElem? (i := 1160) (by decide +kernel), List.mem_of_getElem? (i := 1161) (by decide +kernel)⟩
theorem lw_p75 : lw_okq (⟨"LentHandsModel", "putsRows", "()I"⟩, 36) := ⟨⟨by decide +kernel, by decide +kernel⟩, List.mem_of_getElem? (i := 847) (by decide +kernel), List.mem_of_getElem? (i := 1164) (by decide +kernel), List.mem_of_getElem? (i := 1165) (by decide +kernel)⟩
theorem lw_p76 : lw_okq (⟨"LentHandsModel", "canLend", "(IIII)Z"⟩, 36) := ⟨⟨by decide +kernel, by decide +kernel⟩, List.mem_of_getElem? (i := 847) (by decide +kernel), List.mem_of_getElem? (i := 1180) (by decide +kernel), List.mem_of_getElem? (i := 1181) (by decide +kernel)⟩
theorem lw_p77 : lw_okq (⟨"LentHandsModel", "ofHand", "(II)I"⟩, 36) := ⟨⟨by decide +kernel, by decide +kernel⟩, List.mem_of_getElem? (i := 847) (by decide +kernel), List.mem_of_getElem? (i := 1187) (by decide +kernel), List.mem_of_getElem? (i := 1188) (by decide +kernel)⟩
theorem lw_p78 : lw_okq (⟨"LentHandsModel", "latestOf", "(I)I"⟩, 36) := ⟨⟨by decide +kernel, by decide +kernel⟩, List.mem_of_getElem? (i := 847) (by decide +kernel), List.mem_of_getElem? (i := 1191) (by decide +kernel), List.mem_of_getElem? (i := 1192) (by decide +kernel)⟩
theorem lw_p79 : lw_okq (⟨"LentHandsModel", "ofLoan", "(II)I"⟩, 36) := ⟨⟨by decide +kernel, by decide +kernel⟩, List.mem_of_getElem? (i := 847) (by decide +kernel), List.mem_of_getElem? (i := 1195) (by decide +kernel), List.mem_of_getElem? (i := 1196) (by decide +kernel)⟩
def lw_privs_5 : List (MethodName × Nat) := [(⟨"LentHandsModel", "any", "()Z"⟩, 36), (⟨"LentHandsModel", "every", "()Z"⟩, 36), (⟨"LentHandsModel", "oneTest", "()Z"⟩, 36), (⟨"LentHandsModel", "opens", "()Z"⟩, 36), (⟨"LentHandsModel", "need", "(I)Z"⟩, 36), (⟨"LentHandsModel", "readsRows", "()Z"⟩, 36), (⟨"LentHandsModel", "aBooking", "()Z"⟩, 36), (⟨"LentHandsModel", "told", "(IIII)Z"⟩, 36), (⟨"LentHandsModel", "number", "(II)Z"⟩, 36), (⟨"LentHandsModel", "aWork", "()Z"⟩, 36), (⟨"LentHandsModel", "putsLaw", "(I)I"⟩, 36), (⟨"LentHandsModel", "putsRows", "()I"⟩, 36), (⟨"LentHandsModel", "canLend", "(IIII)Z"⟩, 36), (⟨"LentHandsModel", "ofHand", "(II)I"⟩, 36), (⟨"LentHandsModel", "latestOf", "(I)I"⟩, 36), (⟨"LentHandsModel", "ofLoan", "(II)I"⟩, 36)]
theorem lw_r5 : ∀ q ∈ lw_privs_5, lw_okq q := List.forall_mem_cons.mpr ⟨lw_p64, List.forall_mem_cons.mpr ⟨lw_p65, List.forall_mem_cons.mpr ⟨lw_p66, List.forall_mem_cons.mpr ⟨lw_p67, List.forall_mem_cons.mpr ⟨lw_p68, List.forall_mem_cons.mpr ⟨lw_p69, List.forall_mem_cons.mpr ⟨lw_p70, List.forall_mem_cons.mpr ⟨lw_p71, List.forall_mem_cons.mpr ⟨lw_p72, List.forall_mem_cons.mpr ⟨lw_p73, List.forall_mem_cons.mpr ⟨lw_p74, List.forall_mem_cons.mpr ⟨lw_p75, List.forall_mem_cons.mpr ⟨lw_p76, List.forall_mem_cons.mpr ⟨lw_p77, List.forall_mem_cons.mpr ⟨lw_p78, List.forall_mem_cons.mpr ⟨lw_p79, fun _ h => absurd h List.not_mem_nil⟩⟩⟩⟩⟩⟩⟩⟩⟩⟩⟩⟩⟩⟩⟩⟩
theorem lw_p80 : lw_okq (⟨"LentHandsModel", "ofPerson", "(II)I"⟩, 36) := ⟨⟨by decide +kernel, by decide +kernel⟩, List.mem_of_getElem? (i := 847) (by decide +kernel), List.mem_of_getElem? (i := 1199) (by decide +kernel), List.mem_of_getElem? (i := 1200) (by decide +kernel)⟩
theorem lw_p81 : lw_okq (⟨"LentHandsModel", "mayBe", "(IIII)Z"⟩, 36) := ⟨⟨by decide +kernel, by decide +kernel⟩, List.mem_of_getElem? (i := 847) (by decide +kernel), List.mem_of_getElem? (i := 1203) (by decide +kernel), List.mem_of_getElem? (i := 1204) (by decide +kernel)⟩
theorem lw_p82 : lw_okq (⟨"LentHandsModel", "handFacts", "(II)V"⟩, 36) := ⟨⟨by decide +kernel, by decide +kernel⟩, List.mem_of_getElem? (i := 847) (by decide +kernel), List.mem_of_getElem? (i := 1207) (by decide +kernel), List.mem_of_getElem? (i := 1208) (by decide +kernel)⟩
theorem lw_p83 : lw_okq (⟨"LentHandsModel", "bestOf", "(I)I"⟩, 36) := ⟨⟨by decide +kernel, by decide +kernel⟩, List.mem_of_getElem? (i := 847) (by decide +kernel), List.mem_of_getElem? (i := 1211) (by decide +kernel), List.mem_of_getElem? (i := 1212) (by decide +kernel)⟩
theorem lw_p84 : lw_okq (⟨"LentHandsModel", "loansOf", "(I)I"⟩, 36) := ⟨⟨by decide +kernel, by decide +kernel⟩, List.mem_of_getElem? (i := 847) (by decide +kernel), List.mem_of_getElem? (i := 1221) (by decide +kernel), List.mem_of_getElem? (i := 1222) (by decide +kernel)⟩
theorem lw_p85 : lw_okq (⟨"LentHandsModel", "saysWord", "(II)I"⟩, 36) := ⟨⟨by decide +kernel, by decide +kernel⟩, List.mem_of_getElem? (i := 847) (by decide +kernel), List.mem_of_getElem? (i := 1225) (by decide +kernel), List.mem_of_getElem? (i := 1226) (by decide +kernel)⟩
theorem lw_p86 : lw_okq (⟨"LentHandsModel", "holds", "(II)Z"⟩, 36) := ⟨⟨by decide +kernel, by decide +kernel⟩, List.mem_of_getElem? (i := 847) (by decide +kernel), List.mem_of_getElem? (i := 1229) (by decide +kernel), List.mem_of_getElem? (i := 1230) (by decide +kernel)⟩
theorem lw_p87 : lw_okq (⟨"LentHandsModel", "comesTo", "(III)I"⟩, 36) := ⟨⟨by decide +kernel, by decide +kernel⟩, List.mem_of_getElem? (i := 847) (by decide +kernel), List.mem_of_getElem? (i := 1233) (by decide +kernel), List.mem_of_getElem? (i := 1234) (by decide +kernel)⟩
theorem lw_p88 : lw_okq (⟨"LentHandsModel", "keeps", "()V"⟩, 36) := ⟨⟨by decide +kernel, by decide +kernel⟩, List.mem_of_getElem? (i := 847) (by decide +kernel), List.mem_of_getElem? (i := 1240) (by decide +kernel), List.mem_of_getElem? (i := 1241) (by decide +kernel)⟩
theorem lw_p89 : lw_okq (⟨"LentHandsModel", "lends", "(IIII)I"⟩, 36) := ⟨⟨by decide +kernel, by decide +kernel⟩, List.mem_of_getElem? (i := 847) (by decide +kernel), List.mem_of_getElem? (i := 1244) (by decide +kernel), List.mem_of_getElem? (i := 1245) (by decide +kernel)⟩
theorem lw_p90 : lw_okq (⟨"LentHandsModel", "earns", "(II)V"⟩, 36) := ⟨⟨by decide +kernel, by decide +kernel⟩, List.mem_of_getElem? (i := 847) (by decide +kernel), List.mem_of_getElem? (i := 1248) (by decide +kernel), List.mem_of_getElem? (i := 1249) (by decide +kernel)⟩
theorem lw_p91 : lw_okq (⟨"LentHandsModel", "onWrist", "(II)I"⟩, 36) := ⟨⟨by decide +kernel, by decide +kernel⟩, List.mem_of_getElem? (i := 847) (by decide +kernel), List.mem_of_getElem? (i := 1255) (by decide +kernel), List.mem_of_getElem? (i := 1256) (by decide +kernel)⟩
theorem lw_p92 : lw_okq (⟨"LentHandsModel", "goes", "(II)V"⟩, 36) := ⟨⟨by decide +kernel, by decide +kernel⟩, List.mem_of_getElem? (i := 847) (by decide +kernel), List.mem_of_getElem? (i := 1259) (by decide +kernel), List.mem_of_getElem? (i := 1260) (by decide +kernel)⟩
theorem lw_p93 : lw_okq (⟨"LentHandsModel", "canDeed", "(II)Z"⟩, 36) := ⟨⟨by decide +kernel, by decide +kernel⟩, List.mem_of_getElem? (i := 847) (by decide +kernel), List.mem_of_getElem? (i := 1285) (by decide +kernel), List.mem_of_getElem? (i := 1286) (by decide +kernel)⟩
theorem lw_p94 : lw_okq (⟨"LentHandsModel", "deedBy", "(III)I"⟩, 36) := ⟨⟨by decide +kernel, by decide +kernel⟩, List.mem_of_getElem? (i := 847) (by decide +kernel), List.mem_of_getElem? (i := 1289) (by decide +kernel), List.mem_of_getElem? (i := 1290) (by decide +kernel)⟩
theorem lw_p95 : lw_okq (⟨"LentHandsModel", "guilty", "(I)V"⟩, 36) := ⟨⟨by decide +kernel, by decide +kernel⟩, List.mem_of_getElem? (i := 847) (by decide +kernel), List.mem_of_getElem? (i := 1293) (by decide +kernel), List.mem_of_getElem? (i := 1294) (by decide +kernel)⟩
def lw_privs_6 : List (MethodName × Nat) := [(⟨"LentHandsModel", "ofPerson", "(II)I"⟩, 36), (⟨"LentHandsModel", "mayBe", "(IIII)Z"⟩, 36), (⟨"LentHandsModel", "handFacts", "(II)V"⟩, 36), (⟨"LentHandsModel", "bestOf", "(I)I"⟩, 36), (⟨"LentHandsModel", "loansOf", "(I)I"⟩, 36), (⟨"LentHandsModel", "saysWord", "(II)I"⟩, 36), (⟨"LentHandsModel", "holds", "(II)Z"⟩, 36), (⟨"LentHandsModel", "comesTo", "(III)I"⟩, 36), (⟨"LentHandsModel", "keeps", "()V"⟩, 36), (⟨"LentHandsModel", "lends", "(IIII)I"⟩, 36), (⟨"LentHandsModel", "earns", "(II)V"⟩, 36), (⟨"LentHandsModel", "onWrist", "(II)I"⟩, 36), (⟨"LentHandsModel", "goes", "(II)V"⟩, 36), (⟨"LentHandsModel", "canDeed", "(II)Z"⟩, 36), (⟨"LentHandsModel", "deedBy", "(III)I"⟩, 36), (⟨"LentHandsModel", "guilty", "(I)V"⟩, 36)]
theorem lw_r6 : ∀ q ∈ lw_privs_6, lw_okq q := List.forall_mem_cons.mpr ⟨lw_p80, List.forall_mem_cons.mpr ⟨lw_p81, List.forall_mem_cons.mpr ⟨lw_p82, List.forall_mem_cons.mpr ⟨lw_p83, List.forall_mem_cons.mpr ⟨lw_p84, List.forall_mem_cons.mpr ⟨lw_p85, List.forall_mem_cons.mpr ⟨lw_p86, List.forall_mem_cons.mpr ⟨lw_p87, List.forall_mem_cons.mpr ⟨lw_p88, List.forall_mem_cons.mpr ⟨lw_p89, List.forall_mem_cons.mpr ⟨lw_p90, List.forall_mem_cons.mpr ⟨lw_p91, List.forall_mem_cons.mpr ⟨lw_p92, List.forall_mem_cons.mpr ⟨lw_p93, List.forall_mem_cons.mpr ⟨lw_p94, List.forall_mem_cons.mpr ⟨lw_p95, fun _ h => absurd h List.not_mem_nil⟩⟩⟩⟩⟩⟩⟩⟩⟩⟩⟩⟩⟩⟩⟩⟩
theorem lw_p96 : lw_okq (⟨"LentHandsModel", "notes", "(III)V"⟩, 36) := ⟨⟨by decide +kernel, by decide +kernel⟩, List.mem_of_getElem? (i := 847) (by decide +kernel), List.mem_of_getElem? (i := 1297) (by decide +kernel), List.mem_of_getElem? (i := 1298) (by decide +kernel)⟩
theorem lw_p97 : lw_okq (⟨"LentHandsModel", "anHour", "(Z)I"⟩, 36) := ⟨⟨by decide +kernel, by decide +kernel⟩, List.mem_of_getElem? (i := 847) (by decide +kernel), List.mem_of_getElem? (i := 1305) (by decide +kernel), List.mem_of_getElem? (i := 1306) (by decide +kernel)⟩
theorem lw_p98 : lw_okq (⟨"LentHandsModel", "books", "()I"⟩, 36) := ⟨⟨by decide +kernel, by decide +kernel⟩, List.mem_of_getElem? (i := 847) (by decide +kernel), List.mem_of_getElem? (i := 1309) (by decide +kernel), List.mem_of_getElem? (i := 1310) (by decide +kernel)⟩
theorem lw_p99 : lw_okq (⟨"LentHandsModel", "worksOn", "(IZ)V"⟩, 36) := ⟨⟨by decide +kernel, by decide +kernel⟩, List.mem_of_getElem? (i := 847) (by decide +kernel), List.mem_of_getElem? (i := 1313) (by decide +kernel), List.mem_of_getElem? (i := 1314) (by decide +kernel)⟩
theorem lw_p100 : lw_okq (⟨"LentHandsModel", "works", "(IIZ)V"⟩, 36) := ⟨⟨by decide +kernel, by decide +kernel⟩, List.mem_of_getElem? (i := 847) (by decide +kernel), List.mem_of_getElem? (i := 1317) (by decide +kernel), List.mem_of_getElem? (i := 1318) (by decide +kernel)⟩
theorem lw_p101 : lw_okq (⟨"LentHandsModel", "taskFacts", "(IIII)V"⟩, 36) := ⟨⟨by decide +kernel, by decide +kernel⟩, List.mem_of_getElem? (i := 847) (by decide +kernel), List.mem_of_getElem? (i := 1321) (by decide +kernel), List.mem_of_getElem? (i := 1322) (by decide +kernel)⟩
theorem lw_p102 : lw_okq (⟨"LentHandsModel", "saysOf", "(II)I"⟩, 36) := ⟨⟨by decide +kernel, by decide +kernel⟩, List.mem_of_getElem? (i := 847) (by decide +kernel), List.mem_of_getElem? (i := 1325) (by decide +kernel), List.mem_of_getElem? (i := 1326) (by decide +kernel)⟩
theorem lw_p103 : lw_okq (⟨"LentHandsModel", "draw", "(I)I"⟩, 36) := ⟨⟨by decide +kernel, by decide +kernel⟩, List.mem_of_getElem? (i := 847) (by decide +kernel), List.mem_of_getElem? (i := 1329) (by decide +kernel), List.mem_of_getElem? (i := 1330) (by decide +kernel)⟩
theorem lw_p104 : lw_okq (⟨"LentHandsModel", "marksAll", "()V"⟩, 36) := ⟨⟨by decide +kernel, by decide +kernel⟩, List.mem_of_getElem? (i := 847) (by decide +kernel), List.mem_of_getElem? (i := 1335) (by decide +kernel), List.mem_of_getElem? (i := 1336) (by decide +kernel)⟩
theorem lw_p105 : lw_okq (⟨"LentHandsModel", "endsAll", "()V"⟩, 36) := ⟨⟨by decide +kernel, by decide +kernel⟩, List.mem_of_getElem? (i := 847) (by decide +kernel), List.mem_of_getElem? (i := 1339) (by decide +kernel), List.mem_of_getElem? (i := 1340) (by decide +kernel)⟩
theorem lw_p106 : lw_okq (⟨"LentHandsModel", "ends", "(I)V"⟩, 36) := ⟨⟨by decide +kernel, by decide +kernel⟩, List.mem_of_getElem? (i := 847) (by decide +kernel), List.mem_of_getElem? (i := 1343) (by decide +kernel), List.mem_of_getElem? (i := 1344) (by decide +kernel)⟩
theorem lw_p107 : lw_okq (⟨"LentHandsModel", "ring", "(II)I"⟩, 36) := ⟨⟨by decide +kernel, by decide +kernel⟩, List.mem_of_getElem? (i := 847) (by decide +kernel), List.mem_of_getElem? (i := 1351) (by decide +kernel), List.mem_of_getElem? (i := 1352) (by decide +kernel)⟩
theorem lw_p108 : lw_okq (⟨"LentHandsModel", "canDo", "(II)Z"⟩, 36) := ⟨⟨by decide +kernel, by decide +kernel⟩, List.mem_of_getElem? (i := 847) (by decide +kernel), List.mem_of_getElem? (i := 1387) (by decide +kernel), List.mem_of_getElem? (i := 1388) (by decide +kernel)⟩
theorem lw_p109 : lw_okq (⟨"LentHandsModel", "hasSkill", "(IIII)Z"⟩, 36) := ⟨⟨by decide +kernel, by decide +kernel⟩, List.mem_of_getElem? (i := 847) (by decide +kernel), List.mem_of_getElem? (i := 1391) (by decide +kernel), List.mem_of_getElem? (i := 1392) (by decide +kernel)⟩
theorem lw_p110 : lw_okq (⟨"LentHandsModel", "laysPay", "()V"⟩, 36) := ⟨⟨by decide +kernel, by decide +kernel⟩, List.mem_of_getElem? (i := 847) (by decide +kernel), List.mem_of_getElem? (i := 1399) (by decide +kernel), List.mem_of_getElem? (i := 1400) (by decide +kernel)⟩
theorem lw_p111 : lw_okq (⟨"LentHandsModel", "workerOf", "(II)I"⟩, 36) := ⟨⟨by decide +kernel, by decide +kernel⟩, List.mem_of_getElem? (i := 847) (by decide +kernel), List.mem_of_getElem? (i := 1403) (by decide +kernel), List.mem_of_getElem? (i := 1404) (by decide +kernel)⟩
def lw_privs_7 : List (MethodName × Nat) := [(⟨"LentHandsModel", "notes", "(III)V"⟩, 36), (⟨"LentHandsModel", "anHour", "(Z)I"⟩, 36), (⟨"LentHandsModel", "books", "()I"⟩, 36), (⟨"LentHandsModel", "worksOn", "(IZ)V"⟩, 36), (⟨"LentHandsModel", "works", "(IIZ)V"⟩, 36), (⟨"LentHandsModel", "taskFacts", "(IIII)V"⟩, 36), (⟨"LentHandsModel", "saysOf", "(II)I"⟩, 36), (⟨"LentHandsModel", "draw", "(I)I"⟩, 36), (⟨"LentHandsModel", "marksAll", "()V"⟩, 36), (⟨"LentHandsModel", "endsAll", "()V"⟩, 36), (⟨"LentHandsModel", "ends", "(I)V"⟩, 36), (⟨"LentHandsModel", "ring", "(II)I"⟩, 36), (⟨"LentHandsModel", "canDo", "(II)Z"⟩, 36), (⟨"LentHandsModel", "hasSkill", "(IIII)Z"⟩, 36), (⟨"LentHandsModel", "laysPay", "()V"⟩, 36), (⟨"LentHandsModel", "workerOf", "(II)I"⟩, 36)]
theorem lw_r7 : ∀ q ∈ lw_privs_7, lw_okq q := List.forall_mem_cons.mpr ⟨lw_p96, List.forall_mem_cons.mpr ⟨lw_p97, List.forall_mem_cons.mpr ⟨lw_p98, List.forall_mem_cons.mpr ⟨lw_p99, List.forall_mem_cons.mpr ⟨lw_p100, List.forall_mem_cons.mpr ⟨lw_p101, List.forall_mem_cons.mpr ⟨lw_p102, List.forall_mem_cons.mpr ⟨lw_p103, List.forall_mem_cons.mpr ⟨lw_p104, List.forall_mem_cons.mpr ⟨lw_p105, List.forall_mem_cons.mpr ⟨lw_p106, List.forall_mem_cons.mpr ⟨lw_p107, List.forall_mem_cons.mpr ⟨lw_p108, List.forall_mem_cons.mpr ⟨lw_p109, List.forall_mem_cons.mpr ⟨lw_p110, List.forall_mem_cons.mpr ⟨lw_p111, fun _ h => absurd h List.not_mem_nil⟩⟩⟩⟩⟩⟩⟩⟩⟩⟩⟩⟩⟩⟩⟩⟩
theorem lw_p112 : lw_okq (⟨"LentHandsModel", "laysAside", "()V"⟩, 36) := ⟨⟨by decide +kernel, by decide +kernel⟩, List.mem_of_getElem? (i := 847) (by decide +kernel), List.mem_of_getElem? (i := 1411) (by decide +kernel), List.mem_of_getElem? (i := 1412) (by decide +kernel)⟩
theorem lw_p113 : lw_okq (⟨"LentHandsModel", "areBack", "()Z"⟩, 36) := ⟨⟨by decide +kernel, by decide +kernel⟩, List.mem_of_getElem? (i := 847) (by decide +kernel), List.mem_of_getElem? (i := 1415) (by decide +kernel), List.mem_of_getElem? (i := 1416) (by decide +kernel)⟩
theorem lw_p114 : lw_okq (⟨"LentHandsModel", "putsBack", "()V"⟩, 36) := ⟨⟨by decide +kernel, by decide +kernel⟩, List.mem_of_getElem? (i := 847) (by decide +kernel), List.mem_of_getElem? (i := 1419) (by decide +kernel), List.mem_of_getElem? (i := 1420) (by decide +kernel)⟩
theorem lw_p115 : lw_okq (⟨"LentHandsModel", "canLearn", "(III)Z"⟩, 36) := ⟨⟨by decide +kernel, by decide +kernel⟩, List.mem_of_getElem? (i := 847) (by decide +kernel), List.mem_of_getElem? (i := 1450) (by decide +kernel), List.mem_of_getElem? (i := 1451) (by decide +kernel)⟩
theorem lw_p116 : lw_okq (⟨"LentHandsModel", "laysHours", "(III)V"⟩, 36) := ⟨⟨by decide +kernel, by decide +kernel⟩, List.mem_of_getElem? (i := 847) (by decide +kernel), List.mem_of_getElem? (i := 1454) (by decide +kernel), List.mem_of_getElem? (i := 1455) (by decide +kernel)⟩
theorem lw_p117 : lw_okq (⟨"LentHandsModel", "laysWishes", "(II)V"⟩, 36) := ⟨⟨by decide +kernel, by decide +kernel⟩, List.mem_of_getElem? (i := 847) (by decide +kernel), List.mem_of_getElem? (i := 1488) (by decide +kernel), List.mem_of_getElem? (i := 1489) (by decide +kernel)⟩
theorem lw_p118 : lw_okq (⟨"LentHandsModel", "canBy", "(IIII)Z"⟩, 36) := ⟨⟨by decide +kernel, by decide +kernel⟩, List.mem_of_getElem? (i := 847) (by decide +kernel), List.mem_of_getElem? (i := 1492) (by decide +kernel), List.mem_of_getElem? (i := 1493) (by decide +kernel)⟩
theorem lw_p119 : lw_okq (⟨"LentHandsModel", "isLent", "(II)Z"⟩, 36) := ⟨⟨by decide +kernel, by decide +kernel⟩, List.mem_of_getElem? (i := 847) (by decide +kernel), List.mem_of_getElem? (i := 1496) (by decide +kernel), List.mem_of_getElem? (i := 1497) (by decide +kernel)⟩
theorem lw_p120 : lw_okq (⟨"LentHandsModel", "inOffice", "()I"⟩, 36) := ⟨⟨by decide +kernel, by decide +kernel⟩, List.mem_of_getElem? (i := 847) (by decide +kernel), List.mem_of_getElem? (i := 1520) (by decide +kernel), List.mem_of_getElem? (i := 1521) (by decide +kernel)⟩
def lw_privs_8 : List (MethodName × Nat) := [(⟨"LentHandsModel", "laysAside", "()V"⟩, 36), (⟨"LentHandsModel", "areBack", "()Z"⟩, 36), (⟨"LentHandsModel", "putsBack", "()V"⟩, 36), (⟨"LentHandsModel", "canLearn", "(III)Z"⟩, 36), (⟨"LentHandsModel", "laysHours", "(III)V"⟩, 36), (⟨"LentHandsModel", "laysWishes", "(II)V"⟩, 36), (⟨"LentHandsModel", "canBy", "(IIII)Z"⟩, 36), (⟨"LentHandsModel", "isLent", "(II)Z"⟩, 36), (⟨"LentHandsModel", "inOffice", "()I"⟩, 36)]
theorem lw_r8 : ∀ q ∈ lw_privs_8, lw_okq q := List.forall_mem_cons.mpr ⟨lw_p112, List.forall_mem_cons.mpr ⟨lw_p113, List.forall_mem_cons.mpr ⟨lw_p114, List.forall_mem_cons.mpr ⟨lw_p115, List.forall_mem_cons.mpr ⟨lw_p116, List.forall_mem_cons.mpr ⟨lw_p117, List.forall_mem_cons.mpr ⟨lw_p118, List.forall_mem_cons.mpr ⟨lw_p119, List.forall_mem_cons.mpr ⟨lw_p120, fun _ h => absurd h List.not_mem_nil⟩⟩⟩⟩⟩⟩⟩⟩⟩
def lw_privs : List (MethodName × Nat) := lw_privs_1 ++ (lw_privs_2 ++ (lw_privs_3 ++ (lw_privs_4 ++ (lw_privs_5 ++ (lw_privs_6 ++ (lw_privs_7 ++ (lw_privs_8)))))))
def lw_tbl : List Cond := k2_sels lw_privs ++ tables_1
theorem lw_privs_ok : ∀ q ∈ lw_privs, lw_okq q := by
  show ∀ q ∈ lw_privs_1 ++ (lw_privs_2 ++ (lw_privs_3 ++ (lw_privs_4 ++ (lw_privs_5 ++ (lw_privs_6 ++ (lw_privs_7 ++ (lw_privs_8))))))), lw_okq q
  exact List.forall_mem_append.mpr ⟨lw_r1, List.forall_mem_append.mpr ⟨lw_r2, List.forall_mem_append.mpr ⟨lw_r3, List.forall_mem_append.mpr ⟨lw_r4, List.forall_mem_append.mpr ⟨lw_r5, List.forall_mem_append.mpr ⟨lw_r6, List.forall_mem_append.mpr ⟨lw_r7, lw_r8⟩⟩⟩⟩⟩⟩⟩
-- ===== end of PART A; then your names; then what follows =====
end
section
/-! THE ABSTRACT MACHINE (AM): int memory by object id and index; references are fixed ids. -/
abbrev am_V : Type := Int ⊕ Nat
abbrev am_M : Type := Nat → Int → Int
abbrev am_I : Type := Jvm.ClassFile.Instr × Nat × Nat
abbrev am_R : Type := Option (Int × am_M)
abbrev am_K : Type := Nat → List (Option am_V) → List am_V → am_M → am_R
def am_wrap (x : Int) : Int := (x + 2147483648) % 4294967296 - 2147483648
def am_upd (M : am_M) (a : Nat) (i v : Int) : am_M := fun b j => if b = a ∧ j = i then v else M b j
def am_cpy (M : am_M) (a : Nat) (i : Int) (b : Nat) (j n : Int) : am_M := fun c k => if c = b ∧ j ≤ k ∧ k < j + n then M a (i + (k - j)) else M c k
def am_idiv (x y : Int) : Int := (Int32.ofInt x / Int32.ofInt y).toInt
def am_irem (x y : Int) : Int := (Int32.ofInt x - Int32.ofInt x / Int32.ofInt y * Int32.ofInt y).toInt
def am_iand (x y : Int) : Int := (Int32.ofInt x &&& Int32.ofInt y).toInt
def am_ior (x y : Int) : Int := (Int32.ofInt x ||| Int32.ofInt y).toInt
def am_ixor (x y : Int) : Int := (Int32.ofInt x ^^^ Int32.ofInt y).toInt
def am_ishl (x y : Int) : Int := (Int32.ofInt x <<< (Int32.ofInt y &&& 31)).toInt
def am_ishr (x y : Int) : Int := (Int32.ofInt x >>> (Int32.ofInt y &&& 31)).toInt
def am_iushr (x y : Int) : Int := ((Int32.ofInt x).toUInt32 >>> ((Int32.ofInt y).toUInt32 &&& Int32.toUInt32 31)).toInt32.toInt
def am_chr (x : Int) : Int := x % 65536
def am_chk (c : Prop) [Decidable c] (x : am_R) : am_R := if c then x else none
def am_bnd (x : am_R) (f : Int → am_M → am_R) : am_R := match x with
  | some (r, M) => f r M
  | none => none
def am_br (c : Jvm.ClassFile.Cond) (x y : Int) (A B : am_R) : am_R := match c with
  | .eq => if x = y then A else B
  | .ne => if x = y then B else A
  | .lt => if x < y then A else B
  | .ge => if x < y then B else A
  | .gt => if y < x then A else B
  | .le => if y < x then B else A
def am_sw (x d : Int) (kj : Nat → am_R) : Int → List Int → am_R
  | _, [] => kj d.toNat
  | lo, t :: ts => if x = lo then kj t.toNat else am_sw x d kj (lo + 1) ts
def am_swl (x d : Int) (kj : Nat → am_R) : List (Int × Int) → am_R
  | [] => kj d.toNat
  | (v, t) :: ts => if x = v then kj t.toNat else am_swl x d kj ts
def am_kd (v : am_V) : Nat := match v with
  | .inl _ => 0
  | .inr _ => 1
/-- what a method of a small type may answer -/
def am_ret (t : Nat) (x : Int) (o : am_R) : am_R := match t with
  | 0 => o
  | 1 => am_chk (x = 0 ∨ x = 1) o
  | 2 => am_chk (0 ≤ x ∧ x < 65536) o
  | _ => am_chk (-128 ≤ x ∧ x < 128) o
def am_pv (st : List am_V) (f : am_V → List am_V → am_R) : am_R := match st with
  | v :: st => f v st
  | [] => none
def am_pi (st : List am_V) (f : Int → List am_V → am_R) : am_R := match st with
  | .inl x :: st => f x st
  | _ => none
def am_pr (st : List am_V) (f : Nat → List am_V → am_R) : am_R := match st with
  | .inr a :: st => f a st
  | _ => none
def am_lo (o : Option (Option am_V)) (f : am_V → am_R) : am_R := match o with
  | some (some v) => f v
  | _ => none
def am_vi (v : am_V) (f : Int → am_R) : am_R := match v with
  | .inl x => f x
  | .inr _ => none
def am_nil (st : List am_V) (o : am_R) : am_R := match st with
  | [] => o
  | _ :: _ => none
section AM
variable (cls : Nat → Nat) (rf : Nat → Int → Nat) (len : am_M → Nat → Int) (call : Nat → List am_V → am_M → am_R)
/-- one instruction: 'ks' goes on behind it, 'kj' at another place -/
def am_stp (i : am_I) (ls : List (Option am_V)) (st : List am_V) (M : am_M) (ks : List (Option am_V) → List am_V → am_M → am_R) (kj : Nat → List (Option am_V) → List am_V → am_M → am_R) : am_R :=
  match i with
  | (.bipush v, _, _) => ks ls (.inl v :: st) M
  | (.aload n, _, _) => ks ls (.inr n :: st) M
  | (.iload n, kd, _) => am_lo ls[n]? fun v => cond (Nat.beq (am_kd v) kd) (ks ls (v :: st) M) none
  | (.istore n, kd, _) => am_pv st fun v st => cond (Nat.beq (am_kd v) kd && Nat.blt n ls.length) (ks (ls.set n (some v)) st M) none
  | (.iinc n c, _, _) => am_lo ls[n]? fun v => am_vi v fun x => ks (ls.set n (some (.inl (am_wrap (x + c))))) st M
  | (.iadd, _, _) => am_pi st fun y st => am_pi st fun x st => ks ls (.inl (am_wrap (x + y)) :: st) M
  | (.isub, _, _) => am_pi st fun y st => am_pi st fun x st => ks ls (.inl (am_wrap (x - y)) :: st) M
  | (.imul, _, _) => am_pi st fun y st => am_pi st fun x st => ks ls (.inl (am_wrap (x * y)) :: st) M
  | (.idiv, _, _) => am_pi st fun y st => am_pi st fun x st => am_chk (¬ y = 0) (ks ls (.inl (am_idiv x y) :: st) M)
  | (.irem, _, _) => am_pi st fun y st => am_pi st fun x st => am_chk (¬ y = 0) (ks ls (.inl (am_irem x y) :: st) M)
  | (.ineg, _, _) => am_pi st fun x st => ks ls (.inl (am_wrap (-x)) :: st) M
  | (.iand, _, _) => am_pi st fun y st => am_pi st fun x st => ks ls (.inl (am_iand x y) :: st) M
  | (.ior, _, _) => am_pi st fun y st => am_pi st fun x st => ks ls (.inl (am_ior x y) :: st) M
  | (.ixor, _, _) => am_pi st fun y st => am_pi st fun x st => ks ls (.inl (am_ixor x y) :: st) M
  | (.ishl, _, _) => am_pi st fun y st => am_pi st fun x st => ks ls (.inl (am_ishl x y) :: st) M
  | (.ishr, _, _) => am_pi st fun y st => am_pi st fun x st => ks ls (.inl (am_ishr x y) :: st) M
  | (.iushr, _, _) => am_pi st fun y st => am_pi st fun x st => ks ls (.inl (am_iushr x y) :: st) M
  | (.i2c, _, _) => am_pi st fun x st => ks ls (.inl (am_chr x) :: st) M
  | (.dup, _, _) => am_pv st fun v st => ks ls (v :: v :: st) M
  | (.dup2, _, _) => am_pv st fun v st => am_pv st fun w st => ks ls (v :: w :: v :: w :: st) M
  | (.pop, _, _) => am_pv st fun _ st => ks ls st M
  | (.ifCond c t, _, _) => am_pi st fun x st => am_br c x 0 (kj t.toNat ls st M) (ks ls st M)
  | (.if_icmp c t, _, _) => am_pi st fun y st => am_pi st fun x st => am_br c x y (kj t.toNat ls st M) (ks ls st M)
  | (.goto t, _, _) => kj t.toNat ls st M
  | (.tableswitch d lo _ ts, _, _) => am_pi st fun x st => am_sw x d (fun t => kj t ls st M) lo ts.toList
  | (.lookupswitch d ts, _, _) => am_pi st fun x st => am_swl x d (fun t => kj t ls st M) ts.toList
  | (.getfield k, ci, _) => am_pr st fun a st => cond (Nat.beq (cls a) ci) (ks ls (.inl (M a k) :: st) M) none
  | (.checkcast k, ci, _) => am_pr st fun a st => cond (Nat.beq (cls a) ci) (ks ls (.inr (rf a k) :: st) M) none
  | (.putfield k, ci, b) => am_pi st fun x st => am_pr st fun a st => cond (Nat.beq (cls a) ci) (am_ret (b % 2) x (ks ls st (am_upd M a k x))) none
  | (.iaload, _, _) => am_pi st fun i st => am_pr st fun a st => cond (Nat.beq (cls a) 9 || Nat.beq (cls a) 12) (am_chk (0 ≤ i ∧ i < len M a) (ks ls (.inl (M a i) :: st) M)) none
  | (.caload, _, _) => am_pi st fun i st => am_pr st fun a st => cond (Nat.beq (cls a) 10) (am_chk (0 ≤ i ∧ i < len M a) (ks ls (.inl (M a i) :: st) M)) none
  | (.baload, _, _) => am_pi st fun i st => am_pr st fun a st => cond (Nat.beq (cls a) 13) (am_chk (0 ≤ i ∧ i < len M a) (ks ls (.inl (M a i) :: st) M)) none
  | (.aaload, _, _) => am_pi st fun i st => am_pr st fun a st => cond (Nat.beq (cls a) 11 || Nat.beq (cls a) 14) (am_chk (0 ≤ i ∧ i < len M a) (ks ls (.inr (rf a i) :: st) M)) none
  | (.iastore, _, _) => am_pi st fun x st => am_pi st fun i st => am_pr st fun a st => cond (Nat.beq (cls a) 9) (am_chk (0 ≤ i ∧ i < len M a) (ks ls st (am_upd M a i x))) none
  | (.castore, _, _) => am_pi st fun x st => am_pi st fun i st => am_pr st fun a st => cond (Nat.beq (cls a) 10) (am_chk (0 ≤ i ∧ i < len M a) (ks ls st (am_upd M a i (am_chr x)))) none
  | (.arraylength, _, _) => am_pr st fun a st => cond (Nat.ble 9 (cls a) && Nat.blt (cls a) 15) (ks ls (.inl (len M a) :: st) M) none
  -- Math.max, Math.min
  | (.ladd, _, _) => am_pi st fun y st => am_pi st fun x st => cond (Nat.ble st.length 8) (ks ls (.inl (max x y) :: st) M) none
  | (.lsub, _, _) => am_pi st fun y st => am_pi st fun x st => cond (Nat.ble st.length 8) (ks ls (.inl (min x y) :: st) M) none
  -- System.arraycopy, of int arrays
  | (.lcmp, _, _) => am_pi st fun n st => am_pi st fun j st => am_pr st fun b st => am_pi st fun i st => am_pr st fun a st => cond (Nat.beq (cls a) 9 && Nat.beq (cls b) 9) (am_chk (0 ≤ i ∧ 0 ≤ j ∧ 0 ≤ n ∧ i + n ≤ len M a ∧ j + n ≤ len M b) (am_nil st (ks ls [] (am_cpy M a i b j n)))) none
  -- a call: method, how many come off the stack, whether it answers
  | (.invokevirtual j, n, r) => cond (Nat.ble (st.drop n).length 8 && Nat.ble n st.length) (am_bnd (call j (st.take n).reverse M) fun v M' => ks ls (cond (Nat.beq (r % 2) 1) (.inl v :: st.drop n) (st.drop n)) M') none
  | (.ireturn, t, _) => am_pi st fun x st => am_nil st (am_ret t x (some (x, M)))
  | (.return_, _, _) => am_nil st (some (0, M))
  | _ => none
/-- n instructions in a row -/
def am_ex (full : List am_I) : Nat → am_K
  | 0 => fun _ _ _ _ => none
  | n + 1 => fun pc ls st M => match full[pc]? with
    | some i => am_stp cls rf len call i ls st M (am_ex full n (pc + 1)) (am_ex full n)
    | none => none
/-- as many as it takes -/
noncomputable def am_lim (full : List am_I) : am_K := fun pc ls st M => Classical.epsilon (fun o : am_R => (∃ n, am_ex cls rf len call full n pc ls st M = o ∧ o ≠ none) ∨ ((∀ n, am_ex cls rf len call full n pc ls st M = none) ∧ o = none))
/-- a run over the rest of the code until a stop, then K -/
def am_go (full : List am_I) (stops : List Nat) (K : am_K) : Nat → List am_I → am_K
  | 0, _ => K
  | n + 1, code => fun pc ls st M => match code with
    | [] => none
    | i :: code => am_stp cls rf len call i ls st M
        (fun ls st M => cond (stops.contains (pc + 1)) (K (pc + 1) ls st M) (am_go full stops K n code (pc + 1) ls st M))
        (fun t ls st M => cond (stops.contains t) (K t ls st M) (am_go full stops K n (full.drop t) t ls st M))
end AM
end
section
/-! the machine's laws: each instruction ends, or goes on at one place; the limit is a fixed point; a run until a stop -/
abbrev am_KS : Type := List (Option am_V) → List am_V → am_M → am_R
abbrev am_KJ : Type := Nat → List (Option am_V) → List am_V → am_M → am_R
def am_T3 (F : am_KS → am_KJ → am_R) : Prop := (∃ o : am_R, ∀ ks kj, F ks kj = o) ∨ (∃ l s m, ∀ ks kj, F ks kj = ks l s m) ∨ (∃ t l s m, ∀ ks kj, F ks kj = kj t l s m)
theorem am_t_c (o : am_R) : am_T3 (fun _ _ => o) := Or.inl ⟨o, fun _ _ => rfl⟩
theorem am_t_s (l : List (Option am_V)) (s : List am_V) (m : am_M) : am_T3 (fun ks _ => ks l s m) := Or.inr (Or.inl ⟨l, s, m, fun _ _ => rfl⟩)
theorem am_t_j (t : Nat) (l : List (Option am_V)) (s : List am_V) (m : am_M) : am_T3 (fun _ kj => kj t l s m) := Or.inr (Or.inr ⟨t, l, s, m, fun _ _ => rfl⟩)
theorem am_t_pv {st : List am_V} {F : am_V → List am_V → am_KS → am_KJ → am_R} (h : ∀ v st, am_T3 (F v st)) : am_T3 (fun ks kj => am_pv st fun v st => F v st ks kj) := by
  cases st with
  | nil => exact am_t_c none
  | cons v st => exact h v st
theorem am_t_pi {st : List am_V} {F : Int → List am_V → am_KS → am_KJ → am_R} (h : ∀ v st, am_T3 (F v st)) : am_T3 (fun ks kj => am_pi st fun v st => F v st ks kj) := by
  cases st with
  | nil => exact am_t_c none
  | cons v st => cases v with
    | inl x => exact h x st
    | inr x => exact am_t_c none
theorem am_t_pr {st : List am_V} {F : Nat → List am_V → am_KS → am_KJ → am_R} (h : ∀ v st, am_T3 (F v st)) : am_T3 (fun ks kj => am_pr st fun v st => F v st ks kj) := by
  cases st with
  | nil => exact am_t_c none
  | cons v st => cases v with
    | inl x => exact am_t_c none
    | inr x => exact h x st
theorem am_t_lo {o : Option (Option am_V)} {F : am_V → am_KS → am_KJ → am_R} (h : ∀ v, am_T3 (F v)) : am_T3 (fun ks kj => am_lo o fun v => F v ks kj) := by
  cases o with
  | none => exact am_t_c none
  | some o => cases o with
    | none => exact am_t_c none
    | some v => exact h v
theorem am_t_vi {v : am_V} {F : Int → am_KS → am_KJ → am_R} (h : ∀ v, am_T3 (F v)) : am_T3 (fun ks kj => am_vi v fun v => F v ks kj) := by
  cases v with
  | inl x => exact h x
  | inr x => exact am_t_c none
theorem am_t_cond {b : Bool} {F : am_KS → am_KJ → am_R} (h : am_T3 F) : am_T3 (fun ks kj => cond b (F ks kj) none) := by
  cases b with
  | true => exact h
  | false => exact am_t_c none
theorem am_t_chk {c : Prop} [hc : Decidable c] {F : am_KS → am_KJ → am_R} (h : am_T3 F) : am_T3 (fun ks kj => am_chk c (F ks kj)) := by
  cases hc with
  | isTrue q => simpa [am_chk, q] using h
  | isFalse q => simpa [am_chk, q] using am_t_c none
theorem am_t_nil {st : List am_V} {F : am_KS → am_KJ → am_R} (h : am_T3 F) : am_T3 (fun ks kj => am_nil st (F ks kj)) := by
  cases st with
  | nil => exact h
  | cons _ _ => exact am_t_c none
theorem am_t_ret {t : Nat} {x : Int} {F : am_KS → am_KJ → am_R} (h : am_T3 F) : am_T3 (fun ks kj => am_ret t x (F ks kj)) := by
  unfold am_ret
  split
  · exact h
  · exact am_t_chk h
  · exact am_t_chk h
  · exact am_t_chk h
theorem am_t_bnd {x : am_R} {F : Int → am_M → am_KS → am_KJ → am_R} (h : ∀ v M, am_T3 (F v M)) : am_T3 (fun ks kj => am_bnd x fun v M => F v M ks kj) := by
  cases x with
  | none => exact am_t_c none
  | some p => exact h p.1 p.2
theorem am_br_tri (c : Jvm.ClassFile.Cond) (x y : Int) : (∀ A B : am_R, am_br c x y A B = A) ∨ (∀ A B : am_R, am_br c x y A B = B) := by
  cases c
  · by_cases h : x = y
    · exact Or.inl fun A B => by simp [am_br, h]
    · exact Or.inr fun A B => by simp [am_br, h]
  · by_cases h : x = y
    · exact Or.inr fun A B => by simp [am_br, h]
    · exact Or.inl fun A B => by simp [am_br, h]
  · by_cases h : x < y
    · exact Or.inl fun A B => by simp [am_br, h]
    · exact Or.inr fun A B => by simp [am_br, h]
  · by_cases h : x < y
    · exact Or.inr fun A B => by simp [am_br, h]
    · exact Or.inl fun A B => by simp [am_br, h]
  · by_cases h : y < x
    · exact Or.inl fun A B => by simp [am_br, h]
    · exact Or.inr fun A B => by simp [am_br, h]
  · by_cases h : y < x
    · exact Or.inr fun A B => by simp [am_br, h]
    · exact Or.inl fun A B => by simp [am_br, h]
theorem am_t_br {c : Jvm.ClassFile.Cond} {x y : Int} {F G : am_KS → am_KJ → am_R} (h : am_T3 F) (g : am_T3 G) : am_T3 (fun ks kj => am_br c x y (F ks kj) (G ks kj)) := by
  rcases am_br_tri c x y with q | q
  · simpa only [q] using h
  · simpa only [q] using g
theorem am_t_sw {x d : Int} {F : Nat → am_KS → am_KJ → am_R} (h : ∀ t, am_T3 (F t)) : ∀ (ts : List Int) (lo : Int), am_T3 (fun ks kj => am_sw x d (fun t => F t ks kj) lo ts) := by
  intro ts
  induction ts with
  | nil => intro lo; exact h _
  | cons t ts ih =>
    intro lo
    by_cases q : x = lo
    · simpa [am_sw, q] using h t.toNat
    · simpa [am_sw, q] using ih (lo + 1)
theorem am_t_swl {x d : Int} {F : Nat → am_KS → am_KJ → am_R} (h : ∀ t, am_T3 (F t)) : ∀ (ts : List (Int × Int)), am_T3 (fun ks kj => am_swl x d (fun t => F t ks kj) ts) := by
  intro ts
  induction ts with
  | nil => exact h _
  | cons t ts ih =>
    obtain ⟨v, t⟩ := t
    by_cases q : x = v
    · simpa [am_swl, q] using h t.toNat
    · simpa [am_swl, q] using ih
section AM
variable {cls : Nat → Nat} {rf : Nat → Int → Nat} {len : am_M → Nat → Int} {call : Nat → List am_V → am_M → am_R}
theorem am_tri (i : am_I) (ls : List (Option am_V)) (st : List am_V) (M : am_M) : am_T3 (am_stp cls rf len call i ls st M) := by
  obtain ⟨i, a, b⟩ := i
  cases i <;> (first
    | exact am_t_c none
    | exact am_t_s _ _ _
    | exact am_t_j _ _ _ _
    | exact am_t_lo fun _ => am_t_cond (am_t_s _ _ _)
    | exact am_t_pv fun _ _ => am_t_s _ _ _
    | exact am_t_pv fun _ _ => am_t_cond (am_t_s _ _ _)
    | exact am_t_pv fun _ _ => am_t_pv fun _ _ => am_t_s _ _ _
    | exact am_t_lo fun _ => am_t_vi fun _ => am_t_s _ _ _
    | exact am_t_pi fun _ _ => am_t_s _ _ _
    | exact am_t_pi fun x s => am_t_c (am_nil s (am_ret a x (some (x, M))))
    | exact am_t_pi fun _ _ => am_t_pi fun _ _ => am_t_s _ _ _
    | exact am_t_pi fun _ _ => am_t_pi fun _ _ => am_t_chk (am_t_s _ _ _)
    | exact am_t_pi fun _ _ => am_t_pi fun _ _ => am_t_cond (am_t_s _ _ _)
    | exact am_t_pi fun _ _ => am_t_br (am_t_j _ _ _ _) (am_t_s _ _ _)
    | exact am_t_pi fun _ _ => am_t_pi fun _ _ => am_t_br (am_t_j _ _ _ _) (am_t_s _ _ _)
    | exact am_t_pi fun _ _ => am_t_sw (fun _ => am_t_j _ _ _ _) _ _
    | exact am_t_pi fun _ _ => am_t_swl (fun _ => am_t_j _ _ _ _) _
    | exact am_t_pr fun _ _ => am_t_cond (am_t_s _ _ _)
    | exact am_t_pi fun _ _ => am_t_pr fun _ _ => am_t_cond (am_t_ret (am_t_s _ _ _))
    | exact am_t_pi fun _ _ => am_t_pr fun _ _ => am_t_cond (am_t_chk (am_t_s _ _ _))
    | exact am_t_pi fun _ _ => am_t_pi fun _ _ => am_t_pr fun _ _ => am_t_cond (am_t_chk (am_t_s _ _ _))
    | exact am_t_pi fun _ _ => am_t_pi fun _ _ => am_t_pr fun _ _ => am_t_pi fun _ _ => am_t_pr fun _ _ => am_t_cond (am_t_chk (am_t_nil (am_t_s _ _ _)))
    | exact am_t_cond (am_t_bnd fun _ _ => am_t_s _ _ _)
    | exact am_t_c (am_nil st (some (0, M))))
theorem am_ex_succ (full : List am_I) (n pc : Nat) (ls : List (Option am_V)) (st : List am_V) (M : am_M) : am_ex cls rf len call full (n + 1) pc ls st M = match full[pc]? with
    | some i => am_stp cls rf len call i ls st M (am_ex cls rf len call full n (pc + 1)) (am_ex cls rf len call full n)
    | none => none := rfl
theorem am_ex_mono (full : List am_I) : ∀ (n : Nat) (pc : Nat) (ls : List (Option am_V)) (st : List am_V) (M : am_M) (r : Int × am_M), am_ex cls rf len call full n pc ls st M = some r → am_ex cls rf len call full (n + 1) pc ls st M = some r := by
  intro n
  induction n with
  | zero => intro pc ls st M r h; cases h
  | succ n ih =>
    intro pc ls st M r h
    rw [am_ex_succ] at h ⊢
    cases hi : full[pc]? with
    | none => rw [hi] at h; cases h
    | some i =>
      rw [hi] at h
      dsimp only at h ⊢
      rcases am_tri (cls := cls) (rf := rf) (len := len) (call := call) i ls st M with ⟨o, h1⟩ | ⟨l, s, m, h1⟩ | ⟨t, l, s, m, h1⟩
      · rw [h1] at h ⊢; exact h
      · rw [h1] at h ⊢; exact ih _ _ _ _ _ h
      · rw [h1] at h ⊢; exact ih _ _ _ _ _ h
theorem am_ex_le (full : List am_I) {n k : Nat} (hk : n ≤ k) {pc : Nat} {ls : List (Option am_V)} {st : List am_V} {M : am_M} {r : Int × am_M} (h : am_ex cls rf len call full n pc ls st M = some r) : am_ex cls rf len call full k pc ls st M = some r := by
  induction hk with
  | refl => exact h
  | step _ ih => exact am_ex_mono full _ _ _ _ _ _ ih
theorem am_lim_some (full : List am_I) {n pc : Nat} {ls : List (Option am_V)} {st : List am_V} {M : am_M} {r : Int × am_M} (h : am_ex cls rf len call full n pc ls st M = some r) : am_lim cls rf len call full pc ls st M = some r := by
  have hex : ∃ o : am_R, (∃ n, am_ex cls rf len call full n pc ls st M = o ∧ o ≠ none) ∨ ((∀ n, am_ex cls rf len call full n pc ls st M = none) ∧ o = none) := ⟨some r, Or.inl ⟨n, h, by simp⟩⟩
  have hs := Classical.epsilon_spec hex
  change (∃ n, am_ex cls rf len call full n pc ls st M = am_lim cls rf len call full pc ls st M ∧ am_lim cls rf len call full pc ls st M ≠ none) ∨ _ at hs
  rcases hs with ⟨k, h1, h2⟩ | ⟨h1, -⟩
  · cases ho : am_lim cls rf len call full pc ls st M with
    | none => exact absurd ho h2
    | some q =>
      rw [ho] at h1
      have a := am_ex_le full (Nat.le_max_left n k) h
      have b := am_ex_le full (Nat.le_max_right n k) h1
      exact b.symm.trans a
  · rw [h1 n] at h; cases h
theorem am_lim_none (full : List am_I) {pc : Nat} {ls : List (Option am_V)} {st : List am_V} {M : am_M} (h : ∀ n, am_ex cls rf len call full n pc ls st M = none) : am_lim cls rf len call full pc ls st M = none := by
  have hex : ∃ o : am_R, (∃ n, am_ex cls rf len call full n pc ls st M = o ∧ o ≠ none) ∨ ((∀ n, am_ex cls rf len call full n pc ls st M = none) ∧ o = none) := ⟨none, Or.inr ⟨h, rfl⟩⟩
  have hs := Classical.epsilon_spec hex
  change (∃ n, am_ex cls rf len call full n pc ls st M = am_lim cls rf len call full pc ls st M ∧ am_lim cls rf len call full pc ls st M ≠ none) ∨ ((∀ n, am_ex cls rf len call full n pc ls st M = none) ∧ am_lim cls rf len call full pc ls st M = none) at hs
  rcases hs with ⟨k, h1, h2⟩ | ⟨-, h2⟩
  · rw [h k] at h1; exact absurd h1.symm h2
  · exact h2
theorem am_lim_ex (full : List am_I) {pc : Nat} {ls : List (Option am_V)} {st : List am_V} {M : am_M} {r : Int × am_M} (h : am_lim cls rf len call full pc ls st M = some r) : ∃ n, am_ex cls rf len call full n pc ls st M = some r := by
  by_cases hn : ∀ n, am_ex cls rf len call full n pc ls st M = none
  · rw [am_lim_none full hn] at h; cases h
  · obtain ⟨n, hn⟩ := Classical.not_forall.mp hn
    cases ho : am_ex cls rf len call full n pc ls st M with
    | none => exact absurd ho hn
    | some q => exact ⟨n, by rw [ho]; rw [am_lim_some full ho] at h; exact h⟩
theorem am_lim_eq (full : List am_I) (pc : Nat) (ls : List (Option am_V)) (st : List am_V) (M : am_M) : am_lim cls rf len call full pc ls st M = match full[pc]? with
    | some i => am_stp cls rf len call i ls st M (am_lim cls rf len call full (pc + 1)) (am_lim cls rf len call full)
    | none => none := by
  have key : ∀ (pc2 : Nat) (l : List (Option am_V)) (s : List am_V) (m : am_M), (∀ n, am_ex cls rf len call full (n + 1) pc ls st M = am_ex cls rf len call full n pc2 l s m) → am_lim cls rf len call full pc ls st M = am_lim cls rf len call full pc2 l s m := by
    intro pc2 l s m h
    cases ho : am_lim cls rf len call full pc2 l s m with
    | none =>
      refine am_lim_none full fun n => ?_
      cases n with
      | zero => rfl
      | succ n =>
        rw [h]
        cases hq : am_ex cls rf len call full n pc2 l s m with
        | none => rfl
        | some q => rw [am_lim_some full hq] at ho; cases ho
    | some q =>
      obtain ⟨n, hn⟩ := am_lim_ex full ho
      exact am_lim_some full (n := n + 1) (by rw [h, hn])
  cases hi : full[pc]? with
  | none =>
    refine am_lim_none full fun n => ?_
    cases n with
    | zero => rfl
    | succ n => rw [am_ex_succ, hi]
  | some i =>
    dsimp only
    rcases am_tri (cls := cls) (rf := rf) (len := len) (call := call) i ls st M with ⟨o, h1⟩ | ⟨l, s, m, h1⟩ | ⟨t, l, s, m, h1⟩
    · rw [h1]
      cases o with
      | none =>
        refine am_lim_none full fun n => ?_
        cases n with
        | zero => rfl
        | succ n => rw [am_ex_succ, hi]; exact h1 _ _
      | some q => exact am_lim_some full (n := 1) (by rw [am_ex_succ, hi]; exact h1 _ _)
    · rw [h1]; exact key _ _ _ _ fun n => by rw [am_ex_succ, hi]; exact h1 _ _
    · rw [h1]; exact key _ _ _ _ fun n => by rw [am_ex_succ, hi]; exact h1 _ _
theorem am_go_eq (full : List am_I) (stops : List Nat) : ∀ (n : Nat) (pc : Nat) (ls : List (Option am_V)) (st : List am_V) (M : am_M), am_lim cls rf len call full pc ls st M = am_go cls rf len call full stops (am_lim cls rf len call full) n (full.drop pc) pc ls st M := by
  intro n
  induction n with
  | zero => intro pc ls st M; rfl
  | succ n ih =>
    intro pc ls st M
    rw [am_lim_eq]
    by_cases hpc : pc < full.length
    · have e1 : full[pc]? = some full[pc] := List.getElem?_eq_getElem hpc
      have e2 : full.drop pc = full[pc] :: full.drop (pc + 1) := List.drop_eq_getElem_cons hpc
      rw [e1, e2]
      have f1 : (am_lim cls rf len call full (pc + 1)) = (fun ls st M => cond (stops.contains (pc + 1)) (am_lim cls rf len call full (pc + 1) ls st M) (am_go cls rf len call full stops (am_lim cls rf len call full) n (full.drop (pc + 1)) (pc + 1) ls st M)) := by
        funext ls st M
        cases stops.contains (pc + 1) with
        | true => rfl
        | false => exact ih _ _ _ _
      have f2 : (am_lim cls rf len call full) = (fun t ls st M => cond (stops.contains t) (am_lim cls rf len call full t ls st M) (am_go cls rf len call full stops (am_lim cls rf len call full) n (full.drop t) t ls st M)) := by
        funext t ls st M
        cases stops.contains t with
        | true => rfl
        | false => exact ih _ _ _ _
      exact congr (congrArg (fun a b => am_stp cls rf len call full[pc] ls st M a b) f1) f2
    · have e1 : full[pc]? = none := List.getElem?_eq_none (by omega)
      have e2 : full.drop pc = [] := List.drop_eq_nil_iff.mpr (by omega)
      rw [e1, e2]
      rfl
end AM
end
section
/-! printed by wip/whole/gencode.py: the shapes of the objects and the code of the methods as the abstract machine has them -/
def am_cls (a : Nat) : Nat := cond (Nat.ble a 255) ((179769313486231590772930519078902473361797697894230657273430081070334843933383891165801933326331340218429157671542650409585496984823844235620329433602035569095039030305970479147687266314317836266207436331805168674572069381303375511345285948818957566587209631357707937870120637875637052942999523220825006774614 >>> (4 * a)) % 16) (cond (Nat.ble a 299) 15 (cond (Nat.ble a 335) 8 (cond (Nat.ble a 399) 15 (cond (Nat.ble a 435) 13 15))))
def am_len (M : am_M) (a : Nat) : Int := cond (Nat.beq a 203) (M 203 (-1)) (cond (Nat.ble a 255) (Int.ofNat ((25472634705001610365503975763847407462431358659330430687285813822787500707087462561327572941479277022703725405113186521850046497968707925199291606922795782969918254849260463396383613511519856995411011764007206315972716726619420808300261886539532111662033231629996037412690585792576372793900968353696341299964331861893384127453378531146338484882865598763880356092363748484695840021258698541078105163775511766180972335443273439379881453503250250469713475278574046265469670992506702472621299397647739615471101092321171748107704819263852874961614308642820916142052082872471951272290004607459759072275427322267176582539144285530070582694098464344648065499760796549546138527255197513268890713153326428972883701392421048128615725872248344478559151636778651114767924089013592111351971308368601821201260176069290646721510416517299603031553815850047008407878295900823061992189527063906257551711206263403701368167232294856868191319705013983249022357553851232131300078220304754210242560 >>> (16 * a)) % 65536)) (Int.ofNat ((15096080047187276054657970307190210016378468856136529043399922460800996450959429416199807270629814231654707320107593319868589116544136870946445603456292292774573990215849 >>> (16 * (a - 400))) % 65536)))
def am_rf (a : Nat) (k : Int) : Nat := match am_cls a with
  | 0 => a + (k.toNat + 1)
  | 1 => a + (k.toNat - 1)
  | 2 => ([93, 94, 95, 0, 0, 0, 0, 0, 96, 102] : List Nat).getD k.toNat 0
  | 3 => a + k.toNat
  | 4 => a + ([1, 2, 4] : List Nat).getD k.toNat 0
  | 5 => a + (k.toNat - 4)
  | 6 => ([1, 14, 27, 0, 0, 28, 52, 53, 66, 90, 0, 91, 0, 92, 104, 107] : List Nat).getD k.toNat 0
  | 7 => ([187, 188, 189, 190, 0, 0, 191, 192, 193, 194, 195, 196, 0, 0, 0, 0, 0, 0, 0, 0, 0, 0, 0, 0, 0, 0, 0, 0, 0, 197, 198] : List Nat).getD k.toNat 0
  | 8 => a + 100
  | 11 => 108 + 13 * k.toNat
  | 14 => a + 5 + 6 * k.toNat
  | _ => 0
/-- LentHandsModel.isIn(III)Z -/
def am_c0 : List am_I := [(.iload 0, 0, 0), (.iload 1, 0, 0), (.if_icmp .lt 8, 0, 0), (.iload 0, 0, 0), (.iload 2, 0, 0), (.if_icmp .gt 8, 0, 0), (.bipush 1, 0, 0), (.goto 9, 0, 0), (.bipush 0, 0, 0), (.ireturn, 1, 0)]
/-- LentHandsModel.lesser(II)I -/
def am_c1 : List am_I := [(.iload 0, 0, 0), (.iload 1, 0, 0), (.if_icmp .ge 5, 0, 0), (.iload 0, 0, 0), (.goto 6, 0, 0), (.iload 1, 0, 0), (.ireturn, 0, 0)]
/-- LentHandsModel.greater(II)I -/
def am_c2 : List am_I := [(.iload 0, 0, 0), (.iload 1, 0, 0), (.if_icmp .le 5, 0, 0), (.iload 0, 0, 0), (.goto 6, 0, 0), (.iload 1, 0, 0), (.ireturn, 0, 0)]
/-- LentHandsModel.ofPerson(II)I -/
def am_c3 : List am_I := [(.iload 0, 1, 0), (.checkcast 0, 7, 7), (.bipush 4, 0, 0), (.bipush 4, 0, 0), (.iload 1, 0, 0), (.imul, 0, 0), (.iadd, 0, 0), (.iload 2, 0, 0), (.iadd, 0, 0), (.iaload, 0, 0), (.ireturn, 0, 0)]
/-- LentHandsModel.persons(III)V -/
def am_c4 : List am_I := [(.iload 0, 1, 0), (.checkcast 0, 7, 7), (.bipush 4, 0, 0), (.bipush 4, 0, 0), (.iload 1, 0, 0), (.imul, 0, 0), (.iadd, 0, 0), (.iload 2, 0, 0), (.iadd, 0, 0), (.iload 3, 0, 0), (.iastore, 0, 0), (.return_, 0, 0)]
/-- LentHandsModel.ofHand(II)I -/
def am_c5 : List am_I := [(.iload 0, 1, 0), (.checkcast 0, 7, 7), (.bipush 36, 1, 0), (.bipush 10, 1, 0), (.iload 1, 0, 0), (.imul, 0, 0), (.iadd, 0, 0), (.iload 2, 0, 0), (.iadd, 0, 0), (.iaload, 0, 0), (.ireturn, 0, 0)]
/-- LentHandsModel.hands(III)V -/
def am_c6 : List am_I := [(.iload 0, 1, 0), (.checkcast 0, 7, 7), (.bipush 36, 1, 0), (.bipush 10, 1, 0), (.iload 1, 0, 0), (.imul, 0, 0), (.iadd, 0, 0), (.iload 2, 0, 0), (.iadd, 0, 0), (.iload 3, 0, 0), (.iastore, 0, 0), (.return_, 0, 0)]
/-- LentHandsModel.ofLoan(II)I -/
def am_c7 : List am_I := [(.iload 0, 1, 0), (.checkcast 0, 7, 7), (.bipush 196, 2, 0), (.bipush 5, 0, 0), (.iload 1, 0, 0), (.imul, 0, 0), (.iadd, 0, 0), (.iload 2, 0, 0), (.iadd, 0, 0), (.iaload, 0, 0), (.ireturn, 0, 0)]
/-- LentHandsModel.isPerson(I)Z -/
def am_c8 : List am_I := [(.iload 1, 0, 0), (.bipush 0, 0, 0), (.iload 0, 1, 0), (.checkcast 0, 7, 7), (.bipush 276, 2, 0), (.iaload, 0, 0), (.bipush 1, 0, 0), (.isub, 0, 0), (.invokevirtual 0, 3, 101), (.ireturn, 1, 0)]
/-- LentHandsModel.isHand(I)Z -/
def am_c9 : List am_I := [(.iload 1, 0, 0), (.bipush 0, 0, 0), (.bipush 2, 0, 0), (.iload 0, 1, 0), (.checkcast 0, 7, 7), (.bipush 276, 2, 0), (.iaload, 0, 0), (.imul, 0, 0), (.bipush 1, 0, 0), (.isub, 0, 0), (.invokevirtual 0, 3, 101), (.ireturn, 1, 0)]
/-- LentHandsModel.isKind(I)Z -/
def am_c10 : List am_I := [(.iload 0, 0, 0), (.bipush 0, 0, 0), (.bipush 3, 0, 0), (.invokevirtual 0, 3, 101), (.ireturn, 1, 0)]
/-- LentHandsModel.isSide(I)Z -/
def am_c11 : List am_I := [(.iload 0, 0, 0), (.bipush 0, 0, 0), (.bipush 1, 0, 0), (.invokevirtual 0, 3, 101), (.ireturn, 1, 0)]
/-- LentHandsModel.onWrist(II)I -/
def am_c12 : List am_I := [(.iload 2, 0, 0), (.istore 3, 0, 0), (.iload 3, 0, 0), (.bipush 2, 0, 0), (.iload 0, 1, 0), (.checkcast 0, 7, 7), (.bipush 276, 2, 0), (.iaload, 0, 0), (.imul, 0, 0), (.if_icmp .ge 20, 0, 0), (.iload 0, 1, 0), (.iload 3, 0, 0), (.bipush 8, 1, 0), (.invokevirtual 5, 3, 109), (.iload 1, 0, 0), (.if_icmp .ne 18, 0, 0), (.iload 3, 0, 0), (.ireturn, 0, 0), (.iinc 3 2, 0, 0), (.goto 2, 0, 0), (.bipush (-1), 0, 0), (.ireturn, 0, 0)]
/-- LentHandsModel.bornWith(I)I -/
def am_c13 : List am_I := [(.iload 0, 0, 0), (.bipush 2, 0, 0), (.idiv, 0, 0), (.ireturn, 0, 0)]
/-- LentHandsModel.forgets()V -/
def am_c14 : List am_I := [(.iload 0, 1, 0), (.bipush 0, 0, 0), (.putfield 4, 7, 116), (.return_, 0, 0)]
/-- LentHandsModel.state(I)I -/
def am_c15 : List am_I := [(.iload 0, 1, 0), (.checkcast 0, 7, 7), (.bipush 3, 0, 0), (.iaload, 0, 0), (.istore 2, 0, 0), (.iload 0, 1, 0), (.checkcast 0, 7, 7), (.bipush 3, 0, 0), (.iload 1, 0, 0), (.iastore, 0, 0), (.iload 0, 1, 0), (.invokevirtual 14, 1, 122), (.iload 2, 0, 0), (.ireturn, 0, 0)]
/-- LentHandsModel.draw(I)I -/
def am_c16 : List am_I := [(.iload 0, 1, 0), (.checkcast 0, 7, 7), (.bipush 3, 0, 0), (.bipush 1664525, 3, 64), (.iload 0, 1, 0), (.checkcast 0, 7, 7), (.bipush 3, 0, 0), (.iaload, 0, 0), (.imul, 0, 0), (.bipush 1013904223, 3, 65), (.iadd, 0, 0), (.iastore, 0, 0), (.iload 0, 1, 0), (.checkcast 0, 7, 7), (.bipush 3, 0, 0), (.iaload, 0, 0), (.bipush 8, 1, 0), (.iushr, 0, 0), (.iload 1, 0, 0), (.irem, 0, 0), (.ireturn, 0, 0)]
/-- LentHandsModel.person(II)I -/
def am_c17 : List am_I := [(.iload 1, 0, 0), (.bipush 0, 0, 0), (.bipush 9999, 2, 0), (.invokevirtual 0, 3, 101), (.ifCond .eq 16, 0, 0), (.iload 2, 0, 0), (.bipush 0, 0, 0), (.bipush 1, 0, 0), (.invokevirtual 0, 3, 101), (.ifCond .eq 16, 0, 0), (.iload 0, 1, 0), (.checkcast 0, 7, 7), (.bipush 276, 2, 0), (.iaload, 0, 0), (.bipush 8, 1, 0), (.if_icmp .ne 18, 0, 0), (.bipush (-1), 0, 0), (.ireturn, 0, 0), (.iload 0, 1, 0), (.checkcast 0, 7, 7), (.bipush 276, 2, 0), (.iaload, 0, 0), (.istore 3, 0, 0), (.iload 0, 1, 0), (.iload 3, 0, 0), (.bipush 0, 0, 0), (.iload 1, 0, 0), (.invokevirtual 4, 4, 132), (.iload 0, 1, 0), (.iload 3, 0, 0), (.bipush 1, 0, 0), (.bipush (-1), 0, 0), (.invokevirtual 4, 4, 132), (.iload 0, 1, 0), (.iload 3, 0, 0), (.bipush 2, 0, 0), (.bipush 0, 0, 0), (.invokevirtual 4, 4, 132), (.iload 0, 1, 0), (.checkcast 0, 7, 7), (.bipush 277, 2, 0), (.iload 3, 0, 0), (.iadd, 0, 0), (.iload 2, 0, 0), (.iastore, 0, 0), (.bipush 2, 0, 0), (.iload 3, 0, 0), (.imul, 0, 0), (.istore 4, 0, 1), (.iload 4, 0, 1), (.bipush 2, 0, 0), (.iload 3, 0, 0), (.imul, 0, 0), (.bipush 2, 0, 0), (.iadd, 0, 0), (.if_icmp .ge 75, 0, 0), (.bipush 0, 0, 0), (.istore 5, 0, 1), (.iload 5, 0, 1), (.bipush 10, 1, 0), (.if_icmp .ge 68, 0, 0), (.iload 0, 1, 0), (.iload 4, 0, 1), (.iload 5, 0, 1), (.bipush 0, 0, 0), (.invokevirtual 6, 4, 140), (.iinc 5 1, 0, 0), (.goto 58, 0, 0), (.iload 0, 1, 0), (.iload 4, 0, 1), (.bipush 8, 1, 0), (.iload 3, 0, 0), (.invokevirtual 6, 4, 140), (.iinc 4 1, 0, 0), (.goto 49, 0, 0), (.iload 0, 1, 0), (.checkcast 0, 7, 7), (.bipush 276, 2, 0), (.dup2, 0, 0), (.iaload, 0, 0), (.bipush 1, 0, 0), (.iadd, 0, 0), (.iastore, 0, 0), (.iload 0, 1, 0), (.invokevirtual 14, 1, 122), (.iload 3, 0, 0), (.ireturn, 0, 0)]
/-- LentHandsModel.set(III)Z -/
def am_c18 : List am_I := [(.iload 1, 0, 0), (.ifCond .ne 17, 0, 0), (.iload 0, 1, 0), (.iload 2, 0, 0), (.invokevirtual 8, 2, 147), (.ifCond .eq 17, 0, 0), (.iload 3, 0, 0), (.bipush 0, 0, 0), (.bipush 9999, 2, 0), (.invokevirtual 0, 3, 101), (.ifCond .eq 17, 0, 0), (.iload 0, 1, 0), (.iload 2, 0, 0), (.bipush 0, 0, 0), (.iload 3, 0, 0), (.invokevirtual 4, 4, 132), (.goto 79, 0, 0), (.iload 1, 0, 0), (.bipush 1, 0, 0), (.if_icmp .ne 37, 0, 0), (.iload 0, 1, 0), (.iload 2, 0, 0), (.invokevirtual 8, 2, 147), (.ifCond .eq 37, 0, 0), (.iload 3, 0, 0), (.bipush 0, 0, 0), (.bipush 1, 0, 0), (.invokevirtual 0, 3, 101), (.ifCond .eq 37, 0, 0), (.iload 0, 1, 0), (.checkcast 0, 7, 7), (.bipush 277, 2, 0), (.iload 2, 0, 0), (.iadd, 0, 0), (.iload 3, 0, 0), (.iastore, 0, 0), (.goto 79, 0, 0), (.iload 1, 0, 0), (.bipush 2, 0, 0), (.bipush 6, 1, 0), (.invokevirtual 0, 3, 101), (.ifCond .eq 59, 0, 0), (.iload 0, 1, 0), (.iload 2, 0, 0), (.invokevirtual 9, 2, 155), (.ifCond .eq 59, 0, 0), (.iload 3, 0, 0), (.bipush 0, 0, 0), (.bipush 99, 1, 0), (.invokevirtual 0, 3, 101), (.ifCond .eq 59, 0, 0), (.iload 0, 1, 0), (.iload 2, 0, 0), (.iload 1, 0, 0), (.bipush 2, 0, 0), (.isub, 0, 0), (.iload 3, 0, 0), (.invokevirtual 6, 4, 140), (.goto 79, 0, 0), (.iload 1, 0, 0), (.bipush 7, 1, 0), (.if_icmp .ne 77, 0, 0), (.iload 0, 1, 0), (.iload 2, 0, 0), (.invokevirtual 9, 2, 155), (.ifCond .eq 77, 0, 0), (.iload 3, 0, 0), (.bipush 0, 0, 0), (.bipush 9, 1, 0), (.invokevirtual 0, 3, 101), (.ifCond .eq 77, 0, 0), (.iload 0, 1, 0), (.iload 2, 0, 0), (.bipush 5, 0, 0), (.iload 3, 0, 0), (.invokevirtual 6, 4, 140), (.goto 79, 0, 0), (.bipush 0, 0, 0), (.ireturn, 1, 0), (.iload 0, 1, 0), (.invokevirtual 14, 1, 122), (.bipush 1, 0, 0), (.ireturn, 1, 0)]
/-- LentHandsModel.feed(IIIII)I -/
def am_c19 : List am_I := [(.iload 0, 1, 0), (.getfield 16, 7, 80), (.bipush 20, 1, 0), (.iadd, 0, 0), (.bipush 400, 2, 0), (.if_icmp .le 8, 0, 0), (.bipush (-1), 0, 0), (.ireturn, 0, 0), (.bipush 0, 0, 0), (.istore 6, 0, 1), (.iload 6, 0, 1), (.bipush 20, 1, 0), (.if_icmp .ge 59, 0, 0), (.iload 6, 0, 1), (.bipush 4, 0, 0), (.if_icmp .ge 18, 0, 0), (.iload 1, 0, 0), (.goto 34, 0, 0), (.iload 6, 0, 1), (.bipush 8, 1, 0), (.if_icmp .ge 23, 0, 0), (.iload 2, 0, 0), (.goto 34, 0, 0), (.iload 6, 0, 1), (.bipush 12, 1, 0), (.if_icmp .ge 28, 0, 0), (.iload 3, 0, 0), (.goto 34, 0, 0), (.iload 6, 0, 1), (.bipush 16, 1, 0), (.if_icmp .ge 33, 0, 0), (.iload 4, 0, 1), (.goto 34, 0, 0), (.iload 5, 0, 1), (.istore 7, 0, 1), (.iload 0, 1, 0), (.checkcast 9, 7, 31), (.iload 0, 1, 0), (.getfield 16, 7, 80), (.iload 7, 0, 1), (.bipush 24, 1, 0), (.bipush 8, 1, 0), (.iload 6, 0, 1), (.bipush 4, 0, 0), (.irem, 0, 0), (.imul, 0, 0), (.isub, 0, 0), (.ishr, 0, 0), (.bipush 255, 2, 0), (.iand, 0, 0), (.iastore, 0, 0), (.iload 0, 1, 0), (.dup, 0, 0), (.getfield 16, 7, 80), (.bipush 1, 0, 0), (.iadd, 0, 0), (.putfield 16, 7, 160), (.iinc 6 1, 0, 0), (.goto 10, 0, 0), (.iload 0, 1, 0), (.getfield 16, 7, 80), (.ireturn, 0, 0)]
/-- LentHandsModel.end(I)Z -/
def am_c20 : List am_I := [(.iload 1, 0, 0), (.bipush 0, 0, 0), (.iload 0, 1, 0), (.getfield 16, 7, 80), (.invokevirtual 0, 3, 101), (.ifCond .ne 8, 0, 0), (.bipush 0, 0, 0), (.ireturn, 1, 0), (.iload 0, 1, 0), (.iload 1, 0, 0), (.putfield 16, 7, 160), (.bipush 1, 0, 0), (.ireturn, 1, 0)]
/-- LentHandsModel.see(I)I -/
def am_c21 : List am_I := [(.iload 1, 0, 0), (.iload 0, 1, 0), (.getfield 16, 7, 80), (.if_icmp .ge 9, 0, 0), (.iload 0, 1, 0), (.checkcast 9, 7, 31), (.iload 1, 0, 0), (.iaload, 0, 0), (.goto 10, 0, 0), (.bipush (-1), 0, 0), (.ireturn, 0, 0)]
/-- LentHandsModel.isLetter(I)Z -/
def am_c22 : List am_I := [(.iload 0, 0, 0), (.bipush 97, 1, 0), (.bipush 122, 1, 0), (.invokevirtual 0, 3, 101), (.ifCond .ne 10, 0, 0), (.iload 0, 0, 0), (.bipush 65, 1, 0), (.bipush 90, 1, 0), (.invokevirtual 0, 3, 101), (.ifCond .eq 12, 0, 0), (.bipush 1, 0, 0), (.goto 13, 0, 0), (.bipush 0, 0, 0), (.ireturn, 1, 0)]
/-- LentHandsModel.isDigit(I)Z -/
def am_c23 : List am_I := [(.iload 0, 0, 0), (.bipush 48, 1, 0), (.bipush 57, 1, 0), (.invokevirtual 0, 3, 101), (.ireturn, 1, 0)]
/-- LentHandsModel.is(Ljava/lang/String;)Z -/
def am_c24 : List am_I := [(.iload 0, 1, 0), (.getfield 17, 7, 83), (.iload 0, 1, 0), (.getfield 19, 7, 86), (.isub, 0, 0), (.iload 1, 1, 0), (.invokevirtual 256, 1, 179), (.if_icmp .ne 10, 0, 0), (.bipush 1, 0, 0), (.goto 11, 0, 0), (.bipush 0, 0, 0), (.istore 2, 0, 0), (.bipush 0, 0, 0), (.istore 3, 0, 0), (.iload 3, 0, 0), (.iload 1, 1, 0), (.invokevirtual 256, 1, 179), (.if_icmp .ge 37, 0, 0), (.iload 2, 0, 0), (.ifCond .eq 37, 0, 0), (.iload 0, 1, 0), (.checkcast 9, 7, 31), (.iload 0, 1, 0), (.getfield 19, 7, 86), (.iload 3, 0, 0), (.iadd, 0, 0), (.iaload, 0, 0), (.iload 1, 1, 0), (.iload 3, 0, 0), (.invokevirtual 257, 2, 191), (.if_icmp .ne 33, 0, 0), (.bipush 1, 0, 0), (.goto 34, 0, 0), (.bipush 0, 0, 0), (.istore 2, 0, 0), (.iinc 3 1, 0, 0), (.goto 14, 0, 0), (.iload 2, 0, 0), (.ireturn, 1, 0)]
/-- LentHandsModel.handName()I -/
def am_c25 : List am_I := [(.iload 0, 1, 0), (.aload 321, 0, 99), (.invokevirtual 24, 2, 203), (.ifCond .eq 6, 0, 0), (.bipush 41, 1, 0), (.ireturn, 0, 0), (.iload 0, 1, 0), (.aload 322, 0, 105), (.invokevirtual 24, 2, 203), (.ifCond .eq 12, 0, 0), (.bipush 44, 1, 0), (.ireturn, 0, 0), (.iload 0, 1, 0), (.aload 323, 0, 107), (.invokevirtual 24, 2, 203), (.ifCond .eq 18, 0, 0), (.bipush 48, 1, 0), (.ireturn, 0, 0), (.iload 0, 1, 0), (.aload 324, 0, 109), (.invokevirtual 24, 2, 203), (.ifCond .eq 24, 0, 0), (.bipush 49, 1, 0), (.goto 25, 0, 0), (.bipush 1, 0, 0), (.ireturn, 0, 0)]
/-- LentHandsModel.loanWord()I -/
def am_c26 : List am_I := [(.iload 0, 1, 0), (.aload 314, 0, 111), (.invokevirtual 24, 2, 203), (.ifCond .eq 6, 0, 0), (.bipush 20, 1, 0), (.ireturn, 0, 0), (.iload 0, 1, 0), (.aload 315, 0, 113), (.invokevirtual 24, 2, 203), (.ifCond .eq 12, 0, 0), (.bipush 21, 1, 0), (.ireturn, 0, 0), (.iload 0, 1, 0), (.aload 316, 0, 115), (.invokevirtual 24, 2, 203), (.ifCond .eq 18, 0, 0), (.bipush 42, 1, 0), (.ireturn, 0, 0), (.iload 0, 1, 0), (.aload 317, 0, 117), (.invokevirtual 24, 2, 203), (.ifCond .eq 24, 0, 0), (.bipush 43, 1, 0), (.ireturn, 0, 0), (.iload 0, 1, 0), (.aload 318, 0, 119), (.invokevirtual 24, 2, 203), (.ifCond .eq 30, 0, 0), (.bipush 45, 1, 0), (.ireturn, 0, 0), (.iload 0, 1, 0), (.aload 305, 0, 121), (.invokevirtual 24, 2, 203), (.ifCond .eq 36, 0, 0), (.bipush 46, 1, 0), (.ireturn, 0, 0), (.iload 0, 1, 0), (.aload 319, 0, 123), (.invokevirtual 24, 2, 203), (.ifCond .eq 42, 0, 0), (.bipush 47, 1, 0), (.ireturn, 0, 0), (.iload 0, 1, 0), (.aload 320, 0, 125), (.invokevirtual 24, 2, 203), (.ifCond .eq 48, 0, 0), (.bipush 50, 1, 0), (.goto 50, 0, 0), (.iload 0, 1, 0), (.invokevirtual 25, 1, 255), (.ireturn, 0, 0)]
/-- LentHandsModel.handWord()I -/
def am_c27 : List am_I := [(.iload 0, 1, 0), (.aload 325, 0, 130), (.invokevirtual 24, 2, 203), (.ifCond .eq 6, 0, 0), (.bipush 26, 1, 0), (.ireturn, 0, 0), (.iload 0, 1, 0), (.aload 326, 0, 132), (.invokevirtual 24, 2, 203), (.ifCond .eq 12, 0, 0), (.bipush 27, 1, 0), (.ireturn, 0, 0), (.iload 0, 1, 0), (.aload 327, 0, 134), (.invokevirtual 24, 2, 203), (.ifCond .eq 18, 0, 0), (.bipush 28, 1, 0), (.ireturn, 0, 0), (.iload 0, 1, 0), (.aload 328, 0, 136), (.invokevirtual 24, 2, 203), (.ifCond .eq 24, 0, 0), (.bipush 29, 1, 0), (.ireturn, 0, 0), (.iload 0, 1, 0), (.aload 329, 0, 138), (.invokevirtual 24, 2, 203), (.ifCond .eq 30, 0, 0), (.bipush 51, 1, 0), (.ireturn, 0, 0), (.iload 0, 1, 0), (.aload 317, 0, 117), (.invokevirtual 24, 2, 203), (.ifCond .eq 36, 0, 0), (.bipush 43, 1, 0), (.ireturn, 0, 0), (.iload 0, 1, 0), (.aload 330, 0, 140), (.invokevirtual 24, 2, 203), (.ifCond .eq 42, 0, 0), (.bipush 52, 1, 0), (.ireturn, 0, 0), (.iload 0, 1, 0), (.aload 331, 0, 142), (.invokevirtual 24, 2, 203), (.ifCond .eq 48, 0, 0), (.bipush 53, 1, 0), (.ireturn, 0, 0), (.iload 0, 1, 0), (.aload 332, 0, 144), (.invokevirtual 24, 2, 203), (.ifCond .eq 54, 0, 0), (.bipush 54, 1, 0), (.goto 56, 0, 0), (.iload 0, 1, 0), (.invokevirtual 25, 1, 255), (.ireturn, 0, 0)]
/-- LentHandsModel.guiltWord()I -/
def am_c28 : List am_I := [(.iload 0, 1, 0), (.aload 333, 0, 146), (.invokevirtual 24, 2, 203), (.ifCond .eq 6, 0, 0), (.bipush 22, 1, 0), (.ireturn, 0, 0), (.iload 0, 1, 0), (.aload 334, 0, 148), (.invokevirtual 24, 2, 203), (.ifCond .eq 12, 0, 0), (.bipush 23, 1, 0), (.ireturn, 0, 0), (.iload 0, 1, 0), (.aload 309, 0, 150), (.invokevirtual 24, 2, 203), (.ifCond .eq 18, 0, 0), (.bipush 24, 1, 0), (.ireturn, 0, 0), (.iload 0, 1, 0), (.aload 335, 0, 152), (.invokevirtual 24, 2, 203), (.ifCond .eq 24, 0, 0), (.bipush 25, 1, 0), (.ireturn, 0, 0), (.iload 0, 1, 0), (.aload 316, 0, 115), (.invokevirtual 24, 2, 203), (.ifCond .eq 30, 0, 0), (.bipush 42, 1, 0), (.ireturn, 0, 0), (.iload 0, 1, 0), (.aload 330, 0, 140), (.invokevirtual 24, 2, 203), (.ifCond .eq 36, 0, 0), (.bipush 52, 1, 0), (.ireturn, 0, 0), (.iload 0, 1, 0), (.aload 305, 0, 121), (.invokevirtual 24, 2, 203), (.ifCond .eq 42, 0, 0), (.bipush 46, 1, 0), (.goto 44, 0, 0), (.iload 0, 1, 0), (.invokevirtual 25, 1, 255), (.ireturn, 0, 0)]
/-- LentHandsModel.bookingWord()I -/
def am_c29 : List am_I := [(.iload 0, 1, 0), (.aload 301, 0, 154), (.invokevirtual 24, 2, 203), (.ifCond .eq 6, 0, 0), (.bipush 7, 1, 0), (.ireturn, 0, 0), (.iload 0, 1, 0), (.aload 302, 0, 156), (.invokevirtual 24, 2, 203), (.ifCond .eq 12, 0, 0), (.bipush 8, 1, 0), (.ireturn, 0, 0), (.iload 0, 1, 0), (.aload 303, 0, 158), (.invokevirtual 24, 2, 203), (.ifCond .eq 18, 0, 0), (.bipush 9, 1, 0), (.ireturn, 0, 0), (.iload 0, 1, 0), (.aload 304, 0, 159), (.invokevirtual 24, 2, 203), (.ifCond .eq 24, 0, 0), (.bipush 10, 1, 0), (.ireturn, 0, 0), (.iload 0, 1, 0), (.aload 305, 0, 121), (.invokevirtual 24, 2, 203), (.ifCond .eq 30, 0, 0), (.bipush 11, 1, 0), (.goto 31, 0, 0), (.bipush 1, 0, 0), (.ireturn, 0, 0)]
/-- LentHandsModel.workWord()I -/
def am_c30 : List am_I := [(.iload 0, 1, 0), (.aload 306, 0, 161), (.invokevirtual 24, 2, 203), (.ifCond .eq 6, 0, 0), (.bipush 12, 1, 0), (.ireturn, 0, 0), (.iload 0, 1, 0), (.aload 307, 0, 163), (.invokevirtual 24, 2, 203), (.ifCond .eq 12, 0, 0), (.bipush 13, 1, 0), (.ireturn, 0, 0), (.iload 0, 1, 0), (.aload 308, 0, 165), (.invokevirtual 24, 2, 203), (.ifCond .eq 18, 0, 0), (.bipush 14, 1, 0), (.ireturn, 0, 0), (.iload 0, 1, 0), (.aload 309, 0, 150), (.invokevirtual 24, 2, 203), (.ifCond .eq 24, 0, 0), (.bipush 24, 1, 0), (.goto 25, 0, 0), (.bipush 1, 0, 0), (.ireturn, 0, 0)]
/-- LentHandsModel.word()I -/
def am_c31 : List am_I := [(.iload 0, 1, 0), (.getfield 12, 7, 167), (.bipush 3, 0, 0), (.if_icmp .ne 7, 0, 0), (.iload 0, 1, 0), (.invokevirtual 29, 1, 341), (.ireturn, 0, 0), (.iload 0, 1, 0), (.getfield 12, 7, 167), (.bipush 4, 0, 0), (.if_icmp .ne 14, 0, 0), (.iload 0, 1, 0), (.invokevirtual 30, 1, 347), (.ireturn, 0, 0), (.iload 0, 1, 0), (.aload 310, 0, 176), (.invokevirtual 24, 2, 203), (.ifCond .eq 20, 0, 0), (.bipush 3, 0, 0), (.ireturn, 0, 0), (.iload 0, 1, 0), (.aload 311, 0, 178), (.invokevirtual 24, 2, 203), (.ifCond .eq 26, 0, 0), (.bipush 4, 0, 0), (.ireturn, 0, 0), (.iload 0, 1, 0), (.aload 312, 0, 180), (.invokevirtual 24, 2, 203), (.ifCond .eq 32, 0, 0), (.bipush 5, 0, 0), (.ireturn, 0, 0), (.iload 0, 1, 0), (.aload 313, 0, 182), (.invokevirtual 24, 2, 203), (.ifCond .eq 38, 0, 0), (.bipush 6, 1, 0), (.ireturn, 0, 0), (.iload 0, 1, 0), (.getfield 12, 7, 167), (.ifCond .ne 44, 0, 0), (.iload 0, 1, 0), (.invokevirtual 26, 1, 369), (.goto 53, 0, 0), (.iload 0, 1, 0), (.getfield 12, 7, 167), (.bipush 1, 0, 0), (.if_icmp .ne 51, 0, 0), (.iload 0, 1, 0), (.invokevirtual 27, 1, 375), (.goto 53, 0, 0), (.iload 0, 1, 0), (.invokevirtual 28, 1, 381), (.ireturn, 0, 0)]
/-- LentHandsModel.next0()V -/
def am_c32 : List am_I := [(.iload 0, 1, 0), (.iload 0, 1, 0), (.getfield 17, 7, 83), (.invokevirtual 21, 2, 387), (.bipush 32, 1, 0), (.if_icmp .eq 12, 0, 0), (.iload 0, 1, 0), (.iload 0, 1, 0), (.getfield 17, 7, 83), (.invokevirtual 21, 2, 387), (.bipush 10, 1, 0), (.if_icmp .ne 19, 0, 0), (.iload 0, 1, 0), (.dup, 0, 0), (.getfield 17, 7, 83), (.bipush 1, 0, 0), (.iadd, 0, 0), (.putfield 17, 7, 166), (.goto 0, 0, 0), (.iload 0, 1, 0), (.iload 0, 1, 0), (.getfield 17, 7, 83), (.putfield 19, 7, 172), (.iload 0, 1, 0), (.iload 0, 1, 0), (.getfield 17, 7, 83), (.invokevirtual 21, 2, 387), (.istore 1, 0, 0), (.iload 1, 0, 0), (.bipush (-1), 0, 0), (.if_icmp .ne 35, 0, 0), (.iload 0, 1, 0), (.bipush 0, 0, 0), (.putfield 18, 7, 394), (.goto 157, 0, 0), (.iload 1, 0, 0), (.invokevirtual 22, 1, 401), (.ifCond .eq 56, 0, 0), (.iload 0, 1, 0), (.iload 0, 1, 0), (.getfield 17, 7, 83), (.invokevirtual 21, 2, 387), (.invokevirtual 22, 1, 401), (.ifCond .eq 51, 0, 0), (.iload 0, 1, 0), (.dup, 0, 0), (.getfield 17, 7, 83), (.bipush 1, 0, 0), (.iadd, 0, 0), (.putfield 17, 7, 166), (.goto 38, 0, 0), (.iload 0, 1, 0), (.iload 0, 1, 0), (.invokevirtual 31, 1, 407), (.putfield 18, 7, 394), (.goto 157, 0, 0), (.iload 1, 0, 0), (.invokevirtual 23, 1, 413), (.ifCond .eq 108, 0, 0), (.iload 0, 1, 0), (.bipush 0, 0, 0), (.putfield 20, 7, 418), (.iload 0, 1, 0), (.iload 0, 1, 0), (.getfield 17, 7, 83), (.invokevirtual 21, 2, 387), (.invokevirtual 23, 1, 413), (.ifCond .eq 95, 0, 0), (.iload 0, 1, 0), (.getfield 17, 7, 83), (.iload 0, 1, 0), (.getfield 19, 7, 86), (.bipush 4, 0, 0), (.iadd, 0, 0), (.if_icmp .ge 88, 0, 0), (.iload 0, 1, 0), (.bipush 10, 1, 0), (.iload 0, 1, 0), (.getfield 20, 7, 209), (.imul, 0, 0), (.iload 0, 1, 0), (.iload 0, 1, 0), (.getfield 17, 7, 83), (.invokevirtual 21, 2, 387), (.iadd, 0, 0), (.bipush 48, 1, 0), (.isub, 0, 0), (.putfield 20, 7, 418), (.iload 0, 1, 0), (.dup, 0, 0), (.getfield 17, 7, 83), (.bipush 1, 0, 0), (.iadd, 0, 0), (.putfield 17, 7, 166), (.goto 62, 0, 0), (.iload 0, 1, 0), (.iload 0, 1, 0), (.getfield 17, 7, 83), (.iload 0, 1, 0), (.getfield 19, 7, 86), (.isub, 0, 0), (.bipush 5, 0, 0), (.if_icmp .ge 105, 0, 0), (.bipush 2, 0, 0), (.goto 106, 0, 0), (.bipush 1, 0, 0), (.putfield 18, 7, 394), (.goto 157, 0, 0), (.iload 0, 1, 0), (.dup, 0, 0), (.getfield 17, 7, 83), (.bipush 1, 0, 0), (.iadd, 0, 0), (.putfield 17, 7, 166), (.iload 1, 0, 0), (.bipush 59, 1, 0), (.if_icmp .eq 144, 0, 0), (.iload 1, 0, 0), (.bipush 43, 1, 0), (.if_icmp .eq 144, 0, 0), (.iload 1, 0, 0), (.bipush 45, 1, 0), (.if_icmp .eq 144, 0, 0), (.iload 1, 0, 0), (.bipush 42, 1, 0), (.if_icmp .eq 144, 0, 0), (.iload 1, 0, 0), (.bipush 47, 1, 0), (.if_icmp .eq 144, 0, 0), (.iload 1, 0, 0), (.bipush 40, 1, 0), (.if_icmp .eq 144, 0, 0), (.iload 1, 0, 0), (.bipush 41, 1, 0), (.if_icmp .eq 144, 0, 0), (.iload 1, 0, 0), (.bipush 60, 1, 0), (.if_icmp .eq 144, 0, 0), (.iload 1, 0, 0), (.bipush 61, 1, 0), (.if_icmp .eq 144, 0, 0), (.iload 1, 0, 0), (.bipush 62, 1, 0), (.if_icmp .ne 146, 0, 0), (.bipush 1, 0, 0), (.goto 147, 0, 0), (.bipush 0, 0, 0), (.istore 2, 0, 0), (.iload 0, 1, 0), (.iload 2, 0, 0), (.ifCond .eq 155, 0, 0), (.bipush 100, 1, 0), (.iload 1, 0, 0), (.iadd, 0, 0), (.goto 156, 0, 0), (.bipush 1, 0, 0), (.putfield 18, 7, 394), (.return_, 0, 0)]
/-- LentHandsModel.bad(I)Z -/
def am_c33 : List am_I := [(.iload 0, 1, 0), (.iload 1, 0, 0), (.putfield 21, 7, 424), (.iload 0, 1, 0), (.iload 0, 1, 0), (.getfield 19, 7, 86), (.putfield 22, 7, 430), (.bipush 0, 0, 0), (.ireturn, 1, 0)]
/-- LentHandsModel.need(I)Z -/
def am_c34 : List am_I := [(.iload 0, 1, 0), (.getfield 18, 7, 197), (.iload 1, 0, 0), (.if_icmp .eq 8, 0, 0), (.iload 0, 1, 0), (.bipush 1, 0, 0), (.invokevirtual 33, 2, 437), (.ireturn, 1, 0), (.iload 0, 1, 0), (.invokevirtual 32, 1, 442), (.bipush 1, 0, 0), (.ireturn, 1, 0)]
/-- LentHandsModel.lay(II)V -/
def am_c35 : List am_I := [(.iload 0, 1, 0), (.checkcast 7, 7, 25), (.bipush 2, 0, 0), (.iload 0, 1, 0), (.getfield 14, 7, 224), (.imul, 0, 0), (.iload 1, 0, 0), (.iastore, 0, 0), (.iload 0, 1, 0), (.checkcast 7, 7, 25), (.bipush 2, 0, 0), (.iload 0, 1, 0), (.getfield 14, 7, 224), (.imul, 0, 0), (.bipush 1, 0, 0), (.iadd, 0, 0), (.iload 2, 0, 0), (.iastore, 0, 0), (.iload 0, 1, 0), (.dup, 0, 0), (.getfield 14, 7, 224), (.bipush 1, 0, 0), (.iadd, 0, 0), (.putfield 14, 7, 448), (.return_, 0, 0)]
/-- LentHandsModel.opens()Z -/
def am_c36 : List am_I := [(.iload 0, 1, 0), (.getfield 24, 7, 227), (.bipush 8, 1, 0), (.if_icmp .ne 8, 0, 0), (.iload 0, 1, 0), (.bipush 3, 0, 0), (.invokevirtual 33, 2, 437), (.ireturn, 1, 0), (.iload 0, 1, 0), (.dup, 0, 0), (.getfield 24, 7, 227), (.bipush 1, 0, 0), (.iadd, 0, 0), (.putfield 24, 7, 454), (.iload 0, 1, 0), (.invokevirtual 32, 1, 442), (.bipush 1, 0, 0), (.ireturn, 1, 0)]
/-- LentHandsModel.sumUp()Z -/
def am_c37 : List am_I := [(.iload 0, 1, 0), (.invokevirtual 38, 1, 461), (.ifCond .ne 5, 0, 0), (.bipush 0, 0, 0), (.ireturn, 1, 0), (.iload 0, 1, 0), (.getfield 18, 7, 197), (.bipush 143, 2, 0), (.if_icmp .eq 13, 0, 0), (.iload 0, 1, 0), (.getfield 18, 7, 197), (.bipush 145, 2, 0), (.if_icmp .ne 33, 0, 0), (.iload 0, 1, 0), (.getfield 18, 7, 197), (.bipush 143, 2, 0), (.if_icmp .ne 19, 0, 0), (.bipush 23, 1, 0), (.goto 20, 0, 0), (.bipush 24, 1, 0), (.istore 1, 0, 0), (.iload 0, 1, 0), (.invokevirtual 32, 1, 442), (.iload 0, 1, 0), (.invokevirtual 38, 1, 461), (.ifCond .ne 28, 0, 0), (.bipush 0, 0, 0), (.ireturn, 1, 0), (.iload 0, 1, 0), (.iload 1, 0, 0), (.bipush 0, 0, 0), (.invokevirtual 35, 3, 468), (.goto 5, 0, 0), (.bipush 1, 0, 0), (.ireturn, 1, 0)]
/-- LentHandsModel.product()Z -/
def am_c38 : List am_I := [(.iload 0, 1, 0), (.invokevirtual 39, 1, 477), (.ifCond .ne 5, 0, 0), (.bipush 0, 0, 0), (.ireturn, 1, 0), (.iload 0, 1, 0), (.getfield 18, 7, 197), (.bipush 142, 2, 0), (.if_icmp .eq 13, 0, 0), (.iload 0, 1, 0), (.getfield 18, 7, 197), (.bipush 147, 2, 0), (.if_icmp .ne 59, 0, 0), (.iload 0, 1, 0), (.getfield 18, 7, 197), (.bipush 147, 2, 0), (.if_icmp .ne 19, 0, 0), (.bipush 1, 0, 0), (.goto 20, 0, 0), (.bipush 0, 0, 0), (.istore 1, 0, 0), (.iload 0, 1, 0), (.invokevirtual 32, 1, 442), (.iload 1, 0, 0), (.ifCond .eq 49, 0, 0), (.iload 0, 1, 0), (.getfield 20, 7, 209), (.istore 2, 0, 0), (.iload 0, 1, 0), (.getfield 18, 7, 197), (.bipush 2, 0, 0), (.if_icmp .eq 36, 0, 0), (.iload 0, 1, 0), (.bipush 1, 0, 0), (.invokevirtual 33, 2, 437), (.ireturn, 1, 0), (.iload 2, 0, 0), (.ifCond .ne 42, 0, 0), (.iload 0, 1, 0), (.bipush 2, 0, 0), (.invokevirtual 33, 2, 437), (.ireturn, 1, 0), (.iload 0, 1, 0), (.invokevirtual 32, 1, 442), (.iload 0, 1, 0), (.bipush 26, 1, 0), (.iload 2, 0, 0), (.invokevirtual 35, 3, 468), (.goto 58, 0, 0), (.iload 0, 1, 0), (.invokevirtual 39, 1, 477), (.ifCond .ne 54, 0, 0), (.bipush 0, 0, 0), (.ireturn, 1, 0), (.iload 0, 1, 0), (.bipush 25, 1, 0), (.bipush 0, 0, 0), (.invokevirtual 35, 3, 468), (.goto 5, 0, 0), (.bipush 1, 0, 0), (.ireturn, 1, 0)]
/-- LentHandsModel.unit()Z -/
def am_c39 : List am_I := [(.iload 0, 1, 0), (.getfield 18, 7, 197), (.bipush 41, 1, 0), (.bipush 54, 1, 0), (.invokevirtual 0, 3, 101), (.istore 1, 0, 0), (.iload 0, 1, 0), (.getfield 18, 7, 197), (.bipush 2, 0, 0), (.if_icmp .eq 16, 0, 0), (.iload 1, 0, 0), (.ifCond .ne 16, 0, 0), (.iload 0, 1, 0), (.bipush 1, 0, 0), (.invokevirtual 33, 2, 437), (.ireturn, 1, 0), (.iload 0, 1, 0), (.iload 1, 0, 0), (.ifCond .eq 24, 0, 0), (.iload 0, 1, 0), (.getfield 18, 7, 197), (.bipush 40, 1, 0), (.isub, 0, 0), (.goto 25, 0, 0), (.bipush 0, 0, 0), (.iload 0, 1, 0), (.getfield 20, 7, 209), (.invokevirtual 35, 3, 468), (.iload 0, 1, 0), (.invokevirtual 32, 1, 442), (.bipush 1, 0, 0), (.ireturn, 1, 0)]
/-- LentHandsModel.any()Z -/
def am_c40 : List am_I := [(.iload 0, 1, 0), (.invokevirtual 41, 1, 483), (.ifCond .ne 5, 0, 0), (.bipush 0, 0, 0), (.ireturn, 1, 0), (.iload 0, 1, 0), (.getfield 18, 7, 197), (.bipush 4, 0, 0), (.if_icmp .ne 21, 0, 0), (.iload 0, 1, 0), (.invokevirtual 32, 1, 442), (.iload 0, 1, 0), (.invokevirtual 41, 1, 483), (.ifCond .ne 16, 0, 0), (.bipush 0, 0, 0), (.ireturn, 1, 0), (.iload 0, 1, 0), (.bipush 32, 1, 0), (.bipush 0, 0, 0), (.invokevirtual 35, 3, 468), (.goto 5, 0, 0), (.bipush 1, 0, 0), (.ireturn, 1, 0)]
/-- LentHandsModel.every()Z -/
def am_c41 : List am_I := [(.iload 0, 1, 0), (.invokevirtual 42, 1, 489), (.ifCond .ne 5, 0, 0), (.bipush 0, 0, 0), (.ireturn, 1, 0), (.iload 0, 1, 0), (.getfield 18, 7, 197), (.bipush 5, 0, 0), (.if_icmp .ne 21, 0, 0), (.iload 0, 1, 0), (.invokevirtual 32, 1, 442), (.iload 0, 1, 0), (.invokevirtual 42, 1, 489), (.ifCond .ne 16, 0, 0), (.bipush 0, 0, 0), (.ireturn, 1, 0), (.iload 0, 1, 0), (.bipush 31, 1, 0), (.bipush 0, 0, 0), (.invokevirtual 35, 3, 468), (.goto 5, 0, 0), (.bipush 1, 0, 0), (.ireturn, 1, 0)]
/-- LentHandsModel.oneTest()Z -/
def am_c42 : List am_I := [(.iload 0, 1, 0), (.getfield 18, 7, 197), (.bipush 6, 1, 0), (.if_icmp .ne 24, 0, 0), (.iload 0, 1, 0), (.invokevirtual 36, 1, 495), (.ifCond .eq 10, 0, 0), (.iload 0, 1, 0), (.invokevirtual 42, 1, 489), (.ifCond .ne 12, 0, 0), (.bipush 0, 0, 0), (.ireturn, 1, 0), (.iload 0, 1, 0), (.dup, 0, 0), (.getfield 24, 7, 227), (.bipush 1, 0, 0), (.isub, 0, 0), (.putfield 24, 7, 454), (.iload 0, 1, 0), (.bipush 30, 1, 0), (.bipush 0, 0, 0), (.invokevirtual 35, 3, 468), (.bipush 1, 0, 0), (.ireturn, 1, 0), (.iload 0, 1, 0), (.getfield 18, 7, 197), (.bipush 140, 2, 0), (.if_icmp .ne 48, 0, 0), (.iload 0, 1, 0), (.invokevirtual 36, 1, 495), (.ifCond .eq 38, 0, 0), (.iload 0, 1, 0), (.invokevirtual 40, 1, 501), (.ifCond .eq 38, 0, 0), (.iload 0, 1, 0), (.bipush 141, 2, 0), (.invokevirtual 34, 2, 507), (.ifCond .ne 40, 0, 0), (.bipush 0, 0, 0), (.ireturn, 1, 0), (.iload 0, 1, 0), (.dup, 0, 0), (.getfield 24, 7, 227), (.bipush 1, 0, 0), (.isub, 0, 0), (.putfield 24, 7, 454), (.bipush 1, 0, 0), (.ireturn, 1, 0), (.iload 0, 1, 0), (.invokevirtual 37, 1, 513), (.ifCond .ne 53, 0, 0), (.bipush 0, 0, 0), (.ireturn, 1, 0), (.iload 0, 1, 0), (.getfield 18, 7, 197), (.bipush 160, 2, 0), (.if_icmp .ne 59, 0, 0), (.bipush 27, 1, 0), (.goto 72, 0, 0), (.iload 0, 1, 0), (.getfield 18, 7, 197), (.bipush 161, 2, 0), (.if_icmp .ne 65, 0, 0), (.bipush 28, 1, 0), (.goto 72, 0, 0), (.iload 0, 1, 0), (.getfield 18, 7, 197), (.bipush 162, 2, 0), (.if_icmp .ne 71, 0, 0), (.bipush 29, 1, 0), (.goto 72, 0, 0), (.bipush (-1), 0, 0), (.istore 1, 0, 0), (.iload 1, 0, 0), (.bipush (-1), 0, 0), (.if_icmp .ne 80, 0, 0), (.iload 0, 1, 0), (.bipush 1, 0, 0), (.invokevirtual 33, 2, 437), (.ireturn, 1, 0), (.iload 0, 1, 0), (.invokevirtual 32, 1, 442), (.iload 0, 1, 0), (.invokevirtual 37, 1, 513), (.ifCond .ne 87, 0, 0), (.bipush 0, 0, 0), (.ireturn, 1, 0), (.iload 0, 1, 0), (.iload 1, 0, 0), (.bipush 0, 0, 0), (.invokevirtual 35, 3, 468), (.bipush 1, 0, 0), (.ireturn, 1, 0)]
/-- LentHandsModel.aLine()Z -/
def am_c43 : List am_I := [(.iload 0, 1, 0), (.getfield 18, 7, 197), (.bipush 20, 1, 0), (.bipush 29, 1, 0), (.invokevirtual 0, 3, 101), (.ifCond .ne 10, 0, 0), (.iload 0, 1, 0), (.bipush 1, 0, 0), (.invokevirtual 33, 2, 437), (.ireturn, 1, 0), (.iload 0, 1, 0), (.getfield 13, 7, 259), (.bipush 16, 1, 0), (.if_icmp .ne 18, 0, 0), (.iload 0, 1, 0), (.bipush 3, 0, 0), (.invokevirtual 33, 2, 437), (.ireturn, 1, 0), (.iload 0, 1, 0), (.bipush 0, 0, 0), (.putfield 24, 7, 454), (.iload 0, 1, 0), (.checkcast 6, 7, 22), (.bipush 4, 0, 0), (.iload 0, 1, 0), (.getfield 13, 7, 259), (.imul, 0, 0), (.bipush 3, 0, 0), (.iadd, 0, 0), (.iload 0, 1, 0), (.getfield 18, 7, 197), (.iastore, 0, 0), (.iload 0, 1, 0), (.invokevirtual 32, 1, 442), (.iload 0, 1, 0), (.checkcast 6, 7, 22), (.bipush 4, 0, 0), (.iload 0, 1, 0), (.getfield 13, 7, 259), (.imul, 0, 0), (.iload 0, 1, 0), (.getfield 14, 7, 224), (.iastore, 0, 0), (.iload 0, 1, 0), (.getfield 12, 7, 167), (.bipush 1, 0, 0), (.if_icmp .ne 52, 0, 0), (.iload 0, 1, 0), (.invokevirtual 37, 1, 513), (.ifCond .ne 52, 0, 0), (.bipush 0, 0, 0), (.ireturn, 1, 0), (.iload 0, 1, 0), (.checkcast 6, 7, 22), (.bipush 4, 0, 0), (.iload 0, 1, 0), (.getfield 13, 7, 259), (.imul, 0, 0), (.bipush 1, 0, 0), (.iadd, 0, 0), (.iload 0, 1, 0), (.getfield 14, 7, 224), (.iastore, 0, 0), (.iload 0, 1, 0), (.getfield 18, 7, 197), (.bipush 3, 0, 0), (.if_icmp .ne 74, 0, 0), (.iload 0, 1, 0), (.invokevirtual 32, 1, 442), (.iload 0, 1, 0), (.invokevirtual 40, 1, 501), (.ifCond .ne 74, 0, 0), (.bipush 0, 0, 0), (.ireturn, 1, 0), (.iload 0, 1, 0), (.checkcast 6, 7, 22), (.bipush 4, 0, 0), (.iload 0, 1, 0), (.getfield 13, 7, 259), (.imul, 0, 0), (.bipush 2, 0, 0), (.iadd, 0, 0), (.iload 0, 1, 0), (.getfield 14, 7, 224), (.iastore, 0, 0), (.iload 0, 1, 0), (.bipush 159, 2, 0), (.invokevirtual 34, 2, 507), (.ireturn, 1, 0)]
/-- LentHandsModel.readsLaw()Z -/
def am_c44 : List am_I := [(.iload 0, 1, 0), (.bipush 0, 0, 0), (.putfield 13, 7, 518), (.iload 0, 1, 0), (.bipush 0, 0, 0), (.putfield 14, 7, 448), (.bipush 1, 0, 0), (.istore 1, 0, 0), (.iload 1, 0, 0), (.ifCond .eq 27, 0, 0), (.iload 0, 1, 0), (.getfield 18, 7, 197), (.ifCond .eq 27, 0, 0), (.iload 0, 1, 0), (.invokevirtual 43, 1, 525), (.istore 1, 0, 0), (.iload 0, 1, 0), (.dup, 0, 0), (.getfield 13, 7, 259), (.iload 1, 0, 0), (.ifCond .eq 23, 0, 0), (.bipush 1, 0, 0), (.goto 24, 0, 0), (.bipush 0, 0, 0), (.iadd, 0, 0), (.putfield 13, 7, 518), (.goto 8, 0, 0), (.iload 1, 0, 0), (.ireturn, 1, 0)]
/-- LentHandsModel.number(II)Z -/
def am_c45 : List am_I := [(.iload 0, 1, 0), (.getfield 18, 7, 197), (.bipush 2, 0, 0), (.if_icmp .eq 8, 0, 0), (.iload 0, 1, 0), (.bipush 1, 0, 0), (.invokevirtual 33, 2, 437), (.ireturn, 1, 0), (.iload 0, 1, 0), (.getfield 20, 7, 209), (.iload 1, 0, 0), (.iload 2, 0, 0), (.invokevirtual 0, 3, 101), (.ifCond .ne 18, 0, 0), (.iload 0, 1, 0), (.bipush 2, 0, 0), (.invokevirtual 33, 2, 437), (.ireturn, 1, 0), (.iload 0, 1, 0), (.iload 0, 1, 0), (.getfield 20, 7, 209), (.putfield 26, 7, 530), (.iload 0, 1, 0), (.invokevirtual 32, 1, 442), (.bipush 1, 0, 0), (.ireturn, 1, 0)]
/-- LentHandsModel.told(IIII)Z -/
def am_c46 : List am_I := [(.iload 0, 1, 0), (.iload 2, 0, 0), (.invokevirtual 34, 2, 507), (.ifCond .eq 9, 0, 0), (.iload 0, 1, 0), (.iload 3, 0, 0), (.iload 4, 0, 1), (.invokevirtual 45, 3, 537), (.ifCond .ne 11, 0, 0), (.bipush 0, 0, 0), (.ireturn, 1, 0), (.iload 0, 1, 0), (.checkcast 8, 7, 28), (.iload 1, 0, 0), (.iload 0, 1, 0), (.getfield 26, 7, 265), (.iastore, 0, 0), (.bipush 1, 0, 0), (.ireturn, 1, 0)]
/-- LentHandsModel.aBooking()Z -/
def am_c47 : List am_I := [(.bipush 5, 0, 0), (.iload 0, 1, 0), (.getfield 15, 7, 272), (.imul, 0, 0), (.istore 1, 0, 0), (.iload 0, 1, 0), (.iload 1, 0, 0), (.bipush 7, 1, 0), (.bipush 0, 0, 0), (.bipush 2, 0, 0), (.iload 0, 1, 0), (.checkcast 0, 7, 7), (.bipush 276, 2, 0), (.iaload, 0, 0), (.imul, 0, 0), (.bipush 1, 0, 0), (.isub, 0, 0), (.invokevirtual 46, 5, 551), (.ifCond .eq 51, 0, 0), (.iload 0, 1, 0), (.iload 1, 0, 0), (.bipush 1, 0, 0), (.iadd, 0, 0), (.bipush 8, 1, 0), (.bipush 0, 0, 0), (.iload 0, 1, 0), (.checkcast 0, 7, 7), (.bipush 276, 2, 0), (.iaload, 0, 0), (.bipush 1, 0, 0), (.isub, 0, 0), (.invokevirtual 46, 5, 551), (.ifCond .eq 51, 0, 0), (.iload 0, 1, 0), (.iload 1, 0, 0), (.bipush 2, 0, 0), (.iadd, 0, 0), (.bipush 9, 1, 0), (.bipush 0, 0, 0), (.bipush 9999, 2, 0), (.invokevirtual 46, 5, 551), (.ifCond .eq 51, 0, 0), (.iload 0, 1, 0), (.iload 1, 0, 0), (.bipush 3, 0, 0), (.iadd, 0, 0), (.bipush 10, 1, 0), (.bipush 1, 0, 0), (.bipush 99, 1, 0), (.invokevirtual 46, 5, 551), (.ifCond .ne 53, 0, 0), (.bipush 0, 0, 0), (.ireturn, 1, 0), (.iload 0, 1, 0), (.checkcast 8, 7, 28), (.iload 1, 0, 0), (.bipush 4, 0, 0), (.iadd, 0, 0), (.bipush 0, 0, 0), (.iastore, 0, 0), (.iload 0, 1, 0), (.getfield 18, 7, 197), (.bipush 11, 1, 0), (.if_icmp .ne 73, 0, 0), (.iload 0, 1, 0), (.iload 1, 0, 0), (.bipush 4, 0, 0), (.iadd, 0, 0), (.bipush 11, 1, 0), (.bipush 0, 0, 0), (.bipush 99, 1, 0), (.invokevirtual 46, 5, 551), (.ifCond .eq 79, 0, 0), (.iload 0, 1, 0), (.bipush 159, 2, 0), (.invokevirtual 34, 2, 507), (.ifCond .eq 79, 0, 0), (.bipush 1, 0, 0), (.goto 80, 0, 0), (.bipush 0, 0, 0), (.ireturn, 1, 0)]
/-- LentHandsModel.aWork()Z -/
def am_c48 : List am_I := [(.bipush 4, 0, 0), (.iload 0, 1, 0), (.getfield 15, 7, 272), (.imul, 0, 0), (.istore 1, 0, 0), (.iload 0, 1, 0), (.iload 1, 0, 0), (.bipush 12, 1, 0), (.bipush 0, 0, 0), (.bipush 3, 0, 0), (.invokevirtual 46, 5, 551), (.ifCond .eq 30, 0, 0), (.iload 0, 1, 0), (.iload 1, 0, 0), (.bipush 1, 0, 0), (.iadd, 0, 0), (.bipush 13, 1, 0), (.bipush 0, 0, 0), (.bipush 99, 1, 0), (.invokevirtual 46, 5, 551), (.ifCond .eq 30, 0, 0), (.iload 0, 1, 0), (.iload 1, 0, 0), (.bipush 2, 0, 0), (.iadd, 0, 0), (.bipush 14, 1, 0), (.bipush 0, 0, 0), (.bipush 99, 1, 0), (.invokevirtual 46, 5, 551), (.ifCond .ne 32, 0, 0), (.bipush 0, 0, 0), (.ireturn, 1, 0), (.iload 0, 1, 0), (.checkcast 8, 7, 28), (.iload 1, 0, 0), (.bipush 3, 0, 0), (.iadd, 0, 0), (.iload 0, 1, 0), (.getfield 18, 7, 197), (.bipush 24, 1, 0), (.if_icmp .ne 43, 0, 0), (.bipush 1, 0, 0), (.goto 44, 0, 0), (.bipush 0, 0, 0), (.iastore, 0, 0), (.iload 0, 1, 0), (.getfield 18, 7, 197), (.bipush 24, 1, 0), (.if_icmp .ne 51, 0, 0), (.iload 0, 1, 0), (.invokevirtual 32, 1, 442), (.iload 0, 1, 0), (.bipush 159, 2, 0), (.invokevirtual 34, 2, 507), (.ireturn, 1, 0)]
/-- LentHandsModel.readsRows()Z -/
def am_c49 : List am_I := [(.iload 0, 1, 0), (.bipush 0, 0, 0), (.putfield 15, 7, 544), (.bipush 1, 0, 0), (.istore 1, 0, 0), (.iload 1, 0, 0), (.ifCond .eq 59, 0, 0), (.iload 0, 1, 0), (.getfield 18, 7, 197), (.ifCond .eq 59, 0, 0), (.iload 0, 1, 0), (.getfield 18, 7, 197), (.iload 0, 1, 0), (.getfield 12, 7, 167), (.bipush 3, 0, 0), (.if_icmp .ne 18, 0, 0), (.bipush 7, 1, 0), (.goto 19, 0, 0), (.bipush 12, 1, 0), (.if_icmp .eq 24, 0, 0), (.iload 0, 1, 0), (.bipush 1, 0, 0), (.invokevirtual 33, 2, 437), (.ireturn, 1, 0), (.iload 0, 1, 0), (.getfield 15, 7, 272), (.iload 0, 1, 0), (.getfield 12, 7, 167), (.bipush 3, 0, 0), (.if_icmp .ne 32, 0, 0), (.bipush 16, 1, 0), (.goto 33, 0, 0), (.bipush 8, 1, 0), (.if_icmp .ne 38, 0, 0), (.iload 0, 1, 0), (.bipush 3, 0, 0), (.invokevirtual 33, 2, 437), (.ireturn, 1, 0), (.iload 0, 1, 0), (.getfield 12, 7, 167), (.bipush 3, 0, 0), (.if_icmp .ne 45, 0, 0), (.iload 0, 1, 0), (.invokevirtual 47, 1, 559), (.goto 47, 0, 0), (.iload 0, 1, 0), (.invokevirtual 48, 1, 565), (.istore 1, 0, 0), (.iload 0, 1, 0), (.dup, 0, 0), (.getfield 15, 7, 272), (.iload 1, 0, 0), (.ifCond .eq 55, 0, 0), (.bipush 1, 0, 0), (.goto 56, 0, 0), (.bipush 0, 0, 0), (.iadd, 0, 0), (.putfield 15, 7, 544), (.goto 5, 0, 0), (.iload 1, 0, 0), (.ireturn, 1, 0)]
/-- LentHandsModel.putsLaw(I)I -/
def am_c50 : List am_I := [(.iload 0, 1, 0), (.checkcast 0, 7, 7), (.bipush 288, 2, 0), (.iload 1, 0, 0), (.iadd, 0, 0), (.iload 0, 1, 0), (.getfield 13, 7, 259), (.iastore, 0, 0), (.bipush 0, 0, 0), (.istore 2, 0, 0), (.iload 2, 0, 0), (.iload 0, 1, 0), (.getfield 13, 7, 259), (.if_icmp .ge 86, 0, 0), (.iload 0, 1, 0), (.checkcast 0, 7, 7), (.bipush 804, 2, 0), (.bipush 16, 1, 0), (.iload 1, 0, 0), (.imul, 0, 0), (.iadd, 0, 0), (.iload 2, 0, 0), (.iadd, 0, 0), (.iload 0, 1, 0), (.checkcast 6, 7, 22), (.bipush 4, 0, 0), (.iload 2, 0, 0), (.imul, 0, 0), (.iaload, 0, 0), (.iastore, 0, 0), (.iload 0, 1, 0), (.checkcast 0, 7, 7), (.bipush 852, 2, 0), (.bipush 16, 1, 0), (.iload 1, 0, 0), (.imul, 0, 0), (.iadd, 0, 0), (.iload 2, 0, 0), (.iadd, 0, 0), (.iload 0, 1, 0), (.checkcast 6, 7, 22), (.bipush 4, 0, 0), (.iload 2, 0, 0), (.imul, 0, 0), (.bipush 1, 0, 0), (.iadd, 0, 0), (.iaload, 0, 0), (.iastore, 0, 0), (.iload 0, 1, 0), (.checkcast 0, 7, 7), (.bipush 900, 2, 0), (.bipush 16, 1, 0), (.iload 1, 0, 0), (.imul, 0, 0), (.iadd, 0, 0), (.iload 2, 0, 0), (.iadd, 0, 0), (.iload 0, 1, 0), (.checkcast 6, 7, 22), (.bipush 4, 0, 0), (.iload 2, 0, 0), (.imul, 0, 0), (.bipush 2, 0, 0), (.iadd, 0, 0), (.iaload, 0, 0), (.iastore, 0, 0), (.iload 0, 1, 0), (.checkcast 0, 7, 7), (.bipush 948, 2, 0), (.bipush 16, 1, 0), (.iload 1, 0, 0), (.imul, 0, 0), (.iadd, 0, 0), (.iload 2, 0, 0), (.iadd, 0, 0), (.iload 0, 1, 0), (.checkcast 6, 7, 22), (.bipush 4, 0, 0), (.iload 2, 0, 0), (.imul, 0, 0), (.bipush 3, 0, 0), (.iadd, 0, 0), (.iaload, 0, 0), (.iastore, 0, 0), (.iinc 2 1, 0, 0), (.goto 10, 0, 0), (.bipush 0, 0, 0), (.istore 2, 0, 0), (.iload 2, 0, 0), (.bipush 2, 0, 0), (.iload 0, 1, 0), (.getfield 14, 7, 224), (.imul, 0, 0), (.if_icmp .ge 110, 0, 0), (.iload 0, 1, 0), (.checkcast 0, 7, 7), (.bipush 996, 2, 0), (.bipush 820, 2, 0), (.iload 1, 0, 0), (.imul, 0, 0), (.iadd, 0, 0), (.iload 2, 0, 0), (.iadd, 0, 0), (.iload 0, 1, 0), (.checkcast 7, 7, 25), (.iload 2, 0, 0), (.iaload, 0, 0), (.iastore, 0, 0), (.iinc 2 1, 0, 0), (.goto 88, 0, 0), (.iload 0, 1, 0), (.getfield 13, 7, 259), (.ireturn, 0, 0)]
/-- LentHandsModel.putsRows()I -/
def am_c51 : List am_I := [(.iload 0, 1, 0), (.getfield 12, 7, 167), (.bipush 3, 0, 0), (.if_icmp .ne 6, 0, 0), (.bipush 1, 0, 0), (.goto 7, 0, 0), (.bipush 0, 0, 0), (.istore 1, 0, 0), (.iload 0, 1, 0), (.checkcast 0, 7, 7), (.iload 1, 0, 0), (.ifCond .eq 14, 0, 0), (.bipush 286, 2, 0), (.goto 15, 0, 0), (.bipush 287, 2, 0), (.iload 0, 1, 0), (.getfield 15, 7, 272), (.iastore, 0, 0), (.bipush 0, 0, 0), (.istore 2, 0, 0), (.iload 2, 0, 0), (.iload 1, 0, 0), (.ifCond .eq 25, 0, 0), (.bipush 5, 0, 0), (.goto 26, 0, 0), (.bipush 4, 0, 0), (.iload 0, 1, 0), (.getfield 15, 7, 272), (.imul, 0, 0), (.if_icmp .ge 46, 0, 0), (.iload 0, 1, 0), (.checkcast 0, 7, 7), (.iload 1, 0, 0), (.ifCond .eq 36, 0, 0), (.bipush 292, 2, 0), (.goto 37, 0, 0), (.bipush 372, 2, 0), (.iload 2, 0, 0), (.iadd, 0, 0), (.iload 0, 1, 0), (.checkcast 8, 7, 28), (.iload 2, 0, 0), (.iaload, 0, 0), (.iastore, 0, 0), (.iinc 2 1, 0, 0), (.goto 20, 0, 0), (.iload 1, 0, 0), (.ifCond .eq 50, 0, 0), (.iload 0, 1, 0), (.invokevirtual 14, 1, 122), (.iload 0, 1, 0), (.getfield 15, 7, 272), (.ireturn, 0, 0)]
/-- LentHandsModel.text(I)I -/
def am_c52 : List am_I := [(.iload 0, 1, 0), (.bipush 0, 0, 0), (.putfield 23, 7, 570), (.iload 0, 1, 0), (.bipush (-1), 0, 0), (.putfield 25, 7, 80), (.iload 1, 0, 0), (.bipush 0, 0, 0), (.bipush 4, 0, 0), (.invokevirtual 0, 3, 101), (.ifCond .ne 16, 0, 0), (.iload 0, 1, 0), (.bipush 0, 0, 0), (.putfield 16, 7, 160), (.bipush (-1), 0, 0), (.ireturn, 0, 0), (.iload 0, 1, 0), (.bipush 0, 0, 0), (.putfield 21, 7, 424), (.iload 0, 1, 0), (.bipush 0, 0, 0), (.putfield 17, 7, 166), (.iload 0, 1, 0), (.iload 1, 0, 0), (.putfield 12, 7, 334), (.iload 0, 1, 0), (.invokevirtual 32, 1, 442), (.iload 1, 0, 0), (.bipush 3, 0, 0), (.if_icmp .ge 33, 0, 0), (.iload 0, 1, 0), (.invokevirtual 44, 1, 577), (.goto 35, 0, 0), (.iload 0, 1, 0), (.invokevirtual 49, 1, 583), (.istore 2, 0, 0), (.iload 0, 1, 0), (.bipush 0, 0, 0), (.putfield 16, 7, 160), (.iload 2, 0, 0), (.ifCond .eq 51, 0, 0), (.iload 1, 0, 0), (.bipush 3, 0, 0), (.if_icmp .ge 48, 0, 0), (.iload 0, 1, 0), (.iload 1, 0, 0), (.invokevirtual 50, 2, 589), (.goto 50, 0, 0), (.iload 0, 1, 0), (.invokevirtual 51, 1, 595), (.ireturn, 0, 0), (.iload 0, 1, 0), (.iload 0, 1, 0), (.getfield 21, 7, 212), (.putfield 23, 7, 570), (.iload 0, 1, 0), (.iload 0, 1, 0), (.getfield 22, 7, 215), (.putfield 25, 7, 80), (.bipush (-1), 0, 0), (.ireturn, 0, 0)]
/-- LentHandsModel.fault(I)I -/
def am_c53 : List am_I := [(.iload 1, 0, 0), (.ifCond .ne 5, 0, 0), (.iload 0, 1, 0), (.getfield 23, 7, 285), (.goto 12, 0, 0), (.iload 1, 0, 0), (.bipush 1, 0, 0), (.if_icmp .ne 11, 0, 0), (.iload 0, 1, 0), (.getfield 25, 7, 40), (.goto 12, 0, 0), (.bipush (-1), 0, 0), (.ireturn, 0, 0)]
/-- LentHandsModel.both(III)I -/
def am_c54 : List am_I := [(.iload 0, 0, 0), (.tableswitch 39 23 31 #[2, 6, 10, 39, 14, 21, 28, 39, 35], 51, 0), (.iload 1, 0, 0), (.iload 2, 0, 0), (.iadd, 0, 0), (.ireturn, 0, 0), (.iload 1, 0, 0), (.iload 2, 0, 0), (.isub, 0, 0), (.ireturn, 0, 0), (.iload 1, 0, 0), (.iload 2, 0, 0), (.imul, 0, 0), (.ireturn, 0, 0), (.iload 1, 0, 0), (.iload 2, 0, 0), (.if_icmp .ge 19, 0, 0), (.bipush 1, 0, 0), (.goto 20, 0, 0), (.bipush 0, 0, 0), (.ireturn, 0, 0), (.iload 1, 0, 0), (.iload 2, 0, 0), (.if_icmp .ne 26, 0, 0), (.bipush 1, 0, 0), (.goto 27, 0, 0), (.bipush 0, 0, 0), (.ireturn, 0, 0), (.iload 1, 0, 0), (.iload 2, 0, 0), (.if_icmp .le 33, 0, 0), (.bipush 1, 0, 0), (.goto 34, 0, 0), (.bipush 0, 0, 0), (.ireturn, 0, 0), (.iload 1, 0, 0), (.iload 2, 0, 0), (.iand, 0, 0), (.ireturn, 0, 0), (.iload 1, 0, 0), (.iload 2, 0, 0), (.ior, 0, 0), (.ireturn, 0, 0)]
/-- LentHandsModel.comesTo(III)I -/
def am_c55 : List am_I := [(.bipush 0, 0, 0), (.istore 4, 0, 1), (.iload 2, 0, 0), (.istore 5, 0, 1), (.iload 5, 0, 1), (.iload 3, 0, 0), (.if_icmp .ge 105, 0, 0), (.iload 0, 1, 0), (.checkcast 0, 7, 7), (.bipush 996, 2, 0), (.bipush 820, 2, 0), (.iload 1, 0, 0), (.imul, 0, 0), (.iadd, 0, 0), (.bipush 2, 0, 0), (.iload 5, 0, 1), (.imul, 0, 0), (.iadd, 0, 0), (.iaload, 0, 0), (.istore 6, 0, 1), (.iload 0, 1, 0), (.checkcast 0, 7, 7), (.bipush 996, 2, 0), (.bipush 820, 2, 0), (.iload 1, 0, 0), (.imul, 0, 0), (.iadd, 0, 0), (.bipush 2, 0, 0), (.iload 5, 0, 1), (.imul, 0, 0), (.iadd, 0, 0), (.bipush 1, 0, 0), (.iadd, 0, 0), (.iaload, 0, 0), (.istore 7, 0, 1), (.iload 6, 0, 1), (.bipush 23, 1, 0), (.if_icmp .ge 52, 0, 0), (.iload 0, 1, 0), (.checkcast 10, 7, 34), (.iload 4, 0, 1), (.iload 6, 0, 1), (.ifCond .ne 45, 0, 0), (.iload 7, 0, 1), (.goto 49, 0, 0), (.iload 0, 1, 0), (.checkcast 11, 7, 37), (.iload 6, 0, 1), (.iaload, 0, 0), (.iastore, 0, 0), (.iinc 4 1, 0, 0), (.goto 103, 0, 0), (.iload 6, 0, 1), (.bipush 26, 1, 0), (.if_icmp .ne 66, 0, 0), (.iload 0, 1, 0), (.checkcast 10, 7, 34), (.iload 4, 0, 1), (.bipush 1, 0, 0), (.isub, 0, 0), (.dup2, 0, 0), (.iaload, 0, 0), (.iload 7, 0, 1), (.idiv, 0, 0), (.iastore, 0, 0), (.goto 103, 0, 0), (.iload 6, 0, 1), (.bipush 30, 1, 0), (.if_icmp .ne 84, 0, 0), (.iload 0, 1, 0), (.checkcast 10, 7, 34), (.iload 4, 0, 1), (.bipush 1, 0, 0), (.isub, 0, 0), (.bipush 1, 0, 0), (.iload 0, 1, 0), (.checkcast 10, 7, 34), (.iload 4, 0, 1), (.bipush 1, 0, 0), (.isub, 0, 0), (.iaload, 0, 0), (.isub, 0, 0), (.iastore, 0, 0), (.goto 103, 0, 0), (.iinc 4 (-1), 0, 0), (.iload 0, 1, 0), (.checkcast 10, 7, 34), (.iload 4, 0, 1), (.bipush 1, 0, 0), (.isub, 0, 0), (.iload 6, 0, 1), (.iload 0, 1, 0), (.checkcast 10, 7, 34), (.iload 4, 0, 1), (.bipush 1, 0, 0), (.isub, 0, 0), (.iaload, 0, 0), (.iload 0, 1, 0), (.checkcast 10, 7, 34), (.iload 4, 0, 1), (.iaload, 0, 0), (.invokevirtual 54, 3, 601), (.iastore, 0, 0), (.iinc 5 1, 0, 0), (.goto 4, 0, 0), (.iload 0, 1, 0), (.checkcast 10, 7, 34), (.bipush 0, 0, 0), (.iaload, 0, 0), (.ireturn, 0, 0)]
/-- LentHandsModel.holds(II)Z -/
def am_c56 : List am_I := [(.iload 0, 1, 0), (.checkcast 0, 7, 7), (.bipush 900, 2, 0), (.bipush 16, 1, 0), (.iload 1, 0, 0), (.imul, 0, 0), (.iadd, 0, 0), (.iload 2, 0, 0), (.iadd, 0, 0), (.iaload, 0, 0), (.iload 0, 1, 0), (.checkcast 0, 7, 7), (.bipush 852, 2, 0), (.bipush 16, 1, 0), (.iload 1, 0, 0), (.imul, 0, 0), (.iadd, 0, 0), (.iload 2, 0, 0), (.iadd, 0, 0), (.iaload, 0, 0), (.if_icmp .eq 46, 0, 0), (.iload 0, 1, 0), (.iload 1, 0, 0), (.iload 0, 1, 0), (.checkcast 0, 7, 7), (.bipush 852, 2, 0), (.bipush 16, 1, 0), (.iload 1, 0, 0), (.imul, 0, 0), (.iadd, 0, 0), (.iload 2, 0, 0), (.iadd, 0, 0), (.iaload, 0, 0), (.iload 0, 1, 0), (.checkcast 0, 7, 7), (.bipush 900, 2, 0), (.bipush 16, 1, 0), (.iload 1, 0, 0), (.imul, 0, 0), (.iadd, 0, 0), (.iload 2, 0, 0), (.iadd, 0, 0), (.iaload, 0, 0), (.invokevirtual 55, 4, 607), (.bipush 1, 0, 0), (.if_icmp .ne 48, 0, 0), (.bipush 1, 0, 0), (.goto 49, 0, 0), (.bipush 0, 0, 0), (.ireturn, 1, 0)]
/-- LentHandsModel.saysWord(II)I -/
def am_c57 : List am_I := [(.bipush 0, 0, 0), (.istore 3, 0, 0), (.iload 3, 0, 0), (.iload 0, 1, 0), (.checkcast 0, 7, 7), (.bipush 288, 2, 0), (.iload 1, 0, 0), (.iadd, 0, 0), (.iaload, 0, 0), (.if_icmp .ge 28, 0, 0), (.iload 0, 1, 0), (.iload 1, 0, 0), (.iload 3, 0, 0), (.invokevirtual 56, 3, 613), (.ifCond .eq 26, 0, 0), (.iload 0, 1, 0), (.checkcast 0, 7, 7), (.bipush 948, 2, 0), (.bipush 16, 1, 0), (.iload 1, 0, 0), (.imul, 0, 0), (.iadd, 0, 0), (.iload 3, 0, 0), (.iadd, 0, 0), (.iaload, 0, 0), (.ireturn, 0, 0), (.iinc 3 1, 0, 0), (.goto 2, 0, 0), (.iload 2, 0, 0), (.ireturn, 0, 0)]
/-- LentHandsModel.saysOf(II)I -/
def am_c58 : List am_I := [(.bipush 0, 0, 0), (.istore 3, 0, 0), (.iload 3, 0, 0), (.iload 0, 1, 0), (.checkcast 0, 7, 7), (.bipush 289, 2, 0), (.iaload, 0, 0), (.if_icmp .ge 43, 0, 0), (.iload 0, 1, 0), (.checkcast 0, 7, 7), (.bipush 964, 2, 0), (.iload 3, 0, 0), (.iadd, 0, 0), (.iaload, 0, 0), (.iload 1, 0, 0), (.if_icmp .ne 41, 0, 0), (.iload 0, 1, 0), (.bipush 1, 0, 0), (.iload 3, 0, 0), (.invokevirtual 56, 3, 613), (.ifCond .eq 41, 0, 0), (.bipush 0, 0, 0), (.iload 2, 0, 0), (.iload 0, 1, 0), (.bipush 1, 0, 0), (.iload 0, 1, 0), (.checkcast 0, 7, 7), (.bipush 820, 2, 0), (.iload 3, 0, 0), (.iadd, 0, 0), (.iaload, 0, 0), (.iload 0, 1, 0), (.checkcast 0, 7, 7), (.bipush 868, 2, 0), (.iload 3, 0, 0), (.iadd, 0, 0), (.iaload, 0, 0), (.invokevirtual 55, 4, 607), (.invokevirtual 1, 2, 619), (.invokevirtual 2, 2, 625), (.ireturn, 0, 0), (.iinc 3 1, 0, 0), (.goto 2, 0, 0), (.bipush 0, 0, 0), (.ireturn, 0, 0)]
/-- LentHandsModel.bestOf(I)I -/
def am_c59 : List am_I := [(.bipush 0, 0, 0), (.istore 2, 0, 0), (.bipush 0, 0, 0), (.istore 3, 0, 0), (.iload 3, 0, 0), (.bipush 4, 0, 0), (.if_icmp .ge 18, 0, 0), (.iload 2, 0, 0), (.iload 0, 1, 0), (.iload 1, 0, 0), (.bipush 0, 0, 0), (.iload 3, 0, 0), (.iadd, 0, 0), (.invokevirtual 5, 3, 109), (.invokevirtual 2, 2, 625), (.istore 2, 0, 0), (.iinc 3 1, 0, 0), (.goto 4, 0, 0), (.iload 2, 0, 0), (.ireturn, 0, 0)]
/-- LentHandsModel.loansOf(I)I -/
def am_c60 : List am_I := [(.bipush 0, 0, 0), (.istore 2, 0, 0), (.bipush 0, 0, 0), (.istore 3, 0, 0), (.iload 3, 0, 0), (.iload 0, 1, 0), (.checkcast 0, 7, 7), (.bipush 1, 0, 0), (.iaload, 0, 0), (.if_icmp .ge 24, 0, 0), (.iload 2, 0, 0), (.iload 0, 1, 0), (.iload 3, 0, 0), (.bipush 0, 0, 0), (.invokevirtual 7, 3, 631), (.iload 1, 0, 0), (.if_icmp .ne 19, 0, 0), (.bipush 1, 0, 0), (.goto 20, 0, 0), (.bipush 0, 0, 0), (.iadd, 0, 0), (.istore 2, 0, 0), (.iinc 3 1, 0, 0), (.goto 4, 0, 0), (.iload 2, 0, 0), (.ireturn, 0, 0)]
/-- LentHandsModel.latestOf(I)I -/
def am_c61 : List am_I := [(.iload 0, 1, 0), (.checkcast 0, 7, 7), (.bipush 1, 0, 0), (.iaload, 0, 0), (.bipush 1, 0, 0), (.isub, 0, 0), (.istore 2, 0, 0), (.iload 2, 0, 0), (.ifCond .lt 19, 0, 0), (.iload 0, 1, 0), (.iload 2, 0, 0), (.bipush 0, 0, 0), (.invokevirtual 7, 3, 631), (.iload 1, 0, 0), (.if_icmp .ne 17, 0, 0), (.iload 2, 0, 0), (.ireturn, 0, 0), (.iinc 2 (-1), 0, 0), (.goto 7, 0, 0), (.bipush (-1), 0, 0), (.ireturn, 0, 0)]
/-- LentHandsModel.handFacts(II)V -/
def am_c62 : List am_I := [(.iload 0, 1, 0), (.checkcast 11, 7, 37), (.bipush 1, 0, 0), (.bipush 1, 0, 0), (.iload 1, 0, 0), (.bipush 2, 0, 0), (.irem, 0, 0), (.isub, 0, 0), (.iastore, 0, 0), (.iload 0, 1, 0), (.checkcast 11, 7, 37), (.bipush 2, 0, 0), (.iload 0, 1, 0), (.iload 1, 0, 0), (.invokevirtual 59, 2, 637), (.iastore, 0, 0), (.iload 0, 1, 0), (.checkcast 11, 7, 37), (.bipush 3, 0, 0), (.iload 0, 1, 0), (.iload 1, 0, 0), (.bipush 4, 0, 0), (.invokevirtual 5, 3, 109), (.iastore, 0, 0), (.iload 0, 1, 0), (.checkcast 11, 7, 37), (.bipush 4, 0, 0), (.iload 0, 1, 0), (.iload 1, 0, 0), (.bipush 5, 0, 0), (.invokevirtual 5, 3, 109), (.iastore, 0, 0), (.iload 0, 1, 0), (.checkcast 11, 7, 37), (.bipush 12, 1, 0), (.iload 0, 1, 0), (.iload 1, 0, 0), (.bipush 7, 1, 0), (.invokevirtual 5, 3, 109), (.iastore, 0, 0), (.iload 0, 1, 0), (.checkcast 11, 7, 37), (.bipush 9, 1, 0), (.iload 1, 0, 0), (.invokevirtual 13, 1, 643), (.iload 2, 0, 0), (.if_icmp .ne 49, 0, 0), (.bipush 1, 0, 0), (.goto 50, 0, 0), (.bipush 0, 0, 0), (.iastore, 0, 0), (.iload 0, 1, 0), (.checkcast 11, 7, 37), (.bipush 8, 1, 0), (.iload 0, 1, 0), (.checkcast 0, 7, 7), (.bipush 277, 2, 0), (.iload 2, 0, 0), (.iadd, 0, 0), (.iaload, 0, 0), (.iastore, 0, 0), (.return_, 0, 0)]
/-- LentHandsModel.mayBe(IIII)Z -/
def am_c63 : List am_I := [(.iload 0, 1, 0), (.iload 1, 0, 0), (.iload 2, 0, 0), (.invokevirtual 62, 3, 648), (.iload 0, 1, 0), (.checkcast 11, 7, 37), (.bipush 5, 0, 0), (.iload 3, 0, 0), (.iastore, 0, 0), (.iload 0, 1, 0), (.checkcast 11, 7, 37), (.bipush 6, 1, 0), (.iload 4, 0, 1), (.iastore, 0, 0), (.iload 0, 1, 0), (.checkcast 11, 7, 37), (.bipush 7, 1, 0), (.iload 0, 1, 0), (.iload 2, 0, 0), (.bipush 0, 0, 0), (.invokevirtual 3, 3, 655), (.iastore, 0, 0), (.iload 0, 1, 0), (.checkcast 11, 7, 37), (.bipush 10, 1, 0), (.iload 0, 1, 0), (.iload 1, 0, 0), (.invokevirtual 60, 2, 661), (.iastore, 0, 0), (.iload 0, 1, 0), (.bipush 0, 0, 0), (.bipush 20, 1, 0), (.invokevirtual 57, 3, 667), (.bipush 20, 1, 0), (.if_icmp .ne 37, 0, 0), (.bipush 1, 0, 0), (.goto 38, 0, 0), (.bipush 0, 0, 0), (.ireturn, 1, 0)]
/-- LentHandsModel.keeps()V -/
def am_c64 : List am_I := [(.iload 0, 1, 0), (.getfield 4, 7, 58), (.bipush 6, 1, 0), (.if_icmp .ne 27, 0, 0), (.bipush 0, 0, 0), (.istore 1, 0, 0), (.iload 1, 0, 0), (.bipush 1380, 2, 0), (.if_icmp .ge 21, 0, 0), (.iload 0, 1, 0), (.checkcast 2, 7, 16), (.iload 1, 0, 0), (.iload 0, 1, 0), (.checkcast 2, 7, 16), (.iload 1, 0, 0), (.bipush 276, 2, 0), (.iadd, 0, 0), (.iaload, 0, 0), (.iastore, 0, 0), (.iinc 1 1, 0, 0), (.goto 6, 0, 0), (.iload 0, 1, 0), (.dup, 0, 0), (.getfield 4, 7, 58), (.bipush 1, 0, 0), (.isub, 0, 0), (.putfield 4, 7, 116), (.bipush 0, 0, 0), (.istore 1, 0, 0), (.iload 1, 0, 0), (.bipush 276, 2, 0), (.if_icmp .ge 47, 0, 0), (.iload 0, 1, 0), (.checkcast 2, 7, 16), (.bipush 276, 2, 0), (.iload 0, 1, 0), (.getfield 4, 7, 58), (.imul, 0, 0), (.iload 1, 0, 0), (.iadd, 0, 0), (.iload 0, 1, 0), (.checkcast 0, 7, 7), (.iload 1, 0, 0), (.iaload, 0, 0), (.iastore, 0, 0), (.iinc 1 1, 0, 0), (.goto 29, 0, 0), (.iload 0, 1, 0), (.dup, 0, 0), (.getfield 4, 7, 58), (.bipush 1, 0, 0), (.iadd, 0, 0), (.putfield 4, 7, 116), (.return_, 0, 0)]
/-- LentHandsModel.undo()Z -/
def am_c65 : List am_I := [(.iload 0, 1, 0), (.getfield 4, 7, 58), (.ifCond .ne 5, 0, 0), (.bipush 0, 0, 0), (.ireturn, 1, 0), (.iload 0, 1, 0), (.dup, 0, 0), (.getfield 4, 7, 58), (.bipush 1, 0, 0), (.isub, 0, 0), (.putfield 4, 7, 116), (.bipush 0, 0, 0), (.istore 1, 0, 0), (.iload 1, 0, 0), (.bipush 276, 2, 0), (.if_icmp .ge 31, 0, 0), (.iload 0, 1, 0), (.checkcast 0, 7, 7), (.iload 1, 0, 0), (.iload 0, 1, 0), (.checkcast 2, 7, 16), (.bipush 276, 2, 0), (.iload 0, 1, 0), (.getfield 4, 7, 58), (.imul, 0, 0), (.iload 1, 0, 0), (.iadd, 0, 0), (.iaload, 0, 0), (.iastore, 0, 0), (.iinc 1 1, 0, 0), (.goto 13, 0, 0), (.bipush 1, 0, 0), (.ireturn, 1, 0)]
/-- LentHandsModel.goes(II)V -/
def am_c66 : List am_I := [(.iload 0, 1, 0), (.iload 1, 0, 0), (.bipush 8, 1, 0), (.iload 2, 0, 0), (.invokevirtual 6, 4, 140), (.iload 0, 1, 0), (.iload 1, 0, 0), (.bipush 7, 1, 0), (.bipush 0, 0, 0), (.invokevirtual 6, 4, 140), (.return_, 0, 0)]
/-- LentHandsModel.isLoan(II)Z -/
def am_c67 : List am_I := [(.iload 0, 0, 0), (.bipush 1, 0, 0), (.bipush 99, 1, 0), (.invokevirtual 0, 3, 101), (.ifCond .eq 12, 0, 0), (.iload 1, 0, 0), (.bipush 0, 0, 0), (.bipush 99, 1, 0), (.invokevirtual 0, 3, 101), (.ifCond .eq 12, 0, 0), (.bipush 1, 0, 0), (.goto 13, 0, 0), (.bipush 0, 0, 0), (.ireturn, 1, 0)]
/-- LentHandsModel.canLend(IIII)Z -/
def am_c68 : List am_I := [(.iload 0, 1, 0), (.iload 1, 0, 0), (.invokevirtual 9, 2, 155), (.ifCond .eq 30, 0, 0), (.iload 0, 1, 0), (.iload 2, 0, 0), (.invokevirtual 8, 2, 147), (.ifCond .eq 30, 0, 0), (.iload 3, 0, 0), (.iload 4, 0, 1), (.invokevirtual 67, 2, 673), (.ifCond .eq 30, 0, 0), (.iload 0, 1, 0), (.checkcast 0, 7, 7), (.bipush 1, 0, 0), (.iaload, 0, 0), (.bipush 16, 1, 0), (.if_icmp .eq 30, 0, 0), (.iload 0, 1, 0), (.iload 1, 0, 0), (.bipush 8, 1, 0), (.invokevirtual 5, 3, 109), (.bipush (-1), 0, 0), (.if_icmp .eq 30, 0, 0), (.iload 0, 1, 0), (.iload 1, 0, 0), (.bipush 8, 1, 0), (.invokevirtual 5, 3, 109), (.iload 2, 0, 0), (.if_icmp .ne 32, 0, 0), (.bipush 0, 0, 0), (.ireturn, 1, 0), (.iload 0, 1, 0), (.iload 1, 0, 0), (.invokevirtual 61, 2, 679), (.istore 5, 0, 1), (.iload 5, 0, 1), (.bipush (-1), 0, 0), (.if_icmp .eq 52, 0, 0), (.iload 0, 1, 0), (.checkcast 0, 7, 7), (.bipush 0, 0, 0), (.iaload, 0, 0), (.iload 3, 0, 0), (.iadd, 0, 0), (.iload 0, 1, 0), (.iload 5, 0, 1), (.bipush 3, 0, 0), (.invokevirtual 7, 3, 631), (.if_icmp .le 52, 0, 0), (.bipush 0, 0, 0), (.ireturn, 1, 0), (.iload 0, 1, 0), (.iload 2, 0, 0), (.bipush 0, 0, 0), (.invokevirtual 3, 3, 655), (.iload 3, 0, 0), (.iload 4, 0, 1), (.imul, 0, 0), (.if_icmp .lt 69, 0, 0), (.iload 0, 1, 0), (.iload 1, 0, 0), (.iload 2, 0, 0), (.iload 3, 0, 0), (.iload 4, 0, 1), (.invokevirtual 63, 5, 685), (.ifCond .eq 69, 0, 0), (.bipush 1, 0, 0), (.goto 70, 0, 0), (.bipush 0, 0, 0), (.ireturn, 1, 0)]
/-- LentHandsModel.earns(II)V -/
def am_c69 : List am_I := [(.iload 0, 1, 0), (.iload 1, 0, 0), (.bipush 0, 0, 0), (.invokevirtual 3, 3, 655), (.iload 2, 0, 0), (.iadd, 0, 0), (.istore 3, 0, 0), (.iload 0, 1, 0), (.iload 1, 0, 0), (.bipush 0, 0, 0), (.bipush 9999, 2, 0), (.iload 3, 0, 0), (.invokevirtual 1, 2, 619), (.invokevirtual 4, 4, 132), (.return_, 0, 0)]
/-- LentHandsModel.lends(IIII)I -/
def am_c70 : List am_I := [(.iload 0, 1, 0), (.iload 1, 0, 0), (.bipush 8, 1, 0), (.invokevirtual 5, 3, 109), (.istore 5, 0, 1), (.bipush 196, 2, 0), (.bipush 5, 0, 0), (.iload 0, 1, 0), (.checkcast 0, 7, 7), (.bipush 1, 0, 0), (.iaload, 0, 0), (.imul, 0, 0), (.iadd, 0, 0), (.istore 6, 0, 1), (.iload 0, 1, 0), (.checkcast 0, 7, 7), (.iload 6, 0, 1), (.bipush 0, 0, 0), (.iadd, 0, 0), (.iload 1, 0, 0), (.iastore, 0, 0), (.iload 0, 1, 0), (.checkcast 0, 7, 7), (.iload 6, 0, 1), (.bipush 1, 0, 0), (.iadd, 0, 0), (.iload 5, 0, 1), (.iastore, 0, 0), (.iload 0, 1, 0), (.checkcast 0, 7, 7), (.iload 6, 0, 1), (.bipush 2, 0, 0), (.iadd, 0, 0), (.iload 2, 0, 0), (.iastore, 0, 0), (.iload 0, 1, 0), (.checkcast 0, 7, 7), (.iload 6, 0, 1), (.bipush 3, 0, 0), (.iadd, 0, 0), (.iload 0, 1, 0), (.checkcast 0, 7, 7), (.bipush 0, 0, 0), (.iaload, 0, 0), (.iload 3, 0, 0), (.iadd, 0, 0), (.iastore, 0, 0), (.iload 0, 1, 0), (.checkcast 0, 7, 7), (.iload 6, 0, 1), (.bipush 4, 0, 0), (.iadd, 0, 0), (.iload 4, 0, 1), (.iastore, 0, 0), (.iload 0, 1, 0), (.checkcast 0, 7, 7), (.bipush 1, 0, 0), (.dup2, 0, 0), (.iaload, 0, 0), (.bipush 1, 0, 0), (.iadd, 0, 0), (.iastore, 0, 0), (.iload 0, 1, 0), (.iload 2, 0, 0), (.iload 3, 0, 0), (.ineg, 0, 0), (.iload 4, 0, 1), (.imul, 0, 0), (.invokevirtual 69, 3, 690), (.iload 0, 1, 0), (.iload 5, 0, 1), (.iload 3, 0, 0), (.iload 4, 0, 1), (.imul, 0, 0), (.invokevirtual 69, 3, 690), (.iload 0, 1, 0), (.iload 2, 0, 0), (.iload 1, 0, 0), (.bipush 2, 0, 0), (.irem, 0, 0), (.invokevirtual 12, 3, 697), (.istore 7, 0, 1), (.iload 7, 0, 1), (.bipush (-1), 0, 0), (.if_icmp .eq 89, 0, 0), (.iload 0, 1, 0), (.iload 7, 0, 1), (.bipush (-1), 0, 0), (.invokevirtual 66, 3, 702), (.iload 0, 1, 0), (.iload 1, 0, 0), (.iload 2, 0, 0), (.invokevirtual 66, 3, 702), (.iload 0, 1, 0), (.checkcast 0, 7, 7), (.bipush 0, 0, 0), (.iaload, 0, 0), (.iload 3, 0, 0), (.iadd, 0, 0), (.ireturn, 0, 0)]
/-- LentHandsModel.lend(IIII)I -/
def am_c71 : List am_I := [(.iload 0, 1, 0), (.iload 1, 0, 0), (.iload 2, 0, 0), (.iload 3, 0, 0), (.iload 4, 0, 1), (.invokevirtual 68, 5, 709), (.ifCond .ne 9, 0, 0), (.bipush (-1), 0, 0), (.ireturn, 0, 0), (.iload 0, 1, 0), (.invokevirtual 64, 1, 714), (.iload 0, 1, 0), (.iload 1, 0, 0), (.iload 2, 0, 0), (.iload 3, 0, 0), (.iload 4, 0, 1), (.invokevirtual 70, 5, 721), (.ireturn, 0, 0)]
/-- LentHandsModel.leave(II)Z -/
def am_c72 : List am_I := [(.iload 0, 1, 0), (.iload 1, 0, 0), (.invokevirtual 8, 2, 147), (.ifCond .eq 17, 0, 0), (.iload 2, 0, 0), (.invokevirtual 11, 1, 729), (.ifCond .eq 17, 0, 0), (.iload 0, 1, 0), (.iload 1, 0, 0), (.iload 2, 0, 0), (.invokevirtual 12, 3, 697), (.bipush 2, 0, 0), (.iload 1, 0, 0), (.imul, 0, 0), (.iload 2, 0, 0), (.iadd, 0, 0), (.if_icmp .eq 19, 0, 0), (.bipush 0, 0, 0), (.ireturn, 1, 0), (.iload 0, 1, 0), (.invokevirtual 64, 1, 714), (.iload 0, 1, 0), (.bipush 2, 0, 0), (.iload 1, 0, 0), (.imul, 0, 0), (.iload 2, 0, 0), (.iadd, 0, 0), (.bipush (-1), 0, 0), (.invokevirtual 66, 3, 702), (.bipush 1, 0, 0), (.ireturn, 1, 0)]
/-- LentHandsModel.fetch(II)Z -/
def am_c73 : List am_I := [(.iload 0, 1, 0), (.iload 1, 0, 0), (.invokevirtual 8, 2, 147), (.ifCond .eq 23, 0, 0), (.iload 2, 0, 0), (.invokevirtual 11, 1, 729), (.ifCond .eq 23, 0, 0), (.iload 0, 1, 0), (.iload 1, 0, 0), (.iload 2, 0, 0), (.invokevirtual 12, 3, 697), (.bipush (-1), 0, 0), (.if_icmp .ne 23, 0, 0), (.iload 0, 1, 0), (.bipush 2, 0, 0), (.iload 1, 0, 0), (.imul, 0, 0), (.iload 2, 0, 0), (.iadd, 0, 0), (.bipush 8, 1, 0), (.invokevirtual 5, 3, 109), (.bipush (-1), 0, 0), (.if_icmp .eq 25, 0, 0), (.bipush 0, 0, 0), (.ireturn, 1, 0), (.iload 0, 1, 0), (.invokevirtual 64, 1, 714), (.iload 0, 1, 0), (.bipush 2, 0, 0), (.iload 1, 0, 0), (.imul, 0, 0), (.iload 2, 0, 0), (.iadd, 0, 0), (.iload 1, 0, 0), (.invokevirtual 66, 3, 702), (.bipush 1, 0, 0), (.ireturn, 1, 0)]
/-- LentHandsModel.task(II)Z -/
def am_c74 : List am_I := [(.iload 0, 1, 0), (.iload 1, 0, 0), (.invokevirtual 8, 2, 147), (.ifCond .eq 10, 0, 0), (.iload 2, 0, 0), (.bipush (-1), 0, 0), (.if_icmp .eq 12, 0, 0), (.iload 2, 0, 0), (.invokevirtual 10, 1, 735), (.ifCond .ne 12, 0, 0), (.bipush 0, 0, 0), (.ireturn, 1, 0), (.iload 0, 1, 0), (.invokevirtual 64, 1, 714), (.iload 0, 1, 0), (.iload 1, 0, 0), (.bipush 1, 0, 0), (.iload 2, 0, 0), (.invokevirtual 4, 4, 132), (.bipush 1, 0, 0), (.ireturn, 1, 0)]
/-- LentHandsModel.notes(III)V -/
def am_c75 : List am_I := [(.iload 0, 1, 0), (.checkcast 0, 7, 7), (.bipush 2, 0, 0), (.iaload, 0, 0), (.bipush 100, 1, 0), (.if_icmp .ne 7, 0, 0), (.return_, 0, 0), (.bipush 404, 2, 0), (.bipush 4, 0, 0), (.iload 0, 1, 0), (.checkcast 0, 7, 7), (.bipush 2, 0, 0), (.iaload, 0, 0), (.imul, 0, 0), (.iadd, 0, 0), (.istore 4, 0, 1), (.iload 0, 1, 0), (.checkcast 0, 7, 7), (.iload 4, 0, 1), (.iload 0, 1, 0), (.checkcast 0, 7, 7), (.bipush 0, 0, 0), (.iaload, 0, 0), (.iastore, 0, 0), (.iload 0, 1, 0), (.checkcast 0, 7, 7), (.iload 4, 0, 1), (.bipush 1, 0, 0), (.iadd, 0, 0), (.iload 1, 0, 0), (.iastore, 0, 0), (.iload 0, 1, 0), (.checkcast 0, 7, 7), (.iload 4, 0, 1), (.bipush 2, 0, 0), (.iadd, 0, 0), (.iload 2, 0, 0), (.iastore, 0, 0), (.iload 0, 1, 0), (.checkcast 0, 7, 7), (.iload 4, 0, 1), (.bipush 3, 0, 0), (.iadd, 0, 0), (.iload 3, 0, 0), (.iastore, 0, 0), (.iload 0, 1, 0), (.checkcast 0, 7, 7), (.bipush 2, 0, 0), (.dup2, 0, 0), (.iaload, 0, 0), (.bipush 1, 0, 0), (.iadd, 0, 0), (.iastore, 0, 0), (.return_, 0, 0)]
/-- LentHandsModel.guilty(I)V -/
def am_c76 : List am_I := [(.iload 0, 1, 0), (.iload 1, 0, 0), (.bipush 2, 0, 0), (.iload 0, 1, 0), (.iload 1, 0, 0), (.bipush 2, 0, 0), (.invokevirtual 3, 3, 655), (.bipush 1, 0, 0), (.iadd, 0, 0), (.invokevirtual 4, 4, 132), (.return_, 0, 0)]
/-- LentHandsModel.canDeed(II)Z -/
def am_c77 : List am_I := [(.iload 0, 1, 0), (.iload 1, 0, 0), (.invokevirtual 8, 2, 147), (.ifCond .eq 15, 0, 0), (.iload 2, 0, 0), (.invokevirtual 11, 1, 729), (.ifCond .eq 15, 0, 0), (.iload 0, 1, 0), (.iload 1, 0, 0), (.iload 2, 0, 0), (.invokevirtual 12, 3, 697), (.bipush (-1), 0, 0), (.if_icmp .eq 15, 0, 0), (.bipush 1, 0, 0), (.goto 16, 0, 0), (.bipush 0, 0, 0), (.ireturn, 1, 0)]
/-- LentHandsModel.deedBy(III)I -/
def am_c78 : List am_I := [(.iload 0, 1, 0), (.iload 1, 0, 0), (.iload 2, 0, 0), (.invokevirtual 12, 3, 697), (.istore 4, 0, 1), (.iload 0, 1, 0), (.iload 4, 0, 1), (.invokevirtual 61, 2, 679), (.istore 5, 0, 1), (.iload 0, 1, 0), (.iload 4, 0, 1), (.iload 1, 0, 0), (.invokevirtual 62, 3, 648), (.iload 0, 1, 0), (.checkcast 11, 7, 37), (.bipush 12, 1, 0), (.dup2, 0, 0), (.iaload, 0, 0), (.iload 3, 0, 0), (.iadd, 0, 0), (.iastore, 0, 0), (.iload 0, 1, 0), (.checkcast 11, 7, 37), (.bipush 6, 1, 0), (.iload 5, 0, 1), (.bipush (-1), 0, 0), (.if_icmp .ne 29, 0, 0), (.bipush 0, 0, 0), (.goto 33, 0, 0), (.iload 0, 1, 0), (.iload 5, 0, 1), (.bipush 4, 0, 0), (.invokevirtual 7, 3, 631), (.iastore, 0, 0), (.iload 0, 1, 0), (.bipush 2, 0, 0), (.bipush 23, 1, 0), (.invokevirtual 57, 3, 667), (.bipush 22, 1, 0), (.isub, 0, 0), (.ireturn, 0, 0)]
/-- LentHandsModel.deed(II)I -/
def am_c79 : List am_I := [(.iload 0, 1, 0), (.iload 1, 0, 0), (.iload 2, 0, 0), (.invokevirtual 77, 3, 741), (.ifCond .ne 7, 0, 0), (.bipush (-1), 0, 0), (.ireturn, 0, 0), (.iload 0, 1, 0), (.invokevirtual 64, 1, 714), (.iload 0, 1, 0), (.iload 1, 0, 0), (.iload 2, 0, 0), (.invokevirtual 12, 3, 697), (.istore 3, 0, 0), (.iload 0, 1, 0), (.iload 1, 0, 0), (.iload 2, 0, 0), (.bipush 0, 0, 0), (.invokevirtual 78, 4, 747), (.istore 4, 0, 1), (.iload 4, 0, 1), (.ifCond .eq 25, 0, 0), (.iload 4, 0, 1), (.bipush 2, 0, 0), (.if_icmp .ne 29, 0, 0), (.iload 0, 1, 0), (.iload 3, 0, 0), (.invokevirtual 13, 1, 643), (.invokevirtual 76, 2, 752), (.iload 4, 0, 1), (.bipush 1, 0, 0), (.if_icmp .eq 35, 0, 0), (.iload 4, 0, 1), (.bipush 2, 0, 0), (.if_icmp .ne 38, 0, 0), (.iload 0, 1, 0), (.iload 1, 0, 0), (.invokevirtual 76, 2, 752), (.iload 0, 1, 0), (.iload 3, 0, 0), (.iload 1, 0, 0), (.iload 4, 0, 1), (.invokevirtual 75, 4, 760), (.iload 4, 0, 1), (.ireturn, 0, 0)]
/-- LentHandsModel.books()I -/
def am_c80 : List am_I := [(.bipush 0, 0, 0), (.istore 1, 0, 0), (.bipush 0, 0, 0), (.istore 2, 0, 0), (.iload 2, 0, 0), (.iload 0, 1, 0), (.checkcast 0, 7, 7), (.bipush 286, 2, 0), (.iaload, 0, 0), (.if_icmp .ge 95, 0, 0), (.bipush 292, 2, 0), (.bipush 5, 0, 0), (.iload 2, 0, 0), (.imul, 0, 0), (.iadd, 0, 0), (.istore 3, 0, 0), (.iload 0, 1, 0), (.checkcast 0, 7, 7), (.iload 3, 0, 0), (.bipush 2, 0, 0), (.iadd, 0, 0), (.iaload, 0, 0), (.iload 0, 1, 0), (.checkcast 0, 7, 7), (.bipush 0, 0, 0), (.iaload, 0, 0), (.if_icmp .eq 28, 0, 0), (.goto 93, 0, 0), (.iload 0, 1, 0), (.iload 0, 1, 0), (.checkcast 0, 7, 7), (.iload 3, 0, 0), (.iaload, 0, 0), (.iload 0, 1, 0), (.checkcast 0, 7, 7), (.iload 3, 0, 0), (.bipush 1, 0, 0), (.iadd, 0, 0), (.iaload, 0, 0), (.iload 0, 1, 0), (.checkcast 0, 7, 7), (.iload 3, 0, 0), (.bipush 3, 0, 0), (.iadd, 0, 0), (.iaload, 0, 0), (.iload 0, 1, 0), (.checkcast 0, 7, 7), (.iload 3, 0, 0), (.bipush 4, 0, 0), (.iadd, 0, 0), (.iaload, 0, 0), (.invokevirtual 68, 5, 709), (.ifCond .eq 79, 0, 0), (.iload 0, 1, 0), (.iload 0, 1, 0), (.checkcast 0, 7, 7), (.iload 3, 0, 0), (.iaload, 0, 0), (.iload 0, 1, 0), (.checkcast 0, 7, 7), (.iload 3, 0, 0), (.bipush 1, 0, 0), (.iadd, 0, 0), (.iaload, 0, 0), (.iload 0, 1, 0), (.checkcast 0, 7, 7), (.iload 3, 0, 0), (.bipush 3, 0, 0), (.iadd, 0, 0), (.iaload, 0, 0), (.iload 0, 1, 0), (.checkcast 0, 7, 7), (.iload 3, 0, 0), (.bipush 4, 0, 0), (.iadd, 0, 0), (.iaload, 0, 0), (.invokevirtual 70, 5, 721), (.pop, 0, 0), (.goto 93, 0, 0), (.iload 0, 1, 0), (.getfield 27, 7, 383), (.bipush (-1), 0, 0), (.if_icmp .ne 92, 0, 0), (.iload 0, 1, 0), (.iload 2, 0, 0), (.putfield 27, 7, 766), (.iload 0, 1, 0), (.iload 0, 1, 0), (.checkcast 0, 7, 7), (.bipush 0, 0, 0), (.iaload, 0, 0), (.putfield 28, 7, 772), (.iinc 1 1, 0, 0), (.iinc 2 1, 0, 0), (.goto 4, 0, 0), (.iload 1, 0, 0), (.ireturn, 0, 0)]
/-- LentHandsModel.taskFacts(IIII)V -/
def am_c81 : List am_I := [(.iload 0, 1, 0), (.iload 1, 0, 0), (.iload 2, 0, 0), (.invokevirtual 62, 3, 648), (.iload 0, 1, 0), (.checkcast 11, 7, 37), (.bipush 11, 1, 0), (.iload 4, 0, 1), (.iastore, 0, 0), (.iload 0, 1, 0), (.checkcast 11, 7, 37), (.bipush 13, 1, 0), (.iload 3, 0, 0), (.iastore, 0, 0), (.iload 0, 1, 0), (.checkcast 11, 7, 37), (.bipush 14, 1, 0), (.iload 0, 1, 0), (.checkcast 0, 7, 7), (.bipush 0, 0, 0), (.iaload, 0, 0), (.iastore, 0, 0), (.return_, 0, 0)]
/-- LentHandsModel.works(IIZ)V -/
def am_c82 : List am_I := [(.iload 0, 1, 0), (.iload 1, 0, 0), (.bipush 1, 0, 0), (.invokevirtual 3, 3, 655), (.istore 4, 0, 1), (.iload 0, 1, 0), (.iload 2, 0, 0), (.iload 1, 0, 0), (.iload 4, 0, 1), (.iload 0, 1, 0), (.iload 2, 0, 0), (.bipush 0, 0, 0), (.iload 4, 0, 1), (.iadd, 0, 0), (.invokevirtual 5, 3, 109), (.invokevirtual 81, 5, 778), (.iload 0, 1, 0), (.bipush 26, 1, 0), (.bipush 9, 1, 0), (.invokevirtual 58, 3, 787), (.istore 5, 0, 1), (.iload 0, 1, 0), (.bipush 27, 1, 0), (.bipush 9, 1, 0), (.invokevirtual 58, 3, 787), (.istore 6, 0, 1), (.iload 0, 1, 0), (.bipush 29, 1, 0), (.bipush 99, 1, 0), (.invokevirtual 58, 3, 787), (.istore 7, 0, 1), (.iload 3, 0, 0), (.ifCond .eq 38, 0, 0), (.iload 0, 1, 0), (.bipush 28, 1, 0), (.bipush 1000, 2, 0), (.invokevirtual 58, 3, 787), (.goto 39, 0, 0), (.bipush 0, 0, 0), (.istore 8, 0, 1), (.iload 0, 1, 0), (.iload 2, 0, 0), (.bipush 0, 0, 0), (.iload 4, 0, 1), (.iadd, 0, 0), (.bipush 99, 1, 0), (.iload 0, 1, 0), (.iload 2, 0, 0), (.bipush 0, 0, 0), (.iload 4, 0, 1), (.iadd, 0, 0), (.invokevirtual 5, 3, 109), (.iload 5, 0, 1), (.iadd, 0, 0), (.invokevirtual 1, 2, 619), (.invokevirtual 6, 4, 140), (.iload 0, 1, 0), (.iload 2, 0, 0), (.bipush 4, 0, 0), (.bipush 99, 1, 0), (.iload 0, 1, 0), (.iload 2, 0, 0), (.bipush 4, 0, 0), (.invokevirtual 5, 3, 109), (.iload 6, 0, 1), (.iadd, 0, 0), (.invokevirtual 1, 2, 619), (.invokevirtual 6, 4, 140), (.iload 0, 1, 0), (.iload 1, 0, 0), (.iload 7, 0, 1), (.invokevirtual 69, 3, 690), (.iload 8, 0, 1), (.ifCond .le 91, 0, 0), (.iload 0, 1, 0), (.bipush 1000, 2, 0), (.invokevirtual 16, 2, 793), (.iload 8, 0, 1), (.if_icmp .ge 91, 0, 0), (.iload 0, 1, 0), (.iload 2, 0, 0), (.bipush 5, 0, 0), (.bipush 9, 1, 0), (.iload 0, 1, 0), (.iload 2, 0, 0), (.bipush 5, 0, 0), (.invokevirtual 5, 3, 109), (.bipush 1, 0, 0), (.iadd, 0, 0), (.invokevirtual 1, 2, 619), (.invokevirtual 6, 4, 140), (.return_, 0, 0)]
/-- LentHandsModel.ends(I)V -/
def am_c83 : List am_I := [(.iload 0, 1, 0), (.iload 1, 0, 0), (.bipush 0, 0, 0), (.invokevirtual 7, 3, 631), (.istore 2, 0, 0), (.iload 0, 1, 0), (.iload 1, 0, 0), (.bipush 1, 0, 0), (.invokevirtual 7, 3, 631), (.istore 3, 0, 0), (.iload 0, 1, 0), (.iload 1, 0, 0), (.bipush 2, 0, 0), (.invokevirtual 7, 3, 631), (.istore 4, 0, 1), (.iload 2, 0, 0), (.bipush 2, 0, 0), (.irem, 0, 0), (.istore 5, 0, 1), (.iload 0, 1, 0), (.iload 2, 0, 0), (.bipush 8, 1, 0), (.bipush (-1), 0, 0), (.invokevirtual 6, 4, 140), (.iload 0, 1, 0), (.iload 2, 0, 0), (.iload 0, 1, 0), (.iload 3, 0, 0), (.iload 5, 0, 1), (.invokevirtual 12, 3, 697), (.bipush (-1), 0, 0), (.if_icmp .ne 34, 0, 0), (.iload 3, 0, 0), (.goto 35, 0, 0), (.bipush (-1), 0, 0), (.invokevirtual 66, 3, 702), (.bipush 2, 0, 0), (.iload 4, 0, 1), (.imul, 0, 0), (.iload 5, 0, 1), (.iadd, 0, 0), (.istore 6, 0, 1), (.iload 0, 1, 0), (.iload 4, 0, 1), (.iload 5, 0, 1), (.invokevirtual 12, 3, 697), (.bipush (-1), 0, 0), (.if_icmp .ne 58, 0, 0), (.iload 0, 1, 0), (.iload 6, 0, 1), (.bipush 8, 1, 0), (.invokevirtual 5, 3, 109), (.bipush (-1), 0, 0), (.if_icmp .ne 58, 0, 0), (.iload 0, 1, 0), (.iload 6, 0, 1), (.iload 4, 0, 1), (.invokevirtual 66, 3, 702), (.bipush 196, 2, 0), (.bipush 5, 0, 0), (.iload 1, 0, 0), (.imul, 0, 0), (.iadd, 0, 0), (.istore 7, 0, 1), (.iload 7, 0, 1), (.bipush 196, 2, 0), (.bipush 5, 0, 0), (.iload 0, 1, 0), (.checkcast 0, 7, 7), (.bipush 1, 0, 0), (.iaload, 0, 0), (.bipush 1, 0, 0), (.isub, 0, 0), (.imul, 0, 0), (.iadd, 0, 0), (.if_icmp .ge 88, 0, 0), (.iload 0, 1, 0), (.checkcast 0, 7, 7), (.iload 7, 0, 1), (.iload 0, 1, 0), (.checkcast 0, 7, 7), (.iload 7, 0, 1), (.bipush 5, 0, 0), (.iadd, 0, 0), (.iaload, 0, 0), (.iastore, 0, 0), (.iinc 7 1, 0, 0), (.goto 64, 0, 0), (.iload 0, 1, 0), (.checkcast 0, 7, 7), (.bipush 1, 0, 0), (.dup2, 0, 0), (.iaload, 0, 0), (.bipush 1, 0, 0), (.isub, 0, 0), (.iastore, 0, 0), (.return_, 0, 0)]
/-- LentHandsModel.worksOn(IZ)V -/
def am_c84 : List am_I := [(.bipush 0, 0, 0), (.istore 3, 0, 0), (.iload 3, 0, 0), (.bipush 2, 0, 0), (.if_icmp .ge 20, 0, 0), (.iload 0, 1, 0), (.iload 1, 0, 0), (.iload 3, 0, 0), (.invokevirtual 12, 3, 697), (.istore 4, 0, 1), (.iload 4, 0, 1), (.bipush (-1), 0, 0), (.if_icmp .eq 18, 0, 0), (.iload 0, 1, 0), (.iload 1, 0, 0), (.iload 4, 0, 1), (.iload 2, 0, 0), (.invokevirtual 82, 4, 798), (.iinc 3 1, 0, 0), (.goto 2, 0, 0), (.return_, 0, 0)]
/-- LentHandsModel.marksAll()V -/
def am_c85 : List am_I := [(.bipush 0, 0, 0), (.istore 1, 0, 0), (.iload 1, 0, 0), (.bipush 2, 0, 0), (.iload 0, 1, 0), (.checkcast 0, 7, 7), (.bipush 276, 2, 0), (.iaload, 0, 0), (.imul, 0, 0), (.if_icmp .ge 43, 0, 0), (.iload 0, 1, 0), (.iload 1, 0, 0), (.bipush 8, 1, 0), (.invokevirtual 5, 3, 109), (.istore 2, 0, 0), (.iload 2, 0, 0), (.bipush (-1), 0, 0), (.if_icmp .ne 19, 0, 0), (.goto 41, 0, 0), (.iload 0, 1, 0), (.iload 1, 0, 0), (.bipush 7, 1, 0), (.iload 0, 1, 0), (.iload 1, 0, 0), (.bipush 7, 1, 0), (.invokevirtual 5, 3, 109), (.bipush 1, 0, 0), (.iadd, 0, 0), (.invokevirtual 6, 4, 140), (.iload 0, 1, 0), (.iload 1, 0, 0), (.bipush 6, 1, 0), (.iload 0, 1, 0), (.iload 1, 0, 0), (.bipush 6, 1, 0), (.invokevirtual 5, 3, 109), (.bipush 1, 0, 0), (.iload 2, 0, 0), (.ishl, 0, 0), (.ior, 0, 0), (.invokevirtual 6, 4, 140), (.iinc 1 1, 0, 0), (.goto 2, 0, 0), (.return_, 0, 0)]
/-- LentHandsModel.endsAll()V -/
def am_c86 : List am_I := [(.iload 0, 1, 0), (.checkcast 0, 7, 7), (.bipush 1, 0, 0), (.iaload, 0, 0), (.bipush 1, 0, 0), (.isub, 0, 0), (.istore 1, 0, 0), (.iload 1, 0, 0), (.ifCond .lt 23, 0, 0), (.iload 0, 1, 0), (.iload 1, 0, 0), (.bipush 3, 0, 0), (.invokevirtual 7, 3, 631), (.iload 0, 1, 0), (.checkcast 0, 7, 7), (.bipush 0, 0, 0), (.iaload, 0, 0), (.if_icmp .gt 21, 0, 0), (.iload 0, 1, 0), (.iload 1, 0, 0), (.invokevirtual 83, 2, 806), (.iinc 1 (-1), 0, 0), (.goto 7, 0, 0), (.return_, 0, 0)]
/-- LentHandsModel.anHour(Z)I -/
def am_c87 : List am_I := [(.iload 0, 1, 0), (.invokevirtual 80, 1, 813), (.istore 2, 0, 0), (.bipush 0, 0, 0), (.istore 3, 0, 0), (.iload 3, 0, 0), (.iload 0, 1, 0), (.checkcast 0, 7, 7), (.bipush 276, 2, 0), (.iaload, 0, 0), (.if_icmp .ge 23, 0, 0), (.iload 0, 1, 0), (.iload 3, 0, 0), (.bipush 1, 0, 0), (.invokevirtual 3, 3, 655), (.bipush (-1), 0, 0), (.if_icmp .eq 21, 0, 0), (.iload 0, 1, 0), (.iload 3, 0, 0), (.iload 1, 0, 0), (.invokevirtual 84, 3, 818), (.iinc 3 1, 0, 0), (.goto 5, 0, 0), (.iload 0, 1, 0), (.invokevirtual 85, 1, 826), (.iload 0, 1, 0), (.checkcast 0, 7, 7), (.bipush 0, 0, 0), (.dup2, 0, 0), (.iaload, 0, 0), (.bipush 1, 0, 0), (.iadd, 0, 0), (.iastore, 0, 0), (.iload 0, 1, 0), (.invokevirtual 86, 1, 832), (.iload 2, 0, 0), (.ireturn, 0, 0)]
/-- LentHandsModel.hours(I)I -/
def am_c88 : List am_I := [(.iload 1, 0, 0), (.bipush 1, 0, 0), (.bipush 100, 1, 0), (.invokevirtual 0, 3, 101), (.ifCond .eq 13, 0, 0), (.iload 0, 1, 0), (.checkcast 0, 7, 7), (.bipush 0, 0, 0), (.iaload, 0, 0), (.iload 1, 0, 0), (.iadd, 0, 0), (.bipush 9999, 2, 0), (.if_icmp .le 15, 0, 0), (.bipush (-1), 0, 0), (.ireturn, 0, 0), (.bipush 0, 0, 0), (.istore 2, 0, 0), (.bipush 0, 0, 0), (.istore 3, 0, 0), (.iload 3, 0, 0), (.iload 1, 0, 0), (.if_icmp .ge 32, 0, 0), (.iload 0, 1, 0), (.invokevirtual 64, 1, 714), (.iload 2, 0, 0), (.iload 0, 1, 0), (.bipush 1, 0, 0), (.invokevirtual 87, 2, 839), (.iadd, 0, 0), (.istore 2, 0, 0), (.iinc 3 1, 0, 0), (.goto 19, 0, 0), (.iload 2, 0, 0), (.ireturn, 0, 0)]
/-- LentHandsModel.ring(II)I -/
def am_c89 : List am_I := [(.iload 1, 0, 0), (.istore 3, 0, 0), (.bipush 1, 0, 0), (.istore 4, 0, 1), (.iload 4, 0, 1), (.bipush 8, 1, 0), (.if_icmp .gt 27, 0, 0), (.iload 0, 1, 0), (.iload 3, 0, 0), (.iload 2, 0, 0), (.invokevirtual 12, 3, 697), (.istore 5, 0, 1), (.iload 5, 0, 1), (.bipush (-1), 0, 0), (.if_icmp .ne 17, 0, 0), (.bipush 0, 0, 0), (.ireturn, 0, 0), (.iload 5, 0, 1), (.invokevirtual 13, 1, 643), (.istore 3, 0, 0), (.iload 3, 0, 0), (.iload 1, 0, 0), (.if_icmp .ne 25, 0, 0), (.iload 4, 0, 1), (.ireturn, 0, 0), (.iinc 4 1, 0, 0), (.goto 4, 0, 0), (.bipush 0, 0, 0), (.ireturn, 0, 0)]
/-- LentHandsModel.of(II)I -/
def am_c90 : List am_I := [(.iload 0, 1, 0), (.iload 1, 0, 0), (.invokevirtual 8, 2, 147), (.ifCond .ne 6, 0, 0), (.bipush (-2), 1, 0), (.ireturn, 0, 0), (.iload 2, 0, 0), (.tableswitch 50 0 7 #[8, 13, 20, 25, 30, 35, 40, 45], 48, 0), (.iload 0, 1, 0), (.iload 1, 0, 0), (.bipush 0, 0, 0), (.invokevirtual 3, 3, 655), (.ireturn, 0, 0), (.iload 0, 1, 0), (.checkcast 0, 7, 7), (.bipush 277, 2, 0), (.iload 1, 0, 0), (.iadd, 0, 0), (.iaload, 0, 0), (.ireturn, 0, 0), (.iload 0, 1, 0), (.iload 1, 0, 0), (.bipush 1, 0, 0), (.invokevirtual 3, 3, 655), (.ireturn, 0, 0), (.iload 0, 1, 0), (.iload 1, 0, 0), (.bipush 2, 0, 0), (.invokevirtual 3, 3, 655), (.ireturn, 0, 0), (.iload 0, 1, 0), (.iload 1, 0, 0), (.bipush 0, 0, 0), (.invokevirtual 12, 3, 697), (.ireturn, 0, 0), (.iload 0, 1, 0), (.iload 1, 0, 0), (.bipush 1, 0, 0), (.invokevirtual 12, 3, 697), (.ireturn, 0, 0), (.iload 0, 1, 0), (.iload 1, 0, 0), (.bipush 0, 0, 0), (.invokevirtual 89, 3, 847), (.ireturn, 0, 0), (.iload 0, 1, 0), (.iload 1, 0, 0), (.bipush 1, 0, 0), (.invokevirtual 89, 3, 847), (.ireturn, 0, 0), (.bipush (-2), 1, 0), (.ireturn, 0, 0)]
/-- LentHandsModel.at(II)I -/
def am_c91 : List am_I := [(.iload 0, 1, 0), (.iload 1, 0, 0), (.invokevirtual 9, 2, 155), (.ifCond .eq 9, 0, 0), (.iload 2, 0, 0), (.bipush 0, 0, 0), (.bipush 10, 1, 0), (.invokevirtual 0, 3, 101), (.ifCond .ne 11, 0, 0), (.bipush (-2), 1, 0), (.ireturn, 0, 0), (.iload 2, 0, 0), (.bipush 8, 1, 0), (.if_icmp .gt 19, 0, 0), (.iload 0, 1, 0), (.iload 1, 0, 0), (.iload 2, 0, 0), (.invokevirtual 5, 3, 109), (.ireturn, 0, 0), (.iload 2, 0, 0), (.bipush 9, 1, 0), (.if_icmp .ne 26, 0, 0), (.iload 0, 1, 0), (.iload 1, 0, 0), (.invokevirtual 60, 2, 661), (.ireturn, 0, 0), (.iload 0, 1, 0), (.iload 1, 0, 0), (.invokevirtual 61, 2, 679), (.istore 3, 0, 0), (.iload 3, 0, 0), (.bipush (-1), 0, 0), (.if_icmp .ne 35, 0, 0), (.bipush (-1), 0, 0), (.goto 39, 0, 0), (.iload 0, 1, 0), (.iload 3, 0, 0), (.bipush 3, 0, 0), (.invokevirtual 7, 3, 631), (.ireturn, 0, 0)]
/-- LentHandsModel.loan(II)I -/
def am_c92 : List am_I := [(.iload 1, 0, 0), (.bipush 0, 0, 0), (.iload 0, 1, 0), (.checkcast 0, 7, 7), (.bipush 1, 0, 0), (.iaload, 0, 0), (.bipush 1, 0, 0), (.isub, 0, 0), (.invokevirtual 0, 3, 101), (.ifCond .eq 20, 0, 0), (.iload 2, 0, 0), (.bipush 0, 0, 0), (.bipush 4, 0, 0), (.invokevirtual 0, 3, 101), (.ifCond .eq 20, 0, 0), (.iload 0, 1, 0), (.iload 1, 0, 0), (.iload 2, 0, 0), (.invokevirtual 7, 3, 631), (.goto 21, 0, 0), (.bipush (-1), 0, 0), (.ireturn, 0, 0)]
/-- LentHandsModel.book(II)I -/
def am_c93 : List am_I := [(.iload 1, 0, 0), (.bipush 0, 0, 0), (.iload 0, 1, 0), (.checkcast 0, 7, 7), (.bipush 2, 0, 0), (.iaload, 0, 0), (.bipush 1, 0, 0), (.isub, 0, 0), (.invokevirtual 0, 3, 101), (.ifCond .eq 26, 0, 0), (.iload 2, 0, 0), (.bipush 0, 0, 0), (.bipush 3, 0, 0), (.invokevirtual 0, 3, 101), (.ifCond .eq 26, 0, 0), (.iload 0, 1, 0), (.checkcast 0, 7, 7), (.bipush 404, 2, 0), (.bipush 4, 0, 0), (.iload 1, 0, 0), (.imul, 0, 0), (.iadd, 0, 0), (.iload 2, 0, 0), (.iadd, 0, 0), (.iaload, 0, 0), (.goto 27, 0, 0), (.bipush (-1), 0, 0), (.ireturn, 0, 0)]
/-- LentHandsModel.may(IIII)I -/
def am_c94 : List am_I := [(.iload 0, 1, 0), (.iload 1, 0, 0), (.invokevirtual 9, 2, 155), (.ifCond .eq 12, 0, 0), (.iload 0, 1, 0), (.iload 2, 0, 0), (.invokevirtual 8, 2, 147), (.ifCond .eq 12, 0, 0), (.iload 3, 0, 0), (.iload 4, 0, 1), (.invokevirtual 67, 2, 673), (.ifCond .ne 14, 0, 0), (.bipush (-1), 0, 0), (.ireturn, 0, 0), (.iload 0, 1, 0), (.iload 1, 0, 0), (.iload 2, 0, 0), (.iload 3, 0, 0), (.iload 4, 0, 1), (.invokevirtual 63, 5, 685), (.ifCond .eq 23, 0, 0), (.bipush 1, 0, 0), (.goto 24, 0, 0), (.bipush 0, 0, 0), (.ireturn, 0, 0)]
/-- LentHandsModel.chain(II)I -/
def am_c95 : List am_I := [(.iload 0, 1, 0), (.iload 1, 0, 0), (.invokevirtual 9, 2, 155), (.ifCond .eq 13, 0, 0), (.iload 2, 0, 0), (.bipush 0, 0, 0), (.iload 0, 1, 0), (.iload 1, 0, 0), (.invokevirtual 60, 2, 661), (.bipush 1, 0, 0), (.isub, 0, 0), (.invokevirtual 0, 3, 101), (.ifCond .ne 15, 0, 0), (.bipush (-1), 0, 0), (.ireturn, 0, 0), (.bipush 0, 0, 0), (.istore 3, 0, 0), (.bipush 0, 0, 0), (.istore 4, 0, 1), (.iload 0, 1, 0), (.iload 4, 0, 1), (.bipush 0, 0, 0), (.invokevirtual 7, 3, 631), (.iload 1, 0, 0), (.if_icmp .ne 28, 0, 0), (.iload 3, 0, 0), (.iload 2, 0, 0), (.if_icmp .ge 42, 0, 0), (.iload 3, 0, 0), (.iload 0, 1, 0), (.iload 4, 0, 1), (.bipush 0, 0, 0), (.invokevirtual 7, 3, 631), (.iload 1, 0, 0), (.if_icmp .ne 37, 0, 0), (.bipush 1, 0, 0), (.goto 38, 0, 0), (.bipush 0, 0, 0), (.iadd, 0, 0), (.istore 3, 0, 0), (.iinc 4 1, 0, 0), (.goto 19, 0, 0), (.iload 0, 1, 0), (.iload 4, 0, 1), (.bipush 1, 0, 0), (.invokevirtual 7, 3, 631), (.ireturn, 0, 0)]
/-- LentHandsModel.owes(II)I -/
def am_c96 : List am_I := [(.iload 0, 1, 0), (.iload 1, 0, 0), (.invokevirtual 8, 2, 147), (.ifCond .eq 9, 0, 0), (.iload 2, 0, 0), (.bipush 0, 0, 0), (.bipush 1, 0, 0), (.invokevirtual 0, 3, 101), (.ifCond .ne 11, 0, 0), (.bipush (-1), 0, 0), (.ireturn, 0, 0), (.bipush 0, 0, 0), (.istore 3, 0, 0), (.bipush 0, 0, 0), (.istore 4, 0, 1), (.iload 4, 0, 1), (.iload 0, 1, 0), (.checkcast 0, 7, 7), (.bipush 1, 0, 0), (.iaload, 0, 0), (.if_icmp .ge 44, 0, 0), (.iload 3, 0, 0), (.iload 0, 1, 0), (.iload 4, 0, 1), (.iload 2, 0, 0), (.ifCond .ne 28, 0, 0), (.bipush 2, 0, 0), (.goto 29, 0, 0), (.bipush 1, 0, 0), (.invokevirtual 7, 3, 631), (.iload 1, 0, 0), (.if_icmp .ne 39, 0, 0), (.bipush 1, 0, 0), (.iload 0, 1, 0), (.iload 4, 0, 1), (.bipush 0, 0, 0), (.invokevirtual 7, 3, 631), (.ishl, 0, 0), (.goto 40, 0, 0), (.bipush 0, 0, 0), (.ior, 0, 0), (.istore 3, 0, 0), (.iinc 4 1, 0, 0), (.goto 15, 0, 0), (.iload 3, 0, 0), (.ireturn, 0, 0)]
/-- LentHandsModel.callus()I -/
def am_c97 : List am_I := [(.bipush (-1), 0, 0), (.istore 1, 0, 0), (.bipush 0, 0, 0), (.istore 2, 0, 0), (.iload 2, 0, 0), (.bipush 2, 0, 0), (.iload 0, 1, 0), (.checkcast 0, 7, 7), (.bipush 276, 2, 0), (.iaload, 0, 0), (.imul, 0, 0), (.if_icmp .ge 35, 0, 0), (.iload 0, 1, 0), (.iload 2, 0, 0), (.bipush 8, 1, 0), (.invokevirtual 5, 3, 109), (.iload 2, 0, 0), (.invokevirtual 13, 1, 643), (.if_icmp .eq 33, 0, 0), (.iload 1, 0, 0), (.bipush (-1), 0, 0), (.if_icmp .eq 31, 0, 0), (.iload 0, 1, 0), (.iload 2, 0, 0), (.bipush 4, 0, 0), (.invokevirtual 5, 3, 109), (.iload 0, 1, 0), (.iload 1, 0, 0), (.bipush 4, 0, 0), (.invokevirtual 5, 3, 109), (.if_icmp .le 33, 0, 0), (.iload 2, 0, 0), (.istore 1, 0, 0), (.iinc 2 1, 0, 0), (.goto 4, 0, 0), (.iload 1, 0, 0), (.ireturn, 0, 0)]
/-- LentHandsModel.hasSkill(IIII)Z -/
def am_c98 : List am_I := [(.iload 0, 1, 0), (.iload 1, 0, 0), (.iload 2, 0, 0), (.invokevirtual 12, 3, 697), (.istore 5, 0, 1), (.iload 5, 0, 1), (.bipush (-1), 0, 0), (.if_icmp .eq 18, 0, 0), (.iload 0, 1, 0), (.iload 5, 0, 1), (.bipush 0, 0, 0), (.iload 3, 0, 0), (.iadd, 0, 0), (.invokevirtual 5, 3, 109), (.iload 4, 0, 1), (.if_icmp .lt 18, 0, 0), (.bipush 1, 0, 0), (.goto 19, 0, 0), (.bipush 0, 0, 0), (.ireturn, 1, 0)]
/-- LentHandsModel.canDo(II)Z -/
def am_c99 : List am_I := [(.bipush 372, 2, 0), (.bipush 4, 0, 0), (.iload 2, 0, 0), (.imul, 0, 0), (.iadd, 0, 0), (.istore 3, 0, 0), (.iload 0, 1, 0), (.iload 1, 0, 0), (.bipush 0, 0, 0), (.iload 0, 1, 0), (.checkcast 0, 7, 7), (.iload 3, 0, 0), (.iaload, 0, 0), (.iload 0, 1, 0), (.checkcast 0, 7, 7), (.iload 3, 0, 0), (.bipush 1, 0, 0), (.iadd, 0, 0), (.iaload, 0, 0), (.invokevirtual 98, 5, 853), (.istore 4, 0, 1), (.iload 0, 1, 0), (.iload 1, 0, 0), (.bipush 1, 0, 0), (.iload 0, 1, 0), (.checkcast 0, 7, 7), (.iload 3, 0, 0), (.iaload, 0, 0), (.iload 0, 1, 0), (.checkcast 0, 7, 7), (.iload 3, 0, 0), (.bipush 1, 0, 0), (.iadd, 0, 0), (.iaload, 0, 0), (.invokevirtual 98, 5, 853), (.istore 5, 0, 1), (.iload 0, 1, 0), (.checkcast 0, 7, 7), (.iload 3, 0, 0), (.bipush 3, 0, 0), (.iadd, 0, 0), (.iaload, 0, 0), (.bipush 1, 0, 0), (.if_icmp .ne 52, 0, 0), (.iload 4, 0, 1), (.ifCond .eq 50, 0, 0), (.iload 5, 0, 1), (.ifCond .eq 50, 0, 0), (.bipush 1, 0, 0), (.goto 59, 0, 0), (.bipush 0, 0, 0), (.goto 59, 0, 0), (.iload 4, 0, 1), (.ifCond .ne 56, 0, 0), (.iload 5, 0, 1), (.ifCond .eq 58, 0, 0), (.bipush 1, 0, 0), (.goto 59, 0, 0), (.bipush 0, 0, 0), (.ireturn, 1, 0)]
/-- LentHandsModel.can(II)I -/
def am_c100 : List am_I := [(.iload 0, 1, 0), (.iload 1, 0, 0), (.invokevirtual 8, 2, 147), (.ifCond .eq 14, 0, 0), (.iload 2, 0, 0), (.bipush 0, 0, 0), (.iload 0, 1, 0), (.checkcast 0, 7, 7), (.bipush 287, 2, 0), (.iaload, 0, 0), (.bipush 1, 0, 0), (.isub, 0, 0), (.invokevirtual 0, 3, 101), (.ifCond .ne 16, 0, 0), (.bipush (-1), 0, 0), (.ireturn, 0, 0), (.iload 0, 1, 0), (.iload 1, 0, 0), (.iload 2, 0, 0), (.invokevirtual 99, 3, 859), (.ifCond .eq 23, 0, 0), (.bipush 1, 0, 0), (.goto 24, 0, 0), (.bipush 0, 0, 0), (.ireturn, 0, 0)]
/-- LentHandsModel.laysPay()V -/
def am_c101 : List am_I := [(.bipush 1, 0, 0), (.iload 0, 1, 0), (.checkcast 0, 7, 7), (.bipush 276, 2, 0), (.iaload, 0, 0), (.ishl, 0, 0), (.istore 1, 0, 0), (.bipush 0, 0, 0), (.istore 2, 0, 0), (.iload 2, 0, 0), (.iload 1, 0, 0), (.if_icmp .ge 26, 0, 0), (.iload 0, 1, 0), (.checkcast 29, 7, 44), (.bipush 256, 2, 0), (.iload 0, 1, 0), (.checkcast 0, 7, 7), (.bipush 287, 2, 0), (.iaload, 0, 0), (.imul, 0, 0), (.iload 2, 0, 0), (.iadd, 0, 0), (.bipush 0, 0, 0), (.iastore, 0, 0), (.iinc 2 1, 0, 0), (.goto 9, 0, 0), (.iload 0, 1, 0), (.checkcast 0, 7, 7), (.bipush 287, 2, 0), (.iaload, 0, 0), (.bipush 1, 0, 0), (.isub, 0, 0), (.istore 2, 0, 0), (.iload 2, 0, 0), (.ifCond .lt 113, 0, 0), (.bipush 0, 0, 0), (.istore 3, 0, 0), (.iload 3, 0, 0), (.iload 1, 0, 0), (.if_icmp .ge 111, 0, 0), (.iload 0, 1, 0), (.checkcast 29, 7, 44), (.bipush 256, 2, 0), (.iload 2, 0, 0), (.bipush 1, 0, 0), (.iadd, 0, 0), (.imul, 0, 0), (.iload 3, 0, 0), (.iadd, 0, 0), (.iaload, 0, 0), (.istore 4, 0, 1), (.bipush 0, 0, 0), (.istore 5, 0, 1), (.iload 5, 0, 1), (.iload 0, 1, 0), (.checkcast 0, 7, 7), (.bipush 276, 2, 0), (.iaload, 0, 0), (.if_icmp .ge 100, 0, 0), (.iload 3, 0, 0), (.iload 5, 0, 1), (.ishr, 0, 0), (.bipush 1, 0, 0), (.iand, 0, 0), (.ifCond .ne 98, 0, 0), (.iload 0, 1, 0), (.iload 5, 0, 1), (.iload 2, 0, 0), (.invokevirtual 99, 3, 859), (.ifCond .eq 98, 0, 0), (.iload 4, 0, 1), (.iload 0, 1, 0), (.checkcast 0, 7, 7), (.bipush 372, 2, 0), (.bipush 4, 0, 0), (.iload 2, 0, 0), (.imul, 0, 0), (.iadd, 0, 0), (.bipush 2, 0, 0), (.iadd, 0, 0), (.iaload, 0, 0), (.iload 0, 1, 0), (.checkcast 29, 7, 44), (.bipush 256, 2, 0), (.iload 2, 0, 0), (.bipush 1, 0, 0), (.iadd, 0, 0), (.imul, 0, 0), (.iload 3, 0, 0), (.bipush 1, 0, 0), (.iload 5, 0, 1), (.ishl, 0, 0), (.ior, 0, 0), (.iadd, 0, 0), (.iaload, 0, 0), (.iadd, 0, 0), (.invokevirtual 2, 2, 625), (.istore 4, 0, 1), (.iinc 5 1, 0, 0), (.goto 53, 0, 0), (.iload 0, 1, 0), (.checkcast 29, 7, 44), (.bipush 256, 2, 0), (.iload 2, 0, 0), (.imul, 0, 0), (.iload 3, 0, 0), (.iadd, 0, 0), (.iload 4, 0, 1), (.iastore, 0, 0), (.iinc 3 1, 0, 0), (.goto 37, 0, 0), (.iinc 2 (-1), 0, 0), (.goto 33, 0, 0), (.bipush 0, 0, 0), (.istore 2, 0, 0), (.bipush 0, 0, 0), (.istore 3, 0, 0), (.iload 3, 0, 0), (.iload 0, 1, 0), (.checkcast 0, 7, 7), (.bipush 287, 2, 0), (.iaload, 0, 0), (.if_icmp .ge 150, 0, 0), (.iload 0, 1, 0), (.checkcast 30, 7, 47), (.iload 3, 0, 0), (.iload 0, 1, 0), (.iload 3, 0, 0), (.iload 2, 0, 0), (.invokevirtual 102, 3, 865), (.iastore, 0, 0), (.iload 2, 0, 0), (.iload 0, 1, 0), (.checkcast 30, 7, 47), (.iload 3, 0, 0), (.iaload, 0, 0), (.bipush (-1), 0, 0), (.if_icmp .ne 140, 0, 0), (.bipush 0, 0, 0), (.goto 146, 0, 0), (.bipush 1, 0, 0), (.iload 0, 1, 0), (.checkcast 30, 7, 47), (.iload 3, 0, 0), (.iaload, 0, 0), (.ishl, 0, 0), (.ior, 0, 0), (.istore 2, 0, 0), (.iinc 3 1, 0, 0), (.goto 117, 0, 0), (.return_, 0, 0)]
/-- LentHandsModel.workerOf(II)I -/
def am_c102 : List am_I := [(.iload 0, 1, 0), (.checkcast 29, 7, 44), (.bipush 256, 2, 0), (.iload 1, 0, 0), (.imul, 0, 0), (.iload 2, 0, 0), (.iadd, 0, 0), (.iaload, 0, 0), (.istore 3, 0, 0), (.iload 0, 1, 0), (.checkcast 29, 7, 44), (.bipush 256, 2, 0), (.iload 1, 0, 0), (.bipush 1, 0, 0), (.iadd, 0, 0), (.imul, 0, 0), (.iload 2, 0, 0), (.iadd, 0, 0), (.iaload, 0, 0), (.iload 3, 0, 0), (.if_icmp .ne 23, 0, 0), (.bipush (-1), 0, 0), (.ireturn, 0, 0), (.bipush 0, 0, 0), (.istore 4, 0, 1), (.iload 2, 0, 0), (.iload 4, 0, 1), (.ishr, 0, 0), (.bipush 1, 0, 0), (.iand, 0, 0), (.bipush 1, 0, 0), (.if_icmp .eq 64, 0, 0), (.iload 0, 1, 0), (.iload 4, 0, 1), (.iload 1, 0, 0), (.invokevirtual 99, 3, 859), (.ifCond .eq 64, 0, 0), (.iload 0, 1, 0), (.checkcast 0, 7, 7), (.bipush 372, 2, 0), (.bipush 4, 0, 0), (.iload 1, 0, 0), (.imul, 0, 0), (.iadd, 0, 0), (.bipush 2, 0, 0), (.iadd, 0, 0), (.iaload, 0, 0), (.iload 0, 1, 0), (.checkcast 29, 7, 44), (.bipush 256, 2, 0), (.iload 1, 0, 0), (.bipush 1, 0, 0), (.iadd, 0, 0), (.imul, 0, 0), (.iload 2, 0, 0), (.bipush 1, 0, 0), (.iload 4, 0, 1), (.ishl, 0, 0), (.ior, 0, 0), (.iadd, 0, 0), (.iaload, 0, 0), (.iadd, 0, 0), (.iload 3, 0, 0), (.if_icmp .eq 66, 0, 0), (.iinc 4 1, 0, 0), (.goto 25, 0, 0), (.iload 4, 0, 1), (.ireturn, 0, 0)]
/-- LentHandsModel.pay(I)I -/
def am_c103 : List am_I := [(.iload 1, 0, 0), (.ifCond .eq 14, 0, 0), (.iload 1, 0, 0), (.bipush 10, 1, 0), (.bipush 9, 1, 0), (.iload 0, 1, 0), (.checkcast 0, 7, 7), (.bipush 287, 2, 0), (.iaload, 0, 0), (.iadd, 0, 0), (.invokevirtual 0, 3, 101), (.ifCond .ne 14, 0, 0), (.bipush (-1), 0, 0), (.ireturn, 0, 0), (.iload 0, 1, 0), (.invokevirtual 101, 1, 870), (.iload 1, 0, 0), (.ifCond .ne 23, 0, 0), (.iload 0, 1, 0), (.checkcast 29, 7, 44), (.bipush 0, 0, 0), (.iaload, 0, 0), (.goto 29, 0, 0), (.iload 0, 1, 0), (.checkcast 30, 7, 47), (.iload 1, 0, 0), (.bipush 10, 1, 0), (.isub, 0, 0), (.iaload, 0, 0), (.ireturn, 0, 0)]
/-- LentHandsModel.laysAside()V -/
def am_c104 : List am_I := [(.bipush 0, 0, 0), (.istore 1, 0, 0), (.iload 1, 0, 0), (.bipush 276, 2, 0), (.if_icmp .ge 15, 0, 0), (.iload 0, 1, 0), (.checkcast 3, 7, 19), (.iload 1, 0, 0), (.iload 0, 1, 0), (.checkcast 0, 7, 7), (.iload 1, 0, 0), (.iaload, 0, 0), (.iastore, 0, 0), (.iinc 1 1, 0, 0), (.goto 2, 0, 0), (.return_, 0, 0)]
/-- LentHandsModel.putsBack()V -/
def am_c105 : List am_I := [(.bipush 0, 0, 0), (.istore 1, 0, 0), (.iload 1, 0, 0), (.bipush 276, 2, 0), (.if_icmp .ge 15, 0, 0), (.iload 0, 1, 0), (.checkcast 0, 7, 7), (.iload 1, 0, 0), (.iload 0, 1, 0), (.checkcast 3, 7, 19), (.iload 1, 0, 0), (.iaload, 0, 0), (.iastore, 0, 0), (.iinc 1 1, 0, 0), (.goto 2, 0, 0), (.return_, 0, 0)]
/-- LentHandsModel.areBack()Z -/
def am_c106 : List am_I := [(.bipush 0, 0, 0), (.istore 1, 0, 0), (.iload 1, 0, 0), (.bipush 2, 0, 0), (.iload 0, 1, 0), (.checkcast 0, 7, 7), (.bipush 276, 2, 0), (.iaload, 0, 0), (.imul, 0, 0), (.if_icmp .ge 21, 0, 0), (.iload 0, 1, 0), (.iload 1, 0, 0), (.bipush 8, 1, 0), (.invokevirtual 5, 3, 109), (.iload 1, 0, 0), (.invokevirtual 13, 1, 643), (.if_icmp .eq 19, 0, 0), (.bipush 0, 0, 0), (.ireturn, 1, 0), (.iinc 1 1, 0, 0), (.goto 2, 0, 0), (.bipush 1, 0, 0), (.ireturn, 1, 0)]
/-- LentHandsModel.back()I -/
def am_c107 : List am_I := [(.iload 0, 1, 0), (.invokevirtual 104, 1, 876), (.bipush (-1), 0, 0), (.istore 1, 0, 0), (.bipush 0, 0, 0), (.istore 2, 0, 0), (.iload 2, 0, 0), (.bipush 300, 2, 0), (.if_icmp .gt 27, 0, 0), (.iload 1, 0, 0), (.bipush (-1), 0, 0), (.if_icmp .ne 27, 0, 0), (.iload 0, 1, 0), (.invokevirtual 106, 1, 883), (.ifCond .eq 21, 0, 0), (.iload 0, 1, 0), (.checkcast 0, 7, 7), (.bipush 0, 0, 0), (.iaload, 0, 0), (.istore 1, 0, 0), (.goto 25, 0, 0), (.iload 0, 1, 0), (.bipush 0, 0, 0), (.invokevirtual 87, 2, 839), (.pop, 0, 0), (.iinc 2 1, 0, 0), (.goto 6, 0, 0), (.iload 0, 1, 0), (.invokevirtual 105, 1, 888), (.iload 1, 0, 0), (.ireturn, 0, 0)]
/-- LentHandsModel.where(II)I -/
def am_c108 : List am_I := [(.iload 0, 1, 0), (.iload 1, 0, 0), (.invokevirtual 9, 2, 155), (.ifCond .eq 9, 0, 0), (.iload 2, 0, 0), (.bipush 0, 0, 0), (.bipush 300, 2, 0), (.invokevirtual 0, 3, 101), (.ifCond .ne 11, 0, 0), (.bipush (-2), 1, 0), (.ireturn, 0, 0), (.iload 0, 1, 0), (.invokevirtual 104, 1, 876), (.bipush 0, 0, 0), (.istore 3, 0, 0), (.iload 3, 0, 0), (.iload 2, 0, 0), (.if_icmp .ge 24, 0, 0), (.iload 0, 1, 0), (.bipush 0, 0, 0), (.invokevirtual 87, 2, 839), (.pop, 0, 0), (.iinc 3 1, 0, 0), (.goto 15, 0, 0), (.iload 0, 1, 0), (.iload 1, 0, 0), (.bipush 8, 1, 0), (.invokevirtual 5, 3, 109), (.istore 3, 0, 0), (.iload 0, 1, 0), (.invokevirtual 105, 1, 888), (.iload 3, 0, 0), (.ireturn, 0, 0)]
/-- LentHandsModel.fails(I)I -/
def am_c109 : List am_I := [(.iload 1, 0, 0), (.bipush 0, 0, 0), (.bipush 1, 0, 0), (.invokevirtual 0, 3, 101), (.ifCond .ne 7, 0, 0), (.bipush (-1), 0, 0), (.ireturn, 0, 0), (.iload 0, 1, 0), (.invokevirtual 104, 1, 876), (.iload 0, 1, 0), (.bipush (-1), 0, 0), (.putfield 27, 7, 766), (.iload 0, 1, 0), (.bipush (-1), 0, 0), (.putfield 28, 7, 772), (.bipush 0, 0, 0), (.istore 2, 0, 0), (.iload 2, 0, 0), (.bipush 300, 2, 0), (.if_icmp .ge 30, 0, 0), (.iload 0, 1, 0), (.getfield 27, 7, 383), (.bipush (-1), 0, 0), (.if_icmp .ne 30, 0, 0), (.iload 0, 1, 0), (.bipush 0, 0, 0), (.invokevirtual 87, 2, 839), (.pop, 0, 0), (.iinc 2 1, 0, 0), (.goto 17, 0, 0), (.iload 0, 1, 0), (.invokevirtual 105, 1, 888), (.iload 1, 0, 0), (.ifCond .ne 37, 0, 0), (.iload 0, 1, 0), (.getfield 27, 7, 383), (.goto 39, 0, 0), (.iload 0, 1, 0), (.getfield 28, 7, 386), (.ireturn, 0, 0)]
/-- LentHandsModel.bare()I -/
def am_c110 : List am_I := [(.bipush 0, 0, 0), (.istore 1, 0, 0), (.bipush 0, 0, 0), (.istore 2, 0, 0), (.iload 2, 0, 0), (.iload 0, 1, 0), (.checkcast 0, 7, 7), (.bipush 276, 2, 0), (.iaload, 0, 0), (.if_icmp .ge 38, 0, 0), (.iload 1, 0, 0), (.iload 0, 1, 0), (.bipush 2, 0, 0), (.iload 2, 0, 0), (.imul, 0, 0), (.bipush 8, 1, 0), (.invokevirtual 5, 3, 109), (.iload 2, 0, 0), (.if_icmp .eq 33, 0, 0), (.iload 0, 1, 0), (.bipush 2, 0, 0), (.iload 2, 0, 0), (.imul, 0, 0), (.bipush 1, 0, 0), (.iadd, 0, 0), (.bipush 8, 1, 0), (.invokevirtual 5, 3, 109), (.iload 2, 0, 0), (.if_icmp .eq 33, 0, 0), (.bipush 1, 0, 0), (.iload 2, 0, 0), (.ishl, 0, 0), (.goto 34, 0, 0), (.bipush 0, 0, 0), (.ior, 0, 0), (.istore 1, 0, 0), (.iinc 2 1, 0, 0), (.goto 4, 0, 0), (.iload 1, 0, 0), (.ireturn, 0, 0)]
/-- LentHandsModel.whose(I)I -/
def am_c111 : List am_I := [(.iload 1, 0, 0), (.bipush 0, 0, 0), (.bipush 1, 0, 0), (.iload 0, 1, 0), (.checkcast 0, 7, 7), (.bipush 276, 2, 0), (.iaload, 0, 0), (.ishl, 0, 0), (.bipush 1, 0, 0), (.isub, 0, 0), (.invokevirtual 0, 3, 101), (.ifCond .ne 14, 0, 0), (.bipush (-1), 0, 0), (.ireturn, 0, 0), (.bipush 0, 0, 0), (.istore 2, 0, 0), (.bipush 0, 0, 0), (.istore 3, 0, 0), (.iload 3, 0, 0), (.bipush 2, 0, 0), (.iload 0, 1, 0), (.checkcast 0, 7, 7), (.bipush 276, 2, 0), (.iaload, 0, 0), (.imul, 0, 0), (.if_icmp .ge 45, 0, 0), (.iload 2, 0, 0), (.iload 1, 0, 0), (.iload 0, 1, 0), (.iload 3, 0, 0), (.bipush 6, 1, 0), (.invokevirtual 5, 3, 109), (.bipush (-1), 0, 0), (.ixor, 0, 0), (.iand, 0, 0), (.ifCond .ne 40, 0, 0), (.bipush 1, 0, 0), (.iload 3, 0, 0), (.ishl, 0, 0), (.goto 41, 0, 0), (.bipush 0, 0, 0), (.ior, 0, 0), (.istore 2, 0, 0), (.iinc 3 1, 0, 0), (.goto 18, 0, 0), (.iload 2, 0, 0), (.ireturn, 0, 0)]
/-- LentHandsModel.count(I)I -/
def am_c112 : List am_I := [(.bipush 0, 0, 0), (.istore 1, 0, 0), (.bipush 0, 0, 0), (.istore 2, 0, 0), (.iload 2, 0, 0), (.bipush 16, 1, 0), (.if_icmp .ge 17, 0, 0), (.iload 1, 0, 0), (.iload 0, 0, 0), (.iload 2, 0, 0), (.ishr, 0, 0), (.bipush 1, 0, 0), (.iand, 0, 0), (.iadd, 0, 0), (.istore 1, 0, 0), (.iinc 2 1, 0, 0), (.goto 4, 0, 0), (.iload 1, 0, 0), (.ireturn, 0, 0)]
/-- LentHandsModel.ask(I)I -/
def am_c113 : List am_I := [(.iload 1, 0, 0), (.bipush 0, 0, 0), (.bipush 1, 0, 0), (.bipush 2, 0, 0), (.iload 0, 1, 0), (.checkcast 0, 7, 7), (.bipush 276, 2, 0), (.iaload, 0, 0), (.imul, 0, 0), (.ishl, 0, 0), (.bipush 1, 0, 0), (.isub, 0, 0), (.invokevirtual 0, 3, 101), (.ifCond .eq 18, 0, 0), (.iload 1, 0, 0), (.invokevirtual 112, 1, 895), (.bipush 2, 0, 0), (.if_icmp .ge 20, 0, 0), (.bipush (-1), 0, 0), (.ireturn, 0, 0), (.bipush (-1), 0, 0), (.istore 2, 0, 0), (.bipush 17, 1, 0), (.istore 3, 0, 0), (.bipush 0, 0, 0), (.istore 4, 0, 1), (.iload 4, 0, 1), (.iload 0, 1, 0), (.checkcast 0, 7, 7), (.bipush 276, 2, 0), (.iaload, 0, 0), (.if_icmp .ge 81, 0, 0), (.bipush 0, 0, 0), (.istore 5, 0, 1), (.bipush 0, 0, 0), (.istore 6, 0, 1), (.iload 6, 0, 1), (.bipush 16, 1, 0), (.if_icmp .ge 64, 0, 0), (.iload 5, 0, 1), (.iload 1, 0, 0), (.iload 6, 0, 1), (.ishr, 0, 0), (.bipush 1, 0, 0), (.iand, 0, 0), (.bipush 1, 0, 0), (.if_icmp .ne 59, 0, 0), (.iload 0, 1, 0), (.iload 6, 0, 1), (.bipush 6, 1, 0), (.invokevirtual 5, 3, 109), (.iload 4, 0, 1), (.ishr, 0, 0), (.bipush 1, 0, 0), (.iand, 0, 0), (.bipush 1, 0, 0), (.if_icmp .ne 59, 0, 0), (.bipush 1, 0, 0), (.goto 60, 0, 0), (.bipush 0, 0, 0), (.iadd, 0, 0), (.istore 5, 0, 1), (.iinc 6 1, 0, 0), (.goto 36, 0, 0), (.iload 5, 0, 1), (.iload 1, 0, 0), (.invokevirtual 112, 1, 895), (.iload 5, 0, 1), (.isub, 0, 0), (.invokevirtual 2, 2, 625), (.istore 6, 0, 1), (.iload 6, 0, 1), (.iload 3, 0, 0), (.if_icmp .lt 75, 0, 0), (.goto 79, 0, 0), (.iload 6, 0, 1), (.istore 3, 0, 0), (.iload 4, 0, 1), (.istore 2, 0, 0), (.iinc 4 1, 0, 0), (.goto 26, 0, 0), (.iload 2, 0, 0), (.ireturn, 0, 0)]
/-- LentHandsModel.laysHours(III)V -/
def am_c114 : List am_I := [(.iload 0, 1, 0), (.iload 1, 0, 0), (.bipush 8, 1, 0), (.invokevirtual 5, 3, 109), (.istore 4, 0, 1), (.iload 0, 1, 0), (.iload 1, 0, 0), (.bipush 0, 0, 0), (.iload 2, 0, 0), (.iadd, 0, 0), (.invokevirtual 5, 3, 109), (.istore 5, 0, 1), (.iload 0, 1, 0), (.iload 1, 0, 0), (.bipush 4, 0, 0), (.invokevirtual 5, 3, 109), (.istore 6, 0, 1), (.iload 0, 1, 0), (.bipush 1000000, 4, 450), (.putfield 32, 7, 902), (.bipush 0, 0, 0), (.istore 7, 0, 1), (.iload 7, 0, 1), (.iload 3, 0, 0), (.if_icmp .ge 93, 0, 0), (.iload 0, 1, 0), (.iload 1, 0, 0), (.iload 4, 0, 1), (.iload 2, 0, 0), (.iload 5, 0, 1), (.invokevirtual 81, 5, 778), (.iload 0, 1, 0), (.checkcast 11, 7, 37), (.bipush 3, 0, 0), (.iload 6, 0, 1), (.iastore, 0, 0), (.iload 0, 1, 0), (.checkcast 11, 7, 37), (.bipush 12, 1, 0), (.iload 0, 1, 0), (.iload 1, 0, 0), (.bipush 7, 1, 0), (.invokevirtual 5, 3, 109), (.iload 7, 0, 1), (.iadd, 0, 0), (.iastore, 0, 0), (.iload 0, 1, 0), (.checkcast 11, 7, 37), (.bipush 14, 1, 0), (.iload 0, 1, 0), (.checkcast 0, 7, 7), (.bipush 0, 0, 0), (.iaload, 0, 0), (.iload 7, 0, 1), (.iadd, 0, 0), (.iastore, 0, 0), (.iload 0, 1, 0), (.bipush 26, 1, 0), (.bipush 9, 1, 0), (.invokevirtual 58, 3, 787), (.istore 8, 0, 1), (.iload 0, 1, 0), (.bipush 27, 1, 0), (.bipush 9, 1, 0), (.invokevirtual 58, 3, 787), (.istore 9, 0, 1), (.iload 0, 1, 0), (.iload 0, 1, 0), (.getfield 32, 7, 451), (.bipush 1000, 2, 0), (.iload 0, 1, 0), (.bipush 28, 1, 0), (.bipush 1000, 2, 0), (.invokevirtual 58, 3, 787), (.isub, 0, 0), (.imul, 0, 0), (.bipush 1000, 2, 0), (.idiv, 0, 0), (.putfield 32, 7, 902), (.bipush 99, 1, 0), (.iload 5, 0, 1), (.iload 8, 0, 1), (.iadd, 0, 0), (.invokevirtual 1, 2, 619), (.istore 5, 0, 1), (.bipush 99, 1, 0), (.iload 6, 0, 1), (.iload 9, 0, 1), (.iadd, 0, 0), (.invokevirtual 1, 2, 619), (.istore 6, 0, 1), (.iinc 7 1, 0, 0), (.goto 22, 0, 0), (.iload 0, 1, 0), (.iload 5, 0, 1), (.putfield 31, 7, 908), (.return_, 0, 0)]
/-- LentHandsModel.canLearn(III)Z -/
def am_c115 : List am_I := [(.iload 0, 1, 0), (.iload 1, 0, 0), (.invokevirtual 9, 2, 155), (.ifCond .eq 20, 0, 0), (.iload 0, 1, 0), (.iload 1, 0, 0), (.bipush 8, 1, 0), (.invokevirtual 5, 3, 109), (.bipush (-1), 0, 0), (.if_icmp .eq 20, 0, 0), (.iload 2, 0, 0), (.invokevirtual 10, 1, 735), (.ifCond .eq 20, 0, 0), (.iload 3, 0, 0), (.bipush 0, 0, 0), (.bipush 99, 1, 0), (.invokevirtual 0, 3, 101), (.ifCond .eq 20, 0, 0), (.bipush 1, 0, 0), (.goto 21, 0, 0), (.bipush 0, 0, 0), (.ireturn, 1, 0)]
/-- LentHandsModel.learns(III)I -/
def am_c116 : List am_I := [(.iload 0, 1, 0), (.iload 1, 0, 0), (.iload 2, 0, 0), (.iload 3, 0, 0), (.invokevirtual 115, 4, 915), (.ifCond .ne 8, 0, 0), (.bipush (-1), 0, 0), (.ireturn, 0, 0), (.iload 0, 1, 0), (.iload 1, 0, 0), (.iload 2, 0, 0), (.iload 3, 0, 0), (.invokevirtual 114, 4, 920), (.iload 0, 1, 0), (.getfield 31, 7, 454), (.ireturn, 0, 0)]
/-- LentHandsModel.safe(III)I -/
def am_c117 : List am_I := [(.iload 0, 1, 0), (.iload 1, 0, 0), (.iload 2, 0, 0), (.iload 3, 0, 0), (.invokevirtual 115, 4, 915), (.ifCond .ne 8, 0, 0), (.bipush (-1), 0, 0), (.ireturn, 0, 0), (.iload 0, 1, 0), (.iload 1, 0, 0), (.iload 2, 0, 0), (.iload 3, 0, 0), (.invokevirtual 114, 4, 920), (.iload 0, 1, 0), (.getfield 32, 7, 451), (.ireturn, 0, 0)]
/-- LentHandsModel.premium(II)I -/
def am_c118 : List am_I := [(.iload 1, 0, 0), (.invokevirtual 10, 1, 735), (.ifCond .eq 8, 0, 0), (.iload 2, 0, 0), (.bipush 0, 0, 0), (.bipush 99, 1, 0), (.invokevirtual 0, 3, 101), (.ifCond .ne 10, 0, 0), (.bipush (-1), 0, 0), (.ireturn, 0, 0), (.bipush 0, 0, 0), (.istore 3, 0, 0), (.bipush 0, 0, 0), (.istore 4, 0, 1), (.iload 4, 0, 1), (.bipush 2, 0, 0), (.iload 0, 1, 0), (.checkcast 0, 7, 7), (.bipush 276, 2, 0), (.iaload, 0, 0), (.imul, 0, 0), (.if_icmp .ge 40, 0, 0), (.iload 0, 1, 0), (.iload 4, 0, 1), (.bipush 8, 1, 0), (.invokevirtual 5, 3, 109), (.bipush (-1), 0, 0), (.if_icmp .eq 38, 0, 0), (.iload 3, 0, 0), (.bipush 1000000, 4, 450), (.iload 0, 1, 0), (.iload 4, 0, 1), (.iload 1, 0, 0), (.iload 2, 0, 0), (.invokevirtual 117, 4, 927), (.isub, 0, 0), (.iadd, 0, 0), (.istore 3, 0, 0), (.iinc 4 1, 0, 0), (.goto 14, 0, 0), (.iload 3, 0, 0), (.ireturn, 0, 0)]
/-- LentHandsModel.judged(III)I -/
def am_c119 : List am_I := [(.iload 0, 1, 0), (.iload 1, 0, 0), (.iload 2, 0, 0), (.invokevirtual 77, 3, 741), (.ifCond .eq 16, 0, 0), (.iload 3, 0, 0), (.bipush 0, 0, 0), (.bipush 99, 1, 0), (.invokevirtual 0, 3, 101), (.ifCond .eq 16, 0, 0), (.iload 0, 1, 0), (.iload 1, 0, 0), (.iload 2, 0, 0), (.iload 3, 0, 0), (.invokevirtual 78, 4, 747), (.goto 17, 0, 0), (.bipush (-1), 0, 0), (.ireturn, 0, 0)]
/-- LentHandsModel.loophole(II)I -/
def am_c120 : List am_I := [(.iload 0, 1, 0), (.iload 1, 0, 0), (.iload 2, 0, 0), (.invokevirtual 77, 3, 741), (.ifCond .ne 7, 0, 0), (.bipush (-1), 0, 0), (.ireturn, 0, 0), (.bipush 1, 0, 0), (.istore 3, 0, 0), (.iload 3, 0, 0), (.bipush 99, 1, 0), (.if_icmp .gt 27, 0, 0), (.iload 0, 1, 0), (.iload 1, 0, 0), (.iload 2, 0, 0), (.iload 3, 0, 0), (.invokevirtual 78, 4, 747), (.iload 0, 1, 0), (.iload 1, 0, 0), (.iload 2, 0, 0), (.bipush 0, 0, 0), (.invokevirtual 78, 4, 747), (.if_icmp .eq 25, 0, 0), (.iload 3, 0, 0), (.ireturn, 0, 0), (.iinc 3 1, 0, 0), (.goto 9, 0, 0), (.bipush (-1), 0, 0), (.ireturn, 0, 0)]
/-- LentHandsModel.finds(IIII)I -/
def am_c121 : List am_I := [(.iload 0, 1, 0), (.iload 1, 0, 0), (.invokevirtual 8, 2, 147), (.ifCond .eq 12, 0, 0), (.iload 2, 0, 0), (.invokevirtual 10, 1, 735), (.ifCond .eq 12, 0, 0), (.iload 4, 0, 1), (.bipush 1, 0, 0), (.bipush 99, 1, 0), (.invokevirtual 0, 3, 101), (.ifCond .ne 14, 0, 0), (.bipush (-1), 0, 0), (.ireturn, 0, 0), (.bipush 0, 0, 0), (.istore 5, 0, 1), (.iload 5, 0, 1), (.bipush 2, 0, 0), (.iload 0, 1, 0), (.checkcast 0, 7, 7), (.bipush 276, 2, 0), (.iaload, 0, 0), (.imul, 0, 0), (.if_icmp .ge 43, 0, 0), (.iload 0, 1, 0), (.iload 5, 0, 1), (.bipush 0, 0, 0), (.iload 2, 0, 0), (.iadd, 0, 0), (.invokevirtual 5, 3, 109), (.iload 3, 0, 0), (.if_icmp .lt 41, 0, 0), (.iload 0, 1, 0), (.iload 5, 0, 1), (.iload 1, 0, 0), (.iload 4, 0, 1), (.bipush 0, 0, 0), (.invokevirtual 68, 5, 709), (.ifCond .eq 41, 0, 0), (.iload 5, 0, 1), (.ireturn, 0, 0), (.iinc 5 1, 0, 0), (.goto 16, 0, 0), (.bipush (-1), 0, 0), (.ireturn, 0, 0)]
/-- LentHandsModel.dear(III)I -/
def am_c122 : List am_I := [(.bipush 99, 1, 0), (.istore 4, 0, 1), (.iload 4, 0, 1), (.ifCond .lt 15, 0, 0), (.iload 0, 1, 0), (.iload 1, 0, 0), (.iload 2, 0, 0), (.iload 3, 0, 0), (.iload 4, 0, 1), (.invokevirtual 68, 5, 709), (.ifCond .eq 13, 0, 0), (.iload 4, 0, 1), (.ireturn, 0, 0), (.iinc 4 (-1), 0, 0), (.goto 2, 0, 0), (.bipush (-1), 0, 0), (.ireturn, 0, 0)]
/-- LentHandsModel.isLent(II)Z -/
def am_c123 : List am_I := [(.iload 1, 0, 0), (.bipush (-1), 0, 0), (.if_icmp .ne 5, 0, 0), (.bipush 1, 0, 0), (.ireturn, 1, 0), (.iload 0, 1, 0), (.iload 1, 0, 0), (.iload 2, 0, 0), (.bipush 1, 0, 0), (.bipush 0, 0, 0), (.invokevirtual 68, 5, 709), (.ifCond .ne 14, 0, 0), (.bipush 0, 0, 0), (.ireturn, 1, 0), (.iload 0, 1, 0), (.iload 1, 0, 0), (.iload 2, 0, 0), (.bipush 1, 0, 0), (.bipush 0, 0, 0), (.invokevirtual 70, 5, 721), (.pop, 0, 0), (.bipush 1, 0, 0), (.ireturn, 1, 0)]
/-- LentHandsModel.canBy(IIII)Z -/
def am_c124 : List am_I := [(.iload 0, 1, 0), (.invokevirtual 104, 1, 876), (.iload 0, 1, 0), (.iload 3, 0, 0), (.iload 1, 0, 0), (.invokevirtual 123, 3, 933), (.ifCond .eq 19, 0, 0), (.iload 0, 1, 0), (.iload 4, 0, 1), (.iload 1, 0, 0), (.invokevirtual 123, 3, 933), (.ifCond .eq 19, 0, 0), (.iload 0, 1, 0), (.iload 1, 0, 0), (.iload 2, 0, 0), (.invokevirtual 99, 3, 859), (.ifCond .eq 19, 0, 0), (.bipush 1, 0, 0), (.goto 20, 0, 0), (.bipush 0, 0, 0), (.istore 5, 0, 1), (.iload 0, 1, 0), (.invokevirtual 105, 1, 888), (.iload 5, 0, 1), (.ireturn, 1, 0)]
/-- LentHandsModel.laysWishes(II)V -/
def am_c125 : List am_I := [(.iload 0, 1, 0), (.bipush (-1), 0, 0), (.putfield 33, 7, 938), (.bipush (-2), 1, 0), (.istore 3, 0, 0), (.iload 3, 0, 0), (.bipush 2, 0, 0), (.iload 0, 1, 0), (.checkcast 0, 7, 7), (.bipush 276, 2, 0), (.iaload, 0, 0), (.imul, 0, 0), (.if_icmp .ge 72, 0, 0), (.bipush (-1), 0, 0), (.istore 4, 0, 1), (.iload 4, 0, 1), (.bipush 2, 0, 0), (.iload 0, 1, 0), (.checkcast 0, 7, 7), (.bipush 276, 2, 0), (.iaload, 0, 0), (.imul, 0, 0), (.if_icmp .ge 70, 0, 0), (.iload 3, 0, 0), (.ifCond .ge 27, 0, 0), (.bipush (-1), 0, 0), (.goto 28, 0, 0), (.iload 3, 0, 0), (.istore 5, 0, 1), (.iload 5, 0, 1), (.bipush (-1), 0, 0), (.if_icmp .ne 34, 0, 0), (.bipush 0, 0, 0), (.goto 35, 0, 0), (.bipush 1, 0, 0), (.iload 4, 0, 1), (.bipush (-1), 0, 0), (.if_icmp .ne 40, 0, 0), (.bipush 0, 0, 0), (.goto 41, 0, 0), (.bipush 1, 0, 0), (.iadd, 0, 0), (.istore 6, 0, 1), (.iload 0, 1, 0), (.getfield 33, 7, 469), (.bipush (-1), 0, 0), (.if_icmp .eq 51, 0, 0), (.iload 6, 0, 1), (.iload 0, 1, 0), (.getfield 33, 7, 469), (.if_icmp .ge 68, 0, 0), (.iload 0, 1, 0), (.iload 1, 0, 0), (.iload 2, 0, 0), (.iload 5, 0, 1), (.iload 4, 0, 1), (.invokevirtual 124, 5, 945), (.ifCond .ne 59, 0, 0), (.goto 68, 0, 0), (.iload 0, 1, 0), (.iload 6, 0, 1), (.putfield 33, 7, 938), (.iload 0, 1, 0), (.iload 5, 0, 1), (.putfield 34, 7, 950), (.iload 0, 1, 0), (.iload 4, 0, 1), (.putfield 35, 7, 956), (.iinc 4 2, 0, 0), (.goto 15, 0, 0), (.iinc 3 2, 0, 0), (.goto 5, 0, 0), (.return_, 0, 0)]
/-- LentHandsModel.wishes(III)I -/
def am_c126 : List am_I := [(.iload 0, 1, 0), (.iload 1, 0, 0), (.invokevirtual 8, 2, 147), (.ifCond .eq 19, 0, 0), (.iload 2, 0, 0), (.bipush 0, 0, 0), (.iload 0, 1, 0), (.checkcast 0, 7, 7), (.bipush 287, 2, 0), (.iaload, 0, 0), (.bipush 1, 0, 0), (.isub, 0, 0), (.invokevirtual 0, 3, 101), (.ifCond .eq 19, 0, 0), (.iload 3, 0, 0), (.bipush 0, 0, 0), (.bipush 2, 0, 0), (.invokevirtual 0, 3, 101), (.ifCond .ne 21, 0, 0), (.bipush (-2), 1, 0), (.ireturn, 0, 0), (.iload 0, 1, 0), (.iload 1, 0, 0), (.iload 2, 0, 0), (.invokevirtual 125, 3, 962), (.iload 0, 1, 0), (.getfield 33, 7, 469), (.bipush (-1), 0, 0), (.if_icmp .ne 31, 0, 0), (.bipush (-2), 1, 0), (.ireturn, 0, 0), (.iload 3, 0, 0), (.ifCond .ne 36, 0, 0), (.iload 0, 1, 0), (.getfield 33, 7, 469), (.goto 44, 0, 0), (.iload 3, 0, 0), (.bipush 1, 0, 0), (.if_icmp .ne 42, 0, 0), (.iload 0, 1, 0), (.getfield 34, 7, 475), (.goto 44, 0, 0), (.iload 0, 1, 0), (.getfield 35, 7, 478), (.ireturn, 0, 0)]
/-- LentHandsModel.spread(II)I -/
def am_c127 : List am_I := [(.iload 1, 0, 0), (.invokevirtual 10, 1, 735), (.ifCond .ne 5, 0, 0), (.bipush (-1), 0, 0), (.ireturn, 0, 0), (.bipush 0, 0, 0), (.istore 3, 0, 0), (.bipush 0, 0, 0), (.istore 4, 0, 1), (.iload 4, 0, 1), (.iload 0, 1, 0), (.checkcast 0, 7, 7), (.bipush 276, 2, 0), (.iaload, 0, 0), (.if_icmp .ge 39, 0, 0), (.iload 3, 0, 0), (.iload 0, 1, 0), (.iload 4, 0, 1), (.bipush 0, 0, 0), (.iload 1, 0, 0), (.iload 2, 0, 0), (.invokevirtual 98, 5, 853), (.ifCond .ne 30, 0, 0), (.iload 0, 1, 0), (.iload 4, 0, 1), (.bipush 1, 0, 0), (.iload 1, 0, 0), (.iload 2, 0, 0), (.invokevirtual 98, 5, 853), (.ifCond .eq 34, 0, 0), (.bipush 1, 0, 0), (.iload 4, 0, 1), (.ishl, 0, 0), (.goto 35, 0, 0), (.bipush 0, 0, 0), (.ior, 0, 0), (.istore 3, 0, 0), (.iinc 4 1, 0, 0), (.goto 9, 0, 0), (.iload 3, 0, 0), (.ireturn, 0, 0)]
/-- LentHandsModel.out(I)I -/
def am_c128 : List am_I := [(.iload 1, 0, 0), (.bipush 0, 0, 0), (.bipush 300, 2, 0), (.invokevirtual 0, 3, 101), (.ifCond .ne 7, 0, 0), (.bipush (-1), 0, 0), (.ireturn, 0, 0), (.iload 0, 1, 0), (.invokevirtual 104, 1, 876), (.bipush 0, 0, 0), (.istore 2, 0, 0), (.iload 2, 0, 0), (.iload 1, 0, 0), (.if_icmp .ge 20, 0, 0), (.iload 0, 1, 0), (.bipush 0, 0, 0), (.invokevirtual 87, 2, 839), (.pop, 0, 0), (.iinc 2 1, 0, 0), (.goto 11, 0, 0), (.bipush 0, 0, 0), (.istore 2, 0, 0), (.bipush 0, 0, 0), (.istore 3, 0, 0), (.iload 3, 0, 0), (.bipush 2, 0, 0), (.iload 0, 1, 0), (.checkcast 0, 7, 7), (.bipush 276, 2, 0), (.iaload, 0, 0), (.imul, 0, 0), (.if_icmp .ge 49, 0, 0), (.iload 2, 0, 0), (.iload 0, 1, 0), (.iload 3, 0, 0), (.bipush 8, 1, 0), (.invokevirtual 5, 3, 109), (.iload 3, 0, 0), (.invokevirtual 13, 1, 643), (.if_icmp .eq 44, 0, 0), (.bipush 1, 0, 0), (.iload 3, 0, 0), (.ishl, 0, 0), (.goto 45, 0, 0), (.bipush 0, 0, 0), (.ior, 0, 0), (.istore 2, 0, 0), (.iinc 3 1, 0, 0), (.goto 24, 0, 0), (.iload 0, 1, 0), (.invokevirtual 105, 1, 888), (.iload 2, 0, 0), (.ireturn, 0, 0)]
/-- LentHandsModel.turnsOf(IIII)I -/
def am_c129 : List am_I := [(.iload 1, 0, 0), (.bipush 1, 0, 0), (.bipush 60, 1, 0), (.invokevirtual 0, 3, 101), (.ifCond .eq 24, 0, 0), (.iload 2, 0, 0), (.bipush 1, 0, 0), (.bipush 9, 1, 0), (.invokevirtual 0, 3, 101), (.ifCond .eq 24, 0, 0), (.iload 3, 0, 0), (.bipush 1, 0, 0), (.bipush 9, 1, 0), (.invokevirtual 0, 3, 101), (.ifCond .eq 24, 0, 0), (.iload 4, 0, 1), (.ifCond .eq 26, 0, 0), (.iload 4, 0, 1), (.bipush 10, 1, 0), (.bipush 9, 1, 0), (.iload 1, 0, 0), (.iadd, 0, 0), (.invokevirtual 0, 3, 101), (.ifCond .ne 26, 0, 0), (.bipush (-1), 0, 0), (.ireturn, 0, 0), (.bipush 0, 0, 0), (.istore 5, 0, 1), (.bipush 0, 0, 0), (.istore 6, 0, 1), (.bipush 0, 0, 0), (.istore 7, 0, 1), (.iload 7, 0, 1), (.iload 1, 0, 0), (.if_icmp .ge 75, 0, 0), (.iload 5, 0, 1), (.iload 3, 0, 0), (.imul, 0, 0), (.iload 6, 0, 1), (.iload 2, 0, 0), (.imul, 0, 0), (.if_icmp .gt 44, 0, 0), (.bipush 1, 0, 0), (.goto 45, 0, 0), (.bipush 0, 0, 0), (.istore 8, 0, 1), (.iload 4, 0, 1), (.bipush 10, 1, 0), (.iload 7, 0, 1), (.iadd, 0, 0), (.if_icmp .ne 57, 0, 0), (.iload 8, 0, 1), (.ifCond .eq 55, 0, 0), (.bipush 0, 0, 0), (.goto 56, 0, 0), (.bipush 1, 0, 0), (.ireturn, 0, 0), (.iload 5, 0, 1), (.iload 8, 0, 1), (.ifCond .eq 62, 0, 0), (.bipush 1, 0, 0), (.goto 63, 0, 0), (.bipush 0, 0, 0), (.iadd, 0, 0), (.istore 5, 0, 1), (.iload 6, 0, 1), (.iload 8, 0, 1), (.ifCond .eq 70, 0, 0), (.bipush 0, 0, 0), (.goto 71, 0, 0), (.bipush 1, 0, 0), (.iadd, 0, 0), (.istore 6, 0, 1), (.iinc 7 1, 0, 0), (.goto 32, 0, 0), (.iload 5, 0, 1), (.ireturn, 0, 0)]
/-- LentHandsModel.image(Z)Z -/
def am_c130 : List am_I := [(.iload 1, 0, 0), (.ifCond .ne 7, 0, 0), (.iload 0, 1, 0), (.getfield 5, 7, 484), (.ifCond .ne 7, 0, 0), (.bipush 0, 0, 0), (.ireturn, 1, 0), (.bipush 0, 0, 0), (.istore 2, 0, 0), (.iload 2, 0, 0), (.bipush 3456, 2, 0), (.if_icmp .ge 33, 0, 0), (.iload 1, 0, 0), (.ifCond .eq 23, 0, 0), (.iload 0, 1, 0), (.checkcast 1, 7, 13), (.iload 2, 0, 0), (.iload 0, 1, 0), (.checkcast 0, 7, 7), (.iload 2, 0, 0), (.iaload, 0, 0), (.iastore, 0, 0), (.goto 31, 0, 0), (.iload 0, 1, 0), (.checkcast 0, 7, 7), (.iload 2, 0, 0), (.iload 0, 1, 0), (.checkcast 1, 7, 13), (.iload 2, 0, 0), (.iaload, 0, 0), (.iastore, 0, 0), (.iinc 2 1, 0, 0), (.goto 9, 0, 0), (.iload 1, 0, 0), (.ifCond .ne 37, 0, 0), (.iload 0, 1, 0), (.invokevirtual 14, 1, 122), (.iload 0, 1, 0), (.bipush 1, 0, 0), (.putfield 5, 7, 969), (.bipush 1, 0, 0), (.ireturn, 1, 0)]
/-- LentHandsModel.inOffice()I -/
def am_c131 : List am_I := [(.bipush 0, 0, 0), (.istore 1, 0, 0), (.bipush 0, 0, 0), (.istore 2, 0, 0), (.iload 2, 0, 0), (.bipush 2, 0, 0), (.iload 0, 1, 0), (.checkcast 0, 7, 7), (.bipush 276, 2, 0), (.iaload, 0, 0), (.imul, 0, 0), (.if_icmp .ge 28, 0, 0), (.iload 1, 0, 0), (.iload 0, 1, 0), (.iload 2, 0, 0), (.bipush 8, 1, 0), (.invokevirtual 5, 3, 109), (.bipush (-1), 0, 0), (.if_icmp .ne 23, 0, 0), (.bipush 1, 0, 0), (.iload 2, 0, 0), (.ishl, 0, 0), (.goto 24, 0, 0), (.bipush 0, 0, 0), (.ior, 0, 0), (.istore 1, 0, 0), (.iinc 2 1, 0, 0), (.goto 4, 0, 0), (.iload 1, 0, 0), (.ireturn, 0, 0)]
/-- LentHandsModel.look(I)I -/
def am_c132 : List am_I := [(.iload 1, 0, 0), (.tableswitch 58 0 11 #[2, 7, 12, 17, 22, 27, 32, 37, 42, 47, 52, 55], 63, 0), (.iload 0, 1, 0), (.checkcast 0, 7, 7), (.bipush 276, 2, 0), (.iaload, 0, 0), (.ireturn, 0, 0), (.iload 0, 1, 0), (.checkcast 0, 7, 7), (.bipush 0, 0, 0), (.iaload, 0, 0), (.ireturn, 0, 0), (.iload 0, 1, 0), (.checkcast 0, 7, 7), (.bipush 1, 0, 0), (.iaload, 0, 0), (.ireturn, 0, 0), (.iload 0, 1, 0), (.checkcast 0, 7, 7), (.bipush 2, 0, 0), (.iaload, 0, 0), (.ireturn, 0, 0), (.iload 0, 1, 0), (.checkcast 0, 7, 7), (.bipush 3, 0, 0), (.iaload, 0, 0), (.ireturn, 0, 0), (.iload 0, 1, 0), (.checkcast 0, 7, 7), (.bipush 288, 2, 0), (.iaload, 0, 0), (.ireturn, 0, 0), (.iload 0, 1, 0), (.checkcast 0, 7, 7), (.bipush 289, 2, 0), (.iaload, 0, 0), (.ireturn, 0, 0), (.iload 0, 1, 0), (.checkcast 0, 7, 7), (.bipush 290, 2, 0), (.iaload, 0, 0), (.ireturn, 0, 0), (.iload 0, 1, 0), (.checkcast 0, 7, 7), (.bipush 286, 2, 0), (.iaload, 0, 0), (.ireturn, 0, 0), (.iload 0, 1, 0), (.checkcast 0, 7, 7), (.bipush 287, 2, 0), (.iaload, 0, 0), (.ireturn, 0, 0), (.iload 0, 1, 0), (.getfield 4, 7, 58), (.ireturn, 0, 0), (.iload 0, 1, 0), (.invokevirtual 131, 1, 977), (.ireturn, 0, 0), (.bipush (-1), 0, 0), (.ireturn, 0, 0)]
/-- LentHands$World.copyFrom(LLentHands$World;)V -/
def am_c133 : List am_I := [(.iload 0, 1, 0), (.iload 1, 1, 0), (.getfield 0, 5, 48), (.putfield 0, 5, 96), (.iload 0, 1, 0), (.iload 1, 1, 0), (.getfield 1, 5, 52), (.putfield 1, 5, 104), (.iload 0, 1, 0), (.iload 1, 1, 0), (.getfield 2, 5, 55), (.putfield 2, 5, 110), (.iload 0, 1, 0), (.iload 1, 1, 0), (.getfield 3, 5, 58), (.putfield 3, 5, 116), (.iload 0, 1, 0), (.iload 1, 1, 0), (.getfield 4, 5, 61), (.putfield 4, 5, 122), (.iload 1, 1, 0), (.checkcast 5, 5, 9), (.bipush 0, 0, 0), (.iload 0, 1, 0), (.checkcast 5, 5, 9), (.bipush 0, 0, 0), (.bipush 8, 1, 0), (.lcmp, 64, 0), (.iload 1, 1, 0), (.checkcast 6, 5, 15), (.bipush 0, 0, 0), (.iload 0, 1, 0), (.checkcast 6, 5, 15), (.bipush 0, 0, 0), (.bipush 8, 1, 0), (.lcmp, 64, 0), (.iload 1, 1, 0), (.checkcast 7, 5, 18), (.bipush 0, 0, 0), (.iload 0, 1, 0), (.checkcast 7, 5, 18), (.bipush 0, 0, 0), (.bipush 8, 1, 0), (.lcmp, 64, 0), (.iload 1, 1, 0), (.checkcast 8, 5, 21), (.bipush 0, 0, 0), (.iload 0, 1, 0), (.checkcast 8, 5, 21), (.bipush 0, 0, 0), (.bipush 8, 1, 0), (.lcmp, 64, 0), (.iload 1, 1, 0), (.checkcast 9, 5, 24), (.bipush 0, 0, 0), (.iload 0, 1, 0), (.checkcast 9, 5, 24), (.bipush 0, 0, 0), (.bipush 16, 1, 0), (.lcmp, 64, 0), (.iload 1, 1, 0), (.checkcast 10, 5, 27), (.bipush 0, 0, 0), (.iload 0, 1, 0), (.checkcast 10, 5, 27), (.bipush 0, 0, 0), (.bipush 16, 1, 0), (.lcmp, 64, 0), (.iload 1, 1, 0), (.checkcast 11, 5, 30), (.bipush 0, 0, 0), (.iload 0, 1, 0), (.checkcast 11, 5, 30), (.bipush 0, 0, 0), (.bipush 64, 1, 0), (.lcmp, 64, 0), (.iload 1, 1, 0), (.checkcast 12, 5, 33), (.bipush 0, 0, 0), (.iload 0, 1, 0), (.checkcast 12, 5, 33), (.bipush 0, 0, 0), (.bipush 16, 1, 0), (.lcmp, 64, 0), (.iload 1, 1, 0), (.checkcast 13, 5, 36), (.bipush 0, 0, 0), (.iload 0, 1, 0), (.checkcast 13, 5, 36), (.bipush 0, 0, 0), (.bipush 16, 1, 0), (.lcmp, 64, 0), (.iload 1, 1, 0), (.checkcast 14, 5, 39), (.bipush 0, 0, 0), (.iload 0, 1, 0), (.checkcast 14, 5, 39), (.bipush 0, 0, 0), (.bipush 16, 1, 0), (.lcmp, 64, 0), (.iload 1, 1, 0), (.checkcast 15, 5, 42), (.bipush 0, 0, 0), (.iload 0, 1, 0), (.checkcast 15, 5, 42), (.bipush 0, 0, 0), (.bipush 16, 1, 0), (.lcmp, 64, 0), (.iload 1, 1, 0), (.checkcast 16, 5, 45), (.bipush 0, 0, 0), (.iload 0, 1, 0), (.checkcast 16, 5, 45), (.bipush 0, 0, 0), (.bipush 80, 1, 0), (.lcmp, 64, 0), (.return_, 0, 0)]
/-- LentHands$World.hasPerson(I)Z -/
def am_c134 : List am_I := [(.iload 1, 0, 0), (.ifCond .lt 8, 0, 0), (.iload 1, 0, 0), (.iload 0, 1, 0), (.getfield 2, 5, 55), (.if_icmp .ge 8, 0, 0), (.bipush 1, 0, 0), (.goto 9, 0, 0), (.bipush 0, 0, 0), (.ireturn, 1, 0)]
/-- LentHands$World.hasHand(I)Z -/
def am_c135 : List am_I := [(.iload 1, 0, 0), (.ifCond .lt 10, 0, 0), (.iload 1, 0, 0), (.bipush 2, 0, 0), (.iload 0, 1, 0), (.getfield 2, 5, 55), (.imul, 0, 0), (.if_icmp .ge 10, 0, 0), (.bipush 1, 0, 0), (.goto 11, 0, 0), (.bipush 0, 0, 0), (.ireturn, 1, 0)]
/-- LentHands$World.born(II)I -/
def am_c136 : List am_I := [(.iload 0, 1, 0), (.getfield 2, 5, 55), (.istore 3, 0, 0), (.iload 0, 1, 0), (.dup, 0, 0), (.getfield 2, 5, 55), (.bipush 1, 0, 0), (.iadd, 0, 0), (.putfield 2, 5, 110), (.iload 0, 1, 0), (.checkcast 5, 5, 9), (.iload 3, 0, 0), (.iload 1, 0, 0), (.iastore, 0, 0), (.iload 0, 1, 0), (.checkcast 6, 5, 15), (.iload 3, 0, 0), (.iload 2, 0, 0), (.iastore, 0, 0), (.iload 0, 1, 0), (.checkcast 7, 5, 18), (.iload 3, 0, 0), (.bipush (-1), 0, 0), (.iastore, 0, 0), (.iload 0, 1, 0), (.checkcast 9, 5, 24), (.bipush 2, 0, 0), (.iload 3, 0, 0), (.imul, 0, 0), (.bipush 2, 0, 0), (.iload 3, 0, 0), (.imul, 0, 0), (.iastore, 0, 0), (.iload 0, 1, 0), (.checkcast 9, 5, 24), (.bipush 2, 0, 0), (.iload 3, 0, 0), (.imul, 0, 0), (.bipush 1, 0, 0), (.iadd, 0, 0), (.bipush 2, 0, 0), (.iload 3, 0, 0), (.imul, 0, 0), (.bipush 1, 0, 0), (.iadd, 0, 0), (.iastore, 0, 0), (.iload 0, 1, 0), (.checkcast 10, 5, 27), (.bipush 2, 0, 0), (.iload 3, 0, 0), (.imul, 0, 0), (.iload 3, 0, 0), (.iastore, 0, 0), (.iload 0, 1, 0), (.checkcast 10, 5, 27), (.bipush 2, 0, 0), (.iload 3, 0, 0), (.imul, 0, 0), (.bipush 1, 0, 0), (.iadd, 0, 0), (.iload 3, 0, 0), (.iastore, 0, 0), (.iload 3, 0, 0), (.ireturn, 0, 0)]
/-- LentHands$World.tellPerson(ZII)Z -/
def am_c137 : List am_I := [(.iload 3, 0, 0), (.ifCond .lt 9, 0, 0), (.iload 3, 0, 0), (.iload 1, 0, 0), (.ifCond .eq 7, 0, 0), (.bipush 9999, 2, 0), (.goto 8, 0, 0), (.bipush 1, 0, 0), (.if_icmp .le 11, 0, 0), (.bipush 0, 0, 0), (.ireturn, 1, 0), (.iload 1, 0, 0), (.ifCond .eq 19, 0, 0), (.iload 0, 1, 0), (.checkcast 5, 5, 9), (.iload 2, 0, 0), (.iload 3, 0, 0), (.iastore, 0, 0), (.goto 24, 0, 0), (.iload 0, 1, 0), (.checkcast 6, 5, 15), (.iload 2, 0, 0), (.iload 3, 0, 0), (.iastore, 0, 0), (.bipush 1, 0, 0), (.ireturn, 1, 0)]
/-- LentHands$World.tellHand(III)Z -/
def am_c138 : List am_I := [(.iload 1, 0, 0), (.ifCond .lt 15, 0, 0), (.iload 1, 0, 0), (.bipush 5, 0, 0), (.if_icmp .gt 15, 0, 0), (.iload 3, 0, 0), (.ifCond .lt 15, 0, 0), (.iload 3, 0, 0), (.iload 1, 0, 0), (.bipush 4, 0, 0), (.if_icmp .gt 13, 0, 0), (.bipush 99, 1, 0), (.goto 14, 0, 0), (.bipush 9, 1, 0), (.if_icmp .le 17, 0, 0), (.bipush 0, 0, 0), (.ireturn, 1, 0), (.iload 1, 0, 0), (.bipush 4, 0, 0), (.if_icmp .ge 30, 0, 0), (.iload 0, 1, 0), (.checkcast 11, 5, 30), (.iload 2, 0, 0), (.bipush 4, 0, 0), (.imul, 0, 0), (.iload 1, 0, 0), (.iadd, 0, 0), (.iload 3, 0, 0), (.iastore, 0, 0), (.goto 44, 0, 0), (.iload 1, 0, 0), (.bipush 4, 0, 0), (.if_icmp .ne 39, 0, 0), (.iload 0, 1, 0), (.checkcast 12, 5, 33), (.iload 2, 0, 0), (.iload 3, 0, 0), (.iastore, 0, 0), (.goto 44, 0, 0), (.iload 0, 1, 0), (.checkcast 13, 5, 36), (.iload 2, 0, 0), (.iload 3, 0, 0), (.iastore, 0, 0), (.bipush 1, 0, 0), (.ireturn, 1, 0)]
/-- LentHands$World.isHome(I)Z -/
def am_c139 : List am_I := [(.iload 0, 1, 0), (.checkcast 10, 5, 27), (.iload 1, 0, 0), (.iaload, 0, 0), (.iload 1, 0, 0), (.bipush 1, 0, 0), (.ishr, 0, 0), (.if_icmp .ne 10, 0, 0), (.bipush 1, 0, 0), (.goto 11, 0, 0), (.bipush 0, 0, 0), (.ireturn, 1, 0)]
/-- LentHands$World.astray()I -/
def am_c140 : List am_I := [(.bipush 0, 0, 0), (.istore 1, 0, 0), (.bipush 0, 0, 0), (.istore 2, 0, 0), (.iload 2, 0, 0), (.bipush 2, 0, 0), (.iload 0, 1, 0), (.getfield 2, 5, 55), (.imul, 0, 0), (.if_icmp .ge 22, 0, 0), (.iload 0, 1, 0), (.iload 2, 0, 0), (.invokevirtual 139, 2, 141), (.ifCond .ne 20, 0, 0), (.iload 1, 0, 0), (.bipush 1, 0, 0), (.iload 2, 0, 0), (.ishl, 0, 0), (.ior, 0, 0), (.istore 1, 0, 0), (.iinc 2 1, 0, 0), (.goto 4, 0, 0), (.iload 1, 0, 0), (.ireturn, 0, 0)]
/-- LentHands$World.bestSkill(I)I -/
def am_c141 : List am_I := [(.bipush 0, 0, 0), (.istore 2, 0, 0), (.bipush 0, 0, 0), (.istore 3, 0, 0), (.iload 3, 0, 0), (.bipush 4, 0, 0), (.if_icmp .ge 25, 0, 0), (.iload 0, 1, 0), (.checkcast 11, 5, 30), (.iload 1, 0, 0), (.bipush 4, 0, 0), (.imul, 0, 0), (.iload 3, 0, 0), (.iadd, 0, 0), (.iaload, 0, 0), (.istore 4, 0, 1), (.iload 4, 0, 1), (.iload 2, 0, 0), (.if_icmp .le 21, 0, 0), (.iload 4, 0, 1), (.goto 22, 0, 0), (.iload 2, 0, 0), (.istore 2, 0, 0), (.iinc 3 1, 0, 0), (.goto 4, 0, 0), (.iload 2, 0, 0), (.ireturn, 0, 0)]
/-- LentHands$World.loanCell(II)I -/
def am_c142 : List am_I := [(.iload 0, 1, 0), (.checkcast 16, 5, 45), (.iload 1, 0, 0), (.bipush 5, 0, 0), (.imul, 0, 0), (.iload 2, 0, 0), (.iadd, 0, 0), (.iaload, 0, 0), (.ireturn, 0, 0)]
/-- LentHands$World.latestLoan(I)I -/
def am_c143 : List am_I := [(.iload 0, 1, 0), (.getfield 3, 5, 58), (.bipush 1, 0, 0), (.isub, 0, 0), (.istore 2, 0, 0), (.iload 2, 0, 0), (.ifCond .lt 17, 0, 0), (.iload 0, 1, 0), (.iload 2, 0, 0), (.bipush 0, 0, 0), (.invokevirtual 142, 3, 149), (.iload 1, 0, 0), (.if_icmp .ne 15, 0, 0), (.iload 2, 0, 0), (.ireturn, 0, 0), (.iinc 2 (-1), 0, 0), (.goto 5, 0, 0), (.bipush (-1), 0, 0), (.ireturn, 0, 0)]
/-- LentHands$World.loansOf(I)I -/
def am_c144 : List am_I := [(.bipush 0, 0, 0), (.istore 2, 0, 0), (.bipush 0, 0, 0), (.istore 3, 0, 0), (.iload 3, 0, 0), (.iload 0, 1, 0), (.getfield 3, 5, 58), (.if_icmp .ge 17, 0, 0), (.iload 0, 1, 0), (.iload 3, 0, 0), (.bipush 0, 0, 0), (.invokevirtual 142, 3, 149), (.iload 1, 0, 0), (.if_icmp .ne 15, 0, 0), (.iinc 2 1, 0, 0), (.iinc 3 1, 0, 0), (.goto 4, 0, 0), (.iload 2, 0, 0), (.ireturn, 0, 0)]
/-- LentHands$World.toOffice(I)V -/
def am_c145 : List am_I := [(.iload 0, 1, 0), (.checkcast 10, 5, 27), (.iload 1, 0, 0), (.iaload, 0, 0), (.bipush (-1), 0, 0), (.if_icmp .eq 20, 0, 0), (.iload 0, 1, 0), (.checkcast 9, 5, 24), (.bipush 2, 0, 0), (.iload 0, 1, 0), (.checkcast 10, 5, 27), (.iload 1, 0, 0), (.iaload, 0, 0), (.imul, 0, 0), (.iload 1, 0, 0), (.bipush 1, 0, 0), (.iand, 0, 0), (.iadd, 0, 0), (.bipush (-1), 0, 0), (.iastore, 0, 0), (.iload 0, 1, 0), (.checkcast 10, 5, 27), (.iload 1, 0, 0), (.bipush (-1), 0, 0), (.iastore, 0, 0), (.iload 0, 1, 0), (.checkcast 15, 5, 42), (.iload 1, 0, 0), (.bipush 0, 0, 0), (.iastore, 0, 0), (.return_, 0, 0)]
/-- LentHands$World.toWrist(II)V -/
def am_c146 : List am_I := [(.iload 0, 1, 0), (.checkcast 9, 5, 24), (.bipush 2, 0, 0), (.iload 2, 0, 0), (.imul, 0, 0), (.iload 1, 0, 0), (.bipush 1, 0, 0), (.iand, 0, 0), (.iadd, 0, 0), (.iload 1, 0, 0), (.iastore, 0, 0), (.iload 0, 1, 0), (.checkcast 10, 5, 27), (.iload 1, 0, 0), (.iload 2, 0, 0), (.iastore, 0, 0), (.iload 0, 1, 0), (.checkcast 15, 5, 42), (.iload 1, 0, 0), (.bipush 0, 0, 0), (.iastore, 0, 0), (.return_, 0, 0)]
/-- LentHands$World.makeLoan(IIII)I -/
def am_c147 : List am_I := [(.iload 0, 1, 0), (.checkcast 10, 5, 27), (.iload 1, 0, 0), (.iaload, 0, 0), (.istore 5, 0, 1), (.iload 0, 1, 0), (.checkcast 9, 5, 24), (.bipush 2, 0, 0), (.iload 2, 0, 0), (.imul, 0, 0), (.iload 1, 0, 0), (.bipush 1, 0, 0), (.iand, 0, 0), (.iadd, 0, 0), (.iaload, 0, 0), (.istore 6, 0, 1), (.iload 0, 1, 0), (.checkcast 5, 5, 9), (.iload 2, 0, 0), (.dup2, 0, 0), (.iaload, 0, 0), (.iload 3, 0, 0), (.iload 4, 0, 1), (.imul, 0, 0), (.isub, 0, 0), (.iastore, 0, 0), (.iload 0, 1, 0), (.checkcast 5, 5, 9), (.iload 5, 0, 1), (.iload 0, 1, 0), (.checkcast 5, 5, 9), (.iload 5, 0, 1), (.iaload, 0, 0), (.iload 3, 0, 0), (.iload 4, 0, 1), (.imul, 0, 0), (.iadd, 0, 0), (.bipush 9999, 2, 0), (.lsub, 78, 0), (.iastore, 0, 0), (.iload 6, 0, 1), (.bipush (-1), 0, 0), (.if_icmp .eq 46, 0, 0), (.iload 0, 1, 0), (.iload 6, 0, 1), (.invokevirtual 145, 2, 166), (.iload 0, 1, 0), (.iload 1, 0, 0), (.invokevirtual 145, 2, 166), (.iload 0, 1, 0), (.iload 1, 0, 0), (.iload 2, 0, 0), (.invokevirtual 146, 3, 174), (.iload 0, 1, 0), (.getfield 3, 5, 58), (.bipush 5, 0, 0), (.imul, 0, 0), (.istore 7, 0, 1), (.iload 0, 1, 0), (.checkcast 16, 5, 45), (.iload 7, 0, 1), (.bipush 0, 0, 0), (.iadd, 0, 0), (.iload 1, 0, 0), (.iastore, 0, 0), (.iload 0, 1, 0), (.checkcast 16, 5, 45), (.iload 7, 0, 1), (.bipush 1, 0, 0), (.iadd, 0, 0), (.iload 5, 0, 1), (.iastore, 0, 0), (.iload 0, 1, 0), (.checkcast 16, 5, 45), (.iload 7, 0, 1), (.bipush 2, 0, 0), (.iadd, 0, 0), (.iload 2, 0, 0), (.iastore, 0, 0), (.iload 0, 1, 0), (.checkcast 16, 5, 45), (.iload 7, 0, 1), (.bipush 3, 0, 0), (.iadd, 0, 0), (.iload 0, 1, 0), (.getfield 1, 5, 52), (.iload 3, 0, 0), (.iadd, 0, 0), (.iastore, 0, 0), (.iload 0, 1, 0), (.checkcast 16, 5, 45), (.iload 7, 0, 1), (.bipush 4, 0, 0), (.iadd, 0, 0), (.iload 4, 0, 1), (.iastore, 0, 0), (.iload 0, 1, 0), (.dup, 0, 0), (.getfield 3, 5, 58), (.bipush 1, 0, 0), (.iadd, 0, 0), (.putfield 3, 5, 116), (.iload 0, 1, 0), (.getfield 1, 5, 52), (.iload 3, 0, 0), (.iadd, 0, 0), (.ireturn, 0, 0)]
/-- LentHands$World.drawOfThousand()I -/
def am_c148 : List am_I := [(.iload 0, 1, 0), (.iload 0, 1, 0), (.getfield 0, 5, 48), (.bipush 1664525, 3, 91), (.imul, 0, 0), (.bipush 1013904223, 3, 92), (.iadd, 0, 0), (.putfield 0, 5, 96), (.iload 0, 1, 0), (.getfield 0, 5, 48), (.bipush 8, 1, 0), (.iushr, 0, 0), (.bipush 1000, 2, 0), (.irem, 0, 0), (.ireturn, 0, 0)]
/-- LentHands$World.growOld()V -/
def am_c149 : List am_I := [(.bipush 0, 0, 0), (.istore 1, 0, 0), (.iload 1, 0, 0), (.bipush 2, 0, 0), (.iload 0, 1, 0), (.getfield 2, 5, 55), (.imul, 0, 0), (.if_icmp .ge 37, 0, 0), (.iload 0, 1, 0), (.checkcast 10, 5, 27), (.iload 1, 0, 0), (.iaload, 0, 0), (.bipush (-1), 0, 0), (.if_icmp .eq 35, 0, 0), (.iload 0, 1, 0), (.checkcast 15, 5, 42), (.iload 1, 0, 0), (.dup2, 0, 0), (.iaload, 0, 0), (.bipush 1, 0, 0), (.iadd, 0, 0), (.iastore, 0, 0), (.iload 0, 1, 0), (.checkcast 14, 5, 39), (.iload 1, 0, 0), (.dup2, 0, 0), (.iaload, 0, 0), (.bipush 1, 0, 0), (.iload 0, 1, 0), (.checkcast 10, 5, 27), (.iload 1, 0, 0), (.iaload, 0, 0), (.ishl, 0, 0), (.ior, 0, 0), (.iastore, 0, 0), (.iinc 1 1, 0, 0), (.goto 2, 0, 0), (.iload 0, 1, 0), (.dup, 0, 0), (.getfield 1, 5, 52), (.bipush 1, 0, 0), (.iadd, 0, 0), (.putfield 1, 5, 104), (.return_, 0, 0)]
/-- LentHands$World.endLoans()V -/
def am_c150 : List am_I := [(.iload 0, 1, 0), (.getfield 3, 5, 58), (.bipush 1, 0, 0), (.isub, 0, 0), (.istore 1, 0, 0), (.iload 1, 0, 0), (.ifCond .lt 57, 0, 0), (.iload 0, 1, 0), (.iload 1, 0, 0), (.bipush 3, 0, 0), (.invokevirtual 142, 3, 149), (.iload 0, 1, 0), (.getfield 1, 5, 52), (.if_icmp .gt 55, 0, 0), (.iload 0, 1, 0), (.iload 0, 1, 0), (.iload 1, 0, 0), (.bipush 0, 0, 0), (.invokevirtual 142, 3, 149), (.iload 0, 1, 0), (.iload 1, 0, 0), (.bipush 1, 0, 0), (.invokevirtual 142, 3, 149), (.iload 0, 1, 0), (.iload 1, 0, 0), (.bipush 2, 0, 0), (.invokevirtual 142, 3, 149), (.invokevirtual 151, 4, 186), (.iload 1, 0, 0), (.bipush 1, 0, 0), (.iadd, 0, 0), (.bipush 5, 0, 0), (.imul, 0, 0), (.istore 2, 0, 0), (.iload 0, 1, 0), (.checkcast 16, 5, 45), (.iload 2, 0, 0), (.iload 0, 1, 0), (.checkcast 16, 5, 45), (.iload 2, 0, 0), (.bipush 5, 0, 0), (.isub, 0, 0), (.iload 0, 1, 0), (.getfield 3, 5, 58), (.bipush 5, 0, 0), (.imul, 0, 0), (.iload 2, 0, 0), (.isub, 0, 0), (.lcmp, 64, 0), (.iload 0, 1, 0), (.dup, 0, 0), (.getfield 3, 5, 58), (.bipush 1, 0, 0), (.isub, 0, 0), (.putfield 3, 5, 116), (.iinc 1 (-1), 0, 0), (.goto 5, 0, 0), (.return_, 0, 0)]
/-- LentHands$World.giveBack(III)V -/
def am_c151 : List am_I := [(.iload 1, 0, 0), (.bipush 1, 0, 0), (.iand, 0, 0), (.istore 4, 0, 1), (.bipush 2, 0, 0), (.iload 3, 0, 0), (.imul, 0, 0), (.iload 4, 0, 1), (.iadd, 0, 0), (.istore 5, 0, 1), (.iload 0, 1, 0), (.iload 1, 0, 0), (.invokevirtual 145, 2, 166), (.iload 0, 1, 0), (.checkcast 9, 5, 24), (.bipush 2, 0, 0), (.iload 2, 0, 0), (.imul, 0, 0), (.iload 4, 0, 1), (.iadd, 0, 0), (.iaload, 0, 0), (.bipush (-1), 0, 0), (.if_icmp .ne 27, 0, 0), (.iload 0, 1, 0), (.iload 1, 0, 0), (.iload 2, 0, 0), (.invokevirtual 146, 3, 174), (.iload 0, 1, 0), (.checkcast 9, 5, 24), (.iload 5, 0, 1), (.iaload, 0, 0), (.bipush (-1), 0, 0), (.if_icmp .ne 43, 0, 0), (.iload 0, 1, 0), (.checkcast 10, 5, 27), (.iload 5, 0, 1), (.iaload, 0, 0), (.bipush (-1), 0, 0), (.if_icmp .ne 43, 0, 0), (.iload 0, 1, 0), (.iload 5, 0, 1), (.iload 3, 0, 0), (.invokevirtual 146, 3, 174), (.return_, 0, 0)]
/-- LentHands$Law.copyFrom(LLentHands$Law;)V -/
def am_c152 : List am_I := [(.iload 0, 1, 0), (.iload 1, 1, 0), (.getfield 0, 1, 27), (.putfield 0, 1, 54), (.iload 0, 1, 0), (.iload 1, 1, 0), (.getfield 1, 1, 31), (.putfield 1, 1, 62), (.iload 1, 1, 0), (.checkcast 2, 1, 9), (.bipush 0, 0, 0), (.iload 0, 1, 0), (.checkcast 2, 1, 9), (.bipush 0, 0, 0), (.bipush 16, 1, 0), (.lcmp, 34, 0), (.iload 1, 1, 0), (.checkcast 3, 1, 15), (.bipush 0, 0, 0), (.iload 0, 1, 0), (.checkcast 3, 1, 15), (.bipush 0, 0, 0), (.bipush 16, 1, 0), (.lcmp, 34, 0), (.iload 1, 1, 0), (.checkcast 4, 1, 18), (.bipush 0, 0, 0), (.iload 0, 1, 0), (.checkcast 4, 1, 18), (.bipush 0, 0, 0), (.bipush 16, 1, 0), (.lcmp, 34, 0), (.iload 1, 1, 0), (.checkcast 5, 1, 21), (.bipush 0, 0, 0), (.iload 0, 1, 0), (.checkcast 5, 1, 21), (.bipush 0, 0, 0), (.bipush 16, 1, 0), (.lcmp, 34, 0), (.iload 1, 1, 0), (.checkcast 6, 1, 24), (.bipush 0, 0, 0), (.iload 0, 1, 0), (.checkcast 6, 1, 24), (.bipush 0, 0, 0), (.bipush 400, 2, 0), (.lcmp, 34, 0), (.return_, 0, 0)]
/-- LentHands$Law.put(I)V -/
def am_c153 : List am_I := [(.iload 0, 1, 0), (.getfield 1, 1, 31), (.bipush 400, 2, 0), (.if_icmp .ge 16, 0, 0), (.iload 0, 1, 0), (.checkcast 6, 1, 24), (.iload 0, 1, 0), (.getfield 1, 1, 31), (.iload 1, 0, 0), (.iastore, 0, 0), (.iload 0, 1, 0), (.dup, 0, 0), (.getfield 1, 1, 31), (.bipush 1, 0, 0), (.iadd, 0, 0), (.putfield 1, 1, 62), (.return_, 0, 0)]
/-- LentHands$Law.firstVerb(LLentHands$Asked;)I -/
def am_c154 : List am_I := [(.bipush 0, 0, 0), (.istore 2, 0, 0), (.iload 2, 0, 0), (.iload 0, 1, 0), (.getfield 0, 1, 27), (.if_icmp .ge 34, 0, 0), (.iload 0, 1, 0), (.checkcast 4, 1, 18), (.iload 2, 0, 0), (.iaload, 0, 0), (.iload 0, 1, 0), (.checkcast 5, 1, 21), (.iload 2, 0, 0), (.iaload, 0, 0), (.if_icmp .eq 27, 0, 0), (.iload 0, 1, 0), (.iload 0, 1, 0), (.checkcast 4, 1, 18), (.iload 2, 0, 0), (.iaload, 0, 0), (.iload 0, 1, 0), (.checkcast 5, 1, 21), (.iload 2, 0, 0), (.iaload, 0, 0), (.iload 1, 1, 0), (.invokevirtual 156, 4, 81), (.ifCond .eq 32, 0, 0), (.iload 0, 1, 0), (.checkcast 2, 1, 9), (.iload 2, 0, 0), (.iaload, 0, 0), (.ireturn, 0, 0), (.iinc 2 1, 0, 0), (.goto 2, 0, 0), (.bipush (-1), 0, 0), (.ireturn, 0, 0)]
/-- LentHands$Law.amount(ILLentHands$Asked;)I -/
def am_c155 : List am_I := [(.bipush 0, 0, 0), (.istore 3, 0, 0), (.iload 3, 0, 0), (.iload 0, 1, 0), (.getfield 0, 1, 27), (.if_icmp .ge 47, 0, 0), (.iload 0, 1, 0), (.checkcast 2, 1, 9), (.iload 3, 0, 0), (.iaload, 0, 0), (.iload 1, 0, 0), (.if_icmp .ne 45, 0, 0), (.iload 0, 1, 0), (.checkcast 4, 1, 18), (.iload 3, 0, 0), (.iaload, 0, 0), (.iload 0, 1, 0), (.checkcast 5, 1, 21), (.iload 3, 0, 0), (.iaload, 0, 0), (.if_icmp .eq 33, 0, 0), (.iload 0, 1, 0), (.iload 0, 1, 0), (.checkcast 4, 1, 18), (.iload 3, 0, 0), (.iaload, 0, 0), (.iload 0, 1, 0), (.checkcast 5, 1, 21), (.iload 3, 0, 0), (.iaload, 0, 0), (.iload 2, 1, 0), (.invokevirtual 156, 4, 81), (.ifCond .eq 45, 0, 0), (.iload 0, 1, 0), (.iload 0, 1, 0), (.checkcast 3, 1, 15), (.iload 3, 0, 0), (.iaload, 0, 0), (.iload 0, 1, 0), (.checkcast 4, 1, 18), (.iload 3, 0, 0), (.iaload, 0, 0), (.iload 2, 1, 0), (.invokevirtual 156, 4, 81), (.ireturn, 0, 0), (.iinc 3 1, 0, 0), (.goto 2, 0, 0), (.bipush 0, 0, 0), (.ireturn, 0, 0)]
/-- LentHands$Law.reckon(IILLentHands$Asked;)I -/
def am_c156 : List am_I := [(.iload 3, 1, 0), (.checkcast 1, 0, 44), (.istore 4, 1, 1), (.bipush 0, 0, 0), (.istore 5, 0, 1), (.iload 1, 0, 0), (.istore 6, 0, 1), (.iload 6, 0, 1), (.iload 2, 0, 0), (.if_icmp .ge 139, 0, 0), (.iload 0, 1, 0), (.checkcast 6, 1, 24), (.iload 6, 0, 1), (.iaload, 0, 0), (.istore 7, 0, 1), (.iload 7, 0, 1), (.bipush 20000, 2, 0), (.if_icmp .ge 37, 0, 0), (.iload 5, 0, 1), (.bipush 32, 1, 0), (.if_icmp .ge 137, 0, 0), (.iload 4, 1, 1), (.iload 5, 0, 1), (.iload 7, 0, 1), (.bipush 10000, 2, 0), (.if_icmp .ge 28, 0, 0), (.iload 7, 0, 1), (.goto 34, 0, 0), (.iload 3, 1, 0), (.checkcast 0, 0, 49), (.iload 7, 0, 1), (.bipush 10000, 2, 0), (.isub, 0, 0), (.iaload, 0, 0), (.iastore, 0, 0), (.iinc 5 1, 0, 0), (.goto 137, 0, 0), (.iload 7, 0, 1), (.bipush 20017, 2, 0), (.if_icmp .ne 56, 0, 0), (.iload 5, 0, 1), (.bipush 1, 0, 0), (.if_icmp .lt 137, 0, 0), (.iload 4, 1, 1), (.iload 5, 0, 1), (.bipush 1, 0, 0), (.isub, 0, 0), (.bipush 1, 0, 0), (.iload 4, 1, 1), (.iload 5, 0, 1), (.bipush 1, 0, 0), (.isub, 0, 0), (.iaload, 0, 0), (.isub, 0, 0), (.iastore, 0, 0), (.goto 137, 0, 0), (.iload 5, 0, 1), (.bipush 2, 0, 0), (.if_icmp .lt 137, 0, 0), (.iinc 5 (-1), 0, 0), (.iload 4, 1, 1), (.iload 5, 0, 1), (.bipush 1, 0, 0), (.isub, 0, 0), (.iaload, 0, 0), (.istore 8, 0, 1), (.iload 4, 1, 1), (.iload 5, 0, 1), (.iaload, 0, 0), (.istore 9, 0, 1), (.iload 7, 0, 1), (.bipush 20000, 2, 0), (.isub, 0, 0), (.lookupswitch 127 #[(16, 122), (42, 84), (43, 74), (45, 79), (47, 89), (60, 98), (61, 106), (62, 114)], 75, 0), (.iload 8, 0, 1), (.iload 9, 0, 1), (.iadd, 0, 0), (.istore 10, 0, 1), (.goto 131, 0, 0), (.iload 8, 0, 1), (.iload 9, 0, 1), (.isub, 0, 0), (.istore 10, 0, 1), (.goto 131, 0, 0), (.iload 8, 0, 1), (.iload 9, 0, 1), (.imul, 0, 0), (.istore 10, 0, 1), (.goto 131, 0, 0), (.iload 9, 0, 1), (.ifCond .ne 93, 0, 0), (.bipush 0, 0, 0), (.goto 96, 0, 0), (.iload 8, 0, 1), (.iload 9, 0, 1), (.idiv, 0, 0), (.istore 10, 0, 1), (.goto 131, 0, 0), (.iload 8, 0, 1), (.iload 9, 0, 1), (.if_icmp .ge 103, 0, 0), (.bipush 1, 0, 0), (.goto 104, 0, 0), (.bipush 0, 0, 0), (.istore 10, 0, 1), (.goto 131, 0, 0), (.iload 8, 0, 1), (.iload 9, 0, 1), (.if_icmp .ne 111, 0, 0), (.bipush 1, 0, 0), (.goto 112, 0, 0), (.bipush 0, 0, 0), (.istore 10, 0, 1), (.goto 131, 0, 0), (.iload 8, 0, 1), (.iload 9, 0, 1), (.if_icmp .le 119, 0, 0), (.bipush 1, 0, 0), (.goto 120, 0, 0), (.bipush 0, 0, 0), (.istore 10, 0, 1), (.goto 131, 0, 0), (.iload 8, 0, 1), (.iload 9, 0, 1), (.iand, 0, 0), (.istore 10, 0, 1), (.goto 131, 0, 0), (.iload 8, 0, 1), (.iload 9, 0, 1), (.ior, 0, 0), (.istore 10, 0, 1), (.iload 4, 1, 1), (.iload 5, 0, 1), (.bipush 1, 0, 0), (.isub, 0, 0), (.iload 10, 0, 1), (.iastore, 0, 0), (.iinc 6 1, 0, 0), (.goto 7, 0, 0), (.iload 4, 1, 1), (.bipush 0, 0, 0), (.iaload, 0, 0), (.ireturn, 0, 0)]
/-- LentHands$Table.cell(II)I -/
def am_c157 : List am_I := [(.iload 0, 1, 0), (.checkcast 1, 3, 9), (.iload 1, 0, 0), (.bipush 5, 0, 0), (.imul, 0, 0), (.iload 2, 0, 0), (.iadd, 0, 0), (.iaload, 0, 0), (.ireturn, 0, 0)]
/-- LentHands$Table.copyFrom(LLentHands$Table;)V -/
def am_c158 : List am_I := [(.iload 0, 1, 0), (.iload 1, 1, 0), (.getfield 0, 3, 15), (.putfield 0, 3, 30), (.iload 1, 1, 0), (.checkcast 1, 3, 9), (.bipush 0, 0, 0), (.iload 0, 1, 0), (.checkcast 1, 3, 9), (.bipush 0, 0, 0), (.bipush 80, 1, 0), (.lcmp, 19, 0), (.return_, 0, 0)]
/-- LentHands$Texts.copyFrom(LLentHands$Texts;)V -/
def am_c159 : List am_I := [(.bipush 0, 0, 0), (.istore 2, 0, 0), (.iload 2, 0, 0), (.bipush 3, 0, 0), (.if_icmp .ge 16, 0, 0), (.iload 0, 1, 0), (.checkcast 0, 4, 11), (.iload 2, 0, 0), (.aaload, 0, 0), (.iload 1, 1, 0), (.checkcast 0, 4, 11), (.iload 2, 0, 0), (.aaload, 0, 0), (.invokevirtual 152, 2, 56), (.iinc 2 1, 0, 0), (.goto 2, 0, 0), (.iload 0, 1, 0), (.checkcast 1, 4, 20), (.iload 1, 1, 0), (.checkcast 1, 4, 20), (.invokevirtual 158, 2, 64), (.iload 0, 1, 0), (.checkcast 2, 4, 24), (.iload 1, 1, 0), (.checkcast 2, 4, 24), (.invokevirtual 158, 2, 64), (.return_, 0, 0)]
/-- LentHands$Reader.begin([CI)V -/
def am_c160 : List am_I := [(.iload 0, 1, 0), (.bipush 0, 0, 0), (.putfield 3, 2, 78), (.iload 0, 1, 0), (.bipush 0, 0, 0), (.putfield 4, 2, 84), (.iload 0, 1, 0), (.bipush 0, 0, 0), (.putfield 5, 2, 90), (.iload 0, 1, 0), (.bipush (-1), 0, 0), (.putfield 6, 2, 42), (.bipush 0, 0, 0), (.istore 3, 0, 0), (.bipush 0, 0, 0), (.istore 4, 0, 1), (.iload 4, 0, 1), (.bipush 400, 2, 0), (.if_icmp .ge 42, 0, 0), (.iload 3, 0, 0), (.iload 2, 0, 0), (.if_icmp .ge 42, 0, 0), (.iload 1, 1, 0), (.iload 3, 0, 0), (.caload, 0, 0), (.bipush 32, 1, 0), (.if_icmp .eq 32, 0, 0), (.iload 1, 1, 0), (.iload 3, 0, 0), (.caload, 0, 0), (.bipush 10, 1, 0), (.if_icmp .ne 34, 0, 0), (.iinc 3 1, 0, 0), (.goto 40, 0, 0), (.iload 0, 1, 0), (.iload 1, 1, 0), (.iload 3, 0, 0), (.iload 2, 0, 0), (.invokevirtual 161, 4, 97), (.istore 3, 0, 0), (.iinc 4 1, 0, 0), (.goto 16, 0, 0), (.iload 0, 1, 0), (.bipush 202, 2, 0), (.bipush 0, 0, 0), (.iload 2, 0, 0), (.invokevirtual 162, 4, 104), (.return_, 0, 0)]
/-- LentHands$Reader.cutToken([CII)I -/
def am_c161 : List am_I := [(.iload 2, 0, 0), (.bipush 1, 0, 0), (.iadd, 0, 0), (.istore 4, 0, 1), (.iload 1, 1, 0), (.iload 2, 0, 0), (.caload, 0, 0), (.invokevirtual 163, 1, 113), (.ifCond .eq 28, 0, 0), (.iload 4, 0, 1), (.iload 3, 0, 0), (.if_icmp .ge 19, 0, 0), (.iload 1, 1, 0), (.iload 4, 0, 1), (.caload, 0, 0), (.invokevirtual 163, 1, 113), (.ifCond .eq 19, 0, 0), (.iinc 4 1, 0, 0), (.goto 9, 0, 0), (.iload 0, 1, 0), (.iload 1, 1, 0), (.iload 2, 0, 0), (.iload 4, 0, 1), (.invokevirtual 166, 3, 121), (.bipush 0, 0, 0), (.iload 2, 0, 0), (.invokevirtual 162, 4, 104), (.goto 86, 0, 0), (.iload 1, 1, 0), (.iload 2, 0, 0), (.caload, 0, 0), (.invokevirtual 164, 1, 127), (.ifCond .eq 72, 0, 0), (.iload 1, 1, 0), (.iload 2, 0, 0), (.caload, 0, 0), (.bipush 48, 1, 0), (.isub, 0, 0), (.istore 5, 0, 1), (.iload 4, 0, 1), (.iload 3, 0, 0), (.if_icmp .ge 59, 0, 0), (.iload 1, 1, 0), (.iload 4, 0, 1), (.caload, 0, 0), (.invokevirtual 164, 1, 127), (.ifCond .eq 59, 0, 0), (.iload 5, 0, 1), (.bipush 10, 1, 0), (.imul, 0, 0), (.iload 1, 1, 0), (.iload 4, 0, 1), (.caload, 0, 0), (.iadd, 0, 0), (.bipush 48, 1, 0), (.isub, 0, 0), (.istore 5, 0, 1), (.iinc 4 1, 0, 0), (.goto 39, 0, 0), (.iload 0, 1, 0), (.iload 4, 0, 1), (.iload 2, 0, 0), (.isub, 0, 0), (.bipush 4, 0, 0), (.if_icmp .gt 67, 0, 0), (.bipush 200, 2, 0), (.goto 68, 0, 0), (.bipush 201, 2, 0), (.iload 5, 0, 1), (.iload 2, 0, 0), (.invokevirtual 162, 4, 104), (.goto 86, 0, 0), (.iload 0, 1, 0), (.iload 1, 1, 0), (.iload 2, 0, 0), (.caload, 0, 0), (.invokevirtual 165, 1, 133), (.ifCond .eq 82, 0, 0), (.iload 1, 1, 0), (.iload 2, 0, 0), (.caload, 0, 0), (.goto 83, 0, 0), (.bipush 201, 2, 0), (.bipush 0, 0, 0), (.iload 2, 0, 0), (.invokevirtual 162, 4, 104), (.iload 4, 0, 1), (.ireturn, 0, 0)]
/-- LentHands$Reader.addToken(III)V -/
def am_c162 : List am_I := [(.iload 0, 1, 0), (.getfield 3, 2, 39), (.bipush 400, 2, 0), (.if_icmp .gt 28, 0, 0), (.iload 0, 1, 0), (.checkcast 0, 2, 9), (.iload 0, 1, 0), (.getfield 3, 2, 39), (.iload 1, 0, 0), (.iastore, 0, 0), (.iload 0, 1, 0), (.checkcast 1, 2, 15), (.iload 0, 1, 0), (.getfield 3, 2, 39), (.iload 2, 0, 0), (.iastore, 0, 0), (.iload 0, 1, 0), (.checkcast 2, 2, 18), (.iload 0, 1, 0), (.getfield 3, 2, 39), (.iload 3, 0, 0), (.iastore, 0, 0), (.iload 0, 1, 0), (.dup, 0, 0), (.getfield 3, 2, 39), (.bipush 1, 0, 0), (.iadd, 0, 0), (.putfield 3, 2, 78), (.return_, 0, 0)]
/-- LentHands$Reader.isLetter(C)Z -/
def am_c163 : List am_I := [(.iload 0, 0, 0), (.bipush 97, 1, 0), (.if_icmp .lt 6, 0, 0), (.iload 0, 0, 0), (.bipush 122, 1, 0), (.if_icmp .le 12, 0, 0), (.iload 0, 0, 0), (.bipush 65, 1, 0), (.if_icmp .lt 14, 0, 0), (.iload 0, 0, 0), (.bipush 90, 1, 0), (.if_icmp .gt 14, 0, 0), (.bipush 1, 0, 0), (.goto 15, 0, 0), (.bipush 0, 0, 0), (.ireturn, 1, 0)]
/-- LentHands$Reader.isDigit(C)Z -/
def am_c164 : List am_I := [(.iload 0, 0, 0), (.bipush 48, 1, 0), (.if_icmp .lt 8, 0, 0), (.iload 0, 0, 0), (.bipush 57, 1, 0), (.if_icmp .gt 8, 0, 0), (.bipush 1, 0, 0), (.goto 9, 0, 0), (.bipush 0, 0, 0), (.ireturn, 1, 0)]
/-- LentHands$Reader.isSign(C)Z -/
def am_c165 : List am_I := [(.iload 0, 0, 0), (.bipush 40, 1, 0), (.if_icmp .lt 6, 0, 0), (.iload 0, 0, 0), (.bipush 43, 1, 0), (.if_icmp .le 18, 0, 0), (.iload 0, 0, 0), (.bipush 45, 1, 0), (.if_icmp .eq 18, 0, 0), (.iload 0, 0, 0), (.bipush 47, 1, 0), (.if_icmp .eq 18, 0, 0), (.iload 0, 0, 0), (.bipush 59, 1, 0), (.if_icmp .lt 20, 0, 0), (.iload 0, 0, 0), (.bipush 62, 1, 0), (.if_icmp .gt 20, 0, 0), (.bipush 1, 0, 0), (.goto 21, 0, 0), (.bipush 0, 0, 0), (.ireturn, 1, 0)]
/-- LentHands$Reader.wordNumber([CII)I -/
def am_c166 : List am_I := [(.bipush 0, 0, 0), (.istore 3, 0, 0), (.bipush 0, 0, 0), (.istore 4, 0, 1), (.bipush 0, 0, 0), (.istore 5, 0, 1), (.iload 5, 0, 1), (.aload 300, 0, 69), (.invokevirtual 256, 1, 143), (.if_icmp .gt 41, 0, 0), (.iload 5, 0, 1), (.aload 300, 0, 69), (.invokevirtual 256, 1, 143), (.if_icmp .eq 19, 0, 0), (.aload 300, 0, 69), (.iload 5, 0, 1), (.invokevirtual 257, 2, 155), (.bipush 32, 1, 0), (.if_icmp .ne 39, 0, 0), (.iload 5, 0, 1), (.iload 4, 0, 1), (.isub, 0, 0), (.iload 2, 0, 0), (.iload 1, 0, 0), (.isub, 0, 0), (.if_icmp .ne 34, 0, 0), (.iload 0, 1, 0), (.iload 1, 0, 0), (.iload 4, 0, 1), (.iload 5, 0, 1), (.invokevirtual 167, 4, 163), (.ifCond .eq 34, 0, 0), (.iload 3, 0, 0), (.ireturn, 0, 0), (.iinc 3 1, 0, 0), (.iload 5, 0, 1), (.bipush 1, 0, 0), (.iadd, 0, 0), (.istore 4, 0, 1), (.iinc 5 1, 0, 0), (.goto 6, 0, 0), (.bipush 201, 2, 0), (.ireturn, 0, 0)]
/-- LentHands$Reader.isWordAt([CIII)Z -/
def am_c167 : List am_I := [(.iload 2, 0, 0), (.istore 4, 0, 1), (.iload 4, 0, 1), (.iload 3, 0, 0), (.if_icmp .ge 20, 0, 0), (.aload 300, 0, 69), (.iload 4, 0, 1), (.invokevirtual 257, 2, 155), (.iload 0, 1, 0), (.iload 1, 0, 0), (.iload 4, 0, 1), (.iadd, 0, 0), (.iload 2, 0, 0), (.isub, 0, 0), (.caload, 0, 0), (.if_icmp .eq 18, 0, 0), (.bipush 0, 0, 0), (.ireturn, 1, 0), (.iinc 4 1, 0, 0), (.goto 2, 0, 0), (.bipush 1, 0, 0), (.ireturn, 1, 0)]
/-- LentHands$Reader.seen()I -/
def am_c168 : List am_I := [(.iload 0, 1, 0), (.getfield 4, 2, 42), (.iload 0, 1, 0), (.getfield 3, 2, 39), (.if_icmp .ge 11, 0, 0), (.iload 0, 1, 0), (.checkcast 0, 2, 9), (.iload 0, 1, 0), (.getfield 4, 2, 42), (.iaload, 0, 0), (.goto 12, 0, 0), (.bipush 202, 2, 0), (.ireturn, 0, 0)]
/-- LentHands$Reader.refuse(I)Z -/
def am_c169 : List am_I := [(.iload 0, 1, 0), (.iload 1, 0, 0), (.putfield 5, 2, 90), (.iload 0, 1, 0), (.iload 0, 1, 0), (.getfield 4, 2, 42), (.iload 0, 1, 0), (.getfield 3, 2, 39), (.if_icmp .ge 15, 0, 0), (.iload 0, 1, 0), (.checkcast 2, 2, 18), (.iload 0, 1, 0), (.getfield 4, 2, 42), (.iaload, 0, 0), (.goto 16, 0, 0), (.bipush (-1), 0, 0), (.putfield 6, 2, 42), (.bipush 0, 0, 0), (.ireturn, 1, 0)]
/-- LentHands$Reader.skip(I)Z -/
def am_c170 : List am_I := [(.iload 0, 1, 0), (.invokevirtual 168, 1, 171), (.iload 1, 0, 0), (.if_icmp .eq 8, 0, 0), (.iload 0, 1, 0), (.bipush 1, 0, 0), (.invokevirtual 169, 2, 177), (.ireturn, 1, 0), (.iload 0, 1, 0), (.dup, 0, 0), (.getfield 4, 2, 42), (.bipush 1, 0, 0), (.iadd, 0, 0), (.putfield 4, 2, 84), (.bipush 1, 0, 0), (.ireturn, 1, 0)]
/-- LentHands$Reader.readLaw(I)Z -/
def am_c171 : List am_I := [(.iload 0, 1, 0), (.checkcast 8, 2, 28), (.bipush 0, 0, 0), (.putfield 0, 1, 184), (.iload 0, 1, 0), (.checkcast 8, 2, 28), (.bipush 0, 0, 0), (.putfield 1, 1, 190), (.iload 0, 1, 0), (.aload 202, 1, 98), (.iload 1, 0, 0), (.iaload, 0, 0), (.putfield 7, 2, 202), (.bipush 0, 0, 0), (.istore 2, 0, 0), (.iload 2, 0, 0), (.bipush 400, 2, 0), (.if_icmp .gt 30, 0, 0), (.iload 0, 1, 0), (.invokevirtual 168, 1, 171), (.bipush 202, 2, 0), (.if_icmp .eq 30, 0, 0), (.iload 0, 1, 0), (.iload 1, 0, 0), (.invokevirtual 172, 2, 209), (.ifCond .ne 28, 0, 0), (.bipush 0, 0, 0), (.ireturn, 1, 0), (.iinc 2 1, 0, 0), (.goto 15, 0, 0), (.bipush 1, 0, 0), (.ireturn, 1, 0)]
/-- LentHands$Reader.lawLine(I)Z -/
def am_c172 : List am_I := [(.iload 0, 1, 0), (.invokevirtual 168, 1, 171), (.istore 2, 0, 0), (.iload 0, 1, 0), (.checkcast 8, 2, 28), (.getfield 0, 1, 92), (.istore 3, 0, 0), (.iload 2, 0, 0), (.aload 200, 1, 107), (.iload 1, 0, 0), (.iaload, 0, 0), (.if_icmp .lt 17, 0, 0), (.iload 2, 0, 0), (.aload 201, 1, 110), (.iload 1, 0, 0), (.iaload, 0, 0), (.if_icmp .le 21, 0, 0), (.iload 0, 1, 0), (.bipush 1, 0, 0), (.invokevirtual 169, 2, 177), (.ireturn, 1, 0), (.iload 3, 0, 0), (.bipush 16, 1, 0), (.if_icmp .lt 28, 0, 0), (.iload 0, 1, 0), (.bipush 3, 0, 0), (.invokevirtual 169, 2, 177), (.ireturn, 1, 0), (.iload 0, 1, 0), (.dup, 0, 0), (.getfield 4, 2, 42), (.bipush 1, 0, 0), (.iadd, 0, 0), (.putfield 4, 2, 84), (.iload 0, 1, 0), (.checkcast 8, 2, 28), (.checkcast 2, 1, 113), (.iload 3, 0, 0), (.iload 2, 0, 0), (.iastore, 0, 0), (.iload 0, 1, 0), (.checkcast 8, 2, 28), (.checkcast 3, 1, 116), (.iload 3, 0, 0), (.iload 0, 1, 0), (.checkcast 8, 2, 28), (.getfield 1, 1, 95), (.iastore, 0, 0), (.iload 1, 0, 0), (.bipush 1, 0, 0), (.if_icmp .ne 56, 0, 0), (.iload 0, 1, 0), (.invokevirtual 175, 1, 239), (.ifCond .ne 56, 0, 0), (.bipush 0, 0, 0), (.ireturn, 1, 0), (.iload 0, 1, 0), (.checkcast 8, 2, 28), (.checkcast 4, 1, 123), (.iload 3, 0, 0), (.iload 0, 1, 0), (.checkcast 8, 2, 28), (.getfield 1, 1, 95), (.iastore, 0, 0), (.iload 0, 1, 0), (.invokevirtual 168, 1, 171), (.bipush 14, 1, 0), (.if_icmp .ne 80, 0, 0), (.iload 0, 1, 0), (.dup, 0, 0), (.getfield 4, 2, 42), (.bipush 1, 0, 0), (.iadd, 0, 0), (.putfield 4, 2, 84), (.iload 0, 1, 0), (.bipush 0, 0, 0), (.invokevirtual 173, 2, 253), (.ifCond .ne 80, 0, 0), (.bipush 0, 0, 0), (.ireturn, 1, 0), (.iload 0, 1, 0), (.checkcast 8, 2, 28), (.checkcast 5, 1, 129), (.iload 3, 0, 0), (.iload 0, 1, 0), (.checkcast 8, 2, 28), (.getfield 1, 1, 95), (.iastore, 0, 0), (.iload 0, 1, 0), (.checkcast 8, 2, 28), (.dup, 0, 0), (.getfield 0, 1, 92), (.bipush 1, 0, 0), (.iadd, 0, 0), (.putfield 0, 1, 184), (.iload 0, 1, 0), (.bipush 59, 1, 0), (.invokevirtual 170, 2, 265), (.ireturn, 1, 0)]
/-- LentHands$Reader.anyOf(I)Z -/
def am_c173 : List am_I := [(.bipush 0, 0, 0), (.istore 2, 0, 0), (.iload 2, 0, 0), (.bipush 400, 2, 0), (.if_icmp .gt 54, 0, 0), (.bipush 0, 0, 0), (.istore 3, 0, 0), (.iload 3, 0, 0), (.bipush 400, 2, 0), (.if_icmp .gt 35, 0, 0), (.iload 0, 1, 0), (.iload 1, 0, 0), (.invokevirtual 174, 2, 271), (.ifCond .ne 16, 0, 0), (.bipush 0, 0, 0), (.ireturn, 1, 0), (.iload 3, 0, 0), (.ifCond .le 22, 0, 0), (.iload 0, 1, 0), (.checkcast 8, 2, 28), (.bipush 20016, 2, 0), (.invokevirtual 153, 2, 276), (.iload 0, 1, 0), (.invokevirtual 168, 1, 171), (.bipush 16, 1, 0), (.if_icmp .eq 27, 0, 0), (.goto 35, 0, 0), (.iload 0, 1, 0), (.dup, 0, 0), (.getfield 4, 2, 42), (.bipush 1, 0, 0), (.iadd, 0, 0), (.putfield 4, 2, 84), (.iinc 3 1, 0, 0), (.goto 7, 0, 0), (.iload 2, 0, 0), (.ifCond .le 41, 0, 0), (.iload 0, 1, 0), (.checkcast 8, 2, 28), (.bipush 20015, 2, 0), (.invokevirtual 153, 2, 276), (.iload 0, 1, 0), (.invokevirtual 168, 1, 171), (.bipush 15, 1, 0), (.if_icmp .eq 46, 0, 0), (.goto 54, 0, 0), (.iload 0, 1, 0), (.dup, 0, 0), (.getfield 4, 2, 42), (.bipush 1, 0, 0), (.iadd, 0, 0), (.putfield 4, 2, 84), (.iinc 2 1, 0, 0), (.goto 2, 0, 0), (.bipush 1, 0, 0), (.ireturn, 1, 0)]
/-- LentHands$Reader.single(I)Z -/
def am_c174 : List am_I := [(.iload 0, 1, 0), (.invokevirtual 168, 1, 171), (.istore 2, 0, 0), (.iload 2, 0, 0), (.bipush 17, 1, 0), (.if_icmp .eq 9, 0, 0), (.iload 2, 0, 0), (.bipush 40, 1, 0), (.if_icmp .ne 53, 0, 0), (.iload 1, 0, 0), (.bipush 8, 1, 0), (.if_icmp .lt 16, 0, 0), (.iload 0, 1, 0), (.bipush 3, 0, 0), (.invokevirtual 169, 2, 177), (.ireturn, 1, 0), (.iload 0, 1, 0), (.dup, 0, 0), (.getfield 4, 2, 42), (.bipush 1, 0, 0), (.iadd, 0, 0), (.putfield 4, 2, 84), (.iload 2, 0, 0), (.bipush 40, 1, 0), (.if_icmp .ne 39, 0, 0), (.iload 0, 1, 0), (.iload 1, 0, 0), (.bipush 1, 0, 0), (.iadd, 0, 0), (.invokevirtual 173, 2, 253), (.ifCond .eq 37, 0, 0), (.iload 0, 1, 0), (.bipush 41, 1, 0), (.invokevirtual 170, 2, 265), (.ifCond .eq 37, 0, 0), (.bipush 1, 0, 0), (.goto 38, 0, 0), (.bipush 0, 0, 0), (.ireturn, 1, 0), (.iload 0, 1, 0), (.iload 1, 0, 0), (.bipush 1, 0, 0), (.iadd, 0, 0), (.invokevirtual 174, 2, 271), (.ifCond .ne 47, 0, 0), (.bipush 0, 0, 0), (.ireturn, 1, 0), (.iload 0, 1, 0), (.checkcast 8, 2, 28), (.bipush 20017, 2, 0), (.invokevirtual 153, 2, 276), (.bipush 1, 0, 0), (.ireturn, 1, 0), (.iload 0, 1, 0), (.invokevirtual 175, 1, 239), (.ifCond .ne 58, 0, 0), (.bipush 0, 0, 0), (.ireturn, 1, 0), (.iload 0, 1, 0), (.invokevirtual 168, 1, 171), (.istore 3, 0, 0), (.iload 3, 0, 0), (.bipush 60, 1, 0), (.if_icmp .eq 74, 0, 0), (.iload 3, 0, 0), (.bipush 61, 1, 0), (.if_icmp .eq 74, 0, 0), (.iload 3, 0, 0), (.bipush 62, 1, 0), (.if_icmp .eq 74, 0, 0), (.iload 0, 1, 0), (.bipush 1, 0, 0), (.invokevirtual 169, 2, 177), (.ireturn, 1, 0), (.iload 0, 1, 0), (.dup, 0, 0), (.getfield 4, 2, 42), (.bipush 1, 0, 0), (.iadd, 0, 0), (.putfield 4, 2, 84), (.iload 0, 1, 0), (.invokevirtual 175, 1, 239), (.ifCond .ne 85, 0, 0), (.bipush 0, 0, 0), (.ireturn, 1, 0), (.iload 0, 1, 0), (.checkcast 8, 2, 28), (.bipush 20000, 2, 0), (.iload 3, 0, 0), (.iadd, 0, 0), (.invokevirtual 153, 2, 276), (.bipush 1, 0, 0), (.ireturn, 1, 0)]
/-- LentHands$Reader.sum()Z -/
def am_c175 : List am_I := [(.bipush (-1), 0, 0), (.istore 1, 0, 0), (.bipush 0, 0, 0), (.istore 2, 0, 0), (.iload 2, 0, 0), (.bipush 400, 2, 0), (.if_icmp .gt 82, 0, 0), (.iload 0, 1, 0), (.bipush 0, 0, 0), (.invokevirtual 176, 2, 285), (.ifCond .ne 13, 0, 0), (.bipush 0, 0, 0), (.ireturn, 1, 0), (.bipush 0, 0, 0), (.istore 3, 0, 0), (.iload 3, 0, 0), (.bipush 400, 2, 0), (.if_icmp .gt 54, 0, 0), (.iload 0, 1, 0), (.invokevirtual 168, 1, 171), (.bipush 42, 1, 0), (.if_icmp .eq 26, 0, 0), (.iload 0, 1, 0), (.invokevirtual 168, 1, 171), (.bipush 47, 1, 0), (.if_icmp .ne 54, 0, 0), (.iload 0, 1, 0), (.invokevirtual 168, 1, 171), (.istore 4, 0, 1), (.iload 0, 1, 0), (.dup, 0, 0), (.getfield 4, 2, 42), (.bipush 1, 0, 0), (.iadd, 0, 0), (.putfield 4, 2, 84), (.iload 0, 1, 0), (.iload 4, 0, 1), (.bipush 47, 1, 0), (.if_icmp .ne 41, 0, 0), (.bipush 1, 0, 0), (.goto 42, 0, 0), (.bipush 0, 0, 0), (.invokevirtual 176, 2, 285), (.ifCond .ne 46, 0, 0), (.bipush 0, 0, 0), (.ireturn, 1, 0), (.iload 0, 1, 0), (.checkcast 8, 2, 28), (.bipush 20000, 2, 0), (.iload 4, 0, 1), (.iadd, 0, 0), (.invokevirtual 153, 2, 276), (.iinc 3 1, 0, 0), (.goto 15, 0, 0), (.iload 1, 0, 0), (.bipush (-1), 0, 0), (.if_icmp .eq 63, 0, 0), (.iload 0, 1, 0), (.checkcast 8, 2, 28), (.bipush 20000, 2, 0), (.iload 1, 0, 0), (.iadd, 0, 0), (.invokevirtual 153, 2, 276), (.iload 0, 1, 0), (.invokevirtual 168, 1, 171), (.istore 1, 0, 0), (.iload 1, 0, 0), (.bipush 43, 1, 0), (.if_icmp .eq 74, 0, 0), (.iload 1, 0, 0), (.bipush 45, 1, 0), (.if_icmp .eq 74, 0, 0), (.bipush 1, 0, 0), (.ireturn, 1, 0), (.iload 0, 1, 0), (.dup, 0, 0), (.getfield 4, 2, 42), (.bipush 1, 0, 0), (.iadd, 0, 0), (.putfield 4, 2, 84), (.iinc 2 1, 0, 0), (.goto 4, 0, 0), (.bipush 1, 0, 0), (.ireturn, 1, 0)]
/-- LentHands$Reader.unit(Z)Z -/
def am_c176 : List am_I := [(.iload 0, 1, 0), (.invokevirtual 168, 1, 171), (.istore 2, 0, 0), (.iload 2, 0, 0), (.bipush 200, 2, 0), (.if_icmp .ne 27, 0, 0), (.iload 1, 0, 0), (.ifCond .eq 18, 0, 0), (.iload 0, 1, 0), (.checkcast 1, 2, 15), (.iload 0, 1, 0), (.getfield 4, 2, 42), (.iaload, 0, 0), (.ifCond .ne 18, 0, 0), (.iload 0, 1, 0), (.bipush 2, 0, 0), (.invokevirtual 169, 2, 177), (.ireturn, 1, 0), (.iload 0, 1, 0), (.checkcast 8, 2, 28), (.iload 0, 1, 0), (.checkcast 1, 2, 15), (.iload 0, 1, 0), (.getfield 4, 2, 42), (.iaload, 0, 0), (.invokevirtual 153, 2, 276), (.goto 51, 0, 0), (.iload 1, 0, 0), (.ifCond .ne 47, 0, 0), (.iload 2, 0, 0), (.bipush 14, 1, 0), (.if_icmp .ge 47, 0, 0), (.iload 0, 1, 0), (.getfield 7, 2, 101), (.iload 2, 0, 0), (.ishr, 0, 0), (.bipush 1, 0, 0), (.iand, 0, 0), (.bipush 1, 0, 0), (.if_icmp .ne 47, 0, 0), (.iload 0, 1, 0), (.checkcast 8, 2, 28), (.bipush 10000, 2, 0), (.iload 2, 0, 0), (.iadd, 0, 0), (.invokevirtual 153, 2, 276), (.goto 51, 0, 0), (.iload 0, 1, 0), (.bipush 1, 0, 0), (.invokevirtual 169, 2, 177), (.ireturn, 1, 0), (.iload 0, 1, 0), (.dup, 0, 0), (.getfield 4, 2, 42), (.bipush 1, 0, 0), (.iadd, 0, 0), (.putfield 4, 2, 84), (.bipush 1, 0, 0), (.ireturn, 1, 0)]
/-- LentHands$Reader.readTable(ZI)Z -/
def am_c177 : List am_I := [(.iload 0, 1, 0), (.checkcast 9, 2, 35), (.bipush 0, 0, 0), (.putfield 0, 3, 292), (.bipush 0, 0, 0), (.istore 3, 0, 0), (.iload 3, 0, 0), (.bipush 400, 2, 0), (.if_icmp .gt 78, 0, 0), (.iload 0, 1, 0), (.invokevirtual 168, 1, 171), (.bipush 202, 2, 0), (.if_icmp .eq 78, 0, 0), (.iload 0, 1, 0), (.invokevirtual 168, 1, 171), (.iload 1, 0, 0), (.ifCond .eq 19, 0, 0), (.bipush 28, 1, 0), (.goto 20, 0, 0), (.bipush 32, 1, 0), (.if_icmp .eq 25, 0, 0), (.iload 0, 1, 0), (.bipush 1, 0, 0), (.invokevirtual 169, 2, 177), (.ireturn, 1, 0), (.iload 0, 1, 0), (.checkcast 9, 2, 35), (.getfield 0, 3, 146), (.iload 1, 0, 0), (.ifCond .eq 32, 0, 0), (.bipush 16, 1, 0), (.goto 33, 0, 0), (.bipush 8, 1, 0), (.if_icmp .lt 38, 0, 0), (.iload 0, 1, 0), (.bipush 3, 0, 0), (.invokevirtual 169, 2, 177), (.ireturn, 1, 0), (.iload 0, 1, 0), (.dup, 0, 0), (.getfield 4, 2, 42), (.bipush 1, 0, 0), (.iadd, 0, 0), (.putfield 4, 2, 84), (.iload 0, 1, 0), (.checkcast 9, 2, 35), (.getfield 0, 3, 146), (.bipush 5, 0, 0), (.imul, 0, 0), (.istore 4, 0, 1), (.iload 1, 0, 0), (.ifCond .eq 57, 0, 0), (.iload 0, 1, 0), (.iload 4, 0, 1), (.iload 2, 0, 0), (.invokevirtual 178, 3, 295), (.goto 60, 0, 0), (.iload 0, 1, 0), (.iload 4, 0, 1), (.invokevirtual 179, 2, 303), (.istore 5, 0, 1), (.iload 5, 0, 1), (.ifCond .eq 67, 0, 0), (.iload 0, 1, 0), (.bipush 59, 1, 0), (.invokevirtual 170, 2, 265), (.ifCond .ne 69, 0, 0), (.bipush 0, 0, 0), (.ireturn, 1, 0), (.iload 0, 1, 0), (.checkcast 9, 2, 35), (.dup, 0, 0), (.getfield 0, 3, 146), (.bipush 1, 0, 0), (.iadd, 0, 0), (.putfield 0, 3, 292), (.iinc 3 1, 0, 0), (.goto 6, 0, 0), (.bipush 1, 0, 0), (.ireturn, 1, 0)]
/-- LentHands$Reader.bookingRow(II)Z -/
def am_c178 : List am_I := [(.iload 0, 1, 0), (.checkcast 9, 2, 35), (.checkcast 1, 3, 154), (.iload 1, 0, 0), (.bipush 4, 0, 0), (.iadd, 0, 0), (.bipush 0, 0, 0), (.iastore, 0, 0), (.iload 0, 1, 0), (.iload 1, 0, 0), (.bipush 0, 0, 0), (.iadd, 0, 0), (.bipush 0, 0, 0), (.bipush 2, 0, 0), (.iload 2, 0, 0), (.imul, 0, 0), (.bipush 1, 0, 0), (.isub, 0, 0), (.invokevirtual 180, 4, 315), (.ifCond .eq 60, 0, 0), (.iload 0, 1, 0), (.bipush 29, 1, 0), (.invokevirtual 170, 2, 265), (.ifCond .eq 60, 0, 0), (.iload 0, 1, 0), (.iload 1, 0, 0), (.bipush 1, 0, 0), (.iadd, 0, 0), (.bipush 0, 0, 0), (.iload 2, 0, 0), (.bipush 1, 0, 0), (.isub, 0, 0), (.invokevirtual 180, 4, 315), (.ifCond .eq 60, 0, 0), (.iload 0, 1, 0), (.bipush 30, 1, 0), (.invokevirtual 170, 2, 265), (.ifCond .eq 60, 0, 0), (.iload 0, 1, 0), (.iload 1, 0, 0), (.bipush 2, 0, 0), (.iadd, 0, 0), (.bipush 0, 0, 0), (.bipush 9999, 2, 0), (.invokevirtual 180, 4, 315), (.ifCond .eq 60, 0, 0), (.iload 0, 1, 0), (.bipush 31, 1, 0), (.invokevirtual 170, 2, 265), (.ifCond .eq 60, 0, 0), (.iload 0, 1, 0), (.iload 1, 0, 0), (.bipush 3, 0, 0), (.iadd, 0, 0), (.bipush 1, 0, 0), (.bipush 99, 1, 0), (.invokevirtual 180, 4, 315), (.ifCond .eq 60, 0, 0), (.bipush 1, 0, 0), (.goto 61, 0, 0), (.bipush 0, 0, 0), (.istore 3, 0, 0), (.iload 3, 0, 0), (.ifCond .eq 68, 0, 0), (.iload 0, 1, 0), (.invokevirtual 168, 1, 171), (.bipush 5, 0, 0), (.if_icmp .eq 70, 0, 0), (.iload 3, 0, 0), (.ireturn, 1, 0), (.iload 0, 1, 0), (.dup, 0, 0), (.getfield 4, 2, 42), (.bipush 1, 0, 0), (.iadd, 0, 0), (.putfield 4, 2, 84), (.iload 0, 1, 0), (.iload 1, 0, 0), (.bipush 4, 0, 0), (.iadd, 0, 0), (.bipush 0, 0, 0), (.bipush 99, 1, 0), (.invokevirtual 180, 4, 315), (.ireturn, 1, 0)]
/-- LentHands$Reader.workRow(I)Z -/
def am_c179 : List am_I := [(.iload 0, 1, 0), (.iload 1, 0, 0), (.bipush 0, 0, 0), (.iadd, 0, 0), (.bipush 0, 0, 0), (.bipush 3, 0, 0), (.invokevirtual 180, 4, 315), (.ifCond .eq 34, 0, 0), (.iload 0, 1, 0), (.bipush 33, 1, 0), (.invokevirtual 170, 2, 265), (.ifCond .eq 34, 0, 0), (.iload 0, 1, 0), (.iload 1, 0, 0), (.bipush 1, 0, 0), (.iadd, 0, 0), (.bipush 0, 0, 0), (.bipush 99, 1, 0), (.invokevirtual 180, 4, 315), (.ifCond .eq 34, 0, 0), (.iload 0, 1, 0), (.bipush 34, 1, 0), (.invokevirtual 170, 2, 265), (.ifCond .eq 34, 0, 0), (.iload 0, 1, 0), (.iload 1, 0, 0), (.bipush 2, 0, 0), (.iadd, 0, 0), (.bipush 0, 0, 0), (.bipush 99, 1, 0), (.invokevirtual 180, 4, 315), (.ifCond .eq 34, 0, 0), (.bipush 1, 0, 0), (.goto 35, 0, 0), (.bipush 0, 0, 0), (.istore 2, 0, 0), (.iload 2, 0, 0), (.ifCond .ne 40, 0, 0), (.bipush 0, 0, 0), (.ireturn, 1, 0), (.iload 0, 1, 0), (.invokevirtual 168, 1, 171), (.bipush 26, 1, 0), (.if_icmp .ne 46, 0, 0), (.bipush 1, 0, 0), (.goto 47, 0, 0), (.bipush 0, 0, 0), (.istore 3, 0, 0), (.iload 0, 1, 0), (.checkcast 9, 2, 35), (.checkcast 1, 3, 154), (.iload 1, 0, 0), (.bipush 3, 0, 0), (.iadd, 0, 0), (.iload 3, 0, 0), (.ifCond .eq 58, 0, 0), (.bipush 1, 0, 0), (.goto 59, 0, 0), (.bipush 0, 0, 0), (.iastore, 0, 0), (.iload 3, 0, 0), (.ifCond .eq 68, 0, 0), (.iload 0, 1, 0), (.dup, 0, 0), (.getfield 4, 2, 42), (.bipush 1, 0, 0), (.iadd, 0, 0), (.putfield 4, 2, 84), (.bipush 1, 0, 0), (.ireturn, 1, 0)]
/-- LentHands$Reader.cell(III)Z -/
def am_c180 : List am_I := [(.iload 0, 1, 0), (.invokevirtual 168, 1, 171), (.bipush 200, 2, 0), (.if_icmp .eq 8, 0, 0), (.iload 0, 1, 0), (.bipush 1, 0, 0), (.invokevirtual 169, 2, 177), (.ireturn, 1, 0), (.iload 0, 1, 0), (.checkcast 1, 2, 15), (.iload 0, 1, 0), (.getfield 4, 2, 42), (.iaload, 0, 0), (.iload 2, 0, 0), (.if_icmp .lt 22, 0, 0), (.iload 0, 1, 0), (.checkcast 1, 2, 15), (.iload 0, 1, 0), (.getfield 4, 2, 42), (.iaload, 0, 0), (.iload 3, 0, 0), (.if_icmp .le 26, 0, 0), (.iload 0, 1, 0), (.bipush 2, 0, 0), (.invokevirtual 169, 2, 177), (.ireturn, 1, 0), (.iload 0, 1, 0), (.checkcast 9, 2, 35), (.checkcast 1, 3, 154), (.iload 1, 0, 0), (.iload 0, 1, 0), (.checkcast 1, 2, 15), (.iload 0, 1, 0), (.getfield 4, 2, 42), (.iaload, 0, 0), (.iastore, 0, 0), (.iload 0, 1, 0), (.dup, 0, 0), (.getfield 4, 2, 42), (.bipush 1, 0, 0), (.iadd, 0, 0), (.putfield 4, 2, 84), (.bipush 1, 0, 0), (.ireturn, 1, 0)]
/-- LentHands.state(I)I -/
def am_c181 : List am_I := [(.iload 0, 1, 0), (.checkcast 0, 6, 10), (.getfield 0, 5, 64), (.istore 2, 0, 0), (.iload 0, 1, 0), (.checkcast 0, 6, 10), (.iload 1, 0, 0), (.putfield 0, 5, 128), (.iload 0, 1, 0), (.invokevirtual 197, 1, 136), (.iload 2, 0, 0), (.ireturn, 0, 0)]
/-- LentHands.person(II)I -/
def am_c182 : List am_I := [(.iload 1, 0, 0), (.bipush 0, 0, 0), (.bipush 9999, 2, 0), (.invokevirtual 253, 3, 143), (.ifCond .eq 15, 0, 0), (.iload 2, 0, 0), (.bipush 0, 0, 0), (.bipush 1, 0, 0), (.invokevirtual 253, 3, 143), (.ifCond .eq 15, 0, 0), (.iload 0, 1, 0), (.checkcast 0, 6, 10), (.getfield 2, 5, 75), (.bipush 8, 1, 0), (.if_icmp .lt 17, 0, 0), (.bipush (-1), 0, 0), (.ireturn, 0, 0), (.iload 0, 1, 0), (.invokevirtual 197, 1, 136), (.iload 0, 1, 0), (.checkcast 0, 6, 10), (.iload 1, 0, 0), (.iload 2, 0, 0), (.invokevirtual 136, 3, 157), (.ireturn, 0, 0)]
/-- LentHands.set(III)Z -/
def am_c183 : List am_I := [(.iload 1, 0, 0), (.ifCond .eq 5, 0, 0), (.iload 1, 0, 0), (.bipush 1, 0, 0), (.if_icmp .ne 26, 0, 0), (.iload 0, 1, 0), (.checkcast 0, 6, 10), (.iload 2, 0, 0), (.invokevirtual 134, 2, 165), (.ifCond .eq 23, 0, 0), (.iload 0, 1, 0), (.checkcast 0, 6, 10), (.iload 1, 0, 0), (.ifCond .ne 16, 0, 0), (.bipush 1, 0, 0), (.goto 17, 0, 0), (.bipush 0, 0, 0), (.iload 2, 0, 0), (.iload 3, 0, 0), (.invokevirtual 137, 4, 173), (.ifCond .eq 23, 0, 0), (.bipush 1, 0, 0), (.goto 24, 0, 0), (.bipush 0, 0, 0), (.istore 4, 0, 1), (.goto 44, 0, 0), (.iload 0, 1, 0), (.checkcast 0, 6, 10), (.iload 2, 0, 0), (.invokevirtual 135, 2, 181), (.ifCond .eq 42, 0, 0), (.iload 0, 1, 0), (.checkcast 0, 6, 10), (.iload 1, 0, 0), (.bipush 2, 0, 0), (.isub, 0, 0), (.iload 2, 0, 0), (.iload 3, 0, 0), (.invokevirtual 138, 4, 187), (.ifCond .eq 42, 0, 0), (.bipush 1, 0, 0), (.goto 43, 0, 0), (.bipush 0, 0, 0), (.istore 4, 0, 1), (.iload 4, 0, 1), (.ifCond .eq 48, 0, 0), (.iload 0, 1, 0), (.invokevirtual 197, 1, 136), (.iload 4, 0, 1), (.ireturn, 1, 0)]
/-- LentHands.feed(IIIII)I -/
def am_c184 : List am_I := [(.iload 0, 1, 0), (.getfield 12, 6, 96), (.bipush 20, 1, 0), (.iadd, 0, 0), (.bipush 400, 2, 0), (.if_icmp .le 8, 0, 0), (.bipush (-1), 0, 0), (.ireturn, 0, 0), (.iload 0, 1, 0), (.iload 1, 0, 0), (.invokevirtual 185, 2, 198), (.iload 0, 1, 0), (.iload 2, 0, 0), (.invokevirtual 185, 2, 198), (.iload 0, 1, 0), (.iload 3, 0, 0), (.invokevirtual 185, 2, 198), (.iload 0, 1, 0), (.iload 4, 0, 1), (.invokevirtual 185, 2, 198), (.iload 0, 1, 0), (.iload 5, 0, 1), (.invokevirtual 185, 2, 198), (.iload 0, 1, 0), (.getfield 12, 6, 96), (.ireturn, 0, 0)]
/-- LentHands.feedNumber(I)V -/
def am_c185 : List am_I := [(.bipush 24, 1, 0), (.istore 2, 0, 0), (.iload 2, 0, 0), (.ifCond .lt 27, 0, 0), (.iload 0, 1, 0), (.getfield 12, 6, 96), (.bipush 400, 2, 0), (.if_icmp .ge 25, 0, 0), (.iload 0, 1, 0), (.checkcast 11, 6, 43), (.iload 0, 1, 0), (.getfield 12, 6, 96), (.iload 1, 0, 0), (.iload 2, 0, 0), (.iushr, 0, 0), (.bipush 255, 2, 0), (.iand, 0, 0), (.i2c, 0, 0), (.castore, 0, 0), (.iload 0, 1, 0), (.dup, 0, 0), (.getfield 12, 6, 96), (.bipush 1, 0, 0), (.iadd, 0, 0), (.putfield 12, 6, 192), (.iinc 2 (-8), 0, 0), (.goto 2, 0, 0), (.return_, 0, 0)]
/-- LentHands.end(I)Z -/
def am_c186 : List am_I := [(.iload 1, 0, 0), (.bipush 0, 0, 0), (.iload 0, 1, 0), (.getfield 12, 6, 96), (.invokevirtual 253, 3, 143), (.ifCond .ne 8, 0, 0), (.bipush 0, 0, 0), (.ireturn, 1, 0), (.iload 0, 1, 0), (.iload 1, 0, 0), (.putfield 12, 6, 192), (.bipush 1, 0, 0), (.ireturn, 1, 0)]
/-- LentHands.text(I)I -/
def am_c187 : List am_I := [(.iload 0, 1, 0), (.checkcast 13, 6, 50), (.iload 0, 1, 0), (.checkcast 11, 6, 43), (.iload 0, 1, 0), (.getfield 12, 6, 96), (.invokevirtual 160, 3, 206), (.iload 0, 1, 0), (.bipush 0, 0, 0), (.putfield 12, 6, 192), (.iload 1, 0, 0), (.bipush 0, 0, 0), (.bipush 4, 0, 0), (.invokevirtual 253, 3, 143), (.ifCond .ne 17, 0, 0), (.bipush (-1), 0, 0), (.ireturn, 0, 0), (.iload 1, 0, 0), (.bipush 3, 0, 0), (.if_icmp .ge 41, 0, 0), (.iload 0, 1, 0), (.checkcast 13, 6, 50), (.iload 1, 0, 0), (.invokevirtual 171, 2, 215), (.ifCond .eq 39, 0, 0), (.iload 0, 1, 0), (.checkcast 5, 6, 26), (.checkcast 0, 4, 110), (.iload 1, 0, 0), (.aaload, 0, 0), (.iload 0, 1, 0), (.checkcast 13, 6, 50), (.checkcast 8, 2, 114), (.invokevirtual 152, 2, 236), (.iload 0, 1, 0), (.checkcast 13, 6, 50), (.checkcast 8, 2, 114), (.getfield 0, 1, 124), (.ireturn, 0, 0), (.bipush (-1), 0, 0), (.ireturn, 0, 0), (.iload 1, 0, 0), (.bipush 3, 0, 0), (.if_icmp .ne 46, 0, 0), (.bipush 1, 0, 0), (.goto 47, 0, 0), (.bipush 0, 0, 0), (.istore 2, 0, 0), (.iload 0, 1, 0), (.checkcast 13, 6, 50), (.iload 2, 0, 0), (.iload 0, 1, 0), (.checkcast 0, 6, 10), (.getfield 2, 5, 75), (.invokevirtual 177, 3, 253), (.ifCond .ne 58, 0, 0), (.bipush (-1), 0, 0), (.ireturn, 0, 0), (.iload 2, 0, 0), (.ifCond .eq 70, 0, 0), (.iload 0, 1, 0), (.checkcast 5, 6, 26), (.checkcast 1, 4, 130), (.iload 0, 1, 0), (.checkcast 13, 6, 50), (.checkcast 9, 2, 134), (.invokevirtual 158, 2, 274), (.iload 0, 1, 0), (.invokevirtual 197, 1, 136), (.goto 77, 0, 0), (.iload 0, 1, 0), (.checkcast 5, 6, 26), (.checkcast 2, 4, 142), (.iload 0, 1, 0), (.checkcast 13, 6, 50), (.checkcast 9, 2, 134), (.invokevirtual 158, 2, 274), (.iload 0, 1, 0), (.checkcast 13, 6, 50), (.checkcast 9, 2, 134), (.getfield 0, 3, 145), (.ireturn, 0, 0)]
/-- LentHands.fault(I)I -/
def am_c188 : List am_I := [(.iload 1, 0, 0), (.ifCond .ne 6, 0, 0), (.iload 0, 1, 0), (.checkcast 13, 6, 50), (.getfield 5, 2, 146), (.goto 14, 0, 0), (.iload 1, 0, 0), (.bipush 1, 0, 0), (.if_icmp .ne 13, 0, 0), (.iload 0, 1, 0), (.checkcast 13, 6, 50), (.getfield 6, 2, 149), (.goto 14, 0, 0), (.bipush (-1), 0, 0), (.ireturn, 0, 0)]
/-- LentHands.lend(IIII)I -/
def am_c189 : List am_I := [(.iload 0, 1, 0), (.iload 0, 1, 0), (.checkcast 0, 6, 10), (.iload 1, 0, 0), (.iload 2, 0, 0), (.iload 3, 0, 0), (.iload 4, 0, 1), (.invokevirtual 218, 6, 305), (.ifCond .ne 11, 0, 0), (.bipush (-1), 0, 0), (.ireturn, 0, 0), (.iload 0, 1, 0), (.invokevirtual 196, 1, 312), (.iload 0, 1, 0), (.checkcast 0, 6, 10), (.iload 1, 0, 0), (.iload 2, 0, 0), (.iload 3, 0, 0), (.iload 4, 0, 1), (.invokevirtual 147, 5, 319), (.ireturn, 0, 0)]
/-- LentHands.leave(II)Z -/
def am_c190 : List am_I := [(.iload 0, 1, 0), (.iload 1, 0, 0), (.iload 2, 0, 0), (.invokevirtual 252, 3, 327), (.istore 3, 0, 0), (.iload 3, 0, 0), (.bipush (-1), 0, 0), (.if_icmp .eq 15, 0, 0), (.iload 3, 0, 0), (.bipush 2, 0, 0), (.iload 1, 0, 0), (.imul, 0, 0), (.iload 2, 0, 0), (.iadd, 0, 0), (.if_icmp .eq 17, 0, 0), (.bipush 0, 0, 0), (.ireturn, 1, 0), (.iload 0, 1, 0), (.invokevirtual 196, 1, 312), (.iload 0, 1, 0), (.checkcast 0, 6, 10), (.iload 3, 0, 0), (.invokevirtual 145, 2, 332), (.bipush 1, 0, 0), (.ireturn, 1, 0)]
/-- LentHands.fetch(II)Z -/
def am_c191 : List am_I := [(.iload 0, 1, 0), (.checkcast 0, 6, 10), (.iload 1, 0, 0), (.invokevirtual 134, 2, 165), (.ifCond .eq 10, 0, 0), (.iload 2, 0, 0), (.bipush 0, 0, 0), (.bipush 1, 0, 0), (.invokevirtual 253, 3, 143), (.ifCond .ne 12, 0, 0), (.bipush 0, 0, 0), (.ireturn, 1, 0), (.bipush 2, 0, 0), (.iload 1, 0, 0), (.imul, 0, 0), (.iload 2, 0, 0), (.iadd, 0, 0), (.istore 3, 0, 0), (.iload 0, 1, 0), (.checkcast 0, 6, 10), (.checkcast 9, 5, 169), (.iload 3, 0, 0), (.iaload, 0, 0), (.bipush (-1), 0, 0), (.if_icmp .ne 32, 0, 0), (.iload 0, 1, 0), (.checkcast 0, 6, 10), (.checkcast 10, 5, 172), (.iload 3, 0, 0), (.iaload, 0, 0), (.bipush (-1), 0, 0), (.if_icmp .eq 34, 0, 0), (.bipush 0, 0, 0), (.ireturn, 1, 0), (.iload 0, 1, 0), (.invokevirtual 196, 1, 312), (.iload 0, 1, 0), (.checkcast 0, 6, 10), (.iload 3, 0, 0), (.iload 1, 0, 0), (.invokevirtual 146, 3, 350), (.bipush 1, 0, 0), (.ireturn, 1, 0)]
/-- LentHands.task(II)Z -/
def am_c192 : List am_I := [(.iload 0, 1, 0), (.checkcast 0, 6, 10), (.iload 1, 0, 0), (.invokevirtual 134, 2, 165), (.ifCond .eq 10, 0, 0), (.iload 2, 0, 0), (.bipush (-1), 0, 0), (.bipush 3, 0, 0), (.invokevirtual 253, 3, 143), (.ifCond .ne 12, 0, 0), (.bipush 0, 0, 0), (.ireturn, 1, 0), (.iload 0, 1, 0), (.invokevirtual 196, 1, 312), (.iload 0, 1, 0), (.checkcast 0, 6, 10), (.checkcast 7, 5, 179), (.iload 1, 0, 0), (.iload 2, 0, 0), (.iastore, 0, 0), (.bipush 1, 0, 0), (.ireturn, 1, 0)]
/-- LentHands.deed(II)I -/
def am_c193 : List am_I := [(.iload 0, 1, 0), (.iload 1, 0, 0), (.iload 2, 0, 0), (.invokevirtual 252, 3, 327), (.istore 3, 0, 0), (.iload 3, 0, 0), (.bipush (-1), 0, 0), (.if_icmp .ne 10, 0, 0), (.bipush (-1), 0, 0), (.ireturn, 0, 0), (.iload 0, 1, 0), (.iload 1, 0, 0), (.iload 3, 0, 0), (.bipush 0, 0, 0), (.invokevirtual 248, 4, 365), (.istore 4, 0, 1), (.iload 0, 1, 0), (.invokevirtual 196, 1, 312), (.iload 4, 0, 1), (.bipush 24, 1, 0), (.if_icmp .eq 24, 0, 0), (.iload 4, 0, 1), (.bipush 26, 1, 0), (.if_icmp .ne 35, 0, 0), (.iload 0, 1, 0), (.checkcast 0, 6, 10), (.checkcast 8, 5, 186), (.iload 3, 0, 0), (.bipush 1, 0, 0), (.ishr, 0, 0), (.dup2, 0, 0), (.iaload, 0, 0), (.bipush 1, 0, 0), (.iadd, 0, 0), (.iastore, 0, 0), (.iload 4, 0, 1), (.bipush 25, 1, 0), (.if_icmp .eq 41, 0, 0), (.iload 4, 0, 1), (.bipush 26, 1, 0), (.if_icmp .ne 50, 0, 0), (.iload 0, 1, 0), (.checkcast 0, 6, 10), (.checkcast 8, 5, 186), (.iload 1, 0, 0), (.dup2, 0, 0), (.iaload, 0, 0), (.bipush 1, 0, 0), (.iadd, 0, 0), (.iastore, 0, 0), (.iload 0, 1, 0), (.iload 3, 0, 0), (.iload 1, 0, 0), (.iload 4, 0, 1), (.bipush 24, 1, 0), (.isub, 0, 0), (.invokevirtual 194, 4, 378), (.iload 4, 0, 1), (.bipush 24, 1, 0), (.isub, 0, 0), (.ireturn, 0, 0)]
/-- LentHands.writeDeed(III)V -/
def am_c194 : List am_I := [(.iload 0, 1, 0), (.checkcast 0, 6, 10), (.getfield 4, 5, 193), (.bipush 100, 1, 0), (.if_icmp .ge 46, 0, 0), (.iload 0, 1, 0), (.checkcast 0, 6, 10), (.getfield 4, 5, 193), (.bipush 4, 0, 0), (.imul, 0, 0), (.istore 4, 0, 1), (.iload 0, 1, 0), (.checkcast 6, 6, 30), (.iload 4, 0, 1), (.iload 0, 1, 0), (.checkcast 0, 6, 10), (.getfield 1, 5, 196), (.iastore, 0, 0), (.iload 0, 1, 0), (.checkcast 6, 6, 30), (.iload 4, 0, 1), (.bipush 1, 0, 0), (.iadd, 0, 0), (.iload 1, 0, 0), (.iastore, 0, 0), (.iload 0, 1, 0), (.checkcast 6, 6, 30), (.iload 4, 0, 1), (.bipush 2, 0, 0), (.iadd, 0, 0), (.iload 2, 0, 0), (.iastore, 0, 0), (.iload 0, 1, 0), (.checkcast 6, 6, 30), (.iload 4, 0, 1), (.bipush 3, 0, 0), (.iadd, 0, 0), (.iload 3, 0, 0), (.iastore, 0, 0), (.iload 0, 1, 0), (.checkcast 0, 6, 10), (.dup, 0, 0), (.getfield 4, 5, 193), (.bipush 1, 0, 0), (.iadd, 0, 0), (.putfield 4, 5, 386), (.return_, 0, 0)]
/-- LentHands.hours(I)I -/
def am_c195 : List am_I := [(.iload 1, 0, 0), (.bipush 1, 0, 0), (.bipush 100, 1, 0), (.invokevirtual 253, 3, 143), (.ifCond .eq 12, 0, 0), (.iload 0, 1, 0), (.checkcast 0, 6, 10), (.getfield 1, 5, 196), (.iload 1, 0, 0), (.iadd, 0, 0), (.bipush 9999, 2, 0), (.if_icmp .le 14, 0, 0), (.bipush (-1), 0, 0), (.ireturn, 0, 0), (.bipush 0, 0, 0), (.istore 2, 0, 0), (.bipush 0, 0, 0), (.istore 3, 0, 0), (.iload 3, 0, 0), (.iload 1, 0, 0), (.if_icmp .ge 39, 0, 0), (.iload 1, 0, 0), (.iload 3, 0, 0), (.isub, 0, 0), (.bipush 6, 1, 0), (.if_icmp .gt 28, 0, 0), (.iload 0, 1, 0), (.invokevirtual 196, 1, 312), (.iload 2, 0, 0), (.iload 0, 1, 0), (.iload 0, 1, 0), (.checkcast 0, 6, 10), (.bipush 1, 0, 0), (.invokevirtual 233, 3, 399), (.invokevirtual 255, 1, 407), (.iadd, 0, 0), (.istore 2, 0, 0), (.iinc 3 1, 0, 0), (.goto 18, 0, 0), (.iload 2, 0, 0), (.ireturn, 0, 0)]
/-- LentHands.keep()V -/
def am_c196 : List am_I := [(.iload 0, 1, 0), (.checkcast 2, 6, 19), (.iload 0, 1, 0), (.getfield 4, 6, 209), (.aaload, 0, 0), (.iload 0, 1, 0), (.checkcast 0, 6, 10), (.invokevirtual 133, 2, 424), (.iload 0, 1, 0), (.iload 0, 1, 0), (.getfield 4, 6, 209), (.bipush 1, 0, 0), (.iadd, 0, 0), (.bipush 6, 1, 0), (.irem, 0, 0), (.putfield 4, 6, 418), (.iload 0, 1, 0), (.iload 0, 1, 0), (.getfield 3, 6, 215), (.bipush 1, 0, 0), (.iadd, 0, 0), (.bipush 6, 1, 0), (.lsub, 218, 0), (.putfield 3, 6, 430), (.return_, 0, 0)]
/-- LentHands.forget()V -/
def am_c197 : List am_I := [(.iload 0, 1, 0), (.bipush 0, 0, 0), (.putfield 3, 6, 430), (.return_, 0, 0)]
/-- LentHands.undo()Z -/
def am_c198 : List am_I := [(.iload 0, 1, 0), (.getfield 3, 6, 215), (.ifCond .ne 5, 0, 0), (.bipush 0, 0, 0), (.ireturn, 1, 0), (.iload 0, 1, 0), (.dup, 0, 0), (.getfield 3, 6, 215), (.bipush 1, 0, 0), (.isub, 0, 0), (.putfield 3, 6, 430), (.iload 0, 1, 0), (.iload 0, 1, 0), (.getfield 4, 6, 209), (.bipush 6, 1, 0), (.iadd, 0, 0), (.bipush 1, 0, 0), (.isub, 0, 0), (.bipush 6, 1, 0), (.irem, 0, 0), (.putfield 4, 6, 418), (.iload 0, 1, 0), (.checkcast 0, 6, 10), (.iload 0, 1, 0), (.checkcast 2, 6, 19), (.iload 0, 1, 0), (.getfield 4, 6, 209), (.aaload, 0, 0), (.invokevirtual 133, 2, 424), (.bipush 1, 0, 0), (.ireturn, 1, 0)]
/-- LentHands.image(Z)Z -/
def am_c199 : List am_I := [(.iload 1, 0, 0), (.ifCond .eq 26, 0, 0), (.iload 0, 1, 0), (.checkcast 7, 6, 34), (.iload 0, 1, 0), (.checkcast 0, 6, 10), (.invokevirtual 133, 2, 424), (.iload 0, 1, 0), (.checkcast 8, 6, 37), (.iload 0, 1, 0), (.checkcast 5, 6, 26), (.invokevirtual 159, 2, 446), (.iload 0, 1, 0), (.checkcast 6, 6, 30), (.bipush 0, 0, 0), (.iload 0, 1, 0), (.checkcast 9, 6, 40), (.bipush 0, 0, 0), (.iload 0, 1, 0), (.checkcast 6, 6, 30), (.arraylength, 0, 0), (.lcmp, 226, 0), (.iload 0, 1, 0), (.bipush 1, 0, 0), (.putfield 10, 6, 465), (.goto 51, 0, 0), (.iload 0, 1, 0), (.getfield 10, 6, 232), (.ifCond .eq 51, 0, 0), (.iload 0, 1, 0), (.checkcast 0, 6, 10), (.iload 0, 1, 0), (.checkcast 7, 6, 34), (.invokevirtual 133, 2, 424), (.iload 0, 1, 0), (.checkcast 5, 6, 26), (.iload 0, 1, 0), (.checkcast 8, 6, 37), (.invokevirtual 159, 2, 446), (.iload 0, 1, 0), (.checkcast 9, 6, 40), (.bipush 0, 0, 0), (.iload 0, 1, 0), (.checkcast 6, 6, 30), (.bipush 0, 0, 0), (.iload 0, 1, 0), (.checkcast 6, 6, 30), (.arraylength, 0, 0), (.lcmp, 226, 0), (.iload 0, 1, 0), (.invokevirtual 197, 1, 136), (.iload 0, 1, 0), (.getfield 10, 6, 232), (.ireturn, 1, 0)]
/-- LentHands.of(II)I -/
def am_c200 : List am_I := [(.iload 0, 1, 0), (.checkcast 0, 6, 10), (.iload 1, 0, 0), (.invokevirtual 134, 2, 165), (.ifCond .ne 7, 0, 0), (.bipush (-2), 1, 0), (.ireturn, 0, 0), (.iload 2, 0, 0), (.tableswitch 61 0 7 #[9, 15, 21, 27, 33, 41, 51, 56], 45, 0), (.iload 0, 1, 0), (.checkcast 0, 6, 10), (.checkcast 5, 5, 236), (.iload 1, 0, 0), (.iaload, 0, 0), (.ireturn, 0, 0), (.iload 0, 1, 0), (.checkcast 0, 6, 10), (.checkcast 6, 5, 239), (.iload 1, 0, 0), (.iaload, 0, 0), (.ireturn, 0, 0), (.iload 0, 1, 0), (.checkcast 0, 6, 10), (.checkcast 7, 5, 179), (.iload 1, 0, 0), (.iaload, 0, 0), (.ireturn, 0, 0), (.iload 0, 1, 0), (.checkcast 0, 6, 10), (.checkcast 8, 5, 186), (.iload 1, 0, 0), (.iaload, 0, 0), (.ireturn, 0, 0), (.iload 0, 1, 0), (.checkcast 0, 6, 10), (.checkcast 9, 5, 169), (.bipush 2, 0, 0), (.iload 1, 0, 0), (.imul, 0, 0), (.iaload, 0, 0), (.ireturn, 0, 0), (.iload 0, 1, 0), (.checkcast 0, 6, 10), (.checkcast 9, 5, 169), (.bipush 2, 0, 0), (.iload 1, 0, 0), (.imul, 0, 0), (.bipush 1, 0, 0), (.iadd, 0, 0), (.iaload, 0, 0), (.ireturn, 0, 0), (.iload 0, 1, 0), (.iload 1, 0, 0), (.bipush 0, 0, 0), (.invokevirtual 201, 3, 485), (.ireturn, 0, 0), (.iload 0, 1, 0), (.iload 1, 0, 0), (.bipush 1, 0, 0), (.invokevirtual 201, 3, 485), (.ireturn, 0, 0), (.bipush (-2), 1, 0), (.ireturn, 0, 0)]
/-- LentHands.ring(II)I -/
def am_c201 : List am_I := [(.iload 1, 0, 0), (.istore 3, 0, 0), (.bipush 1, 0, 0), (.istore 4, 0, 1), (.iload 4, 0, 1), (.bipush 8, 1, 0), (.if_icmp .gt 28, 0, 0), (.iload 0, 1, 0), (.iload 3, 0, 0), (.iload 2, 0, 0), (.invokevirtual 252, 3, 327), (.istore 5, 0, 1), (.iload 5, 0, 1), (.bipush (-1), 0, 0), (.if_icmp .ne 17, 0, 0), (.bipush 0, 0, 0), (.ireturn, 0, 0), (.iload 5, 0, 1), (.bipush 1, 0, 0), (.ishr, 0, 0), (.istore 3, 0, 0), (.iload 3, 0, 0), (.iload 1, 0, 0), (.if_icmp .ne 26, 0, 0), (.iload 4, 0, 1), (.ireturn, 0, 0), (.iinc 4 1, 0, 0), (.goto 4, 0, 0), (.bipush 0, 0, 0), (.ireturn, 0, 0)]
/-- LentHands.at(II)I -/
def am_c202 : List am_I := [(.iload 0, 1, 0), (.checkcast 0, 6, 10), (.iload 1, 0, 0), (.invokevirtual 135, 2, 181), (.ifCond .ne 7, 0, 0), (.bipush (-2), 1, 0), (.ireturn, 0, 0), (.iload 0, 1, 0), (.checkcast 0, 6, 10), (.iload 1, 0, 0), (.invokevirtual 143, 2, 491), (.istore 3, 0, 0), (.iload 2, 0, 0), (.tableswitch 70 0 10 #[14, 14, 14, 14, 24, 30, 36, 42, 48, 54, 59], 60, 0), (.iload 0, 1, 0), (.checkcast 0, 6, 10), (.checkcast 11, 5, 248), (.iload 1, 0, 0), (.bipush 4, 0, 0), (.imul, 0, 0), (.iload 2, 0, 0), (.iadd, 0, 0), (.iaload, 0, 0), (.ireturn, 0, 0), (.iload 0, 1, 0), (.checkcast 0, 6, 10), (.checkcast 12, 5, 251), (.iload 1, 0, 0), (.iaload, 0, 0), (.ireturn, 0, 0), (.iload 0, 1, 0), (.checkcast 0, 6, 10), (.checkcast 13, 5, 254), (.iload 1, 0, 0), (.iaload, 0, 0), (.ireturn, 0, 0), (.iload 0, 1, 0), (.checkcast 0, 6, 10), (.checkcast 14, 5, 257), (.iload 1, 0, 0), (.iaload, 0, 0), (.ireturn, 0, 0), (.iload 0, 1, 0), (.checkcast 0, 6, 10), (.checkcast 15, 5, 260), (.iload 1, 0, 0), (.iaload, 0, 0), (.ireturn, 0, 0), (.iload 0, 1, 0), (.checkcast 0, 6, 10), (.checkcast 10, 5, 172), (.iload 1, 0, 0), (.iaload, 0, 0), (.ireturn, 0, 0), (.iload 0, 1, 0), (.checkcast 0, 6, 10), (.iload 1, 0, 0), (.invokevirtual 144, 2, 527), (.ireturn, 0, 0), (.iload 3, 0, 0), (.bipush (-1), 0, 0), (.if_icmp .ne 64, 0, 0), (.bipush (-1), 0, 0), (.goto 69, 0, 0), (.iload 0, 1, 0), (.checkcast 0, 6, 10), (.iload 3, 0, 0), (.bipush 3, 0, 0), (.invokevirtual 142, 3, 533), (.ireturn, 0, 0), (.bipush (-2), 1, 0), (.ireturn, 0, 0)]
/-- LentHands.loan(II)I -/
def am_c203 : List am_I := [(.iload 1, 0, 0), (.bipush 0, 0, 0), (.iload 0, 1, 0), (.checkcast 0, 6, 10), (.getfield 3, 5, 269), (.bipush 1, 0, 0), (.isub, 0, 0), (.invokevirtual 253, 3, 143), (.ifCond .eq 14, 0, 0), (.iload 2, 0, 0), (.bipush 0, 0, 0), (.bipush 4, 0, 0), (.invokevirtual 253, 3, 143), (.ifCond .ne 16, 0, 0), (.bipush (-1), 0, 0), (.ireturn, 0, 0), (.iload 0, 1, 0), (.checkcast 0, 6, 10), (.iload 1, 0, 0), (.iload 2, 0, 0), (.invokevirtual 142, 3, 533), (.ireturn, 0, 0)]
/-- LentHands.book(II)I -/
def am_c204 : List am_I := [(.iload 1, 0, 0), (.bipush 0, 0, 0), (.iload 0, 1, 0), (.checkcast 0, 6, 10), (.getfield 4, 5, 193), (.bipush 1, 0, 0), (.isub, 0, 0), (.invokevirtual 253, 3, 143), (.ifCond .eq 14, 0, 0), (.iload 2, 0, 0), (.bipush 0, 0, 0), (.bipush 3, 0, 0), (.invokevirtual 253, 3, 143), (.ifCond .ne 16, 0, 0), (.bipush (-1), 0, 0), (.ireturn, 0, 0), (.iload 0, 1, 0), (.checkcast 6, 6, 30), (.iload 1, 0, 0), (.bipush 4, 0, 0), (.imul, 0, 0), (.iload 2, 0, 0), (.iadd, 0, 0), (.iaload, 0, 0), (.ireturn, 0, 0)]
/-- LentHands.look(I)I -/
def am_c205 : List am_I := [(.iload 1, 0, 0), (.tableswitch 47 0 11 #[2, 6, 10, 14, 18, 22, 22, 22, 31, 36, 41, 44], 63, 0), (.iload 0, 1, 0), (.checkcast 0, 6, 10), (.getfield 2, 5, 75), (.ireturn, 0, 0), (.iload 0, 1, 0), (.checkcast 0, 6, 10), (.getfield 1, 5, 196), (.ireturn, 0, 0), (.iload 0, 1, 0), (.checkcast 0, 6, 10), (.getfield 3, 5, 269), (.ireturn, 0, 0), (.iload 0, 1, 0), (.checkcast 0, 6, 10), (.getfield 4, 5, 193), (.ireturn, 0, 0), (.iload 0, 1, 0), (.checkcast 0, 6, 10), (.getfield 0, 5, 64), (.ireturn, 0, 0), (.iload 0, 1, 0), (.checkcast 5, 6, 26), (.checkcast 0, 4, 110), (.iload 1, 0, 0), (.bipush 5, 0, 0), (.isub, 0, 0), (.aaload, 0, 0), (.getfield 0, 1, 124), (.ireturn, 0, 0), (.iload 0, 1, 0), (.checkcast 5, 6, 26), (.checkcast 1, 4, 130), (.getfield 0, 3, 145), (.ireturn, 0, 0), (.iload 0, 1, 0), (.checkcast 5, 6, 26), (.checkcast 2, 4, 142), (.getfield 0, 3, 145), (.ireturn, 0, 0), (.iload 0, 1, 0), (.getfield 3, 6, 215), (.ireturn, 0, 0), (.iload 0, 1, 0), (.invokevirtual 206, 1, 545), (.ireturn, 0, 0), (.bipush (-1), 0, 0), (.ireturn, 0, 0)]
/-- LentHands.inOffice()I -/
def am_c206 : List am_I := [(.bipush 0, 0, 0), (.istore 1, 0, 0), (.bipush 0, 0, 0), (.istore 2, 0, 0), (.iload 2, 0, 0), (.bipush 2, 0, 0), (.iload 0, 1, 0), (.checkcast 0, 6, 10), (.getfield 2, 5, 75), (.imul, 0, 0), (.if_icmp .ge 26, 0, 0), (.iload 0, 1, 0), (.checkcast 0, 6, 10), (.checkcast 10, 5, 172), (.iload 2, 0, 0), (.iaload, 0, 0), (.bipush (-1), 0, 0), (.if_icmp .ne 24, 0, 0), (.iload 1, 0, 0), (.bipush 1, 0, 0), (.iload 2, 0, 0), (.ishl, 0, 0), (.ior, 0, 0), (.istore 1, 0, 0), (.iinc 2 1, 0, 0), (.goto 4, 0, 0), (.iload 1, 0, 0), (.ireturn, 0, 0)]
/-- LentHands.chain(II)I -/
def am_c207 : List am_I := [(.iload 0, 1, 0), (.checkcast 0, 6, 10), (.iload 1, 0, 0), (.invokevirtual 135, 2, 181), (.ifCond .eq 7, 0, 0), (.iload 2, 0, 0), (.ifCond .ge 9, 0, 0), (.bipush (-1), 0, 0), (.ireturn, 0, 0), (.bipush 0, 0, 0), (.istore 3, 0, 0), (.bipush 0, 0, 0), (.istore 4, 0, 1), (.iload 4, 0, 1), (.iload 0, 1, 0), (.checkcast 0, 6, 10), (.getfield 3, 5, 269), (.if_icmp .ge 37, 0, 0), (.iload 0, 1, 0), (.checkcast 0, 6, 10), (.iload 4, 0, 1), (.bipush 0, 0, 0), (.invokevirtual 142, 3, 533), (.iload 1, 0, 0), (.if_icmp .ne 35, 0, 0), (.iload 3, 0, 0), (.iload 2, 0, 0), (.if_icmp .ne 34, 0, 0), (.iload 0, 1, 0), (.checkcast 0, 6, 10), (.iload 4, 0, 1), (.bipush 1, 0, 0), (.invokevirtual 142, 3, 533), (.ireturn, 0, 0), (.iinc 3 1, 0, 0), (.iinc 4 1, 0, 0), (.goto 13, 0, 0), (.bipush (-1), 0, 0), (.ireturn, 0, 0)]
/-- LentHands.owes(II)I -/
def am_c208 : List am_I := [(.iload 0, 1, 0), (.checkcast 0, 6, 10), (.iload 1, 0, 0), (.invokevirtual 134, 2, 165), (.ifCond .eq 10, 0, 0), (.iload 2, 0, 0), (.bipush 0, 0, 0), (.bipush 1, 0, 0), (.invokevirtual 253, 3, 143), (.ifCond .ne 12, 0, 0), (.bipush (-1), 0, 0), (.ireturn, 0, 0), (.iload 2, 0, 0), (.ifCond .ne 16, 0, 0), (.bipush 2, 0, 0), (.goto 17, 0, 0), (.bipush 1, 0, 0), (.istore 3, 0, 0), (.bipush 0, 0, 0), (.istore 4, 0, 1), (.bipush 0, 0, 0), (.istore 5, 0, 1), (.iload 5, 0, 1), (.iload 0, 1, 0), (.checkcast 0, 6, 10), (.getfield 3, 5, 269), (.if_icmp .ge 46, 0, 0), (.iload 0, 1, 0), (.checkcast 0, 6, 10), (.iload 5, 0, 1), (.iload 3, 0, 0), (.invokevirtual 142, 3, 533), (.iload 1, 0, 0), (.if_icmp .ne 44, 0, 0), (.iload 4, 0, 1), (.bipush 1, 0, 0), (.iload 0, 1, 0), (.checkcast 0, 6, 10), (.iload 5, 0, 1), (.bipush 0, 0, 0), (.invokevirtual 142, 3, 533), (.ishl, 0, 0), (.ior, 0, 0), (.istore 4, 0, 1), (.iinc 5 1, 0, 0), (.goto 22, 0, 0), (.iload 4, 0, 1), (.ireturn, 0, 0)]
/-- LentHands.callus()I -/
def am_c209 : List am_I := [(.bipush (-1), 0, 0), (.istore 1, 0, 0), (.bipush 0, 0, 0), (.istore 2, 0, 0), (.iload 2, 0, 0), (.bipush 2, 0, 0), (.iload 0, 1, 0), (.checkcast 0, 6, 10), (.getfield 2, 5, 75), (.imul, 0, 0), (.if_icmp .ge 34, 0, 0), (.iload 0, 1, 0), (.checkcast 0, 6, 10), (.iload 2, 0, 0), (.invokevirtual 139, 2, 553), (.ifCond .ne 32, 0, 0), (.iload 1, 0, 0), (.bipush (-1), 0, 0), (.if_icmp .eq 30, 0, 0), (.iload 0, 1, 0), (.checkcast 0, 6, 10), (.checkcast 12, 5, 251), (.iload 2, 0, 0), (.iaload, 0, 0), (.iload 0, 1, 0), (.checkcast 0, 6, 10), (.checkcast 12, 5, 251), (.iload 1, 0, 0), (.iaload, 0, 0), (.if_icmp .le 32, 0, 0), (.iload 2, 0, 0), (.istore 1, 0, 0), (.iinc 2 1, 0, 0), (.goto 4, 0, 0), (.iload 1, 0, 0), (.ireturn, 0, 0)]
/-- LentHands.bare()I -/
def am_c210 : List am_I := [(.bipush 0, 0, 0), (.istore 1, 0, 0), (.bipush 0, 0, 0), (.istore 2, 0, 0), (.iload 2, 0, 0), (.iload 0, 1, 0), (.checkcast 0, 6, 10), (.getfield 2, 5, 75), (.if_icmp .ge 33, 0, 0), (.iload 0, 1, 0), (.checkcast 0, 6, 10), (.bipush 2, 0, 0), (.iload 2, 0, 0), (.imul, 0, 0), (.invokevirtual 139, 2, 553), (.ifCond .ne 31, 0, 0), (.iload 0, 1, 0), (.checkcast 0, 6, 10), (.bipush 2, 0, 0), (.iload 2, 0, 0), (.imul, 0, 0), (.bipush 1, 0, 0), (.iadd, 0, 0), (.invokevirtual 139, 2, 553), (.ifCond .ne 31, 0, 0), (.iload 1, 0, 0), (.bipush 1, 0, 0), (.iload 2, 0, 0), (.ishl, 0, 0), (.ior, 0, 0), (.istore 1, 0, 0), (.iinc 2 1, 0, 0), (.goto 4, 0, 0), (.iload 1, 0, 0), (.ireturn, 0, 0)]
/-- LentHands.spread(II)I -/
def am_c211 : List am_I := [(.iload 1, 0, 0), (.bipush 0, 0, 0), (.bipush 3, 0, 0), (.invokevirtual 253, 3, 143), (.ifCond .ne 7, 0, 0), (.bipush (-1), 0, 0), (.ireturn, 0, 0), (.bipush 0, 0, 0), (.istore 3, 0, 0), (.bipush 0, 0, 0), (.istore 4, 0, 1), (.iload 4, 0, 1), (.bipush 2, 0, 0), (.iload 0, 1, 0), (.checkcast 0, 6, 10), (.getfield 2, 5, 75), (.imul, 0, 0), (.if_icmp .ge 46, 0, 0), (.iload 0, 1, 0), (.checkcast 0, 6, 10), (.checkcast 10, 5, 172), (.iload 4, 0, 1), (.iaload, 0, 0), (.istore 5, 0, 1), (.iload 5, 0, 1), (.bipush (-1), 0, 0), (.if_icmp .eq 44, 0, 0), (.iload 0, 1, 0), (.checkcast 0, 6, 10), (.checkcast 11, 5, 248), (.iload 4, 0, 1), (.bipush 4, 0, 0), (.imul, 0, 0), (.iload 1, 0, 0), (.iadd, 0, 0), (.iaload, 0, 0), (.iload 2, 0, 0), (.if_icmp .lt 44, 0, 0), (.iload 3, 0, 0), (.bipush 1, 0, 0), (.iload 5, 0, 1), (.ishl, 0, 0), (.ior, 0, 0), (.istore 3, 0, 0), (.iinc 4 1, 0, 0), (.goto 11, 0, 0), (.iload 3, 0, 0), (.ireturn, 0, 0)]
/-- LentHands.whose(I)I -/
def am_c212 : List am_I := [(.iload 1, 0, 0), (.bipush 0, 0, 0), (.bipush 1, 0, 0), (.iload 0, 1, 0), (.checkcast 0, 6, 10), (.getfield 2, 5, 75), (.ishl, 0, 0), (.bipush 1, 0, 0), (.isub, 0, 0), (.invokevirtual 253, 3, 143), (.ifCond .ne 13, 0, 0), (.bipush (-1), 0, 0), (.ireturn, 0, 0), (.bipush 0, 0, 0), (.istore 2, 0, 0), (.bipush 0, 0, 0), (.istore 3, 0, 0), (.iload 3, 0, 0), (.bipush 2, 0, 0), (.iload 0, 1, 0), (.checkcast 0, 6, 10), (.getfield 2, 5, 75), (.imul, 0, 0), (.if_icmp .ge 41, 0, 0), (.iload 0, 1, 0), (.checkcast 0, 6, 10), (.checkcast 14, 5, 257), (.iload 3, 0, 0), (.iaload, 0, 0), (.iload 1, 0, 0), (.iand, 0, 0), (.iload 1, 0, 0), (.if_icmp .ne 39, 0, 0), (.iload 2, 0, 0), (.bipush 1, 0, 0), (.iload 3, 0, 0), (.ishl, 0, 0), (.ior, 0, 0), (.istore 2, 0, 0), (.iinc 3 1, 0, 0), (.goto 17, 0, 0), (.iload 2, 0, 0), (.ireturn, 0, 0)]
/-- LentHands.ask(I)I -/
def am_c213 : List am_I := [(.iload 1, 0, 0), (.invokevirtual 255, 1, 407), (.istore 2, 0, 0), (.iload 1, 0, 0), (.bipush 0, 0, 0), (.bipush 1, 0, 0), (.bipush 2, 0, 0), (.iload 0, 1, 0), (.checkcast 0, 6, 10), (.getfield 2, 5, 75), (.imul, 0, 0), (.ishl, 0, 0), (.bipush 1, 0, 0), (.isub, 0, 0), (.invokevirtual 253, 3, 143), (.ifCond .eq 19, 0, 0), (.iload 2, 0, 0), (.bipush 2, 0, 0), (.if_icmp .ge 21, 0, 0), (.bipush (-1), 0, 0), (.ireturn, 0, 0), (.bipush (-1), 0, 0), (.istore 3, 0, 0), (.bipush 17, 1, 0), (.istore 4, 0, 1), (.bipush 0, 0, 0), (.istore 5, 0, 1), (.iload 5, 0, 1), (.iload 0, 1, 0), (.checkcast 0, 6, 10), (.getfield 2, 5, 75), (.if_icmp .ge 52, 0, 0), (.iload 0, 1, 0), (.iload 1, 0, 0), (.iload 5, 0, 1), (.invokevirtual 214, 3, 559), (.istore 6, 0, 1), (.iload 6, 0, 1), (.iload 2, 0, 0), (.iload 6, 0, 1), (.isub, 0, 0), (.ladd, 282, 0), (.istore 7, 0, 1), (.iload 7, 0, 1), (.iload 4, 0, 1), (.if_icmp .ge 50, 0, 0), (.iload 5, 0, 1), (.istore 3, 0, 0), (.iload 7, 0, 1), (.istore 4, 0, 1), (.iinc 5 1, 0, 0), (.goto 27, 0, 0), (.iload 3, 0, 0), (.ireturn, 0, 0)]
/-- LentHands.markedAmong(II)I -/
def am_c214 : List am_I := [(.bipush 0, 0, 0), (.istore 3, 0, 0), (.bipush 0, 0, 0), (.istore 4, 0, 1), (.iload 4, 0, 1), (.bipush 2, 0, 0), (.iload 0, 1, 0), (.checkcast 0, 6, 10), (.getfield 2, 5, 75), (.imul, 0, 0), (.if_icmp .ge 32, 0, 0), (.iload 1, 0, 0), (.iload 4, 0, 1), (.ishr, 0, 0), (.bipush 1, 0, 0), (.iand, 0, 0), (.bipush 1, 0, 0), (.if_icmp .ne 30, 0, 0), (.iload 0, 1, 0), (.checkcast 0, 6, 10), (.checkcast 14, 5, 257), (.iload 4, 0, 1), (.iaload, 0, 0), (.iload 2, 0, 0), (.ishr, 0, 0), (.bipush 1, 0, 0), (.iand, 0, 0), (.bipush 1, 0, 0), (.if_icmp .ne 30, 0, 0), (.iinc 3 1, 0, 0), (.iinc 4 1, 0, 0), (.goto 4, 0, 0), (.iload 3, 0, 0), (.ireturn, 0, 0)]
/-- LentHands.turnsOf(IIII)I -/
def am_c215 : List am_I := [(.iload 1, 0, 0), (.bipush 1, 0, 0), (.bipush 60, 1, 0), (.invokevirtual 253, 3, 143), (.ifCond .eq 15, 0, 0), (.iload 2, 0, 0), (.bipush 1, 0, 0), (.bipush 9, 1, 0), (.invokevirtual 253, 3, 143), (.ifCond .eq 15, 0, 0), (.iload 3, 0, 0), (.bipush 1, 0, 0), (.bipush 9, 1, 0), (.invokevirtual 253, 3, 143), (.ifCond .ne 17, 0, 0), (.bipush (-1), 0, 0), (.ireturn, 0, 0), (.iload 4, 0, 1), (.ifCond .eq 28, 0, 0), (.iload 4, 0, 1), (.bipush 10, 1, 0), (.bipush 9, 1, 0), (.iload 1, 0, 0), (.iadd, 0, 0), (.invokevirtual 253, 3, 143), (.ifCond .ne 28, 0, 0), (.bipush (-1), 0, 0), (.ireturn, 0, 0), (.bipush 0, 0, 0), (.istore 5, 0, 1), (.bipush 0, 0, 0), (.istore 6, 0, 1), (.iload 6, 0, 1), (.iload 1, 0, 0), (.if_icmp .ge 64, 0, 0), (.iload 5, 0, 1), (.iload 3, 0, 0), (.imul, 0, 0), (.iload 6, 0, 1), (.iload 5, 0, 1), (.isub, 0, 0), (.iload 2, 0, 0), (.imul, 0, 0), (.if_icmp .gt 46, 0, 0), (.bipush 1, 0, 0), (.goto 47, 0, 0), (.bipush 0, 0, 0), (.istore 7, 0, 1), (.iload 4, 0, 1), (.bipush 10, 1, 0), (.iload 6, 0, 1), (.iadd, 0, 0), (.if_icmp .ne 59, 0, 0), (.iload 7, 0, 1), (.ifCond .eq 57, 0, 0), (.bipush 0, 0, 0), (.goto 58, 0, 0), (.bipush 1, 0, 0), (.ireturn, 0, 0), (.iload 7, 0, 1), (.ifCond .eq 62, 0, 0), (.iinc 5 1, 0, 0), (.iinc 6 1, 0, 0), (.goto 32, 0, 0), (.iload 5, 0, 1), (.ireturn, 0, 0)]
/-- LentHands.may(IIII)I -/
def am_c216 : List am_I := [(.iload 0, 1, 0), (.checkcast 0, 6, 10), (.iload 1, 0, 0), (.invokevirtual 135, 2, 181), (.ifCond .eq 10, 0, 0), (.iload 0, 1, 0), (.checkcast 0, 6, 10), (.iload 2, 0, 0), (.invokevirtual 134, 2, 165), (.ifCond .ne 12, 0, 0), (.bipush (-1), 0, 0), (.ireturn, 0, 0), (.iload 3, 0, 0), (.bipush 1, 0, 0), (.bipush 99, 1, 0), (.invokevirtual 253, 3, 143), (.ifCond .eq 22, 0, 0), (.iload 4, 0, 1), (.bipush 0, 0, 0), (.bipush 99, 1, 0), (.invokevirtual 253, 3, 143), (.ifCond .ne 24, 0, 0), (.bipush (-1), 0, 0), (.ireturn, 0, 0), (.iload 0, 1, 0), (.iload 0, 1, 0), (.checkcast 0, 6, 10), (.iload 1, 0, 0), (.iload 2, 0, 0), (.iload 3, 0, 0), (.iload 4, 0, 1), (.invokevirtual 217, 6, 571), (.ifCond .eq 35, 0, 0), (.bipush 1, 0, 0), (.goto 36, 0, 0), (.bipush 0, 0, 0), (.ireturn, 0, 0)]
/-- LentHands.lawLends(LLentHands$World;IIII)Z -/
def am_c217 : List am_I := [(.iload 0, 1, 0), (.checkcast 14, 6, 57), (.checkcast 0, 0, 288), (.istore 6, 1, 1), (.iload 0, 1, 0), (.iload 1, 1, 0), (.iload 2, 0, 0), (.iload 3, 0, 0), (.invokevirtual 251, 4, 582), (.iload 6, 1, 1), (.bipush 4, 0, 0), (.iload 4, 0, 1), (.iastore, 0, 0), (.iload 6, 1, 1), (.bipush 5, 0, 0), (.iload 5, 0, 1), (.iastore, 0, 0), (.iload 6, 1, 1), (.bipush 6, 1, 0), (.iload 1, 1, 0), (.checkcast 5, 5, 236), (.iload 3, 0, 0), (.iaload, 0, 0), (.iastore, 0, 0), (.iload 6, 1, 1), (.bipush 9, 1, 0), (.iload 1, 1, 0), (.iload 2, 0, 0), (.invokevirtual 144, 2, 527), (.iastore, 0, 0), (.iload 0, 1, 0), (.checkcast 5, 6, 26), (.checkcast 0, 4, 110), (.bipush 0, 0, 0), (.aaload, 0, 0), (.iload 0, 1, 0), (.checkcast 14, 6, 57), (.invokevirtual 154, 2, 591), (.istore 7, 0, 1), (.iload 7, 0, 1), (.bipush (-1), 0, 0), (.if_icmp .eq 45, 0, 0), (.iload 7, 0, 1), (.bipush 18, 1, 0), (.if_icmp .ne 47, 0, 0), (.bipush 1, 0, 0), (.goto 48, 0, 0), (.bipush 0, 0, 0), (.ireturn, 1, 0)]
/-- LentHands.canBeLent(LLentHands$World;IIII)Z -/
def am_c218 : List am_I := [(.iload 1, 1, 0), (.iload 2, 0, 0), (.invokevirtual 135, 2, 181), (.ifCond .eq 20, 0, 0), (.iload 1, 1, 0), (.iload 3, 0, 0), (.invokevirtual 134, 2, 165), (.ifCond .eq 20, 0, 0), (.iload 1, 1, 0), (.checkcast 10, 5, 172), (.iload 2, 0, 0), (.iaload, 0, 0), (.bipush (-1), 0, 0), (.if_icmp .eq 20, 0, 0), (.iload 1, 1, 0), (.checkcast 10, 5, 172), (.iload 2, 0, 0), (.iaload, 0, 0), (.iload 3, 0, 0), (.if_icmp .ne 22, 0, 0), (.bipush 0, 0, 0), (.ireturn, 1, 0), (.iload 4, 0, 1), (.bipush 1, 0, 0), (.bipush 99, 1, 0), (.invokevirtual 253, 3, 143), (.ifCond .eq 32, 0, 0), (.iload 5, 0, 1), (.bipush 0, 0, 0), (.bipush 99, 1, 0), (.invokevirtual 253, 3, 143), (.ifCond .ne 34, 0, 0), (.bipush 0, 0, 0), (.ireturn, 1, 0), (.iload 1, 1, 0), (.getfield 3, 5, 269), (.bipush 16, 1, 0), (.if_icmp .ge 46, 0, 0), (.iload 1, 1, 0), (.checkcast 5, 5, 236), (.iload 3, 0, 0), (.iaload, 0, 0), (.iload 4, 0, 1), (.iload 5, 0, 1), (.imul, 0, 0), (.if_icmp .ge 48, 0, 0), (.bipush 0, 0, 0), (.ireturn, 1, 0), (.iload 1, 1, 0), (.iload 2, 0, 0), (.invokevirtual 143, 2, 491), (.istore 6, 0, 1), (.iload 6, 0, 1), (.bipush (-1), 0, 0), (.if_icmp .eq 66, 0, 0), (.iload 1, 1, 0), (.getfield 1, 5, 196), (.iload 4, 0, 1), (.iadd, 0, 0), (.iload 1, 1, 0), (.iload 6, 0, 1), (.bipush 3, 0, 0), (.invokevirtual 142, 3, 533), (.if_icmp .le 66, 0, 0), (.bipush 0, 0, 0), (.ireturn, 1, 0), (.iload 0, 1, 0), (.iload 1, 1, 0), (.iload 2, 0, 0), (.iload 3, 0, 0), (.iload 4, 0, 1), (.iload 5, 0, 1), (.invokevirtual 217, 6, 571), (.ireturn, 1, 0)]
/-- LentHands.finds(IIII)I -/
def am_c219 : List am_I := [(.iload 0, 1, 0), (.checkcast 0, 6, 10), (.iload 1, 0, 0), (.invokevirtual 134, 2, 165), (.ifCond .eq 10, 0, 0), (.iload 2, 0, 0), (.bipush 0, 0, 0), (.bipush 3, 0, 0), (.invokevirtual 253, 3, 143), (.ifCond .ne 12, 0, 0), (.bipush (-1), 0, 0), (.ireturn, 0, 0), (.bipush 0, 0, 0), (.istore 5, 0, 1), (.iload 5, 0, 1), (.bipush 2, 0, 0), (.iload 0, 1, 0), (.checkcast 0, 6, 10), (.getfield 2, 5, 75), (.imul, 0, 0), (.if_icmp .ge 45, 0, 0), (.iload 0, 1, 0), (.checkcast 0, 6, 10), (.checkcast 11, 5, 248), (.iload 5, 0, 1), (.bipush 4, 0, 0), (.imul, 0, 0), (.iload 2, 0, 0), (.iadd, 0, 0), (.iaload, 0, 0), (.iload 3, 0, 0), (.if_icmp .lt 43, 0, 0), (.iload 0, 1, 0), (.iload 0, 1, 0), (.checkcast 0, 6, 10), (.iload 5, 0, 1), (.iload 1, 0, 0), (.iload 4, 0, 1), (.bipush 0, 0, 0), (.invokevirtual 218, 6, 305), (.ifCond .eq 43, 0, 0), (.iload 5, 0, 1), (.ireturn, 0, 0), (.iinc 5 1, 0, 0), (.goto 14, 0, 0), (.bipush (-1), 0, 0), (.ireturn, 0, 0)]
/-- LentHands.dear(III)I -/
def am_c220 : List am_I := [(.bipush 99, 1, 0), (.istore 4, 0, 1), (.iload 4, 0, 1), (.ifCond .lt 17, 0, 0), (.iload 0, 1, 0), (.iload 0, 1, 0), (.checkcast 0, 6, 10), (.iload 1, 0, 0), (.iload 2, 0, 0), (.iload 3, 0, 0), (.iload 4, 0, 1), (.invokevirtual 218, 6, 305), (.ifCond .eq 15, 0, 0), (.iload 4, 0, 1), (.ireturn, 0, 0), (.iinc 4 (-1), 0, 0), (.goto 2, 0, 0), (.bipush (-1), 0, 0), (.ireturn, 0, 0)]
/-- LentHands.can(II)I -/
def am_c221 : List am_I := [(.iload 0, 1, 0), (.checkcast 0, 6, 10), (.iload 1, 0, 0), (.invokevirtual 134, 2, 165), (.ifCond .eq 15, 0, 0), (.iload 2, 0, 0), (.bipush 0, 0, 0), (.iload 0, 1, 0), (.checkcast 5, 6, 26), (.checkcast 2, 4, 142), (.getfield 0, 3, 145), (.bipush 1, 0, 0), (.isub, 0, 0), (.invokevirtual 253, 3, 143), (.ifCond .ne 17, 0, 0), (.bipush (-1), 0, 0), (.ireturn, 0, 0), (.iload 0, 1, 0), (.iload 1, 0, 0), (.iload 2, 0, 0), (.invokevirtual 222, 3, 599), (.ifCond .eq 24, 0, 0), (.bipush 1, 0, 0), (.goto 25, 0, 0), (.bipush 0, 0, 0), (.ireturn, 0, 0)]
/-- LentHands.canDo(II)Z -/
def am_c222 : List am_I := [(.iload 0, 1, 0), (.iload 2, 0, 0), (.iload 0, 1, 0), (.checkcast 0, 6, 10), (.checkcast 9, 5, 169), (.bipush 2, 0, 0), (.iload 1, 0, 0), (.imul, 0, 0), (.iaload, 0, 0), (.iload 0, 1, 0), (.checkcast 0, 6, 10), (.checkcast 9, 5, 169), (.bipush 2, 0, 0), (.iload 1, 0, 0), (.imul, 0, 0), (.bipush 1, 0, 0), (.iadd, 0, 0), (.iaload, 0, 0), (.invokevirtual 223, 4, 607), (.ireturn, 1, 0)]
/-- LentHands.suffice(III)Z -/
def am_c223 : List am_I := [(.iload 0, 1, 0), (.iload 1, 0, 0), (.iload 2, 0, 0), (.invokevirtual 224, 3, 613), (.istore 4, 0, 1), (.iload 0, 1, 0), (.iload 1, 0, 0), (.iload 3, 0, 0), (.invokevirtual 224, 3, 613), (.istore 5, 0, 1), (.iload 0, 1, 0), (.checkcast 5, 6, 26), (.checkcast 2, 4, 142), (.iload 1, 0, 0), (.bipush 3, 0, 0), (.invokevirtual 157, 3, 619), (.bipush 1, 0, 0), (.if_icmp .ne 26, 0, 0), (.iload 4, 0, 1), (.ifCond .eq 24, 0, 0), (.iload 5, 0, 1), (.ifCond .eq 24, 0, 0), (.bipush 1, 0, 0), (.goto 33, 0, 0), (.bipush 0, 0, 0), (.goto 33, 0, 0), (.iload 4, 0, 1), (.ifCond .ne 30, 0, 0), (.iload 5, 0, 1), (.ifCond .eq 32, 0, 0), (.bipush 1, 0, 0), (.goto 33, 0, 0), (.bipush 0, 0, 0), (.ireturn, 1, 0)]
/-- LentHands.suffices(II)Z -/
def am_c224 : List am_I := [(.iload 0, 1, 0), (.checkcast 5, 6, 26), (.checkcast 2, 4, 142), (.iload 1, 0, 0), (.bipush 0, 0, 0), (.invokevirtual 157, 3, 619), (.istore 3, 0, 0), (.iload 0, 1, 0), (.checkcast 0, 6, 10), (.iload 2, 0, 0), (.invokevirtual 135, 2, 181), (.ifCond .eq 30, 0, 0), (.iload 0, 1, 0), (.checkcast 0, 6, 10), (.checkcast 11, 5, 248), (.iload 2, 0, 0), (.bipush 4, 0, 0), (.imul, 0, 0), (.iload 3, 0, 0), (.iadd, 0, 0), (.iaload, 0, 0), (.iload 0, 1, 0), (.checkcast 5, 6, 26), (.checkcast 2, 4, 142), (.iload 1, 0, 0), (.bipush 1, 0, 0), (.invokevirtual 157, 3, 619), (.if_icmp .lt 30, 0, 0), (.bipush 1, 0, 0), (.goto 31, 0, 0), (.bipush 0, 0, 0), (.ireturn, 1, 0)]
/-- LentHands.pay(I)I -/
def am_c225 : List am_I := [(.iload 0, 1, 0), (.checkcast 5, 6, 26), (.checkcast 2, 4, 142), (.getfield 0, 3, 145), (.istore 2, 0, 0), (.iload 1, 0, 0), (.ifCond .eq 16, 0, 0), (.iload 1, 0, 0), (.bipush 10, 1, 0), (.bipush 9, 1, 0), (.iload 2, 0, 0), (.iadd, 0, 0), (.invokevirtual 253, 3, 143), (.ifCond .ne 16, 0, 0), (.bipush (-1), 0, 0), (.ireturn, 0, 0), (.bipush 0, 0, 0), (.istore 3, 0, 0), (.iload 3, 0, 0), (.bipush 1, 0, 0), (.iload 0, 1, 0), (.checkcast 0, 6, 10), (.getfield 2, 5, 75), (.ishl, 0, 0), (.if_icmp .ge 36, 0, 0), (.iload 0, 1, 0), (.checkcast 15, 6, 61), (.iload 2, 0, 0), (.bipush 8, 1, 0), (.ishl, 0, 0), (.iload 3, 0, 0), (.iadd, 0, 0), (.bipush 0, 0, 0), (.iastore, 0, 0), (.iinc 3 1, 0, 0), (.goto 18, 0, 0), (.iload 2, 0, 0), (.bipush 1, 0, 0), (.isub, 0, 0), (.istore 3, 0, 0), (.iload 3, 0, 0), (.ifCond .lt 47, 0, 0), (.iload 0, 1, 0), (.iload 3, 0, 0), (.invokevirtual 226, 2, 624), (.iinc 3 (-1), 0, 0), (.goto 40, 0, 0), (.iload 1, 0, 0), (.ifCond .ne 54, 0, 0), (.iload 0, 1, 0), (.checkcast 15, 6, 61), (.bipush 0, 0, 0), (.iaload, 0, 0), (.goto 59, 0, 0), (.iload 0, 1, 0), (.iload 1, 0, 0), (.bipush 10, 1, 0), (.isub, 0, 0), (.invokevirtual 228, 2, 631), (.ireturn, 0, 0)]
/-- LentHands.planWork(I)V -/
def am_c226 : List am_I := [(.iload 1, 0, 0), (.bipush 8, 1, 0), (.ishl, 0, 0), (.istore 2, 0, 0), (.iload 1, 0, 0), (.bipush 1, 0, 0), (.iadd, 0, 0), (.bipush 8, 1, 0), (.ishl, 0, 0), (.istore 3, 0, 0), (.iload 0, 1, 0), (.checkcast 5, 6, 26), (.checkcast 2, 4, 142), (.iload 1, 0, 0), (.bipush 2, 0, 0), (.invokevirtual 157, 3, 619), (.istore 4, 0, 1), (.iload 0, 1, 0), (.iload 1, 0, 0), (.invokevirtual 227, 2, 637), (.istore 5, 0, 1), (.bipush 0, 0, 0), (.istore 6, 0, 1), (.iload 6, 0, 1), (.bipush 1, 0, 0), (.iload 0, 1, 0), (.checkcast 0, 6, 10), (.getfield 2, 5, 75), (.ishl, 0, 0), (.if_icmp .ge 81, 0, 0), (.iload 0, 1, 0), (.checkcast 15, 6, 61), (.iload 3, 0, 0), (.iload 6, 0, 1), (.iadd, 0, 0), (.iaload, 0, 0), (.istore 7, 0, 1), (.bipush 0, 0, 0), (.istore 8, 0, 1), (.iload 8, 0, 1), (.iload 0, 1, 0), (.checkcast 0, 6, 10), (.getfield 2, 5, 75), (.if_icmp .ge 72, 0, 0), (.iload 5, 0, 1), (.iload 6, 0, 1), (.bipush (-1), 0, 0), (.ixor, 0, 0), (.iand, 0, 0), (.iload 8, 0, 1), (.ishr, 0, 0), (.bipush 1, 0, 0), (.iand, 0, 0), (.bipush 1, 0, 0), (.if_icmp .ne 70, 0, 0), (.iload 7, 0, 1), (.iload 4, 0, 1), (.iload 0, 1, 0), (.checkcast 15, 6, 61), (.iload 3, 0, 0), (.iload 6, 0, 1), (.bipush 1, 0, 0), (.iload 8, 0, 1), (.ishl, 0, 0), (.ior, 0, 0), (.iadd, 0, 0), (.iaload, 0, 0), (.iadd, 0, 0), (.ladd, 282, 0), (.istore 7, 0, 1), (.iinc 8 1, 0, 0), (.goto 39, 0, 0), (.iload 0, 1, 0), (.checkcast 15, 6, 61), (.iload 2, 0, 0), (.iload 6, 0, 1), (.iadd, 0, 0), (.iload 7, 0, 1), (.iastore, 0, 0), (.iinc 6 1, 0, 0), (.goto 23, 0, 0), (.return_, 0, 0)]
/-- LentHands.doersOf(I)I -/
def am_c227 : List am_I := [(.bipush 0, 0, 0), (.istore 2, 0, 0), (.bipush 0, 0, 0), (.istore 3, 0, 0), (.iload 3, 0, 0), (.iload 0, 1, 0), (.checkcast 0, 6, 10), (.getfield 2, 5, 75), (.if_icmp .ge 22, 0, 0), (.iload 0, 1, 0), (.iload 3, 0, 0), (.iload 1, 0, 0), (.invokevirtual 222, 3, 599), (.ifCond .eq 20, 0, 0), (.iload 2, 0, 0), (.bipush 1, 0, 0), (.iload 3, 0, 0), (.ishl, 0, 0), (.ior, 0, 0), (.istore 2, 0, 0), (.iinc 3 1, 0, 0), (.goto 4, 0, 0), (.iload 2, 0, 0), (.ireturn, 0, 0)]
/-- LentHands.doer(I)I -/
def am_c228 : List am_I := [(.bipush 0, 0, 0), (.istore 2, 0, 0), (.bipush (-1), 0, 0), (.istore 3, 0, 0), (.bipush 0, 0, 0), (.istore 4, 0, 1), (.iload 4, 0, 1), (.iload 1, 0, 0), (.if_icmp .gt 25, 0, 0), (.iload 0, 1, 0), (.iload 4, 0, 1), (.iload 2, 0, 0), (.invokevirtual 229, 3, 643), (.istore 3, 0, 0), (.iload 3, 0, 0), (.bipush (-1), 0, 0), (.if_icmp .eq 23, 0, 0), (.iload 2, 0, 0), (.bipush 1, 0, 0), (.iload 3, 0, 0), (.ishl, 0, 0), (.ior, 0, 0), (.istore 2, 0, 0), (.iinc 4 1, 0, 0), (.goto 6, 0, 0), (.iload 3, 0, 0), (.ireturn, 0, 0)]
/-- LentHands.firstDoer(II)I -/
def am_c229 : List am_I := [(.iload 1, 0, 0), (.bipush 1, 0, 0), (.iadd, 0, 0), (.bipush 8, 1, 0), (.ishl, 0, 0), (.istore 3, 0, 0), (.iload 0, 1, 0), (.checkcast 15, 6, 61), (.iload 1, 0, 0), (.bipush 8, 1, 0), (.ishl, 0, 0), (.iload 2, 0, 0), (.iadd, 0, 0), (.iaload, 0, 0), (.istore 4, 0, 1), (.iload 0, 1, 0), (.checkcast 15, 6, 61), (.iload 3, 0, 0), (.iload 2, 0, 0), (.iadd, 0, 0), (.iaload, 0, 0), (.iload 4, 0, 1), (.if_icmp .ne 25, 0, 0), (.bipush (-1), 0, 0), (.ireturn, 0, 0), (.iload 0, 1, 0), (.checkcast 5, 6, 26), (.checkcast 2, 4, 142), (.iload 1, 0, 0), (.bipush 2, 0, 0), (.invokevirtual 157, 3, 619), (.istore 5, 0, 1), (.iload 0, 1, 0), (.iload 1, 0, 0), (.invokevirtual 227, 2, 637), (.iload 2, 0, 0), (.bipush (-1), 0, 0), (.ixor, 0, 0), (.iand, 0, 0), (.istore 6, 0, 1), (.bipush 0, 0, 0), (.istore 7, 0, 1), (.iload 7, 0, 1), (.iload 0, 1, 0), (.checkcast 0, 6, 10), (.getfield 2, 5, 75), (.if_icmp .ge 72, 0, 0), (.iload 6, 0, 1), (.iload 7, 0, 1), (.ishr, 0, 0), (.bipush 1, 0, 0), (.iand, 0, 0), (.bipush 1, 0, 0), (.if_icmp .ne 70, 0, 0), (.iload 5, 0, 1), (.iload 0, 1, 0), (.checkcast 15, 6, 61), (.iload 3, 0, 0), (.iload 2, 0, 0), (.bipush 1, 0, 0), (.iload 7, 0, 1), (.ishl, 0, 0), (.ior, 0, 0), (.iadd, 0, 0), (.iaload, 0, 0), (.iadd, 0, 0), (.iload 4, 0, 1), (.if_icmp .ne 70, 0, 0), (.iload 7, 0, 1), (.ireturn, 0, 0), (.iinc 7 1, 0, 0), (.goto 42, 0, 0), (.bipush (-1), 0, 0), (.ireturn, 0, 0)]
/-- LentHands.wishes(III)I -/
def am_c230 : List am_I := [(.iload 0, 1, 0), (.checkcast 0, 6, 10), (.iload 1, 0, 0), (.invokevirtual 134, 2, 165), (.ifCond .eq 20, 0, 0), (.iload 2, 0, 0), (.bipush 0, 0, 0), (.iload 0, 1, 0), (.checkcast 5, 6, 26), (.checkcast 2, 4, 142), (.getfield 0, 3, 145), (.bipush 1, 0, 0), (.isub, 0, 0), (.invokevirtual 253, 3, 143), (.ifCond .eq 20, 0, 0), (.iload 3, 0, 0), (.bipush 0, 0, 0), (.bipush 2, 0, 0), (.invokevirtual 253, 3, 143), (.ifCond .ne 22, 0, 0), (.bipush (-2), 1, 0), (.ireturn, 0, 0), (.iload 0, 1, 0), (.iload 1, 0, 0), (.iload 2, 0, 0), (.invokevirtual 222, 3, 599), (.ifCond .eq 33, 0, 0), (.iload 3, 0, 0), (.ifCond .ne 31, 0, 0), (.bipush 0, 0, 0), (.goto 32, 0, 0), (.bipush (-1), 0, 0), (.ireturn, 0, 0), (.iload 0, 1, 0), (.iload 1, 0, 0), (.iload 2, 0, 0), (.bipush 1, 0, 0), (.invokevirtual 231, 4, 649), (.istore 4, 0, 1), (.iload 4, 0, 1), (.bipush (-1), 0, 0), (.if_icmp .eq 53, 0, 0), (.iload 3, 0, 0), (.ifCond .ne 46, 0, 0), (.bipush 1, 0, 0), (.goto 52, 0, 0), (.iload 3, 0, 0), (.bipush 1, 0, 0), (.if_icmp .ne 51, 0, 0), (.bipush (-1), 0, 0), (.goto 52, 0, 0), (.iload 4, 0, 1), (.ireturn, 0, 0), (.iload 0, 1, 0), (.iload 1, 0, 0), (.iload 2, 0, 0), (.bipush 0, 0, 0), (.invokevirtual 231, 4, 649), (.istore 5, 0, 1), (.iload 5, 0, 1), (.bipush (-1), 0, 0), (.if_icmp .eq 73, 0, 0), (.iload 3, 0, 0), (.ifCond .ne 66, 0, 0), (.bipush 1, 0, 0), (.goto 72, 0, 0), (.iload 3, 0, 0), (.bipush 1, 0, 0), (.if_icmp .ne 71, 0, 0), (.iload 5, 0, 1), (.goto 72, 0, 0), (.bipush (-1), 0, 0), (.ireturn, 0, 0), (.bipush 0, 0, 0), (.istore 5, 0, 1), (.iload 5, 0, 1), (.bipush 2, 0, 0), (.iload 0, 1, 0), (.checkcast 0, 6, 10), (.getfield 2, 5, 75), (.imul, 0, 0), (.if_icmp .ge 104, 0, 0), (.iload 0, 1, 0), (.iload 1, 0, 0), (.iload 2, 0, 0), (.iload 5, 0, 1), (.invokevirtual 232, 4, 655), (.istore 4, 0, 1), (.iload 4, 0, 1), (.bipush (-1), 0, 0), (.if_icmp .eq 102, 0, 0), (.iload 3, 0, 0), (.ifCond .ne 95, 0, 0), (.bipush 2, 0, 0), (.goto 101, 0, 0), (.iload 3, 0, 0), (.bipush 1, 0, 0), (.if_icmp .ne 100, 0, 0), (.iload 5, 0, 1), (.goto 101, 0, 0), (.iload 4, 0, 1), (.ireturn, 0, 0), (.iinc 5 2, 0, 0), (.goto 75, 0, 0), (.bipush (-2), 1, 0), (.ireturn, 0, 0)]
/-- LentHands.oneWish(III)I -/
def am_c231 : List am_I := [(.iload 0, 1, 0), (.checkcast 0, 6, 10), (.checkcast 9, 5, 169), (.bipush 2, 0, 0), (.iload 1, 0, 0), (.imul, 0, 0), (.bipush 1, 0, 0), (.iadd, 0, 0), (.iload 3, 0, 0), (.isub, 0, 0), (.iaload, 0, 0), (.istore 4, 0, 1), (.iload 3, 0, 0), (.istore 5, 0, 1), (.iload 5, 0, 1), (.bipush 2, 0, 0), (.iload 0, 1, 0), (.checkcast 0, 6, 10), (.getfield 2, 5, 75), (.imul, 0, 0), (.if_icmp .ge 40, 0, 0), (.iload 0, 1, 0), (.iload 2, 0, 0), (.iload 5, 0, 1), (.iload 4, 0, 1), (.invokevirtual 223, 4, 607), (.ifCond .eq 38, 0, 0), (.iload 0, 1, 0), (.iload 0, 1, 0), (.checkcast 0, 6, 10), (.iload 5, 0, 1), (.iload 1, 0, 0), (.bipush 1, 0, 0), (.bipush 0, 0, 0), (.invokevirtual 218, 6, 305), (.ifCond .eq 38, 0, 0), (.iload 5, 0, 1), (.ireturn, 0, 0), (.iinc 5 2, 0, 0), (.goto 14, 0, 0), (.bipush (-1), 0, 0), (.ireturn, 0, 0)]
/-- LentHands.secondWish(III)I -/
def am_c232 : List am_I := [(.iload 0, 1, 0), (.iload 0, 1, 0), (.checkcast 0, 6, 10), (.iload 3, 0, 0), (.iload 1, 0, 0), (.bipush 1, 0, 0), (.bipush 0, 0, 0), (.invokevirtual 218, 6, 305), (.ifCond .ne 11, 0, 0), (.bipush (-1), 0, 0), (.ireturn, 0, 0), (.iload 0, 1, 0), (.checkcast 1, 6, 16), (.iload 0, 1, 0), (.checkcast 0, 6, 10), (.invokevirtual 133, 2, 424), (.iload 0, 1, 0), (.checkcast 1, 6, 16), (.iload 3, 0, 0), (.iload 1, 0, 0), (.bipush 1, 0, 0), (.bipush 0, 0, 0), (.invokevirtual 147, 5, 319), (.pop, 0, 0), (.bipush 1, 0, 0), (.istore 4, 0, 1), (.iload 4, 0, 1), (.bipush 2, 0, 0), (.iload 0, 1, 0), (.checkcast 0, 6, 10), (.getfield 2, 5, 75), (.imul, 0, 0), (.if_icmp .ge 52, 0, 0), (.iload 0, 1, 0), (.iload 2, 0, 0), (.iload 3, 0, 0), (.iload 4, 0, 1), (.invokevirtual 223, 4, 607), (.ifCond .eq 50, 0, 0), (.iload 0, 1, 0), (.iload 0, 1, 0), (.checkcast 1, 6, 16), (.iload 4, 0, 1), (.iload 1, 0, 0), (.bipush 1, 0, 0), (.bipush 0, 0, 0), (.invokevirtual 218, 6, 305), (.ifCond .eq 50, 0, 0), (.iload 4, 0, 1), (.ireturn, 0, 0), (.iinc 4 2, 0, 0), (.goto 26, 0, 0), (.bipush (-1), 0, 0), (.ireturn, 0, 0)]
/-- LentHands.passHour(LLentHands$World;Z)I -/
def am_c233 : List am_I := [(.iload 0, 1, 0), (.iload 1, 1, 0), (.invokevirtual 234, 2, 661), (.istore 3, 0, 0), (.bipush 0, 0, 0), (.istore 4, 0, 1), (.iload 4, 0, 1), (.iload 1, 1, 0), (.getfield 2, 5, 75), (.if_icmp .ge 30, 0, 0), (.iload 1, 1, 0), (.checkcast 7, 5, 179), (.iload 4, 0, 1), (.iaload, 0, 0), (.bipush (-1), 0, 0), (.if_icmp .eq 28, 0, 0), (.iload 0, 1, 0), (.iload 1, 1, 0), (.iload 4, 0, 1), (.bipush 0, 0, 0), (.iload 2, 0, 0), (.invokevirtual 235, 5, 668), (.iload 0, 1, 0), (.iload 1, 1, 0), (.iload 4, 0, 1), (.bipush 1, 0, 0), (.iload 2, 0, 0), (.invokevirtual 235, 5, 668), (.iinc 4 1, 0, 0), (.goto 6, 0, 0), (.iload 1, 1, 0), (.invokevirtual 149, 1, 676), (.iload 1, 1, 0), (.invokevirtual 150, 1, 682), (.iload 3, 0, 0), (.ireturn, 0, 0)]
/-- LentHands.runBookings(LLentHands$World;)I -/
def am_c234 : List am_I := [(.iload 0, 1, 0), (.checkcast 5, 6, 26), (.checkcast 1, 4, 130), (.istore 2, 1, 0), (.bipush 0, 0, 0), (.istore 3, 0, 0), (.bipush 0, 0, 0), (.istore 4, 0, 1), (.iload 4, 0, 1), (.iload 2, 1, 0), (.getfield 0, 3, 145), (.if_icmp .ge 63, 0, 0), (.iload 2, 1, 0), (.iload 4, 0, 1), (.bipush 2, 0, 0), (.invokevirtual 157, 3, 619), (.iload 1, 1, 0), (.getfield 1, 5, 196), (.if_icmp .ne 61, 0, 0), (.iload 2, 1, 0), (.iload 4, 0, 1), (.bipush 0, 0, 0), (.invokevirtual 157, 3, 619), (.istore 5, 0, 1), (.iload 2, 1, 0), (.iload 4, 0, 1), (.bipush 1, 0, 0), (.invokevirtual 157, 3, 619), (.istore 6, 0, 1), (.iload 2, 1, 0), (.iload 4, 0, 1), (.bipush 3, 0, 0), (.invokevirtual 157, 3, 619), (.istore 7, 0, 1), (.iload 2, 1, 0), (.iload 4, 0, 1), (.bipush 4, 0, 0), (.invokevirtual 157, 3, 619), (.istore 8, 0, 1), (.iload 0, 1, 0), (.iload 1, 1, 0), (.iload 5, 0, 1), (.iload 6, 0, 1), (.iload 7, 0, 1), (.iload 8, 0, 1), (.invokevirtual 218, 6, 305), (.ifCond .eq 55, 0, 0), (.iload 1, 1, 0), (.iload 5, 0, 1), (.iload 6, 0, 1), (.iload 7, 0, 1), (.iload 8, 0, 1), (.invokevirtual 147, 5, 319), (.pop, 0, 0), (.goto 61, 0, 0), (.iload 3, 0, 0), (.bipush 1, 0, 0), (.iload 4, 0, 1), (.ishl, 0, 0), (.ior, 0, 0), (.istore 3, 0, 0), (.iinc 4 1, 0, 0), (.goto 8, 0, 0), (.iload 3, 0, 0), (.ireturn, 0, 0)]
/-- LentHands.toilOn(LLentHands$World;IIZ)V -/
def am_c235 : List am_I := [(.iload 1, 1, 0), (.checkcast 9, 5, 169), (.bipush 2, 0, 0), (.iload 2, 0, 0), (.imul, 0, 0), (.iload 3, 0, 0), (.iadd, 0, 0), (.iaload, 0, 0), (.istore 5, 0, 1), (.iload 5, 0, 1), (.bipush (-1), 0, 0), (.if_icmp .eq 42, 0, 0), (.iload 0, 1, 0), (.iload 1, 1, 0), (.iload 2, 0, 0), (.iload 5, 0, 1), (.iload 1, 1, 0), (.checkcast 7, 5, 179), (.iload 2, 0, 0), (.iaload, 0, 0), (.invokevirtual 236, 5, 689), (.istore 6, 0, 1), (.iload 4, 0, 1), (.ifCond .eq 42, 0, 0), (.iload 6, 0, 1), (.ifCond .le 42, 0, 0), (.iload 1, 1, 0), (.invokevirtual 148, 1, 697), (.iload 6, 0, 1), (.if_icmp .ge 42, 0, 0), (.iload 1, 1, 0), (.checkcast 13, 5, 254), (.iload 5, 0, 1), (.iload 1, 1, 0), (.checkcast 13, 5, 254), (.iload 5, 0, 1), (.iaload, 0, 0), (.bipush 1, 0, 0), (.iadd, 0, 0), (.bipush 9, 1, 0), (.lsub, 218, 0), (.iastore, 0, 0), (.return_, 0, 0)]
/-- LentHands.toil(LLentHands$World;III)I -/
def am_c236 : List am_I := [(.iload 0, 1, 0), (.checkcast 14, 6, 57), (.checkcast 0, 0, 288), (.istore 5, 1, 1), (.iload 3, 0, 0), (.bipush 4, 0, 0), (.imul, 0, 0), (.iload 4, 0, 1), (.iadd, 0, 0), (.istore 6, 0, 1), (.iload 0, 1, 0), (.iload 1, 1, 0), (.iload 3, 0, 0), (.iload 2, 0, 0), (.invokevirtual 251, 4, 582), (.iload 5, 1, 1), (.bipush 10, 1, 0), (.iload 1, 1, 0), (.checkcast 11, 5, 248), (.iload 6, 0, 1), (.iaload, 0, 0), (.iastore, 0, 0), (.iload 5, 1, 1), (.bipush 12, 1, 0), (.iload 4, 0, 1), (.iastore, 0, 0), (.iload 5, 1, 1), (.bipush 13, 1, 0), (.iload 1, 1, 0), (.getfield 1, 5, 196), (.iastore, 0, 0), (.iload 0, 1, 0), (.checkcast 5, 6, 26), (.checkcast 0, 4, 110), (.bipush 1, 0, 0), (.aaload, 0, 0), (.istore 7, 1, 1), (.iload 7, 1, 1), (.bipush 20, 1, 0), (.iload 0, 1, 0), (.checkcast 14, 6, 57), (.invokevirtual 155, 3, 703), (.bipush 9, 1, 0), (.invokevirtual 254, 2, 711), (.istore 8, 0, 1), (.iload 7, 1, 1), (.bipush 21, 1, 0), (.iload 0, 1, 0), (.checkcast 14, 6, 57), (.invokevirtual 155, 3, 703), (.bipush 9, 1, 0), (.invokevirtual 254, 2, 711), (.istore 9, 0, 1), (.iload 7, 1, 1), (.bipush 23, 1, 0), (.iload 0, 1, 0), (.checkcast 14, 6, 57), (.invokevirtual 155, 3, 703), (.bipush 99, 1, 0), (.invokevirtual 254, 2, 711), (.istore 10, 0, 1), (.iload 7, 1, 1), (.bipush 22, 1, 0), (.iload 0, 1, 0), (.checkcast 14, 6, 57), (.invokevirtual 155, 3, 703), (.bipush 1000, 2, 0), (.invokevirtual 254, 2, 711), (.istore 11, 0, 1), (.iload 1, 1, 0), (.checkcast 11, 5, 248), (.iload 6, 0, 1), (.iload 1, 1, 0), (.checkcast 11, 5, 248), (.iload 6, 0, 1), (.iaload, 0, 0), (.iload 8, 0, 1), (.iadd, 0, 0), (.bipush 99, 1, 0), (.lsub, 218, 0), (.iastore, 0, 0), (.iload 1, 1, 0), (.checkcast 12, 5, 251), (.iload 3, 0, 0), (.iload 1, 1, 0), (.checkcast 12, 5, 251), (.iload 3, 0, 0), (.iaload, 0, 0), (.iload 9, 0, 1), (.iadd, 0, 0), (.bipush 99, 1, 0), (.lsub, 218, 0), (.iastore, 0, 0), (.iload 1, 1, 0), (.checkcast 5, 5, 236), (.iload 2, 0, 0), (.iload 1, 1, 0), (.checkcast 5, 5, 236), (.iload 2, 0, 0), (.iaload, 0, 0), (.iload 10, 0, 1), (.iadd, 0, 0), (.bipush 9999, 2, 0), (.lsub, 218, 0), (.iastore, 0, 0), (.iload 11, 0, 1), (.ireturn, 0, 0)]
/-- LentHands.thinkAhead(I)V -/
def am_c237 : List am_I := [(.iload 0, 1, 0), (.checkcast 1, 6, 16), (.iload 0, 1, 0), (.checkcast 0, 6, 10), (.invokevirtual 133, 2, 424), (.bipush 0, 0, 0), (.istore 2, 0, 0), (.iload 2, 0, 0), (.iload 1, 0, 0), (.if_icmp .ge 18, 0, 0), (.iload 0, 1, 0), (.iload 0, 1, 0), (.checkcast 1, 6, 16), (.bipush 0, 0, 0), (.invokevirtual 233, 3, 399), (.pop, 0, 0), (.iinc 2 1, 0, 0), (.goto 7, 0, 0), (.return_, 0, 0)]
/-- LentHands.back()I -/
def am_c238 : List am_I := [(.iload 0, 1, 0), (.checkcast 1, 6, 16), (.iload 0, 1, 0), (.checkcast 0, 6, 10), (.invokevirtual 133, 2, 424), (.bipush 0, 0, 0), (.istore 1, 0, 0), (.iload 1, 0, 0), (.bipush 300, 2, 0), (.if_icmp .ge 26, 0, 0), (.iload 0, 1, 0), (.checkcast 1, 6, 16), (.invokevirtual 140, 1, 717), (.ifCond .ne 18, 0, 0), (.iload 0, 1, 0), (.checkcast 1, 6, 16), (.getfield 1, 5, 196), (.ireturn, 0, 0), (.iload 0, 1, 0), (.iload 0, 1, 0), (.checkcast 1, 6, 16), (.bipush 0, 0, 0), (.invokevirtual 233, 3, 399), (.pop, 0, 0), (.iinc 1 1, 0, 0), (.goto 7, 0, 0), (.iload 0, 1, 0), (.checkcast 1, 6, 16), (.invokevirtual 140, 1, 717), (.ifCond .ne 34, 0, 0), (.iload 0, 1, 0), (.checkcast 1, 6, 16), (.getfield 1, 5, 196), (.goto 35, 0, 0), (.bipush (-1), 0, 0), (.ireturn, 0, 0)]
/-- LentHands.where(II)I -/
def am_c239 : List am_I := [(.iload 0, 1, 0), (.checkcast 0, 6, 10), (.iload 1, 0, 0), (.invokevirtual 135, 2, 181), (.ifCond .eq 10, 0, 0), (.iload 2, 0, 0), (.bipush 0, 0, 0), (.bipush 300, 2, 0), (.invokevirtual 253, 3, 143), (.ifCond .ne 12, 0, 0), (.bipush (-2), 1, 0), (.ireturn, 0, 0), (.iload 0, 1, 0), (.iload 2, 0, 0), (.invokevirtual 237, 2, 722), (.iload 0, 1, 0), (.checkcast 1, 6, 16), (.checkcast 10, 5, 172), (.iload 1, 0, 0), (.iaload, 0, 0), (.ireturn, 0, 0)]
/-- LentHands.out(I)I -/
def am_c240 : List am_I := [(.iload 1, 0, 0), (.bipush 0, 0, 0), (.bipush 300, 2, 0), (.invokevirtual 253, 3, 143), (.ifCond .ne 7, 0, 0), (.bipush (-1), 0, 0), (.ireturn, 0, 0), (.iload 0, 1, 0), (.iload 1, 0, 0), (.invokevirtual 237, 2, 722), (.iload 0, 1, 0), (.checkcast 1, 6, 16), (.invokevirtual 140, 1, 717), (.ireturn, 0, 0)]
/-- LentHands.fails(I)I -/
def am_c241 : List am_I := [(.iload 1, 0, 0), (.bipush 0, 0, 0), (.bipush 1, 0, 0), (.invokevirtual 253, 3, 143), (.ifCond .ne 7, 0, 0), (.bipush (-1), 0, 0), (.ireturn, 0, 0), (.iload 0, 1, 0), (.checkcast 1, 6, 16), (.iload 0, 1, 0), (.checkcast 0, 6, 10), (.invokevirtual 133, 2, 424), (.bipush 0, 0, 0), (.istore 2, 0, 0), (.iload 2, 0, 0), (.bipush 300, 2, 0), (.if_icmp .ge 39, 0, 0), (.iload 0, 1, 0), (.checkcast 1, 6, 16), (.getfield 1, 5, 196), (.istore 3, 0, 0), (.iload 0, 1, 0), (.iload 0, 1, 0), (.checkcast 1, 6, 16), (.bipush 0, 0, 0), (.invokevirtual 233, 3, 399), (.istore 4, 0, 1), (.iload 4, 0, 1), (.ifCond .eq 37, 0, 0), (.iload 1, 0, 0), (.bipush 1, 0, 0), (.if_icmp .ne 34, 0, 0), (.iload 3, 0, 0), (.goto 36, 0, 0), (.iload 4, 0, 1), (.invokevirtual 242, 1, 729), (.ireturn, 0, 0), (.iinc 2 1, 0, 0), (.goto 14, 0, 0), (.bipush (-1), 0, 0), (.ireturn, 0, 0)]
/-- LentHands.leastOf(I)I -/
def am_c242 : List am_I := [(.bipush 0, 0, 0), (.istore 1, 0, 0), (.iload 1, 0, 0), (.bipush 16, 1, 0), (.if_icmp .ge 16, 0, 0), (.iload 0, 0, 0), (.iload 1, 0, 0), (.ishr, 0, 0), (.bipush 1, 0, 0), (.iand, 0, 0), (.bipush 1, 0, 0), (.if_icmp .ne 14, 0, 0), (.iload 1, 0, 0), (.ireturn, 0, 0), (.iinc 1 1, 0, 0), (.goto 2, 0, 0), (.bipush (-1), 0, 0), (.ireturn, 0, 0)]
/-- LentHands.canTry(III)Z -/
def am_c243 : List am_I := [(.iload 0, 1, 0), (.checkcast 0, 6, 10), (.iload 1, 0, 0), (.invokevirtual 135, 2, 181), (.ifCond .eq 24, 0, 0), (.iload 0, 1, 0), (.checkcast 0, 6, 10), (.checkcast 10, 5, 172), (.iload 1, 0, 0), (.iaload, 0, 0), (.bipush (-1), 0, 0), (.if_icmp .eq 24, 0, 0), (.iload 2, 0, 0), (.bipush 0, 0, 0), (.bipush 3, 0, 0), (.invokevirtual 253, 3, 143), (.ifCond .eq 24, 0, 0), (.iload 3, 0, 0), (.bipush 0, 0, 0), (.bipush 99, 1, 0), (.invokevirtual 253, 3, 143), (.ifCond .eq 24, 0, 0), (.bipush 1, 0, 0), (.goto 25, 0, 0), (.bipush 0, 0, 0), (.ireturn, 1, 0)]
/-- LentHands.learns(III)I -/
def am_c244 : List am_I := [(.iload 0, 1, 0), (.iload 1, 0, 0), (.iload 2, 0, 0), (.iload 3, 0, 0), (.invokevirtual 243, 4, 735), (.ifCond .ne 8, 0, 0), (.bipush (-1), 0, 0), (.ireturn, 0, 0), (.iload 0, 1, 0), (.iload 1, 0, 0), (.iload 2, 0, 0), (.iload 3, 0, 0), (.invokevirtual 246, 4, 741), (.pop, 0, 0), (.iload 0, 1, 0), (.checkcast 1, 6, 16), (.checkcast 11, 5, 248), (.iload 1, 0, 0), (.bipush 4, 0, 0), (.imul, 0, 0), (.iload 2, 0, 0), (.iadd, 0, 0), (.iaload, 0, 0), (.ireturn, 0, 0)]
/-- LentHands.safe(III)I -/
def am_c245 : List am_I := [(.iload 0, 1, 0), (.iload 1, 0, 0), (.iload 2, 0, 0), (.iload 3, 0, 0), (.invokevirtual 243, 4, 735), (.ifCond .eq 12, 0, 0), (.iload 0, 1, 0), (.iload 1, 0, 0), (.iload 2, 0, 0), (.iload 3, 0, 0), (.invokevirtual 246, 4, 741), (.goto 13, 0, 0), (.bipush (-1), 0, 0), (.ireturn, 0, 0)]
/-- LentHands.unscarred(III)I -/
def am_c246 : List am_I := [(.iload 0, 1, 0), (.checkcast 1, 6, 16), (.iload 0, 1, 0), (.checkcast 0, 6, 10), (.invokevirtual 133, 2, 424), (.iload 0, 1, 0), (.checkcast 1, 6, 16), (.checkcast 10, 5, 172), (.iload 1, 0, 0), (.iaload, 0, 0), (.istore 4, 0, 1), (.bipush 1000000, 4, 373), (.istore 5, 0, 1), (.bipush 0, 0, 0), (.istore 6, 0, 1), (.iload 6, 0, 1), (.iload 3, 0, 0), (.if_icmp .ge 52, 0, 0), (.iload 0, 1, 0), (.iload 0, 1, 0), (.checkcast 1, 6, 16), (.iload 4, 0, 1), (.iload 1, 0, 0), (.iload 2, 0, 0), (.invokevirtual 236, 5, 689), (.istore 7, 0, 1), (.iload 5, 0, 1), (.bipush 1000, 2, 0), (.iload 7, 0, 1), (.isub, 0, 0), (.imul, 0, 0), (.bipush 1000, 2, 0), (.idiv, 0, 0), (.istore 5, 0, 1), (.iload 0, 1, 0), (.checkcast 1, 6, 16), (.checkcast 15, 5, 260), (.iload 1, 0, 0), (.dup2, 0, 0), (.iaload, 0, 0), (.bipush 1, 0, 0), (.iadd, 0, 0), (.iastore, 0, 0), (.iload 0, 1, 0), (.checkcast 1, 6, 16), (.dup, 0, 0), (.getfield 1, 5, 196), (.bipush 1, 0, 0), (.iadd, 0, 0), (.putfield 1, 5, 392), (.iinc 6 1, 0, 0), (.goto 15, 0, 0), (.iload 5, 0, 1), (.ireturn, 0, 0)]
/-- LentHands.premium(II)I -/
def am_c247 : List am_I := [(.iload 1, 0, 0), (.bipush 0, 0, 0), (.bipush 3, 0, 0), (.invokevirtual 253, 3, 143), (.ifCond .eq 10, 0, 0), (.iload 2, 0, 0), (.bipush 0, 0, 0), (.bipush 99, 1, 0), (.invokevirtual 253, 3, 143), (.ifCond .ne 12, 0, 0), (.bipush (-1), 0, 0), (.ireturn, 0, 0), (.bipush 0, 0, 0), (.istore 3, 0, 0), (.bipush 0, 0, 0), (.istore 4, 0, 1), (.iload 4, 0, 1), (.bipush 2, 0, 0), (.iload 0, 1, 0), (.checkcast 0, 6, 10), (.getfield 2, 5, 75), (.imul, 0, 0), (.if_icmp .ge 42, 0, 0), (.iload 0, 1, 0), (.checkcast 0, 6, 10), (.checkcast 10, 5, 172), (.iload 4, 0, 1), (.iaload, 0, 0), (.bipush (-1), 0, 0), (.if_icmp .eq 40, 0, 0), (.iload 3, 0, 0), (.bipush 1000000, 4, 373), (.iload 0, 1, 0), (.iload 4, 0, 1), (.iload 1, 0, 0), (.iload 2, 0, 0), (.invokevirtual 246, 4, 741), (.isub, 0, 0), (.iadd, 0, 0), (.istore 3, 0, 0), (.iinc 4 1, 0, 0), (.goto 16, 0, 0), (.iload 3, 0, 0), (.ireturn, 0, 0)]
/-- LentHands.judge(III)I -/
def am_c248 : List am_I := [(.iload 0, 1, 0), (.checkcast 14, 6, 57), (.checkcast 0, 0, 288), (.istore 4, 1, 1), (.iload 0, 1, 0), (.checkcast 0, 6, 10), (.iload 2, 0, 0), (.invokevirtual 143, 2, 491), (.istore 5, 0, 1), (.iload 0, 1, 0), (.iload 0, 1, 0), (.checkcast 0, 6, 10), (.iload 2, 0, 0), (.iload 1, 0, 0), (.invokevirtual 251, 4, 582), (.iload 4, 1, 1), (.bipush 11, 1, 0), (.dup2, 0, 0), (.iaload, 0, 0), (.iload 3, 0, 0), (.iadd, 0, 0), (.iastore, 0, 0), (.iload 4, 1, 1), (.bipush 5, 0, 0), (.iload 5, 0, 1), (.bipush (-1), 0, 0), (.if_icmp .ne 29, 0, 0), (.bipush 0, 0, 0), (.goto 34, 0, 0), (.iload 0, 1, 0), (.checkcast 0, 6, 10), (.iload 5, 0, 1), (.bipush 4, 0, 0), (.invokevirtual 142, 3, 533), (.iastore, 0, 0), (.iload 0, 1, 0), (.checkcast 5, 6, 26), (.checkcast 0, 4, 110), (.bipush 2, 0, 0), (.aaload, 0, 0), (.iload 0, 1, 0), (.checkcast 14, 6, 57), (.invokevirtual 154, 2, 591), (.istore 6, 0, 1), (.iload 6, 0, 1), (.bipush (-1), 0, 0), (.if_icmp .ne 49, 0, 0), (.bipush 25, 1, 0), (.goto 50, 0, 0), (.iload 6, 0, 1), (.ireturn, 0, 0)]
/-- LentHands.judged(III)I -/
def am_c249 : List am_I := [(.iload 0, 1, 0), (.iload 1, 0, 0), (.iload 2, 0, 0), (.invokevirtual 252, 3, 327), (.istore 4, 0, 1), (.iload 4, 0, 1), (.bipush (-1), 0, 0), (.if_icmp .eq 13, 0, 0), (.iload 3, 0, 0), (.bipush 0, 0, 0), (.bipush 99, 1, 0), (.invokevirtual 253, 3, 143), (.ifCond .ne 15, 0, 0), (.bipush (-1), 0, 0), (.ireturn, 0, 0), (.iload 0, 1, 0), (.iload 1, 0, 0), (.iload 4, 0, 1), (.iload 3, 0, 0), (.invokevirtual 248, 4, 365), (.bipush 24, 1, 0), (.isub, 0, 0), (.ireturn, 0, 0)]
/-- LentHands.loophole(II)I -/
def am_c250 : List am_I := [(.iload 0, 1, 0), (.iload 1, 0, 0), (.iload 2, 0, 0), (.invokevirtual 252, 3, 327), (.istore 3, 0, 0), (.iload 3, 0, 0), (.bipush (-1), 0, 0), (.if_icmp .ne 10, 0, 0), (.bipush (-1), 0, 0), (.ireturn, 0, 0), (.iload 0, 1, 0), (.iload 1, 0, 0), (.iload 3, 0, 0), (.bipush 0, 0, 0), (.invokevirtual 248, 4, 365), (.istore 4, 0, 1), (.bipush 1, 0, 0), (.istore 5, 0, 1), (.iload 5, 0, 1), (.bipush 99, 1, 0), (.if_icmp .gt 32, 0, 0), (.iload 0, 1, 0), (.iload 1, 0, 0), (.iload 3, 0, 0), (.iload 5, 0, 1), (.invokevirtual 248, 4, 365), (.iload 4, 0, 1), (.if_icmp .eq 30, 0, 0), (.iload 5, 0, 1), (.ireturn, 0, 0), (.iinc 5 1, 0, 0), (.goto 18, 0, 0), (.bipush (-1), 0, 0), (.ireturn, 0, 0)]
/-- LentHands.askOfHand(LLentHands$World;II)V -/
def am_c251 : List am_I := [(.iload 0, 1, 0), (.checkcast 14, 6, 57), (.checkcast 0, 0, 288), (.istore 4, 1, 1), (.iload 4, 1, 1), (.bipush 0, 0, 0), (.bipush 1, 0, 0), (.iload 2, 0, 0), (.bipush 1, 0, 0), (.iand, 0, 0), (.isub, 0, 0), (.iastore, 0, 0), (.iload 4, 1, 1), (.bipush 1, 0, 0), (.iload 1, 1, 0), (.iload 2, 0, 0), (.invokevirtual 141, 2, 749), (.iastore, 0, 0), (.iload 4, 1, 1), (.bipush 2, 0, 0), (.iload 1, 1, 0), (.checkcast 12, 5, 251), (.iload 2, 0, 0), (.iaload, 0, 0), (.iastore, 0, 0), (.iload 4, 1, 1), (.bipush 3, 0, 0), (.iload 1, 1, 0), (.checkcast 13, 5, 254), (.iload 2, 0, 0), (.iaload, 0, 0), (.iastore, 0, 0), (.iload 4, 1, 1), (.bipush 11, 1, 0), (.iload 1, 1, 0), (.checkcast 15, 5, 260), (.iload 2, 0, 0), (.iaload, 0, 0), (.iastore, 0, 0), (.iload 4, 1, 1), (.bipush 8, 1, 0), (.iload 2, 0, 0), (.bipush 1, 0, 0), (.ishr, 0, 0), (.iload 3, 0, 0), (.if_icmp .ne 48, 0, 0), (.bipush 1, 0, 0), (.goto 49, 0, 0), (.bipush 0, 0, 0), (.iastore, 0, 0), (.iload 4, 1, 1), (.bipush 7, 1, 0), (.iload 1, 1, 0), (.checkcast 6, 5, 239), (.iload 3, 0, 0), (.iaload, 0, 0), (.iastore, 0, 0), (.return_, 0, 0)]
/-- LentHands.onWrist(II)I -/
def am_c252 : List am_I := [(.iload 0, 1, 0), (.checkcast 0, 6, 10), (.iload 1, 0, 0), (.invokevirtual 134, 2, 165), (.ifCond .eq 20, 0, 0), (.iload 2, 0, 0), (.bipush 0, 0, 0), (.bipush 1, 0, 0), (.invokevirtual 253, 3, 143), (.ifCond .eq 20, 0, 0), (.iload 0, 1, 0), (.checkcast 0, 6, 10), (.checkcast 9, 5, 169), (.bipush 2, 0, 0), (.iload 1, 0, 0), (.imul, 0, 0), (.iload 2, 0, 0), (.iadd, 0, 0), (.iaload, 0, 0), (.goto 21, 0, 0), (.bipush (-1), 0, 0), (.ireturn, 0, 0)]
/-- LentHands.within(III)Z -/
def am_c253 : List am_I := [(.iload 0, 0, 0), (.iload 1, 0, 0), (.if_icmp .lt 8, 0, 0), (.iload 0, 0, 0), (.iload 2, 0, 0), (.if_icmp .gt 8, 0, 0), (.bipush 1, 0, 0), (.goto 9, 0, 0), (.bipush 0, 0, 0), (.ireturn, 1, 0)]
/-- LentHands.heldTo(II)I -/
def am_c254 : List am_I := [(.bipush 0, 0, 0), (.iload 0, 0, 0), (.iload 1, 0, 0), (.lsub, 218, 0), (.ladd, 282, 0), (.ireturn, 0, 0)]
/-- java/lang/Integer.bitCount(I)I -/
def am_c255 : List am_I := [(.iload 0, 0, 0), (.iload 0, 0, 0), (.bipush 1, 0, 0), (.iushr, 0, 0), (.bipush 1431655765, 4, 265), (.iand, 0, 0), (.isub, 0, 0), (.istore 0, 0, 0), (.iload 0, 0, 0), (.bipush 858993459, 4, 266), (.iand, 0, 0), (.iload 0, 0, 0), (.bipush 2, 0, 0), (.iushr, 0, 0), (.bipush 858993459, 4, 266), (.iand, 0, 0), (.iadd, 0, 0), (.istore 0, 0, 0), (.iload 0, 0, 0), (.iload 0, 0, 0), (.bipush 4, 0, 0), (.iushr, 0, 0), (.iadd, 0, 0), (.bipush 252645135, 4, 267), (.iand, 0, 0), (.istore 0, 0, 0), (.iload 0, 0, 0), (.iload 0, 0, 0), (.bipush 8, 1, 0), (.iushr, 0, 0), (.iadd, 0, 0), (.istore 0, 0, 0), (.iload 0, 0, 0), (.iload 0, 0, 0), (.bipush 16, 1, 0), (.iushr, 0, 0), (.iadd, 0, 0), (.istore 0, 0, 0), (.iload 0, 0, 0), (.bipush 63, 1, 0), (.iand, 0, 0), (.ireturn, 0, 0)]
/-- java/lang/String.length()I -/
def am_c256 : List am_I := [(.iload 0, 1, 0), (.checkcast 0, 8, 9), (.arraylength, 0, 0), (.iload 0, 1, 0), (.invokevirtual 258, 1, 671), (.ishr, 0, 0), (.ireturn, 0, 0)]
/-- java/lang/String.charAt(I)C -/
def am_c257 : List am_I := [(.iload 0, 1, 0), (.invokevirtual 259, 1, 985), (.ifCond .eq 8, 0, 0), (.iload 0, 1, 0), (.checkcast 0, 8, 9), (.iload 1, 0, 0), (.invokevirtual 261, 2, 991), (.ireturn, 2, 0), (.iload 0, 1, 0), (.checkcast 0, 8, 9), (.iload 1, 0, 0), (.athrow, 0, 0), (.ireturn, 2, 0)]
/-- java/lang/String.coder()B -/
def am_c258 : List am_I := [(.bipush 1, 5, 38), (.ifCond .eq 5, 0, 0), (.iload 0, 1, 0), (.getfield 0, 8, 15), (.goto 6, 0, 0), (.bipush 1, 0, 0), (.ireturn, 3, 0)]
/-- java/lang/String.isLatin1()Z -/
def am_c259 : List am_I := [(.bipush 1, 5, 38), (.ifCond .eq 7, 0, 0), (.iload 0, 1, 0), (.getfield 0, 8, 15), (.ifCond .ne 7, 0, 0), (.bipush 1, 0, 0), (.goto 8, 0, 0), (.bipush 0, 0, 0), (.ireturn, 1, 0)]
/-- java/lang/String.checkIndex(II)V -/
def am_c260 : List am_I := [(.iload 0, 0, 0), (.iload 1, 0, 0), (.aload 204, 2, 1053), (.invokevirtual 262, 3, 2119), (.pop, 0, 0), (.return_, 0, 0)]
/-- java/lang/StringLatin1.charAt([BI)C -/
def am_c261 : List am_I := [(.iload 1, 0, 0), (.iload 0, 1, 0), (.arraylength, 0, 0), (.invokevirtual 260, 2, 18), (.iload 0, 1, 0), (.iload 1, 0, 0), (.baload, 0, 0), (.bipush 255, 2, 0), (.iand, 0, 0), (.i2c, 0, 0), (.ireturn, 2, 0)]
/-- jdk/internal/util/Preconditions.checkIndex(IILjava/util/function/BiFunction;)I -/
def am_c262 : List am_I := [(.iload 0, 0, 0), (.ifCond .lt 5, 0, 0), (.iload 0, 0, 0), (.iload 1, 0, 0), (.if_icmp .lt 10, 0, 0), (.iload 2, 1, 0), (.iload 0, 0, 0), (.iload 1, 0, 0), (.athrow, 0, 0), (.athrow, 0, 0), (.iload 0, 0, 0), (.ireturn, 0, 0)]
/-- LentHandsLaw.law([I)Z -/
def am_c263 : List am_I := [(.athrow, 0, 0), (.dup, 0, 0), (.athrow, 0, 0), (.istore 1, 1, 0), (.athrow, 0, 0), (.dup, 0, 0), (.athrow, 0, 0), (.istore 2, 1, 0), (.bipush 0, 0, 0), (.istore 3, 0, 0), (.iload 3, 0, 0), (.iload 0, 1, 0), (.arraylength, 0, 0), (.bipush 6, 1, 0), (.isub, 0, 0), (.if_icmp .gt 1163, 0, 0), (.iload 0, 1, 0), (.iload 3, 0, 0), (.iaload, 0, 0), (.bipush 63, 1, 0), (.iand, 0, 0), (.tableswitch 1161 0 42 #[22, 39, 66, 103, 150, 177, 204, 231, 258, 275, 332, 349, 366, 383, 410, 437, 464, 491, 538, 565, 582, 589, 616, 633, 640, 657, 674, 711, 748, 795, 832, 869, 896, 913, 950, 977, 1004, 1031, 1058, 1065, 1112, 1119, 1144], 187, 0), (.iload 1, 1, 0), (.iload 0, 1, 0), (.iload 3, 0, 0), (.bipush 1, 0, 0), (.iadd, 0, 0), (.iaload, 0, 0), (.invokevirtual 181, 2, 27), (.iload 2, 1, 0), (.iload 0, 1, 0), (.iload 3, 0, 0), (.bipush 1, 0, 0), (.iadd, 0, 0), (.iaload, 0, 0), (.invokevirtual 15, 2, 35), (.if_icmp .eq 1161, 0, 0), (.bipush 0, 0, 0), (.ireturn, 1, 0), (.iload 1, 1, 0), (.iload 0, 1, 0), (.iload 3, 0, 0), (.bipush 1, 0, 0), (.iadd, 0, 0), (.iaload, 0, 0), (.iload 0, 1, 0), (.iload 3, 0, 0), (.bipush 2, 0, 0), (.iadd, 0, 0), (.iaload, 0, 0), (.invokevirtual 182, 3, 37), (.iload 2, 1, 0), (.iload 0, 1, 0), (.iload 3, 0, 0), (.bipush 1, 0, 0), (.iadd, 0, 0), (.iaload, 0, 0), (.iload 0, 1, 0), (.iload 3, 0, 0), (.bipush 2, 0, 0), (.iadd, 0, 0), (.iaload, 0, 0), (.invokevirtual 17, 3, 45), (.if_icmp .eq 1161, 0, 0), (.bipush 0, 0, 0), (.ireturn, 1, 0), (.iload 1, 1, 0), (.iload 0, 1, 0), (.iload 3, 0, 0), (.bipush 1, 0, 0), (.iadd, 0, 0), (.iaload, 0, 0), (.iload 0, 1, 0), (.iload 3, 0, 0), (.bipush 2, 0, 0), (.iadd, 0, 0), (.iaload, 0, 0), (.iload 0, 1, 0), (.iload 3, 0, 0), (.bipush 3, 0, 0), (.iadd, 0, 0), (.iaload, 0, 0), (.invokevirtual 183, 4, 47), (.iload 2, 1, 0), (.iload 0, 1, 0), (.iload 3, 0, 0), (.bipush 1, 0, 0), (.iadd, 0, 0), (.iaload, 0, 0), (.iload 0, 1, 0), (.iload 3, 0, 0), (.bipush 2, 0, 0), (.iadd, 0, 0), (.iaload, 0, 0), (.iload 0, 1, 0), (.iload 3, 0, 0), (.bipush 3, 0, 0), (.iadd, 0, 0), (.iaload, 0, 0), (.invokevirtual 18, 4, 55), (.if_icmp .eq 1161, 0, 0), (.bipush 0, 0, 0), (.ireturn, 1, 0), (.iload 1, 1, 0), (.iload 0, 1, 0), (.iload 3, 0, 0), (.bipush 1, 0, 0), (.iadd, 0, 0), (.iaload, 0, 0), (.iload 0, 1, 0), (.iload 3, 0, 0), (.bipush 2, 0, 0), (.iadd, 0, 0), (.iaload, 0, 0), (.iload 0, 1, 0), (.iload 3, 0, 0), (.bipush 3, 0, 0), (.iadd, 0, 0), (.iaload, 0, 0), (.iload 0, 1, 0), (.iload 3, 0, 0), (.bipush 4, 0, 0), (.iadd, 0, 0), (.iaload, 0, 0), (.invokevirtual 189, 5, 57), (.iload 2, 1, 0), (.iload 0, 1, 0), (.iload 3, 0, 0), (.bipush 1, 0, 0), (.iadd, 0, 0), (.iaload, 0, 0), (.iload 0, 1, 0), (.iload 3, 0, 0), (.bipush 2, 0, 0), (.iadd, 0, 0), (.iaload, 0, 0), (.iload 0, 1, 0), (.iload 3, 0, 0), (.bipush 3, 0, 0), (.iadd, 0, 0), (.iaload, 0, 0), (.iload 0, 1, 0), (.iload 3, 0, 0), (.bipush 4, 0, 0), (.iadd, 0, 0), (.iaload, 0, 0), (.invokevirtual 71, 5, 65), (.if_icmp .eq 1161, 0, 0), (.bipush 0, 0, 0), (.ireturn, 1, 0), (.iload 1, 1, 0), (.iload 0, 1, 0), (.iload 3, 0, 0), (.bipush 1, 0, 0), (.iadd, 0, 0), (.iaload, 0, 0), (.iload 0, 1, 0), (.iload 3, 0, 0), (.bipush 2, 0, 0), (.iadd, 0, 0), (.iaload, 0, 0), (.invokevirtual 190, 3, 67), (.iload 2, 1, 0), (.iload 0, 1, 0), (.iload 3, 0, 0), (.bipush 1, 0, 0), (.iadd, 0, 0), (.iaload, 0, 0), (.iload 0, 1, 0), (.iload 3, 0, 0), (.bipush 2, 0, 0), (.iadd, 0, 0), (.iaload, 0, 0), (.invokevirtual 72, 3, 75), (.if_icmp .eq 1161, 0, 0), (.bipush 0, 0, 0), (.ireturn, 1, 0), (.iload 1, 1, 0), (.iload 0, 1, 0), (.iload 3, 0, 0), (.bipush 1, 0, 0), (.iadd, 0, 0), (.iaload, 0, 0), (.iload 0, 1, 0), (.iload 3, 0, 0), (.bipush 2, 0, 0), (.iadd, 0, 0), (.iaload, 0, 0), (.invokevirtual 191, 3, 77), (.iload 2, 1, 0), (.iload 0, 1, 0), (.iload 3, 0, 0), (.bipush 1, 0, 0), (.iadd, 0, 0), (.iaload, 0, 0), (.iload 0, 1, 0), (.iload 3, 0, 0), (.bipush 2, 0, 0), (.iadd, 0, 0), (.iaload, 0, 0), (.invokevirtual 73, 3, 83), (.if_icmp .eq 1161, 0, 0), (.bipush 0, 0, 0), (.ireturn, 1, 0), (.iload 1, 1, 0), (.iload 0, 1, 0), (.iload 3, 0, 0), (.bipush 1, 0, 0), (.iadd, 0, 0), (.iaload, 0, 0), (.iload 0, 1, 0), (.iload 3, 0, 0), (.bipush 2, 0, 0), (.iadd, 0, 0), (.iaload, 0, 0), (.invokevirtual 192, 3, 85), (.iload 2, 1, 0), (.iload 0, 1, 0), (.iload 3, 0, 0), (.bipush 1, 0, 0), (.iadd, 0, 0), (.iaload, 0, 0), (.iload 0, 1, 0), (.iload 3, 0, 0), (.bipush 2, 0, 0), (.iadd, 0, 0), (.iaload, 0, 0), (.invokevirtual 74, 3, 91), (.if_icmp .eq 1161, 0, 0), (.bipush 0, 0, 0), (.ireturn, 1, 0), (.iload 1, 1, 0), (.iload 0, 1, 0), (.iload 3, 0, 0), (.bipush 1, 0, 0), (.iadd, 0, 0), (.iaload, 0, 0), (.iload 0, 1, 0), (.iload 3, 0, 0), (.bipush 2, 0, 0), (.iadd, 0, 0), (.iaload, 0, 0), (.invokevirtual 193, 3, 93), (.iload 2, 1, 0), (.iload 0, 1, 0), (.iload 3, 0, 0), (.bipush 1, 0, 0), (.iadd, 0, 0), (.iaload, 0, 0), (.iload 0, 1, 0), (.iload 3, 0, 0), (.bipush 2, 0, 0), (.iadd, 0, 0), (.iaload, 0, 0), (.invokevirtual 79, 3, 99), (.if_icmp .eq 1161, 0, 0), (.bipush 0, 0, 0), (.ireturn, 1, 0), (.iload 1, 1, 0), (.iload 0, 1, 0), (.iload 3, 0, 0), (.bipush 1, 0, 0), (.iadd, 0, 0), (.iaload, 0, 0), (.invokevirtual 195, 2, 101), (.iload 2, 1, 0), (.iload 0, 1, 0), (.iload 3, 0, 0), (.bipush 1, 0, 0), (.iadd, 0, 0), (.iaload, 0, 0), (.invokevirtual 88, 2, 107), (.if_icmp .eq 1161, 0, 0), (.bipush 0, 0, 0), (.ireturn, 1, 0), (.iload 1, 1, 0), (.iload 0, 1, 0), (.iload 3, 0, 0), (.bipush 1, 0, 0), (.iadd, 0, 0), (.iaload, 0, 0), (.iload 0, 1, 0), (.iload 3, 0, 0), (.bipush 2, 0, 0), (.iadd, 0, 0), (.iaload, 0, 0), (.iload 0, 1, 0), (.iload 3, 0, 0), (.bipush 3, 0, 0), (.iadd, 0, 0), (.iaload, 0, 0), (.iload 0, 1, 0), (.iload 3, 0, 0), (.bipush 4, 0, 0), (.iadd, 0, 0), (.iaload, 0, 0), (.iload 0, 1, 0), (.iload 3, 0, 0), (.bipush 5, 0, 0), (.iadd, 0, 0), (.iaload, 0, 0), (.invokevirtual 184, 6, 109), (.iload 2, 1, 0), (.iload 0, 1, 0), (.iload 3, 0, 0), (.bipush 1, 0, 0), (.iadd, 0, 0), (.iaload, 0, 0), (.iload 0, 1, 0), (.iload 3, 0, 0), (.bipush 2, 0, 0), (.iadd, 0, 0), (.iaload, 0, 0), (.iload 0, 1, 0), (.iload 3, 0, 0), (.bipush 3, 0, 0), (.iadd, 0, 0), (.iaload, 0, 0), (.iload 0, 1, 0), (.iload 3, 0, 0), (.bipush 4, 0, 0), (.iadd, 0, 0), (.iaload, 0, 0), (.iload 0, 1, 0), (.iload 3, 0, 0), (.bipush 5, 0, 0), (.iadd, 0, 0), (.iaload, 0, 0), (.invokevirtual 19, 6, 117), (.if_icmp .eq 1161, 0, 0), (.bipush 0, 0, 0), (.ireturn, 1, 0), (.iload 1, 1, 0), (.iload 0, 1, 0), (.iload 3, 0, 0), (.bipush 1, 0, 0), (.iadd, 0, 0), (.iaload, 0, 0), (.invokevirtual 186, 2, 119), (.iload 2, 1, 0), (.iload 0, 1, 0), (.iload 3, 0, 0), (.bipush 1, 0, 0), (.iadd, 0, 0), (.iaload, 0, 0), (.invokevirtual 20, 2, 127), (.if_icmp .eq 1161, 0, 0), (.bipush 0, 0, 0), (.ireturn, 1, 0), (.iload 1, 1, 0), (.iload 0, 1, 0), (.iload 3, 0, 0), (.bipush 1, 0, 0), (.iadd, 0, 0), (.iaload, 0, 0), (.invokevirtual 187, 2, 129), (.iload 2, 1, 0), (.iload 0, 1, 0), (.iload 3, 0, 0), (.bipush 1, 0, 0), (.iadd, 0, 0), (.iaload, 0, 0), (.invokevirtual 52, 2, 135), (.if_icmp .eq 1161, 0, 0), (.bipush 0, 0, 0), (.ireturn, 1, 0), (.iload 1, 1, 0), (.iload 0, 1, 0), (.iload 3, 0, 0), (.bipush 1, 0, 0), (.iadd, 0, 0), (.iaload, 0, 0), (.invokevirtual 188, 2, 137), (.iload 2, 1, 0), (.iload 0, 1, 0), (.iload 3, 0, 0), (.bipush 1, 0, 0), (.iadd, 0, 0), (.iaload, 0, 0), (.invokevirtual 53, 2, 143), (.if_icmp .eq 1161, 0, 0), (.bipush 0, 0, 0), (.ireturn, 1, 0), (.iload 1, 1, 0), (.iload 0, 1, 0), (.iload 3, 0, 0), (.bipush 1, 0, 0), (.iadd, 0, 0), (.iaload, 0, 0), (.iload 0, 1, 0), (.iload 3, 0, 0), (.bipush 2, 0, 0), (.iadd, 0, 0), (.iaload, 0, 0), (.invokevirtual 200, 3, 145), (.iload 2, 1, 0), (.iload 0, 1, 0), (.iload 3, 0, 0), (.bipush 1, 0, 0), (.iadd, 0, 0), (.iaload, 0, 0), (.iload 0, 1, 0), (.iload 3, 0, 0), (.bipush 2, 0, 0), (.iadd, 0, 0), (.iaload, 0, 0), (.invokevirtual 90, 3, 151), (.if_icmp .eq 1161, 0, 0), (.bipush 0, 0, 0), (.ireturn, 1, 0), (.iload 1, 1, 0), (.iload 0, 1, 0), (.iload 3, 0, 0), (.bipush 1, 0, 0), (.iadd, 0, 0), (.iaload, 0, 0), (.iload 0, 1, 0), (.iload 3, 0, 0), (.bipush 2, 0, 0), (.iadd, 0, 0), (.iaload, 0, 0), (.invokevirtual 202, 3, 153), (.iload 2, 1, 0), (.iload 0, 1, 0), (.iload 3, 0, 0), (.bipush 1, 0, 0), (.iadd, 0, 0), (.iaload, 0, 0), (.iload 0, 1, 0), (.iload 3, 0, 0), (.bipush 2, 0, 0), (.iadd, 0, 0), (.iaload, 0, 0), (.invokevirtual 91, 3, 159), (.if_icmp .eq 1161, 0, 0), (.bipush 0, 0, 0), (.ireturn, 1, 0), (.iload 1, 1, 0), (.iload 0, 1, 0), (.iload 3, 0, 0), (.bipush 1, 0, 0), (.iadd, 0, 0), (.iaload, 0, 0), (.iload 0, 1, 0), (.iload 3, 0, 0), (.bipush 2, 0, 0), (.iadd, 0, 0), (.iaload, 0, 0), (.invokevirtual 203, 3, 161), (.iload 2, 1, 0), (.iload 0, 1, 0), (.iload 3, 0, 0), (.bipush 1, 0, 0), (.iadd, 0, 0), (.iaload, 0, 0), (.iload 0, 1, 0), (.iload 3, 0, 0), (.bipush 2, 0, 0), (.iadd, 0, 0), (.iaload, 0, 0), (.invokevirtual 92, 3, 167), (.if_icmp .eq 1161, 0, 0), (.bipush 0, 0, 0), (.ireturn, 1, 0), (.iload 1, 1, 0), (.iload 0, 1, 0), (.iload 3, 0, 0), (.bipush 1, 0, 0), (.iadd, 0, 0), (.iaload, 0, 0), (.iload 0, 1, 0), (.iload 3, 0, 0), (.bipush 2, 0, 0), (.iadd, 0, 0), (.iaload, 0, 0), (.invokevirtual 204, 3, 169), (.iload 2, 1, 0), (.iload 0, 1, 0), (.iload 3, 0, 0), (.bipush 1, 0, 0), (.iadd, 0, 0), (.iaload, 0, 0), (.iload 0, 1, 0), (.iload 3, 0, 0), (.bipush 2, 0, 0), (.iadd, 0, 0), (.iaload, 0, 0), (.invokevirtual 93, 3, 175), (.if_icmp .eq 1161, 0, 0), (.bipush 0, 0, 0), (.ireturn, 1, 0), (.iload 1, 1, 0), (.iload 0, 1, 0), (.iload 3, 0, 0), (.bipush 1, 0, 0), (.iadd, 0, 0), (.iaload, 0, 0), (.iload 0, 1, 0), (.iload 3, 0, 0), (.bipush 2, 0, 0), (.iadd, 0, 0), (.iaload, 0, 0), (.iload 0, 1, 0), (.iload 3, 0, 0), (.bipush 3, 0, 0), (.iadd, 0, 0), (.iaload, 0, 0), (.iload 0, 1, 0), (.iload 3, 0, 0), (.bipush 4, 0, 0), (.iadd, 0, 0), (.iaload, 0, 0), (.invokevirtual 216, 5, 177), (.iload 2, 1, 0), (.iload 0, 1, 0), (.iload 3, 0, 0), (.bipush 1, 0, 0), (.iadd, 0, 0), (.iaload, 0, 0), (.iload 0, 1, 0), (.iload 3, 0, 0), (.bipush 2, 0, 0), (.iadd, 0, 0), (.iaload, 0, 0), (.iload 0, 1, 0), (.iload 3, 0, 0), (.bipush 3, 0, 0), (.iadd, 0, 0), (.iaload, 0, 0), (.iload 0, 1, 0), (.iload 3, 0, 0), (.bipush 4, 0, 0), (.iadd, 0, 0), (.iaload, 0, 0), (.invokevirtual 94, 5, 183), (.if_icmp .eq 1161, 0, 0), (.bipush 0, 0, 0), (.ireturn, 1, 0), (.iload 1, 1, 0), (.iload 0, 1, 0), (.iload 3, 0, 0), (.bipush 1, 0, 0), (.iadd, 0, 0), (.iaload, 0, 0), (.iload 0, 1, 0), (.iload 3, 0, 0), (.bipush 2, 0, 0), (.iadd, 0, 0), (.iaload, 0, 0), (.invokevirtual 221, 3, 185), (.iload 2, 1, 0), (.iload 0, 1, 0), (.iload 3, 0, 0), (.bipush 1, 0, 0), (.iadd, 0, 0), (.iaload, 0, 0), (.iload 0, 1, 0), (.iload 3, 0, 0), (.bipush 2, 0, 0), (.iadd, 0, 0), (.iaload, 0, 0), (.invokevirtual 100, 3, 191), (.if_icmp .eq 1161, 0, 0), (.bipush 0, 0, 0), (.ireturn, 1, 0), (.iload 1, 1, 0), (.iload 0, 1, 0), (.iload 3, 0, 0), (.bipush 1, 0, 0), (.iadd, 0, 0), (.iaload, 0, 0), (.invokevirtual 225, 2, 193), (.iload 2, 1, 0), (.iload 0, 1, 0), (.iload 3, 0, 0), (.bipush 1, 0, 0), (.iadd, 0, 0), (.iaload, 0, 0), (.invokevirtual 103, 2, 199), (.if_icmp .eq 1161, 0, 0), (.bipush 0, 0, 0), (.ireturn, 1, 0), (.iload 1, 1, 0), (.invokevirtual 238, 1, 201), (.iload 2, 1, 0), (.invokevirtual 107, 1, 209), (.if_icmp .eq 1161, 0, 0), (.bipush 0, 0, 0), (.ireturn, 1, 0), (.iload 1, 1, 0), (.iload 0, 1, 0), (.iload 3, 0, 0), (.bipush 1, 0, 0), (.iadd, 0, 0), (.iaload, 0, 0), (.iload 0, 1, 0), (.iload 3, 0, 0), (.bipush 2, 0, 0), (.iadd, 0, 0), (.iaload, 0, 0), (.invokevirtual 239, 3, 211), (.iload 2, 1, 0), (.iload 0, 1, 0), (.iload 3, 0, 0), (.bipush 1, 0, 0), (.iadd, 0, 0), (.iaload, 0, 0), (.iload 0, 1, 0), (.iload 3, 0, 0), (.bipush 2, 0, 0), (.iadd, 0, 0), (.iaload, 0, 0), (.invokevirtual 108, 3, 217), (.if_icmp .eq 1161, 0, 0), (.bipush 0, 0, 0), (.ireturn, 1, 0), (.iload 1, 1, 0), (.iload 0, 1, 0), (.iload 3, 0, 0), (.bipush 1, 0, 0), (.iadd, 0, 0), (.iaload, 0, 0), (.invokevirtual 241, 2, 219), (.iload 2, 1, 0), (.iload 0, 1, 0), (.iload 3, 0, 0), (.bipush 1, 0, 0), (.iadd, 0, 0), (.iaload, 0, 0), (.invokevirtual 109, 2, 225), (.if_icmp .eq 1161, 0, 0), (.bipush 0, 0, 0), (.ireturn, 1, 0), (.iload 1, 1, 0), (.invokevirtual 210, 1, 227), (.iload 2, 1, 0), (.invokevirtual 110, 1, 233), (.if_icmp .eq 1161, 0, 0), (.bipush 0, 0, 0), (.ireturn, 1, 0), (.iload 1, 1, 0), (.iload 0, 1, 0), (.iload 3, 0, 0), (.bipush 1, 0, 0), (.iadd, 0, 0), (.iaload, 0, 0), (.invokevirtual 212, 2, 235), (.iload 2, 1, 0), (.iload 0, 1, 0), (.iload 3, 0, 0), (.bipush 1, 0, 0), (.iadd, 0, 0), (.iaload, 0, 0), (.invokevirtual 111, 2, 241), (.if_icmp .eq 1161, 0, 0), (.bipush 0, 0, 0), (.ireturn, 1, 0), (.iload 1, 1, 0), (.iload 0, 1, 0), (.iload 3, 0, 0), (.bipush 1, 0, 0), (.iadd, 0, 0), (.iaload, 0, 0), (.invokevirtual 213, 2, 243), (.iload 2, 1, 0), (.iload 0, 1, 0), (.iload 3, 0, 0), (.bipush 1, 0, 0), (.iadd, 0, 0), (.iaload, 0, 0), (.invokevirtual 113, 2, 249), (.if_icmp .eq 1161, 0, 0), (.bipush 0, 0, 0), (.ireturn, 1, 0), (.iload 1, 1, 0), (.iload 0, 1, 0), (.iload 3, 0, 0), (.bipush 1, 0, 0), (.iadd, 0, 0), (.iaload, 0, 0), (.iload 0, 1, 0), (.iload 3, 0, 0), (.bipush 2, 0, 0), (.iadd, 0, 0), (.iaload, 0, 0), (.iload 0, 1, 0), (.iload 3, 0, 0), (.bipush 3, 0, 0), (.iadd, 0, 0), (.iaload, 0, 0), (.invokevirtual 244, 4, 251), (.iload 2, 1, 0), (.iload 0, 1, 0), (.iload 3, 0, 0), (.bipush 1, 0, 0), (.iadd, 0, 0), (.iaload, 0, 0), (.iload 0, 1, 0), (.iload 3, 0, 0), (.bipush 2, 0, 0), (.iadd, 0, 0), (.iaload, 0, 0), (.iload 0, 1, 0), (.iload 3, 0, 0), (.bipush 3, 0, 0), (.iadd, 0, 0), (.iaload, 0, 0), (.invokevirtual 116, 4, 259), (.if_icmp .eq 1161, 0, 0), (.bipush 0, 0, 0), (.ireturn, 1, 0), (.iload 1, 1, 0), (.iload 0, 1, 0), (.iload 3, 0, 0), (.bipush 1, 0, 0), (.iadd, 0, 0), (.iaload, 0, 0), (.iload 0, 1, 0), (.iload 3, 0, 0), (.bipush 2, 0, 0), (.iadd, 0, 0), (.iaload, 0, 0), (.iload 0, 1, 0), (.iload 3, 0, 0), (.bipush 3, 0, 0), (.iadd, 0, 0), (.iaload, 0, 0), (.invokevirtual 245, 4, 261), (.iload 2, 1, 0), (.iload 0, 1, 0), (.iload 3, 0, 0), (.bipush 1, 0, 0), (.iadd, 0, 0), (.iaload, 0, 0), (.iload 0, 1, 0), (.iload 3, 0, 0), (.bipush 2, 0, 0), (.iadd, 0, 0), (.iaload, 0, 0), (.iload 0, 1, 0), (.iload 3, 0, 0), (.bipush 3, 0, 0), (.iadd, 0, 0), (.iaload, 0, 0), (.invokevirtual 117, 4, 267), (.if_icmp .eq 1161, 0, 0), (.bipush 0, 0, 0), (.ireturn, 1, 0), (.iload 1, 1, 0), (.iload 0, 1, 0), (.iload 3, 0, 0), (.bipush 1, 0, 0), (.iadd, 0, 0), (.iaload, 0, 0), (.iload 0, 1, 0), (.iload 3, 0, 0), (.bipush 2, 0, 0), (.iadd, 0, 0), (.iaload, 0, 0), (.iload 0, 1, 0), (.iload 3, 0, 0), (.bipush 3, 0, 0), (.iadd, 0, 0), (.iaload, 0, 0), (.iload 0, 1, 0), (.iload 3, 0, 0), (.bipush 4, 0, 0), (.iadd, 0, 0), (.iaload, 0, 0), (.invokevirtual 219, 5, 269), (.iload 2, 1, 0), (.iload 0, 1, 0), (.iload 3, 0, 0), (.bipush 1, 0, 0), (.iadd, 0, 0), (.iaload, 0, 0), (.iload 0, 1, 0), (.iload 3, 0, 0), (.bipush 2, 0, 0), (.iadd, 0, 0), (.iaload, 0, 0), (.iload 0, 1, 0), (.iload 3, 0, 0), (.bipush 3, 0, 0), (.iadd, 0, 0), (.iaload, 0, 0), (.iload 0, 1, 0), (.iload 3, 0, 0), (.bipush 4, 0, 0), (.iadd, 0, 0), (.iaload, 0, 0), (.invokevirtual 121, 5, 275), (.if_icmp .eq 1161, 0, 0), (.bipush 0, 0, 0), (.ireturn, 1, 0), (.iload 1, 1, 0), (.iload 0, 1, 0), (.iload 3, 0, 0), (.bipush 1, 0, 0), (.iadd, 0, 0), (.iaload, 0, 0), (.iload 0, 1, 0), (.iload 3, 0, 0), (.bipush 2, 0, 0), (.iadd, 0, 0), (.iaload, 0, 0), (.iload 0, 1, 0), (.iload 3, 0, 0), (.bipush 3, 0, 0), (.iadd, 0, 0), (.iaload, 0, 0), (.invokevirtual 220, 4, 277), (.iload 2, 1, 0), (.iload 0, 1, 0), (.iload 3, 0, 0), (.bipush 1, 0, 0), (.iadd, 0, 0), (.iaload, 0, 0), (.iload 0, 1, 0), (.iload 3, 0, 0), (.bipush 2, 0, 0), (.iadd, 0, 0), (.iaload, 0, 0), (.iload 0, 1, 0), (.iload 3, 0, 0), (.bipush 3, 0, 0), (.iadd, 0, 0), (.iaload, 0, 0), (.invokevirtual 122, 4, 283), (.if_icmp .eq 1161, 0, 0), (.bipush 0, 0, 0), (.ireturn, 1, 0), (.iload 1, 1, 0), (.iload 0, 1, 0), (.iload 3, 0, 0), (.bipush 1, 0, 0), (.iadd, 0, 0), (.iaload, 0, 0), (.iload 0, 1, 0), (.iload 3, 0, 0), (.bipush 2, 0, 0), (.iadd, 0, 0), (.iaload, 0, 0), (.iload 0, 1, 0), (.iload 3, 0, 0), (.bipush 3, 0, 0), (.iadd, 0, 0), (.iaload, 0, 0), (.invokevirtual 230, 4, 285), (.iload 2, 1, 0), (.iload 0, 1, 0), (.iload 3, 0, 0), (.bipush 1, 0, 0), (.iadd, 0, 0), (.iaload, 0, 0), (.iload 0, 1, 0), (.iload 3, 0, 0), (.bipush 2, 0, 0), (.iadd, 0, 0), (.iaload, 0, 0), (.iload 0, 1, 0), (.iload 3, 0, 0), (.bipush 3, 0, 0), (.iadd, 0, 0), (.iaload, 0, 0), (.invokevirtual 126, 4, 291), (.if_icmp .eq 1161, 0, 0), (.bipush 0, 0, 0), (.ireturn, 1, 0), (.iload 1, 1, 0), (.iload 0, 1, 0), (.iload 3, 0, 0), (.bipush 1, 0, 0), (.iadd, 0, 0), (.iaload, 0, 0), (.iload 0, 1, 0), (.iload 3, 0, 0), (.bipush 2, 0, 0), (.iadd, 0, 0), (.iaload, 0, 0), (.invokevirtual 211, 3, 293), (.iload 2, 1, 0), (.iload 0, 1, 0), (.iload 3, 0, 0), (.bipush 1, 0, 0), (.iadd, 0, 0), (.iaload, 0, 0), (.iload 0, 1, 0), (.iload 3, 0, 0), (.bipush 2, 0, 0), (.iadd, 0, 0), (.iaload, 0, 0), (.invokevirtual 127, 3, 299), (.if_icmp .eq 1161, 0, 0), (.bipush 0, 0, 0), (.ireturn, 1, 0), (.iload 1, 1, 0), (.iload 0, 1, 0), (.iload 3, 0, 0), (.bipush 1, 0, 0), (.iadd, 0, 0), (.iaload, 0, 0), (.invokevirtual 240, 2, 301), (.iload 2, 1, 0), (.iload 0, 1, 0), (.iload 3, 0, 0), (.bipush 1, 0, 0), (.iadd, 0, 0), (.iaload, 0, 0), (.invokevirtual 128, 2, 307), (.if_icmp .eq 1161, 0, 0), (.bipush 0, 0, 0), (.ireturn, 1, 0), (.iload 1, 1, 0), (.iload 0, 1, 0), (.iload 3, 0, 0), (.bipush 1, 0, 0), (.iadd, 0, 0), (.iaload, 0, 0), (.iload 0, 1, 0), (.iload 3, 0, 0), (.bipush 2, 0, 0), (.iadd, 0, 0), (.iaload, 0, 0), (.iload 0, 1, 0), (.iload 3, 0, 0), (.bipush 3, 0, 0), (.iadd, 0, 0), (.iaload, 0, 0), (.invokevirtual 249, 4, 309), (.iload 2, 1, 0), (.iload 0, 1, 0), (.iload 3, 0, 0), (.bipush 1, 0, 0), (.iadd, 0, 0), (.iaload, 0, 0), (.iload 0, 1, 0), (.iload 3, 0, 0), (.bipush 2, 0, 0), (.iadd, 0, 0), (.iaload, 0, 0), (.iload 0, 1, 0), (.iload 3, 0, 0), (.bipush 3, 0, 0), (.iadd, 0, 0), (.iaload, 0, 0), (.invokevirtual 119, 4, 315), (.if_icmp .eq 1161, 0, 0), (.bipush 0, 0, 0), (.ireturn, 1, 0), (.iload 1, 1, 0), (.iload 0, 1, 0), (.iload 3, 0, 0), (.bipush 1, 0, 0), (.iadd, 0, 0), (.iaload, 0, 0), (.iload 0, 1, 0), (.iload 3, 0, 0), (.bipush 2, 0, 0), (.iadd, 0, 0), (.iaload, 0, 0), (.invokevirtual 250, 3, 317), (.iload 2, 1, 0), (.iload 0, 1, 0), (.iload 3, 0, 0), (.bipush 1, 0, 0), (.iadd, 0, 0), (.iaload, 0, 0), (.iload 0, 1, 0), (.iload 3, 0, 0), (.bipush 2, 0, 0), (.iadd, 0, 0), (.iaload, 0, 0), (.invokevirtual 120, 3, 323), (.if_icmp .eq 1161, 0, 0), (.bipush 0, 0, 0), (.ireturn, 1, 0), (.iload 1, 1, 0), (.iload 0, 1, 0), (.iload 3, 0, 0), (.bipush 1, 0, 0), (.iadd, 0, 0), (.iaload, 0, 0), (.iload 0, 1, 0), (.iload 3, 0, 0), (.bipush 2, 0, 0), (.iadd, 0, 0), (.iaload, 0, 0), (.invokevirtual 247, 3, 325), (.iload 2, 1, 0), (.iload 0, 1, 0), (.iload 3, 0, 0), (.bipush 1, 0, 0), (.iadd, 0, 0), (.iaload, 0, 0), (.iload 0, 1, 0), (.iload 3, 0, 0), (.bipush 2, 0, 0), (.iadd, 0, 0), (.iaload, 0, 0), (.invokevirtual 118, 3, 331), (.if_icmp .eq 1161, 0, 0), (.bipush 0, 0, 0), (.ireturn, 1, 0), (.iload 1, 1, 0), (.iload 0, 1, 0), (.iload 3, 0, 0), (.bipush 1, 0, 0), (.iadd, 0, 0), (.iaload, 0, 0), (.iload 0, 1, 0), (.iload 3, 0, 0), (.bipush 2, 0, 0), (.iadd, 0, 0), (.iaload, 0, 0), (.invokevirtual 207, 3, 333), (.iload 2, 1, 0), (.iload 0, 1, 0), (.iload 3, 0, 0), (.bipush 1, 0, 0), (.iadd, 0, 0), (.iaload, 0, 0), (.iload 0, 1, 0), (.iload 3, 0, 0), (.bipush 2, 0, 0), (.iadd, 0, 0), (.iaload, 0, 0), (.invokevirtual 95, 3, 339), (.if_icmp .eq 1161, 0, 0), (.bipush 0, 0, 0), (.ireturn, 1, 0), (.iload 1, 1, 0), (.iload 0, 1, 0), (.iload 3, 0, 0), (.bipush 1, 0, 0), (.iadd, 0, 0), (.iaload, 0, 0), (.iload 0, 1, 0), (.iload 3, 0, 0), (.bipush 2, 0, 0), (.iadd, 0, 0), (.iaload, 0, 0), (.invokevirtual 208, 3, 341), (.iload 2, 1, 0), (.iload 0, 1, 0), (.iload 3, 0, 0), (.bipush 1, 0, 0), (.iadd, 0, 0), (.iaload, 0, 0), (.iload 0, 1, 0), (.iload 3, 0, 0), (.bipush 2, 0, 0), (.iadd, 0, 0), (.iaload, 0, 0), (.invokevirtual 96, 3, 347), (.if_icmp .eq 1161, 0, 0), (.bipush 0, 0, 0), (.ireturn, 1, 0), (.iload 1, 1, 0), (.invokevirtual 209, 1, 349), (.iload 2, 1, 0), (.invokevirtual 97, 1, 355), (.if_icmp .eq 1161, 0, 0), (.bipush 0, 0, 0), (.ireturn, 1, 0), (.iload 1, 1, 0), (.iload 0, 1, 0), (.iload 3, 0, 0), (.bipush 1, 0, 0), (.iadd, 0, 0), (.iaload, 0, 0), (.iload 0, 1, 0), (.iload 3, 0, 0), (.bipush 2, 0, 0), (.iadd, 0, 0), (.iaload, 0, 0), (.iload 0, 1, 0), (.iload 3, 0, 0), (.bipush 3, 0, 0), (.iadd, 0, 0), (.iaload, 0, 0), (.iload 0, 1, 0), (.iload 3, 0, 0), (.bipush 4, 0, 0), (.iadd, 0, 0), (.iaload, 0, 0), (.invokevirtual 215, 5, 357), (.iload 2, 1, 0), (.iload 0, 1, 0), (.iload 3, 0, 0), (.bipush 1, 0, 0), (.iadd, 0, 0), (.iaload, 0, 0), (.iload 0, 1, 0), (.iload 3, 0, 0), (.bipush 2, 0, 0), (.iadd, 0, 0), (.iaload, 0, 0), (.iload 0, 1, 0), (.iload 3, 0, 0), (.bipush 3, 0, 0), (.iadd, 0, 0), (.iaload, 0, 0), (.iload 0, 1, 0), (.iload 3, 0, 0), (.bipush 4, 0, 0), (.iadd, 0, 0), (.iaload, 0, 0), (.invokevirtual 129, 5, 363), (.if_icmp .eq 1161, 0, 0), (.bipush 0, 0, 0), (.ireturn, 1, 0), (.iload 1, 1, 0), (.invokevirtual 198, 1, 365), (.iload 2, 1, 0), (.invokevirtual 65, 1, 373), (.if_icmp .eq 1161, 0, 0), (.bipush 0, 0, 0), (.ireturn, 1, 0), (.iload 1, 1, 0), (.iload 0, 1, 0), (.iload 3, 0, 0), (.bipush 1, 0, 0), (.iadd, 0, 0), (.iaload, 0, 0), (.ifCond .eq 1128, 0, 0), (.bipush 1, 0, 0), (.goto 1129, 0, 0), (.bipush 0, 0, 0), (.invokevirtual 199, 2, 375), (.iload 2, 1, 0), (.iload 0, 1, 0), (.iload 3, 0, 0), (.bipush 1, 0, 0), (.iadd, 0, 0), (.iaload, 0, 0), (.ifCond .eq 1139, 0, 0), (.bipush 1, 0, 0), (.goto 1140, 0, 0), (.bipush 0, 0, 0), (.invokevirtual 130, 2, 383), (.if_icmp .eq 1161, 0, 0), (.bipush 0, 0, 0), (.ireturn, 1, 0), (.iload 1, 1, 0), (.iload 0, 1, 0), (.iload 3, 0, 0), (.bipush 1, 0, 0), (.iadd, 0, 0), (.iaload, 0, 0), (.invokevirtual 205, 2, 385), (.iload 2, 1, 0), (.iload 0, 1, 0), (.iload 3, 0, 0), (.bipush 1, 0, 0), (.iadd, 0, 0), (.iaload, 0, 0), (.invokevirtual 132, 2, 391), (.if_icmp .eq 1161, 0, 0), (.bipush 0, 0, 0), (.ireturn, 1, 0), (.iinc 3 6, 0, 0), (.goto 10, 0, 0), (.bipush 1, 0, 0), (.ireturn, 1, 0)]
def am_codes : List (List am_I) := [am_c0, am_c1, am_c2, am_c3, am_c4, am_c5, am_c6, am_c7, am_c8, am_c9, am_c10, am_c11, am_c12, am_c13, am_c14, am_c15, am_c16, am_c17, am_c18, am_c19, am_c20, am_c21, am_c22, am_c23, am_c24, am_c25, am_c26, am_c27, am_c28, am_c29, am_c30, am_c31, am_c32, am_c33, am_c34, am_c35, am_c36, am_c37, am_c38, am_c39, am_c40, am_c41, am_c42, am_c43, am_c44, am_c45, am_c46, am_c47, am_c48, am_c49, am_c50, am_c51, am_c52, am_c53, am_c54, am_c55, am_c56, am_c57, am_c58, am_c59, am_c60, am_c61, am_c62, am_c63, am_c64, am_c65, am_c66, am_c67, am_c68, am_c69, am_c70, am_c71, am_c72, am_c73, am_c74, am_c75, am_c76, am_c77, am_c78, am_c79, am_c80, am_c81, am_c82, am_c83, am_c84, am_c85, am_c86, am_c87, am_c88, am_c89, am_c90, am_c91, am_c92, am_c93, am_c94, am_c95, am_c96, am_c97, am_c98, am_c99, am_c100, am_c101, am_c102, am_c103, am_c104, am_c105, am_c106, am_c107, am_c108, am_c109, am_c110, am_c111, am_c112, am_c113, am_c114, am_c115, am_c116, am_c117, am_c118, am_c119, am_c120, am_c121, am_c122, am_c123, am_c124, am_c125, am_c126, am_c127, am_c128, am_c129, am_c130, am_c131, am_c132, am_c133, am_c134, am_c135, am_c136, am_c137, am_c138, am_c139, am_c140, am_c141, am_c142, am_c143, am_c144, am_c145, am_c146, am_c147, am_c148, am_c149, am_c150, am_c151, am_c152, am_c153, am_c154, am_c155, am_c156, am_c157, am_c158, am_c159, am_c160, am_c161, am_c162, am_c163, am_c164, am_c165, am_c166, am_c167, am_c168, am_c169, am_c170, am_c171, am_c172, am_c173, am_c174, am_c175, am_c176, am_c177, am_c178, am_c179, am_c180, am_c181, am_c182, am_c183, am_c184, am_c185, am_c186, am_c187, am_c188, am_c189, am_c190, am_c191, am_c192, am_c193, am_c194, am_c195, am_c196, am_c197, am_c198, am_c199, am_c200, am_c201, am_c202, am_c203, am_c204, am_c205, am_c206, am_c207, am_c208, am_c209, am_c210, am_c211, am_c212, am_c213, am_c214, am_c215, am_c216, am_c217, am_c218, am_c219, am_c220, am_c221, am_c222, am_c223, am_c224, am_c225, am_c226, am_c227, am_c228, am_c229, am_c230, am_c231, am_c232, am_c233, am_c234, am_c235, am_c236, am_c237, am_c238, am_c239, am_c240, am_c241, am_c242, am_c243, am_c244, am_c245, am_c246, am_c247, am_c248, am_c249, am_c250, am_c251, am_c252, am_c253, am_c254, am_c255, am_c256, am_c257, am_c258, am_c259, am_c260, am_c261, am_c262, am_c263]
def am_code (j : Nat) : List am_I := am_codes.getD j []
def am_ml (j : Nat) : Nat := (202475270969518801633398771941987991240263985648659324903068535432024629132919424497296593034614334074667707202324053704878787106880777967624956528128920247972460054359214424151718500392498511810163509996812791219244071061929912881009108785337241704312666914377806030450974056611974545428537536876003426544921831813667 >>> (4 * j)) % 16
def am_mc (j : Nat) : Nat := (772097824362795745835521145737649030359681646894510705393556728067805755446125686071753161366823454663933236368866491583946465834577440860343906992838294140607811882944797907539858161082984767579223163976639077603883580274830165661748017069850258649501593046702431875216170126776556254896766041562192675480013075087359 >>> (4 * j)) % 16
def am_rcv (j : Nat) (args : List am_V) : Bool := cond (Nat.beq (am_mc j) 15) true (match args with
  | .inr a :: _ => Nat.beq (am_cls a) (am_mc j)
  | _ => false)
def am_ini (n : Nat) (args : List am_V) : List (Option am_V) := args.map some ++ List.replicate (n - args.length) none
noncomputable def am_run : Nat → Nat → List am_V → am_M → am_R
  | 0 => fun _ _ _ => none
  | d + 1 => fun j args M => cond (am_rcv j args) (am_lim am_cls am_rf am_len (am_run d) (am_code j) 0 (am_ini (am_ml j) args) [] M) none
noncomputable def am_L (d j : Nat) : am_K := am_lim am_cls am_rf am_len (am_run d) (am_code j)
theorem am_run_s (d j : Nat) (args : List am_V) (M : am_M) : am_run (d + 1) j args M = cond (am_rcv j args) (am_L d j 0 (am_ini (am_ml j) args) [] M) none := rfl
theorem am_blk {j : Nat} {c : List am_I} (h : am_code j = c) (stops : List Nat) (n d pc : Nat) (ls : List (Option am_V)) (st : List am_V) (M : am_M) : am_L d j pc ls st M = am_go am_cls am_rf am_len (am_run d) c stops (am_L d j) n (c.drop pc) pc ls st M := by
  subst h
  exact am_go_eq _ _ _ _ _ _ _
theorem am_h0 : am_code 0 = am_c0 := rfl
theorem am_h1 : am_code 1 = am_c1 := rfl
theorem am_h2 : am_code 2 = am_c2 := rfl
theorem am_h3 : am_code 3 = am_c3 := rfl
theorem am_h4 : am_code 4 = am_c4 := rfl
theorem am_h5 : am_code 5 = am_c5 := rfl
theorem am_h6 : am_code 6 = am_c6 := rfl
theorem am_h7 : am_code 7 = am_c7 := rfl
theorem am_h8 : am_code 8 = am_c8 := rfl
theorem am_h9 : am_code 9 = am_c9 := rfl
theorem am_h10 : am_code 10 = am_c10 := rfl
theorem am_h11 : am_code 11 = am_c11 := rfl
theorem am_h12 : am_code 12 = am_c12 := rfl
theorem am_h13 : am_code 13 = am_c13 := rfl
theorem am_h14 : am_code 14 = am_c14 := rfl
theorem am_h15 : am_code 15 = am_c15 := rfl
theorem am_h16 : am_code 16 = am_c16 := rfl
theorem am_h17 : am_code 17 = am_c17 := rfl
theorem am_h18 : am_code 18 = am_c18 := rfl
theorem am_h19 : am_code 19 = am_c19 := rfl
theorem am_h20 : am_code 20 = am_c20 := rfl
theorem am_h21 : am_code 21 = am_c21 := rfl
theorem am_h22 : am_code 22 = am_c22 := rfl
theorem am_h23 : am_code 23 = am_c23 := rfl
theorem am_h24 : am_code 24 = am_c24 := rfl
theorem am_h25 : am_code 25 = am_c25 := rfl
theorem am_h26 : am_code 26 = am_c26 := rfl
theorem am_h27 : am_code 27 = am_c27 := rfl
theorem am_h28 : am_code 28 = am_c28 := rfl
theorem am_h29 : am_code 29 = am_c29 := rfl
theorem am_h30 : am_code 30 = am_c30 := rfl
theorem am_h31 : am_code 31 = am_c31 := rfl
theorem am_h32 : am_code 32 = am_c32 := rfl
theorem am_h33 : am_code 33 = am_c33 := rfl
theorem am_h34 : am_code 34 = am_c34 := rfl
theorem am_h35 : am_code 35 = am_c35 := rfl
theorem am_h36 : am_code 36 = am_c36 := rfl
theorem am_h37 : am_code 37 = am_c37 := rfl
theorem am_h38 : am_code 38 = am_c38 := rfl
theorem am_h39 : am_code 39 = am_c39 := rfl
theorem am_h40 : am_code 40 = am_c40 := rfl
theorem am_h41 : am_code 41 = am_c41 := rfl
theorem am_h42 : am_code 42 = am_c42 := rfl
theorem am_h43 : am_code 43 = am_c43 := rfl
theorem am_h44 : am_code 44 = am_c44 := rfl
theorem am_h45 : am_code 45 = am_c45 := rfl
theorem am_h46 : am_code 46 = am_c46 := rfl
theorem am_h47 : am_code 47 = am_c47 := rfl
theorem am_h48 : am_code 48 = am_c48 := rfl
theorem am_h49 : am_code 49 = am_c49 := rfl
theorem am_h50 : am_code 50 = am_c50 := rfl
theorem am_h51 : am_code 51 = am_c51 := rfl
theorem am_h52 : am_code 52 = am_c52 := rfl
theorem am_h53 : am_code 53 = am_c53 := rfl
theorem am_h54 : am_code 54 = am_c54 := rfl
theorem am_h55 : am_code 55 = am_c55 := rfl
theorem am_h56 : am_code 56 = am_c56 := rfl
theorem am_h57 : am_code 57 = am_c57 := rfl
theorem am_h58 : am_code 58 = am_c58 := rfl
theorem am_h59 : am_code 59 = am_c59 := rfl
theorem am_h60 : am_code 60 = am_c60 := rfl
theorem am_h61 : am_code 61 = am_c61 := rfl
theorem am_h62 : am_code 62 = am_c62 := rfl
theorem am_h63 : am_code 63 = am_c63 := rfl
theorem am_h64 : am_code 64 = am_c64 := rfl
theorem am_h65 : am_code 65 = am_c65 := rfl
theorem am_h66 : am_code 66 = am_c66 := rfl
theorem am_h67 : am_code 67 = am_c67 := rfl
theorem am_h68 : am_code 68 = am_c68 := rfl
theorem am_h69 : am_code 69 = am_c69 := rfl
theorem am_h70 : am_code 70 = am_c70 := rfl
theorem am_h71 : am_code 71 = am_c71 := rfl
theorem am_h72 : am_code 72 = am_c72 := rfl
theorem am_h73 : am_code 73 = am_c73 := rfl
theorem am_h74 : am_code 74 = am_c74 := rfl
theorem am_h75 : am_code 75 = am_c75 := rfl
theorem am_h76 : am_code 76 = am_c76 := rfl
theorem am_h77 : am_code 77 = am_c77 := rfl
theorem am_h78 : am_code 78 = am_c78 := rfl
theorem am_h79 : am_code 79 = am_c79 := rfl
theorem am_h80 : am_code 80 = am_c80 := rfl
theorem am_h81 : am_code 81 = am_c81 := rfl
theorem am_h82 : am_code 82 = am_c82 := rfl
theorem am_h83 : am_code 83 = am_c83 := rfl
theorem am_h84 : am_code 84 = am_c84 := rfl
theorem am_h85 : am_code 85 = am_c85 := rfl
theorem am_h86 : am_code 86 = am_c86 := rfl
theorem am_h87 : am_code 87 = am_c87 := rfl
theorem am_h88 : am_code 88 = am_c88 := rfl
theorem am_h89 : am_code 89 = am_c89 := rfl
theorem am_h90 : am_code 90 = am_c90 := rfl
theorem am_h91 : am_code 91 = am_c91 := rfl
theorem am_h92 : am_code 92 = am_c92 := rfl
theorem am_h93 : am_code 93 = am_c93 := rfl
theorem am_h94 : am_code 94 = am_c94 := rfl
theorem am_h95 : am_code 95 = am_c95 := rfl
theorem am_h96 : am_code 96 = am_c96 := rfl
theorem am_h97 : am_code 97 = am_c97 := rfl
theorem am_h98 : am_code 98 = am_c98 := rfl
theorem am_h99 : am_code 99 = am_c99 := rfl
theorem am_h100 : am_code 100 = am_c100 := rfl
theorem am_h101 : am_code 101 = am_c101 := rfl
theorem am_h102 : am_code 102 = am_c102 := rfl
theorem am_h103 : am_code 103 = am_c103 := rfl
theorem am_h104 : am_code 104 = am_c104 := rfl
theorem am_h105 : am_code 105 = am_c105 := rfl
theorem am_h106 : am_code 106 = am_c106 := rfl
theorem am_h107 : am_code 107 = am_c107 := rfl
theorem am_h108 : am_code 108 = am_c108 := rfl
theorem am_h109 : am_code 109 = am_c109 := rfl
theorem am_h110 : am_code 110 = am_c110 := rfl
theorem am_h111 : am_code 111 = am_c111 := rfl
theorem am_h112 : am_code 112 = am_c112 := rfl
theorem am_h113 : am_code 113 = am_c113 := rfl
theorem am_h114 : am_code 114 = am_c114 := rfl
theorem am_h115 : am_code 115 = am_c115 := rfl
theorem am_h116 : am_code 116 = am_c116 := rfl
theorem am_h117 : am_code 117 = am_c117 := rfl
theorem am_h118 : am_code 118 = am_c118 := rfl
theorem am_h119 : am_code 119 = am_c119 := rfl
theorem am_h120 : am_code 120 = am_c120 := rfl
theorem am_h121 : am_code 121 = am_c121 := rfl
theorem am_h122 : am_code 122 = am_c122 := rfl
theorem am_h123 : am_code 123 = am_c123 := rfl
theorem am_h124 : am_code 124 = am_c124 := rfl
theorem am_h125 : am_code 125 = am_c125 := rfl
theorem am_h126 : am_code 126 = am_c126 := rfl
theorem am_h127 : am_code 127 = am_c127 := rfl
theorem am_h128 : am_code 128 = am_c128 := rfl
theorem am_h129 : am_code 129 = am_c129 := rfl
theorem am_h130 : am_code 130 = am_c130 := rfl
theorem am_h131 : am_code 131 = am_c131 := rfl
theorem am_h132 : am_code 132 = am_c132 := rfl
theorem am_h133 : am_code 133 = am_c133 := rfl
theorem am_h134 : am_code 134 = am_c134 := rfl
theorem am_h135 : am_code 135 = am_c135 := rfl
theorem am_h136 : am_code 136 = am_c136 := rfl
theorem am_h137 : am_code 137 = am_c137 := rfl
theorem am_h138 : am_code 138 = am_c138 := rfl
theorem am_h139 : am_code 139 = am_c139 := rfl
theorem am_h140 : am_code 140 = am_c140 := rfl
theorem am_h141 : am_code 141 = am_c141 := rfl
theorem am_h142 : am_code 142 = am_c142 := rfl
theorem am_h143 : am_code 143 = am_c143 := rfl
theorem am_h144 : am_code 144 = am_c144 := rfl
theorem am_h145 : am_code 145 = am_c145 := rfl
theorem am_h146 : am_code 146 = am_c146 := rfl
theorem am_h147 : am_code 147 = am_c147 := rfl
theorem am_h148 : am_code 148 = am_c148 := rfl
theorem am_h149 : am_code 149 = am_c149 := rfl
theorem am_h150 : am_code 150 = am_c150 := rfl
theorem am_h151 : am_code 151 = am_c151 := rfl
theorem am_h152 : am_code 152 = am_c152 := rfl
theorem am_h153 : am_code 153 = am_c153 := rfl
theorem am_h154 : am_code 154 = am_c154 := rfl
theorem am_h155 : am_code 155 = am_c155 := rfl
theorem am_h156 : am_code 156 = am_c156 := rfl
theorem am_h157 : am_code 157 = am_c157 := rfl
theorem am_h158 : am_code 158 = am_c158 := rfl
theorem am_h159 : am_code 159 = am_c159 := rfl
theorem am_h160 : am_code 160 = am_c160 := rfl
theorem am_h161 : am_code 161 = am_c161 := rfl
theorem am_h162 : am_code 162 = am_c162 := rfl
theorem am_h163 : am_code 163 = am_c163 := rfl
theorem am_h164 : am_code 164 = am_c164 := rfl
theorem am_h165 : am_code 165 = am_c165 := rfl
theorem am_h166 : am_code 166 = am_c166 := rfl
theorem am_h167 : am_code 167 = am_c167 := rfl
theorem am_h168 : am_code 168 = am_c168 := rfl
theorem am_h169 : am_code 169 = am_c169 := rfl
theorem am_h170 : am_code 170 = am_c170 := rfl
theorem am_h171 : am_code 171 = am_c171 := rfl
theorem am_h172 : am_code 172 = am_c172 := rfl
theorem am_h173 : am_code 173 = am_c173 := rfl
theorem am_h174 : am_code 174 = am_c174 := rfl
theorem am_h175 : am_code 175 = am_c175 := rfl
theorem am_h176 : am_code 176 = am_c176 := rfl
theorem am_h177 : am_code 177 = am_c177 := rfl
theorem am_h178 : am_code 178 = am_c178 := rfl
theorem am_h179 : am_code 179 = am_c179 := rfl
theorem am_h180 : am_code 180 = am_c180 := rfl
theorem am_h181 : am_code 181 = am_c181 := rfl
theorem am_h182 : am_code 182 = am_c182 := rfl
theorem am_h183 : am_code 183 = am_c183 := rfl
theorem am_h184 : am_code 184 = am_c184 := rfl
theorem am_h185 : am_code 185 = am_c185 := rfl
theorem am_h186 : am_code 186 = am_c186 := rfl
theorem am_h187 : am_code 187 = am_c187 := rfl
theorem am_h188 : am_code 188 = am_c188 := rfl
theorem am_h189 : am_code 189 = am_c189 := rfl
theorem am_h190 : am_code 190 = am_c190 := rfl
theorem am_h191 : am_code 191 = am_c191 := rfl
theorem am_h192 : am_code 192 = am_c192 := rfl
theorem am_h193 : am_code 193 = am_c193 := rfl
theorem am_h194 : am_code 194 = am_c194 := rfl
theorem am_h195 : am_code 195 = am_c195 := rfl
theorem am_h196 : am_code 196 = am_c196 := rfl
theorem am_h197 : am_code 197 = am_c197 := rfl
theorem am_h198 : am_code 198 = am_c198 := rfl
theorem am_h199 : am_code 199 = am_c199 := rfl
theorem am_h200 : am_code 200 = am_c200 := rfl
theorem am_h201 : am_code 201 = am_c201 := rfl
theorem am_h202 : am_code 202 = am_c202 := rfl
theorem am_h203 : am_code 203 = am_c203 := rfl
theorem am_h204 : am_code 204 = am_c204 := rfl
theorem am_h205 : am_code 205 = am_c205 := rfl
theorem am_h206 : am_code 206 = am_c206 := rfl
theorem am_h207 : am_code 207 = am_c207 := rfl
theorem am_h208 : am_code 208 = am_c208 := rfl
theorem am_h209 : am_code 209 = am_c209 := rfl
theorem am_h210 : am_code 210 = am_c210 := rfl
theorem am_h211 : am_code 211 = am_c211 := rfl
theorem am_h212 : am_code 212 = am_c212 := rfl
theorem am_h213 : am_code 213 = am_c213 := rfl
theorem am_h214 : am_code 214 = am_c214 := rfl
theorem am_h215 : am_code 215 = am_c215 := rfl
theorem am_h216 : am_code 216 = am_c216 := rfl
theorem am_h217 : am_code 217 = am_c217 := rfl
theorem am_h218 : am_code 218 = am_c218 := rfl
theorem am_h219 : am_code 219 = am_c219 := rfl
theorem am_h220 : am_code 220 = am_c220 := rfl
theorem am_h221 : am_code 221 = am_c221 := rfl
theorem am_h222 : am_code 222 = am_c222 := rfl
theorem am_h223 : am_code 223 = am_c223 := rfl
theorem am_h224 : am_code 224 = am_c224 := rfl
theorem am_h225 : am_code 225 = am_c225 := rfl
theorem am_h226 : am_code 226 = am_c226 := rfl
theorem am_h227 : am_code 227 = am_c227 := rfl
theorem am_h228 : am_code 228 = am_c228 := rfl
theorem am_h229 : am_code 229 = am_c229 := rfl
theorem am_h230 : am_code 230 = am_c230 := rfl
theorem am_h231 : am_code 231 = am_c231 := rfl
theorem am_h232 : am_code 232 = am_c232 := rfl
theorem am_h233 : am_code 233 = am_c233 := rfl
theorem am_h234 : am_code 234 = am_c234 := rfl
theorem am_h235 : am_code 235 = am_c235 := rfl
theorem am_h236 : am_code 236 = am_c236 := rfl
theorem am_h237 : am_code 237 = am_c237 := rfl
theorem am_h238 : am_code 238 = am_c238 := rfl
theorem am_h239 : am_code 239 = am_c239 := rfl
theorem am_h240 : am_code 240 = am_c240 := rfl
theorem am_h241 : am_code 241 = am_c241 := rfl
theorem am_h242 : am_code 242 = am_c242 := rfl
theorem am_h243 : am_code 243 = am_c243 := rfl
theorem am_h244 : am_code 244 = am_c244 := rfl
theorem am_h245 : am_code 245 = am_c245 := rfl
theorem am_h246 : am_code 246 = am_c246 := rfl
theorem am_h247 : am_code 247 = am_c247 := rfl
theorem am_h248 : am_code 248 = am_c248 := rfl
theorem am_h249 : am_code 249 = am_c249 := rfl
theorem am_h250 : am_code 250 = am_c250 := rfl
theorem am_h251 : am_code 251 = am_c251 := rfl
theorem am_h252 : am_code 252 = am_c252 := rfl
theorem am_h253 : am_code 253 = am_c253 := rfl
theorem am_h254 : am_code 254 = am_c254 := rfl
theorem am_h255 : am_code 255 = am_c255 := rfl
theorem am_h256 : am_code 256 = am_c256 := rfl
theorem am_h257 : am_code 257 = am_c257 := rfl
theorem am_h258 : am_code 258 = am_c258 := rfl
theorem am_h259 : am_code 259 = am_c259 := rfl
theorem am_h260 : am_code 260 = am_c260 := rfl
theorem am_h261 : am_code 261 = am_c261 := rfl
theorem am_h262 : am_code 262 = am_c262 := rfl
theorem am_h263 : am_code 263 = am_c263 := rfl
end
section
-- 0: LentHandsModel.isIn(III)Z; stops []
set_option maxRecDepth 100000 in
theorem e0 (d : Nat) (p0 : Int) (p1 : Int) (p2 : Int) (M : am_M) : am_run (d + 1) 0 [.inl p0, .inl p1, .inl p2] M = (if (p0 : Int) < p1 then some (0, M) else (if (p2 : Int) < p0 then some (0, M) else some (1, M))) := (am_run_s _ _ _ _).trans (((am_blk am_h0 [] 400 d 0 _ _ M).trans rfl))
-- 1: LentHandsModel.lesser(II)I; stops []
set_option maxRecDepth 100000 in
theorem e1 (d : Nat) (p0 : Int) (p1 : Int) (M : am_M) : am_run (d + 1) 1 [.inl p0, .inl p1] M = (if (p0 : Int) < p1 then some (p0, M) else some (p1, M)) := (am_run_s _ _ _ _).trans (((am_blk am_h1 [] 400 d 0 _ _ M).trans rfl))
-- 2: LentHandsModel.greater(II)I; stops []
set_option maxRecDepth 100000 in
theorem e2 (d : Nat) (p0 : Int) (p1 : Int) (M : am_M) : am_run (d + 1) 2 [.inl p0, .inl p1] M = (if (p1 : Int) < p0 then some (p0, M) else some (p1, M)) := (am_run_s _ _ _ _).trans (((am_blk am_h2 [] 400 d 0 _ _ M).trans rfl))
-- 3: LentHandsModel.ofPerson(II)I; stops []
set_option maxRecDepth 100000 in
theorem e3 (d : Nat) (p1 : Int) (p2 : Int) (M : am_M) : am_run (d + 1) 3 [.inr 186, .inl p1, .inl p2] M = am_chk (0 ≤ ((am_wrap ((am_wrap (4 + (am_wrap (4 * p1)))) + p2)) : Int) ∧ (am_wrap ((am_wrap (4 + (am_wrap (4 * p1)))) + p2)) < 3456) (some ((M 187 (am_wrap ((am_wrap (4 + (am_wrap (4 * p1)))) + p2))), M)) := (am_run_s _ _ _ _).trans (((am_blk am_h3 [] 400 d 0 _ _ M).trans rfl))
-- 4: LentHandsModel.persons(III)V; stops []
set_option maxRecDepth 100000 in
theorem e4 (d : Nat) (p1 : Int) (p2 : Int) (p3 : Int) (M : am_M) : am_run (d + 1) 4 [.inr 186, .inl p1, .inl p2, .inl p3] M = am_chk (0 ≤ ((am_wrap ((am_wrap (4 + (am_wrap (4 * p1)))) + p2)) : Int) ∧ (am_wrap ((am_wrap (4 + (am_wrap (4 * p1)))) + p2)) < 3456) (some (0, (am_upd M 187 (am_wrap ((am_wrap (4 + (am_wrap (4 * p1)))) + p2)) p3))) := (am_run_s _ _ _ _).trans (((am_blk am_h4 [] 400 d 0 _ _ M).trans rfl))
-- 5: LentHandsModel.ofHand(II)I; stops []
set_option maxRecDepth 100000 in
theorem e5 (d : Nat) (p1 : Int) (p2 : Int) (M : am_M) : am_run (d + 1) 5 [.inr 186, .inl p1, .inl p2] M = am_chk (0 ≤ ((am_wrap ((am_wrap (36 + (am_wrap (10 * p1)))) + p2)) : Int) ∧ (am_wrap ((am_wrap (36 + (am_wrap (10 * p1)))) + p2)) < 3456) (some ((M 187 (am_wrap ((am_wrap (36 + (am_wrap (10 * p1)))) + p2))), M)) := (am_run_s _ _ _ _).trans (((am_blk am_h5 [] 400 d 0 _ _ M).trans rfl))
-- 6: LentHandsModel.hands(III)V; stops []
set_option maxRecDepth 100000 in
theorem e6 (d : Nat) (p1 : Int) (p2 : Int) (p3 : Int) (M : am_M) : am_run (d + 1) 6 [.inr 186, .inl p1, .inl p2, .inl p3] M = am_chk (0 ≤ ((am_wrap ((am_wrap (36 + (am_wrap (10 * p1)))) + p2)) : Int) ∧ (am_wrap ((am_wrap (36 + (am_wrap (10 * p1)))) + p2)) < 3456) (some (0, (am_upd M 187 (am_wrap ((am_wrap (36 + (am_wrap (10 * p1)))) + p2)) p3))) := (am_run_s _ _ _ _).trans (((am_blk am_h6 [] 400 d 0 _ _ M).trans rfl))
-- 7: LentHandsModel.ofLoan(II)I; stops []
set_option maxRecDepth 100000 in
theorem e7 (d : Nat) (p1 : Int) (p2 : Int) (M : am_M) : am_run (d + 1) 7 [.inr 186, .inl p1, .inl p2] M = am_chk (0 ≤ ((am_wrap ((am_wrap (196 + (am_wrap (5 * p1)))) + p2)) : Int) ∧ (am_wrap ((am_wrap (196 + (am_wrap (5 * p1)))) + p2)) < 3456) (some ((M 187 (am_wrap ((am_wrap (196 + (am_wrap (5 * p1)))) + p2))), M)) := (am_run_s _ _ _ _).trans (((am_blk am_h7 [] 400 d 0 _ _ M).trans rfl))
-- 8: LentHandsModel.isPerson(I)Z; stops []
set_option maxRecDepth 100000 in
theorem e8 (d : Nat) (p1 : Int) (M : am_M) : am_run (d + 1) 8 [.inr 186, .inl p1] M = am_chk (0 ≤ (276 : Int) ∧ 276 < 3456) (am_bnd (am_run d 0 [.inl p1, .inl 0, .inl (am_wrap ((M 187 276) - 1))] M) (fun r1 M1 => am_chk ((r1 : Int) = 0 ∨ r1 = 1) (some (r1, M1)))) := (am_run_s _ _ _ _).trans (((am_blk am_h8 [] 400 d 0 _ _ M).trans rfl))
-- 9: LentHandsModel.isHand(I)Z; stops []
set_option maxRecDepth 100000 in
theorem e9 (d : Nat) (p1 : Int) (M : am_M) : am_run (d + 1) 9 [.inr 186, .inl p1] M = am_chk (0 ≤ (276 : Int) ∧ 276 < 3456) (am_bnd (am_run d 0 [.inl p1, .inl 0, .inl (am_wrap ((am_wrap (2 * (M 187 276))) - 1))] M) (fun r1 M1 => am_chk ((r1 : Int) = 0 ∨ r1 = 1) (some (r1, M1)))) := (am_run_s _ _ _ _).trans (((am_blk am_h9 [] 400 d 0 _ _ M).trans rfl))
-- 10: LentHandsModel.isKind(I)Z; stops []
set_option maxRecDepth 100000 in
theorem e10 (d : Nat) (p0 : Int) (M : am_M) : am_run (d + 1) 10 [.inl p0] M = am_bnd (am_run d 0 [.inl p0, .inl 0, .inl 3] M) (fun r1 M1 => am_chk ((r1 : Int) = 0 ∨ r1 = 1) (some (r1, M1))) := (am_run_s _ _ _ _).trans (((am_blk am_h10 [] 400 d 0 _ _ M).trans rfl))
-- 11: LentHandsModel.isSide(I)Z; stops []
set_option maxRecDepth 100000 in
theorem e11 (d : Nat) (p0 : Int) (M : am_M) : am_run (d + 1) 11 [.inl p0] M = am_bnd (am_run d 0 [.inl p0, .inl 0, .inl 1] M) (fun r1 M1 => am_chk ((r1 : Int) = 0 ∨ r1 = 1) (some (r1, M1))) := (am_run_s _ _ _ _).trans (((am_blk am_h11 [] 400 d 0 _ _ M).trans rfl))
-- 12: LentHandsModel.onWrist(II)I; stops [2]
set_option maxRecDepth 100000 in
theorem e12 (d : Nat) (p1 : Int) (p2 : Int) (M : am_M) : am_run (d + 1) 12 [.inr 186, .inl p1, .inl p2] M = am_L d 12 2 [some (.inr 186), some (.inl p1), some (.inl p2), some (.inl p2)] [] M := (am_run_s _ _ _ _).trans (((am_blk am_h12 [2] 400 d 0 _ _ M).trans rfl))
set_option maxRecDepth 100000 in
theorem e12_2 (d : Nat) (x1 : Int) (x2 : Int) (x3 : Int) (M : am_M) : am_L d 12 2 [some (.inr 186), some (.inl x1), some (.inl x2), some (.inl x3)] [] M = am_chk (0 ≤ (276 : Int) ∧ 276 < 3456) ((if (x3 : Int) < (am_wrap (2 * (M 187 276))) then am_bnd (am_run d 5 [.inr 186, .inl x3, .inl 8] M) (fun r1 M1 => (if (r1 : Int) = x1 then some (x3, M1) else am_L d 12 2 [some (.inr 186), some (.inl x1), some (.inl x2), some (.inl (am_wrap (x3 + 2)))] [] M1)) else some ((-1), M))) := (am_blk am_h12 [2] 400 d 2 _ _ M).trans rfl
-- 13: LentHandsModel.bornWith(I)I; stops []
set_option maxRecDepth 100000 in
theorem e13 (d : Nat) (p0 : Int) (M : am_M) : am_run (d + 1) 13 [.inl p0] M = am_chk (¬ (2 : Int) = 0) (some ((am_idiv p0 2), M)) := (am_run_s _ _ _ _).trans (((am_blk am_h13 [] 400 d 0 _ _ M).trans rfl))
-- 14: LentHandsModel.forgets()V; stops []
set_option maxRecDepth 100000 in
theorem e14 (d : Nat) (M : am_M) : am_run (d + 1) 14 [.inr 186] M = some (0, (am_upd M 186 4 0)) := (am_run_s _ _ _ _).trans (((am_blk am_h14 [] 400 d 0 _ _ M).trans rfl))
-- 15: LentHandsModel.state(I)I; stops []
set_option maxRecDepth 100000 in
theorem e15 (d : Nat) (p1 : Int) (M : am_M) : am_run (d + 1) 15 [.inr 186, .inl p1] M = am_chk (0 ≤ (3 : Int) ∧ 3 < 3456) (am_chk (0 ≤ (3 : Int) ∧ 3 < 3456) (am_bnd (am_run d 14 [.inr 186] (am_upd M 187 3 p1)) (fun _ M1 => some ((M 187 3), M1)))) := (am_run_s _ _ _ _).trans (((am_blk am_h15 [] 400 d 0 _ _ M).trans rfl))
-- 16: LentHandsModel.draw(I)I; stops []
set_option maxRecDepth 100000 in
theorem e16 (d : Nat) (p1 : Int) (M : am_M) : am_run (d + 1) 16 [.inr 186, .inl p1] M = am_chk (0 ≤ (3 : Int) ∧ 3 < 3456) (am_chk (0 ≤ (3 : Int) ∧ 3 < 3456) (am_chk (0 ≤ (3 : Int) ∧ 3 < 3456) (am_chk (¬ (p1 : Int) = 0) (some ((am_irem (am_iushr ((am_upd M 187 3 (am_wrap ((am_wrap (1664525 * (M 187 3))) + 1013904223))) 187 3) 8) p1), (am_upd M 187 3 (am_wrap ((am_wrap (1664525 * (M 187 3))) + 1013904223)))))))) := (am_run_s _ _ _ _).trans (((am_blk am_h16 [] 400 d 0 _ _ M).trans rfl))
-- 17: LentHandsModel.person(II)I; stops [49, 58]
set_option maxRecDepth 100000 in
theorem e17 (d : Nat) (p1 : Int) (p2 : Int) (M : am_M) : am_run (d + 1) 17 [.inr 186, .inl p1, .inl p2] M = am_bnd (am_run d 0 [.inl p1, .inl 0, .inl 9999] M) (fun r1 M1 => (if (r1 : Int) = 0 then some ((-1), M1) else am_bnd (am_run d 0 [.inl p2, .inl 0, .inl 1] M1) (fun r2 M2 => (if (r2 : Int) = 0 then some ((-1), M2) else am_chk (0 ≤ (276 : Int) ∧ 276 < 3456) ((if ((M2 187 276) : Int) = 8 then some ((-1), M2) else am_chk (0 ≤ (276 : Int) ∧ 276 < 3456) (am_bnd (am_run d 4 [.inr 186, .inl (M2 187 276), .inl 0, .inl p1] M2) (fun _ M3 => am_bnd (am_run d 4 [.inr 186, .inl (M2 187 276), .inl 1, .inl (-1)] M3) (fun _ M4 => am_bnd (am_run d 4 [.inr 186, .inl (M2 187 276), .inl 2, .inl 0] M4) (fun _ M5 => am_chk (0 ≤ ((am_wrap (277 + (M2 187 276))) : Int) ∧ (am_wrap (277 + (M2 187 276))) < 3456) (am_L d 17 49 [some (.inr 186), some (.inl p1), some (.inl p2), some (.inl (M2 187 276)), some (.inl (am_wrap (2 * (M2 187 276)))), none] [] (am_upd M5 187 (am_wrap (277 + (M2 187 276))) p2)))))))))))) := (am_run_s _ _ _ _).trans (((am_blk am_h17 [49, 58] 400 d 0 _ _ M).trans rfl))
set_option maxRecDepth 100000 in
theorem e17_49 (d : Nat) (x1 : Int) (x2 : Int) (x3 : Int) (x4 : Int) (o5 : Option am_V) (M : am_M) : am_L d 17 49 [some (.inr 186), some (.inl x1), some (.inl x2), some (.inl x3), some (.inl x4), o5] [] M = (if (x4 : Int) < (am_wrap ((am_wrap (2 * x3)) + 2)) then am_L d 17 58 [some (.inr 186), some (.inl x1), some (.inl x2), some (.inl x3), some (.inl x4), some (.inl 0)] [] M else am_chk (0 ≤ (276 : Int) ∧ 276 < 3456) (am_chk (0 ≤ (276 : Int) ∧ 276 < 3456) (am_bnd (am_run d 14 [.inr 186] (am_upd M 187 276 (am_wrap ((M 187 276) + 1)))) (fun _ M1 => some (x3, M1))))) := (am_blk am_h17 [49, 58] 400 d 49 _ _ M).trans rfl
set_option maxRecDepth 100000 in
theorem e17_58 (d : Nat) (x1 : Int) (x2 : Int) (x3 : Int) (x4 : Int) (x5 : Int) (M : am_M) : am_L d 17 58 [some (.inr 186), some (.inl x1), some (.inl x2), some (.inl x3), some (.inl x4), some (.inl x5)] [] M = (if (x5 : Int) < 10 then am_bnd (am_run d 6 [.inr 186, .inl x4, .inl x5, .inl 0] M) (fun _ M2 => am_L d 17 58 [some (.inr 186), some (.inl x1), some (.inl x2), some (.inl x3), some (.inl x4), some (.inl (am_wrap (x5 + 1)))] [] M2) else am_bnd (am_run d 6 [.inr 186, .inl x4, .inl 8, .inl x3] M) (fun _ M1 => am_L d 17 49 [some (.inr 186), some (.inl x1), some (.inl x2), some (.inl x3), some (.inl (am_wrap (x4 + 1))), some (.inl x5)] [] M1)) := (am_blk am_h17 [49, 58] 400 d 58 _ _ M).trans rfl
-- 18: LentHandsModel.set(III)Z; stops [17, 37, 59]
set_option maxRecDepth 100000 in
theorem e18 (d : Nat) (p1 : Int) (p2 : Int) (p3 : Int) (M : am_M) : am_run (d + 1) 18 [.inr 186, .inl p1, .inl p2, .inl p3] M = (if (p1 : Int) = 0 then am_bnd (am_run d 8 [.inr 186, .inl p2] M) (fun r1 M1 => (if (r1 : Int) = 0 then am_L d 18 17 [some (.inr 186), some (.inl p1), some (.inl p2), some (.inl p3)] [] M1 else am_bnd (am_run d 0 [.inl p3, .inl 0, .inl 9999] M1) (fun r2 M2 => (if (r2 : Int) = 0 then am_L d 18 17 [some (.inr 186), some (.inl p1), some (.inl p2), some (.inl p3)] [] M2 else am_bnd (am_run d 4 [.inr 186, .inl p2, .inl 0, .inl p3] M2) (fun _ M3 => am_bnd (am_run d 14 [.inr 186] M3) (fun _ M4 => some (1, M4))))))) else am_L d 18 17 [some (.inr 186), some (.inl p1), some (.inl p2), some (.inl p3)] [] M) := (am_run_s _ _ _ _).trans (((am_blk am_h18 [17, 37, 59] 400 d 0 _ _ M).trans rfl))
set_option maxRecDepth 100000 in
theorem e18_17 (d : Nat) (x1 : Int) (x2 : Int) (x3 : Int) (M : am_M) : am_L d 18 17 [some (.inr 186), some (.inl x1), some (.inl x2), some (.inl x3)] [] M = (if (x1 : Int) = 1 then am_bnd (am_run d 8 [.inr 186, .inl x2] M) (fun r1 M1 => (if (r1 : Int) = 0 then am_L d 18 37 [some (.inr 186), some (.inl x1), some (.inl x2), some (.inl x3)] [] M1 else am_bnd (am_run d 0 [.inl x3, .inl 0, .inl 1] M1) (fun r2 M2 => (if (r2 : Int) = 0 then am_L d 18 37 [some (.inr 186), some (.inl x1), some (.inl x2), some (.inl x3)] [] M2 else am_chk (0 ≤ ((am_wrap (277 + x2)) : Int) ∧ (am_wrap (277 + x2)) < 3456) (am_bnd (am_run d 14 [.inr 186] (am_upd M2 187 (am_wrap (277 + x2)) x3)) (fun _ M3 => some (1, M3))))))) else am_L d 18 37 [some (.inr 186), some (.inl x1), some (.inl x2), some (.inl x3)] [] M) := (am_blk am_h18 [17, 37, 59] 400 d 17 _ _ M).trans rfl
set_option maxRecDepth 100000 in
theorem e18_37 (d : Nat) (x1 : Int) (x2 : Int) (x3 : Int) (M : am_M) : am_L d 18 37 [some (.inr 186), some (.inl x1), some (.inl x2), some (.inl x3)] [] M = am_bnd (am_run d 0 [.inl x1, .inl 2, .inl 6] M) (fun r1 M1 => (if (r1 : Int) = 0 then am_L d 18 59 [some (.inr 186), some (.inl x1), some (.inl x2), some (.inl x3)] [] M1 else am_bnd (am_run d 9 [.inr 186, .inl x2] M1) (fun r2 M2 => (if (r2 : Int) = 0 then am_L d 18 59 [some (.inr 186), some (.inl x1), some (.inl x2), some (.inl x3)] [] M2 else am_bnd (am_run d 0 [.inl x3, .inl 0, .inl 99] M2) (fun r3 M3 => (if (r3 : Int) = 0 then am_L d 18 59 [some (.inr 186), some (.inl x1), some (.inl x2), some (.inl x3)] [] M3 else am_bnd (am_run d 6 [.inr 186, .inl x2, .inl (am_wrap (x1 - 2)), .inl x3] M3) (fun _ M4 => am_bnd (am_run d 14 [.inr 186] M4) (fun _ M5 => some (1, M5))))))))) := (am_blk am_h18 [17, 37, 59] 400 d 37 _ _ M).trans rfl
set_option maxRecDepth 100000 in
theorem e18_59 (d : Nat) (x1 : Int) (x2 : Int) (x3 : Int) (M : am_M) : am_L d 18 59 [some (.inr 186), some (.inl x1), some (.inl x2), some (.inl x3)] [] M = (if (x1 : Int) = 7 then am_bnd (am_run d 9 [.inr 186, .inl x2] M) (fun r1 M1 => (if (r1 : Int) = 0 then some (0, M1) else am_bnd (am_run d 0 [.inl x3, .inl 0, .inl 9] M1) (fun r2 M2 => (if (r2 : Int) = 0 then some (0, M2) else am_bnd (am_run d 6 [.inr 186, .inl x2, .inl 5, .inl x3] M2) (fun _ M3 => am_bnd (am_run d 14 [.inr 186] M3) (fun _ M4 => some (1, M4))))))) else some (0, M)) := (am_blk am_h18 [17, 37, 59] 400 d 59 _ _ M).trans rfl
-- 19: LentHandsModel.feed(IIIII)I; stops [10, 34]
set_option maxRecDepth 100000 in
theorem e19 (d : Nat) (p1 : Int) (p2 : Int) (p3 : Int) (p4 : Int) (p5 : Int) (M : am_M) : am_run (d + 1) 19 [.inr 186, .inl p1, .inl p2, .inl p3, .inl p4, .inl p5] M = (if (400 : Int) < (am_wrap ((M 186 16) + 20)) then some ((-1), M) else am_L d 19 10 [some (.inr 186), some (.inl p1), some (.inl p2), some (.inl p3), some (.inl p4), some (.inl p5), some (.inl 0), none] [] M) := (am_run_s _ _ _ _).trans (((am_blk am_h19 [10, 34] 400 d 0 _ _ M).trans rfl))
set_option maxRecDepth 100000 in
theorem e19_10 (d : Nat) (x1 : Int) (x2 : Int) (x3 : Int) (x4 : Int) (x5 : Int) (x6 : Int) (o7 : Option am_V) (M : am_M) : am_L d 19 10 [some (.inr 186), some (.inl x1), some (.inl x2), some (.inl x3), some (.inl x4), some (.inl x5), some (.inl x6), o7] [] M = (if (x6 : Int) < 20 then (if (x6 : Int) < 4 then am_L d 19 34 [some (.inr 186), some (.inl x1), some (.inl x2), some (.inl x3), some (.inl x4), some (.inl x5), some (.inl x6), o7] [.inl x1] M else (if (x6 : Int) < 8 then am_L d 19 34 [some (.inr 186), some (.inl x1), some (.inl x2), some (.inl x3), some (.inl x4), some (.inl x5), some (.inl x6), o7] [.inl x2] M else (if (x6 : Int) < 12 then am_L d 19 34 [some (.inr 186), some (.inl x1), some (.inl x2), some (.inl x3), some (.inl x4), some (.inl x5), some (.inl x6), o7] [.inl x3] M else (if (x6 : Int) < 16 then am_L d 19 34 [some (.inr 186), some (.inl x1), some (.inl x2), some (.inl x3), some (.inl x4), some (.inl x5), some (.inl x6), o7] [.inl x4] M else am_L d 19 34 [some (.inr 186), some (.inl x1), some (.inl x2), some (.inl x3), some (.inl x4), some (.inl x5), some (.inl x6), o7] [.inl x5] M)))) else some ((M 186 16), M)) := (am_blk am_h19 [10, 34] 400 d 10 _ _ M).trans rfl
set_option maxRecDepth 100000 in
theorem e19_34 (d : Nat) (x1 : Int) (x2 : Int) (x3 : Int) (x4 : Int) (x5 : Int) (x6 : Int) (o7 : Option am_V) (xs0 : Int) (M : am_M) : am_L d 19 34 [some (.inr 186), some (.inl x1), some (.inl x2), some (.inl x3), some (.inl x4), some (.inl x5), some (.inl x6), o7] [.inl xs0] M = am_chk (¬ (4 : Int) = 0) (am_chk (0 ≤ ((M 186 16) : Int) ∧ (M 186 16) < 400) (am_L d 19 10 [some (.inr 186), some (.inl x1), some (.inl x2), some (.inl x3), some (.inl x4), some (.inl x5), some (.inl (am_wrap (x6 + 1))), some (.inl xs0)] [] (am_upd (am_upd M 194 (M 186 16) (am_iand (am_ishr xs0 (am_wrap (24 - (am_wrap (8 * (am_irem x6 4)))))) 255)) 186 16 (am_wrap (((am_upd M 194 (M 186 16) (am_iand (am_ishr xs0 (am_wrap (24 - (am_wrap (8 * (am_irem x6 4)))))) 255)) 186 16) + 1))))) := (am_blk am_h19 [10, 34] 400 d 34 _ _ M).trans rfl
-- 20: LentHandsModel.end(I)Z; stops []
set_option maxRecDepth 100000 in
theorem e20 (d : Nat) (p1 : Int) (M : am_M) : am_run (d + 1) 20 [.inr 186, .inl p1] M = am_bnd (am_run d 0 [.inl p1, .inl 0, .inl (M 186 16)] M) (fun r1 M1 => (if (r1 : Int) = 0 then some (0, M1) else some (1, (am_upd M1 186 16 p1)))) := (am_run_s _ _ _ _).trans (((am_blk am_h20 [] 400 d 0 _ _ M).trans rfl))
-- 21: LentHandsModel.see(I)I; stops []
set_option maxRecDepth 100000 in
theorem e21 (d : Nat) (p1 : Int) (M : am_M) : am_run (d + 1) 21 [.inr 186, .inl p1] M = (if (p1 : Int) < (M 186 16) then am_chk (0 ≤ (p1 : Int) ∧ p1 < 400) (some ((M 194 p1), M)) else some ((-1), M)) := (am_run_s _ _ _ _).trans (((am_blk am_h21 [] 400 d 0 _ _ M).trans rfl))
-- 22: LentHandsModel.isLetter(I)Z; stops []
set_option maxRecDepth 100000 in
theorem e22 (d : Nat) (p0 : Int) (M : am_M) : am_run (d + 1) 22 [.inl p0] M = am_bnd (am_run d 0 [.inl p0, .inl 97, .inl 122] M) (fun r1 M1 => (if (r1 : Int) = 0 then am_bnd (am_run d 0 [.inl p0, .inl 65, .inl 90] M1) (fun r2 M2 => (if (r2 : Int) = 0 then some (0, M2) else some (1, M2))) else some (1, M1))) := (am_run_s _ _ _ _).trans (((am_blk am_h22 [] 400 d 0 _ _ M).trans rfl))
-- 23: LentHandsModel.isDigit(I)Z; stops []
set_option maxRecDepth 100000 in
theorem e23 (d : Nat) (p0 : Int) (M : am_M) : am_run (d + 1) 23 [.inl p0] M = am_bnd (am_run d 0 [.inl p0, .inl 48, .inl 57] M) (fun r1 M1 => am_chk ((r1 : Int) = 0 ∨ r1 = 1) (some (r1, M1))) := (am_run_s _ _ _ _).trans (((am_blk am_h23 [] 400 d 0 _ _ M).trans rfl))
-- 24: LentHandsModel.is(Ljava/lang/String;)Z; stops [14]
set_option maxRecDepth 100000 in
theorem e24 (d : Nat) (a1 : Nat) (M : am_M) : am_run (d + 1) 24 [.inr 186, .inr a1] M = am_bnd (am_run d 256 [.inr a1] M) (fun r1 M1 => (if ((am_wrap ((M 186 17) - (M 186 19))) : Int) = r1 then am_L d 24 14 [some (.inr 186), some (.inr a1), some (.inl 1), some (.inl 0)] [] M1 else am_L d 24 14 [some (.inr 186), some (.inr a1), some (.inl 0), some (.inl 0)] [] M1)) := (am_run_s _ _ _ _).trans (((am_blk am_h24 [14] 400 d 0 _ _ M).trans rfl))
set_option maxRecDepth 100000 in
theorem e24_14 (d : Nat) (a1 : Nat) (x2 : Int) (x3 : Int) (M : am_M) : am_L d 24 14 [some (.inr 186), some (.inr a1), some (.inl x2), some (.inl x3)] [] M = am_bnd (am_run d 256 [.inr a1] M) (fun r1 M1 => (if (x3 : Int) < r1 then (if (x2 : Int) = 0 then am_chk ((x2 : Int) = 0 ∨ x2 = 1) (some (x2, M1)) else am_chk (0 ≤ ((am_wrap ((M1 186 19) + x3)) : Int) ∧ (am_wrap ((M1 186 19) + x3)) < 400) (am_bnd (am_run d 257 [.inr a1, .inl x3] M1) (fun r2 M2 => (if ((M1 194 (am_wrap ((M1 186 19) + x3))) : Int) = r2 then am_L d 24 14 [some (.inr 186), some (.inr a1), some (.inl 1), some (.inl (am_wrap (x3 + 1)))] [] M2 else am_L d 24 14 [some (.inr 186), some (.inr a1), some (.inl 0), some (.inl (am_wrap (x3 + 1)))] [] M2)))) else am_chk ((x2 : Int) = 0 ∨ x2 = 1) (some (x2, M1)))) := (am_blk am_h24 [14] 400 d 14 _ _ M).trans rfl
-- 25: LentHandsModel.handName()I; stops []
set_option maxRecDepth 100000 in
theorem e25 (d : Nat) (M : am_M) : am_run (d + 1) 25 [.inr 186] M = am_bnd (am_run d 24 [.inr 186, .inr 321] M) (fun r1 M1 => (if (r1 : Int) = 0 then am_bnd (am_run d 24 [.inr 186, .inr 322] M1) (fun r2 M2 => (if (r2 : Int) = 0 then am_bnd (am_run d 24 [.inr 186, .inr 323] M2) (fun r3 M3 => (if (r3 : Int) = 0 then am_bnd (am_run d 24 [.inr 186, .inr 324] M3) (fun r4 M4 => (if (r4 : Int) = 0 then some (1, M4) else some (49, M4))) else some (48, M3))) else some (44, M2))) else some (41, M1))) := (am_run_s _ _ _ _).trans (((am_blk am_h25 [] 400 d 0 _ _ M).trans rfl))
-- 26: LentHandsModel.loanWord()I; stops []
set_option maxRecDepth 100000 in
theorem e26 (d : Nat) (M : am_M) : am_run (d + 1) 26 [.inr 186] M = am_bnd (am_run d 24 [.inr 186, .inr 314] M) (fun r1 M1 => (if (r1 : Int) = 0 then am_bnd (am_run d 24 [.inr 186, .inr 315] M1) (fun r2 M2 => (if (r2 : Int) = 0 then am_bnd (am_run d 24 [.inr 186, .inr 316] M2) (fun r3 M3 => (if (r3 : Int) = 0 then am_bnd (am_run d 24 [.inr 186, .inr 317] M3) (fun r4 M4 => (if (r4 : Int) = 0 then am_bnd (am_run d 24 [.inr 186, .inr 318] M4) (fun r5 M5 => (if (r5 : Int) = 0 then am_bnd (am_run d 24 [.inr 186, .inr 305] M5) (fun r6 M6 => (if (r6 : Int) = 0 then am_bnd (am_run d 24 [.inr 186, .inr 319] M6) (fun r7 M7 => (if (r7 : Int) = 0 then am_bnd (am_run d 24 [.inr 186, .inr 320] M7) (fun r8 M8 => (if (r8 : Int) = 0 then am_bnd (am_run d 25 [.inr 186] M8) (fun r9 M9 => some (r9, M9)) else some (50, M8))) else some (47, M7))) else some (46, M6))) else some (45, M5))) else some (43, M4))) else some (42, M3))) else some (21, M2))) else some (20, M1))) := (am_run_s _ _ _ _).trans (((am_blk am_h26 [] 400 d 0 _ _ M).trans rfl))
-- 27: LentHandsModel.handWord()I; stops []
set_option maxRecDepth 100000 in
theorem e27 (d : Nat) (M : am_M) : am_run (d + 1) 27 [.inr 186] M = am_bnd (am_run d 24 [.inr 186, .inr 325] M) (fun r1 M1 => (if (r1 : Int) = 0 then am_bnd (am_run d 24 [.inr 186, .inr 326] M1) (fun r2 M2 => (if (r2 : Int) = 0 then am_bnd (am_run d 24 [.inr 186, .inr 327] M2) (fun r3 M3 => (if (r3 : Int) = 0 then am_bnd (am_run d 24 [.inr 186, .inr 328] M3) (fun r4 M4 => (if (r4 : Int) = 0 then am_bnd (am_run d 24 [.inr 186, .inr 329] M4) (fun r5 M5 => (if (r5 : Int) = 0 then am_bnd (am_run d 24 [.inr 186, .inr 317] M5) (fun r6 M6 => (if (r6 : Int) = 0 then am_bnd (am_run d 24 [.inr 186, .inr 330] M6) (fun r7 M7 => (if (r7 : Int) = 0 then am_bnd (am_run d 24 [.inr 186, .inr 331] M7) (fun r8 M8 => (if (r8 : Int) = 0 then am_bnd (am_run d 24 [.inr 186, .inr 332] M8) (fun r9 M9 => (if (r9 : Int) = 0 then am_bnd (am_run d 25 [.inr 186] M9) (fun r10 M10 => some (r10, M10)) else some (54, M9))) else some (53, M8))) else some (52, M7))) else some (43, M6))) else some (51, M5))) else some (29, M4))) else some (28, M3))) else some (27, M2))) else some (26, M1))) := (am_run_s _ _ _ _).trans (((am_blk am_h27 [] 400 d 0 _ _ M).trans rfl))
-- 28: LentHandsModel.guiltWord()I; stops []
set_option maxRecDepth 100000 in
theorem e28 (d : Nat) (M : am_M) : am_run (d + 1) 28 [.inr 186] M = am_bnd (am_run d 24 [.inr 186, .inr 333] M) (fun r1 M1 => (if (r1 : Int) = 0 then am_bnd (am_run d 24 [.inr 186, .inr 334] M1) (fun r2 M2 => (if (r2 : Int) = 0 then am_bnd (am_run d 24 [.inr 186, .inr 309] M2) (fun r3 M3 => (if (r3 : Int) = 0 then am_bnd (am_run d 24 [.inr 186, .inr 335] M3) (fun r4 M4 => (if (r4 : Int) = 0 then am_bnd (am_run d 24 [.inr 186, .inr 316] M4) (fun r5 M5 => (if (r5 : Int) = 0 then am_bnd (am_run d 24 [.inr 186, .inr 330] M5) (fun r6 M6 => (if (r6 : Int) = 0 then am_bnd (am_run d 24 [.inr 186, .inr 305] M6) (fun r7 M7 => (if (r7 : Int) = 0 then am_bnd (am_run d 25 [.inr 186] M7) (fun r8 M8 => some (r8, M8)) else some (46, M7))) else some (52, M6))) else some (42, M5))) else some (25, M4))) else some (24, M3))) else some (23, M2))) else some (22, M1))) := (am_run_s _ _ _ _).trans (((am_blk am_h28 [] 400 d 0 _ _ M).trans rfl))
-- 29: LentHandsModel.bookingWord()I; stops []
set_option maxRecDepth 100000 in
theorem e29 (d : Nat) (M : am_M) : am_run (d + 1) 29 [.inr 186] M = am_bnd (am_run d 24 [.inr 186, .inr 301] M) (fun r1 M1 => (if (r1 : Int) = 0 then am_bnd (am_run d 24 [.inr 186, .inr 302] M1) (fun r2 M2 => (if (r2 : Int) = 0 then am_bnd (am_run d 24 [.inr 186, .inr 303] M2) (fun r3 M3 => (if (r3 : Int) = 0 then am_bnd (am_run d 24 [.inr 186, .inr 304] M3) (fun r4 M4 => (if (r4 : Int) = 0 then am_bnd (am_run d 24 [.inr 186, .inr 305] M4) (fun r5 M5 => (if (r5 : Int) = 0 then some (1, M5) else some (11, M5))) else some (10, M4))) else some (9, M3))) else some (8, M2))) else some (7, M1))) := (am_run_s _ _ _ _).trans (((am_blk am_h29 [] 400 d 0 _ _ M).trans rfl))
-- 30: LentHandsModel.workWord()I; stops []
set_option maxRecDepth 100000 in
theorem e30 (d : Nat) (M : am_M) : am_run (d + 1) 30 [.inr 186] M = am_bnd (am_run d 24 [.inr 186, .inr 306] M) (fun r1 M1 => (if (r1 : Int) = 0 then am_bnd (am_run d 24 [.inr 186, .inr 307] M1) (fun r2 M2 => (if (r2 : Int) = 0 then am_bnd (am_run d 24 [.inr 186, .inr 308] M2) (fun r3 M3 => (if (r3 : Int) = 0 then am_bnd (am_run d 24 [.inr 186, .inr 309] M3) (fun r4 M4 => (if (r4 : Int) = 0 then some (1, M4) else some (24, M4))) else some (14, M3))) else some (13, M2))) else some (12, M1))) := (am_run_s _ _ _ _).trans (((am_blk am_h30 [] 400 d 0 _ _ M).trans rfl))
-- 31: LentHandsModel.word()I; stops []
set_option maxRecDepth 100000 in
theorem e31 (d : Nat) (M : am_M) : am_run (d + 1) 31 [.inr 186] M = (if ((M 186 12) : Int) = 3 then am_bnd (am_run d 29 [.inr 186] M) (fun r9 M9 => some (r9, M9)) else (if ((M 186 12) : Int) = 4 then am_bnd (am_run d 30 [.inr 186] M) (fun r8 M8 => some (r8, M8)) else am_bnd (am_run d 24 [.inr 186, .inr 310] M) (fun r1 M1 => (if (r1 : Int) = 0 then am_bnd (am_run d 24 [.inr 186, .inr 311] M1) (fun r2 M2 => (if (r2 : Int) = 0 then am_bnd (am_run d 24 [.inr 186, .inr 312] M2) (fun r3 M3 => (if (r3 : Int) = 0 then am_bnd (am_run d 24 [.inr 186, .inr 313] M3) (fun r4 M4 => (if (r4 : Int) = 0 then (if ((M4 186 12) : Int) = 0 then am_bnd (am_run d 26 [.inr 186] M4) (fun r7 M7 => some (r7, M7)) else (if ((M4 186 12) : Int) = 1 then am_bnd (am_run d 27 [.inr 186] M4) (fun r6 M6 => some (r6, M6)) else am_bnd (am_run d 28 [.inr 186] M4) (fun r5 M5 => some (r5, M5)))) else some (6, M4))) else some (5, M3))) else some (4, M2))) else some (3, M1))))) := (am_run_s _ _ _ _).trans (((am_blk am_h31 [] 400 d 0 _ _ M).trans rfl))
-- 32: LentHandsModel.next0()V; stops [0, 38, 62, 144]
set_option maxRecDepth 100000 in
theorem e32 (d : Nat) (M : am_M) : am_run (d + 1) 32 [.inr 186] M = am_bnd (am_run d 21 [.inr 186, .inl (M 186 17)] M) (fun r1 M1 => (if (r1 : Int) = 32 then am_L d 32 0 [some (.inr 186), none, none] [] (am_upd M1 186 17 (am_wrap ((M1 186 17) + 1))) else am_bnd (am_run d 21 [.inr 186, .inl (M1 186 17)] M1) (fun r2 M2 => (if (r2 : Int) = 10 then am_L d 32 0 [some (.inr 186), none, none] [] (am_upd M2 186 17 (am_wrap ((M2 186 17) + 1))) else am_bnd (am_run d 21 [.inr 186, .inl ((am_upd M2 186 19 (M2 186 17)) 186 17)] (am_upd M2 186 19 (M2 186 17))) (fun r3 M3 => (if (r3 : Int) = (-1) then some (0, (am_upd M3 186 18 0)) else am_bnd (am_run d 22 [.inl r3] M3) (fun r4 M4 => (if (r4 : Int) = 0 then am_bnd (am_run d 23 [.inl r3] M4) (fun r5 M5 => (if (r5 : Int) = 0 then (if (r3 : Int) = 59 then am_L d 32 144 [some (.inr 186), some (.inl r3), none] [] (am_upd M5 186 17 (am_wrap ((M5 186 17) + 1))) else (if (r3 : Int) = 43 then am_L d 32 144 [some (.inr 186), some (.inl r3), none] [] (am_upd M5 186 17 (am_wrap ((M5 186 17) + 1))) else (if (r3 : Int) = 45 then am_L d 32 144 [some (.inr 186), some (.inl r3), none] [] (am_upd M5 186 17 (am_wrap ((M5 186 17) + 1))) else (if (r3 : Int) = 42 then am_L d 32 144 [some (.inr 186), some (.inl r3), none] [] (am_upd M5 186 17 (am_wrap ((M5 186 17) + 1))) else (if (r3 : Int) = 47 then am_L d 32 144 [some (.inr 186), some (.inl r3), none] [] (am_upd M5 186 17 (am_wrap ((M5 186 17) + 1))) else (if (r3 : Int) = 40 then am_L d 32 144 [some (.inr 186), some (.inl r3), none] [] (am_upd M5 186 17 (am_wrap ((M5 186 17) + 1))) else (if (r3 : Int) = 41 then am_L d 32 144 [some (.inr 186), some (.inl r3), none] [] (am_upd M5 186 17 (am_wrap ((M5 186 17) + 1))) else (if (r3 : Int) = 60 then am_L d 32 144 [some (.inr 186), some (.inl r3), none] [] (am_upd M5 186 17 (am_wrap ((M5 186 17) + 1))) else (if (r3 : Int) = 61 then am_L d 32 144 [some (.inr 186), some (.inl r3), none] [] (am_upd M5 186 17 (am_wrap ((M5 186 17) + 1))) else (if (r3 : Int) = 62 then am_L d 32 144 [some (.inr 186), some (.inl r3), none] [] (am_upd M5 186 17 (am_wrap ((M5 186 17) + 1))) else (if (0 : Int) = 0 then some (0, (am_upd (am_upd M5 186 17 (am_wrap ((M5 186 17) + 1))) 186 18 1)) else some (0, (am_upd (am_upd M5 186 17 (am_wrap ((M5 186 17) + 1))) 186 18 (am_wrap (100 + r3))))))))))))))) else am_L d 32 62 [some (.inr 186), some (.inl r3), none] [] (am_upd M5 186 20 0))) else am_L d 32 38 [some (.inr 186), some (.inl r3), none] [] M4)))))))) := (am_run_s _ _ _ _).trans (((am_blk am_h32 [0, 38, 62, 144] 400 d 0 _ _ M).trans rfl))
set_option maxRecDepth 100000 in
theorem e32_0 (d : Nat) (M : am_M) : am_L d 32 0 [some (.inr 186), none, none] [] M = am_bnd (am_run d 21 [.inr 186, .inl (M 186 17)] M) (fun r1 M1 => (if (r1 : Int) = 32 then am_L d 32 0 [some (.inr 186), none, none] [] (am_upd M1 186 17 (am_wrap ((M1 186 17) + 1))) else am_bnd (am_run d 21 [.inr 186, .inl (M1 186 17)] M1) (fun r2 M2 => (if (r2 : Int) = 10 then am_L d 32 0 [some (.inr 186), none, none] [] (am_upd M2 186 17 (am_wrap ((M2 186 17) + 1))) else am_bnd (am_run d 21 [.inr 186, .inl ((am_upd M2 186 19 (M2 186 17)) 186 17)] (am_upd M2 186 19 (M2 186 17))) (fun r3 M3 => (if (r3 : Int) = (-1) then some (0, (am_upd M3 186 18 0)) else am_bnd (am_run d 22 [.inl r3] M3) (fun r4 M4 => (if (r4 : Int) = 0 then am_bnd (am_run d 23 [.inl r3] M4) (fun r5 M5 => (if (r5 : Int) = 0 then (if (r3 : Int) = 59 then am_L d 32 144 [some (.inr 186), some (.inl r3), none] [] (am_upd M5 186 17 (am_wrap ((M5 186 17) + 1))) else (if (r3 : Int) = 43 then am_L d 32 144 [some (.inr 186), some (.inl r3), none] [] (am_upd M5 186 17 (am_wrap ((M5 186 17) + 1))) else (if (r3 : Int) = 45 then am_L d 32 144 [some (.inr 186), some (.inl r3), none] [] (am_upd M5 186 17 (am_wrap ((M5 186 17) + 1))) else (if (r3 : Int) = 42 then am_L d 32 144 [some (.inr 186), some (.inl r3), none] [] (am_upd M5 186 17 (am_wrap ((M5 186 17) + 1))) else (if (r3 : Int) = 47 then am_L d 32 144 [some (.inr 186), some (.inl r3), none] [] (am_upd M5 186 17 (am_wrap ((M5 186 17) + 1))) else (if (r3 : Int) = 40 then am_L d 32 144 [some (.inr 186), some (.inl r3), none] [] (am_upd M5 186 17 (am_wrap ((M5 186 17) + 1))) else (if (r3 : Int) = 41 then am_L d 32 144 [some (.inr 186), some (.inl r3), none] [] (am_upd M5 186 17 (am_wrap ((M5 186 17) + 1))) else (if (r3 : Int) = 60 then am_L d 32 144 [some (.inr 186), some (.inl r3), none] [] (am_upd M5 186 17 (am_wrap ((M5 186 17) + 1))) else (if (r3 : Int) = 61 then am_L d 32 144 [some (.inr 186), some (.inl r3), none] [] (am_upd M5 186 17 (am_wrap ((M5 186 17) + 1))) else (if (r3 : Int) = 62 then am_L d 32 144 [some (.inr 186), some (.inl r3), none] [] (am_upd M5 186 17 (am_wrap ((M5 186 17) + 1))) else (if (0 : Int) = 0 then some (0, (am_upd (am_upd M5 186 17 (am_wrap ((M5 186 17) + 1))) 186 18 1)) else some (0, (am_upd (am_upd M5 186 17 (am_wrap ((M5 186 17) + 1))) 186 18 (am_wrap (100 + r3))))))))))))))) else am_L d 32 62 [some (.inr 186), some (.inl r3), none] [] (am_upd M5 186 20 0))) else am_L d 32 38 [some (.inr 186), some (.inl r3), none] [] M4)))))))) := (am_blk am_h32 [0, 38, 62, 144] 400 d 0 _ _ M).trans rfl
set_option maxRecDepth 100000 in
theorem e32_38 (d : Nat) (x1 : Int) (M : am_M) : am_L d 32 38 [some (.inr 186), some (.inl x1), none] [] M = am_bnd (am_run d 21 [.inr 186, .inl (M 186 17)] M) (fun r1 M1 => am_bnd (am_run d 22 [.inl r1] M1) (fun r2 M2 => (if (r2 : Int) = 0 then am_bnd (am_run d 31 [.inr 186] M2) (fun r3 M3 => some (0, (am_upd M3 186 18 r3))) else am_L d 32 38 [some (.inr 186), some (.inl x1), none] [] (am_upd M2 186 17 (am_wrap ((M2 186 17) + 1)))))) := (am_blk am_h32 [0, 38, 62, 144] 400 d 38 _ _ M).trans rfl
set_option maxRecDepth 100000 in
theorem e32_62 (d : Nat) (x1 : Int) (M : am_M) : am_L d 32 62 [some (.inr 186), some (.inl x1), none] [] M = am_bnd (am_run d 21 [.inr 186, .inl (M 186 17)] M) (fun r1 M1 => am_bnd (am_run d 23 [.inl r1] M1) (fun r2 M2 => (if (r2 : Int) = 0 then (if ((am_wrap ((M2 186 17) - (M2 186 19))) : Int) < 5 then some (0, (am_upd M2 186 18 2)) else some (0, (am_upd M2 186 18 1))) else (if ((M2 186 17) : Int) < (am_wrap ((M2 186 19) + 4)) then am_bnd (am_run d 21 [.inr 186, .inl (M2 186 17)] M2) (fun r3 M3 => am_L d 32 62 [some (.inr 186), some (.inl x1), none] [] (am_upd (am_upd M3 186 20 (am_wrap ((am_wrap ((am_wrap (10 * (M2 186 20))) + r3)) - 48))) 186 17 (am_wrap (((am_upd M3 186 20 (am_wrap ((am_wrap ((am_wrap (10 * (M2 186 20))) + r3)) - 48))) 186 17) + 1)))) else am_L d 32 62 [some (.inr 186), some (.inl x1), none] [] (am_upd M2 186 17 (am_wrap ((M2 186 17) + 1))))))) := (am_blk am_h32 [0, 38, 62, 144] 400 d 62 _ _ M).trans rfl
set_option maxRecDepth 100000 in
theorem e32_144 (d : Nat) (x1 : Int) (M : am_M) : am_L d 32 144 [some (.inr 186), some (.inl x1), none] [] M = (if (1 : Int) = 0 then some (0, (am_upd M 186 18 1)) else some (0, (am_upd M 186 18 (am_wrap (100 + x1))))) := (am_blk am_h32 [0, 38, 62, 144] 400 d 144 _ _ M).trans rfl
-- 33: LentHandsModel.bad(I)Z; stops []
set_option maxRecDepth 100000 in
theorem e33 (d : Nat) (p1 : Int) (M : am_M) : am_run (d + 1) 33 [.inr 186, .inl p1] M = some (0, (am_upd (am_upd M 186 21 p1) 186 22 ((am_upd M 186 21 p1) 186 19))) := (am_run_s _ _ _ _).trans (((am_blk am_h33 [] 400 d 0 _ _ M).trans rfl))
-- 34: LentHandsModel.need(I)Z; stops []
set_option maxRecDepth 100000 in
theorem e34 (d : Nat) (p1 : Int) (M : am_M) : am_run (d + 1) 34 [.inr 186, .inl p1] M = (if ((M 186 18) : Int) = p1 then am_bnd (am_run d 32 [.inr 186] M) (fun _ M1 => some (1, M1)) else am_bnd (am_run d 33 [.inr 186, .inl 1] M) (fun r2 M2 => am_chk ((r2 : Int) = 0 ∨ r2 = 1) (some (r2, M2)))) := (am_run_s _ _ _ _).trans (((am_blk am_h34 [] 400 d 0 _ _ M).trans rfl))
-- 35: LentHandsModel.lay(II)V; stops []
set_option maxRecDepth 100000 in
theorem e35 (d : Nat) (p1 : Int) (p2 : Int) (M : am_M) : am_run (d + 1) 35 [.inr 186, .inl p1, .inl p2] M = am_chk (0 ≤ ((am_wrap (2 * (M 186 14))) : Int) ∧ (am_wrap (2 * (M 186 14))) < 820) (am_chk (0 ≤ ((am_wrap ((am_wrap (2 * ((am_upd M 192 (am_wrap (2 * (M 186 14))) p1) 186 14))) + 1)) : Int) ∧ (am_wrap ((am_wrap (2 * ((am_upd M 192 (am_wrap (2 * (M 186 14))) p1) 186 14))) + 1)) < 820) (some (0, (am_upd (am_upd (am_upd M 192 (am_wrap (2 * (M 186 14))) p1) 192 (am_wrap ((am_wrap (2 * ((am_upd M 192 (am_wrap (2 * (M 186 14))) p1) 186 14))) + 1)) p2) 186 14 (am_wrap (((am_upd (am_upd M 192 (am_wrap (2 * (M 186 14))) p1) 192 (am_wrap ((am_wrap (2 * ((am_upd M 192 (am_wrap (2 * (M 186 14))) p1) 186 14))) + 1)) p2) 186 14) + 1)))))) := (am_run_s _ _ _ _).trans (((am_blk am_h35 [] 400 d 0 _ _ M).trans rfl))
-- 36: LentHandsModel.opens()Z; stops []
set_option maxRecDepth 100000 in
theorem e36 (d : Nat) (M : am_M) : am_run (d + 1) 36 [.inr 186] M = (if ((M 186 24) : Int) = 8 then am_bnd (am_run d 33 [.inr 186, .inl 3] M) (fun r2 M2 => am_chk ((r2 : Int) = 0 ∨ r2 = 1) (some (r2, M2))) else am_bnd (am_run d 32 [.inr 186] (am_upd M 186 24 (am_wrap ((M 186 24) + 1)))) (fun _ M1 => some (1, M1))) := (am_run_s _ _ _ _).trans (((am_blk am_h36 [] 400 d 0 _ _ M).trans rfl))
-- 37: LentHandsModel.sumUp()Z; stops [5, 13]
set_option maxRecDepth 100000 in
theorem e37 (d : Nat) (M : am_M) : am_run (d + 1) 37 [.inr 186] M = am_bnd (am_run d 38 [.inr 186] M) (fun r1 M1 => (if (r1 : Int) = 0 then some (0, M1) else am_L d 37 5 [some (.inr 186), none] [] M1)) := (am_run_s _ _ _ _).trans (((am_blk am_h37 [5, 13] 400 d 0 _ _ M).trans rfl))
set_option maxRecDepth 100000 in
theorem e37_5 (d : Nat) (o1 : Option am_V) (M : am_M) : am_L d 37 5 [some (.inr 186), o1] [] M = (if ((M 186 18) : Int) = 143 then am_L d 37 13 [some (.inr 186), o1] [] M else (if ((M 186 18) : Int) = 145 then am_L d 37 13 [some (.inr 186), o1] [] M else some (1, M))) := (am_blk am_h37 [5, 13] 400 d 5 _ _ M).trans rfl
set_option maxRecDepth 100000 in
theorem e37_13 (d : Nat) (o1 : Option am_V) (M : am_M) : am_L d 37 13 [some (.inr 186), o1] [] M = (if ((M 186 18) : Int) = 143 then am_bnd (am_run d 32 [.inr 186] M) (fun _ M4 => am_bnd (am_run d 38 [.inr 186] M4) (fun r5 M5 => (if (r5 : Int) = 0 then some (0, M5) else am_bnd (am_run d 35 [.inr 186, .inl 23, .inl 0] M5) (fun _ M6 => am_L d 37 5 [some (.inr 186), some (.inl 23)] [] M6)))) else am_bnd (am_run d 32 [.inr 186] M) (fun _ M1 => am_bnd (am_run d 38 [.inr 186] M1) (fun r2 M2 => (if (r2 : Int) = 0 then some (0, M2) else am_bnd (am_run d 35 [.inr 186, .inl 24, .inl 0] M2) (fun _ M3 => am_L d 37 5 [some (.inr 186), some (.inl 24)] [] M3))))) := (am_blk am_h37 [5, 13] 400 d 13 _ _ M).trans rfl
-- 38: LentHandsModel.product()Z; stops [5, 20]
set_option maxRecDepth 100000 in
theorem e38 (d : Nat) (M : am_M) : am_run (d + 1) 38 [.inr 186] M = am_bnd (am_run d 39 [.inr 186] M) (fun r1 M1 => (if (r1 : Int) = 0 then some (0, M1) else am_L d 38 5 [some (.inr 186), none, none] [] M1)) := (am_run_s _ _ _ _).trans (((am_blk am_h38 [5, 20] 400 d 0 _ _ M).trans rfl))
set_option maxRecDepth 100000 in
theorem e38_5 (d : Nat) (o1 : Option am_V) (o2 : Option am_V) (M : am_M) : am_L d 38 5 [some (.inr 186), o1, o2] [] M = (if ((M 186 18) : Int) = 142 then (if ((M 186 18) : Int) = 147 then am_L d 38 20 [some (.inr 186), o1, o2] [.inl 1] M else am_L d 38 20 [some (.inr 186), o1, o2] [.inl 0] M) else (if ((M 186 18) : Int) = 147 then (if ((M 186 18) : Int) = 147 then am_L d 38 20 [some (.inr 186), o1, o2] [.inl 1] M else am_L d 38 20 [some (.inr 186), o1, o2] [.inl 0] M) else some (1, M))) := (am_blk am_h38 [5, 20] 400 d 5 _ _ M).trans rfl
set_option maxRecDepth 100000 in
theorem e38_20 (d : Nat) (o1 : Option am_V) (o2 : Option am_V) (xs0 : Int) (M : am_M) : am_L d 38 20 [some (.inr 186), o1, o2] [.inl xs0] M = am_bnd (am_run d 32 [.inr 186] M) (fun _ M1 => (if (xs0 : Int) = 0 then am_bnd (am_run d 39 [.inr 186] M1) (fun r2 M2 => (if (r2 : Int) = 0 then some (0, M2) else am_bnd (am_run d 35 [.inr 186, .inl 25, .inl 0] M2) (fun _ M3 => am_L d 38 5 [some (.inr 186), some (.inl xs0), o2] [] M3))) else (if ((M1 186 18) : Int) = 2 then (if ((M1 186 20) : Int) = 0 then am_bnd (am_run d 33 [.inr 186, .inl 2] M1) (fun r6 M6 => am_chk ((r6 : Int) = 0 ∨ r6 = 1) (some (r6, M6))) else am_bnd (am_run d 32 [.inr 186] M1) (fun _ M4 => am_bnd (am_run d 35 [.inr 186, .inl 26, .inl (M1 186 20)] M4) (fun _ M5 => am_L d 38 5 [some (.inr 186), some (.inl xs0), some (.inl (M1 186 20))] [] M5))) else am_bnd (am_run d 33 [.inr 186, .inl 1] M1) (fun r7 M7 => am_chk ((r7 : Int) = 0 ∨ r7 = 1) (some (r7, M7)))))) := (am_blk am_h38 [5, 20] 400 d 20 _ _ M).trans rfl
-- 39: LentHandsModel.unit()Z; stops []
set_option maxRecDepth 100000 in
theorem e39 (d : Nat) (M : am_M) : am_run (d + 1) 39 [.inr 186] M = am_bnd (am_run d 0 [.inl (M 186 18), .inl 41, .inl 54] M) (fun r1 M1 => (if ((M1 186 18) : Int) = 2 then (if (r1 : Int) = 0 then am_bnd (am_run d 35 [.inr 186, .inl 0, .inl (M1 186 20)] M1) (fun _ M2 => am_bnd (am_run d 32 [.inr 186] M2) (fun _ M3 => some (1, M3))) else am_bnd (am_run d 35 [.inr 186, .inl (am_wrap ((M1 186 18) - 40)), .inl (M1 186 20)] M1) (fun _ M4 => am_bnd (am_run d 32 [.inr 186] M4) (fun _ M5 => some (1, M5)))) else (if (r1 : Int) = 0 then am_bnd (am_run d 33 [.inr 186, .inl 1] M1) (fun r10 M10 => am_chk ((r10 : Int) = 0 ∨ r10 = 1) (some (r10, M10))) else (if (r1 : Int) = 0 then am_bnd (am_run d 35 [.inr 186, .inl 0, .inl (M1 186 20)] M1) (fun _ M6 => am_bnd (am_run d 32 [.inr 186] M6) (fun _ M7 => some (1, M7))) else am_bnd (am_run d 35 [.inr 186, .inl (am_wrap ((M1 186 18) - 40)), .inl (M1 186 20)] M1) (fun _ M8 => am_bnd (am_run d 32 [.inr 186] M8) (fun _ M9 => some (1, M9))))))) := (am_run_s _ _ _ _).trans (((am_blk am_h39 [] 400 d 0 _ _ M).trans rfl))
-- 40: LentHandsModel.any()Z; stops [5]
set_option maxRecDepth 100000 in
theorem e40 (d : Nat) (M : am_M) : am_run (d + 1) 40 [.inr 186] M = am_bnd (am_run d 41 [.inr 186] M) (fun r1 M1 => (if (r1 : Int) = 0 then some (0, M1) else am_L d 40 5 [some (.inr 186)] [] M1)) := (am_run_s _ _ _ _).trans (((am_blk am_h40 [5] 400 d 0 _ _ M).trans rfl))
set_option maxRecDepth 100000 in
theorem e40_5 (d : Nat) (M : am_M) : am_L d 40 5 [some (.inr 186)] [] M = (if ((M 186 18) : Int) = 4 then am_bnd (am_run d 32 [.inr 186] M) (fun _ M1 => am_bnd (am_run d 41 [.inr 186] M1) (fun r2 M2 => (if (r2 : Int) = 0 then some (0, M2) else am_bnd (am_run d 35 [.inr 186, .inl 32, .inl 0] M2) (fun _ M3 => am_L d 40 5 [some (.inr 186)] [] M3)))) else some (1, M)) := (am_blk am_h40 [5] 400 d 5 _ _ M).trans rfl
-- 41: LentHandsModel.every()Z; stops [5]
set_option maxRecDepth 100000 in
theorem e41 (d : Nat) (M : am_M) : am_run (d + 1) 41 [.inr 186] M = am_bnd (am_run d 42 [.inr 186] M) (fun r1 M1 => (if (r1 : Int) = 0 then some (0, M1) else am_L d 41 5 [some (.inr 186)] [] M1)) := (am_run_s _ _ _ _).trans (((am_blk am_h41 [5] 400 d 0 _ _ M).trans rfl))
set_option maxRecDepth 100000 in
theorem e41_5 (d : Nat) (M : am_M) : am_L d 41 5 [some (.inr 186)] [] M = (if ((M 186 18) : Int) = 5 then am_bnd (am_run d 32 [.inr 186] M) (fun _ M1 => am_bnd (am_run d 42 [.inr 186] M1) (fun r2 M2 => (if (r2 : Int) = 0 then some (0, M2) else am_bnd (am_run d 35 [.inr 186, .inl 31, .inl 0] M2) (fun _ M3 => am_L d 41 5 [some (.inr 186)] [] M3)))) else some (1, M)) := (am_blk am_h41 [5] 400 d 5 _ _ M).trans rfl
-- 42: LentHandsModel.oneTest()Z; stops [72]
set_option maxRecDepth 100000 in
theorem e42 (d : Nat) (M : am_M) : am_run (d + 1) 42 [.inr 186] M = (if ((M 186 18) : Int) = 6 then am_bnd (am_run d 36 [.inr 186] M) (fun r5 M5 => (if (r5 : Int) = 0 then some (0, M5) else am_bnd (am_run d 42 [.inr 186] M5) (fun r6 M6 => (if (r6 : Int) = 0 then some (0, M6) else am_bnd (am_run d 35 [.inr 186, .inl 30, .inl 0] (am_upd M6 186 24 (am_wrap ((M6 186 24) - 1)))) (fun _ M7 => some (1, M7)))))) else (if ((M 186 18) : Int) = 140 then am_bnd (am_run d 36 [.inr 186] M) (fun r2 M2 => (if (r2 : Int) = 0 then some (0, M2) else am_bnd (am_run d 40 [.inr 186] M2) (fun r3 M3 => (if (r3 : Int) = 0 then some (0, M3) else am_bnd (am_run d 34 [.inr 186, .inl 141] M3) (fun r4 M4 => (if (r4 : Int) = 0 then some (0, M4) else some (1, (am_upd M4 186 24 (am_wrap ((M4 186 24) - 1)))))))))) else am_bnd (am_run d 37 [.inr 186] M) (fun r1 M1 => (if (r1 : Int) = 0 then some (0, M1) else (if ((M1 186 18) : Int) = 160 then am_L d 42 72 [some (.inr 186), none] [.inl 27] M1 else (if ((M1 186 18) : Int) = 161 then am_L d 42 72 [some (.inr 186), none] [.inl 28] M1 else (if ((M1 186 18) : Int) = 162 then am_L d 42 72 [some (.inr 186), none] [.inl 29] M1 else am_L d 42 72 [some (.inr 186), none] [.inl (-1)] M1))))))) := (am_run_s _ _ _ _).trans (((am_blk am_h42 [72] 400 d 0 _ _ M).trans rfl))
set_option maxRecDepth 100000 in
theorem e42_72 (d : Nat) (xs0 : Int) (M : am_M) : am_L d 42 72 [some (.inr 186), none] [.inl xs0] M = (if (xs0 : Int) = (-1) then am_bnd (am_run d 33 [.inr 186, .inl 1] M) (fun r4 M4 => am_chk ((r4 : Int) = 0 ∨ r4 = 1) (some (r4, M4))) else am_bnd (am_run d 32 [.inr 186] M) (fun _ M1 => am_bnd (am_run d 37 [.inr 186] M1) (fun r2 M2 => (if (r2 : Int) = 0 then some (0, M2) else am_bnd (am_run d 35 [.inr 186, .inl xs0, .inl 0] M2) (fun _ M3 => some (1, M3)))))) := (am_blk am_h42 [72] 400 d 72 _ _ M).trans rfl
-- 43: LentHandsModel.aLine()Z; stops [52]
set_option maxRecDepth 100000 in
theorem e43 (d : Nat) (M : am_M) : am_run (d + 1) 43 [.inr 186] M = am_bnd (am_run d 0 [.inl (M 186 18), .inl 20, .inl 29] M) (fun r1 M1 => (if (r1 : Int) = 0 then am_bnd (am_run d 33 [.inr 186, .inl 1] M1) (fun r5 M5 => am_chk ((r5 : Int) = 0 ∨ r5 = 1) (some (r5, M5))) else (if ((M1 186 13) : Int) = 16 then am_bnd (am_run d 33 [.inr 186, .inl 3] M1) (fun r4 M4 => am_chk ((r4 : Int) = 0 ∨ r4 = 1) (some (r4, M4))) else am_chk (0 ≤ ((am_wrap ((am_wrap (4 * ((am_upd M1 186 24 0) 186 13))) + 3)) : Int) ∧ (am_wrap ((am_wrap (4 * ((am_upd M1 186 24 0) 186 13))) + 3)) < 64) (am_bnd (am_run d 32 [.inr 186] (am_upd (am_upd M1 186 24 0) 191 (am_wrap ((am_wrap (4 * ((am_upd M1 186 24 0) 186 13))) + 3)) ((am_upd M1 186 24 0) 186 18))) (fun _ M2 => am_chk (0 ≤ ((am_wrap (4 * (M2 186 13))) : Int) ∧ (am_wrap (4 * (M2 186 13))) < 64) ((if (((am_upd M2 191 (am_wrap (4 * (M2 186 13))) (M2 186 14)) 186 12) : Int) = 1 then am_bnd (am_run d 37 [.inr 186] (am_upd M2 191 (am_wrap (4 * (M2 186 13))) (M2 186 14))) (fun r3 M3 => (if (r3 : Int) = 0 then some (0, M3) else am_L d 43 52 [some (.inr 186)] [] M3)) else am_L d 43 52 [some (.inr 186)] [] (am_upd M2 191 (am_wrap (4 * (M2 186 13))) (M2 186 14))))))))) := (am_run_s _ _ _ _).trans (((am_blk am_h43 [52] 400 d 0 _ _ M).trans rfl))
set_option maxRecDepth 100000 in
theorem e43_52 (d : Nat) (M : am_M) : am_L d 43 52 [some (.inr 186)] [] M = am_chk (0 ≤ ((am_wrap ((am_wrap (4 * (M 186 13))) + 1)) : Int) ∧ (am_wrap ((am_wrap (4 * (M 186 13))) + 1)) < 64) ((if (((am_upd M 191 (am_wrap ((am_wrap (4 * (M 186 13))) + 1)) (M 186 14)) 186 18) : Int) = 3 then am_bnd (am_run d 32 [.inr 186] (am_upd M 191 (am_wrap ((am_wrap (4 * (M 186 13))) + 1)) (M 186 14))) (fun _ M2 => am_bnd (am_run d 40 [.inr 186] M2) (fun r3 M3 => (if (r3 : Int) = 0 then some (0, M3) else am_chk (0 ≤ ((am_wrap ((am_wrap (4 * (M3 186 13))) + 2)) : Int) ∧ (am_wrap ((am_wrap (4 * (M3 186 13))) + 2)) < 64) (am_bnd (am_run d 34 [.inr 186, .inl 159] (am_upd M3 191 (am_wrap ((am_wrap (4 * (M3 186 13))) + 2)) (M3 186 14))) (fun r4 M4 => am_chk ((r4 : Int) = 0 ∨ r4 = 1) (some (r4, M4))))))) else am_chk (0 ≤ ((am_wrap ((am_wrap (4 * ((am_upd M 191 (am_wrap ((am_wrap (4 * (M 186 13))) + 1)) (M 186 14)) 186 13))) + 2)) : Int) ∧ (am_wrap ((am_wrap (4 * ((am_upd M 191 (am_wrap ((am_wrap (4 * (M 186 13))) + 1)) (M 186 14)) 186 13))) + 2)) < 64) (am_bnd (am_run d 34 [.inr 186, .inl 159] (am_upd (am_upd M 191 (am_wrap ((am_wrap (4 * (M 186 13))) + 1)) (M 186 14)) 191 (am_wrap ((am_wrap (4 * ((am_upd M 191 (am_wrap ((am_wrap (4 * (M 186 13))) + 1)) (M 186 14)) 186 13))) + 2)) ((am_upd M 191 (am_wrap ((am_wrap (4 * (M 186 13))) + 1)) (M 186 14)) 186 14))) (fun r1 M1 => am_chk ((r1 : Int) = 0 ∨ r1 = 1) (some (r1, M1)))))) := (am_blk am_h43 [52] 400 d 52 _ _ M).trans rfl
-- 44: LentHandsModel.readsLaw()Z; stops [8]
set_option maxRecDepth 100000 in
theorem e44 (d : Nat) (M : am_M) : am_run (d + 1) 44 [.inr 186] M = am_L d 44 8 [some (.inr 186), some (.inl 1)] [] (am_upd (am_upd M 186 13 0) 186 14 0) := (am_run_s _ _ _ _).trans (((am_blk am_h44 [8] 400 d 0 _ _ M).trans rfl))
set_option maxRecDepth 100000 in
theorem e44_8 (d : Nat) (x1 : Int) (M : am_M) : am_L d 44 8 [some (.inr 186), some (.inl x1)] [] M = (if (x1 : Int) = 0 then am_chk ((x1 : Int) = 0 ∨ x1 = 1) (some (x1, M)) else (if ((M 186 18) : Int) = 0 then am_chk ((x1 : Int) = 0 ∨ x1 = 1) (some (x1, M)) else am_bnd (am_run d 43 [.inr 186] M) (fun r1 M1 => (if (r1 : Int) = 0 then am_L d 44 8 [some (.inr 186), some (.inl r1)] [] (am_upd M1 186 13 (am_wrap ((M1 186 13) + 0))) else am_L d 44 8 [some (.inr 186), some (.inl r1)] [] (am_upd M1 186 13 (am_wrap ((M1 186 13) + 1))))))) := (am_blk am_h44 [8] 400 d 8 _ _ M).trans rfl
-- 45: LentHandsModel.number(II)Z; stops []
set_option maxRecDepth 100000 in
theorem e45 (d : Nat) (p1 : Int) (p2 : Int) (M : am_M) : am_run (d + 1) 45 [.inr 186, .inl p1, .inl p2] M = (if ((M 186 18) : Int) = 2 then am_bnd (am_run d 0 [.inl (M 186 20), .inl p1, .inl p2] M) (fun r1 M1 => (if (r1 : Int) = 0 then am_bnd (am_run d 33 [.inr 186, .inl 2] M1) (fun r3 M3 => am_chk ((r3 : Int) = 0 ∨ r3 = 1) (some (r3, M3))) else am_bnd (am_run d 32 [.inr 186] (am_upd M1 186 26 (M1 186 20))) (fun _ M2 => some (1, M2)))) else am_bnd (am_run d 33 [.inr 186, .inl 1] M) (fun r4 M4 => am_chk ((r4 : Int) = 0 ∨ r4 = 1) (some (r4, M4)))) := (am_run_s _ _ _ _).trans (((am_blk am_h45 [] 400 d 0 _ _ M).trans rfl))
-- 46: LentHandsModel.told(IIII)Z; stops []
set_option maxRecDepth 100000 in
theorem e46 (d : Nat) (p1 : Int) (p2 : Int) (p3 : Int) (p4 : Int) (M : am_M) : am_run (d + 1) 46 [.inr 186, .inl p1, .inl p2, .inl p3, .inl p4] M = am_bnd (am_run d 34 [.inr 186, .inl p2] M) (fun r1 M1 => (if (r1 : Int) = 0 then some (0, M1) else am_bnd (am_run d 45 [.inr 186, .inl p3, .inl p4] M1) (fun r2 M2 => (if (r2 : Int) = 0 then some (0, M2) else am_chk (0 ≤ (p1 : Int) ∧ p1 < 80) (some (1, (am_upd M2 193 p1 (M2 186 26)))))))) := (am_run_s _ _ _ _).trans (((am_blk am_h46 [] 400 d 0 _ _ M).trans rfl))
-- 47: LentHandsModel.aBooking()Z; stops []
set_option maxRecDepth 100000 in
theorem e47 (d : Nat) (M : am_M) : am_run (d + 1) 47 [.inr 186] M = am_chk (0 ≤ (276 : Int) ∧ 276 < 3456) (am_bnd (am_run d 46 [.inr 186, .inl (am_wrap (5 * (M 186 15))), .inl 7, .inl 0, .inl (am_wrap ((am_wrap (2 * (M 187 276))) - 1))] M) (fun r1 M1 => (if (r1 : Int) = 0 then some (0, M1) else am_chk (0 ≤ (276 : Int) ∧ 276 < 3456) (am_bnd (am_run d 46 [.inr 186, .inl (am_wrap ((am_wrap (5 * (M 186 15))) + 1)), .inl 8, .inl 0, .inl (am_wrap ((M1 187 276) - 1))] M1) (fun r2 M2 => (if (r2 : Int) = 0 then some (0, M2) else am_bnd (am_run d 46 [.inr 186, .inl (am_wrap ((am_wrap (5 * (M 186 15))) + 2)), .inl 9, .inl 0, .inl 9999] M2) (fun r3 M3 => (if (r3 : Int) = 0 then some (0, M3) else am_bnd (am_run d 46 [.inr 186, .inl (am_wrap ((am_wrap (5 * (M 186 15))) + 3)), .inl 10, .inl 1, .inl 99] M3) (fun r4 M4 => (if (r4 : Int) = 0 then some (0, M4) else am_chk (0 ≤ ((am_wrap ((am_wrap (5 * (M 186 15))) + 4)) : Int) ∧ (am_wrap ((am_wrap (5 * (M 186 15))) + 4)) < 80) ((if (((am_upd M4 193 (am_wrap ((am_wrap (5 * (M 186 15))) + 4)) 0) 186 18) : Int) = 11 then am_bnd (am_run d 46 [.inr 186, .inl (am_wrap ((am_wrap (5 * (M 186 15))) + 4)), .inl 11, .inl 0, .inl 99] (am_upd M4 193 (am_wrap ((am_wrap (5 * (M 186 15))) + 4)) 0)) (fun r6 M6 => (if (r6 : Int) = 0 then some (0, M6) else am_bnd (am_run d 34 [.inr 186, .inl 159] M6) (fun r7 M7 => (if (r7 : Int) = 0 then some (0, M7) else some (1, M7))))) else am_bnd (am_run d 34 [.inr 186, .inl 159] (am_upd M4 193 (am_wrap ((am_wrap (5 * (M 186 15))) + 4)) 0)) (fun r5 M5 => (if (r5 : Int) = 0 then some (0, M5) else some (1, M5))))))))))))))) := (am_run_s _ _ _ _).trans (((am_blk am_h47 [] 400 d 0 _ _ M).trans rfl))
-- 48: LentHandsModel.aWork()Z; stops []
set_option maxRecDepth 100000 in
theorem e48 (d : Nat) (M : am_M) : am_run (d + 1) 48 [.inr 186] M = am_bnd (am_run d 46 [.inr 186, .inl (am_wrap (4 * (M 186 15))), .inl 12, .inl 0, .inl 3] M) (fun r1 M1 => (if (r1 : Int) = 0 then some (0, M1) else am_bnd (am_run d 46 [.inr 186, .inl (am_wrap ((am_wrap (4 * (M 186 15))) + 1)), .inl 13, .inl 0, .inl 99] M1) (fun r2 M2 => (if (r2 : Int) = 0 then some (0, M2) else am_bnd (am_run d 46 [.inr 186, .inl (am_wrap ((am_wrap (4 * (M 186 15))) + 2)), .inl 14, .inl 0, .inl 99] M2) (fun r3 M3 => (if (r3 : Int) = 0 then some (0, M3) else (if ((M3 186 18) : Int) = 24 then am_chk (0 ≤ ((am_wrap ((am_wrap (4 * (M 186 15))) + 3)) : Int) ∧ (am_wrap ((am_wrap (4 * (M 186 15))) + 3)) < 80) ((if (((am_upd M3 193 (am_wrap ((am_wrap (4 * (M 186 15))) + 3)) 1) 186 18) : Int) = 24 then am_bnd (am_run d 32 [.inr 186] (am_upd M3 193 (am_wrap ((am_wrap (4 * (M 186 15))) + 3)) 1)) (fun _ M8 => am_bnd (am_run d 34 [.inr 186, .inl 159] M8) (fun r9 M9 => am_chk ((r9 : Int) = 0 ∨ r9 = 1) (some (r9, M9)))) else am_bnd (am_run d 34 [.inr 186, .inl 159] (am_upd M3 193 (am_wrap ((am_wrap (4 * (M 186 15))) + 3)) 1)) (fun r7 M7 => am_chk ((r7 : Int) = 0 ∨ r7 = 1) (some (r7, M7))))) else am_chk (0 ≤ ((am_wrap ((am_wrap (4 * (M 186 15))) + 3)) : Int) ∧ (am_wrap ((am_wrap (4 * (M 186 15))) + 3)) < 80) ((if (((am_upd M3 193 (am_wrap ((am_wrap (4 * (M 186 15))) + 3)) 0) 186 18) : Int) = 24 then am_bnd (am_run d 32 [.inr 186] (am_upd M3 193 (am_wrap ((am_wrap (4 * (M 186 15))) + 3)) 0)) (fun _ M5 => am_bnd (am_run d 34 [.inr 186, .inl 159] M5) (fun r6 M6 => am_chk ((r6 : Int) = 0 ∨ r6 = 1) (some (r6, M6)))) else am_bnd (am_run d 34 [.inr 186, .inl 159] (am_upd M3 193 (am_wrap ((am_wrap (4 * (M 186 15))) + 3)) 0)) (fun r4 M4 => am_chk ((r4 : Int) = 0 ∨ r4 = 1) (some (r4, M4)))))))))))) := (am_run_s _ _ _ _).trans (((am_blk am_h48 [] 400 d 0 _ _ M).trans rfl))
-- 49: LentHandsModel.readsRows()Z; stops [5, 33]
set_option maxRecDepth 100000 in
theorem e49 (d : Nat) (M : am_M) : am_run (d + 1) 49 [.inr 186] M = am_L d 49 5 [some (.inr 186), some (.inl 1)] [] (am_upd M 186 15 0) := (am_run_s _ _ _ _).trans (((am_blk am_h49 [5, 33] 400 d 0 _ _ M).trans rfl))
set_option maxRecDepth 100000 in
theorem e49_5 (d : Nat) (x1 : Int) (M : am_M) : am_L d 49 5 [some (.inr 186), some (.inl x1)] [] M = (if (x1 : Int) = 0 then am_chk ((x1 : Int) = 0 ∨ x1 = 1) (some (x1, M)) else (if ((M 186 18) : Int) = 0 then am_chk ((x1 : Int) = 0 ∨ x1 = 1) (some (x1, M)) else (if ((M 186 12) : Int) = 3 then (if ((M 186 18) : Int) = 7 then (if ((M 186 12) : Int) = 3 then am_L d 49 33 [some (.inr 186), some (.inl x1)] [.inl 16, .inl (M 186 15)] M else am_L d 49 33 [some (.inr 186), some (.inl x1)] [.inl 8, .inl (M 186 15)] M) else am_bnd (am_run d 33 [.inr 186, .inl 1] M) (fun r2 M2 => am_chk ((r2 : Int) = 0 ∨ r2 = 1) (some (r2, M2)))) else (if ((M 186 18) : Int) = 12 then (if ((M 186 12) : Int) = 3 then am_L d 49 33 [some (.inr 186), some (.inl x1)] [.inl 16, .inl (M 186 15)] M else am_L d 49 33 [some (.inr 186), some (.inl x1)] [.inl 8, .inl (M 186 15)] M) else am_bnd (am_run d 33 [.inr 186, .inl 1] M) (fun r1 M1 => am_chk ((r1 : Int) = 0 ∨ r1 = 1) (some (r1, M1))))))) := (am_blk am_h49 [5, 33] 400 d 5 _ _ M).trans rfl
set_option maxRecDepth 100000 in
theorem e49_33 (d : Nat) (x1 : Int) (xs0 : Int) (xs1 : Int) (M : am_M) : am_L d 49 33 [some (.inr 186), some (.inl x1)] [.inl xs1, .inl xs0] M = (if (xs0 : Int) = xs1 then am_bnd (am_run d 33 [.inr 186, .inl 3] M) (fun r3 M3 => am_chk ((r3 : Int) = 0 ∨ r3 = 1) (some (r3, M3))) else (if ((M 186 12) : Int) = 3 then am_bnd (am_run d 47 [.inr 186] M) (fun r2 M2 => (if (r2 : Int) = 0 then am_L d 49 5 [some (.inr 186), some (.inl r2)] [] (am_upd M2 186 15 (am_wrap ((M2 186 15) + 0))) else am_L d 49 5 [some (.inr 186), some (.inl r2)] [] (am_upd M2 186 15 (am_wrap ((M2 186 15) + 1))))) else am_bnd (am_run d 48 [.inr 186] M) (fun r1 M1 => (if (r1 : Int) = 0 then am_L d 49 5 [some (.inr 186), some (.inl r1)] [] (am_upd M1 186 15 (am_wrap ((M1 186 15) + 0))) else am_L d 49 5 [some (.inr 186), some (.inl r1)] [] (am_upd M1 186 15 (am_wrap ((M1 186 15) + 1))))))) := (am_blk am_h49 [5, 33] 400 d 33 _ _ M).trans rfl
-- 50: LentHandsModel.putsLaw(I)I; stops [10, 88]
set_option maxRecDepth 100000 in
theorem e50 (d : Nat) (p1 : Int) (M : am_M) : am_run (d + 1) 50 [.inr 186, .inl p1] M = am_chk (0 ≤ ((am_wrap (288 + p1)) : Int) ∧ (am_wrap (288 + p1)) < 3456) (am_L d 50 10 [some (.inr 186), some (.inl p1), some (.inl 0)] [] (am_upd M 187 (am_wrap (288 + p1)) (M 186 13))) := (am_run_s _ _ _ _).trans (((am_blk am_h50 [10, 88] 400 d 0 _ _ M).trans rfl))
set_option maxRecDepth 100000 in
theorem e50_10 (d : Nat) (x1 : Int) (x2 : Int) (M : am_M) : am_L d 50 10 [some (.inr 186), some (.inl x1), some (.inl x2)] [] M = (if (x2 : Int) < (M 186 13) then am_chk (0 ≤ ((am_wrap (4 * x2)) : Int) ∧ (am_wrap (4 * x2)) < 64) (am_chk (0 ≤ ((am_wrap ((am_wrap (804 + (am_wrap (16 * x1)))) + x2)) : Int) ∧ (am_wrap ((am_wrap (804 + (am_wrap (16 * x1)))) + x2)) < 3456) (am_chk (0 ≤ ((am_wrap ((am_wrap (4 * x2)) + 1)) : Int) ∧ (am_wrap ((am_wrap (4 * x2)) + 1)) < 64) (am_chk (0 ≤ ((am_wrap ((am_wrap (852 + (am_wrap (16 * x1)))) + x2)) : Int) ∧ (am_wrap ((am_wrap (852 + (am_wrap (16 * x1)))) + x2)) < 3456) (am_chk (0 ≤ ((am_wrap ((am_wrap (4 * x2)) + 2)) : Int) ∧ (am_wrap ((am_wrap (4 * x2)) + 2)) < 64) (am_chk (0 ≤ ((am_wrap ((am_wrap (900 + (am_wrap (16 * x1)))) + x2)) : Int) ∧ (am_wrap ((am_wrap (900 + (am_wrap (16 * x1)))) + x2)) < 3456) (am_chk (0 ≤ ((am_wrap ((am_wrap (4 * x2)) + 3)) : Int) ∧ (am_wrap ((am_wrap (4 * x2)) + 3)) < 64) (am_chk (0 ≤ ((am_wrap ((am_wrap (948 + (am_wrap (16 * x1)))) + x2)) : Int) ∧ (am_wrap ((am_wrap (948 + (am_wrap (16 * x1)))) + x2)) < 3456) (am_L d 50 10 [some (.inr 186), some (.inl x1), some (.inl (am_wrap (x2 + 1)))] [] (am_upd (am_upd (am_upd (am_upd M 187 (am_wrap ((am_wrap (804 + (am_wrap (16 * x1)))) + x2)) (M 191 (am_wrap (4 * x2)))) 187 (am_wrap ((am_wrap (852 + (am_wrap (16 * x1)))) + x2)) ((am_upd M 187 (am_wrap ((am_wrap (804 + (am_wrap (16 * x1)))) + x2)) (M 191 (am_wrap (4 * x2)))) 191 (am_wrap ((am_wrap (4 * x2)) + 1)))) 187 (am_wrap ((am_wrap (900 + (am_wrap (16 * x1)))) + x2)) ((am_upd (am_upd M 187 (am_wrap ((am_wrap (804 + (am_wrap (16 * x1)))) + x2)) (M 191 (am_wrap (4 * x2)))) 187 (am_wrap ((am_wrap (852 + (am_wrap (16 * x1)))) + x2)) ((am_upd M 187 (am_wrap ((am_wrap (804 + (am_wrap (16 * x1)))) + x2)) (M 191 (am_wrap (4 * x2)))) 191 (am_wrap ((am_wrap (4 * x2)) + 1)))) 191 (am_wrap ((am_wrap (4 * x2)) + 2)))) 187 (am_wrap ((am_wrap (948 + (am_wrap (16 * x1)))) + x2)) ((am_upd (am_upd (am_upd M 187 (am_wrap ((am_wrap (804 + (am_wrap (16 * x1)))) + x2)) (M 191 (am_wrap (4 * x2)))) 187 (am_wrap ((am_wrap (852 + (am_wrap (16 * x1)))) + x2)) ((am_upd M 187 (am_wrap ((am_wrap (804 + (am_wrap (16 * x1)))) + x2)) (M 191 (am_wrap (4 * x2)))) 191 (am_wrap ((am_wrap (4 * x2)) + 1)))) 187 (am_wrap ((am_wrap (900 + (am_wrap (16 * x1)))) + x2)) ((am_upd (am_upd M 187 (am_wrap ((am_wrap (804 + (am_wrap (16 * x1)))) + x2)) (M 191 (am_wrap (4 * x2)))) 187 (am_wrap ((am_wrap (852 + (am_wrap (16 * x1)))) + x2)) ((am_upd M 187 (am_wrap ((am_wrap (804 + (am_wrap (16 * x1)))) + x2)) (M 191 (am_wrap (4 * x2)))) 191 (am_wrap ((am_wrap (4 * x2)) + 1)))) 191 (am_wrap ((am_wrap (4 * x2)) + 2)))) 191 (am_wrap ((am_wrap (4 * x2)) + 3)))))))))))) else am_L d 50 88 [some (.inr 186), some (.inl x1), some (.inl 0)] [] M) := (am_blk am_h50 [10, 88] 400 d 10 _ _ M).trans rfl
set_option maxRecDepth 100000 in
theorem e50_88 (d : Nat) (x1 : Int) (x2 : Int) (M : am_M) : am_L d 50 88 [some (.inr 186), some (.inl x1), some (.inl x2)] [] M = (if (x2 : Int) < (am_wrap (2 * (M 186 14))) then am_chk (0 ≤ (x2 : Int) ∧ x2 < 820) (am_chk (0 ≤ ((am_wrap ((am_wrap (996 + (am_wrap (820 * x1)))) + x2)) : Int) ∧ (am_wrap ((am_wrap (996 + (am_wrap (820 * x1)))) + x2)) < 3456) (am_L d 50 88 [some (.inr 186), some (.inl x1), some (.inl (am_wrap (x2 + 1)))] [] (am_upd M 187 (am_wrap ((am_wrap (996 + (am_wrap (820 * x1)))) + x2)) (M 192 x2)))) else some ((M 186 13), M)) := (am_blk am_h50 [10, 88] 400 d 88 _ _ M).trans rfl
-- 51: LentHandsModel.putsRows()I; stops [20, 26]
set_option maxRecDepth 100000 in
theorem e51 (d : Nat) (M : am_M) : am_run (d + 1) 51 [.inr 186] M = (if ((M 186 12) : Int) = 3 then (if (1 : Int) = 0 then am_chk (0 ≤ (287 : Int) ∧ 287 < 3456) (am_L d 51 20 [some (.inr 186), some (.inl 1), some (.inl 0)] [] (am_upd M 187 287 (M 186 15))) else am_chk (0 ≤ (286 : Int) ∧ 286 < 3456) (am_L d 51 20 [some (.inr 186), some (.inl 1), some (.inl 0)] [] (am_upd M 187 286 (M 186 15)))) else (if (0 : Int) = 0 then am_chk (0 ≤ (287 : Int) ∧ 287 < 3456) (am_L d 51 20 [some (.inr 186), some (.inl 0), some (.inl 0)] [] (am_upd M 187 287 (M 186 15))) else am_chk (0 ≤ (286 : Int) ∧ 286 < 3456) (am_L d 51 20 [some (.inr 186), some (.inl 0), some (.inl 0)] [] (am_upd M 187 286 (M 186 15))))) := (am_run_s _ _ _ _).trans (((am_blk am_h51 [20, 26] 400 d 0 _ _ M).trans rfl))
set_option maxRecDepth 100000 in
theorem e51_20 (d : Nat) (x1 : Int) (x2 : Int) (M : am_M) : am_L d 51 20 [some (.inr 186), some (.inl x1), some (.inl x2)] [] M = (if (x1 : Int) = 0 then am_L d 51 26 [some (.inr 186), some (.inl x1), some (.inl x2)] [.inl 4, .inl x2] M else am_L d 51 26 [some (.inr 186), some (.inl x1), some (.inl x2)] [.inl 5, .inl x2] M) := (am_blk am_h51 [20, 26] 400 d 20 _ _ M).trans rfl
set_option maxRecDepth 100000 in
theorem e51_26 (d : Nat) (x1 : Int) (x2 : Int) (xs0 : Int) (xs1 : Int) (M : am_M) : am_L d 51 26 [some (.inr 186), some (.inl x1), some (.inl x2)] [.inl xs1, .inl xs0] M = (if (xs0 : Int) < (am_wrap (xs1 * (M 186 15))) then (if (x1 : Int) = 0 then am_chk (0 ≤ (x2 : Int) ∧ x2 < 80) (am_chk (0 ≤ ((am_wrap (372 + x2)) : Int) ∧ (am_wrap (372 + x2)) < 3456) (am_L d 51 20 [some (.inr 186), some (.inl x1), some (.inl (am_wrap (x2 + 1)))] [] (am_upd M 187 (am_wrap (372 + x2)) (M 193 x2)))) else am_chk (0 ≤ (x2 : Int) ∧ x2 < 80) (am_chk (0 ≤ ((am_wrap (292 + x2)) : Int) ∧ (am_wrap (292 + x2)) < 3456) (am_L d 51 20 [some (.inr 186), some (.inl x1), some (.inl (am_wrap (x2 + 1)))] [] (am_upd M 187 (am_wrap (292 + x2)) (M 193 x2))))) else (if (x1 : Int) = 0 then some ((M 186 15), M) else am_bnd (am_run d 14 [.inr 186] M) (fun _ M1 => some ((M1 186 15), M1)))) := (am_blk am_h51 [20, 26] 400 d 26 _ _ M).trans rfl
-- 52: LentHandsModel.text(I)I; stops [35]
set_option maxRecDepth 100000 in
theorem e52 (d : Nat) (p1 : Int) (M : am_M) : am_run (d + 1) 52 [.inr 186, .inl p1] M = am_bnd (am_run d 0 [.inl p1, .inl 0, .inl 4] (am_upd (am_upd M 186 23 0) 186 25 (-1))) (fun r1 M1 => (if (r1 : Int) = 0 then some ((-1), (am_upd M1 186 16 0)) else am_bnd (am_run d 32 [.inr 186] (am_upd (am_upd (am_upd M1 186 21 0) 186 17 0) 186 12 p1)) (fun _ M2 => (if (p1 : Int) < 3 then am_bnd (am_run d 44 [.inr 186] M2) (fun r4 M4 => am_L d 52 35 [some (.inr 186), some (.inl p1), none] [.inl r4] M4) else am_bnd (am_run d 49 [.inr 186] M2) (fun r3 M3 => am_L d 52 35 [some (.inr 186), some (.inl p1), none] [.inl r3] M3))))) := (am_run_s _ _ _ _).trans (((am_blk am_h52 [35] 400 d 0 _ _ M).trans rfl))
set_option maxRecDepth 100000 in
theorem e52_35 (d : Nat) (x1 : Int) (xs0 : Int) (M : am_M) : am_L d 52 35 [some (.inr 186), some (.inl x1), none] [.inl xs0] M = (if (xs0 : Int) = 0 then some ((-1), (am_upd (am_upd (am_upd M 186 16 0) 186 23 ((am_upd M 186 16 0) 186 21)) 186 25 ((am_upd (am_upd M 186 16 0) 186 23 ((am_upd M 186 16 0) 186 21)) 186 22))) else (if (x1 : Int) < 3 then am_bnd (am_run d 50 [.inr 186, .inl x1] (am_upd M 186 16 0)) (fun r2 M2 => some (r2, M2)) else am_bnd (am_run d 51 [.inr 186] (am_upd M 186 16 0)) (fun r1 M1 => some (r1, M1)))) := (am_blk am_h52 [35] 400 d 35 _ _ M).trans rfl
-- 53: LentHandsModel.fault(I)I; stops []
set_option maxRecDepth 100000 in
theorem e53 (d : Nat) (p1 : Int) (M : am_M) : am_run (d + 1) 53 [.inr 186, .inl p1] M = (if (p1 : Int) = 0 then some ((M 186 23), M) else (if (p1 : Int) = 1 then some ((M 186 25), M) else some ((-1), M))) := (am_run_s _ _ _ _).trans (((am_blk am_h53 [] 400 d 0 _ _ M).trans rfl))
-- 54: LentHandsModel.both(III)I; stops []
set_option maxRecDepth 100000 in
theorem e54 (d : Nat) (p0 : Int) (p1 : Int) (p2 : Int) (M : am_M) : am_run (d + 1) 54 [.inl p0, .inl p1, .inl p2] M = (if (p0 : Int) = 23 then some ((am_wrap (p1 + p2)), M) else (if (p0 : Int) = 24 then some ((am_wrap (p1 - p2)), M) else (if (p0 : Int) = 25 then some ((am_wrap (p1 * p2)), M) else (if (p0 : Int) = 26 then some ((am_ior p1 p2), M) else (if (p0 : Int) = 27 then (if (p1 : Int) < p2 then some (1, M) else some (0, M)) else (if (p0 : Int) = 28 then (if (p1 : Int) = p2 then some (1, M) else some (0, M)) else (if (p0 : Int) = 29 then (if (p2 : Int) < p1 then some (1, M) else some (0, M)) else (if (p0 : Int) = 30 then some ((am_ior p1 p2), M) else (if (p0 : Int) = 31 then some ((am_iand p1 p2), M) else some ((am_ior p1 p2), M)))))))))) := (am_run_s _ _ _ _).trans (((am_blk am_h54 [] 400 d 0 _ _ M).trans rfl))
-- 55: LentHandsModel.comesTo(III)I; stops [4]
set_option maxRecDepth 100000 in
theorem e55 (d : Nat) (p1 : Int) (p2 : Int) (p3 : Int) (M : am_M) : am_run (d + 1) 55 [.inr 186, .inl p1, .inl p2, .inl p3] M = am_L d 55 4 [some (.inr 186), some (.inl p1), some (.inl p2), some (.inl p3), some (.inl 0), some (.inl p2), none, none] [] M := (am_run_s _ _ _ _).trans (((am_blk am_h55 [4] 400 d 0 _ _ M).trans rfl))
set_option maxRecDepth 100000 in
theorem e55_4 (d : Nat) (x1 : Int) (x2 : Int) (x3 : Int) (x4 : Int) (x5 : Int) (o6 : Option am_V) (o7 : Option am_V) (M : am_M) : am_L d 55 4 [some (.inr 186), some (.inl x1), some (.inl x2), some (.inl x3), some (.inl x4), some (.inl x5), o6, o7] [] M = (if (x5 : Int) < x3 then am_chk (0 ≤ ((am_wrap ((am_wrap (996 + (am_wrap (820 * x1)))) + (am_wrap (2 * x5)))) : Int) ∧ (am_wrap ((am_wrap (996 + (am_wrap (820 * x1)))) + (am_wrap (2 * x5)))) < 3456) (am_chk (0 ≤ ((am_wrap ((am_wrap ((am_wrap (996 + (am_wrap (820 * x1)))) + (am_wrap (2 * x5)))) + 1)) : Int) ∧ (am_wrap ((am_wrap ((am_wrap (996 + (am_wrap (820 * x1)))) + (am_wrap (2 * x5)))) + 1)) < 3456) ((if ((M 187 (am_wrap ((am_wrap (996 + (am_wrap (820 * x1)))) + (am_wrap (2 * x5))))) : Int) < 23 then (if ((M 187 (am_wrap ((am_wrap (996 + (am_wrap (820 * x1)))) + (am_wrap (2 * x5))))) : Int) = 0 then am_chk (0 ≤ (x4 : Int) ∧ x4 < 420) (am_L d 55 4 [some (.inr 186), some (.inl x1), some (.inl x2), some (.inl x3), some (.inl (am_wrap (x4 + 1))), some (.inl (am_wrap (x5 + 1))), some (.inl (M 187 (am_wrap ((am_wrap (996 + (am_wrap (820 * x1)))) + (am_wrap (2 * x5)))))), some (.inl (M 187 (am_wrap ((am_wrap ((am_wrap (996 + (am_wrap (820 * x1)))) + (am_wrap (2 * x5)))) + 1))))] [] (am_upd M 195 x4 (M 187 (am_wrap ((am_wrap ((am_wrap (996 + (am_wrap (820 * x1)))) + (am_wrap (2 * x5)))) + 1))))) else am_chk (0 ≤ ((M 187 (am_wrap ((am_wrap (996 + (am_wrap (820 * x1)))) + (am_wrap (2 * x5))))) : Int) ∧ (M 187 (am_wrap ((am_wrap (996 + (am_wrap (820 * x1)))) + (am_wrap (2 * x5))))) < 15) (am_chk (0 ≤ (x4 : Int) ∧ x4 < 420) (am_L d 55 4 [some (.inr 186), some (.inl x1), some (.inl x2), some (.inl x3), some (.inl (am_wrap (x4 + 1))), some (.inl (am_wrap (x5 + 1))), some (.inl (M 187 (am_wrap ((am_wrap (996 + (am_wrap (820 * x1)))) + (am_wrap (2 * x5)))))), some (.inl (M 187 (am_wrap ((am_wrap ((am_wrap (996 + (am_wrap (820 * x1)))) + (am_wrap (2 * x5)))) + 1))))] [] (am_upd M 195 x4 (M 196 (M 187 (am_wrap ((am_wrap (996 + (am_wrap (820 * x1)))) + (am_wrap (2 * x5)))))))))) else (if ((M 187 (am_wrap ((am_wrap (996 + (am_wrap (820 * x1)))) + (am_wrap (2 * x5))))) : Int) = 26 then am_chk (0 ≤ ((am_wrap (x4 - 1)) : Int) ∧ (am_wrap (x4 - 1)) < 420) (am_chk (¬ ((M 187 (am_wrap ((am_wrap ((am_wrap (996 + (am_wrap (820 * x1)))) + (am_wrap (2 * x5)))) + 1))) : Int) = 0) (am_chk (0 ≤ ((am_wrap (x4 - 1)) : Int) ∧ (am_wrap (x4 - 1)) < 420) (am_L d 55 4 [some (.inr 186), some (.inl x1), some (.inl x2), some (.inl x3), some (.inl x4), some (.inl (am_wrap (x5 + 1))), some (.inl (M 187 (am_wrap ((am_wrap (996 + (am_wrap (820 * x1)))) + (am_wrap (2 * x5)))))), some (.inl (M 187 (am_wrap ((am_wrap ((am_wrap (996 + (am_wrap (820 * x1)))) + (am_wrap (2 * x5)))) + 1))))] [] (am_upd M 195 (am_wrap (x4 - 1)) (am_idiv (M 195 (am_wrap (x4 - 1))) (M 187 (am_wrap ((am_wrap ((am_wrap (996 + (am_wrap (820 * x1)))) + (am_wrap (2 * x5)))) + 1)))))))) else (if ((M 187 (am_wrap ((am_wrap (996 + (am_wrap (820 * x1)))) + (am_wrap (2 * x5))))) : Int) = 30 then am_chk (0 ≤ ((am_wrap (x4 - 1)) : Int) ∧ (am_wrap (x4 - 1)) < 420) (am_chk (0 ≤ ((am_wrap (x4 - 1)) : Int) ∧ (am_wrap (x4 - 1)) < 420) (am_L d 55 4 [some (.inr 186), some (.inl x1), some (.inl x2), some (.inl x3), some (.inl x4), some (.inl (am_wrap (x5 + 1))), some (.inl (M 187 (am_wrap ((am_wrap (996 + (am_wrap (820 * x1)))) + (am_wrap (2 * x5)))))), some (.inl (M 187 (am_wrap ((am_wrap ((am_wrap (996 + (am_wrap (820 * x1)))) + (am_wrap (2 * x5)))) + 1))))] [] (am_upd M 195 (am_wrap (x4 - 1)) (am_wrap (1 - (M 195 (am_wrap (x4 - 1)))))))) else am_chk (0 ≤ ((am_wrap ((am_wrap (x4 + (-1))) - 1)) : Int) ∧ (am_wrap ((am_wrap (x4 + (-1))) - 1)) < 420) (am_chk (0 ≤ ((am_wrap (x4 + (-1))) : Int) ∧ (am_wrap (x4 + (-1))) < 420) (am_bnd (am_run d 54 [.inl (M 187 (am_wrap ((am_wrap (996 + (am_wrap (820 * x1)))) + (am_wrap (2 * x5))))), .inl (M 195 (am_wrap ((am_wrap (x4 + (-1))) - 1))), .inl (M 195 (am_wrap (x4 + (-1))))] M) (fun r1 M1 => am_chk (0 ≤ ((am_wrap ((am_wrap (x4 + (-1))) - 1)) : Int) ∧ (am_wrap ((am_wrap (x4 + (-1))) - 1)) < 420) (am_L d 55 4 [some (.inr 186), some (.inl x1), some (.inl x2), some (.inl x3), some (.inl (am_wrap (x4 + (-1)))), some (.inl (am_wrap (x5 + 1))), some (.inl (M 187 (am_wrap ((am_wrap (996 + (am_wrap (820 * x1)))) + (am_wrap (2 * x5)))))), some (.inl (M 187 (am_wrap ((am_wrap ((am_wrap (996 + (am_wrap (820 * x1)))) + (am_wrap (2 * x5)))) + 1))))] [] (am_upd M1 195 (am_wrap ((am_wrap (x4 + (-1))) - 1)) r1)))))))))) else am_chk (0 ≤ (0 : Int) ∧ 0 < 420) (some ((M 195 0), M))) := (am_blk am_h55 [4] 400 d 4 _ _ M).trans rfl
-- 56: LentHandsModel.holds(II)Z; stops []
set_option maxRecDepth 100000 in
theorem e56 (d : Nat) (p1 : Int) (p2 : Int) (M : am_M) : am_run (d + 1) 56 [.inr 186, .inl p1, .inl p2] M = am_chk (0 ≤ ((am_wrap ((am_wrap (900 + (am_wrap (16 * p1)))) + p2)) : Int) ∧ (am_wrap ((am_wrap (900 + (am_wrap (16 * p1)))) + p2)) < 3456) (am_chk (0 ≤ ((am_wrap ((am_wrap (852 + (am_wrap (16 * p1)))) + p2)) : Int) ∧ (am_wrap ((am_wrap (852 + (am_wrap (16 * p1)))) + p2)) < 3456) ((if ((M 187 (am_wrap ((am_wrap (900 + (am_wrap (16 * p1)))) + p2))) : Int) = (M 187 (am_wrap ((am_wrap (852 + (am_wrap (16 * p1)))) + p2))) then some (1, M) else am_chk (0 ≤ ((am_wrap ((am_wrap (852 + (am_wrap (16 * p1)))) + p2)) : Int) ∧ (am_wrap ((am_wrap (852 + (am_wrap (16 * p1)))) + p2)) < 3456) (am_chk (0 ≤ ((am_wrap ((am_wrap (900 + (am_wrap (16 * p1)))) + p2)) : Int) ∧ (am_wrap ((am_wrap (900 + (am_wrap (16 * p1)))) + p2)) < 3456) (am_bnd (am_run d 55 [.inr 186, .inl p1, .inl (M 187 (am_wrap ((am_wrap (852 + (am_wrap (16 * p1)))) + p2))), .inl (M 187 (am_wrap ((am_wrap (900 + (am_wrap (16 * p1)))) + p2)))] M) (fun r1 M1 => (if (r1 : Int) = 1 then some (1, M1) else some (0, M1)))))))) := (am_run_s _ _ _ _).trans (((am_blk am_h56 [] 400 d 0 _ _ M).trans rfl))
-- 57: LentHandsModel.saysWord(II)I; stops [2]
set_option maxRecDepth 100000 in
theorem e57 (d : Nat) (p1 : Int) (p2 : Int) (M : am_M) : am_run (d + 1) 57 [.inr 186, .inl p1, .inl p2] M = am_L d 57 2 [some (.inr 186), some (.inl p1), some (.inl p2), some (.inl 0)] [] M := (am_run_s _ _ _ _).trans (((am_blk am_h57 [2] 400 d 0 _ _ M).trans rfl))
set_option maxRecDepth 100000 in
theorem e57_2 (d : Nat) (x1 : Int) (x2 : Int) (x3 : Int) (M : am_M) : am_L d 57 2 [some (.inr 186), some (.inl x1), some (.inl x2), some (.inl x3)] [] M = am_chk (0 ≤ ((am_wrap (288 + x1)) : Int) ∧ (am_wrap (288 + x1)) < 3456) ((if (x3 : Int) < (M 187 (am_wrap (288 + x1))) then am_bnd (am_run d 56 [.inr 186, .inl x1, .inl x3] M) (fun r1 M1 => (if (r1 : Int) = 0 then am_L d 57 2 [some (.inr 186), some (.inl x1), some (.inl x2), some (.inl (am_wrap (x3 + 1)))] [] M1 else am_chk (0 ≤ ((am_wrap ((am_wrap (948 + (am_wrap (16 * x1)))) + x3)) : Int) ∧ (am_wrap ((am_wrap (948 + (am_wrap (16 * x1)))) + x3)) < 3456) (some ((M1 187 (am_wrap ((am_wrap (948 + (am_wrap (16 * x1)))) + x3))), M1)))) else some (x2, M))) := (am_blk am_h57 [2] 400 d 2 _ _ M).trans rfl
-- 58: LentHandsModel.saysOf(II)I; stops [2]
set_option maxRecDepth 100000 in
theorem e58 (d : Nat) (p1 : Int) (p2 : Int) (M : am_M) : am_run (d + 1) 58 [.inr 186, .inl p1, .inl p2] M = am_L d 58 2 [some (.inr 186), some (.inl p1), some (.inl p2), some (.inl 0)] [] M := (am_run_s _ _ _ _).trans (((am_blk am_h58 [2] 400 d 0 _ _ M).trans rfl))
set_option maxRecDepth 100000 in
theorem e58_2 (d : Nat) (x1 : Int) (x2 : Int) (x3 : Int) (M : am_M) : am_L d 58 2 [some (.inr 186), some (.inl x1), some (.inl x2), some (.inl x3)] [] M = am_chk (0 ≤ (289 : Int) ∧ 289 < 3456) ((if (x3 : Int) < (M 187 289) then am_chk (0 ≤ ((am_wrap (964 + x3)) : Int) ∧ (am_wrap (964 + x3)) < 3456) ((if ((M 187 (am_wrap (964 + x3))) : Int) = x1 then am_bnd (am_run d 56 [.inr 186, .inl 1, .inl x3] M) (fun r1 M1 => (if (r1 : Int) = 0 then am_L d 58 2 [some (.inr 186), some (.inl x1), some (.inl x2), some (.inl (am_wrap (x3 + 1)))] [] M1 else am_chk (0 ≤ ((am_wrap (820 + x3)) : Int) ∧ (am_wrap (820 + x3)) < 3456) (am_chk (0 ≤ ((am_wrap (868 + x3)) : Int) ∧ (am_wrap (868 + x3)) < 3456) (am_bnd (am_run d 55 [.inr 186, .inl 1, .inl (M1 187 (am_wrap (820 + x3))), .inl (M1 187 (am_wrap (868 + x3)))] M1) (fun r2 M2 => am_bnd (am_run d 1 [.inl x2, .inl r2] M2) (fun r3 M3 => am_bnd (am_run d 2 [.inl 0, .inl r3] M3) (fun r4 M4 => some (r4, M4)))))))) else am_L d 58 2 [some (.inr 186), some (.inl x1), some (.inl x2), some (.inl (am_wrap (x3 + 1)))] [] M)) else some (0, M))) := (am_blk am_h58 [2] 400 d 2 _ _ M).trans rfl
-- 59: LentHandsModel.bestOf(I)I; stops [4]
set_option maxRecDepth 100000 in
theorem e59 (d : Nat) (p1 : Int) (M : am_M) : am_run (d + 1) 59 [.inr 186, .inl p1] M = am_L d 59 4 [some (.inr 186), some (.inl p1), some (.inl 0), some (.inl 0)] [] M := (am_run_s _ _ _ _).trans (((am_blk am_h59 [4] 400 d 0 _ _ M).trans rfl))
set_option maxRecDepth 100000 in
theorem e59_4 (d : Nat) (x1 : Int) (x2 : Int) (x3 : Int) (M : am_M) : am_L d 59 4 [some (.inr 186), some (.inl x1), some (.inl x2), some (.inl x3)] [] M = (if (x3 : Int) < 4 then am_bnd (am_run d 5 [.inr 186, .inl x1, .inl (am_wrap (0 + x3))] M) (fun r1 M1 => am_bnd (am_run d 2 [.inl x2, .inl r1] M1) (fun r2 M2 => am_L d 59 4 [some (.inr 186), some (.inl x1), some (.inl r2), some (.inl (am_wrap (x3 + 1)))] [] M2)) else some (x2, M)) := (am_blk am_h59 [4] 400 d 4 _ _ M).trans rfl
-- 60: LentHandsModel.loansOf(I)I; stops [4]
set_option maxRecDepth 100000 in
theorem e60 (d : Nat) (p1 : Int) (M : am_M) : am_run (d + 1) 60 [.inr 186, .inl p1] M = am_L d 60 4 [some (.inr 186), some (.inl p1), some (.inl 0), some (.inl 0)] [] M := (am_run_s _ _ _ _).trans (((am_blk am_h60 [4] 400 d 0 _ _ M).trans rfl))
set_option maxRecDepth 100000 in
theorem e60_4 (d : Nat) (x1 : Int) (x2 : Int) (x3 : Int) (M : am_M) : am_L d 60 4 [some (.inr 186), some (.inl x1), some (.inl x2), some (.inl x3)] [] M = am_chk (0 ≤ (1 : Int) ∧ 1 < 3456) ((if (x3 : Int) < (M 187 1) then am_bnd (am_run d 7 [.inr 186, .inl x3, .inl 0] M) (fun r1 M1 => (if (r1 : Int) = x1 then am_L d 60 4 [some (.inr 186), some (.inl x1), some (.inl (am_wrap (x2 + 1))), some (.inl (am_wrap (x3 + 1)))] [] M1 else am_L d 60 4 [some (.inr 186), some (.inl x1), some (.inl (am_wrap (x2 + 0))), some (.inl (am_wrap (x3 + 1)))] [] M1)) else some (x2, M))) := (am_blk am_h60 [4] 400 d 4 _ _ M).trans rfl
-- 61: LentHandsModel.latestOf(I)I; stops [7]
set_option maxRecDepth 100000 in
theorem e61 (d : Nat) (p1 : Int) (M : am_M) : am_run (d + 1) 61 [.inr 186, .inl p1] M = am_chk (0 ≤ (1 : Int) ∧ 1 < 3456) (am_L d 61 7 [some (.inr 186), some (.inl p1), some (.inl (am_wrap ((M 187 1) - 1)))] [] M) := (am_run_s _ _ _ _).trans (((am_blk am_h61 [7] 400 d 0 _ _ M).trans rfl))
set_option maxRecDepth 100000 in
theorem e61_7 (d : Nat) (x1 : Int) (x2 : Int) (M : am_M) : am_L d 61 7 [some (.inr 186), some (.inl x1), some (.inl x2)] [] M = (if (x2 : Int) < 0 then some ((-1), M) else am_bnd (am_run d 7 [.inr 186, .inl x2, .inl 0] M) (fun r1 M1 => (if (r1 : Int) = x1 then some (x2, M1) else am_L d 61 7 [some (.inr 186), some (.inl x1), some (.inl (am_wrap (x2 + (-1))))] [] M1))) := (am_blk am_h61 [7] 400 d 7 _ _ M).trans rfl
-- 62: LentHandsModel.handFacts(II)V; stops []
set_option maxRecDepth 100000 in
theorem e62 (d : Nat) (p1 : Int) (p2 : Int) (M : am_M) : am_run (d + 1) 62 [.inr 186, .inl p1, .inl p2] M = am_chk (¬ (2 : Int) = 0) (am_chk (0 ≤ (1 : Int) ∧ 1 < 15) (am_bnd (am_run d 59 [.inr 186, .inl p1] (am_upd M 196 1 (am_wrap (1 - (am_irem p1 2))))) (fun r1 M1 => am_chk (0 ≤ (2 : Int) ∧ 2 < 15) (am_bnd (am_run d 5 [.inr 186, .inl p1, .inl 4] (am_upd M1 196 2 r1)) (fun r2 M2 => am_chk (0 ≤ (3 : Int) ∧ 3 < 15) (am_bnd (am_run d 5 [.inr 186, .inl p1, .inl 5] (am_upd M2 196 3 r2)) (fun r3 M3 => am_chk (0 ≤ (4 : Int) ∧ 4 < 15) (am_bnd (am_run d 5 [.inr 186, .inl p1, .inl 7] (am_upd M3 196 4 r3)) (fun r4 M4 => am_chk (0 ≤ (12 : Int) ∧ 12 < 15) (am_bnd (am_run d 13 [.inl p1] (am_upd M4 196 12 r4)) (fun r5 M5 => (if (r5 : Int) = p2 then am_chk (0 ≤ (9 : Int) ∧ 9 < 15) (am_chk (0 ≤ ((am_wrap (277 + p2)) : Int) ∧ (am_wrap (277 + p2)) < 3456) (am_chk (0 ≤ (8 : Int) ∧ 8 < 15) (some (0, (am_upd (am_upd M5 196 9 1) 196 8 ((am_upd M5 196 9 1) 187 (am_wrap (277 + p2)))))))) else am_chk (0 ≤ (9 : Int) ∧ 9 < 15) (am_chk (0 ≤ ((am_wrap (277 + p2)) : Int) ∧ (am_wrap (277 + p2)) < 3456) (am_chk (0 ≤ (8 : Int) ∧ 8 < 15) (some (0, (am_upd (am_upd M5 196 9 0) 196 8 ((am_upd M5 196 9 0) 187 (am_wrap (277 + p2)))))))))))))))))))) := (am_run_s _ _ _ _).trans (((am_blk am_h62 [] 400 d 0 _ _ M).trans rfl))
-- 63: LentHandsModel.mayBe(IIII)Z; stops []
set_option maxRecDepth 100000 in
theorem e63 (d : Nat) (p1 : Int) (p2 : Int) (p3 : Int) (p4 : Int) (M : am_M) : am_run (d + 1) 63 [.inr 186, .inl p1, .inl p2, .inl p3, .inl p4] M = am_bnd (am_run d 62 [.inr 186, .inl p1, .inl p2] M) (fun _ M1 => am_chk (0 ≤ (5 : Int) ∧ 5 < 15) (am_chk (0 ≤ (6 : Int) ∧ 6 < 15) (am_bnd (am_run d 3 [.inr 186, .inl p2, .inl 0] (am_upd (am_upd M1 196 5 p3) 196 6 p4)) (fun r2 M2 => am_chk (0 ≤ (7 : Int) ∧ 7 < 15) (am_bnd (am_run d 60 [.inr 186, .inl p1] (am_upd M2 196 7 r2)) (fun r3 M3 => am_chk (0 ≤ (10 : Int) ∧ 10 < 15) (am_bnd (am_run d 57 [.inr 186, .inl 0, .inl 20] (am_upd M3 196 10 r3)) (fun r4 M4 => (if (r4 : Int) = 20 then some (1, M4) else some (0, M4)))))))))) := (am_run_s _ _ _ _).trans (((am_blk am_h63 [] 400 d 0 _ _ M).trans rfl))
-- 64: LentHandsModel.keeps()V; stops [6, 29]
set_option maxRecDepth 100000 in
theorem e64 (d : Nat) (M : am_M) : am_run (d + 1) 64 [.inr 186] M = (if ((M 186 4) : Int) = 6 then am_L d 64 6 [some (.inr 186), some (.inl 0)] [] M else am_L d 64 29 [some (.inr 186), some (.inl 0)] [] M) := (am_run_s _ _ _ _).trans (((am_blk am_h64 [6, 29] 400 d 0 _ _ M).trans rfl))
set_option maxRecDepth 100000 in
theorem e64_6 (d : Nat) (x1 : Int) (M : am_M) : am_L d 64 6 [some (.inr 186), some (.inl x1)] [] M = (if (x1 : Int) < 1380 then am_chk (0 ≤ ((am_wrap (x1 + 276)) : Int) ∧ (am_wrap (x1 + 276)) < 1656) (am_chk (0 ≤ (x1 : Int) ∧ x1 < 1656) (am_L d 64 6 [some (.inr 186), some (.inl (am_wrap (x1 + 1)))] [] (am_upd M 189 x1 (M 189 (am_wrap (x1 + 276)))))) else am_L d 64 29 [some (.inr 186), some (.inl 0)] [] (am_upd M 186 4 (am_wrap ((M 186 4) - 1)))) := (am_blk am_h64 [6, 29] 400 d 6 _ _ M).trans rfl
set_option maxRecDepth 100000 in
theorem e64_29 (d : Nat) (x1 : Int) (M : am_M) : am_L d 64 29 [some (.inr 186), some (.inl x1)] [] M = (if (x1 : Int) < 276 then am_chk (0 ≤ (x1 : Int) ∧ x1 < 3456) (am_chk (0 ≤ ((am_wrap ((am_wrap (276 * (M 186 4))) + x1)) : Int) ∧ (am_wrap ((am_wrap (276 * (M 186 4))) + x1)) < 1656) (am_L d 64 29 [some (.inr 186), some (.inl (am_wrap (x1 + 1)))] [] (am_upd M 189 (am_wrap ((am_wrap (276 * (M 186 4))) + x1)) (M 187 x1)))) else some (0, (am_upd M 186 4 (am_wrap ((M 186 4) + 1))))) := (am_blk am_h64 [6, 29] 400 d 29 _ _ M).trans rfl
-- 65: LentHandsModel.undo()Z; stops [13]
set_option maxRecDepth 100000 in
theorem e65 (d : Nat) (M : am_M) : am_run (d + 1) 65 [.inr 186] M = (if ((M 186 4) : Int) = 0 then some (0, M) else am_L d 65 13 [some (.inr 186), some (.inl 0)] [] (am_upd M 186 4 (am_wrap ((M 186 4) - 1)))) := (am_run_s _ _ _ _).trans (((am_blk am_h65 [13] 400 d 0 _ _ M).trans rfl))
set_option maxRecDepth 100000 in
theorem e65_13 (d : Nat) (x1 : Int) (M : am_M) : am_L d 65 13 [some (.inr 186), some (.inl x1)] [] M = (if (x1 : Int) < 276 then am_chk (0 ≤ ((am_wrap ((am_wrap (276 * (M 186 4))) + x1)) : Int) ∧ (am_wrap ((am_wrap (276 * (M 186 4))) + x1)) < 1656) (am_chk (0 ≤ (x1 : Int) ∧ x1 < 3456) (am_L d 65 13 [some (.inr 186), some (.inl (am_wrap (x1 + 1)))] [] (am_upd M 187 x1 (M 189 (am_wrap ((am_wrap (276 * (M 186 4))) + x1)))))) else some (1, M)) := (am_blk am_h65 [13] 400 d 13 _ _ M).trans rfl
-- 66: LentHandsModel.goes(II)V; stops []
set_option maxRecDepth 100000 in
theorem e66 (d : Nat) (p1 : Int) (p2 : Int) (M : am_M) : am_run (d + 1) 66 [.inr 186, .inl p1, .inl p2] M = am_bnd (am_run d 6 [.inr 186, .inl p1, .inl 8, .inl p2] M) (fun _ M1 => am_bnd (am_run d 6 [.inr 186, .inl p1, .inl 7, .inl 0] M1) (fun _ M2 => some (0, M2))) := (am_run_s _ _ _ _).trans (((am_blk am_h66 [] 400 d 0 _ _ M).trans rfl))
-- 67: LentHandsModel.isLoan(II)Z; stops []
set_option maxRecDepth 100000 in
theorem e67 (d : Nat) (p0 : Int) (p1 : Int) (M : am_M) : am_run (d + 1) 67 [.inl p0, .inl p1] M = am_bnd (am_run d 0 [.inl p0, .inl 1, .inl 99] M) (fun r1 M1 => (if (r1 : Int) = 0 then some (0, M1) else am_bnd (am_run d 0 [.inl p1, .inl 0, .inl 99] M1) (fun r2 M2 => (if (r2 : Int) = 0 then some (0, M2) else some (1, M2))))) := (am_run_s _ _ _ _).trans (((am_blk am_h67 [] 400 d 0 _ _ M).trans rfl))
-- 68: LentHandsModel.canLend(IIII)Z; stops []
set_option maxRecDepth 100000 in
theorem e68 (d : Nat) (p1 : Int) (p2 : Int) (p3 : Int) (p4 : Int) (M : am_M) : am_run (d + 1) 68 [.inr 186, .inl p1, .inl p2, .inl p3, .inl p4] M = am_bnd (am_run d 9 [.inr 186, .inl p1] M) (fun r1 M1 => (if (r1 : Int) = 0 then some (0, M1) else am_bnd (am_run d 8 [.inr 186, .inl p2] M1) (fun r2 M2 => (if (r2 : Int) = 0 then some (0, M2) else am_bnd (am_run d 67 [.inl p3, .inl p4] M2) (fun r3 M3 => (if (r3 : Int) = 0 then some (0, M3) else am_chk (0 ≤ (1 : Int) ∧ 1 < 3456) ((if ((M3 187 1) : Int) = 16 then some (0, M3) else am_bnd (am_run d 5 [.inr 186, .inl p1, .inl 8] M3) (fun r4 M4 => (if (r4 : Int) = (-1) then some (0, M4) else am_bnd (am_run d 5 [.inr 186, .inl p1, .inl 8] M4) (fun r5 M5 => (if (r5 : Int) = p2 then some (0, M5) else am_bnd (am_run d 61 [.inr 186, .inl p1] M5) (fun r6 M6 => (if (r6 : Int) = (-1) then am_bnd (am_run d 3 [.inr 186, .inl p2, .inl 0] M6) (fun r7 M7 => (if (r7 : Int) < (am_wrap (p3 * p4)) then some (0, M7) else am_bnd (am_run d 63 [.inr 186, .inl p1, .inl p2, .inl p3, .inl p4] M7) (fun r8 M8 => (if (r8 : Int) = 0 then some (0, M8) else some (1, M8))))) else am_chk (0 ≤ (0 : Int) ∧ 0 < 3456) (am_bnd (am_run d 7 [.inr 186, .inl r6, .inl 3] M6) (fun r9 M9 => (if (r9 : Int) < (am_wrap ((M6 187 0) + p3)) then some (0, M9) else am_bnd (am_run d 3 [.inr 186, .inl p2, .inl 0] M9) (fun r10 M10 => (if (r10 : Int) < (am_wrap (p3 * p4)) then some (0, M10) else am_bnd (am_run d 63 [.inr 186, .inl p1, .inl p2, .inl p3, .inl p4] M10) (fun r11 M11 => (if (r11 : Int) = 0 then some (0, M11) else some (1, M11)))))))))))))))))))))) := (am_run_s _ _ _ _).trans (((am_blk am_h68 [] 400 d 0 _ _ M).trans rfl))
-- 69: LentHandsModel.earns(II)V; stops []
set_option maxRecDepth 100000 in
theorem e69 (d : Nat) (p1 : Int) (p2 : Int) (M : am_M) : am_run (d + 1) 69 [.inr 186, .inl p1, .inl p2] M = am_bnd (am_run d 3 [.inr 186, .inl p1, .inl 0] M) (fun r1 M1 => am_bnd (am_run d 1 [.inl 9999, .inl (am_wrap (r1 + p2))] M1) (fun r2 M2 => am_bnd (am_run d 4 [.inr 186, .inl p1, .inl 0, .inl r2] M2) (fun _ M3 => some (0, M3)))) := (am_run_s _ _ _ _).trans (((am_blk am_h69 [] 400 d 0 _ _ M).trans rfl))
-- 70: LentHandsModel.lends(IIII)I; stops []
set_option maxRecDepth 100000 in
theorem e70 (d : Nat) (p1 : Int) (p2 : Int) (p3 : Int) (p4 : Int) (M : am_M) : am_run (d + 1) 70 [.inr 186, .inl p1, .inl p2, .inl p3, .inl p4] M = am_bnd (am_run d 5 [.inr 186, .inl p1, .inl 8] M) (fun r1 M1 => am_chk (0 ≤ (1 : Int) ∧ 1 < 3456) (am_chk (0 ≤ ((am_wrap ((am_wrap (196 + (am_wrap (5 * (M1 187 1))))) + 0)) : Int) ∧ (am_wrap ((am_wrap (196 + (am_wrap (5 * (M1 187 1))))) + 0)) < 3456) (am_chk (0 ≤ ((am_wrap ((am_wrap (196 + (am_wrap (5 * (M1 187 1))))) + 1)) : Int) ∧ (am_wrap ((am_wrap (196 + (am_wrap (5 * (M1 187 1))))) + 1)) < 3456) (am_chk (0 ≤ ((am_wrap ((am_wrap (196 + (am_wrap (5 * (M1 187 1))))) + 2)) : Int) ∧ (am_wrap ((am_wrap (196 + (am_wrap (5 * (M1 187 1))))) + 2)) < 3456) (am_chk (0 ≤ (0 : Int) ∧ 0 < 3456) (am_chk (0 ≤ ((am_wrap ((am_wrap (196 + (am_wrap (5 * (M1 187 1))))) + 3)) : Int) ∧ (am_wrap ((am_wrap (196 + (am_wrap (5 * (M1 187 1))))) + 3)) < 3456) (am_chk (0 ≤ ((am_wrap ((am_wrap (196 + (am_wrap (5 * (M1 187 1))))) + 4)) : Int) ∧ (am_wrap ((am_wrap (196 + (am_wrap (5 * (M1 187 1))))) + 4)) < 3456) (am_chk (0 ≤ (1 : Int) ∧ 1 < 3456) (am_chk (0 ≤ (1 : Int) ∧ 1 < 3456) (am_bnd (am_run d 69 [.inr 186, .inl p2, .inl (am_wrap ((am_wrap (-p3)) * p4))] (am_upd (am_upd (am_upd (am_upd (am_upd (am_upd M1 187 (am_wrap ((am_wrap (196 + (am_wrap (5 * (M1 187 1))))) + 0)) p1) 187 (am_wrap ((am_wrap (196 + (am_wrap (5 * (M1 187 1))))) + 1)) r1) 187 (am_wrap ((am_wrap (196 + (am_wrap (5 * (M1 187 1))))) + 2)) p2) 187 (am_wrap ((am_wrap (196 + (am_wrap (5 * (M1 187 1))))) + 3)) (am_wrap (((am_upd (am_upd (am_upd M1 187 (am_wrap ((am_wrap (196 + (am_wrap (5 * (M1 187 1))))) + 0)) p1) 187 (am_wrap ((am_wrap (196 + (am_wrap (5 * (M1 187 1))))) + 1)) r1) 187 (am_wrap ((am_wrap (196 + (am_wrap (5 * (M1 187 1))))) + 2)) p2) 187 0) + p3))) 187 (am_wrap ((am_wrap (196 + (am_wrap (5 * (M1 187 1))))) + 4)) p4) 187 1 (am_wrap (((am_upd (am_upd (am_upd (am_upd (am_upd M1 187 (am_wrap ((am_wrap (196 + (am_wrap (5 * (M1 187 1))))) + 0)) p1) 187 (am_wrap ((am_wrap (196 + (am_wrap (5 * (M1 187 1))))) + 1)) r1) 187 (am_wrap ((am_wrap (196 + (am_wrap (5 * (M1 187 1))))) + 2)) p2) 187 (am_wrap ((am_wrap (196 + (am_wrap (5 * (M1 187 1))))) + 3)) (am_wrap (((am_upd (am_upd (am_upd M1 187 (am_wrap ((am_wrap (196 + (am_wrap (5 * (M1 187 1))))) + 0)) p1) 187 (am_wrap ((am_wrap (196 + (am_wrap (5 * (M1 187 1))))) + 1)) r1) 187 (am_wrap ((am_wrap (196 + (am_wrap (5 * (M1 187 1))))) + 2)) p2) 187 0) + p3))) 187 (am_wrap ((am_wrap (196 + (am_wrap (5 * (M1 187 1))))) + 4)) p4) 187 1) + 1)))) (fun _ M2 => am_bnd (am_run d 69 [.inr 186, .inl r1, .inl (am_wrap (p3 * p4))] M2) (fun _ M3 => am_chk (¬ (2 : Int) = 0) (am_bnd (am_run d 12 [.inr 186, .inl p2, .inl (am_irem p1 2)] M3) (fun r4 M4 => (if (r4 : Int) = (-1) then am_bnd (am_run d 66 [.inr 186, .inl p1, .inl p2] M4) (fun _ M5 => am_chk (0 ≤ (0 : Int) ∧ 0 < 3456) (some ((am_wrap ((M5 187 0) + p3)), M5))) else am_bnd (am_run d 66 [.inr 186, .inl r4, .inl (-1)] M4) (fun _ M6 => am_bnd (am_run d 66 [.inr 186, .inl p1, .inl p2] M6) (fun _ M7 => am_chk (0 ≤ (0 : Int) ∧ 0 < 3456) (some ((am_wrap ((M7 187 0) + p3)), M7))))))))))))))))))) := (am_run_s _ _ _ _).trans (((am_blk am_h70 [] 400 d 0 _ _ M).trans rfl))
-- 71: LentHandsModel.lend(IIII)I; stops []
set_option maxRecDepth 100000 in
theorem e71 (d : Nat) (p1 : Int) (p2 : Int) (p3 : Int) (p4 : Int) (M : am_M) : am_run (d + 1) 71 [.inr 186, .inl p1, .inl p2, .inl p3, .inl p4] M = am_bnd (am_run d 68 [.inr 186, .inl p1, .inl p2, .inl p3, .inl p4] M) (fun r1 M1 => (if (r1 : Int) = 0 then some ((-1), M1) else am_bnd (am_run d 64 [.inr 186] M1) (fun _ M2 => am_bnd (am_run d 70 [.inr 186, .inl p1, .inl p2, .inl p3, .inl p4] M2) (fun r3 M3 => some (r3, M3))))) := (am_run_s _ _ _ _).trans (((am_blk am_h71 [] 400 d 0 _ _ M).trans rfl))
-- 72: LentHandsModel.leave(II)Z; stops []
set_option maxRecDepth 100000 in
theorem e72 (d : Nat) (p1 : Int) (p2 : Int) (M : am_M) : am_run (d + 1) 72 [.inr 186, .inl p1, .inl p2] M = am_bnd (am_run d 8 [.inr 186, .inl p1] M) (fun r1 M1 => (if (r1 : Int) = 0 then some (0, M1) else am_bnd (am_run d 11 [.inl p2] M1) (fun r2 M2 => (if (r2 : Int) = 0 then some (0, M2) else am_bnd (am_run d 12 [.inr 186, .inl p1, .inl p2] M2) (fun r3 M3 => (if (r3 : Int) = (am_wrap ((am_wrap (2 * p1)) + p2)) then am_bnd (am_run d 64 [.inr 186] M3) (fun _ M4 => am_bnd (am_run d 66 [.inr 186, .inl (am_wrap ((am_wrap (2 * p1)) + p2)), .inl (-1)] M4) (fun _ M5 => some (1, M5))) else some (0, M3))))))) := (am_run_s _ _ _ _).trans (((am_blk am_h72 [] 400 d 0 _ _ M).trans rfl))
-- 73: LentHandsModel.fetch(II)Z; stops []
set_option maxRecDepth 100000 in
theorem e73 (d : Nat) (p1 : Int) (p2 : Int) (M : am_M) : am_run (d + 1) 73 [.inr 186, .inl p1, .inl p2] M = am_bnd (am_run d 8 [.inr 186, .inl p1] M) (fun r1 M1 => (if (r1 : Int) = 0 then some (0, M1) else am_bnd (am_run d 11 [.inl p2] M1) (fun r2 M2 => (if (r2 : Int) = 0 then some (0, M2) else am_bnd (am_run d 12 [.inr 186, .inl p1, .inl p2] M2) (fun r3 M3 => (if (r3 : Int) = (-1) then am_bnd (am_run d 5 [.inr 186, .inl (am_wrap ((am_wrap (2 * p1)) + p2)), .inl 8] M3) (fun r4 M4 => (if (r4 : Int) = (-1) then am_bnd (am_run d 64 [.inr 186] M4) (fun _ M5 => am_bnd (am_run d 66 [.inr 186, .inl (am_wrap ((am_wrap (2 * p1)) + p2)), .inl p1] M5) (fun _ M6 => some (1, M6))) else some (0, M4))) else some (0, M3))))))) := (am_run_s _ _ _ _).trans (((am_blk am_h73 [] 400 d 0 _ _ M).trans rfl))
-- 74: LentHandsModel.task(II)Z; stops []
set_option maxRecDepth 100000 in
theorem e74 (d : Nat) (p1 : Int) (p2 : Int) (M : am_M) : am_run (d + 1) 74 [.inr 186, .inl p1, .inl p2] M = am_bnd (am_run d 8 [.inr 186, .inl p1] M) (fun r1 M1 => (if (r1 : Int) = 0 then some (0, M1) else (if (p2 : Int) = (-1) then am_bnd (am_run d 64 [.inr 186] M1) (fun _ M2 => am_bnd (am_run d 4 [.inr 186, .inl p1, .inl 1, .inl p2] M2) (fun _ M3 => some (1, M3))) else am_bnd (am_run d 10 [.inl p2] M1) (fun r4 M4 => (if (r4 : Int) = 0 then some (0, M4) else am_bnd (am_run d 64 [.inr 186] M4) (fun _ M5 => am_bnd (am_run d 4 [.inr 186, .inl p1, .inl 1, .inl p2] M5) (fun _ M6 => some (1, M6)))))))) := (am_run_s _ _ _ _).trans (((am_blk am_h74 [] 400 d 0 _ _ M).trans rfl))
end
section
-- 75: LentHandsModel.notes(III)V; stops []
set_option maxRecDepth 100000 in
theorem e75 (d : Nat) (p1 : Int) (p2 : Int) (p3 : Int) (M : am_M) : am_run (d + 1) 75 [.inr 186, .inl p1, .inl p2, .inl p3] M = am_chk (0 ≤ (2 : Int) ∧ 2 < 3456) ((if ((M 187 2) : Int) = 100 then some (0, M) else am_chk (0 ≤ (2 : Int) ∧ 2 < 3456) (am_chk (0 ≤ (0 : Int) ∧ 0 < 3456) (am_chk (0 ≤ ((am_wrap (404 + (am_wrap (4 * (M 187 2))))) : Int) ∧ (am_wrap (404 + (am_wrap (4 * (M 187 2))))) < 3456) (am_chk (0 ≤ ((am_wrap ((am_wrap (404 + (am_wrap (4 * (M 187 2))))) + 1)) : Int) ∧ (am_wrap ((am_wrap (404 + (am_wrap (4 * (M 187 2))))) + 1)) < 3456) (am_chk (0 ≤ ((am_wrap ((am_wrap (404 + (am_wrap (4 * (M 187 2))))) + 2)) : Int) ∧ (am_wrap ((am_wrap (404 + (am_wrap (4 * (M 187 2))))) + 2)) < 3456) (am_chk (0 ≤ ((am_wrap ((am_wrap (404 + (am_wrap (4 * (M 187 2))))) + 3)) : Int) ∧ (am_wrap ((am_wrap (404 + (am_wrap (4 * (M 187 2))))) + 3)) < 3456) (am_chk (0 ≤ (2 : Int) ∧ 2 < 3456) (am_chk (0 ≤ (2 : Int) ∧ 2 < 3456) (some (0, (am_upd (am_upd (am_upd (am_upd (am_upd M 187 (am_wrap (404 + (am_wrap (4 * (M 187 2))))) (M 187 0)) 187 (am_wrap ((am_wrap (404 + (am_wrap (4 * (M 187 2))))) + 1)) p1) 187 (am_wrap ((am_wrap (404 + (am_wrap (4 * (M 187 2))))) + 2)) p2) 187 (am_wrap ((am_wrap (404 + (am_wrap (4 * (M 187 2))))) + 3)) p3) 187 2 (am_wrap (((am_upd (am_upd (am_upd (am_upd M 187 (am_wrap (404 + (am_wrap (4 * (M 187 2))))) (M 187 0)) 187 (am_wrap ((am_wrap (404 + (am_wrap (4 * (M 187 2))))) + 1)) p1) 187 (am_wrap ((am_wrap (404 + (am_wrap (4 * (M 187 2))))) + 2)) p2) 187 (am_wrap ((am_wrap (404 + (am_wrap (4 * (M 187 2))))) + 3)) p3) 187 2) + 1)))))))))))))) := (am_run_s _ _ _ _).trans (((am_blk am_h75 [] 400 d 0 _ _ M).trans rfl))
-- 76: LentHandsModel.guilty(I)V; stops []
set_option maxRecDepth 100000 in
theorem e76 (d : Nat) (p1 : Int) (M : am_M) : am_run (d + 1) 76 [.inr 186, .inl p1] M = am_bnd (am_run d 3 [.inr 186, .inl p1, .inl 2] M) (fun r1 M1 => am_bnd (am_run d 4 [.inr 186, .inl p1, .inl 2, .inl (am_wrap (r1 + 1))] M1) (fun _ M2 => some (0, M2))) := (am_run_s _ _ _ _).trans (((am_blk am_h76 [] 400 d 0 _ _ M).trans rfl))
-- 77: LentHandsModel.canDeed(II)Z; stops []
set_option maxRecDepth 100000 in
theorem e77 (d : Nat) (p1 : Int) (p2 : Int) (M : am_M) : am_run (d + 1) 77 [.inr 186, .inl p1, .inl p2] M = am_bnd (am_run d 8 [.inr 186, .inl p1] M) (fun r1 M1 => (if (r1 : Int) = 0 then some (0, M1) else am_bnd (am_run d 11 [.inl p2] M1) (fun r2 M2 => (if (r2 : Int) = 0 then some (0, M2) else am_bnd (am_run d 12 [.inr 186, .inl p1, .inl p2] M2) (fun r3 M3 => (if (r3 : Int) = (-1) then some (0, M3) else some (1, M3))))))) := (am_run_s _ _ _ _).trans (((am_blk am_h77 [] 400 d 0 _ _ M).trans rfl))
-- 78: LentHandsModel.deedBy(III)I; stops []
set_option maxRecDepth 100000 in
theorem e78 (d : Nat) (p1 : Int) (p2 : Int) (p3 : Int) (M : am_M) : am_run (d + 1) 78 [.inr 186, .inl p1, .inl p2, .inl p3] M = am_bnd (am_run d 12 [.inr 186, .inl p1, .inl p2] M) (fun r1 M1 => am_bnd (am_run d 61 [.inr 186, .inl r1] M1) (fun r2 M2 => am_bnd (am_run d 62 [.inr 186, .inl r1, .inl p1] M2) (fun _ M3 => am_chk (0 ≤ (12 : Int) ∧ 12 < 15) (am_chk (0 ≤ (12 : Int) ∧ 12 < 15) ((if (r2 : Int) = (-1) then am_chk (0 ≤ (6 : Int) ∧ 6 < 15) (am_bnd (am_run d 57 [.inr 186, .inl 2, .inl 23] (am_upd (am_upd M3 196 12 (am_wrap ((M3 196 12) + p3))) 196 6 0)) (fun r6 M6 => some ((am_wrap (r6 - 22)), M6))) else am_bnd (am_run d 7 [.inr 186, .inl r2, .inl 4] (am_upd M3 196 12 (am_wrap ((M3 196 12) + p3)))) (fun r4 M4 => am_chk (0 ≤ (6 : Int) ∧ 6 < 15) (am_bnd (am_run d 57 [.inr 186, .inl 2, .inl 23] (am_upd M4 196 6 r4)) (fun r5 M5 => some ((am_wrap (r5 - 22)), M5)))))))))) := (am_run_s _ _ _ _).trans (((am_blk am_h78 [] 400 d 0 _ _ M).trans rfl))
-- 79: LentHandsModel.deed(II)I; stops [29]
set_option maxRecDepth 100000 in
theorem e79 (d : Nat) (p1 : Int) (p2 : Int) (M : am_M) : am_run (d + 1) 79 [.inr 186, .inl p1, .inl p2] M = am_bnd (am_run d 77 [.inr 186, .inl p1, .inl p2] M) (fun r1 M1 => (if (r1 : Int) = 0 then some ((-1), M1) else am_bnd (am_run d 64 [.inr 186] M1) (fun _ M2 => am_bnd (am_run d 12 [.inr 186, .inl p1, .inl p2] M2) (fun r3 M3 => am_bnd (am_run d 78 [.inr 186, .inl p1, .inl p2, .inl 0] M3) (fun r4 M4 => (if (r4 : Int) = 0 then am_bnd (am_run d 13 [.inl r3] M4) (fun r5 M5 => am_bnd (am_run d 76 [.inr 186, .inl r5] M5) (fun _ M6 => am_L d 79 29 [some (.inr 186), some (.inl p1), some (.inl p2), some (.inl r3), some (.inl r4)] [] M6)) else (if (r4 : Int) = 2 then am_bnd (am_run d 13 [.inl r3] M4) (fun r7 M7 => am_bnd (am_run d 76 [.inr 186, .inl r7] M7) (fun _ M8 => am_L d 79 29 [some (.inr 186), some (.inl p1), some (.inl p2), some (.inl r3), some (.inl r4)] [] M8)) else am_L d 79 29 [some (.inr 186), some (.inl p1), some (.inl p2), some (.inl r3), some (.inl r4)] [] M4))))))) := (am_run_s _ _ _ _).trans (((am_blk am_h79 [29] 400 d 0 _ _ M).trans rfl))
set_option maxRecDepth 100000 in
theorem e79_29 (d : Nat) (x1 : Int) (x2 : Int) (x3 : Int) (x4 : Int) (M : am_M) : am_L d 79 29 [some (.inr 186), some (.inl x1), some (.inl x2), some (.inl x3), some (.inl x4)] [] M = (if (x4 : Int) = 1 then am_bnd (am_run d 76 [.inr 186, .inl x1] M) (fun _ M1 => am_bnd (am_run d 75 [.inr 186, .inl x3, .inl x1, .inl x4] M1) (fun _ M2 => some (x4, M2))) else (if (x4 : Int) = 2 then am_bnd (am_run d 76 [.inr 186, .inl x1] M) (fun _ M4 => am_bnd (am_run d 75 [.inr 186, .inl x3, .inl x1, .inl x4] M4) (fun _ M5 => some (x4, M5))) else am_bnd (am_run d 75 [.inr 186, .inl x3, .inl x1, .inl x4] M) (fun _ M3 => some (x4, M3)))) := (am_blk am_h79 [29] 400 d 29 _ _ M).trans rfl
-- 80: LentHandsModel.books()I; stops [4]
set_option maxRecDepth 100000 in
theorem e80 (d : Nat) (M : am_M) : am_run (d + 1) 80 [.inr 186] M = am_L d 80 4 [some (.inr 186), some (.inl 0), some (.inl 0), none] [] M := (am_run_s _ _ _ _).trans (((am_blk am_h80 [4] 400 d 0 _ _ M).trans rfl))
set_option maxRecDepth 100000 in
theorem e80_4 (d : Nat) (x1 : Int) (x2 : Int) (o3 : Option am_V) (M : am_M) : am_L d 80 4 [some (.inr 186), some (.inl x1), some (.inl x2), o3] [] M = am_chk (0 ≤ (286 : Int) ∧ 286 < 3456) ((if (x2 : Int) < (M 187 286) then am_chk (0 ≤ ((am_wrap ((am_wrap (292 + (am_wrap (5 * x2)))) + 2)) : Int) ∧ (am_wrap ((am_wrap (292 + (am_wrap (5 * x2)))) + 2)) < 3456) (am_chk (0 ≤ (0 : Int) ∧ 0 < 3456) ((if ((M 187 (am_wrap ((am_wrap (292 + (am_wrap (5 * x2)))) + 2))) : Int) = (M 187 0) then am_chk (0 ≤ ((am_wrap (292 + (am_wrap (5 * x2)))) : Int) ∧ (am_wrap (292 + (am_wrap (5 * x2)))) < 3456) (am_chk (0 ≤ ((am_wrap ((am_wrap (292 + (am_wrap (5 * x2)))) + 1)) : Int) ∧ (am_wrap ((am_wrap (292 + (am_wrap (5 * x2)))) + 1)) < 3456) (am_chk (0 ≤ ((am_wrap ((am_wrap (292 + (am_wrap (5 * x2)))) + 3)) : Int) ∧ (am_wrap ((am_wrap (292 + (am_wrap (5 * x2)))) + 3)) < 3456) (am_chk (0 ≤ ((am_wrap ((am_wrap (292 + (am_wrap (5 * x2)))) + 4)) : Int) ∧ (am_wrap ((am_wrap (292 + (am_wrap (5 * x2)))) + 4)) < 3456) (am_bnd (am_run d 68 [.inr 186, .inl (M 187 (am_wrap (292 + (am_wrap (5 * x2))))), .inl (M 187 (am_wrap ((am_wrap (292 + (am_wrap (5 * x2)))) + 1))), .inl (M 187 (am_wrap ((am_wrap (292 + (am_wrap (5 * x2)))) + 3))), .inl (M 187 (am_wrap ((am_wrap (292 + (am_wrap (5 * x2)))) + 4)))] M) (fun r1 M1 => (if (r1 : Int) = 0 then (if ((M1 186 27) : Int) = (-1) then am_chk (0 ≤ (0 : Int) ∧ 0 < 3456) (am_L d 80 4 [some (.inr 186), some (.inl (am_wrap (x1 + 1))), some (.inl (am_wrap (x2 + 1))), some (.inl (am_wrap (292 + (am_wrap (5 * x2)))))] [] (am_upd (am_upd M1 186 27 x2) 186 28 ((am_upd M1 186 27 x2) 187 0))) else am_L d 80 4 [some (.inr 186), some (.inl (am_wrap (x1 + 1))), some (.inl (am_wrap (x2 + 1))), some (.inl (am_wrap (292 + (am_wrap (5 * x2)))))] [] M1) else am_chk (0 ≤ ((am_wrap (292 + (am_wrap (5 * x2)))) : Int) ∧ (am_wrap (292 + (am_wrap (5 * x2)))) < 3456) (am_chk (0 ≤ ((am_wrap ((am_wrap (292 + (am_wrap (5 * x2)))) + 1)) : Int) ∧ (am_wrap ((am_wrap (292 + (am_wrap (5 * x2)))) + 1)) < 3456) (am_chk (0 ≤ ((am_wrap ((am_wrap (292 + (am_wrap (5 * x2)))) + 3)) : Int) ∧ (am_wrap ((am_wrap (292 + (am_wrap (5 * x2)))) + 3)) < 3456) (am_chk (0 ≤ ((am_wrap ((am_wrap (292 + (am_wrap (5 * x2)))) + 4)) : Int) ∧ (am_wrap ((am_wrap (292 + (am_wrap (5 * x2)))) + 4)) < 3456) (am_bnd (am_run d 70 [.inr 186, .inl (M1 187 (am_wrap (292 + (am_wrap (5 * x2))))), .inl (M1 187 (am_wrap ((am_wrap (292 + (am_wrap (5 * x2)))) + 1))), .inl (M1 187 (am_wrap ((am_wrap (292 + (am_wrap (5 * x2)))) + 3))), .inl (M1 187 (am_wrap ((am_wrap (292 + (am_wrap (5 * x2)))) + 4)))] M1) (fun r2 M2 => am_L d 80 4 [some (.inr 186), some (.inl x1), some (.inl (am_wrap (x2 + 1))), some (.inl (am_wrap (292 + (am_wrap (5 * x2)))))] [] M2))))))))))) else am_L d 80 4 [some (.inr 186), some (.inl x1), some (.inl (am_wrap (x2 + 1))), some (.inl (am_wrap (292 + (am_wrap (5 * x2)))))] [] M))) else some (x1, M))) := (am_blk am_h80 [4] 400 d 4 _ _ M).trans rfl
-- 81: LentHandsModel.taskFacts(IIII)V; stops []
set_option maxRecDepth 100000 in
theorem e81 (d : Nat) (p1 : Int) (p2 : Int) (p3 : Int) (p4 : Int) (M : am_M) : am_run (d + 1) 81 [.inr 186, .inl p1, .inl p2, .inl p3, .inl p4] M = am_bnd (am_run d 62 [.inr 186, .inl p1, .inl p2] M) (fun _ M1 => am_chk (0 ≤ (11 : Int) ∧ 11 < 15) (am_chk (0 ≤ (13 : Int) ∧ 13 < 15) (am_chk (0 ≤ (0 : Int) ∧ 0 < 3456) (am_chk (0 ≤ (14 : Int) ∧ 14 < 15) (some (0, (am_upd (am_upd (am_upd M1 196 11 p4) 196 13 p3) 196 14 ((am_upd (am_upd M1 196 11 p4) 196 13 p3) 187 0)))))))) := (am_run_s _ _ _ _).trans (((am_blk am_h81 [] 400 d 0 _ _ M).trans rfl))
-- 82: LentHandsModel.works(IIZ)V; stops [39]
set_option maxRecDepth 100000 in
theorem e82 (d : Nat) (p1 : Int) (p2 : Int) (p3 : Int) (M : am_M) : am_run (d + 1) 82 [.inr 186, .inl p1, .inl p2, .inl p3] M = am_bnd (am_run d 3 [.inr 186, .inl p1, .inl 1] M) (fun r1 M1 => am_bnd (am_run d 5 [.inr 186, .inl p2, .inl (am_wrap (0 + r1))] M1) (fun r2 M2 => am_bnd (am_run d 81 [.inr 186, .inl p2, .inl p1, .inl r1, .inl r2] M2) (fun _ M3 => am_bnd (am_run d 58 [.inr 186, .inl 26, .inl 9] M3) (fun r4 M4 => am_bnd (am_run d 58 [.inr 186, .inl 27, .inl 9] M4) (fun r5 M5 => am_bnd (am_run d 58 [.inr 186, .inl 29, .inl 99] M5) (fun r6 M6 => (if (p3 : Int) = 0 then am_L d 82 39 [some (.inr 186), some (.inl p1), some (.inl p2), some (.inl p3), some (.inl r1), some (.inl r4), some (.inl r5), some (.inl r6), none] [.inl 0] M6 else am_bnd (am_run d 58 [.inr 186, .inl 28, .inl 1000] M6) (fun r7 M7 => am_L d 82 39 [some (.inr 186), some (.inl p1), some (.inl p2), some (.inl p3), some (.inl r1), some (.inl r4), some (.inl r5), some (.inl r6), none] [.inl r7] M7)))))))) := (am_run_s _ _ _ _).trans (((am_blk am_h82 [39] 400 d 0 _ _ M).trans rfl))
set_option maxRecDepth 100000 in
theorem e82_39 (d : Nat) (x1 : Int) (x2 : Int) (x3 : Int) (x4 : Int) (x5 : Int) (x6 : Int) (x7 : Int) (xs0 : Int) (M : am_M) : am_L d 82 39 [some (.inr 186), some (.inl x1), some (.inl x2), some (.inl x3), some (.inl x4), some (.inl x5), some (.inl x6), some (.inl x7), none] [.inl xs0] M = am_bnd (am_run d 5 [.inr 186, .inl x2, .inl (am_wrap (0 + x4))] M) (fun r1 M1 => am_bnd (am_run d 1 [.inl 99, .inl (am_wrap (r1 + x5))] M1) (fun r2 M2 => am_bnd (am_run d 6 [.inr 186, .inl x2, .inl (am_wrap (0 + x4)), .inl r2] M2) (fun _ M3 => am_bnd (am_run d 5 [.inr 186, .inl x2, .inl 4] M3) (fun r4 M4 => am_bnd (am_run d 1 [.inl 99, .inl (am_wrap (r4 + x6))] M4) (fun r5 M5 => am_bnd (am_run d 6 [.inr 186, .inl x2, .inl 4, .inl r5] M5) (fun _ M6 => am_bnd (am_run d 69 [.inr 186, .inl x1, .inl x7] M6) (fun _ M7 => (if (0 : Int) < xs0 then am_bnd (am_run d 16 [.inr 186, .inl 1000] M7) (fun r8 M8 => (if (r8 : Int) < xs0 then am_bnd (am_run d 5 [.inr 186, .inl x2, .inl 5] M8) (fun r9 M9 => am_bnd (am_run d 1 [.inl 9, .inl (am_wrap (r9 + 1))] M9) (fun r10 M10 => am_bnd (am_run d 6 [.inr 186, .inl x2, .inl 5, .inl r10] M10) (fun _ M11 => some (0, M11)))) else some (0, M8))) else some (0, M7))))))))) := (am_blk am_h82 [39] 400 d 39 _ _ M).trans rfl
-- 83: LentHandsModel.ends(I)V; stops [35, 64]
set_option maxRecDepth 100000 in
theorem e83 (d : Nat) (p1 : Int) (M : am_M) : am_run (d + 1) 83 [.inr 186, .inl p1] M = am_bnd (am_run d 7 [.inr 186, .inl p1, .inl 0] M) (fun r1 M1 => am_bnd (am_run d 7 [.inr 186, .inl p1, .inl 1] M1) (fun r2 M2 => am_bnd (am_run d 7 [.inr 186, .inl p1, .inl 2] M2) (fun r3 M3 => am_chk (¬ (2 : Int) = 0) (am_bnd (am_run d 6 [.inr 186, .inl r1, .inl 8, .inl (-1)] M3) (fun _ M4 => am_bnd (am_run d 12 [.inr 186, .inl r2, .inl (am_irem r1 2)] M4) (fun r5 M5 => (if (r5 : Int) = (-1) then am_L d 83 35 [some (.inr 186), some (.inl p1), some (.inl r1), some (.inl r2), some (.inl r3), some (.inl (am_irem r1 2)), none, none] [.inl r2, .inl r1, .inr 186] M5 else am_L d 83 35 [some (.inr 186), some (.inl p1), some (.inl r1), some (.inl r2), some (.inl r3), some (.inl (am_irem r1 2)), none, none] [.inl (-1), .inl r1, .inr 186] M5))))))) := (am_run_s _ _ _ _).trans (((am_blk am_h83 [35, 64] 400 d 0 _ _ M).trans rfl))
set_option maxRecDepth 100000 in
theorem e83_35 (d : Nat) (x1 : Int) (x2 : Int) (x3 : Int) (x4 : Int) (x5 : Int) (xs1 : Int) (xs2 : Int) (M : am_M) : am_L d 83 35 [some (.inr 186), some (.inl x1), some (.inl x2), some (.inl x3), some (.inl x4), some (.inl x5), none, none] [.inl xs2, .inl xs1, .inr 186] M = am_bnd (am_run d 66 [.inr 186, .inl xs1, .inl xs2] M) (fun _ M1 => am_bnd (am_run d 12 [.inr 186, .inl x4, .inl x5] M1) (fun r2 M2 => (if (r2 : Int) = (-1) then am_bnd (am_run d 5 [.inr 186, .inl (am_wrap ((am_wrap (2 * x4)) + x5)), .inl 8] M2) (fun r3 M3 => (if (r3 : Int) = (-1) then am_bnd (am_run d 66 [.inr 186, .inl (am_wrap ((am_wrap (2 * x4)) + x5)), .inl x4] M3) (fun _ M4 => am_L d 83 64 [some (.inr 186), some (.inl x1), some (.inl x2), some (.inl x3), some (.inl x4), some (.inl x5), some (.inl (am_wrap ((am_wrap (2 * x4)) + x5))), some (.inl (am_wrap (196 + (am_wrap (5 * x1)))))] [] M4) else am_L d 83 64 [some (.inr 186), some (.inl x1), some (.inl x2), some (.inl x3), some (.inl x4), some (.inl x5), some (.inl (am_wrap ((am_wrap (2 * x4)) + x5))), some (.inl (am_wrap (196 + (am_wrap (5 * x1)))))] [] M3)) else am_L d 83 64 [some (.inr 186), some (.inl x1), some (.inl x2), some (.inl x3), some (.inl x4), some (.inl x5), some (.inl (am_wrap ((am_wrap (2 * x4)) + x5))), some (.inl (am_wrap (196 + (am_wrap (5 * x1)))))] [] M2))) := (am_blk am_h83 [35, 64] 400 d 35 _ _ M).trans rfl
set_option maxRecDepth 100000 in
theorem e83_64 (d : Nat) (x1 : Int) (x2 : Int) (x3 : Int) (x4 : Int) (x5 : Int) (x6 : Int) (x7 : Int) (M : am_M) : am_L d 83 64 [some (.inr 186), some (.inl x1), some (.inl x2), some (.inl x3), some (.inl x4), some (.inl x5), some (.inl x6), some (.inl x7)] [] M = am_chk (0 ≤ (1 : Int) ∧ 1 < 3456) ((if (x7 : Int) < (am_wrap (196 + (am_wrap (5 * (am_wrap ((M 187 1) - 1)))))) then am_chk (0 ≤ ((am_wrap (x7 + 5)) : Int) ∧ (am_wrap (x7 + 5)) < 3456) (am_chk (0 ≤ (x7 : Int) ∧ x7 < 3456) (am_L d 83 64 [some (.inr 186), some (.inl x1), some (.inl x2), some (.inl x3), some (.inl x4), some (.inl x5), some (.inl x6), some (.inl (am_wrap (x7 + 1)))] [] (am_upd M 187 x7 (M 187 (am_wrap (x7 + 5)))))) else am_chk (0 ≤ (1 : Int) ∧ 1 < 3456) (am_chk (0 ≤ (1 : Int) ∧ 1 < 3456) (some (0, (am_upd M 187 1 (am_wrap ((M 187 1) - 1)))))))) := (am_blk am_h83 [35, 64] 400 d 64 _ _ M).trans rfl
-- 84: LentHandsModel.worksOn(IZ)V; stops [2]
set_option maxRecDepth 100000 in
theorem e84 (d : Nat) (p1 : Int) (p2 : Int) (M : am_M) : am_run (d + 1) 84 [.inr 186, .inl p1, .inl p2] M = am_L d 84 2 [some (.inr 186), some (.inl p1), some (.inl p2), some (.inl 0), none] [] M := (am_run_s _ _ _ _).trans (((am_blk am_h84 [2] 400 d 0 _ _ M).trans rfl))
set_option maxRecDepth 100000 in
theorem e84_2 (d : Nat) (x1 : Int) (x2 : Int) (x3 : Int) (o4 : Option am_V) (M : am_M) : am_L d 84 2 [some (.inr 186), some (.inl x1), some (.inl x2), some (.inl x3), o4] [] M = (if (x3 : Int) < 2 then am_bnd (am_run d 12 [.inr 186, .inl x1, .inl x3] M) (fun r1 M1 => (if (r1 : Int) = (-1) then am_L d 84 2 [some (.inr 186), some (.inl x1), some (.inl x2), some (.inl (am_wrap (x3 + 1))), some (.inl r1)] [] M1 else am_bnd (am_run d 82 [.inr 186, .inl x1, .inl r1, .inl x2] M1) (fun _ M2 => am_L d 84 2 [some (.inr 186), some (.inl x1), some (.inl x2), some (.inl (am_wrap (x3 + 1))), some (.inl r1)] [] M2))) else some (0, M)) := (am_blk am_h84 [2] 400 d 2 _ _ M).trans rfl
-- 85: LentHandsModel.marksAll()V; stops [2]
set_option maxRecDepth 100000 in
theorem e85 (d : Nat) (M : am_M) : am_run (d + 1) 85 [.inr 186] M = am_L d 85 2 [some (.inr 186), some (.inl 0), none] [] M := (am_run_s _ _ _ _).trans (((am_blk am_h85 [2] 400 d 0 _ _ M).trans rfl))
set_option maxRecDepth 100000 in
theorem e85_2 (d : Nat) (x1 : Int) (o2 : Option am_V) (M : am_M) : am_L d 85 2 [some (.inr 186), some (.inl x1), o2] [] M = am_chk (0 ≤ (276 : Int) ∧ 276 < 3456) ((if (x1 : Int) < (am_wrap (2 * (M 187 276))) then am_bnd (am_run d 5 [.inr 186, .inl x1, .inl 8] M) (fun r1 M1 => (if (r1 : Int) = (-1) then am_L d 85 2 [some (.inr 186), some (.inl (am_wrap (x1 + 1))), some (.inl r1)] [] M1 else am_bnd (am_run d 5 [.inr 186, .inl x1, .inl 7] M1) (fun r2 M2 => am_bnd (am_run d 6 [.inr 186, .inl x1, .inl 7, .inl (am_wrap (r2 + 1))] M2) (fun _ M3 => am_bnd (am_run d 5 [.inr 186, .inl x1, .inl 6] M3) (fun r4 M4 => am_bnd (am_run d 6 [.inr 186, .inl x1, .inl 6, .inl (am_ior r4 (am_ishl 1 r1))] M4) (fun _ M5 => am_L d 85 2 [some (.inr 186), some (.inl (am_wrap (x1 + 1))), some (.inl r1)] [] M5)))))) else some (0, M))) := (am_blk am_h85 [2] 400 d 2 _ _ M).trans rfl
-- 86: LentHandsModel.endsAll()V; stops [7]
set_option maxRecDepth 100000 in
theorem e86 (d : Nat) (M : am_M) : am_run (d + 1) 86 [.inr 186] M = am_chk (0 ≤ (1 : Int) ∧ 1 < 3456) (am_L d 86 7 [some (.inr 186), some (.inl (am_wrap ((M 187 1) - 1)))] [] M) := (am_run_s _ _ _ _).trans (((am_blk am_h86 [7] 400 d 0 _ _ M).trans rfl))
set_option maxRecDepth 100000 in
theorem e86_7 (d : Nat) (x1 : Int) (M : am_M) : am_L d 86 7 [some (.inr 186), some (.inl x1)] [] M = (if (x1 : Int) < 0 then some (0, M) else am_bnd (am_run d 7 [.inr 186, .inl x1, .inl 3] M) (fun r1 M1 => am_chk (0 ≤ (0 : Int) ∧ 0 < 3456) ((if ((M1 187 0) : Int) < r1 then am_L d 86 7 [some (.inr 186), some (.inl (am_wrap (x1 + (-1))))] [] M1 else am_bnd (am_run d 83 [.inr 186, .inl x1] M1) (fun _ M2 => am_L d 86 7 [some (.inr 186), some (.inl (am_wrap (x1 + (-1))))] [] M2))))) := (am_blk am_h86 [7] 400 d 7 _ _ M).trans rfl
-- 87: LentHandsModel.anHour(Z)I; stops [5]
set_option maxRecDepth 100000 in
theorem e87 (d : Nat) (p1 : Int) (M : am_M) : am_run (d + 1) 87 [.inr 186, .inl p1] M = am_bnd (am_run d 80 [.inr 186] M) (fun r1 M1 => am_L d 87 5 [some (.inr 186), some (.inl p1), some (.inl r1), some (.inl 0)] [] M1) := (am_run_s _ _ _ _).trans (((am_blk am_h87 [5] 400 d 0 _ _ M).trans rfl))
set_option maxRecDepth 100000 in
theorem e87_5 (d : Nat) (x1 : Int) (x2 : Int) (x3 : Int) (M : am_M) : am_L d 87 5 [some (.inr 186), some (.inl x1), some (.inl x2), some (.inl x3)] [] M = am_chk (0 ≤ (276 : Int) ∧ 276 < 3456) ((if (x3 : Int) < (M 187 276) then am_bnd (am_run d 3 [.inr 186, .inl x3, .inl 1] M) (fun r3 M3 => (if (r3 : Int) = (-1) then am_L d 87 5 [some (.inr 186), some (.inl x1), some (.inl x2), some (.inl (am_wrap (x3 + 1)))] [] M3 else am_bnd (am_run d 84 [.inr 186, .inl x3, .inl x1] M3) (fun _ M4 => am_L d 87 5 [some (.inr 186), some (.inl x1), some (.inl x2), some (.inl (am_wrap (x3 + 1)))] [] M4))) else am_bnd (am_run d 85 [.inr 186] M) (fun _ M1 => am_chk (0 ≤ (0 : Int) ∧ 0 < 3456) (am_chk (0 ≤ (0 : Int) ∧ 0 < 3456) (am_bnd (am_run d 86 [.inr 186] (am_upd M1 187 0 (am_wrap ((M1 187 0) + 1)))) (fun _ M2 => some (x2, M2))))))) := (am_blk am_h87 [5] 400 d 5 _ _ M).trans rfl
-- 88: LentHandsModel.hours(I)I; stops [19]
set_option maxRecDepth 100000 in
theorem e88 (d : Nat) (p1 : Int) (M : am_M) : am_run (d + 1) 88 [.inr 186, .inl p1] M = am_bnd (am_run d 0 [.inl p1, .inl 1, .inl 100] M) (fun r1 M1 => (if (r1 : Int) = 0 then some ((-1), M1) else am_chk (0 ≤ (0 : Int) ∧ 0 < 3456) ((if (9999 : Int) < (am_wrap ((M1 187 0) + p1)) then some ((-1), M1) else am_L d 88 19 [some (.inr 186), some (.inl p1), some (.inl 0), some (.inl 0)] [] M1)))) := (am_run_s _ _ _ _).trans (((am_blk am_h88 [19] 400 d 0 _ _ M).trans rfl))
set_option maxRecDepth 100000 in
theorem e88_19 (d : Nat) (x1 : Int) (x2 : Int) (x3 : Int) (M : am_M) : am_L d 88 19 [some (.inr 186), some (.inl x1), some (.inl x2), some (.inl x3)] [] M = (if (x3 : Int) < x1 then am_bnd (am_run d 64 [.inr 186] M) (fun _ M1 => am_bnd (am_run d 87 [.inr 186, .inl 1] M1) (fun r2 M2 => am_L d 88 19 [some (.inr 186), some (.inl x1), some (.inl (am_wrap (x2 + r2))), some (.inl (am_wrap (x3 + 1)))] [] M2)) else some (x2, M)) := (am_blk am_h88 [19] 400 d 19 _ _ M).trans rfl
-- 89: LentHandsModel.ring(II)I; stops [4]
set_option maxRecDepth 100000 in
theorem e89 (d : Nat) (p1 : Int) (p2 : Int) (M : am_M) : am_run (d + 1) 89 [.inr 186, .inl p1, .inl p2] M = am_L d 89 4 [some (.inr 186), some (.inl p1), some (.inl p2), some (.inl p1), some (.inl 1), none] [] M := (am_run_s _ _ _ _).trans (((am_blk am_h89 [4] 400 d 0 _ _ M).trans rfl))
set_option maxRecDepth 100000 in
theorem e89_4 (d : Nat) (x1 : Int) (x2 : Int) (x3 : Int) (x4 : Int) (o5 : Option am_V) (M : am_M) : am_L d 89 4 [some (.inr 186), some (.inl x1), some (.inl x2), some (.inl x3), some (.inl x4), o5] [] M = (if (8 : Int) < x4 then some (0, M) else am_bnd (am_run d 12 [.inr 186, .inl x3, .inl x2] M) (fun r1 M1 => (if (r1 : Int) = (-1) then some (0, M1) else am_bnd (am_run d 13 [.inl r1] M1) (fun r2 M2 => (if (r2 : Int) = x1 then some (x4, M2) else am_L d 89 4 [some (.inr 186), some (.inl x1), some (.inl x2), some (.inl r2), some (.inl (am_wrap (x4 + 1))), some (.inl r1)] [] M2))))) := (am_blk am_h89 [4] 400 d 4 _ _ M).trans rfl
-- 90: LentHandsModel.of(II)I; stops []
set_option maxRecDepth 100000 in
theorem e90 (d : Nat) (p1 : Int) (p2 : Int) (M : am_M) : am_run (d + 1) 90 [.inr 186, .inl p1, .inl p2] M = am_bnd (am_run d 8 [.inr 186, .inl p1] M) (fun r1 M1 => (if (r1 : Int) = 0 then some ((-2), M1) else (if (p2 : Int) = 0 then am_bnd (am_run d 3 [.inr 186, .inl p1, .inl 0] M1) (fun r2 M2 => some (r2, M2)) else (if (p2 : Int) = 1 then am_chk (0 ≤ ((am_wrap (277 + p1)) : Int) ∧ (am_wrap (277 + p1)) < 3456) (some ((M1 187 (am_wrap (277 + p1))), M1)) else (if (p2 : Int) = 2 then am_bnd (am_run d 3 [.inr 186, .inl p1, .inl 1] M1) (fun r3 M3 => some (r3, M3)) else (if (p2 : Int) = 3 then am_bnd (am_run d 3 [.inr 186, .inl p1, .inl 2] M1) (fun r4 M4 => some (r4, M4)) else (if (p2 : Int) = 4 then am_bnd (am_run d 12 [.inr 186, .inl p1, .inl 0] M1) (fun r5 M5 => some (r5, M5)) else (if (p2 : Int) = 5 then am_bnd (am_run d 12 [.inr 186, .inl p1, .inl 1] M1) (fun r6 M6 => some (r6, M6)) else (if (p2 : Int) = 6 then am_bnd (am_run d 89 [.inr 186, .inl p1, .inl 0] M1) (fun r7 M7 => some (r7, M7)) else (if (p2 : Int) = 7 then am_bnd (am_run d 89 [.inr 186, .inl p1, .inl 1] M1) (fun r8 M8 => some (r8, M8)) else some ((-2), M1))))))))))) := (am_run_s _ _ _ _).trans (((am_blk am_h90 [] 400 d 0 _ _ M).trans rfl))
-- 91: LentHandsModel.at(II)I; stops []
set_option maxRecDepth 100000 in
theorem e91 (d : Nat) (p1 : Int) (p2 : Int) (M : am_M) : am_run (d + 1) 91 [.inr 186, .inl p1, .inl p2] M = am_bnd (am_run d 9 [.inr 186, .inl p1] M) (fun r1 M1 => (if (r1 : Int) = 0 then some ((-2), M1) else am_bnd (am_run d 0 [.inl p2, .inl 0, .inl 10] M1) (fun r2 M2 => (if (r2 : Int) = 0 then some ((-2), M2) else (if (8 : Int) < p2 then (if (p2 : Int) = 9 then am_bnd (am_run d 60 [.inr 186, .inl p1] M2) (fun r5 M5 => some (r5, M5)) else am_bnd (am_run d 61 [.inr 186, .inl p1] M2) (fun r3 M3 => (if (r3 : Int) = (-1) then some ((-1), M3) else am_bnd (am_run d 7 [.inr 186, .inl r3, .inl 3] M3) (fun r4 M4 => some (r4, M4))))) else am_bnd (am_run d 5 [.inr 186, .inl p1, .inl p2] M2) (fun r6 M6 => some (r6, M6))))))) := (am_run_s _ _ _ _).trans (((am_blk am_h91 [] 400 d 0 _ _ M).trans rfl))
-- 92: LentHandsModel.loan(II)I; stops []
set_option maxRecDepth 100000 in
theorem e92 (d : Nat) (p1 : Int) (p2 : Int) (M : am_M) : am_run (d + 1) 92 [.inr 186, .inl p1, .inl p2] M = am_chk (0 ≤ (1 : Int) ∧ 1 < 3456) (am_bnd (am_run d 0 [.inl p1, .inl 0, .inl (am_wrap ((M 187 1) - 1))] M) (fun r1 M1 => (if (r1 : Int) = 0 then some ((-1), M1) else am_bnd (am_run d 0 [.inl p2, .inl 0, .inl 4] M1) (fun r2 M2 => (if (r2 : Int) = 0 then some ((-1), M2) else am_bnd (am_run d 7 [.inr 186, .inl p1, .inl p2] M2) (fun r3 M3 => some (r3, M3))))))) := (am_run_s _ _ _ _).trans (((am_blk am_h92 [] 400 d 0 _ _ M).trans rfl))
-- 93: LentHandsModel.book(II)I; stops []
set_option maxRecDepth 100000 in
theorem e93 (d : Nat) (p1 : Int) (p2 : Int) (M : am_M) : am_run (d + 1) 93 [.inr 186, .inl p1, .inl p2] M = am_chk (0 ≤ (2 : Int) ∧ 2 < 3456) (am_bnd (am_run d 0 [.inl p1, .inl 0, .inl (am_wrap ((M 187 2) - 1))] M) (fun r1 M1 => (if (r1 : Int) = 0 then some ((-1), M1) else am_bnd (am_run d 0 [.inl p2, .inl 0, .inl 3] M1) (fun r2 M2 => (if (r2 : Int) = 0 then some ((-1), M2) else am_chk (0 ≤ ((am_wrap ((am_wrap (404 + (am_wrap (4 * p1)))) + p2)) : Int) ∧ (am_wrap ((am_wrap (404 + (am_wrap (4 * p1)))) + p2)) < 3456) (some ((M2 187 (am_wrap ((am_wrap (404 + (am_wrap (4 * p1)))) + p2))), M2))))))) := (am_run_s _ _ _ _).trans (((am_blk am_h93 [] 400 d 0 _ _ M).trans rfl))
-- 94: LentHandsModel.may(IIII)I; stops []
set_option maxRecDepth 100000 in
theorem e94 (d : Nat) (p1 : Int) (p2 : Int) (p3 : Int) (p4 : Int) (M : am_M) : am_run (d + 1) 94 [.inr 186, .inl p1, .inl p2, .inl p3, .inl p4] M = am_bnd (am_run d 9 [.inr 186, .inl p1] M) (fun r1 M1 => (if (r1 : Int) = 0 then some ((-1), M1) else am_bnd (am_run d 8 [.inr 186, .inl p2] M1) (fun r2 M2 => (if (r2 : Int) = 0 then some ((-1), M2) else am_bnd (am_run d 67 [.inl p3, .inl p4] M2) (fun r3 M3 => (if (r3 : Int) = 0 then some ((-1), M3) else am_bnd (am_run d 63 [.inr 186, .inl p1, .inl p2, .inl p3, .inl p4] M3) (fun r4 M4 => (if (r4 : Int) = 0 then some (0, M4) else some (1, M4))))))))) := (am_run_s _ _ _ _).trans (((am_blk am_h94 [] 400 d 0 _ _ M).trans rfl))
-- 95: LentHandsModel.chain(II)I; stops [19]
set_option maxRecDepth 100000 in
theorem e95 (d : Nat) (p1 : Int) (p2 : Int) (M : am_M) : am_run (d + 1) 95 [.inr 186, .inl p1, .inl p2] M = am_bnd (am_run d 9 [.inr 186, .inl p1] M) (fun r1 M1 => (if (r1 : Int) = 0 then some ((-1), M1) else am_bnd (am_run d 60 [.inr 186, .inl p1] M1) (fun r2 M2 => am_bnd (am_run d 0 [.inl p2, .inl 0, .inl (am_wrap (r2 - 1))] M2) (fun r3 M3 => (if (r3 : Int) = 0 then some ((-1), M3) else am_L d 95 19 [some (.inr 186), some (.inl p1), some (.inl p2), some (.inl 0), some (.inl 0)] [] M3))))) := (am_run_s _ _ _ _).trans (((am_blk am_h95 [19] 400 d 0 _ _ M).trans rfl))
set_option maxRecDepth 100000 in
theorem e95_19 (d : Nat) (x1 : Int) (x2 : Int) (x3 : Int) (x4 : Int) (M : am_M) : am_L d 95 19 [some (.inr 186), some (.inl x1), some (.inl x2), some (.inl x3), some (.inl x4)] [] M = am_bnd (am_run d 7 [.inr 186, .inl x4, .inl 0] M) (fun r1 M1 => (if (r1 : Int) = x1 then (if (x3 : Int) < x2 then am_bnd (am_run d 7 [.inr 186, .inl x4, .inl 0] M1) (fun r4 M4 => (if (r4 : Int) = x1 then am_L d 95 19 [some (.inr 186), some (.inl x1), some (.inl x2), some (.inl (am_wrap (x3 + 1))), some (.inl (am_wrap (x4 + 1)))] [] M4 else am_L d 95 19 [some (.inr 186), some (.inl x1), some (.inl x2), some (.inl (am_wrap (x3 + 0))), some (.inl (am_wrap (x4 + 1)))] [] M4)) else am_bnd (am_run d 7 [.inr 186, .inl x4, .inl 1] M1) (fun r3 M3 => some (r3, M3))) else am_bnd (am_run d 7 [.inr 186, .inl x4, .inl 0] M1) (fun r2 M2 => (if (r2 : Int) = x1 then am_L d 95 19 [some (.inr 186), some (.inl x1), some (.inl x2), some (.inl (am_wrap (x3 + 1))), some (.inl (am_wrap (x4 + 1)))] [] M2 else am_L d 95 19 [some (.inr 186), some (.inl x1), some (.inl x2), some (.inl (am_wrap (x3 + 0))), some (.inl (am_wrap (x4 + 1)))] [] M2)))) := (am_blk am_h95 [19] 400 d 19 _ _ M).trans rfl
-- 96: LentHandsModel.owes(II)I; stops [15]
set_option maxRecDepth 100000 in
theorem e96 (d : Nat) (p1 : Int) (p2 : Int) (M : am_M) : am_run (d + 1) 96 [.inr 186, .inl p1, .inl p2] M = am_bnd (am_run d 8 [.inr 186, .inl p1] M) (fun r1 M1 => (if (r1 : Int) = 0 then some ((-1), M1) else am_bnd (am_run d 0 [.inl p2, .inl 0, .inl 1] M1) (fun r2 M2 => (if (r2 : Int) = 0 then some ((-1), M2) else am_L d 96 15 [some (.inr 186), some (.inl p1), some (.inl p2), some (.inl 0), some (.inl 0)] [] M2)))) := (am_run_s _ _ _ _).trans (((am_blk am_h96 [15] 400 d 0 _ _ M).trans rfl))
set_option maxRecDepth 100000 in
theorem e96_15 (d : Nat) (x1 : Int) (x2 : Int) (x3 : Int) (x4 : Int) (M : am_M) : am_L d 96 15 [some (.inr 186), some (.inl x1), some (.inl x2), some (.inl x3), some (.inl x4)] [] M = am_chk (0 ≤ (1 : Int) ∧ 1 < 3456) ((if (x4 : Int) < (M 187 1) then (if (x2 : Int) = 0 then am_bnd (am_run d 7 [.inr 186, .inl x4, .inl 2] M) (fun r3 M3 => (if (r3 : Int) = x1 then am_bnd (am_run d 7 [.inr 186, .inl x4, .inl 0] M3) (fun r4 M4 => am_L d 96 15 [some (.inr 186), some (.inl x1), some (.inl x2), some (.inl (am_ior x3 (am_ishl 1 r4))), some (.inl (am_wrap (x4 + 1)))] [] M4) else am_L d 96 15 [some (.inr 186), some (.inl x1), some (.inl x2), some (.inl (am_ior x3 0)), some (.inl (am_wrap (x4 + 1)))] [] M3)) else am_bnd (am_run d 7 [.inr 186, .inl x4, .inl 1] M) (fun r1 M1 => (if (r1 : Int) = x1 then am_bnd (am_run d 7 [.inr 186, .inl x4, .inl 0] M1) (fun r2 M2 => am_L d 96 15 [some (.inr 186), some (.inl x1), some (.inl x2), some (.inl (am_ior x3 (am_ishl 1 r2))), some (.inl (am_wrap (x4 + 1)))] [] M2) else am_L d 96 15 [some (.inr 186), some (.inl x1), some (.inl x2), some (.inl (am_ior x3 0)), some (.inl (am_wrap (x4 + 1)))] [] M1))) else some (x3, M))) := (am_blk am_h96 [15] 400 d 15 _ _ M).trans rfl
-- 97: LentHandsModel.callus()I; stops [4]
set_option maxRecDepth 100000 in
theorem e97 (d : Nat) (M : am_M) : am_run (d + 1) 97 [.inr 186] M = am_L d 97 4 [some (.inr 186), some (.inl (-1)), some (.inl 0)] [] M := (am_run_s _ _ _ _).trans (((am_blk am_h97 [4] 400 d 0 _ _ M).trans rfl))
set_option maxRecDepth 100000 in
theorem e97_4 (d : Nat) (x1 : Int) (x2 : Int) (M : am_M) : am_L d 97 4 [some (.inr 186), some (.inl x1), some (.inl x2)] [] M = am_chk (0 ≤ (276 : Int) ∧ 276 < 3456) ((if (x2 : Int) < (am_wrap (2 * (M 187 276))) then am_bnd (am_run d 5 [.inr 186, .inl x2, .inl 8] M) (fun r1 M1 => am_bnd (am_run d 13 [.inl x2] M1) (fun r2 M2 => (if (r1 : Int) = r2 then am_L d 97 4 [some (.inr 186), some (.inl x1), some (.inl (am_wrap (x2 + 1)))] [] M2 else (if (x1 : Int) = (-1) then am_L d 97 4 [some (.inr 186), some (.inl x2), some (.inl (am_wrap (x2 + 1)))] [] M2 else am_bnd (am_run d 5 [.inr 186, .inl x2, .inl 4] M2) (fun r3 M3 => am_bnd (am_run d 5 [.inr 186, .inl x1, .inl 4] M3) (fun r4 M4 => (if (r4 : Int) < r3 then am_L d 97 4 [some (.inr 186), some (.inl x2), some (.inl (am_wrap (x2 + 1)))] [] M4 else am_L d 97 4 [some (.inr 186), some (.inl x1), some (.inl (am_wrap (x2 + 1)))] [] M4))))))) else some (x1, M))) := (am_blk am_h97 [4] 400 d 4 _ _ M).trans rfl
-- 98: LentHandsModel.hasSkill(IIII)Z; stops []
set_option maxRecDepth 100000 in
theorem e98 (d : Nat) (p1 : Int) (p2 : Int) (p3 : Int) (p4 : Int) (M : am_M) : am_run (d + 1) 98 [.inr 186, .inl p1, .inl p2, .inl p3, .inl p4] M = am_bnd (am_run d 12 [.inr 186, .inl p1, .inl p2] M) (fun r1 M1 => (if (r1 : Int) = (-1) then some (0, M1) else am_bnd (am_run d 5 [.inr 186, .inl r1, .inl (am_wrap (0 + p3))] M1) (fun r2 M2 => (if (r2 : Int) < p4 then some (0, M2) else some (1, M2))))) := (am_run_s _ _ _ _).trans (((am_blk am_h98 [] 400 d 0 _ _ M).trans rfl))
-- 99: LentHandsModel.canDo(II)Z; stops []
set_option maxRecDepth 100000 in
theorem e99 (d : Nat) (p1 : Int) (p2 : Int) (M : am_M) : am_run (d + 1) 99 [.inr 186, .inl p1, .inl p2] M = am_chk (0 ≤ ((am_wrap (372 + (am_wrap (4 * p2)))) : Int) ∧ (am_wrap (372 + (am_wrap (4 * p2)))) < 3456) (am_chk (0 ≤ ((am_wrap ((am_wrap (372 + (am_wrap (4 * p2)))) + 1)) : Int) ∧ (am_wrap ((am_wrap (372 + (am_wrap (4 * p2)))) + 1)) < 3456) (am_bnd (am_run d 98 [.inr 186, .inl p1, .inl 0, .inl (M 187 (am_wrap (372 + (am_wrap (4 * p2))))), .inl (M 187 (am_wrap ((am_wrap (372 + (am_wrap (4 * p2)))) + 1)))] M) (fun r1 M1 => am_chk (0 ≤ ((am_wrap (372 + (am_wrap (4 * p2)))) : Int) ∧ (am_wrap (372 + (am_wrap (4 * p2)))) < 3456) (am_chk (0 ≤ ((am_wrap ((am_wrap (372 + (am_wrap (4 * p2)))) + 1)) : Int) ∧ (am_wrap ((am_wrap (372 + (am_wrap (4 * p2)))) + 1)) < 3456) (am_bnd (am_run d 98 [.inr 186, .inl p1, .inl 1, .inl (M1 187 (am_wrap (372 + (am_wrap (4 * p2))))), .inl (M1 187 (am_wrap ((am_wrap (372 + (am_wrap (4 * p2)))) + 1)))] M1) (fun r2 M2 => am_chk (0 ≤ ((am_wrap ((am_wrap (372 + (am_wrap (4 * p2)))) + 3)) : Int) ∧ (am_wrap ((am_wrap (372 + (am_wrap (4 * p2)))) + 3)) < 3456) ((if ((M2 187 (am_wrap ((am_wrap (372 + (am_wrap (4 * p2)))) + 3))) : Int) = 1 then (if (r1 : Int) = 0 then some (0, M2) else (if (r2 : Int) = 0 then some (0, M2) else some (1, M2))) else (if (r1 : Int) = 0 then (if (r2 : Int) = 0 then some (0, M2) else some (1, M2)) else some (1, M2)))))))))) := (am_run_s _ _ _ _).trans (((am_blk am_h99 [] 400 d 0 _ _ M).trans rfl))
-- 100: LentHandsModel.can(II)I; stops []
set_option maxRecDepth 100000 in
theorem e100 (d : Nat) (p1 : Int) (p2 : Int) (M : am_M) : am_run (d + 1) 100 [.inr 186, .inl p1, .inl p2] M = am_bnd (am_run d 8 [.inr 186, .inl p1] M) (fun r1 M1 => (if (r1 : Int) = 0 then some ((-1), M1) else am_chk (0 ≤ (287 : Int) ∧ 287 < 3456) (am_bnd (am_run d 0 [.inl p2, .inl 0, .inl (am_wrap ((M1 187 287) - 1))] M1) (fun r2 M2 => (if (r2 : Int) = 0 then some ((-1), M2) else am_bnd (am_run d 99 [.inr 186, .inl p1, .inl p2] M2) (fun r3 M3 => (if (r3 : Int) = 0 then some (0, M3) else some (1, M3)))))))) := (am_run_s _ _ _ _).trans (((am_blk am_h100 [] 400 d 0 _ _ M).trans rfl))
-- 101: LentHandsModel.laysPay()V; stops [9, 33, 37, 53, 117]
set_option maxRecDepth 100000 in
theorem e101 (d : Nat) (M : am_M) : am_run (d + 1) 101 [.inr 186] M = am_chk (0 ≤ (276 : Int) ∧ 276 < 3456) (am_L d 101 9 [some (.inr 186), some (.inl (am_ishl 1 (M 187 276))), some (.inl 0), none, none, none] [] M) := (am_run_s _ _ _ _).trans (((am_blk am_h101 [9, 33, 37, 53, 117] 400 d 0 _ _ M).trans rfl))
set_option maxRecDepth 100000 in
theorem e101_9 (d : Nat) (x1 : Int) (x2 : Int) (M : am_M) : am_L d 101 9 [some (.inr 186), some (.inl x1), some (.inl x2), none, none, none] [] M = (if (x2 : Int) < x1 then am_chk (0 ≤ (287 : Int) ∧ 287 < 3456) (am_chk (0 ≤ ((am_wrap ((am_wrap (256 * (M 187 287))) + x2)) : Int) ∧ (am_wrap ((am_wrap (256 * (M 187 287))) + x2)) < 2304) (am_L d 101 9 [some (.inr 186), some (.inl x1), some (.inl (am_wrap (x2 + 1))), none, none, none] [] (am_upd M 197 (am_wrap ((am_wrap (256 * (M 187 287))) + x2)) 0))) else am_chk (0 ≤ (287 : Int) ∧ 287 < 3456) (am_L d 101 33 [some (.inr 186), some (.inl x1), some (.inl (am_wrap ((M 187 287) - 1))), none, none, none] [] M)) := (am_blk am_h101 [9, 33, 37, 53, 117] 400 d 9 _ _ M).trans rfl
set_option maxRecDepth 100000 in
theorem e101_33 (d : Nat) (x1 : Int) (x2 : Int) (o3 : Option am_V) (o4 : Option am_V) (o5 : Option am_V) (M : am_M) : am_L d 101 33 [some (.inr 186), some (.inl x1), some (.inl x2), o3, o4, o5] [] M = (if (x2 : Int) < 0 then am_L d 101 117 [some (.inr 186), some (.inl x1), some (.inl 0), some (.inl 0), o4, o5] [] M else am_L d 101 37 [some (.inr 186), some (.inl x1), some (.inl x2), some (.inl 0), o4, o5] [] M) := (am_blk am_h101 [9, 33, 37, 53, 117] 400 d 33 _ _ M).trans rfl
set_option maxRecDepth 100000 in
theorem e101_37 (d : Nat) (x1 : Int) (x2 : Int) (x3 : Int) (o4 : Option am_V) (o5 : Option am_V) (M : am_M) : am_L d 101 37 [some (.inr 186), some (.inl x1), some (.inl x2), some (.inl x3), o4, o5] [] M = (if (x3 : Int) < x1 then am_chk (0 ≤ ((am_wrap ((am_wrap (256 * (am_wrap (x2 + 1)))) + x3)) : Int) ∧ (am_wrap ((am_wrap (256 * (am_wrap (x2 + 1)))) + x3)) < 2304) (am_L d 101 53 [some (.inr 186), some (.inl x1), some (.inl x2), some (.inl x3), some (.inl (M 197 (am_wrap ((am_wrap (256 * (am_wrap (x2 + 1)))) + x3)))), some (.inl 0)] [] M) else am_L d 101 33 [some (.inr 186), some (.inl x1), some (.inl (am_wrap (x2 + (-1)))), some (.inl x3), o4, o5] [] M) := (am_blk am_h101 [9, 33, 37, 53, 117] 400 d 37 _ _ M).trans rfl
set_option maxRecDepth 100000 in
theorem e101_53 (d : Nat) (x1 : Int) (x2 : Int) (x3 : Int) (x4 : Int) (x5 : Int) (M : am_M) : am_L d 101 53 [some (.inr 186), some (.inl x1), some (.inl x2), some (.inl x3), some (.inl x4), some (.inl x5)] [] M = am_chk (0 ≤ (276 : Int) ∧ 276 < 3456) ((if (x5 : Int) < (M 187 276) then (if ((am_iand (am_ishr x3 x5) 1) : Int) = 0 then am_bnd (am_run d 99 [.inr 186, .inl x5, .inl x2] M) (fun r1 M1 => (if (r1 : Int) = 0 then am_L d 101 53 [some (.inr 186), some (.inl x1), some (.inl x2), some (.inl x3), some (.inl x4), some (.inl (am_wrap (x5 + 1)))] [] M1 else am_chk (0 ≤ ((am_wrap ((am_wrap (372 + (am_wrap (4 * x2)))) + 2)) : Int) ∧ (am_wrap ((am_wrap (372 + (am_wrap (4 * x2)))) + 2)) < 3456) (am_chk (0 ≤ ((am_wrap ((am_wrap (256 * (am_wrap (x2 + 1)))) + (am_ior x3 (am_ishl 1 x5)))) : Int) ∧ (am_wrap ((am_wrap (256 * (am_wrap (x2 + 1)))) + (am_ior x3 (am_ishl 1 x5)))) < 2304) (am_bnd (am_run d 2 [.inl x4, .inl (am_wrap ((M1 187 (am_wrap ((am_wrap (372 + (am_wrap (4 * x2)))) + 2))) + (M1 197 (am_wrap ((am_wrap (256 * (am_wrap (x2 + 1)))) + (am_ior x3 (am_ishl 1 x5)))))))] M1) (fun r2 M2 => am_L d 101 53 [some (.inr 186), some (.inl x1), some (.inl x2), some (.inl x3), some (.inl r2), some (.inl (am_wrap (x5 + 1)))] [] M2))))) else am_L d 101 53 [some (.inr 186), some (.inl x1), some (.inl x2), some (.inl x3), some (.inl x4), some (.inl (am_wrap (x5 + 1)))] [] M) else am_chk (0 ≤ ((am_wrap ((am_wrap (256 * x2)) + x3)) : Int) ∧ (am_wrap ((am_wrap (256 * x2)) + x3)) < 2304) (am_L d 101 37 [some (.inr 186), some (.inl x1), some (.inl x2), some (.inl (am_wrap (x3 + 1))), some (.inl x4), some (.inl x5)] [] (am_upd M 197 (am_wrap ((am_wrap (256 * x2)) + x3)) x4)))) := (am_blk am_h101 [9, 33, 37, 53, 117] 400 d 53 _ _ M).trans rfl
set_option maxRecDepth 100000 in
theorem e101_117 (d : Nat) (x1 : Int) (x2 : Int) (x3 : Int) (o4 : Option am_V) (o5 : Option am_V) (M : am_M) : am_L d 101 117 [some (.inr 186), some (.inl x1), some (.inl x2), some (.inl x3), o4, o5] [] M = am_chk (0 ≤ (287 : Int) ∧ 287 < 3456) ((if (x3 : Int) < (M 187 287) then am_bnd (am_run d 102 [.inr 186, .inl x3, .inl x2] M) (fun r1 M1 => am_chk (0 ≤ (x3 : Int) ∧ x3 < 8) (am_chk (0 ≤ (x3 : Int) ∧ x3 < 8) ((if (((am_upd M1 198 x3 r1) 198 x3) : Int) = (-1) then am_L d 101 117 [some (.inr 186), some (.inl x1), some (.inl (am_ior x2 0)), some (.inl (am_wrap (x3 + 1))), o4, o5] [] (am_upd M1 198 x3 r1) else am_chk (0 ≤ (x3 : Int) ∧ x3 < 8) (am_L d 101 117 [some (.inr 186), some (.inl x1), some (.inl (am_ior x2 (am_ishl 1 ((am_upd M1 198 x3 r1) 198 x3)))), some (.inl (am_wrap (x3 + 1))), o4, o5] [] (am_upd M1 198 x3 r1)))))) else some (0, M))) := (am_blk am_h101 [9, 33, 37, 53, 117] 400 d 117 _ _ M).trans rfl
-- 102: LentHandsModel.workerOf(II)I; stops [25]
set_option maxRecDepth 100000 in
theorem e102 (d : Nat) (p1 : Int) (p2 : Int) (M : am_M) : am_run (d + 1) 102 [.inr 186, .inl p1, .inl p2] M = am_chk (0 ≤ ((am_wrap ((am_wrap (256 * p1)) + p2)) : Int) ∧ (am_wrap ((am_wrap (256 * p1)) + p2)) < 2304) (am_chk (0 ≤ ((am_wrap ((am_wrap (256 * (am_wrap (p1 + 1)))) + p2)) : Int) ∧ (am_wrap ((am_wrap (256 * (am_wrap (p1 + 1)))) + p2)) < 2304) ((if ((M 197 (am_wrap ((am_wrap (256 * (am_wrap (p1 + 1)))) + p2))) : Int) = (M 197 (am_wrap ((am_wrap (256 * p1)) + p2))) then some ((-1), M) else am_L d 102 25 [some (.inr 186), some (.inl p1), some (.inl p2), some (.inl (M 197 (am_wrap ((am_wrap (256 * p1)) + p2)))), some (.inl 0)] [] M))) := (am_run_s _ _ _ _).trans (((am_blk am_h102 [25] 400 d 0 _ _ M).trans rfl))
set_option maxRecDepth 100000 in
theorem e102_25 (d : Nat) (x1 : Int) (x2 : Int) (x3 : Int) (x4 : Int) (M : am_M) : am_L d 102 25 [some (.inr 186), some (.inl x1), some (.inl x2), some (.inl x3), some (.inl x4)] [] M = (if ((am_iand (am_ishr x2 x4) 1) : Int) = 1 then am_L d 102 25 [some (.inr 186), some (.inl x1), some (.inl x2), some (.inl x3), some (.inl (am_wrap (x4 + 1)))] [] M else am_bnd (am_run d 99 [.inr 186, .inl x4, .inl x1] M) (fun r1 M1 => (if (r1 : Int) = 0 then am_L d 102 25 [some (.inr 186), some (.inl x1), some (.inl x2), some (.inl x3), some (.inl (am_wrap (x4 + 1)))] [] M1 else am_chk (0 ≤ ((am_wrap ((am_wrap (372 + (am_wrap (4 * x1)))) + 2)) : Int) ∧ (am_wrap ((am_wrap (372 + (am_wrap (4 * x1)))) + 2)) < 3456) (am_chk (0 ≤ ((am_wrap ((am_wrap (256 * (am_wrap (x1 + 1)))) + (am_ior x2 (am_ishl 1 x4)))) : Int) ∧ (am_wrap ((am_wrap (256 * (am_wrap (x1 + 1)))) + (am_ior x2 (am_ishl 1 x4)))) < 2304) ((if ((am_wrap ((M1 187 (am_wrap ((am_wrap (372 + (am_wrap (4 * x1)))) + 2))) + (M1 197 (am_wrap ((am_wrap (256 * (am_wrap (x1 + 1)))) + (am_ior x2 (am_ishl 1 x4))))))) : Int) = x3 then some (x4, M1) else am_L d 102 25 [some (.inr 186), some (.inl x1), some (.inl x2), some (.inl x3), some (.inl (am_wrap (x4 + 1)))] [] M1)))))) := (am_blk am_h102 [25] 400 d 25 _ _ M).trans rfl
-- 103: LentHandsModel.pay(I)I; stops []
set_option maxRecDepth 100000 in
theorem e103 (d : Nat) (p1 : Int) (M : am_M) : am_run (d + 1) 103 [.inr 186, .inl p1] M = (if (p1 : Int) = 0 then am_bnd (am_run d 101 [.inr 186] M) (fun _ M1 => (if (p1 : Int) = 0 then am_chk (0 ≤ (0 : Int) ∧ 0 < 2304) (some ((M1 197 0), M1)) else am_chk (0 ≤ ((am_wrap (p1 - 10)) : Int) ∧ (am_wrap (p1 - 10)) < 8) (some ((M1 198 (am_wrap (p1 - 10))), M1)))) else am_chk (0 ≤ (287 : Int) ∧ 287 < 3456) (am_bnd (am_run d 0 [.inl p1, .inl 10, .inl (am_wrap (9 + (M 187 287)))] M) (fun r2 M2 => (if (r2 : Int) = 0 then some ((-1), M2) else am_bnd (am_run d 101 [.inr 186] M2) (fun _ M3 => (if (p1 : Int) = 0 then am_chk (0 ≤ (0 : Int) ∧ 0 < 2304) (some ((M3 197 0), M3)) else am_chk (0 ≤ ((am_wrap (p1 - 10)) : Int) ∧ (am_wrap (p1 - 10)) < 8) (some ((M3 198 (am_wrap (p1 - 10))), M3)))))))) := (am_run_s _ _ _ _).trans (((am_blk am_h103 [] 400 d 0 _ _ M).trans rfl))
-- 104: LentHandsModel.laysAside()V; stops [2]
set_option maxRecDepth 100000 in
theorem e104 (d : Nat) (M : am_M) : am_run (d + 1) 104 [.inr 186] M = am_L d 104 2 [some (.inr 186), some (.inl 0)] [] M := (am_run_s _ _ _ _).trans (((am_blk am_h104 [2] 400 d 0 _ _ M).trans rfl))
set_option maxRecDepth 100000 in
theorem e104_2 (d : Nat) (x1 : Int) (M : am_M) : am_L d 104 2 [some (.inr 186), some (.inl x1)] [] M = (if (x1 : Int) < 276 then am_chk (0 ≤ (x1 : Int) ∧ x1 < 3456) (am_chk (0 ≤ (x1 : Int) ∧ x1 < 276) (am_L d 104 2 [some (.inr 186), some (.inl (am_wrap (x1 + 1)))] [] (am_upd M 190 x1 (M 187 x1)))) else some (0, M)) := (am_blk am_h104 [2] 400 d 2 _ _ M).trans rfl
-- 105: LentHandsModel.putsBack()V; stops [2]
set_option maxRecDepth 100000 in
theorem e105 (d : Nat) (M : am_M) : am_run (d + 1) 105 [.inr 186] M = am_L d 105 2 [some (.inr 186), some (.inl 0)] [] M := (am_run_s _ _ _ _).trans (((am_blk am_h105 [2] 400 d 0 _ _ M).trans rfl))
set_option maxRecDepth 100000 in
theorem e105_2 (d : Nat) (x1 : Int) (M : am_M) : am_L d 105 2 [some (.inr 186), some (.inl x1)] [] M = (if (x1 : Int) < 276 then am_chk (0 ≤ (x1 : Int) ∧ x1 < 276) (am_chk (0 ≤ (x1 : Int) ∧ x1 < 3456) (am_L d 105 2 [some (.inr 186), some (.inl (am_wrap (x1 + 1)))] [] (am_upd M 187 x1 (M 190 x1)))) else some (0, M)) := (am_blk am_h105 [2] 400 d 2 _ _ M).trans rfl
-- 106: LentHandsModel.areBack()Z; stops [2]
set_option maxRecDepth 100000 in
theorem e106 (d : Nat) (M : am_M) : am_run (d + 1) 106 [.inr 186] M = am_L d 106 2 [some (.inr 186), some (.inl 0)] [] M := (am_run_s _ _ _ _).trans (((am_blk am_h106 [2] 400 d 0 _ _ M).trans rfl))
set_option maxRecDepth 100000 in
theorem e106_2 (d : Nat) (x1 : Int) (M : am_M) : am_L d 106 2 [some (.inr 186), some (.inl x1)] [] M = am_chk (0 ≤ (276 : Int) ∧ 276 < 3456) ((if (x1 : Int) < (am_wrap (2 * (M 187 276))) then am_bnd (am_run d 5 [.inr 186, .inl x1, .inl 8] M) (fun r1 M1 => am_bnd (am_run d 13 [.inl x1] M1) (fun r2 M2 => (if (r1 : Int) = r2 then am_L d 106 2 [some (.inr 186), some (.inl (am_wrap (x1 + 1)))] [] M2 else some (0, M2)))) else some (1, M))) := (am_blk am_h106 [2] 400 d 2 _ _ M).trans rfl
-- 107: LentHandsModel.back()I; stops [6]
set_option maxRecDepth 100000 in
theorem e107 (d : Nat) (M : am_M) : am_run (d + 1) 107 [.inr 186] M = am_bnd (am_run d 104 [.inr 186] M) (fun _ M1 => am_L d 107 6 [some (.inr 186), some (.inl (-1)), some (.inl 0)] [] M1) := (am_run_s _ _ _ _).trans (((am_blk am_h107 [6] 400 d 0 _ _ M).trans rfl))
set_option maxRecDepth 100000 in
theorem e107_6 (d : Nat) (x1 : Int) (x2 : Int) (M : am_M) : am_L d 107 6 [some (.inr 186), some (.inl x1), some (.inl x2)] [] M = (if (300 : Int) < x2 then am_bnd (am_run d 105 [.inr 186] M) (fun _ M1 => some (x1, M1)) else (if (x1 : Int) = (-1) then am_bnd (am_run d 106 [.inr 186] M) (fun r3 M3 => (if (r3 : Int) = 0 then am_bnd (am_run d 87 [.inr 186, .inl 0] M3) (fun r4 M4 => am_L d 107 6 [some (.inr 186), some (.inl x1), some (.inl (am_wrap (x2 + 1)))] [] M4) else am_chk (0 ≤ (0 : Int) ∧ 0 < 3456) (am_L d 107 6 [some (.inr 186), some (.inl (M3 187 0)), some (.inl (am_wrap (x2 + 1)))] [] M3))) else am_bnd (am_run d 105 [.inr 186] M) (fun _ M2 => some (x1, M2)))) := (am_blk am_h107 [6] 400 d 6 _ _ M).trans rfl
-- 108: LentHandsModel.where(II)I; stops [15]
set_option maxRecDepth 100000 in
theorem e108 (d : Nat) (p1 : Int) (p2 : Int) (M : am_M) : am_run (d + 1) 108 [.inr 186, .inl p1, .inl p2] M = am_bnd (am_run d 9 [.inr 186, .inl p1] M) (fun r1 M1 => (if (r1 : Int) = 0 then some ((-2), M1) else am_bnd (am_run d 0 [.inl p2, .inl 0, .inl 300] M1) (fun r2 M2 => (if (r2 : Int) = 0 then some ((-2), M2) else am_bnd (am_run d 104 [.inr 186] M2) (fun _ M3 => am_L d 108 15 [some (.inr 186), some (.inl p1), some (.inl p2), some (.inl 0)] [] M3))))) := (am_run_s _ _ _ _).trans (((am_blk am_h108 [15] 400 d 0 _ _ M).trans rfl))
set_option maxRecDepth 100000 in
theorem e108_15 (d : Nat) (x1 : Int) (x2 : Int) (x3 : Int) (M : am_M) : am_L d 108 15 [some (.inr 186), some (.inl x1), some (.inl x2), some (.inl x3)] [] M = (if (x3 : Int) < x2 then am_bnd (am_run d 87 [.inr 186, .inl 0] M) (fun r3 M3 => am_L d 108 15 [some (.inr 186), some (.inl x1), some (.inl x2), some (.inl (am_wrap (x3 + 1)))] [] M3) else am_bnd (am_run d 5 [.inr 186, .inl x1, .inl 8] M) (fun r1 M1 => am_bnd (am_run d 105 [.inr 186] M1) (fun _ M2 => some (r1, M2)))) := (am_blk am_h108 [15] 400 d 15 _ _ M).trans rfl
-- 109: LentHandsModel.fails(I)I; stops [17]
set_option maxRecDepth 100000 in
theorem e109 (d : Nat) (p1 : Int) (M : am_M) : am_run (d + 1) 109 [.inr 186, .inl p1] M = am_bnd (am_run d 0 [.inl p1, .inl 0, .inl 1] M) (fun r1 M1 => (if (r1 : Int) = 0 then some ((-1), M1) else am_bnd (am_run d 104 [.inr 186] M1) (fun _ M2 => am_L d 109 17 [some (.inr 186), some (.inl p1), some (.inl 0)] [] (am_upd (am_upd M2 186 27 (-1)) 186 28 (-1))))) := (am_run_s _ _ _ _).trans (((am_blk am_h109 [17] 400 d 0 _ _ M).trans rfl))
set_option maxRecDepth 100000 in
theorem e109_17 (d : Nat) (x1 : Int) (x2 : Int) (M : am_M) : am_L d 109 17 [some (.inr 186), some (.inl x1), some (.inl x2)] [] M = (if (x2 : Int) < 300 then (if ((M 186 27) : Int) = (-1) then am_bnd (am_run d 87 [.inr 186, .inl 0] M) (fun r3 M3 => am_L d 109 17 [some (.inr 186), some (.inl x1), some (.inl (am_wrap (x2 + 1)))] [] M3) else am_bnd (am_run d 105 [.inr 186] M) (fun _ M2 => (if (x1 : Int) = 0 then some ((M2 186 27), M2) else some ((M2 186 28), M2)))) else am_bnd (am_run d 105 [.inr 186] M) (fun _ M1 => (if (x1 : Int) = 0 then some ((M1 186 27), M1) else some ((M1 186 28), M1)))) := (am_blk am_h109 [17] 400 d 17 _ _ M).trans rfl
-- 110: LentHandsModel.bare()I; stops [4]
set_option maxRecDepth 100000 in
theorem e110 (d : Nat) (M : am_M) : am_run (d + 1) 110 [.inr 186] M = am_L d 110 4 [some (.inr 186), some (.inl 0), some (.inl 0)] [] M := (am_run_s _ _ _ _).trans (((am_blk am_h110 [4] 400 d 0 _ _ M).trans rfl))
set_option maxRecDepth 100000 in
theorem e110_4 (d : Nat) (x1 : Int) (x2 : Int) (M : am_M) : am_L d 110 4 [some (.inr 186), some (.inl x1), some (.inl x2)] [] M = am_chk (0 ≤ (276 : Int) ∧ 276 < 3456) ((if (x2 : Int) < (M 187 276) then am_bnd (am_run d 5 [.inr 186, .inl (am_wrap (2 * x2)), .inl 8] M) (fun r1 M1 => (if (r1 : Int) = x2 then am_L d 110 4 [some (.inr 186), some (.inl (am_ior x1 0)), some (.inl (am_wrap (x2 + 1)))] [] M1 else am_bnd (am_run d 5 [.inr 186, .inl (am_wrap ((am_wrap (2 * x2)) + 1)), .inl 8] M1) (fun r2 M2 => (if (r2 : Int) = x2 then am_L d 110 4 [some (.inr 186), some (.inl (am_ior x1 0)), some (.inl (am_wrap (x2 + 1)))] [] M2 else am_L d 110 4 [some (.inr 186), some (.inl (am_ior x1 (am_ishl 1 x2))), some (.inl (am_wrap (x2 + 1)))] [] M2)))) else some (x1, M))) := (am_blk am_h110 [4] 400 d 4 _ _ M).trans rfl
-- 111: LentHandsModel.whose(I)I; stops [18]
set_option maxRecDepth 100000 in
theorem e111 (d : Nat) (p1 : Int) (M : am_M) : am_run (d + 1) 111 [.inr 186, .inl p1] M = am_chk (0 ≤ (276 : Int) ∧ 276 < 3456) (am_bnd (am_run d 0 [.inl p1, .inl 0, .inl (am_wrap ((am_ishl 1 (M 187 276)) - 1))] M) (fun r1 M1 => (if (r1 : Int) = 0 then some ((-1), M1) else am_L d 111 18 [some (.inr 186), some (.inl p1), some (.inl 0), some (.inl 0)] [] M1))) := (am_run_s _ _ _ _).trans (((am_blk am_h111 [18] 400 d 0 _ _ M).trans rfl))
set_option maxRecDepth 100000 in
theorem e111_18 (d : Nat) (x1 : Int) (x2 : Int) (x3 : Int) (M : am_M) : am_L d 111 18 [some (.inr 186), some (.inl x1), some (.inl x2), some (.inl x3)] [] M = am_chk (0 ≤ (276 : Int) ∧ 276 < 3456) ((if (x3 : Int) < (am_wrap (2 * (M 187 276))) then am_bnd (am_run d 5 [.inr 186, .inl x3, .inl 6] M) (fun r1 M1 => (if ((am_iand x1 (am_ixor r1 (-1))) : Int) = 0 then am_L d 111 18 [some (.inr 186), some (.inl x1), some (.inl (am_ior x2 (am_ishl 1 x3))), some (.inl (am_wrap (x3 + 1)))] [] M1 else am_L d 111 18 [some (.inr 186), some (.inl x1), some (.inl (am_ior x2 0)), some (.inl (am_wrap (x3 + 1)))] [] M1)) else some (x2, M))) := (am_blk am_h111 [18] 400 d 18 _ _ M).trans rfl
-- 112: LentHandsModel.count(I)I; stops [4]
set_option maxRecDepth 100000 in
theorem e112 (d : Nat) (p0 : Int) (M : am_M) : am_run (d + 1) 112 [.inl p0] M = am_L d 112 4 [some (.inl p0), some (.inl 0), some (.inl 0)] [] M := (am_run_s _ _ _ _).trans (((am_blk am_h112 [4] 400 d 0 _ _ M).trans rfl))
set_option maxRecDepth 100000 in
theorem e112_4 (d : Nat) (x0 : Int) (x1 : Int) (x2 : Int) (M : am_M) : am_L d 112 4 [some (.inl x0), some (.inl x1), some (.inl x2)] [] M = (if (x2 : Int) < 16 then am_L d 112 4 [some (.inl x0), some (.inl (am_wrap (x1 + (am_iand (am_ishr x0 x2) 1)))), some (.inl (am_wrap (x2 + 1)))] [] M else some (x1, M)) := (am_blk am_h112 [4] 400 d 4 _ _ M).trans rfl
-- 113: LentHandsModel.ask(I)I; stops [26, 36]
set_option maxRecDepth 100000 in
theorem e113 (d : Nat) (p1 : Int) (M : am_M) : am_run (d + 1) 113 [.inr 186, .inl p1] M = am_chk (0 ≤ (276 : Int) ∧ 276 < 3456) (am_bnd (am_run d 0 [.inl p1, .inl 0, .inl (am_wrap ((am_ishl 1 (am_wrap (2 * (M 187 276)))) - 1))] M) (fun r1 M1 => (if (r1 : Int) = 0 then some ((-1), M1) else am_bnd (am_run d 112 [.inl p1] M1) (fun r2 M2 => (if (r2 : Int) < 2 then some ((-1), M2) else am_L d 113 26 [some (.inr 186), some (.inl p1), some (.inl (-1)), some (.inl 17), some (.inl 0), none, none] [] M2))))) := (am_run_s _ _ _ _).trans (((am_blk am_h113 [26, 36] 400 d 0 _ _ M).trans rfl))
set_option maxRecDepth 100000 in
theorem e113_26 (d : Nat) (x1 : Int) (x2 : Int) (x3 : Int) (x4 : Int) (o5 : Option am_V) (o6 : Option am_V) (M : am_M) : am_L d 113 26 [some (.inr 186), some (.inl x1), some (.inl x2), some (.inl x3), some (.inl x4), o5, o6] [] M = am_chk (0 ≤ (276 : Int) ∧ 276 < 3456) ((if (x4 : Int) < (M 187 276) then am_L d 113 36 [some (.inr 186), some (.inl x1), some (.inl x2), some (.inl x3), some (.inl x4), some (.inl 0), some (.inl 0)] [] M else some (x2, M))) := (am_blk am_h113 [26, 36] 400 d 26 _ _ M).trans rfl
set_option maxRecDepth 100000 in
theorem e113_36 (d : Nat) (x1 : Int) (x2 : Int) (x3 : Int) (x4 : Int) (x5 : Int) (x6 : Int) (M : am_M) : am_L d 113 36 [some (.inr 186), some (.inl x1), some (.inl x2), some (.inl x3), some (.inl x4), some (.inl x5), some (.inl x6)] [] M = (if (x6 : Int) < 16 then (if ((am_iand (am_ishr x1 x6) 1) : Int) = 1 then am_bnd (am_run d 5 [.inr 186, .inl x6, .inl 6] M) (fun r3 M3 => (if ((am_iand (am_ishr r3 x4) 1) : Int) = 1 then am_L d 113 36 [some (.inr 186), some (.inl x1), some (.inl x2), some (.inl x3), some (.inl x4), some (.inl (am_wrap (x5 + 1))), some (.inl (am_wrap (x6 + 1)))] [] M3 else am_L d 113 36 [some (.inr 186), some (.inl x1), some (.inl x2), some (.inl x3), some (.inl x4), some (.inl (am_wrap (x5 + 0))), some (.inl (am_wrap (x6 + 1)))] [] M3)) else am_L d 113 36 [some (.inr 186), some (.inl x1), some (.inl x2), some (.inl x3), some (.inl x4), some (.inl (am_wrap (x5 + 0))), some (.inl (am_wrap (x6 + 1)))] [] M) else am_bnd (am_run d 112 [.inl x1] M) (fun r1 M1 => am_bnd (am_run d 2 [.inl x5, .inl (am_wrap (r1 - x5))] M1) (fun r2 M2 => (if (r2 : Int) < x3 then am_L d 113 26 [some (.inr 186), some (.inl x1), some (.inl x4), some (.inl r2), some (.inl (am_wrap (x4 + 1))), some (.inl x5), some (.inl r2)] [] M2 else am_L d 113 26 [some (.inr 186), some (.inl x1), some (.inl x2), some (.inl x3), some (.inl (am_wrap (x4 + 1))), some (.inl x5), some (.inl r2)] [] M2)))) := (am_blk am_h113 [26, 36] 400 d 36 _ _ M).trans rfl
-- 114: LentHandsModel.laysHours(III)V; stops [22]
set_option maxRecDepth 100000 in
theorem e114 (d : Nat) (p1 : Int) (p2 : Int) (p3 : Int) (M : am_M) : am_run (d + 1) 114 [.inr 186, .inl p1, .inl p2, .inl p3] M = am_bnd (am_run d 5 [.inr 186, .inl p1, .inl 8] M) (fun r1 M1 => am_bnd (am_run d 5 [.inr 186, .inl p1, .inl (am_wrap (0 + p2))] M1) (fun r2 M2 => am_bnd (am_run d 5 [.inr 186, .inl p1, .inl 4] M2) (fun r3 M3 => am_L d 114 22 [some (.inr 186), some (.inl p1), some (.inl p2), some (.inl p3), some (.inl r1), some (.inl r2), some (.inl r3), some (.inl 0), none, none] [] (am_upd M3 186 32 1000000)))) := (am_run_s _ _ _ _).trans (((am_blk am_h114 [22] 400 d 0 _ _ M).trans rfl))
set_option maxRecDepth 100000 in
theorem e114_22 (d : Nat) (x1 : Int) (x2 : Int) (x3 : Int) (x4 : Int) (x5 : Int) (x6 : Int) (x7 : Int) (o8 : Option am_V) (o9 : Option am_V) (M : am_M) : am_L d 114 22 [some (.inr 186), some (.inl x1), some (.inl x2), some (.inl x3), some (.inl x4), some (.inl x5), some (.inl x6), some (.inl x7), o8, o9] [] M = (if (x7 : Int) < x3 then am_bnd (am_run d 81 [.inr 186, .inl x1, .inl x4, .inl x2, .inl x5] M) (fun _ M1 => am_chk (0 ≤ (3 : Int) ∧ 3 < 15) (am_bnd (am_run d 5 [.inr 186, .inl x1, .inl 7] (am_upd M1 196 3 x6)) (fun r2 M2 => am_chk (0 ≤ (12 : Int) ∧ 12 < 15) (am_chk (0 ≤ (0 : Int) ∧ 0 < 3456) (am_chk (0 ≤ (14 : Int) ∧ 14 < 15) (am_bnd (am_run d 58 [.inr 186, .inl 26, .inl 9] (am_upd (am_upd M2 196 12 (am_wrap (r2 + x7))) 196 14 (am_wrap (((am_upd M2 196 12 (am_wrap (r2 + x7))) 187 0) + x7)))) (fun r3 M3 => am_bnd (am_run d 58 [.inr 186, .inl 27, .inl 9] M3) (fun r4 M4 => am_bnd (am_run d 58 [.inr 186, .inl 28, .inl 1000] M4) (fun r5 M5 => am_chk (¬ (1000 : Int) = 0) (am_bnd (am_run d 1 [.inl 99, .inl (am_wrap (x5 + r3))] (am_upd M5 186 32 (am_idiv (am_wrap ((M4 186 32) * (am_wrap (1000 - r5)))) 1000))) (fun r6 M6 => am_bnd (am_run d 1 [.inl 99, .inl (am_wrap (x6 + r4))] M6) (fun r7 M7 => am_L d 114 22 [some (.inr 186), some (.inl x1), some (.inl x2), some (.inl x3), some (.inl x4), some (.inl r6), some (.inl r7), some (.inl (am_wrap (x7 + 1))), some (.inl r3), some (.inl r4)] [] M7)))))))))))) else some (0, (am_upd M 186 31 x5))) := (am_blk am_h114 [22] 400 d 22 _ _ M).trans rfl
-- 115: LentHandsModel.canLearn(III)Z; stops []
set_option maxRecDepth 100000 in
theorem e115 (d : Nat) (p1 : Int) (p2 : Int) (p3 : Int) (M : am_M) : am_run (d + 1) 115 [.inr 186, .inl p1, .inl p2, .inl p3] M = am_bnd (am_run d 9 [.inr 186, .inl p1] M) (fun r1 M1 => (if (r1 : Int) = 0 then some (0, M1) else am_bnd (am_run d 5 [.inr 186, .inl p1, .inl 8] M1) (fun r2 M2 => (if (r2 : Int) = (-1) then some (0, M2) else am_bnd (am_run d 10 [.inl p2] M2) (fun r3 M3 => (if (r3 : Int) = 0 then some (0, M3) else am_bnd (am_run d 0 [.inl p3, .inl 0, .inl 99] M3) (fun r4 M4 => (if (r4 : Int) = 0 then some (0, M4) else some (1, M4))))))))) := (am_run_s _ _ _ _).trans (((am_blk am_h115 [] 400 d 0 _ _ M).trans rfl))
-- 116: LentHandsModel.learns(III)I; stops []
set_option maxRecDepth 100000 in
theorem e116 (d : Nat) (p1 : Int) (p2 : Int) (p3 : Int) (M : am_M) : am_run (d + 1) 116 [.inr 186, .inl p1, .inl p2, .inl p3] M = am_bnd (am_run d 115 [.inr 186, .inl p1, .inl p2, .inl p3] M) (fun r1 M1 => (if (r1 : Int) = 0 then some ((-1), M1) else am_bnd (am_run d 114 [.inr 186, .inl p1, .inl p2, .inl p3] M1) (fun _ M2 => some ((M2 186 31), M2)))) := (am_run_s _ _ _ _).trans (((am_blk am_h116 [] 400 d 0 _ _ M).trans rfl))
-- 117: LentHandsModel.safe(III)I; stops []
set_option maxRecDepth 100000 in
theorem e117 (d : Nat) (p1 : Int) (p2 : Int) (p3 : Int) (M : am_M) : am_run (d + 1) 117 [.inr 186, .inl p1, .inl p2, .inl p3] M = am_bnd (am_run d 115 [.inr 186, .inl p1, .inl p2, .inl p3] M) (fun r1 M1 => (if (r1 : Int) = 0 then some ((-1), M1) else am_bnd (am_run d 114 [.inr 186, .inl p1, .inl p2, .inl p3] M1) (fun _ M2 => some ((M2 186 32), M2)))) := (am_run_s _ _ _ _).trans (((am_blk am_h117 [] 400 d 0 _ _ M).trans rfl))
-- 118: LentHandsModel.premium(II)I; stops [14]
set_option maxRecDepth 100000 in
theorem e118 (d : Nat) (p1 : Int) (p2 : Int) (M : am_M) : am_run (d + 1) 118 [.inr 186, .inl p1, .inl p2] M = am_bnd (am_run d 10 [.inl p1] M) (fun r1 M1 => (if (r1 : Int) = 0 then some ((-1), M1) else am_bnd (am_run d 0 [.inl p2, .inl 0, .inl 99] M1) (fun r2 M2 => (if (r2 : Int) = 0 then some ((-1), M2) else am_L d 118 14 [some (.inr 186), some (.inl p1), some (.inl p2), some (.inl 0), some (.inl 0)] [] M2)))) := (am_run_s _ _ _ _).trans (((am_blk am_h118 [14] 400 d 0 _ _ M).trans rfl))
set_option maxRecDepth 100000 in
theorem e118_14 (d : Nat) (x1 : Int) (x2 : Int) (x3 : Int) (x4 : Int) (M : am_M) : am_L d 118 14 [some (.inr 186), some (.inl x1), some (.inl x2), some (.inl x3), some (.inl x4)] [] M = am_chk (0 ≤ (276 : Int) ∧ 276 < 3456) ((if (x4 : Int) < (am_wrap (2 * (M 187 276))) then am_bnd (am_run d 5 [.inr 186, .inl x4, .inl 8] M) (fun r1 M1 => (if (r1 : Int) = (-1) then am_L d 118 14 [some (.inr 186), some (.inl x1), some (.inl x2), some (.inl x3), some (.inl (am_wrap (x4 + 1)))] [] M1 else am_bnd (am_run d 117 [.inr 186, .inl x4, .inl x1, .inl x2] M1) (fun r2 M2 => am_L d 118 14 [some (.inr 186), some (.inl x1), some (.inl x2), some (.inl (am_wrap (x3 + (am_wrap (1000000 - r2))))), some (.inl (am_wrap (x4 + 1)))] [] M2))) else some (x3, M))) := (am_blk am_h118 [14] 400 d 14 _ _ M).trans rfl
-- 119: LentHandsModel.judged(III)I; stops []
set_option maxRecDepth 100000 in
theorem e119 (d : Nat) (p1 : Int) (p2 : Int) (p3 : Int) (M : am_M) : am_run (d + 1) 119 [.inr 186, .inl p1, .inl p2, .inl p3] M = am_bnd (am_run d 77 [.inr 186, .inl p1, .inl p2] M) (fun r1 M1 => (if (r1 : Int) = 0 then some ((-1), M1) else am_bnd (am_run d 0 [.inl p3, .inl 0, .inl 99] M1) (fun r2 M2 => (if (r2 : Int) = 0 then some ((-1), M2) else am_bnd (am_run d 78 [.inr 186, .inl p1, .inl p2, .inl p3] M2) (fun r3 M3 => some (r3, M3)))))) := (am_run_s _ _ _ _).trans (((am_blk am_h119 [] 400 d 0 _ _ M).trans rfl))
-- 120: LentHandsModel.loophole(II)I; stops [9]
set_option maxRecDepth 100000 in
theorem e120 (d : Nat) (p1 : Int) (p2 : Int) (M : am_M) : am_run (d + 1) 120 [.inr 186, .inl p1, .inl p2] M = am_bnd (am_run d 77 [.inr 186, .inl p1, .inl p2] M) (fun r1 M1 => (if (r1 : Int) = 0 then some ((-1), M1) else am_L d 120 9 [some (.inr 186), some (.inl p1), some (.inl p2), some (.inl 1)] [] M1)) := (am_run_s _ _ _ _).trans (((am_blk am_h120 [9] 400 d 0 _ _ M).trans rfl))
set_option maxRecDepth 100000 in
theorem e120_9 (d : Nat) (x1 : Int) (x2 : Int) (x3 : Int) (M : am_M) : am_L d 120 9 [some (.inr 186), some (.inl x1), some (.inl x2), some (.inl x3)] [] M = (if (99 : Int) < x3 then some ((-1), M) else am_bnd (am_run d 78 [.inr 186, .inl x1, .inl x2, .inl x3] M) (fun r1 M1 => am_bnd (am_run d 78 [.inr 186, .inl x1, .inl x2, .inl 0] M1) (fun r2 M2 => (if (r1 : Int) = r2 then am_L d 120 9 [some (.inr 186), some (.inl x1), some (.inl x2), some (.inl (am_wrap (x3 + 1)))] [] M2 else some (x3, M2))))) := (am_blk am_h120 [9] 400 d 9 _ _ M).trans rfl
-- 121: LentHandsModel.finds(IIII)I; stops [16]
set_option maxRecDepth 100000 in
theorem e121 (d : Nat) (p1 : Int) (p2 : Int) (p3 : Int) (p4 : Int) (M : am_M) : am_run (d + 1) 121 [.inr 186, .inl p1, .inl p2, .inl p3, .inl p4] M = am_bnd (am_run d 8 [.inr 186, .inl p1] M) (fun r1 M1 => (if (r1 : Int) = 0 then some ((-1), M1) else am_bnd (am_run d 10 [.inl p2] M1) (fun r2 M2 => (if (r2 : Int) = 0 then some ((-1), M2) else am_bnd (am_run d 0 [.inl p4, .inl 1, .inl 99] M2) (fun r3 M3 => (if (r3 : Int) = 0 then some ((-1), M3) else am_L d 121 16 [some (.inr 186), some (.inl p1), some (.inl p2), some (.inl p3), some (.inl p4), some (.inl 0)] [] M3)))))) := (am_run_s _ _ _ _).trans (((am_blk am_h121 [16] 400 d 0 _ _ M).trans rfl))
set_option maxRecDepth 100000 in
theorem e121_16 (d : Nat) (x1 : Int) (x2 : Int) (x3 : Int) (x4 : Int) (x5 : Int) (M : am_M) : am_L d 121 16 [some (.inr 186), some (.inl x1), some (.inl x2), some (.inl x3), some (.inl x4), some (.inl x5)] [] M = am_chk (0 ≤ (276 : Int) ∧ 276 < 3456) ((if (x5 : Int) < (am_wrap (2 * (M 187 276))) then am_bnd (am_run d 5 [.inr 186, .inl x5, .inl (am_wrap (0 + x2))] M) (fun r1 M1 => (if (r1 : Int) < x3 then am_L d 121 16 [some (.inr 186), some (.inl x1), some (.inl x2), some (.inl x3), some (.inl x4), some (.inl (am_wrap (x5 + 1)))] [] M1 else am_bnd (am_run d 68 [.inr 186, .inl x5, .inl x1, .inl x4, .inl 0] M1) (fun r2 M2 => (if (r2 : Int) = 0 then am_L d 121 16 [some (.inr 186), some (.inl x1), some (.inl x2), some (.inl x3), some (.inl x4), some (.inl (am_wrap (x5 + 1)))] [] M2 else some (x5, M2))))) else some ((-1), M))) := (am_blk am_h121 [16] 400 d 16 _ _ M).trans rfl
-- 122: LentHandsModel.dear(III)I; stops [2]
set_option maxRecDepth 100000 in
theorem e122 (d : Nat) (p1 : Int) (p2 : Int) (p3 : Int) (M : am_M) : am_run (d + 1) 122 [.inr 186, .inl p1, .inl p2, .inl p3] M = am_L d 122 2 [some (.inr 186), some (.inl p1), some (.inl p2), some (.inl p3), some (.inl 99)] [] M := (am_run_s _ _ _ _).trans (((am_blk am_h122 [2] 400 d 0 _ _ M).trans rfl))
set_option maxRecDepth 100000 in
theorem e122_2 (d : Nat) (x1 : Int) (x2 : Int) (x3 : Int) (x4 : Int) (M : am_M) : am_L d 122 2 [some (.inr 186), some (.inl x1), some (.inl x2), some (.inl x3), some (.inl x4)] [] M = (if (x4 : Int) < 0 then some ((-1), M) else am_bnd (am_run d 68 [.inr 186, .inl x1, .inl x2, .inl x3, .inl x4] M) (fun r1 M1 => (if (r1 : Int) = 0 then am_L d 122 2 [some (.inr 186), some (.inl x1), some (.inl x2), some (.inl x3), some (.inl (am_wrap (x4 + (-1))))] [] M1 else some (x4, M1)))) := (am_blk am_h122 [2] 400 d 2 _ _ M).trans rfl
-- 123: LentHandsModel.isLent(II)Z; stops []
set_option maxRecDepth 100000 in
theorem e123 (d : Nat) (p1 : Int) (p2 : Int) (M : am_M) : am_run (d + 1) 123 [.inr 186, .inl p1, .inl p2] M = (if (p1 : Int) = (-1) then some (1, M) else am_bnd (am_run d 68 [.inr 186, .inl p1, .inl p2, .inl 1, .inl 0] M) (fun r1 M1 => (if (r1 : Int) = 0 then some (0, M1) else am_bnd (am_run d 70 [.inr 186, .inl p1, .inl p2, .inl 1, .inl 0] M1) (fun r2 M2 => some (1, M2))))) := (am_run_s _ _ _ _).trans (((am_blk am_h123 [] 400 d 0 _ _ M).trans rfl))
-- 124: LentHandsModel.canBy(IIII)Z; stops []
set_option maxRecDepth 100000 in
theorem e124 (d : Nat) (p1 : Int) (p2 : Int) (p3 : Int) (p4 : Int) (M : am_M) : am_run (d + 1) 124 [.inr 186, .inl p1, .inl p2, .inl p3, .inl p4] M = am_bnd (am_run d 104 [.inr 186] M) (fun _ M1 => am_bnd (am_run d 123 [.inr 186, .inl p3, .inl p1] M1) (fun r2 M2 => (if (r2 : Int) = 0 then am_bnd (am_run d 105 [.inr 186] M2) (fun _ M3 => some (0, M3)) else am_bnd (am_run d 123 [.inr 186, .inl p4, .inl p1] M2) (fun r4 M4 => (if (r4 : Int) = 0 then am_bnd (am_run d 105 [.inr 186] M4) (fun _ M5 => some (0, M5)) else am_bnd (am_run d 99 [.inr 186, .inl p1, .inl p2] M4) (fun r6 M6 => (if (r6 : Int) = 0 then am_bnd (am_run d 105 [.inr 186] M6) (fun _ M7 => some (0, M7)) else am_bnd (am_run d 105 [.inr 186] M6) (fun _ M8 => some (1, M8))))))))) := (am_run_s _ _ _ _).trans (((am_blk am_h124 [] 400 d 0 _ _ M).trans rfl))
-- 125: LentHandsModel.laysWishes(II)V; stops [5, 15, 41]
set_option maxRecDepth 100000 in
theorem e125 (d : Nat) (p1 : Int) (p2 : Int) (M : am_M) : am_run (d + 1) 125 [.inr 186, .inl p1, .inl p2] M = am_L d 125 5 [some (.inr 186), some (.inl p1), some (.inl p2), some (.inl (-2)), none, none, none] [] (am_upd M 186 33 (-1)) := (am_run_s _ _ _ _).trans (((am_blk am_h125 [5, 15, 41] 400 d 0 _ _ M).trans rfl))
set_option maxRecDepth 100000 in
theorem e125_5 (d : Nat) (x1 : Int) (x2 : Int) (x3 : Int) (o4 : Option am_V) (o5 : Option am_V) (o6 : Option am_V) (M : am_M) : am_L d 125 5 [some (.inr 186), some (.inl x1), some (.inl x2), some (.inl x3), o4, o5, o6] [] M = am_chk (0 ≤ (276 : Int) ∧ 276 < 3456) ((if (x3 : Int) < (am_wrap (2 * (M 187 276))) then am_L d 125 15 [some (.inr 186), some (.inl x1), some (.inl x2), some (.inl x3), some (.inl (-1)), o5, o6] [] M else some (0, M))) := (am_blk am_h125 [5, 15, 41] 400 d 5 _ _ M).trans rfl
set_option maxRecDepth 100000 in
theorem e125_15 (d : Nat) (x1 : Int) (x2 : Int) (x3 : Int) (x4 : Int) (o5 : Option am_V) (o6 : Option am_V) (M : am_M) : am_L d 125 15 [some (.inr 186), some (.inl x1), some (.inl x2), some (.inl x3), some (.inl x4), o5, o6] [] M = am_chk (0 ≤ (276 : Int) ∧ 276 < 3456) ((if (x4 : Int) < (am_wrap (2 * (M 187 276))) then (if (x3 : Int) < 0 then (if ((-1) : Int) = (-1) then (if (x4 : Int) = (-1) then am_L d 125 41 [some (.inr 186), some (.inl x1), some (.inl x2), some (.inl x3), some (.inl x4), some (.inl (-1)), o6] [.inl 0, .inl 0] M else am_L d 125 41 [some (.inr 186), some (.inl x1), some (.inl x2), some (.inl x3), some (.inl x4), some (.inl (-1)), o6] [.inl 1, .inl 0] M) else (if (x4 : Int) = (-1) then am_L d 125 41 [some (.inr 186), some (.inl x1), some (.inl x2), some (.inl x3), some (.inl x4), some (.inl (-1)), o6] [.inl 0, .inl 1] M else am_L d 125 41 [some (.inr 186), some (.inl x1), some (.inl x2), some (.inl x3), some (.inl x4), some (.inl (-1)), o6] [.inl 1, .inl 1] M)) else (if (x3 : Int) = (-1) then (if (x4 : Int) = (-1) then am_L d 125 41 [some (.inr 186), some (.inl x1), some (.inl x2), some (.inl x3), some (.inl x4), some (.inl x3), o6] [.inl 0, .inl 0] M else am_L d 125 41 [some (.inr 186), some (.inl x1), some (.inl x2), some (.inl x3), some (.inl x4), some (.inl x3), o6] [.inl 1, .inl 0] M) else (if (x4 : Int) = (-1) then am_L d 125 41 [some (.inr 186), some (.inl x1), some (.inl x2), some (.inl x3), some (.inl x4), some (.inl x3), o6] [.inl 0, .inl 1] M else am_L d 125 41 [some (.inr 186), some (.inl x1), some (.inl x2), some (.inl x3), some (.inl x4), some (.inl x3), o6] [.inl 1, .inl 1] M))) else am_L d 125 5 [some (.inr 186), some (.inl x1), some (.inl x2), some (.inl (am_wrap (x3 + 2))), some (.inl x4), o5, o6] [] M)) := (am_blk am_h125 [5, 15, 41] 400 d 15 _ _ M).trans rfl
set_option maxRecDepth 100000 in
theorem e125_41 (d : Nat) (x1 : Int) (x2 : Int) (x3 : Int) (x4 : Int) (x5 : Int) (o6 : Option am_V) (xs0 : Int) (xs1 : Int) (M : am_M) : am_L d 125 41 [some (.inr 186), some (.inl x1), some (.inl x2), some (.inl x3), some (.inl x4), some (.inl x5), o6] [.inl xs1, .inl xs0] M = (if ((M 186 33) : Int) = (-1) then am_bnd (am_run d 124 [.inr 186, .inl x1, .inl x2, .inl x5, .inl x4] M) (fun r1 M1 => (if (r1 : Int) = 0 then am_L d 125 15 [some (.inr 186), some (.inl x1), some (.inl x2), some (.inl x3), some (.inl (am_wrap (x4 + 2))), some (.inl x5), some (.inl (am_wrap (xs0 + xs1)))] [] M1 else am_L d 125 15 [some (.inr 186), some (.inl x1), some (.inl x2), some (.inl x3), some (.inl (am_wrap (x4 + 2))), some (.inl x5), some (.inl (am_wrap (xs0 + xs1)))] [] (am_upd (am_upd (am_upd M1 186 33 (am_wrap (xs0 + xs1))) 186 34 x5) 186 35 x4))) else (if ((am_wrap (xs0 + xs1)) : Int) < (M 186 33) then am_bnd (am_run d 124 [.inr 186, .inl x1, .inl x2, .inl x5, .inl x4] M) (fun r2 M2 => (if (r2 : Int) = 0 then am_L d 125 15 [some (.inr 186), some (.inl x1), some (.inl x2), some (.inl x3), some (.inl (am_wrap (x4 + 2))), some (.inl x5), some (.inl (am_wrap (xs0 + xs1)))] [] M2 else am_L d 125 15 [some (.inr 186), some (.inl x1), some (.inl x2), some (.inl x3), some (.inl (am_wrap (x4 + 2))), some (.inl x5), some (.inl (am_wrap (xs0 + xs1)))] [] (am_upd (am_upd (am_upd M2 186 33 (am_wrap (xs0 + xs1))) 186 34 x5) 186 35 x4))) else am_L d 125 15 [some (.inr 186), some (.inl x1), some (.inl x2), some (.inl x3), some (.inl (am_wrap (x4 + 2))), some (.inl x5), some (.inl (am_wrap (xs0 + xs1)))] [] M)) := (am_blk am_h125 [5, 15, 41] 400 d 41 _ _ M).trans rfl
-- 126: LentHandsModel.wishes(III)I; stops []
set_option maxRecDepth 100000 in
theorem e126 (d : Nat) (p1 : Int) (p2 : Int) (p3 : Int) (M : am_M) : am_run (d + 1) 126 [.inr 186, .inl p1, .inl p2, .inl p3] M = am_bnd (am_run d 8 [.inr 186, .inl p1] M) (fun r1 M1 => (if (r1 : Int) = 0 then some ((-2), M1) else am_chk (0 ≤ (287 : Int) ∧ 287 < 3456) (am_bnd (am_run d 0 [.inl p2, .inl 0, .inl (am_wrap ((M1 187 287) - 1))] M1) (fun r2 M2 => (if (r2 : Int) = 0 then some ((-2), M2) else am_bnd (am_run d 0 [.inl p3, .inl 0, .inl 2] M2) (fun r3 M3 => (if (r3 : Int) = 0 then some ((-2), M3) else am_bnd (am_run d 125 [.inr 186, .inl p1, .inl p2] M3) (fun _ M4 => (if ((M4 186 33) : Int) = (-1) then some ((-2), M4) else (if (p3 : Int) = 0 then some ((M4 186 33), M4) else (if (p3 : Int) = 1 then some ((M4 186 34), M4) else some ((M4 186 35), M4)))))))))))) := (am_run_s _ _ _ _).trans (((am_blk am_h126 [] 400 d 0 _ _ M).trans rfl))
-- 127: LentHandsModel.spread(II)I; stops [9]
set_option maxRecDepth 100000 in
theorem e127 (d : Nat) (p1 : Int) (p2 : Int) (M : am_M) : am_run (d + 1) 127 [.inr 186, .inl p1, .inl p2] M = am_bnd (am_run d 10 [.inl p1] M) (fun r1 M1 => (if (r1 : Int) = 0 then some ((-1), M1) else am_L d 127 9 [some (.inr 186), some (.inl p1), some (.inl p2), some (.inl 0), some (.inl 0)] [] M1)) := (am_run_s _ _ _ _).trans (((am_blk am_h127 [9] 400 d 0 _ _ M).trans rfl))
set_option maxRecDepth 100000 in
theorem e127_9 (d : Nat) (x1 : Int) (x2 : Int) (x3 : Int) (x4 : Int) (M : am_M) : am_L d 127 9 [some (.inr 186), some (.inl x1), some (.inl x2), some (.inl x3), some (.inl x4)] [] M = am_chk (0 ≤ (276 : Int) ∧ 276 < 3456) ((if (x4 : Int) < (M 187 276) then am_bnd (am_run d 98 [.inr 186, .inl x4, .inl 0, .inl x1, .inl x2] M) (fun r1 M1 => (if (r1 : Int) = 0 then am_bnd (am_run d 98 [.inr 186, .inl x4, .inl 1, .inl x1, .inl x2] M1) (fun r2 M2 => (if (r2 : Int) = 0 then am_L d 127 9 [some (.inr 186), some (.inl x1), some (.inl x2), some (.inl (am_ior x3 0)), some (.inl (am_wrap (x4 + 1)))] [] M2 else am_L d 127 9 [some (.inr 186), some (.inl x1), some (.inl x2), some (.inl (am_ior x3 (am_ishl 1 x4))), some (.inl (am_wrap (x4 + 1)))] [] M2)) else am_L d 127 9 [some (.inr 186), some (.inl x1), some (.inl x2), some (.inl (am_ior x3 (am_ishl 1 x4))), some (.inl (am_wrap (x4 + 1)))] [] M1)) else some (x3, M))) := (am_blk am_h127 [9] 400 d 9 _ _ M).trans rfl
-- 128: LentHandsModel.out(I)I; stops [11, 24]
set_option maxRecDepth 100000 in
theorem e128 (d : Nat) (p1 : Int) (M : am_M) : am_run (d + 1) 128 [.inr 186, .inl p1] M = am_bnd (am_run d 0 [.inl p1, .inl 0, .inl 300] M) (fun r1 M1 => (if (r1 : Int) = 0 then some ((-1), M1) else am_bnd (am_run d 104 [.inr 186] M1) (fun _ M2 => am_L d 128 11 [some (.inr 186), some (.inl p1), some (.inl 0), none] [] M2))) := (am_run_s _ _ _ _).trans (((am_blk am_h128 [11, 24] 400 d 0 _ _ M).trans rfl))
set_option maxRecDepth 100000 in
theorem e128_11 (d : Nat) (x1 : Int) (x2 : Int) (M : am_M) : am_L d 128 11 [some (.inr 186), some (.inl x1), some (.inl x2), none] [] M = (if (x2 : Int) < x1 then am_bnd (am_run d 87 [.inr 186, .inl 0] M) (fun r1 M1 => am_L d 128 11 [some (.inr 186), some (.inl x1), some (.inl (am_wrap (x2 + 1))), none] [] M1) else am_L d 128 24 [some (.inr 186), some (.inl x1), some (.inl 0), some (.inl 0)] [] M) := (am_blk am_h128 [11, 24] 400 d 11 _ _ M).trans rfl
set_option maxRecDepth 100000 in
theorem e128_24 (d : Nat) (x1 : Int) (x2 : Int) (x3 : Int) (M : am_M) : am_L d 128 24 [some (.inr 186), some (.inl x1), some (.inl x2), some (.inl x3)] [] M = am_chk (0 ≤ (276 : Int) ∧ 276 < 3456) ((if (x3 : Int) < (am_wrap (2 * (M 187 276))) then am_bnd (am_run d 5 [.inr 186, .inl x3, .inl 8] M) (fun r2 M2 => am_bnd (am_run d 13 [.inl x3] M2) (fun r3 M3 => (if (r2 : Int) = r3 then am_L d 128 24 [some (.inr 186), some (.inl x1), some (.inl (am_ior x2 0)), some (.inl (am_wrap (x3 + 1)))] [] M3 else am_L d 128 24 [some (.inr 186), some (.inl x1), some (.inl (am_ior x2 (am_ishl 1 x3))), some (.inl (am_wrap (x3 + 1)))] [] M3))) else am_bnd (am_run d 105 [.inr 186] M) (fun _ M1 => some (x2, M1)))) := (am_blk am_h128 [11, 24] 400 d 24 _ _ M).trans rfl
-- 129: LentHandsModel.turnsOf(IIII)I; stops [32, 45]
set_option maxRecDepth 100000 in
theorem e129 (d : Nat) (p1 : Int) (p2 : Int) (p3 : Int) (p4 : Int) (M : am_M) : am_run (d + 1) 129 [.inr 186, .inl p1, .inl p2, .inl p3, .inl p4] M = am_bnd (am_run d 0 [.inl p1, .inl 1, .inl 60] M) (fun r1 M1 => (if (r1 : Int) = 0 then some ((-1), M1) else am_bnd (am_run d 0 [.inl p2, .inl 1, .inl 9] M1) (fun r2 M2 => (if (r2 : Int) = 0 then some ((-1), M2) else am_bnd (am_run d 0 [.inl p3, .inl 1, .inl 9] M2) (fun r3 M3 => (if (r3 : Int) = 0 then some ((-1), M3) else (if (p4 : Int) = 0 then am_L d 129 32 [some (.inr 186), some (.inl p1), some (.inl p2), some (.inl p3), some (.inl p4), some (.inl 0), some (.inl 0), some (.inl 0), none] [] M3 else am_bnd (am_run d 0 [.inl p4, .inl 10, .inl (am_wrap (9 + p1))] M3) (fun r4 M4 => (if (r4 : Int) = 0 then some ((-1), M4) else am_L d 129 32 [some (.inr 186), some (.inl p1), some (.inl p2), some (.inl p3), some (.inl p4), some (.inl 0), some (.inl 0), some (.inl 0), none] [] M4))))))))) := (am_run_s _ _ _ _).trans (((am_blk am_h129 [32, 45] 400 d 0 _ _ M).trans rfl))
set_option maxRecDepth 100000 in
theorem e129_32 (d : Nat) (x1 : Int) (x2 : Int) (x3 : Int) (x4 : Int) (x5 : Int) (x6 : Int) (x7 : Int) (o8 : Option am_V) (M : am_M) : am_L d 129 32 [some (.inr 186), some (.inl x1), some (.inl x2), some (.inl x3), some (.inl x4), some (.inl x5), some (.inl x6), some (.inl x7), o8] [] M = (if (x7 : Int) < x1 then (if ((am_wrap (x6 * x2)) : Int) < (am_wrap (x5 * x3)) then am_L d 129 45 [some (.inr 186), some (.inl x1), some (.inl x2), some (.inl x3), some (.inl x4), some (.inl x5), some (.inl x6), some (.inl x7), o8] [.inl 0] M else am_L d 129 45 [some (.inr 186), some (.inl x1), some (.inl x2), some (.inl x3), some (.inl x4), some (.inl x5), some (.inl x6), some (.inl x7), o8] [.inl 1] M) else some (x5, M)) := (am_blk am_h129 [32, 45] 400 d 32 _ _ M).trans rfl
set_option maxRecDepth 100000 in
theorem e129_45 (d : Nat) (x1 : Int) (x2 : Int) (x3 : Int) (x4 : Int) (x5 : Int) (x6 : Int) (x7 : Int) (o8 : Option am_V) (xs0 : Int) (M : am_M) : am_L d 129 45 [some (.inr 186), some (.inl x1), some (.inl x2), some (.inl x3), some (.inl x4), some (.inl x5), some (.inl x6), some (.inl x7), o8] [.inl xs0] M = (if (x4 : Int) = (am_wrap (10 + x7)) then (if (xs0 : Int) = 0 then some (1, M) else some (0, M)) else (if (xs0 : Int) = 0 then (if (xs0 : Int) = 0 then am_L d 129 32 [some (.inr 186), some (.inl x1), some (.inl x2), some (.inl x3), some (.inl x4), some (.inl (am_wrap (x5 + 0))), some (.inl (am_wrap (x6 + 1))), some (.inl (am_wrap (x7 + 1))), some (.inl xs0)] [] M else am_L d 129 32 [some (.inr 186), some (.inl x1), some (.inl x2), some (.inl x3), some (.inl x4), some (.inl (am_wrap (x5 + 0))), some (.inl (am_wrap (x6 + 0))), some (.inl (am_wrap (x7 + 1))), some (.inl xs0)] [] M) else (if (xs0 : Int) = 0 then am_L d 129 32 [some (.inr 186), some (.inl x1), some (.inl x2), some (.inl x3), some (.inl x4), some (.inl (am_wrap (x5 + 1))), some (.inl (am_wrap (x6 + 1))), some (.inl (am_wrap (x7 + 1))), some (.inl xs0)] [] M else am_L d 129 32 [some (.inr 186), some (.inl x1), some (.inl x2), some (.inl x3), some (.inl x4), some (.inl (am_wrap (x5 + 1))), some (.inl (am_wrap (x6 + 0))), some (.inl (am_wrap (x7 + 1))), some (.inl xs0)] [] M))) := (am_blk am_h129 [32, 45] 400 d 45 _ _ M).trans rfl
-- 130: LentHandsModel.image(Z)Z; stops [9]
set_option maxRecDepth 100000 in
theorem e130 (d : Nat) (p1 : Int) (M : am_M) : am_run (d + 1) 130 [.inr 186, .inl p1] M = (if (p1 : Int) = 0 then (if ((M 186 5) : Int) = 0 then some (0, M) else am_L d 130 9 [some (.inr 186), some (.inl p1), some (.inl 0)] [] M) else am_L d 130 9 [some (.inr 186), some (.inl p1), some (.inl 0)] [] M) := (am_run_s _ _ _ _).trans (((am_blk am_h130 [9] 400 d 0 _ _ M).trans rfl))
set_option maxRecDepth 100000 in
theorem e130_9 (d : Nat) (x1 : Int) (x2 : Int) (M : am_M) : am_L d 130 9 [some (.inr 186), some (.inl x1), some (.inl x2)] [] M = (if (x2 : Int) < 3456 then (if (x1 : Int) = 0 then am_chk (0 ≤ (x2 : Int) ∧ x2 < 3456) (am_chk (0 ≤ (x2 : Int) ∧ x2 < 3456) (am_L d 130 9 [some (.inr 186), some (.inl x1), some (.inl (am_wrap (x2 + 1)))] [] (am_upd M 187 x2 (M 188 x2)))) else am_chk (0 ≤ (x2 : Int) ∧ x2 < 3456) (am_chk (0 ≤ (x2 : Int) ∧ x2 < 3456) (am_L d 130 9 [some (.inr 186), some (.inl x1), some (.inl (am_wrap (x2 + 1)))] [] (am_upd M 188 x2 (M 187 x2))))) else (if (x1 : Int) = 0 then am_bnd (am_run d 14 [.inr 186] M) (fun _ M1 => some (1, (am_upd M1 186 5 1))) else some (1, (am_upd M 186 5 1)))) := (am_blk am_h130 [9] 400 d 9 _ _ M).trans rfl
-- 131: LentHandsModel.inOffice()I; stops [4]
set_option maxRecDepth 100000 in
theorem e131 (d : Nat) (M : am_M) : am_run (d + 1) 131 [.inr 186] M = am_L d 131 4 [some (.inr 186), some (.inl 0), some (.inl 0)] [] M := (am_run_s _ _ _ _).trans (((am_blk am_h131 [4] 400 d 0 _ _ M).trans rfl))
set_option maxRecDepth 100000 in
theorem e131_4 (d : Nat) (x1 : Int) (x2 : Int) (M : am_M) : am_L d 131 4 [some (.inr 186), some (.inl x1), some (.inl x2)] [] M = am_chk (0 ≤ (276 : Int) ∧ 276 < 3456) ((if (x2 : Int) < (am_wrap (2 * (M 187 276))) then am_bnd (am_run d 5 [.inr 186, .inl x2, .inl 8] M) (fun r1 M1 => (if (r1 : Int) = (-1) then am_L d 131 4 [some (.inr 186), some (.inl (am_ior x1 (am_ishl 1 x2))), some (.inl (am_wrap (x2 + 1)))] [] M1 else am_L d 131 4 [some (.inr 186), some (.inl (am_ior x1 0)), some (.inl (am_wrap (x2 + 1)))] [] M1)) else some (x1, M))) := (am_blk am_h131 [4] 400 d 4 _ _ M).trans rfl
-- 132: LentHandsModel.look(I)I; stops []
set_option maxRecDepth 100000 in
theorem e132 (d : Nat) (p1 : Int) (M : am_M) : am_run (d + 1) 132 [.inr 186, .inl p1] M = (if (p1 : Int) = 0 then am_chk (0 ≤ (276 : Int) ∧ 276 < 3456) (some ((M 187 276), M)) else (if (p1 : Int) = 1 then am_chk (0 ≤ (0 : Int) ∧ 0 < 3456) (some ((M 187 0), M)) else (if (p1 : Int) = 2 then am_chk (0 ≤ (1 : Int) ∧ 1 < 3456) (some ((M 187 1), M)) else (if (p1 : Int) = 3 then am_chk (0 ≤ (2 : Int) ∧ 2 < 3456) (some ((M 187 2), M)) else (if (p1 : Int) = 4 then am_chk (0 ≤ (3 : Int) ∧ 3 < 3456) (some ((M 187 3), M)) else (if (p1 : Int) = 5 then am_chk (0 ≤ (288 : Int) ∧ 288 < 3456) (some ((M 187 288), M)) else (if (p1 : Int) = 6 then am_chk (0 ≤ (289 : Int) ∧ 289 < 3456) (some ((M 187 289), M)) else (if (p1 : Int) = 7 then am_chk (0 ≤ (290 : Int) ∧ 290 < 3456) (some ((M 187 290), M)) else (if (p1 : Int) = 8 then am_chk (0 ≤ (286 : Int) ∧ 286 < 3456) (some ((M 187 286), M)) else (if (p1 : Int) = 9 then am_chk (0 ≤ (287 : Int) ∧ 287 < 3456) (some ((M 187 287), M)) else (if (p1 : Int) = 10 then some ((M 186 4), M) else (if (p1 : Int) = 11 then am_bnd (am_run d 131 [.inr 186] M) (fun r1 M1 => some (r1, M1)) else some ((-1), M))))))))))))) := (am_run_s _ _ _ _).trans (((am_blk am_h132 [] 400 d 0 _ _ M).trans rfl))
-- 133: LentHands$World.copyFrom(LLentHands$World;)V; stops []
set_option maxRecDepth 100000 in
theorem e133 (d : Nat) (a0 : Nat) (a1 : Nat) (M : am_M) : am_run (d + 1) 133 [.inr a0, .inr a1] M = cond (Nat.beq (am_cls a0) 5) (cond (Nat.beq (am_cls a1) 5) (cond (Nat.beq (am_cls a0) 5) (cond (Nat.beq (am_cls a1) 5) (cond (Nat.beq (am_cls a0) 5) (cond (Nat.beq (am_cls a1) 5) (cond (Nat.beq (am_cls a0) 5) (cond (Nat.beq (am_cls a1) 5) (cond (Nat.beq (am_cls a0) 5) (cond (Nat.beq (am_cls a1) 5) (cond (Nat.beq (am_cls a0) 5) (cond (Nat.beq (am_cls a1) 5) (cond (Nat.beq (am_cls a0) 5) (cond (Nat.beq (am_cls (am_rf a1 5)) 9 && Nat.beq (am_cls (am_rf a0 5)) 9) (am_chk (0 ≤ (0 : Int) ∧ 0 ≤ (0 : Int) ∧ 0 ≤ (8 : Int) ∧ (0 : Int) + 8 ≤ (am_len (am_upd (am_upd (am_upd (am_upd (am_upd M a0 0 (M a1 0)) a0 1 ((am_upd M a0 0 (M a1 0)) a1 1)) a0 2 ((am_upd (am_upd M a0 0 (M a1 0)) a0 1 ((am_upd M a0 0 (M a1 0)) a1 1)) a1 2)) a0 3 ((am_upd (am_upd (am_upd M a0 0 (M a1 0)) a0 1 ((am_upd M a0 0 (M a1 0)) a1 1)) a0 2 ((am_upd (am_upd M a0 0 (M a1 0)) a0 1 ((am_upd M a0 0 (M a1 0)) a1 1)) a1 2)) a1 3)) a0 4 ((am_upd (am_upd (am_upd (am_upd M a0 0 (M a1 0)) a0 1 ((am_upd M a0 0 (M a1 0)) a1 1)) a0 2 ((am_upd (am_upd M a0 0 (M a1 0)) a0 1 ((am_upd M a0 0 (M a1 0)) a1 1)) a1 2)) a0 3 ((am_upd (am_upd (am_upd M a0 0 (M a1 0)) a0 1 ((am_upd M a0 0 (M a1 0)) a1 1)) a0 2 ((am_upd (am_upd M a0 0 (M a1 0)) a0 1 ((am_upd M a0 0 (M a1 0)) a1 1)) a1 2)) a1 3)) a1 4)) (am_rf a1 5)) ∧ (0 : Int) + 8 ≤ (am_len (am_upd (am_upd (am_upd (am_upd (am_upd M a0 0 (M a1 0)) a0 1 ((am_upd M a0 0 (M a1 0)) a1 1)) a0 2 ((am_upd (am_upd M a0 0 (M a1 0)) a0 1 ((am_upd M a0 0 (M a1 0)) a1 1)) a1 2)) a0 3 ((am_upd (am_upd (am_upd M a0 0 (M a1 0)) a0 1 ((am_upd M a0 0 (M a1 0)) a1 1)) a0 2 ((am_upd (am_upd M a0 0 (M a1 0)) a0 1 ((am_upd M a0 0 (M a1 0)) a1 1)) a1 2)) a1 3)) a0 4 ((am_upd (am_upd (am_upd (am_upd M a0 0 (M a1 0)) a0 1 ((am_upd M a0 0 (M a1 0)) a1 1)) a0 2 ((am_upd (am_upd M a0 0 (M a1 0)) a0 1 ((am_upd M a0 0 (M a1 0)) a1 1)) a1 2)) a0 3 ((am_upd (am_upd (am_upd M a0 0 (M a1 0)) a0 1 ((am_upd M a0 0 (M a1 0)) a1 1)) a0 2 ((am_upd (am_upd M a0 0 (M a1 0)) a0 1 ((am_upd M a0 0 (M a1 0)) a1 1)) a1 2)) a1 3)) a1 4)) (am_rf a0 5))) (cond (Nat.beq (am_cls a1) 5) (cond (Nat.beq (am_cls a0) 5) (cond (Nat.beq (am_cls (am_rf a1 6)) 9 && Nat.beq (am_cls (am_rf a0 6)) 9) (am_chk (0 ≤ (0 : Int) ∧ 0 ≤ (0 : Int) ∧ 0 ≤ (8 : Int) ∧ (0 : Int) + 8 ≤ (am_len (am_cpy (am_upd (am_upd (am_upd (am_upd (am_upd M a0 0 (M a1 0)) a0 1 ((am_upd M a0 0 (M a1 0)) a1 1)) a0 2 ((am_upd (am_upd M a0 0 (M a1 0)) a0 1 ((am_upd M a0 0 (M a1 0)) a1 1)) a1 2)) a0 3 ((am_upd (am_upd (am_upd M a0 0 (M a1 0)) a0 1 ((am_upd M a0 0 (M a1 0)) a1 1)) a0 2 ((am_upd (am_upd M a0 0 (M a1 0)) a0 1 ((am_upd M a0 0 (M a1 0)) a1 1)) a1 2)) a1 3)) a0 4 ((am_upd (am_upd (am_upd (am_upd M a0 0 (M a1 0)) a0 1 ((am_upd M a0 0 (M a1 0)) a1 1)) a0 2 ((am_upd (am_upd M a0 0 (M a1 0)) a0 1 ((am_upd M a0 0 (M a1 0)) a1 1)) a1 2)) a0 3 ((am_upd (am_upd (am_upd M a0 0 (M a1 0)) a0 1 ((am_upd M a0 0 (M a1 0)) a1 1)) a0 2 ((am_upd (am_upd M a0 0 (M a1 0)) a0 1 ((am_upd M a0 0 (M a1 0)) a1 1)) a1 2)) a1 3)) a1 4)) (am_rf a1 5) 0 (am_rf a0 5) 0 8) (am_rf a1 6)) ∧ (0 : Int) + 8 ≤ (am_len (am_cpy (am_upd (am_upd (am_upd (am_upd (am_upd M a0 0 (M a1 0)) a0 1 ((am_upd M a0 0 (M a1 0)) a1 1)) a0 2 ((am_upd (am_upd M a0 0 (M a1 0)) a0 1 ((am_upd M a0 0 (M a1 0)) a1 1)) a1 2)) a0 3 ((am_upd (am_upd (am_upd M a0 0 (M a1 0)) a0 1 ((am_upd M a0 0 (M a1 0)) a1 1)) a0 2 ((am_upd (am_upd M a0 0 (M a1 0)) a0 1 ((am_upd M a0 0 (M a1 0)) a1 1)) a1 2)) a1 3)) a0 4 ((am_upd (am_upd (am_upd (am_upd M a0 0 (M a1 0)) a0 1 ((am_upd M a0 0 (M a1 0)) a1 1)) a0 2 ((am_upd (am_upd M a0 0 (M a1 0)) a0 1 ((am_upd M a0 0 (M a1 0)) a1 1)) a1 2)) a0 3 ((am_upd (am_upd (am_upd M a0 0 (M a1 0)) a0 1 ((am_upd M a0 0 (M a1 0)) a1 1)) a0 2 ((am_upd (am_upd M a0 0 (M a1 0)) a0 1 ((am_upd M a0 0 (M a1 0)) a1 1)) a1 2)) a1 3)) a1 4)) (am_rf a1 5) 0 (am_rf a0 5) 0 8) (am_rf a0 6))) (cond (Nat.beq (am_cls a1) 5) (cond (Nat.beq (am_cls a0) 5) (cond (Nat.beq (am_cls (am_rf a1 7)) 9 && Nat.beq (am_cls (am_rf a0 7)) 9) (am_chk (0 ≤ (0 : Int) ∧ 0 ≤ (0 : Int) ∧ 0 ≤ (8 : Int) ∧ (0 : Int) + 8 ≤ (am_len (am_cpy (am_cpy (am_upd (am_upd (am_upd (am_upd (am_upd M a0 0 (M a1 0)) a0 1 ((am_upd M a0 0 (M a1 0)) a1 1)) a0 2 ((am_upd (am_upd M a0 0 (M a1 0)) a0 1 ((am_upd M a0 0 (M a1 0)) a1 1)) a1 2)) a0 3 ((am_upd (am_upd (am_upd M a0 0 (M a1 0)) a0 1 ((am_upd M a0 0 (M a1 0)) a1 1)) a0 2 ((am_upd (am_upd M a0 0 (M a1 0)) a0 1 ((am_upd M a0 0 (M a1 0)) a1 1)) a1 2)) a1 3)) a0 4 ((am_upd (am_upd (am_upd (am_upd M a0 0 (M a1 0)) a0 1 ((am_upd M a0 0 (M a1 0)) a1 1)) a0 2 ((am_upd (am_upd M a0 0 (M a1 0)) a0 1 ((am_upd M a0 0 (M a1 0)) a1 1)) a1 2)) a0 3 ((am_upd (am_upd (am_upd M a0 0 (M a1 0)) a0 1 ((am_upd M a0 0 (M a1 0)) a1 1)) a0 2 ((am_upd (am_upd M a0 0 (M a1 0)) a0 1 ((am_upd M a0 0 (M a1 0)) a1 1)) a1 2)) a1 3)) a1 4)) (am_rf a1 5) 0 (am_rf a0 5) 0 8) (am_rf a1 6) 0 (am_rf a0 6) 0 8) (am_rf a1 7)) ∧ (0 : Int) + 8 ≤ (am_len (am_cpy (am_cpy (am_upd (am_upd (am_upd (am_upd (am_upd M a0 0 (M a1 0)) a0 1 ((am_upd M a0 0 (M a1 0)) a1 1)) a0 2 ((am_upd (am_upd M a0 0 (M a1 0)) a0 1 ((am_upd M a0 0 (M a1 0)) a1 1)) a1 2)) a0 3 ((am_upd (am_upd (am_upd M a0 0 (M a1 0)) a0 1 ((am_upd M a0 0 (M a1 0)) a1 1)) a0 2 ((am_upd (am_upd M a0 0 (M a1 0)) a0 1 ((am_upd M a0 0 (M a1 0)) a1 1)) a1 2)) a1 3)) a0 4 ((am_upd (am_upd (am_upd (am_upd M a0 0 (M a1 0)) a0 1 ((am_upd M a0 0 (M a1 0)) a1 1)) a0 2 ((am_upd (am_upd M a0 0 (M a1 0)) a0 1 ((am_upd M a0 0 (M a1 0)) a1 1)) a1 2)) a0 3 ((am_upd (am_upd (am_upd M a0 0 (M a1 0)) a0 1 ((am_upd M a0 0 (M a1 0)) a1 1)) a0 2 ((am_upd (am_upd M a0 0 (M a1 0)) a0 1 ((am_upd M a0 0 (M a1 0)) a1 1)) a1 2)) a1 3)) a1 4)) (am_rf a1 5) 0 (am_rf a0 5) 0 8) (am_rf a1 6) 0 (am_rf a0 6) 0 8) (am_rf a0 7))) (cond (Nat.beq (am_cls a1) 5) (cond (Nat.beq (am_cls a0) 5) (cond (Nat.beq (am_cls (am_rf a1 8)) 9 && Nat.beq (am_cls (am_rf a0 8)) 9) (am_chk (0 ≤ (0 : Int) ∧ 0 ≤ (0 : Int) ∧ 0 ≤ (8 : Int) ∧ (0 : Int) + 8 ≤ (am_len (am_cpy (am_cpy (am_cpy (am_upd (am_upd (am_upd (am_upd (am_upd M a0 0 (M a1 0)) a0 1 ((am_upd M a0 0 (M a1 0)) a1 1)) a0 2 ((am_upd (am_upd M a0 0 (M a1 0)) a0 1 ((am_upd M a0 0 (M a1 0)) a1 1)) a1 2)) a0 3 ((am_upd (am_upd (am_upd M a0 0 (M a1 0)) a0 1 ((am_upd M a0 0 (M a1 0)) a1 1)) a0 2 ((am_upd (am_upd M a0 0 (M a1 0)) a0 1 ((am_upd M a0 0 (M a1 0)) a1 1)) a1 2)) a1 3)) a0 4 ((am_upd (am_upd (am_upd (am_upd M a0 0 (M a1 0)) a0 1 ((am_upd M a0 0 (M a1 0)) a1 1)) a0 2 ((am_upd (am_upd M a0 0 (M a1 0)) a0 1 ((am_upd M a0 0 (M a1 0)) a1 1)) a1 2)) a0 3 ((am_upd (am_upd (am_upd M a0 0 (M a1 0)) a0 1 ((am_upd M a0 0 (M a1 0)) a1 1)) a0 2 ((am_upd (am_upd M a0 0 (M a1 0)) a0 1 ((am_upd M a0 0 (M a1 0)) a1 1)) a1 2)) a1 3)) a1 4)) (am_rf a1 5) 0 (am_rf a0 5) 0 8) (am_rf a1 6) 0 (am_rf a0 6) 0 8) (am_rf a1 7) 0 (am_rf a0 7) 0 8) (am_rf a1 8)) ∧ (0 : Int) + 8 ≤ (am_len (am_cpy (am_cpy (am_cpy (am_upd (am_upd (am_upd (am_upd (am_upd M a0 0 (M a1 0)) a0 1 ((am_upd M a0 0 (M a1 0)) a1 1)) a0 2 ((am_upd (am_upd M a0 0 (M a1 0)) a0 1 ((am_upd M a0 0 (M a1 0)) a1 1)) a1 2)) a0 3 ((am_upd (am_upd (am_upd M a0 0 (M a1 0)) a0 1 ((am_upd M a0 0 (M a1 0)) a1 1)) a0 2 ((am_upd (am_upd M a0 0 (M a1 0)) a0 1 ((am_upd M a0 0 (M a1 0)) a1 1)) a1 2)) a1 3)) a0 4 ((am_upd (am_upd (am_upd (am_upd M a0 0 (M a1 0)) a0 1 ((am_upd M a0 0 (M a1 0)) a1 1)) a0 2 ((am_upd (am_upd M a0 0 (M a1 0)) a0 1 ((am_upd M a0 0 (M a1 0)) a1 1)) a1 2)) a0 3 ((am_upd (am_upd (am_upd M a0 0 (M a1 0)) a0 1 ((am_upd M a0 0 (M a1 0)) a1 1)) a0 2 ((am_upd (am_upd M a0 0 (M a1 0)) a0 1 ((am_upd M a0 0 (M a1 0)) a1 1)) a1 2)) a1 3)) a1 4)) (am_rf a1 5) 0 (am_rf a0 5) 0 8) (am_rf a1 6) 0 (am_rf a0 6) 0 8) (am_rf a1 7) 0 (am_rf a0 7) 0 8) (am_rf a0 8))) (cond (Nat.beq (am_cls a1) 5) (cond (Nat.beq (am_cls a0) 5) (cond (Nat.beq (am_cls (am_rf a1 9)) 9 && Nat.beq (am_cls (am_rf a0 9)) 9) (am_chk (0 ≤ (0 : Int) ∧ 0 ≤ (0 : Int) ∧ 0 ≤ (16 : Int) ∧ (0 : Int) + 16 ≤ (am_len (am_cpy (am_cpy (am_cpy (am_cpy (am_upd (am_upd (am_upd (am_upd (am_upd M a0 0 (M a1 0)) a0 1 ((am_upd M a0 0 (M a1 0)) a1 1)) a0 2 ((am_upd (am_upd M a0 0 (M a1 0)) a0 1 ((am_upd M a0 0 (M a1 0)) a1 1)) a1 2)) a0 3 ((am_upd (am_upd (am_upd M a0 0 (M a1 0)) a0 1 ((am_upd M a0 0 (M a1 0)) a1 1)) a0 2 ((am_upd (am_upd M a0 0 (M a1 0)) a0 1 ((am_upd M a0 0 (M a1 0)) a1 1)) a1 2)) a1 3)) a0 4 ((am_upd (am_upd (am_upd (am_upd M a0 0 (M a1 0)) a0 1 ((am_upd M a0 0 (M a1 0)) a1 1)) a0 2 ((am_upd (am_upd M a0 0 (M a1 0)) a0 1 ((am_upd M a0 0 (M a1 0)) a1 1)) a1 2)) a0 3 ((am_upd (am_upd (am_upd M a0 0 (M a1 0)) a0 1 ((am_upd M a0 0 (M a1 0)) a1 1)) a0 2 ((am_upd (am_upd M a0 0 (M a1 0)) a0 1 ((am_upd M a0 0 (M a1 0)) a1 1)) a1 2)) a1 3)) a1 4)) (am_rf a1 5) 0 (am_rf a0 5) 0 8) (am_rf a1 6) 0 (am_rf a0 6) 0 8) (am_rf a1 7) 0 (am_rf a0 7) 0 8) (am_rf a1 8) 0 (am_rf a0 8) 0 8) (am_rf a1 9)) ∧ (0 : Int) + 16 ≤ (am_len (am_cpy (am_cpy (am_cpy (am_cpy (am_upd (am_upd (am_upd (am_upd (am_upd M a0 0 (M a1 0)) a0 1 ((am_upd M a0 0 (M a1 0)) a1 1)) a0 2 ((am_upd (am_upd M a0 0 (M a1 0)) a0 1 ((am_upd M a0 0 (M a1 0)) a1 1)) a1 2)) a0 3 ((am_upd (am_upd (am_upd M a0 0 (M a1 0)) a0 1 ((am_upd M a0 0 (M a1 0)) a1 1)) a0 2 ((am_upd (am_upd M a0 0 (M a1 0)) a0 1 ((am_upd M a0 0 (M a1 0)) a1 1)) a1 2)) a1 3)) a0 4 ((am_upd (am_upd (am_upd (am_upd M a0 0 (M a1 0)) a0 1 ((am_upd M a0 0 (M a1 0)) a1 1)) a0 2 ((am_upd (am_upd M a0 0 (M a1 0)) a0 1 ((am_upd M a0 0 (M a1 0)) a1 1)) a1 2)) a0 3 ((am_upd (am_upd (am_upd M a0 0 (M a1 0)) a0 1 ((am_upd M a0 0 (M a1 0)) a1 1)) a0 2 ((am_upd (am_upd M a0 0 (M a1 0)) a0 1 ((am_upd M a0 0 (M a1 0)) a1 1)) a1 2)) a1 3)) a1 4)) (am_rf a1 5) 0 (am_rf a0 5) 0 8) (am_rf a1 6) 0 (am_rf a0 6) 0 8) (am_rf a1 7) 0 (am_rf a0 7) 0 8) (am_rf a1 8) 0 (am_rf a0 8) 0 8) (am_rf a0 9))) (cond (Nat.beq (am_cls a1) 5) (cond (Nat.beq (am_cls a0) 5) (cond (Nat.beq (am_cls (am_rf a1 10)) 9 && Nat.beq (am_cls (am_rf a0 10)) 9) (am_chk (0 ≤ (0 : Int) ∧ 0 ≤ (0 : Int) ∧ 0 ≤ (16 : Int) ∧ (0 : Int) + 16 ≤ (am_len (am_cpy (am_cpy (am_cpy (am_cpy (am_cpy (am_upd (am_upd (am_upd (am_upd (am_upd M a0 0 (M a1 0)) a0 1 ((am_upd M a0 0 (M a1 0)) a1 1)) a0 2 ((am_upd (am_upd M a0 0 (M a1 0)) a0 1 ((am_upd M a0 0 (M a1 0)) a1 1)) a1 2)) a0 3 ((am_upd (am_upd (am_upd M a0 0 (M a1 0)) a0 1 ((am_upd M a0 0 (M a1 0)) a1 1)) a0 2 ((am_upd (am_upd M a0 0 (M a1 0)) a0 1 ((am_upd M a0 0 (M a1 0)) a1 1)) a1 2)) a1 3)) a0 4 ((am_upd (am_upd (am_upd (am_upd M a0 0 (M a1 0)) a0 1 ((am_upd M a0 0 (M a1 0)) a1 1)) a0 2 ((am_upd (am_upd M a0 0 (M a1 0)) a0 1 ((am_upd M a0 0 (M a1 0)) a1 1)) a1 2)) a0 3 ((am_upd (am_upd (am_upd M a0 0 (M a1 0)) a0 1 ((am_upd M a0 0 (M a1 0)) a1 1)) a0 2 ((am_upd (am_upd M a0 0 (M a1 0)) a0 1 ((am_upd M a0 0 (M a1 0)) a1 1)) a1 2)) a1 3)) a1 4)) (am_rf a1 5) 0 (am_rf a0 5) 0 8) (am_rf a1 6) 0 (am_rf a0 6) 0 8) (am_rf a1 7) 0 (am_rf a0 7) 0 8) (am_rf a1 8) 0 (am_rf a0 8) 0 8) (am_rf a1 9) 0 (am_rf a0 9) 0 16) (am_rf a1 10)) ∧ (0 : Int) + 16 ≤ (am_len (am_cpy (am_cpy (am_cpy (am_cpy (am_cpy (am_upd (am_upd (am_upd (am_upd (am_upd M a0 0 (M a1 0)) a0 1 ((am_upd M a0 0 (M a1 0)) a1 1)) a0 2 ((am_upd (am_upd M a0 0 (M a1 0)) a0 1 ((am_upd M a0 0 (M a1 0)) a1 1)) a1 2)) a0 3 ((am_upd (am_upd (am_upd M a0 0 (M a1 0)) a0 1 ((am_upd M a0 0 (M a1 0)) a1 1)) a0 2 ((am_upd (am_upd M a0 0 (M a1 0)) a0 1 ((am_upd M a0 0 (M a1 0)) a1 1)) a1 2)) a1 3)) a0 4 ((am_upd (am_upd (am_upd (am_upd M a0 0 (M a1 0)) a0 1 ((am_upd M a0 0 (M a1 0)) a1 1)) a0 2 ((am_upd (am_upd M a0 0 (M a1 0)) a0 1 ((am_upd M a0 0 (M a1 0)) a1 1)) a1 2)) a0 3 ((am_upd (am_upd (am_upd M a0 0 (M a1 0)) a0 1 ((am_upd M a0 0 (M a1 0)) a1 1)) a0 2 ((am_upd (am_upd M a0 0 (M a1 0)) a0 1 ((am_upd M a0 0 (M a1 0)) a1 1)) a1 2)) a1 3)) a1 4)) (am_rf a1 5) 0 (am_rf a0 5) 0 8) (am_rf a1 6) 0 (am_rf a0 6) 0 8) (am_rf a1 7) 0 (am_rf a0 7) 0 8) (am_rf a1 8) 0 (am_rf a0 8) 0 8) (am_rf a1 9) 0 (am_rf a0 9) 0 16) (am_rf a0 10))) (cond (Nat.beq (am_cls a1) 5) (cond (Nat.beq (am_cls a0) 5) (cond (Nat.beq (am_cls (am_rf a1 11)) 9 && Nat.beq (am_cls (am_rf a0 11)) 9) (am_chk (0 ≤ (0 : Int) ∧ 0 ≤ (0 : Int) ∧ 0 ≤ (64 : Int) ∧ (0 : Int) + 64 ≤ (am_len (am_cpy (am_cpy (am_cpy (am_cpy (am_cpy (am_cpy (am_upd (am_upd (am_upd (am_upd (am_upd M a0 0 (M a1 0)) a0 1 ((am_upd M a0 0 (M a1 0)) a1 1)) a0 2 ((am_upd (am_upd M a0 0 (M a1 0)) a0 1 ((am_upd M a0 0 (M a1 0)) a1 1)) a1 2)) a0 3 ((am_upd (am_upd (am_upd M a0 0 (M a1 0)) a0 1 ((am_upd M a0 0 (M a1 0)) a1 1)) a0 2 ((am_upd (am_upd M a0 0 (M a1 0)) a0 1 ((am_upd M a0 0 (M a1 0)) a1 1)) a1 2)) a1 3)) a0 4 ((am_upd (am_upd (am_upd (am_upd M a0 0 (M a1 0)) a0 1 ((am_upd M a0 0 (M a1 0)) a1 1)) a0 2 ((am_upd (am_upd M a0 0 (M a1 0)) a0 1 ((am_upd M a0 0 (M a1 0)) a1 1)) a1 2)) a0 3 ((am_upd (am_upd (am_upd M a0 0 (M a1 0)) a0 1 ((am_upd M a0 0 (M a1 0)) a1 1)) a0 2 ((am_upd (am_upd M a0 0 (M a1 0)) a0 1 ((am_upd M a0 0 (M a1 0)) a1 1)) a1 2)) a1 3)) a1 4)) (am_rf a1 5) 0 (am_rf a0 5) 0 8) (am_rf a1 6) 0 (am_rf a0 6) 0 8) (am_rf a1 7) 0 (am_rf a0 7) 0 8) (am_rf a1 8) 0 (am_rf a0 8) 0 8) (am_rf a1 9) 0 (am_rf a0 9) 0 16) (am_rf a1 10) 0 (am_rf a0 10) 0 16) (am_rf a1 11)) ∧ (0 : Int) + 64 ≤ (am_len (am_cpy (am_cpy (am_cpy (am_cpy (am_cpy (am_cpy (am_upd (am_upd (am_upd (am_upd (am_upd M a0 0 (M a1 0)) a0 1 ((am_upd M a0 0 (M a1 0)) a1 1)) a0 2 ((am_upd (am_upd M a0 0 (M a1 0)) a0 1 ((am_upd M a0 0 (M a1 0)) a1 1)) a1 2)) a0 3 ((am_upd (am_upd (am_upd M a0 0 (M a1 0)) a0 1 ((am_upd M a0 0 (M a1 0)) a1 1)) a0 2 ((am_upd (am_upd M a0 0 (M a1 0)) a0 1 ((am_upd M a0 0 (M a1 0)) a1 1)) a1 2)) a1 3)) a0 4 ((am_upd (am_upd (am_upd (am_upd M a0 0 (M a1 0)) a0 1 ((am_upd M a0 0 (M a1 0)) a1 1)) a0 2 ((am_upd (am_upd M a0 0 (M a1 0)) a0 1 ((am_upd M a0 0 (M a1 0)) a1 1)) a1 2)) a0 3 ((am_upd (am_upd (am_upd M a0 0 (M a1 0)) a0 1 ((am_upd M a0 0 (M a1 0)) a1 1)) a0 2 ((am_upd (am_upd M a0 0 (M a1 0)) a0 1 ((am_upd M a0 0 (M a1 0)) a1 1)) a1 2)) a1 3)) a1 4)) (am_rf a1 5) 0 (am_rf a0 5) 0 8) (am_rf a1 6) 0 (am_rf a0 6) 0 8) (am_rf a1 7) 0 (am_rf a0 7) 0 8) (am_rf a1 8) 0 (am_rf a0 8) 0 8) (am_rf a1 9) 0 (am_rf a0 9) 0 16) (am_rf a1 10) 0 (am_rf a0 10) 0 16) (am_rf a0 11))) (cond (Nat.beq (am_cls a1) 5) (cond (Nat.beq (am_cls a0) 5) (cond (Nat.beq (am_cls (am_rf a1 12)) 9 && Nat.beq (am_cls (am_rf a0 12)) 9) (am_chk (0 ≤ (0 : Int) ∧ 0 ≤ (0 : Int) ∧ 0 ≤ (16 : Int) ∧ (0 : Int) + 16 ≤ (am_len (am_cpy (am_cpy (am_cpy (am_cpy (am_cpy (am_cpy (am_cpy (am_upd (am_upd (am_upd (am_upd (am_upd M a0 0 (M a1 0)) a0 1 ((am_upd M a0 0 (M a1 0)) a1 1)) a0 2 ((am_upd (am_upd M a0 0 (M a1 0)) a0 1 ((am_upd M a0 0 (M a1 0)) a1 1)) a1 2)) a0 3 ((am_upd (am_upd (am_upd M a0 0 (M a1 0)) a0 1 ((am_upd M a0 0 (M a1 0)) a1 1)) a0 2 ((am_upd (am_upd M a0 0 (M a1 0)) a0 1 ((am_upd M a0 0 (M a1 0)) a1 1)) a1 2)) a1 3)) a0 4 ((am_upd (am_upd (am_upd (am_upd M a0 0 (M a1 0)) a0 1 ((am_upd M a0 0 (M a1 0)) a1 1)) a0 2 ((am_upd (am_upd M a0 0 (M a1 0)) a0 1 ((am_upd M a0 0 (M a1 0)) a1 1)) a1 2)) a0 3 ((am_upd (am_upd (am_upd M a0 0 (M a1 0)) a0 1 ((am_upd M a0 0 (M a1 0)) a1 1)) a0 2 ((am_upd (am_upd M a0 0 (M a1 0)) a0 1 ((am_upd M a0 0 (M a1 0)) a1 1)) a1 2)) a1 3)) a1 4)) (am_rf a1 5) 0 (am_rf a0 5) 0 8) (am_rf a1 6) 0 (am_rf a0 6) 0 8) (am_rf a1 7) 0 (am_rf a0 7) 0 8) (am_rf a1 8) 0 (am_rf a0 8) 0 8) (am_rf a1 9) 0 (am_rf a0 9) 0 16) (am_rf a1 10) 0 (am_rf a0 10) 0 16) (am_rf a1 11) 0 (am_rf a0 11) 0 64) (am_rf a1 12)) ∧ (0 : Int) + 16 ≤ (am_len (am_cpy (am_cpy (am_cpy (am_cpy (am_cpy (am_cpy (am_cpy (am_upd (am_upd (am_upd (am_upd (am_upd M a0 0 (M a1 0)) a0 1 ((am_upd M a0 0 (M a1 0)) a1 1)) a0 2 ((am_upd (am_upd M a0 0 (M a1 0)) a0 1 ((am_upd M a0 0 (M a1 0)) a1 1)) a1 2)) a0 3 ((am_upd (am_upd (am_upd M a0 0 (M a1 0)) a0 1 ((am_upd M a0 0 (M a1 0)) a1 1)) a0 2 ((am_upd (am_upd M a0 0 (M a1 0)) a0 1 ((am_upd M a0 0 (M a1 0)) a1 1)) a1 2)) a1 3)) a0 4 ((am_upd (am_upd (am_upd (am_upd M a0 0 (M a1 0)) a0 1 ((am_upd M a0 0 (M a1 0)) a1 1)) a0 2 ((am_upd (am_upd M a0 0 (M a1 0)) a0 1 ((am_upd M a0 0 (M a1 0)) a1 1)) a1 2)) a0 3 ((am_upd (am_upd (am_upd M a0 0 (M a1 0)) a0 1 ((am_upd M a0 0 (M a1 0)) a1 1)) a0 2 ((am_upd (am_upd M a0 0 (M a1 0)) a0 1 ((am_upd M a0 0 (M a1 0)) a1 1)) a1 2)) a1 3)) a1 4)) (am_rf a1 5) 0 (am_rf a0 5) 0 8) (am_rf a1 6) 0 (am_rf a0 6) 0 8) (am_rf a1 7) 0 (am_rf a0 7) 0 8) (am_rf a1 8) 0 (am_rf a0 8) 0 8) (am_rf a1 9) 0 (am_rf a0 9) 0 16) (am_rf a1 10) 0 (am_rf a0 10) 0 16) (am_rf a1 11) 0 (am_rf a0 11) 0 64) (am_rf a0 12))) (cond (Nat.beq (am_cls a1) 5) (cond (Nat.beq (am_cls a0) 5) (cond (Nat.beq (am_cls (am_rf a1 13)) 9 && Nat.beq (am_cls (am_rf a0 13)) 9) (am_chk (0 ≤ (0 : Int) ∧ 0 ≤ (0 : Int) ∧ 0 ≤ (16 : Int) ∧ (0 : Int) + 16 ≤ (am_len (am_cpy (am_cpy (am_cpy (am_cpy (am_cpy (am_cpy (am_cpy (am_cpy (am_upd (am_upd (am_upd (am_upd (am_upd M a0 0 (M a1 0)) a0 1 ((am_upd M a0 0 (M a1 0)) a1 1)) a0 2 ((am_upd (am_upd M a0 0 (M a1 0)) a0 1 ((am_upd M a0 0 (M a1 0)) a1 1)) a1 2)) a0 3 ((am_upd (am_upd (am_upd M a0 0 (M a1 0)) a0 1 ((am_upd M a0 0 (M a1 0)) a1 1)) a0 2 ((am_upd (am_upd M a0 0 (M a1 0)) a0 1 ((am_upd M a0 0 (M a1 0)) a1 1)) a1 2)) a1 3)) a0 4 ((am_upd (am_upd (am_upd (am_upd M a0 0 (M a1 0)) a0 1 ((am_upd M a0 0 (M a1 0)) a1 1)) a0 2 ((am_upd (am_upd M a0 0 (M a1 0)) a0 1 ((am_upd M a0 0 (M a1 0)) a1 1)) a1 2)) a0 3 ((am_upd (am_upd (am_upd M a0 0 (M a1 0)) a0 1 ((am_upd M a0 0 (M a1 0)) a1 1)) a0 2 ((am_upd (am_upd M a0 0 (M a1 0)) a0 1 ((am_upd M a0 0 (M a1 0)) a1 1)) a1 2)) a1 3)) a1 4)) (am_rf a1 5) 0 (am_rf a0 5) 0 8) (am_rf a1 6) 0 (am_rf a0 6) 0 8) (am_rf a1 7) 0 (am_rf a0 7) 0 8) (am_rf a1 8) 0 (am_rf a0 8) 0 8) (am_rf a1 9) 0 (am_rf a0 9) 0 16) (am_rf a1 10) 0 (am_rf a0 10) 0 16) (am_rf a1 11) 0 (am_rf a0 11) 0 64) (am_rf a1 12) 0 (am_rf a0 12) 0 16) (am_rf a1 13)) ∧ (0 : Int) + 16 ≤ (am_len (am_cpy (am_cpy (am_cpy (am_cpy (am_cpy (am_cpy (am_cpy (am_cpy (am_upd (am_upd (am_upd (am_upd (am_upd M a0 0 (M a1 0)) a0 1 ((am_upd M a0 0 (M a1 0)) a1 1)) a0 2 ((am_upd (am_upd M a0 0 (M a1 0)) a0 1 ((am_upd M a0 0 (M a1 0)) a1 1)) a1 2)) a0 3 ((am_upd (am_upd (am_upd M a0 0 (M a1 0)) a0 1 ((am_upd M a0 0 (M a1 0)) a1 1)) a0 2 ((am_upd (am_upd M a0 0 (M a1 0)) a0 1 ((am_upd M a0 0 (M a1 0)) a1 1)) a1 2)) a1 3)) a0 4 ((am_upd (am_upd (am_upd (am_upd M a0 0 (M a1 0)) a0 1 ((am_upd M a0 0 (M a1 0)) a1 1)) a0 2 ((am_upd (am_upd M a0 0 (M a1 0)) a0 1 ((am_upd M a0 0 (M a1 0)) a1 1)) a1 2)) a0 3 ((am_upd (am_upd (am_upd M a0 0 (M a1 0)) a0 1 ((am_upd M a0 0 (M a1 0)) a1 1)) a0 2 ((am_upd (am_upd M a0 0 (M a1 0)) a0 1 ((am_upd M a0 0 (M a1 0)) a1 1)) a1 2)) a1 3)) a1 4)) (am_rf a1 5) 0 (am_rf a0 5) 0 8) (am_rf a1 6) 0 (am_rf a0 6) 0 8) (am_rf a1 7) 0 (am_rf a0 7) 0 8) (am_rf a1 8) 0 (am_rf a0 8) 0 8) (am_rf a1 9) 0 (am_rf a0 9) 0 16) (am_rf a1 10) 0 (am_rf a0 10) 0 16) (am_rf a1 11) 0 (am_rf a0 11) 0 64) (am_rf a1 12) 0 (am_rf a0 12) 0 16) (am_rf a0 13))) (cond (Nat.beq (am_cls a1) 5) (cond (Nat.beq (am_cls a0) 5) (cond (Nat.beq (am_cls (am_rf a1 14)) 9 && Nat.beq (am_cls (am_rf a0 14)) 9) (am_chk (0 ≤ (0 : Int) ∧ 0 ≤ (0 : Int) ∧ 0 ≤ (16 : Int) ∧ (0 : Int) + 16 ≤ (am_len (am_cpy (am_cpy (am_cpy (am_cpy (am_cpy (am_cpy (am_cpy (am_cpy (am_cpy (am_upd (am_upd (am_upd (am_upd (am_upd M a0 0 (M a1 0)) a0 1 ((am_upd M a0 0 (M a1 0)) a1 1)) a0 2 ((am_upd (am_upd M a0 0 (M a1 0)) a0 1 ((am_upd M a0 0 (M a1 0)) a1 1)) a1 2)) a0 3 ((am_upd (am_upd (am_upd M a0 0 (M a1 0)) a0 1 ((am_upd M a0 0 (M a1 0)) a1 1)) a0 2 ((am_upd (am_upd M a0 0 (M a1 0)) a0 1 ((am_upd M a0 0 (M a1 0)) a1 1)) a1 2)) a1 3)) a0 4 ((am_upd (am_upd (am_upd (am_upd M a0 0 (M a1 0)) a0 1 ((am_upd M a0 0 (M a1 0)) a1 1)) a0 2 ((am_upd (am_upd M a0 0 (M a1 0)) a0 1 ((am_upd M a0 0 (M a1 0)) a1 1)) a1 2)) a0 3 ((am_upd (am_upd (am_upd M a0 0 (M a1 0)) a0 1 ((am_upd M a0 0 (M a1 0)) a1 1)) a0 2 ((am_upd (am_upd M a0 0 (M a1 0)) a0 1 ((am_upd M a0 0 (M a1 0)) a1 1)) a1 2)) a1 3)) a1 4)) (am_rf a1 5) 0 (am_rf a0 5) 0 8) (am_rf a1 6) 0 (am_rf a0 6) 0 8) (am_rf a1 7) 0 (am_rf a0 7) 0 8) (am_rf a1 8) 0 (am_rf a0 8) 0 8) (am_rf a1 9) 0 (am_rf a0 9) 0 16) (am_rf a1 10) 0 (am_rf a0 10) 0 16) (am_rf a1 11) 0 (am_rf a0 11) 0 64) (am_rf a1 12) 0 (am_rf a0 12) 0 16) (am_rf a1 13) 0 (am_rf a0 13) 0 16) (am_rf a1 14)) ∧ (0 : Int) + 16 ≤ (am_len (am_cpy (am_cpy (am_cpy (am_cpy (am_cpy (am_cpy (am_cpy (am_cpy (am_cpy (am_upd (am_upd (am_upd (am_upd (am_upd M a0 0 (M a1 0)) a0 1 ((am_upd M a0 0 (M a1 0)) a1 1)) a0 2 ((am_upd (am_upd M a0 0 (M a1 0)) a0 1 ((am_upd M a0 0 (M a1 0)) a1 1)) a1 2)) a0 3 ((am_upd (am_upd (am_upd M a0 0 (M a1 0)) a0 1 ((am_upd M a0 0 (M a1 0)) a1 1)) a0 2 ((am_upd (am_upd M a0 0 (M a1 0)) a0 1 ((am_upd M a0 0 (M a1 0)) a1 1)) a1 2)) a1 3)) a0 4 ((am_upd (am_upd (am_upd (am_upd M a0 0 (M a1 0)) a0 1 ((am_upd M a0 0 (M a1 0)) a1 1)) a0 2 ((am_upd (am_upd M a0 0 (M a1 0)) a0 1 ((am_upd M a0 0 (M a1 0)) a1 1)) a1 2)) a0 3 ((am_upd (am_upd (am_upd M a0 0 (M a1 0)) a0 1 ((am_upd M a0 0 (M a1 0)) a1 1)) a0 2 ((am_upd (am_upd M a0 0 (M a1 0)) a0 1 ((am_upd M a0 0 (M a1 0)) a1 1)) a1 2)) a1 3)) a1 4)) (am_rf a1 5) 0 (am_rf a0 5) 0 8) (am_rf a1 6) 0 (am_rf a0 6) 0 8) (am_rf a1 7) 0 (am_rf a0 7) 0 8) (am_rf a1 8) 0 (am_rf a0 8) 0 8) (am_rf a1 9) 0 (am_rf a0 9) 0 16) (am_rf a1 10) 0 (am_rf a0 10) 0 16) (am_rf a1 11) 0 (am_rf a0 11) 0 64) (am_rf a1 12) 0 (am_rf a0 12) 0 16) (am_rf a1 13) 0 (am_rf a0 13) 0 16) (am_rf a0 14))) (cond (Nat.beq (am_cls a1) 5) (cond (Nat.beq (am_cls a0) 5) (cond (Nat.beq (am_cls (am_rf a1 15)) 9 && Nat.beq (am_cls (am_rf a0 15)) 9) (am_chk (0 ≤ (0 : Int) ∧ 0 ≤ (0 : Int) ∧ 0 ≤ (16 : Int) ∧ (0 : Int) + 16 ≤ (am_len (am_cpy (am_cpy (am_cpy (am_cpy (am_cpy (am_cpy (am_cpy (am_cpy (am_cpy (am_cpy (am_upd (am_upd (am_upd (am_upd (am_upd M a0 0 (M a1 0)) a0 1 ((am_upd M a0 0 (M a1 0)) a1 1)) a0 2 ((am_upd (am_upd M a0 0 (M a1 0)) a0 1 ((am_upd M a0 0 (M a1 0)) a1 1)) a1 2)) a0 3 ((am_upd (am_upd (am_upd M a0 0 (M a1 0)) a0 1 ((am_upd M a0 0 (M a1 0)) a1 1)) a0 2 ((am_upd (am_upd M a0 0 (M a1 0)) a0 1 ((am_upd M a0 0 (M a1 0)) a1 1)) a1 2)) a1 3)) a0 4 ((am_upd (am_upd (am_upd (am_upd M a0 0 (M a1 0)) a0 1 ((am_upd M a0 0 (M a1 0)) a1 1)) a0 2 ((am_upd (am_upd M a0 0 (M a1 0)) a0 1 ((am_upd M a0 0 (M a1 0)) a1 1)) a1 2)) a0 3 ((am_upd (am_upd (am_upd M a0 0 (M a1 0)) a0 1 ((am_upd M a0 0 (M a1 0)) a1 1)) a0 2 ((am_upd (am_upd M a0 0 (M a1 0)) a0 1 ((am_upd M a0 0 (M a1 0)) a1 1)) a1 2)) a1 3)) a1 4)) (am_rf a1 5) 0 (am_rf a0 5) 0 8) (am_rf a1 6) 0 (am_rf a0 6) 0 8) (am_rf a1 7) 0 (am_rf a0 7) 0 8) (am_rf a1 8) 0 (am_rf a0 8) 0 8) (am_rf a1 9) 0 (am_rf a0 9) 0 16) (am_rf a1 10) 0 (am_rf a0 10) 0 16) (am_rf a1 11) 0 (am_rf a0 11) 0 64) (am_rf a1 12) 0 (am_rf a0 12) 0 16) (am_rf a1 13) 0 (am_rf a0 13) 0 16) (am_rf a1 14) 0 (am_rf a0 14) 0 16) (am_rf a1 15)) ∧ (0 : Int) + 16 ≤ (am_len (am_cpy (am_cpy (am_cpy (am_cpy (am_cpy (am_cpy (am_cpy (am_cpy (am_cpy (am_cpy (am_upd (am_upd (am_upd (am_upd (am_upd M a0 0 (M a1 0)) a0 1 ((am_upd M a0 0 (M a1 0)) a1 1)) a0 2 ((am_upd (am_upd M a0 0 (M a1 0)) a0 1 ((am_upd M a0 0 (M a1 0)) a1 1)) a1 2)) a0 3 ((am_upd (am_upd (am_upd M a0 0 (M a1 0)) a0 1 ((am_upd M a0 0 (M a1 0)) a1 1)) a0 2 ((am_upd (am_upd M a0 0 (M a1 0)) a0 1 ((am_upd M a0 0 (M a1 0)) a1 1)) a1 2)) a1 3)) a0 4 ((am_upd (am_upd (am_upd (am_upd M a0 0 (M a1 0)) a0 1 ((am_upd M a0 0 (M a1 0)) a1 1)) a0 2 ((am_upd (am_upd M a0 0 (M a1 0)) a0 1 ((am_upd M a0 0 (M a1 0)) a1 1)) a1 2)) a0 3 ((am_upd (am_upd (am_upd M a0 0 (M a1 0)) a0 1 ((am_upd M a0 0 (M a1 0)) a1 1)) a0 2 ((am_upd (am_upd M a0 0 (M a1 0)) a0 1 ((am_upd M a0 0 (M a1 0)) a1 1)) a1 2)) a1 3)) a1 4)) (am_rf a1 5) 0 (am_rf a0 5) 0 8) (am_rf a1 6) 0 (am_rf a0 6) 0 8) (am_rf a1 7) 0 (am_rf a0 7) 0 8) (am_rf a1 8) 0 (am_rf a0 8) 0 8) (am_rf a1 9) 0 (am_rf a0 9) 0 16) (am_rf a1 10) 0 (am_rf a0 10) 0 16) (am_rf a1 11) 0 (am_rf a0 11) 0 64) (am_rf a1 12) 0 (am_rf a0 12) 0 16) (am_rf a1 13) 0 (am_rf a0 13) 0 16) (am_rf a1 14) 0 (am_rf a0 14) 0 16) (am_rf a0 15))) (cond (Nat.beq (am_cls a1) 5) (cond (Nat.beq (am_cls a0) 5) (cond (Nat.beq (am_cls (am_rf a1 16)) 9 && Nat.beq (am_cls (am_rf a0 16)) 9) (am_chk (0 ≤ (0 : Int) ∧ 0 ≤ (0 : Int) ∧ 0 ≤ (80 : Int) ∧ (0 : Int) + 80 ≤ (am_len (am_cpy (am_cpy (am_cpy (am_cpy (am_cpy (am_cpy (am_cpy (am_cpy (am_cpy (am_cpy (am_cpy (am_upd (am_upd (am_upd (am_upd (am_upd M a0 0 (M a1 0)) a0 1 ((am_upd M a0 0 (M a1 0)) a1 1)) a0 2 ((am_upd (am_upd M a0 0 (M a1 0)) a0 1 ((am_upd M a0 0 (M a1 0)) a1 1)) a1 2)) a0 3 ((am_upd (am_upd (am_upd M a0 0 (M a1 0)) a0 1 ((am_upd M a0 0 (M a1 0)) a1 1)) a0 2 ((am_upd (am_upd M a0 0 (M a1 0)) a0 1 ((am_upd M a0 0 (M a1 0)) a1 1)) a1 2)) a1 3)) a0 4 ((am_upd (am_upd (am_upd (am_upd M a0 0 (M a1 0)) a0 1 ((am_upd M a0 0 (M a1 0)) a1 1)) a0 2 ((am_upd (am_upd M a0 0 (M a1 0)) a0 1 ((am_upd M a0 0 (M a1 0)) a1 1)) a1 2)) a0 3 ((am_upd (am_upd (am_upd M a0 0 (M a1 0)) a0 1 ((am_upd M a0 0 (M a1 0)) a1 1)) a0 2 ((am_upd (am_upd M a0 0 (M a1 0)) a0 1 ((am_upd M a0 0 (M a1 0)) a1 1)) a1 2)) a1 3)) a1 4)) (am_rf a1 5) 0 (am_rf a0 5) 0 8) (am_rf a1 6) 0 (am_rf a0 6) 0 8) (am_rf a1 7) 0 (am_rf a0 7) 0 8) (am_rf a1 8) 0 (am_rf a0 8) 0 8) (am_rf a1 9) 0 (am_rf a0 9) 0 16) (am_rf a1 10) 0 (am_rf a0 10) 0 16) (am_rf a1 11) 0 (am_rf a0 11) 0 64) (am_rf a1 12) 0 (am_rf a0 12) 0 16) (am_rf a1 13) 0 (am_rf a0 13) 0 16) (am_rf a1 14) 0 (am_rf a0 14) 0 16) (am_rf a1 15) 0 (am_rf a0 15) 0 16) (am_rf a1 16)) ∧ (0 : Int) + 80 ≤ (am_len (am_cpy (am_cpy (am_cpy (am_cpy (am_cpy (am_cpy (am_cpy (am_cpy (am_cpy (am_cpy (am_cpy (am_upd (am_upd (am_upd (am_upd (am_upd M a0 0 (M a1 0)) a0 1 ((am_upd M a0 0 (M a1 0)) a1 1)) a0 2 ((am_upd (am_upd M a0 0 (M a1 0)) a0 1 ((am_upd M a0 0 (M a1 0)) a1 1)) a1 2)) a0 3 ((am_upd (am_upd (am_upd M a0 0 (M a1 0)) a0 1 ((am_upd M a0 0 (M a1 0)) a1 1)) a0 2 ((am_upd (am_upd M a0 0 (M a1 0)) a0 1 ((am_upd M a0 0 (M a1 0)) a1 1)) a1 2)) a1 3)) a0 4 ((am_upd (am_upd (am_upd (am_upd M a0 0 (M a1 0)) a0 1 ((am_upd M a0 0 (M a1 0)) a1 1)) a0 2 ((am_upd (am_upd M a0 0 (M a1 0)) a0 1 ((am_upd M a0 0 (M a1 0)) a1 1)) a1 2)) a0 3 ((am_upd (am_upd (am_upd M a0 0 (M a1 0)) a0 1 ((am_upd M a0 0 (M a1 0)) a1 1)) a0 2 ((am_upd (am_upd M a0 0 (M a1 0)) a0 1 ((am_upd M a0 0 (M a1 0)) a1 1)) a1 2)) a1 3)) a1 4)) (am_rf a1 5) 0 (am_rf a0 5) 0 8) (am_rf a1 6) 0 (am_rf a0 6) 0 8) (am_rf a1 7) 0 (am_rf a0 7) 0 8) (am_rf a1 8) 0 (am_rf a0 8) 0 8) (am_rf a1 9) 0 (am_rf a0 9) 0 16) (am_rf a1 10) 0 (am_rf a0 10) 0 16) (am_rf a1 11) 0 (am_rf a0 11) 0 64) (am_rf a1 12) 0 (am_rf a0 12) 0 16) (am_rf a1 13) 0 (am_rf a0 13) 0 16) (am_rf a1 14) 0 (am_rf a0 14) 0 16) (am_rf a1 15) 0 (am_rf a0 15) 0 16) (am_rf a0 16))) (some (0, (am_cpy (am_cpy (am_cpy (am_cpy (am_cpy (am_cpy (am_cpy (am_cpy (am_cpy (am_cpy (am_cpy (am_cpy (am_upd (am_upd (am_upd (am_upd (am_upd M a0 0 (M a1 0)) a0 1 ((am_upd M a0 0 (M a1 0)) a1 1)) a0 2 ((am_upd (am_upd M a0 0 (M a1 0)) a0 1 ((am_upd M a0 0 (M a1 0)) a1 1)) a1 2)) a0 3 ((am_upd (am_upd (am_upd M a0 0 (M a1 0)) a0 1 ((am_upd M a0 0 (M a1 0)) a1 1)) a0 2 ((am_upd (am_upd M a0 0 (M a1 0)) a0 1 ((am_upd M a0 0 (M a1 0)) a1 1)) a1 2)) a1 3)) a0 4 ((am_upd (am_upd (am_upd (am_upd M a0 0 (M a1 0)) a0 1 ((am_upd M a0 0 (M a1 0)) a1 1)) a0 2 ((am_upd (am_upd M a0 0 (M a1 0)) a0 1 ((am_upd M a0 0 (M a1 0)) a1 1)) a1 2)) a0 3 ((am_upd (am_upd (am_upd M a0 0 (M a1 0)) a0 1 ((am_upd M a0 0 (M a1 0)) a1 1)) a0 2 ((am_upd (am_upd M a0 0 (M a1 0)) a0 1 ((am_upd M a0 0 (M a1 0)) a1 1)) a1 2)) a1 3)) a1 4)) (am_rf a1 5) 0 (am_rf a0 5) 0 8) (am_rf a1 6) 0 (am_rf a0 6) 0 8) (am_rf a1 7) 0 (am_rf a0 7) 0 8) (am_rf a1 8) 0 (am_rf a0 8) 0 8) (am_rf a1 9) 0 (am_rf a0 9) 0 16) (am_rf a1 10) 0 (am_rf a0 10) 0 16) (am_rf a1 11) 0 (am_rf a0 11) 0 64) (am_rf a1 12) 0 (am_rf a0 12) 0 16) (am_rf a1 13) 0 (am_rf a0 13) 0 16) (am_rf a1 14) 0 (am_rf a0 14) 0 16) (am_rf a1 15) 0 (am_rf a0 15) 0 16) (am_rf a1 16) 0 (am_rf a0 16) 0 80)))) none) none) none)) none) none) none)) none) none) none)) none) none) none)) none) none) none)) none) none) none)) none) none) none)) none) none) none)) none) none) none)) none) none) none)) none) none) none)) none) none) none) none) none) none) none) none) none) none) none) none) none) none := (am_run_s _ _ _ _).trans ((congrArg (fun z => cond _ z none) ((am_blk am_h133 [] 400 d 0 _ _ M).trans rfl)))
end
section
-- 134: LentHands$World.hasPerson(I)Z; stops []
set_option maxRecDepth 100000 in
theorem e134 (d : Nat) (a0 : Nat) (p1 : Int) (M : am_M) : am_run (d + 1) 134 [.inr a0, .inl p1] M = cond (Nat.beq (am_cls a0) 5) ((if (p1 : Int) < 0 then some (0, M) else cond (Nat.beq (am_cls a0) 5) ((if (p1 : Int) < (M a0 2) then some (1, M) else some (0, M))) none)) none := (am_run_s _ _ _ _).trans ((congrArg (fun z => cond _ z none) ((am_blk am_h134 [] 400 d 0 _ _ M).trans rfl)))
-- 135: LentHands$World.hasHand(I)Z; stops []
set_option maxRecDepth 100000 in
theorem e135 (d : Nat) (a0 : Nat) (p1 : Int) (M : am_M) : am_run (d + 1) 135 [.inr a0, .inl p1] M = cond (Nat.beq (am_cls a0) 5) ((if (p1 : Int) < 0 then some (0, M) else cond (Nat.beq (am_cls a0) 5) ((if (p1 : Int) < (am_wrap (2 * (M a0 2))) then some (1, M) else some (0, M))) none)) none := (am_run_s _ _ _ _).trans ((congrArg (fun z => cond _ z none) ((am_blk am_h135 [] 400 d 0 _ _ M).trans rfl)))
-- 136: LentHands$World.born(II)I; stops []
set_option maxRecDepth 100000 in
theorem e136 (d : Nat) (a0 : Nat) (p1 : Int) (p2 : Int) (M : am_M) : am_run (d + 1) 136 [.inr a0, .inl p1, .inl p2] M = cond (Nat.beq (am_cls a0) 5) (cond (Nat.beq (am_cls a0) 5) (cond (Nat.beq (am_cls a0) 5) (cond (Nat.beq (am_cls a0) 5) (cond (Nat.beq (am_cls a0) 5) (cond (Nat.beq (am_cls (am_rf a0 5)) 9) (am_chk (0 ≤ ((M a0 2) : Int) ∧ (M a0 2) < (am_len (am_upd M a0 2 (am_wrap ((M a0 2) + 1))) (am_rf a0 5))) (cond (Nat.beq (am_cls a0) 5) (cond (Nat.beq (am_cls (am_rf a0 6)) 9) (am_chk (0 ≤ ((M a0 2) : Int) ∧ (M a0 2) < (am_len (am_upd (am_upd M a0 2 (am_wrap ((M a0 2) + 1))) (am_rf a0 5) (M a0 2) p1) (am_rf a0 6))) (cond (Nat.beq (am_cls a0) 5) (cond (Nat.beq (am_cls (am_rf a0 7)) 9) (am_chk (0 ≤ ((M a0 2) : Int) ∧ (M a0 2) < (am_len (am_upd (am_upd (am_upd M a0 2 (am_wrap ((M a0 2) + 1))) (am_rf a0 5) (M a0 2) p1) (am_rf a0 6) (M a0 2) p2) (am_rf a0 7))) (cond (Nat.beq (am_cls a0) 5) (cond (Nat.beq (am_cls (am_rf a0 9)) 9) (am_chk (0 ≤ ((am_wrap (2 * (M a0 2))) : Int) ∧ (am_wrap (2 * (M a0 2))) < (am_len (am_upd (am_upd (am_upd (am_upd M a0 2 (am_wrap ((M a0 2) + 1))) (am_rf a0 5) (M a0 2) p1) (am_rf a0 6) (M a0 2) p2) (am_rf a0 7) (M a0 2) (-1)) (am_rf a0 9))) (cond (Nat.beq (am_cls a0) 5) (cond (Nat.beq (am_cls (am_rf a0 9)) 9) (am_chk (0 ≤ ((am_wrap ((am_wrap (2 * (M a0 2))) + 1)) : Int) ∧ (am_wrap ((am_wrap (2 * (M a0 2))) + 1)) < (am_len (am_upd (am_upd (am_upd (am_upd (am_upd M a0 2 (am_wrap ((M a0 2) + 1))) (am_rf a0 5) (M a0 2) p1) (am_rf a0 6) (M a0 2) p2) (am_rf a0 7) (M a0 2) (-1)) (am_rf a0 9) (am_wrap (2 * (M a0 2))) (am_wrap (2 * (M a0 2)))) (am_rf a0 9))) (cond (Nat.beq (am_cls a0) 5) (cond (Nat.beq (am_cls (am_rf a0 10)) 9) (am_chk (0 ≤ ((am_wrap (2 * (M a0 2))) : Int) ∧ (am_wrap (2 * (M a0 2))) < (am_len (am_upd (am_upd (am_upd (am_upd (am_upd (am_upd M a0 2 (am_wrap ((M a0 2) + 1))) (am_rf a0 5) (M a0 2) p1) (am_rf a0 6) (M a0 2) p2) (am_rf a0 7) (M a0 2) (-1)) (am_rf a0 9) (am_wrap (2 * (M a0 2))) (am_wrap (2 * (M a0 2)))) (am_rf a0 9) (am_wrap ((am_wrap (2 * (M a0 2))) + 1)) (am_wrap ((am_wrap (2 * (M a0 2))) + 1))) (am_rf a0 10))) (cond (Nat.beq (am_cls a0) 5) (cond (Nat.beq (am_cls (am_rf a0 10)) 9) (am_chk (0 ≤ ((am_wrap ((am_wrap (2 * (M a0 2))) + 1)) : Int) ∧ (am_wrap ((am_wrap (2 * (M a0 2))) + 1)) < (am_len (am_upd (am_upd (am_upd (am_upd (am_upd (am_upd (am_upd M a0 2 (am_wrap ((M a0 2) + 1))) (am_rf a0 5) (M a0 2) p1) (am_rf a0 6) (M a0 2) p2) (am_rf a0 7) (M a0 2) (-1)) (am_rf a0 9) (am_wrap (2 * (M a0 2))) (am_wrap (2 * (M a0 2)))) (am_rf a0 9) (am_wrap ((am_wrap (2 * (M a0 2))) + 1)) (am_wrap ((am_wrap (2 * (M a0 2))) + 1))) (am_rf a0 10) (am_wrap (2 * (M a0 2))) (M a0 2)) (am_rf a0 10))) (some ((M a0 2), (am_upd (am_upd (am_upd (am_upd (am_upd (am_upd (am_upd (am_upd M a0 2 (am_wrap ((M a0 2) + 1))) (am_rf a0 5) (M a0 2) p1) (am_rf a0 6) (M a0 2) p2) (am_rf a0 7) (M a0 2) (-1)) (am_rf a0 9) (am_wrap (2 * (M a0 2))) (am_wrap (2 * (M a0 2)))) (am_rf a0 9) (am_wrap ((am_wrap (2 * (M a0 2))) + 1)) (am_wrap ((am_wrap (2 * (M a0 2))) + 1))) (am_rf a0 10) (am_wrap (2 * (M a0 2))) (M a0 2)) (am_rf a0 10) (am_wrap ((am_wrap (2 * (M a0 2))) + 1)) (M a0 2))))) none) none)) none) none)) none) none)) none) none)) none) none)) none) none)) none) none) none) none) none) none := (am_run_s _ _ _ _).trans ((congrArg (fun z => cond _ z none) ((am_blk am_h136 [] 400 d 0 _ _ M).trans rfl)))
-- 137: LentHands$World.tellPerson(ZII)Z; stops []
set_option maxRecDepth 100000 in
theorem e137 (d : Nat) (a0 : Nat) (p1 : Int) (p2 : Int) (p3 : Int) (M : am_M) : am_run (d + 1) 137 [.inr a0, .inl p1, .inl p2, .inl p3] M = cond (Nat.beq (am_cls a0) 5) ((if (p3 : Int) < 0 then some (0, M) else (if (p1 : Int) = 0 then (if (1 : Int) < p3 then some (0, M) else (if (p1 : Int) = 0 then cond (Nat.beq (am_cls a0) 5) (cond (Nat.beq (am_cls (am_rf a0 6)) 9) (am_chk (0 ≤ (p2 : Int) ∧ p2 < (am_len M (am_rf a0 6))) (some (1, (am_upd M (am_rf a0 6) p2 p3)))) none) none else cond (Nat.beq (am_cls a0) 5) (cond (Nat.beq (am_cls (am_rf a0 5)) 9) (am_chk (0 ≤ (p2 : Int) ∧ p2 < (am_len M (am_rf a0 5))) (some (1, (am_upd M (am_rf a0 5) p2 p3)))) none) none)) else (if (9999 : Int) < p3 then some (0, M) else (if (p1 : Int) = 0 then cond (Nat.beq (am_cls a0) 5) (cond (Nat.beq (am_cls (am_rf a0 6)) 9) (am_chk (0 ≤ (p2 : Int) ∧ p2 < (am_len M (am_rf a0 6))) (some (1, (am_upd M (am_rf a0 6) p2 p3)))) none) none else cond (Nat.beq (am_cls a0) 5) (cond (Nat.beq (am_cls (am_rf a0 5)) 9) (am_chk (0 ≤ (p2 : Int) ∧ p2 < (am_len M (am_rf a0 5))) (some (1, (am_upd M (am_rf a0 5) p2 p3)))) none) none))))) none := (am_run_s _ _ _ _).trans ((congrArg (fun z => cond _ z none) ((am_blk am_h137 [] 400 d 0 _ _ M).trans rfl)))
-- 138: LentHands$World.tellHand(III)Z; stops [14]
set_option maxRecDepth 100000 in
theorem e138 (d : Nat) (a0 : Nat) (p1 : Int) (p2 : Int) (p3 : Int) (M : am_M) : am_run (d + 1) 138 [.inr a0, .inl p1, .inl p2, .inl p3] M = cond (Nat.beq (am_cls a0) 5) ((if (p1 : Int) < 0 then some (0, M) else (if (5 : Int) < p1 then some (0, M) else (if (p3 : Int) < 0 then some (0, M) else (if (4 : Int) < p1 then am_L d 138 14 [some (.inr a0), some (.inl p1), some (.inl p2), some (.inl p3)] [.inl 9, .inl p3] M else am_L d 138 14 [some (.inr a0), some (.inl p1), some (.inl p2), some (.inl p3)] [.inl 99, .inl p3] M))))) none := (am_run_s _ _ _ _).trans ((congrArg (fun z => cond _ z none) ((am_blk am_h138 [14] 400 d 0 _ _ M).trans rfl)))
set_option maxRecDepth 100000 in
theorem e138_14 (d : Nat) (a0 : Nat) (x1 : Int) (x2 : Int) (x3 : Int) (xs0 : Int) (xs1 : Int) (M : am_M) : am_L d 138 14 [some (.inr a0), some (.inl x1), some (.inl x2), some (.inl x3)] [.inl xs1, .inl xs0] M = (if (xs1 : Int) < xs0 then some (0, M) else (if (x1 : Int) < 4 then cond (Nat.beq (am_cls a0) 5) (cond (Nat.beq (am_cls (am_rf a0 11)) 9) (am_chk (0 ≤ ((am_wrap ((am_wrap (x2 * 4)) + x1)) : Int) ∧ (am_wrap ((am_wrap (x2 * 4)) + x1)) < (am_len M (am_rf a0 11))) (some (1, (am_upd M (am_rf a0 11) (am_wrap ((am_wrap (x2 * 4)) + x1)) x3)))) none) none else (if (x1 : Int) = 4 then cond (Nat.beq (am_cls a0) 5) (cond (Nat.beq (am_cls (am_rf a0 12)) 9) (am_chk (0 ≤ (x2 : Int) ∧ x2 < (am_len M (am_rf a0 12))) (some (1, (am_upd M (am_rf a0 12) x2 x3)))) none) none else cond (Nat.beq (am_cls a0) 5) (cond (Nat.beq (am_cls (am_rf a0 13)) 9) (am_chk (0 ≤ (x2 : Int) ∧ x2 < (am_len M (am_rf a0 13))) (some (1, (am_upd M (am_rf a0 13) x2 x3)))) none) none))) := (am_blk am_h138 [14] 400 d 14 _ _ M).trans rfl
-- 139: LentHands$World.isHome(I)Z; stops []
set_option maxRecDepth 100000 in
theorem e139 (d : Nat) (a0 : Nat) (p1 : Int) (M : am_M) : am_run (d + 1) 139 [.inr a0, .inl p1] M = cond (Nat.beq (am_cls a0) 5) (cond (Nat.beq (am_cls a0) 5) (cond (Nat.beq (am_cls (am_rf a0 10)) 9 || Nat.beq (am_cls (am_rf a0 10)) 12) (am_chk (0 ≤ (p1 : Int) ∧ p1 < (am_len M (am_rf a0 10))) ((if ((M (am_rf a0 10) p1) : Int) = (am_ishr p1 1) then some (1, M) else some (0, M)))) none) none) none := (am_run_s _ _ _ _).trans ((congrArg (fun z => cond _ z none) ((am_blk am_h139 [] 400 d 0 _ _ M).trans rfl)))
-- 140: LentHands$World.astray()I; stops [4]
set_option maxRecDepth 100000 in
theorem e140 (d : Nat) (a0 : Nat) (M : am_M) : am_run (d + 1) 140 [.inr a0] M = cond (Nat.beq (am_cls a0) 5) (am_L d 140 4 [some (.inr a0), some (.inl 0), some (.inl 0)] [] M) none := (am_run_s _ _ _ _).trans ((congrArg (fun z => cond _ z none) ((am_blk am_h140 [4] 400 d 0 _ _ M).trans rfl)))
set_option maxRecDepth 100000 in
theorem e140_4 (d : Nat) (a0 : Nat) (x1 : Int) (x2 : Int) (M : am_M) : am_L d 140 4 [some (.inr a0), some (.inl x1), some (.inl x2)] [] M = cond (Nat.beq (am_cls a0) 5) ((if (x2 : Int) < (am_wrap (2 * (M a0 2))) then am_bnd (am_run d 139 [.inr a0, .inl x2] M) (fun r1 M1 => (if (r1 : Int) = 0 then am_L d 140 4 [some (.inr a0), some (.inl (am_ior x1 (am_ishl 1 x2))), some (.inl (am_wrap (x2 + 1)))] [] M1 else am_L d 140 4 [some (.inr a0), some (.inl x1), some (.inl (am_wrap (x2 + 1)))] [] M1)) else some (x1, M))) none := (am_blk am_h140 [4] 400 d 4 _ _ M).trans rfl
-- 141: LentHands$World.bestSkill(I)I; stops [4]
set_option maxRecDepth 100000 in
theorem e141 (d : Nat) (a0 : Nat) (p1 : Int) (M : am_M) : am_run (d + 1) 141 [.inr a0, .inl p1] M = cond (Nat.beq (am_cls a0) 5) (am_L d 141 4 [some (.inr a0), some (.inl p1), some (.inl 0), some (.inl 0), none] [] M) none := (am_run_s _ _ _ _).trans ((congrArg (fun z => cond _ z none) ((am_blk am_h141 [4] 400 d 0 _ _ M).trans rfl)))
set_option maxRecDepth 100000 in
theorem e141_4 (d : Nat) (a0 : Nat) (x1 : Int) (x2 : Int) (x3 : Int) (o4 : Option am_V) (M : am_M) : am_L d 141 4 [some (.inr a0), some (.inl x1), some (.inl x2), some (.inl x3), o4] [] M = (if (x3 : Int) < 4 then cond (Nat.beq (am_cls a0) 5) (cond (Nat.beq (am_cls (am_rf a0 11)) 9 || Nat.beq (am_cls (am_rf a0 11)) 12) (am_chk (0 ≤ ((am_wrap ((am_wrap (x1 * 4)) + x3)) : Int) ∧ (am_wrap ((am_wrap (x1 * 4)) + x3)) < (am_len M (am_rf a0 11))) ((if (x2 : Int) < (M (am_rf a0 11) (am_wrap ((am_wrap (x1 * 4)) + x3))) then am_L d 141 4 [some (.inr a0), some (.inl x1), some (.inl (M (am_rf a0 11) (am_wrap ((am_wrap (x1 * 4)) + x3)))), some (.inl (am_wrap (x3 + 1))), some (.inl (M (am_rf a0 11) (am_wrap ((am_wrap (x1 * 4)) + x3))))] [] M else am_L d 141 4 [some (.inr a0), some (.inl x1), some (.inl x2), some (.inl (am_wrap (x3 + 1))), some (.inl (M (am_rf a0 11) (am_wrap ((am_wrap (x1 * 4)) + x3))))] [] M))) none) none else some (x2, M)) := (am_blk am_h141 [4] 400 d 4 _ _ M).trans rfl
-- 142: LentHands$World.loanCell(II)I; stops []
set_option maxRecDepth 100000 in
theorem e142 (d : Nat) (a0 : Nat) (p1 : Int) (p2 : Int) (M : am_M) : am_run (d + 1) 142 [.inr a0, .inl p1, .inl p2] M = cond (Nat.beq (am_cls a0) 5) (cond (Nat.beq (am_cls a0) 5) (cond (Nat.beq (am_cls (am_rf a0 16)) 9 || Nat.beq (am_cls (am_rf a0 16)) 12) (am_chk (0 ≤ ((am_wrap ((am_wrap (p1 * 5)) + p2)) : Int) ∧ (am_wrap ((am_wrap (p1 * 5)) + p2)) < (am_len M (am_rf a0 16))) (some ((M (am_rf a0 16) (am_wrap ((am_wrap (p1 * 5)) + p2))), M))) none) none) none := (am_run_s _ _ _ _).trans ((congrArg (fun z => cond _ z none) ((am_blk am_h142 [] 400 d 0 _ _ M).trans rfl)))
-- 143: LentHands$World.latestLoan(I)I; stops [5]
set_option maxRecDepth 100000 in
theorem e143 (d : Nat) (a0 : Nat) (p1 : Int) (M : am_M) : am_run (d + 1) 143 [.inr a0, .inl p1] M = cond (Nat.beq (am_cls a0) 5) (cond (Nat.beq (am_cls a0) 5) (am_L d 143 5 [some (.inr a0), some (.inl p1), some (.inl (am_wrap ((M a0 3) - 1)))] [] M) none) none := (am_run_s _ _ _ _).trans ((congrArg (fun z => cond _ z none) ((am_blk am_h143 [5] 400 d 0 _ _ M).trans rfl)))
set_option maxRecDepth 100000 in
theorem e143_5 (d : Nat) (a0 : Nat) (x1 : Int) (x2 : Int) (M : am_M) : am_L d 143 5 [some (.inr a0), some (.inl x1), some (.inl x2)] [] M = (if (x2 : Int) < 0 then some ((-1), M) else am_bnd (am_run d 142 [.inr a0, .inl x2, .inl 0] M) (fun r1 M1 => (if (r1 : Int) = x1 then some (x2, M1) else am_L d 143 5 [some (.inr a0), some (.inl x1), some (.inl (am_wrap (x2 + (-1))))] [] M1))) := (am_blk am_h143 [5] 400 d 5 _ _ M).trans rfl
-- 144: LentHands$World.loansOf(I)I; stops [4]
set_option maxRecDepth 100000 in
theorem e144 (d : Nat) (a0 : Nat) (p1 : Int) (M : am_M) : am_run (d + 1) 144 [.inr a0, .inl p1] M = cond (Nat.beq (am_cls a0) 5) (am_L d 144 4 [some (.inr a0), some (.inl p1), some (.inl 0), some (.inl 0)] [] M) none := (am_run_s _ _ _ _).trans ((congrArg (fun z => cond _ z none) ((am_blk am_h144 [4] 400 d 0 _ _ M).trans rfl)))
set_option maxRecDepth 100000 in
theorem e144_4 (d : Nat) (a0 : Nat) (x1 : Int) (x2 : Int) (x3 : Int) (M : am_M) : am_L d 144 4 [some (.inr a0), some (.inl x1), some (.inl x2), some (.inl x3)] [] M = cond (Nat.beq (am_cls a0) 5) ((if (x3 : Int) < (M a0 3) then am_bnd (am_run d 142 [.inr a0, .inl x3, .inl 0] M) (fun r1 M1 => (if (r1 : Int) = x1 then am_L d 144 4 [some (.inr a0), some (.inl x1), some (.inl (am_wrap (x2 + 1))), some (.inl (am_wrap (x3 + 1)))] [] M1 else am_L d 144 4 [some (.inr a0), some (.inl x1), some (.inl x2), some (.inl (am_wrap (x3 + 1)))] [] M1)) else some (x2, M))) none := (am_blk am_h144 [4] 400 d 4 _ _ M).trans rfl
-- 145: LentHands$World.toOffice(I)V; stops []
set_option maxRecDepth 100000 in
theorem e145 (d : Nat) (a0 : Nat) (p1 : Int) (M : am_M) : am_run (d + 1) 145 [.inr a0, .inl p1] M = cond (Nat.beq (am_cls a0) 5) (cond (Nat.beq (am_cls a0) 5) (cond (Nat.beq (am_cls (am_rf a0 10)) 9 || Nat.beq (am_cls (am_rf a0 10)) 12) (am_chk (0 ≤ (p1 : Int) ∧ p1 < (am_len M (am_rf a0 10))) ((if ((M (am_rf a0 10) p1) : Int) = (-1) then cond (Nat.beq (am_cls a0) 5) (cond (Nat.beq (am_cls (am_rf a0 10)) 9) (am_chk (0 ≤ (p1 : Int) ∧ p1 < (am_len M (am_rf a0 10))) (cond (Nat.beq (am_cls a0) 5) (cond (Nat.beq (am_cls (am_rf a0 15)) 9) (am_chk (0 ≤ (p1 : Int) ∧ p1 < (am_len (am_upd M (am_rf a0 10) p1 (-1)) (am_rf a0 15))) (some (0, (am_upd (am_upd M (am_rf a0 10) p1 (-1)) (am_rf a0 15) p1 0)))) none) none)) none) none else cond (Nat.beq (am_cls a0) 5) (cond (Nat.beq (am_cls a0) 5) (cond (Nat.beq (am_cls (am_rf a0 10)) 9 || Nat.beq (am_cls (am_rf a0 10)) 12) (am_chk (0 ≤ (p1 : Int) ∧ p1 < (am_len M (am_rf a0 10))) (cond (Nat.beq (am_cls (am_rf a0 9)) 9) (am_chk (0 ≤ ((am_wrap ((am_wrap (2 * (M (am_rf a0 10) p1))) + (am_iand p1 1))) : Int) ∧ (am_wrap ((am_wrap (2 * (M (am_rf a0 10) p1))) + (am_iand p1 1))) < (am_len M (am_rf a0 9))) (cond (Nat.beq (am_cls a0) 5) (cond (Nat.beq (am_cls (am_rf a0 10)) 9) (am_chk (0 ≤ (p1 : Int) ∧ p1 < (am_len (am_upd M (am_rf a0 9) (am_wrap ((am_wrap (2 * (M (am_rf a0 10) p1))) + (am_iand p1 1))) (-1)) (am_rf a0 10))) (cond (Nat.beq (am_cls a0) 5) (cond (Nat.beq (am_cls (am_rf a0 15)) 9) (am_chk (0 ≤ (p1 : Int) ∧ p1 < (am_len (am_upd (am_upd M (am_rf a0 9) (am_wrap ((am_wrap (2 * (M (am_rf a0 10) p1))) + (am_iand p1 1))) (-1)) (am_rf a0 10) p1 (-1)) (am_rf a0 15))) (some (0, (am_upd (am_upd (am_upd M (am_rf a0 9) (am_wrap ((am_wrap (2 * (M (am_rf a0 10) p1))) + (am_iand p1 1))) (-1)) (am_rf a0 10) p1 (-1)) (am_rf a0 15) p1 0)))) none) none)) none) none)) none)) none) none) none))) none) none) none := (am_run_s _ _ _ _).trans ((congrArg (fun z => cond _ z none) ((am_blk am_h145 [] 400 d 0 _ _ M).trans rfl)))
-- 146: LentHands$World.toWrist(II)V; stops []
set_option maxRecDepth 100000 in
theorem e146 (d : Nat) (a0 : Nat) (p1 : Int) (p2 : Int) (M : am_M) : am_run (d + 1) 146 [.inr a0, .inl p1, .inl p2] M = cond (Nat.beq (am_cls a0) 5) (cond (Nat.beq (am_cls a0) 5) (cond (Nat.beq (am_cls (am_rf a0 9)) 9) (am_chk (0 ≤ ((am_wrap ((am_wrap (2 * p2)) + (am_iand p1 1))) : Int) ∧ (am_wrap ((am_wrap (2 * p2)) + (am_iand p1 1))) < (am_len M (am_rf a0 9))) (cond (Nat.beq (am_cls a0) 5) (cond (Nat.beq (am_cls (am_rf a0 10)) 9) (am_chk (0 ≤ (p1 : Int) ∧ p1 < (am_len (am_upd M (am_rf a0 9) (am_wrap ((am_wrap (2 * p2)) + (am_iand p1 1))) p1) (am_rf a0 10))) (cond (Nat.beq (am_cls a0) 5) (cond (Nat.beq (am_cls (am_rf a0 15)) 9) (am_chk (0 ≤ (p1 : Int) ∧ p1 < (am_len (am_upd (am_upd M (am_rf a0 9) (am_wrap ((am_wrap (2 * p2)) + (am_iand p1 1))) p1) (am_rf a0 10) p1 p2) (am_rf a0 15))) (some (0, (am_upd (am_upd (am_upd M (am_rf a0 9) (am_wrap ((am_wrap (2 * p2)) + (am_iand p1 1))) p1) (am_rf a0 10) p1 p2) (am_rf a0 15) p1 0)))) none) none)) none) none)) none) none) none := (am_run_s _ _ _ _).trans ((congrArg (fun z => cond _ z none) ((am_blk am_h146 [] 400 d 0 _ _ M).trans rfl)))
-- 147: LentHands$World.makeLoan(IIII)I; stops [46]
set_option maxRecDepth 100000 in
theorem e147 (d : Nat) (a0 : Nat) (p1 : Int) (p2 : Int) (p3 : Int) (p4 : Int) (M : am_M) : am_run (d + 1) 147 [.inr a0, .inl p1, .inl p2, .inl p3, .inl p4] M = cond (Nat.beq (am_cls a0) 5) (cond (Nat.beq (am_cls a0) 5) (cond (Nat.beq (am_cls (am_rf a0 10)) 9 || Nat.beq (am_cls (am_rf a0 10)) 12) (am_chk (0 ≤ (p1 : Int) ∧ p1 < (am_len M (am_rf a0 10))) (cond (Nat.beq (am_cls a0) 5) (cond (Nat.beq (am_cls (am_rf a0 9)) 9 || Nat.beq (am_cls (am_rf a0 9)) 12) (am_chk (0 ≤ ((am_wrap ((am_wrap (2 * p2)) + (am_iand p1 1))) : Int) ∧ (am_wrap ((am_wrap (2 * p2)) + (am_iand p1 1))) < (am_len M (am_rf a0 9))) (cond (Nat.beq (am_cls a0) 5) (cond (Nat.beq (am_cls (am_rf a0 5)) 9 || Nat.beq (am_cls (am_rf a0 5)) 12) (am_chk (0 ≤ (p2 : Int) ∧ p2 < (am_len M (am_rf a0 5))) (cond (Nat.beq (am_cls (am_rf a0 5)) 9) (am_chk (0 ≤ (p2 : Int) ∧ p2 < (am_len M (am_rf a0 5))) (cond (Nat.beq (am_cls a0) 5) (cond (Nat.beq (am_cls a0) 5) (cond (Nat.beq (am_cls (am_rf a0 5)) 9 || Nat.beq (am_cls (am_rf a0 5)) 12) (am_chk (0 ≤ ((M (am_rf a0 10) p1) : Int) ∧ (M (am_rf a0 10) p1) < (am_len (am_upd M (am_rf a0 5) p2 (am_wrap ((M (am_rf a0 5) p2) - (am_wrap (p3 * p4))))) (am_rf a0 5))) (cond (Nat.beq (am_cls (am_rf a0 5)) 9) (am_chk (0 ≤ ((M (am_rf a0 10) p1) : Int) ∧ (M (am_rf a0 10) p1) < (am_len (am_upd M (am_rf a0 5) p2 (am_wrap ((M (am_rf a0 5) p2) - (am_wrap (p3 * p4))))) (am_rf a0 5))) ((if ((M (am_rf a0 9) (am_wrap ((am_wrap (2 * p2)) + (am_iand p1 1)))) : Int) = (-1) then am_L d 147 46 [some (.inr a0), some (.inl p1), some (.inl p2), some (.inl p3), some (.inl p4), some (.inl (M (am_rf a0 10) p1)), some (.inl (M (am_rf a0 9) (am_wrap ((am_wrap (2 * p2)) + (am_iand p1 1))))), none] [] (am_upd (am_upd M (am_rf a0 5) p2 (am_wrap ((M (am_rf a0 5) p2) - (am_wrap (p3 * p4))))) (am_rf a0 5) (M (am_rf a0 10) p1) (min (am_wrap (((am_upd M (am_rf a0 5) p2 (am_wrap ((M (am_rf a0 5) p2) - (am_wrap (p3 * p4))))) (am_rf a0 5) (M (am_rf a0 10) p1)) + (am_wrap (p3 * p4)))) 9999)) else am_bnd (am_run d 145 [.inr a0, .inl (M (am_rf a0 9) (am_wrap ((am_wrap (2 * p2)) + (am_iand p1 1))))] (am_upd (am_upd M (am_rf a0 5) p2 (am_wrap ((M (am_rf a0 5) p2) - (am_wrap (p3 * p4))))) (am_rf a0 5) (M (am_rf a0 10) p1) (min (am_wrap (((am_upd M (am_rf a0 5) p2 (am_wrap ((M (am_rf a0 5) p2) - (am_wrap (p3 * p4))))) (am_rf a0 5) (M (am_rf a0 10) p1)) + (am_wrap (p3 * p4)))) 9999))) (fun _ M1 => am_L d 147 46 [some (.inr a0), some (.inl p1), some (.inl p2), some (.inl p3), some (.inl p4), some (.inl (M (am_rf a0 10) p1)), some (.inl (M (am_rf a0 9) (am_wrap ((am_wrap (2 * p2)) + (am_iand p1 1))))), none] [] M1)))) none)) none) none) none)) none)) none) none)) none) none)) none) none) none := (am_run_s _ _ _ _).trans ((congrArg (fun z => cond _ z none) ((am_blk am_h147 [46] 400 d 0 _ _ M).trans rfl)))
set_option maxRecDepth 100000 in
theorem e147_46 (d : Nat) (a0 : Nat) (x1 : Int) (x2 : Int) (x3 : Int) (x4 : Int) (x5 : Int) (x6 : Int) (M : am_M) : am_L d 147 46 [some (.inr a0), some (.inl x1), some (.inl x2), some (.inl x3), some (.inl x4), some (.inl x5), some (.inl x6), none] [] M = am_bnd (am_run d 145 [.inr a0, .inl x1] M) (fun _ M1 => am_bnd (am_run d 146 [.inr a0, .inl x1, .inl x2] M1) (fun _ M2 => cond (Nat.beq (am_cls a0) 5) (cond (Nat.beq (am_cls a0) 5) (cond (Nat.beq (am_cls (am_rf a0 16)) 9) (am_chk (0 ≤ ((am_wrap ((am_wrap ((M2 a0 3) * 5)) + 0)) : Int) ∧ (am_wrap ((am_wrap ((M2 a0 3) * 5)) + 0)) < (am_len M2 (am_rf a0 16))) (cond (Nat.beq (am_cls a0) 5) (cond (Nat.beq (am_cls (am_rf a0 16)) 9) (am_chk (0 ≤ ((am_wrap ((am_wrap ((M2 a0 3) * 5)) + 1)) : Int) ∧ (am_wrap ((am_wrap ((M2 a0 3) * 5)) + 1)) < (am_len (am_upd M2 (am_rf a0 16) (am_wrap ((am_wrap ((M2 a0 3) * 5)) + 0)) x1) (am_rf a0 16))) (cond (Nat.beq (am_cls a0) 5) (cond (Nat.beq (am_cls (am_rf a0 16)) 9) (am_chk (0 ≤ ((am_wrap ((am_wrap ((M2 a0 3) * 5)) + 2)) : Int) ∧ (am_wrap ((am_wrap ((M2 a0 3) * 5)) + 2)) < (am_len (am_upd (am_upd M2 (am_rf a0 16) (am_wrap ((am_wrap ((M2 a0 3) * 5)) + 0)) x1) (am_rf a0 16) (am_wrap ((am_wrap ((M2 a0 3) * 5)) + 1)) x5) (am_rf a0 16))) (cond (Nat.beq (am_cls a0) 5) (cond (Nat.beq (am_cls a0) 5) (cond (Nat.beq (am_cls (am_rf a0 16)) 9) (am_chk (0 ≤ ((am_wrap ((am_wrap ((M2 a0 3) * 5)) + 3)) : Int) ∧ (am_wrap ((am_wrap ((M2 a0 3) * 5)) + 3)) < (am_len (am_upd (am_upd (am_upd M2 (am_rf a0 16) (am_wrap ((am_wrap ((M2 a0 3) * 5)) + 0)) x1) (am_rf a0 16) (am_wrap ((am_wrap ((M2 a0 3) * 5)) + 1)) x5) (am_rf a0 16) (am_wrap ((am_wrap ((M2 a0 3) * 5)) + 2)) x2) (am_rf a0 16))) (cond (Nat.beq (am_cls a0) 5) (cond (Nat.beq (am_cls (am_rf a0 16)) 9) (am_chk (0 ≤ ((am_wrap ((am_wrap ((M2 a0 3) * 5)) + 4)) : Int) ∧ (am_wrap ((am_wrap ((M2 a0 3) * 5)) + 4)) < (am_len (am_upd (am_upd (am_upd (am_upd M2 (am_rf a0 16) (am_wrap ((am_wrap ((M2 a0 3) * 5)) + 0)) x1) (am_rf a0 16) (am_wrap ((am_wrap ((M2 a0 3) * 5)) + 1)) x5) (am_rf a0 16) (am_wrap ((am_wrap ((M2 a0 3) * 5)) + 2)) x2) (am_rf a0 16) (am_wrap ((am_wrap ((M2 a0 3) * 5)) + 3)) (am_wrap (((am_upd (am_upd (am_upd M2 (am_rf a0 16) (am_wrap ((am_wrap ((M2 a0 3) * 5)) + 0)) x1) (am_rf a0 16) (am_wrap ((am_wrap ((M2 a0 3) * 5)) + 1)) x5) (am_rf a0 16) (am_wrap ((am_wrap ((M2 a0 3) * 5)) + 2)) x2) a0 1) + x3))) (am_rf a0 16))) (cond (Nat.beq (am_cls a0) 5) (cond (Nat.beq (am_cls a0) 5) (cond (Nat.beq (am_cls a0) 5) (some ((am_wrap (((am_upd (am_upd (am_upd (am_upd (am_upd (am_upd M2 (am_rf a0 16) (am_wrap ((am_wrap ((M2 a0 3) * 5)) + 0)) x1) (am_rf a0 16) (am_wrap ((am_wrap ((M2 a0 3) * 5)) + 1)) x5) (am_rf a0 16) (am_wrap ((am_wrap ((M2 a0 3) * 5)) + 2)) x2) (am_rf a0 16) (am_wrap ((am_wrap ((M2 a0 3) * 5)) + 3)) (am_wrap (((am_upd (am_upd (am_upd M2 (am_rf a0 16) (am_wrap ((am_wrap ((M2 a0 3) * 5)) + 0)) x1) (am_rf a0 16) (am_wrap ((am_wrap ((M2 a0 3) * 5)) + 1)) x5) (am_rf a0 16) (am_wrap ((am_wrap ((M2 a0 3) * 5)) + 2)) x2) a0 1) + x3))) (am_rf a0 16) (am_wrap ((am_wrap ((M2 a0 3) * 5)) + 4)) x4) a0 3 (am_wrap (((am_upd (am_upd (am_upd (am_upd (am_upd M2 (am_rf a0 16) (am_wrap ((am_wrap ((M2 a0 3) * 5)) + 0)) x1) (am_rf a0 16) (am_wrap ((am_wrap ((M2 a0 3) * 5)) + 1)) x5) (am_rf a0 16) (am_wrap ((am_wrap ((M2 a0 3) * 5)) + 2)) x2) (am_rf a0 16) (am_wrap ((am_wrap ((M2 a0 3) * 5)) + 3)) (am_wrap (((am_upd (am_upd (am_upd M2 (am_rf a0 16) (am_wrap ((am_wrap ((M2 a0 3) * 5)) + 0)) x1) (am_rf a0 16) (am_wrap ((am_wrap ((M2 a0 3) * 5)) + 1)) x5) (am_rf a0 16) (am_wrap ((am_wrap ((M2 a0 3) * 5)) + 2)) x2) a0 1) + x3))) (am_rf a0 16) (am_wrap ((am_wrap ((M2 a0 3) * 5)) + 4)) x4) a0 3) + 1))) a0 1) + x3)), (am_upd (am_upd (am_upd (am_upd (am_upd (am_upd M2 (am_rf a0 16) (am_wrap ((am_wrap ((M2 a0 3) * 5)) + 0)) x1) (am_rf a0 16) (am_wrap ((am_wrap ((M2 a0 3) * 5)) + 1)) x5) (am_rf a0 16) (am_wrap ((am_wrap ((M2 a0 3) * 5)) + 2)) x2) (am_rf a0 16) (am_wrap ((am_wrap ((M2 a0 3) * 5)) + 3)) (am_wrap (((am_upd (am_upd (am_upd M2 (am_rf a0 16) (am_wrap ((am_wrap ((M2 a0 3) * 5)) + 0)) x1) (am_rf a0 16) (am_wrap ((am_wrap ((M2 a0 3) * 5)) + 1)) x5) (am_rf a0 16) (am_wrap ((am_wrap ((M2 a0 3) * 5)) + 2)) x2) a0 1) + x3))) (am_rf a0 16) (am_wrap ((am_wrap ((M2 a0 3) * 5)) + 4)) x4) a0 3 (am_wrap (((am_upd (am_upd (am_upd (am_upd (am_upd M2 (am_rf a0 16) (am_wrap ((am_wrap ((M2 a0 3) * 5)) + 0)) x1) (am_rf a0 16) (am_wrap ((am_wrap ((M2 a0 3) * 5)) + 1)) x5) (am_rf a0 16) (am_wrap ((am_wrap ((M2 a0 3) * 5)) + 2)) x2) (am_rf a0 16) (am_wrap ((am_wrap ((M2 a0 3) * 5)) + 3)) (am_wrap (((am_upd (am_upd (am_upd M2 (am_rf a0 16) (am_wrap ((am_wrap ((M2 a0 3) * 5)) + 0)) x1) (am_rf a0 16) (am_wrap ((am_wrap ((M2 a0 3) * 5)) + 1)) x5) (am_rf a0 16) (am_wrap ((am_wrap ((M2 a0 3) * 5)) + 2)) x2) a0 1) + x3))) (am_rf a0 16) (am_wrap ((am_wrap ((M2 a0 3) * 5)) + 4)) x4) a0 3) + 1))))) none) none) none)) none) none)) none) none) none)) none) none)) none) none)) none) none) none)) := (am_blk am_h147 [46] 400 d 46 _ _ M).trans rfl
-- 148: LentHands$World.drawOfThousand()I; stops []
set_option maxRecDepth 100000 in
theorem e148 (d : Nat) (a0 : Nat) (M : am_M) : am_run (d + 1) 148 [.inr a0] M = cond (Nat.beq (am_cls a0) 5) (cond (Nat.beq (am_cls a0) 5) (cond (Nat.beq (am_cls a0) 5) (cond (Nat.beq (am_cls a0) 5) (am_chk (¬ (1000 : Int) = 0) (some ((am_irem (am_iushr ((am_upd M a0 0 (am_wrap ((am_wrap ((M a0 0) * 1664525)) + 1013904223))) a0 0) 8) 1000), (am_upd M a0 0 (am_wrap ((am_wrap ((M a0 0) * 1664525)) + 1013904223)))))) none) none) none) none := (am_run_s _ _ _ _).trans ((congrArg (fun z => cond _ z none) ((am_blk am_h148 [] 400 d 0 _ _ M).trans rfl)))
-- 149: LentHands$World.growOld()V; stops [2]
set_option maxRecDepth 100000 in
theorem e149 (d : Nat) (a0 : Nat) (M : am_M) : am_run (d + 1) 149 [.inr a0] M = cond (Nat.beq (am_cls a0) 5) (am_L d 149 2 [some (.inr a0), some (.inl 0)] [] M) none := (am_run_s _ _ _ _).trans ((congrArg (fun z => cond _ z none) ((am_blk am_h149 [2] 400 d 0 _ _ M).trans rfl)))
set_option maxRecDepth 100000 in
theorem e149_2 (d : Nat) (a0 : Nat) (x1 : Int) (M : am_M) : am_L d 149 2 [some (.inr a0), some (.inl x1)] [] M = cond (Nat.beq (am_cls a0) 5) ((if (x1 : Int) < (am_wrap (2 * (M a0 2))) then cond (Nat.beq (am_cls a0) 5) (cond (Nat.beq (am_cls (am_rf a0 10)) 9 || Nat.beq (am_cls (am_rf a0 10)) 12) (am_chk (0 ≤ (x1 : Int) ∧ x1 < (am_len M (am_rf a0 10))) ((if ((M (am_rf a0 10) x1) : Int) = (-1) then am_L d 149 2 [some (.inr a0), some (.inl (am_wrap (x1 + 1)))] [] M else cond (Nat.beq (am_cls a0) 5) (cond (Nat.beq (am_cls (am_rf a0 15)) 9 || Nat.beq (am_cls (am_rf a0 15)) 12) (am_chk (0 ≤ (x1 : Int) ∧ x1 < (am_len M (am_rf a0 15))) (cond (Nat.beq (am_cls (am_rf a0 15)) 9) (am_chk (0 ≤ (x1 : Int) ∧ x1 < (am_len M (am_rf a0 15))) (cond (Nat.beq (am_cls a0) 5) (cond (Nat.beq (am_cls (am_rf a0 14)) 9 || Nat.beq (am_cls (am_rf a0 14)) 12) (am_chk (0 ≤ (x1 : Int) ∧ x1 < (am_len (am_upd M (am_rf a0 15) x1 (am_wrap ((M (am_rf a0 15) x1) + 1))) (am_rf a0 14))) (cond (Nat.beq (am_cls a0) 5) (cond (Nat.beq (am_cls (am_rf a0 10)) 9 || Nat.beq (am_cls (am_rf a0 10)) 12) (am_chk (0 ≤ (x1 : Int) ∧ x1 < (am_len (am_upd M (am_rf a0 15) x1 (am_wrap ((M (am_rf a0 15) x1) + 1))) (am_rf a0 10))) (cond (Nat.beq (am_cls (am_rf a0 14)) 9) (am_chk (0 ≤ (x1 : Int) ∧ x1 < (am_len (am_upd M (am_rf a0 15) x1 (am_wrap ((M (am_rf a0 15) x1) + 1))) (am_rf a0 14))) (am_L d 149 2 [some (.inr a0), some (.inl (am_wrap (x1 + 1)))] [] (am_upd (am_upd M (am_rf a0 15) x1 (am_wrap ((M (am_rf a0 15) x1) + 1))) (am_rf a0 14) x1 (am_ior ((am_upd M (am_rf a0 15) x1 (am_wrap ((M (am_rf a0 15) x1) + 1))) (am_rf a0 14) x1) (am_ishl 1 ((am_upd M (am_rf a0 15) x1 (am_wrap ((M (am_rf a0 15) x1) + 1))) (am_rf a0 10) x1)))))) none)) none) none)) none) none)) none)) none) none))) none) none else cond (Nat.beq (am_cls a0) 5) (cond (Nat.beq (am_cls a0) 5) (some (0, (am_upd M a0 1 (am_wrap ((M a0 1) + 1))))) none) none)) none := (am_blk am_h149 [2] 400 d 2 _ _ M).trans rfl
-- 150: LentHands$World.endLoans()V; stops [5]
set_option maxRecDepth 100000 in
theorem e150 (d : Nat) (a0 : Nat) (M : am_M) : am_run (d + 1) 150 [.inr a0] M = cond (Nat.beq (am_cls a0) 5) (cond (Nat.beq (am_cls a0) 5) (am_L d 150 5 [some (.inr a0), some (.inl (am_wrap ((M a0 3) - 1))), none] [] M) none) none := (am_run_s _ _ _ _).trans ((congrArg (fun z => cond _ z none) ((am_blk am_h150 [5] 400 d 0 _ _ M).trans rfl)))
set_option maxRecDepth 100000 in
theorem e150_5 (d : Nat) (a0 : Nat) (x1 : Int) (o2 : Option am_V) (M : am_M) : am_L d 150 5 [some (.inr a0), some (.inl x1), o2] [] M = (if (x1 : Int) < 0 then some (0, M) else am_bnd (am_run d 142 [.inr a0, .inl x1, .inl 3] M) (fun r1 M1 => cond (Nat.beq (am_cls a0) 5) ((if ((M1 a0 1) : Int) < r1 then am_L d 150 5 [some (.inr a0), some (.inl (am_wrap (x1 + (-1)))), o2] [] M1 else am_bnd (am_run d 142 [.inr a0, .inl x1, .inl 0] M1) (fun r2 M2 => am_bnd (am_run d 142 [.inr a0, .inl x1, .inl 1] M2) (fun r3 M3 => am_bnd (am_run d 142 [.inr a0, .inl x1, .inl 2] M3) (fun r4 M4 => am_bnd (am_run d 151 [.inr a0, .inl r2, .inl r3, .inl r4] M4) (fun _ M5 => cond (Nat.beq (am_cls a0) 5) (cond (Nat.beq (am_cls a0) 5) (cond (Nat.beq (am_cls a0) 5) (cond (Nat.beq (am_cls (am_rf a0 16)) 9 && Nat.beq (am_cls (am_rf a0 16)) 9) (am_chk (0 ≤ ((am_wrap ((am_wrap (x1 + 1)) * 5)) : Int) ∧ 0 ≤ ((am_wrap ((am_wrap ((am_wrap (x1 + 1)) * 5)) - 5)) : Int) ∧ 0 ≤ ((am_wrap ((am_wrap ((M5 a0 3) * 5)) - (am_wrap ((am_wrap (x1 + 1)) * 5)))) : Int) ∧ ((am_wrap ((am_wrap (x1 + 1)) * 5)) : Int) + (am_wrap ((am_wrap ((M5 a0 3) * 5)) - (am_wrap ((am_wrap (x1 + 1)) * 5)))) ≤ (am_len M5 (am_rf a0 16)) ∧ ((am_wrap ((am_wrap ((am_wrap (x1 + 1)) * 5)) - 5)) : Int) + (am_wrap ((am_wrap ((M5 a0 3) * 5)) - (am_wrap ((am_wrap (x1 + 1)) * 5)))) ≤ (am_len M5 (am_rf a0 16))) (cond (Nat.beq (am_cls a0) 5) (cond (Nat.beq (am_cls a0) 5) (am_L d 150 5 [some (.inr a0), some (.inl (am_wrap (x1 + (-1)))), some (.inl (am_wrap ((am_wrap (x1 + 1)) * 5)))] [] (am_upd (am_cpy M5 (am_rf a0 16) (am_wrap ((am_wrap (x1 + 1)) * 5)) (am_rf a0 16) (am_wrap ((am_wrap ((am_wrap (x1 + 1)) * 5)) - 5)) (am_wrap ((am_wrap ((M5 a0 3) * 5)) - (am_wrap ((am_wrap (x1 + 1)) * 5))))) a0 3 (am_wrap (((am_cpy M5 (am_rf a0 16) (am_wrap ((am_wrap (x1 + 1)) * 5)) (am_rf a0 16) (am_wrap ((am_wrap ((am_wrap (x1 + 1)) * 5)) - 5)) (am_wrap ((am_wrap ((M5 a0 3) * 5)) - (am_wrap ((am_wrap (x1 + 1)) * 5))))) a0 3) - 1)))) none) none)) none) none) none) none)))))) none)) := (am_blk am_h150 [5] 400 d 5 _ _ M).trans rfl
-- 151: LentHands$World.giveBack(III)V; stops []
set_option maxRecDepth 100000 in
theorem e151 (d : Nat) (a0 : Nat) (p1 : Int) (p2 : Int) (p3 : Int) (M : am_M) : am_run (d + 1) 151 [.inr a0, .inl p1, .inl p2, .inl p3] M = cond (Nat.beq (am_cls a0) 5) (am_bnd (am_run d 145 [.inr a0, .inl p1] M) (fun _ M1 => cond (Nat.beq (am_cls a0) 5) (cond (Nat.beq (am_cls (am_rf a0 9)) 9 || Nat.beq (am_cls (am_rf a0 9)) 12) (am_chk (0 ≤ ((am_wrap ((am_wrap (2 * p2)) + (am_iand p1 1))) : Int) ∧ (am_wrap ((am_wrap (2 * p2)) + (am_iand p1 1))) < (am_len M1 (am_rf a0 9))) ((if ((M1 (am_rf a0 9) (am_wrap ((am_wrap (2 * p2)) + (am_iand p1 1)))) : Int) = (-1) then am_bnd (am_run d 146 [.inr a0, .inl p1, .inl p2] M1) (fun _ M3 => cond (Nat.beq (am_cls a0) 5) (cond (Nat.beq (am_cls (am_rf a0 9)) 9 || Nat.beq (am_cls (am_rf a0 9)) 12) (am_chk (0 ≤ ((am_wrap ((am_wrap (2 * p3)) + (am_iand p1 1))) : Int) ∧ (am_wrap ((am_wrap (2 * p3)) + (am_iand p1 1))) < (am_len M3 (am_rf a0 9))) ((if ((M3 (am_rf a0 9) (am_wrap ((am_wrap (2 * p3)) + (am_iand p1 1)))) : Int) = (-1) then cond (Nat.beq (am_cls a0) 5) (cond (Nat.beq (am_cls (am_rf a0 10)) 9 || Nat.beq (am_cls (am_rf a0 10)) 12) (am_chk (0 ≤ ((am_wrap ((am_wrap (2 * p3)) + (am_iand p1 1))) : Int) ∧ (am_wrap ((am_wrap (2 * p3)) + (am_iand p1 1))) < (am_len M3 (am_rf a0 10))) ((if ((M3 (am_rf a0 10) (am_wrap ((am_wrap (2 * p3)) + (am_iand p1 1)))) : Int) = (-1) then am_bnd (am_run d 146 [.inr a0, .inl (am_wrap ((am_wrap (2 * p3)) + (am_iand p1 1))), .inl p3] M3) (fun _ M4 => some (0, M4)) else some (0, M3)))) none) none else some (0, M3)))) none) none) else cond (Nat.beq (am_cls a0) 5) (cond (Nat.beq (am_cls (am_rf a0 9)) 9 || Nat.beq (am_cls (am_rf a0 9)) 12) (am_chk (0 ≤ ((am_wrap ((am_wrap (2 * p3)) + (am_iand p1 1))) : Int) ∧ (am_wrap ((am_wrap (2 * p3)) + (am_iand p1 1))) < (am_len M1 (am_rf a0 9))) ((if ((M1 (am_rf a0 9) (am_wrap ((am_wrap (2 * p3)) + (am_iand p1 1)))) : Int) = (-1) then cond (Nat.beq (am_cls a0) 5) (cond (Nat.beq (am_cls (am_rf a0 10)) 9 || Nat.beq (am_cls (am_rf a0 10)) 12) (am_chk (0 ≤ ((am_wrap ((am_wrap (2 * p3)) + (am_iand p1 1))) : Int) ∧ (am_wrap ((am_wrap (2 * p3)) + (am_iand p1 1))) < (am_len M1 (am_rf a0 10))) ((if ((M1 (am_rf a0 10) (am_wrap ((am_wrap (2 * p3)) + (am_iand p1 1)))) : Int) = (-1) then am_bnd (am_run d 146 [.inr a0, .inl (am_wrap ((am_wrap (2 * p3)) + (am_iand p1 1))), .inl p3] M1) (fun _ M2 => some (0, M2)) else some (0, M1)))) none) none else some (0, M1)))) none) none))) none) none)) none := (am_run_s _ _ _ _).trans ((congrArg (fun z => cond _ z none) ((am_blk am_h151 [] 400 d 0 _ _ M).trans rfl)))
-- 152: LentHands$Law.copyFrom(LLentHands$Law;)V; stops []
set_option maxRecDepth 100000 in
theorem e152 (d : Nat) (a0 : Nat) (a1 : Nat) (M : am_M) : am_run (d + 1) 152 [.inr a0, .inr a1] M = cond (Nat.beq (am_cls a0) 1) (cond (Nat.beq (am_cls a1) 1) (cond (Nat.beq (am_cls a0) 1) (cond (Nat.beq (am_cls a1) 1) (cond (Nat.beq (am_cls a0) 1) (cond (Nat.beq (am_cls a1) 1) (cond (Nat.beq (am_cls a0) 1) (cond (Nat.beq (am_cls (am_rf a1 2)) 9 && Nat.beq (am_cls (am_rf a0 2)) 9) (am_chk (0 ≤ (0 : Int) ∧ 0 ≤ (0 : Int) ∧ 0 ≤ (16 : Int) ∧ (0 : Int) + 16 ≤ (am_len (am_upd (am_upd M a0 0 (M a1 0)) a0 1 ((am_upd M a0 0 (M a1 0)) a1 1)) (am_rf a1 2)) ∧ (0 : Int) + 16 ≤ (am_len (am_upd (am_upd M a0 0 (M a1 0)) a0 1 ((am_upd M a0 0 (M a1 0)) a1 1)) (am_rf a0 2))) (cond (Nat.beq (am_cls a1) 1) (cond (Nat.beq (am_cls a0) 1) (cond (Nat.beq (am_cls (am_rf a1 3)) 9 && Nat.beq (am_cls (am_rf a0 3)) 9) (am_chk (0 ≤ (0 : Int) ∧ 0 ≤ (0 : Int) ∧ 0 ≤ (16 : Int) ∧ (0 : Int) + 16 ≤ (am_len (am_cpy (am_upd (am_upd M a0 0 (M a1 0)) a0 1 ((am_upd M a0 0 (M a1 0)) a1 1)) (am_rf a1 2) 0 (am_rf a0 2) 0 16) (am_rf a1 3)) ∧ (0 : Int) + 16 ≤ (am_len (am_cpy (am_upd (am_upd M a0 0 (M a1 0)) a0 1 ((am_upd M a0 0 (M a1 0)) a1 1)) (am_rf a1 2) 0 (am_rf a0 2) 0 16) (am_rf a0 3))) (cond (Nat.beq (am_cls a1) 1) (cond (Nat.beq (am_cls a0) 1) (cond (Nat.beq (am_cls (am_rf a1 4)) 9 && Nat.beq (am_cls (am_rf a0 4)) 9) (am_chk (0 ≤ (0 : Int) ∧ 0 ≤ (0 : Int) ∧ 0 ≤ (16 : Int) ∧ (0 : Int) + 16 ≤ (am_len (am_cpy (am_cpy (am_upd (am_upd M a0 0 (M a1 0)) a0 1 ((am_upd M a0 0 (M a1 0)) a1 1)) (am_rf a1 2) 0 (am_rf a0 2) 0 16) (am_rf a1 3) 0 (am_rf a0 3) 0 16) (am_rf a1 4)) ∧ (0 : Int) + 16 ≤ (am_len (am_cpy (am_cpy (am_upd (am_upd M a0 0 (M a1 0)) a0 1 ((am_upd M a0 0 (M a1 0)) a1 1)) (am_rf a1 2) 0 (am_rf a0 2) 0 16) (am_rf a1 3) 0 (am_rf a0 3) 0 16) (am_rf a0 4))) (cond (Nat.beq (am_cls a1) 1) (cond (Nat.beq (am_cls a0) 1) (cond (Nat.beq (am_cls (am_rf a1 5)) 9 && Nat.beq (am_cls (am_rf a0 5)) 9) (am_chk (0 ≤ (0 : Int) ∧ 0 ≤ (0 : Int) ∧ 0 ≤ (16 : Int) ∧ (0 : Int) + 16 ≤ (am_len (am_cpy (am_cpy (am_cpy (am_upd (am_upd M a0 0 (M a1 0)) a0 1 ((am_upd M a0 0 (M a1 0)) a1 1)) (am_rf a1 2) 0 (am_rf a0 2) 0 16) (am_rf a1 3) 0 (am_rf a0 3) 0 16) (am_rf a1 4) 0 (am_rf a0 4) 0 16) (am_rf a1 5)) ∧ (0 : Int) + 16 ≤ (am_len (am_cpy (am_cpy (am_cpy (am_upd (am_upd M a0 0 (M a1 0)) a0 1 ((am_upd M a0 0 (M a1 0)) a1 1)) (am_rf a1 2) 0 (am_rf a0 2) 0 16) (am_rf a1 3) 0 (am_rf a0 3) 0 16) (am_rf a1 4) 0 (am_rf a0 4) 0 16) (am_rf a0 5))) (cond (Nat.beq (am_cls a1) 1) (cond (Nat.beq (am_cls a0) 1) (cond (Nat.beq (am_cls (am_rf a1 6)) 9 && Nat.beq (am_cls (am_rf a0 6)) 9) (am_chk (0 ≤ (0 : Int) ∧ 0 ≤ (0 : Int) ∧ 0 ≤ (400 : Int) ∧ (0 : Int) + 400 ≤ (am_len (am_cpy (am_cpy (am_cpy (am_cpy (am_upd (am_upd M a0 0 (M a1 0)) a0 1 ((am_upd M a0 0 (M a1 0)) a1 1)) (am_rf a1 2) 0 (am_rf a0 2) 0 16) (am_rf a1 3) 0 (am_rf a0 3) 0 16) (am_rf a1 4) 0 (am_rf a0 4) 0 16) (am_rf a1 5) 0 (am_rf a0 5) 0 16) (am_rf a1 6)) ∧ (0 : Int) + 400 ≤ (am_len (am_cpy (am_cpy (am_cpy (am_cpy (am_upd (am_upd M a0 0 (M a1 0)) a0 1 ((am_upd M a0 0 (M a1 0)) a1 1)) (am_rf a1 2) 0 (am_rf a0 2) 0 16) (am_rf a1 3) 0 (am_rf a0 3) 0 16) (am_rf a1 4) 0 (am_rf a0 4) 0 16) (am_rf a1 5) 0 (am_rf a0 5) 0 16) (am_rf a0 6))) (some (0, (am_cpy (am_cpy (am_cpy (am_cpy (am_cpy (am_upd (am_upd M a0 0 (M a1 0)) a0 1 ((am_upd M a0 0 (M a1 0)) a1 1)) (am_rf a1 2) 0 (am_rf a0 2) 0 16) (am_rf a1 3) 0 (am_rf a0 3) 0 16) (am_rf a1 4) 0 (am_rf a0 4) 0 16) (am_rf a1 5) 0 (am_rf a0 5) 0 16) (am_rf a1 6) 0 (am_rf a0 6) 0 400)))) none) none) none)) none) none) none)) none) none) none)) none) none) none)) none) none) none) none) none) none) none) none := (am_run_s _ _ _ _).trans ((congrArg (fun z => cond _ z none) ((am_blk am_h152 [] 400 d 0 _ _ M).trans rfl)))
-- 153: LentHands$Law.put(I)V; stops []
set_option maxRecDepth 100000 in
theorem e153 (d : Nat) (a0 : Nat) (p1 : Int) (M : am_M) : am_run (d + 1) 153 [.inr a0, .inl p1] M = cond (Nat.beq (am_cls a0) 1) (cond (Nat.beq (am_cls a0) 1) ((if ((M a0 1) : Int) < 400 then cond (Nat.beq (am_cls a0) 1) (cond (Nat.beq (am_cls a0) 1) (cond (Nat.beq (am_cls (am_rf a0 6)) 9) (am_chk (0 ≤ ((M a0 1) : Int) ∧ (M a0 1) < (am_len M (am_rf a0 6))) (cond (Nat.beq (am_cls a0) 1) (cond (Nat.beq (am_cls a0) 1) (some (0, (am_upd (am_upd M (am_rf a0 6) (M a0 1) p1) a0 1 (am_wrap (((am_upd M (am_rf a0 6) (M a0 1) p1) a0 1) + 1))))) none) none)) none) none) none else some (0, M))) none) none := (am_run_s _ _ _ _).trans ((congrArg (fun z => cond _ z none) ((am_blk am_h153 [] 400 d 0 _ _ M).trans rfl)))
-- 154: LentHands$Law.firstVerb(LLentHands$Asked;)I; stops [2]
set_option maxRecDepth 100000 in
theorem e154 (d : Nat) (a0 : Nat) (M : am_M) : am_run (d + 1) 154 [.inr a0, .inr 104] M = cond (Nat.beq (am_cls a0) 1) (am_L d 154 2 [some (.inr a0), some (.inr 104), some (.inl 0)] [] M) none := (am_run_s _ _ _ _).trans ((congrArg (fun z => cond _ z none) ((am_blk am_h154 [2] 400 d 0 _ _ M).trans rfl)))
set_option maxRecDepth 100000 in
theorem e154_2 (d : Nat) (a0 : Nat) (x2 : Int) (M : am_M) : am_L d 154 2 [some (.inr a0), some (.inr 104), some (.inl x2)] [] M = cond (Nat.beq (am_cls a0) 1) ((if (x2 : Int) < (M a0 0) then cond (Nat.beq (am_cls a0) 1) (cond (Nat.beq (am_cls (am_rf a0 4)) 9 || Nat.beq (am_cls (am_rf a0 4)) 12) (am_chk (0 ≤ (x2 : Int) ∧ x2 < (am_len M (am_rf a0 4))) (cond (Nat.beq (am_cls a0) 1) (cond (Nat.beq (am_cls (am_rf a0 5)) 9 || Nat.beq (am_cls (am_rf a0 5)) 12) (am_chk (0 ≤ (x2 : Int) ∧ x2 < (am_len M (am_rf a0 5))) ((if ((M (am_rf a0 4) x2) : Int) = (M (am_rf a0 5) x2) then cond (Nat.beq (am_cls a0) 1) (cond (Nat.beq (am_cls (am_rf a0 2)) 9 || Nat.beq (am_cls (am_rf a0 2)) 12) (am_chk (0 ≤ (x2 : Int) ∧ x2 < (am_len M (am_rf a0 2))) (some ((M (am_rf a0 2) x2), M))) none) none else cond (Nat.beq (am_cls a0) 1) (cond (Nat.beq (am_cls (am_rf a0 4)) 9 || Nat.beq (am_cls (am_rf a0 4)) 12) (am_chk (0 ≤ (x2 : Int) ∧ x2 < (am_len M (am_rf a0 4))) (cond (Nat.beq (am_cls a0) 1) (cond (Nat.beq (am_cls (am_rf a0 5)) 9 || Nat.beq (am_cls (am_rf a0 5)) 12) (am_chk (0 ≤ (x2 : Int) ∧ x2 < (am_len M (am_rf a0 5))) (am_bnd (am_run d 156 [.inr a0, .inl (M (am_rf a0 4) x2), .inl (M (am_rf a0 5) x2), .inr 104] M) (fun r1 M1 => (if (r1 : Int) = 0 then am_L d 154 2 [some (.inr a0), some (.inr 104), some (.inl (am_wrap (x2 + 1)))] [] M1 else cond (Nat.beq (am_cls a0) 1) (cond (Nat.beq (am_cls (am_rf a0 2)) 9 || Nat.beq (am_cls (am_rf a0 2)) 12) (am_chk (0 ≤ (x2 : Int) ∧ x2 < (am_len M1 (am_rf a0 2))) (some ((M1 (am_rf a0 2) x2), M1))) none) none)))) none) none)) none) none))) none) none)) none) none else some ((-1), M))) none := (am_blk am_h154 [2] 400 d 2 _ _ M).trans rfl
-- 155: LentHands$Law.amount(ILLentHands$Asked;)I; stops [2]
set_option maxRecDepth 100000 in
theorem e155 (d : Nat) (a0 : Nat) (p1 : Int) (M : am_M) : am_run (d + 1) 155 [.inr a0, .inl p1, .inr 104] M = cond (Nat.beq (am_cls a0) 1) (am_L d 155 2 [some (.inr a0), some (.inl p1), some (.inr 104), some (.inl 0)] [] M) none := (am_run_s _ _ _ _).trans ((congrArg (fun z => cond _ z none) ((am_blk am_h155 [2] 400 d 0 _ _ M).trans rfl)))
set_option maxRecDepth 100000 in
theorem e155_2 (d : Nat) (a0 : Nat) (x1 : Int) (x3 : Int) (M : am_M) : am_L d 155 2 [some (.inr a0), some (.inl x1), some (.inr 104), some (.inl x3)] [] M = cond (Nat.beq (am_cls a0) 1) ((if (x3 : Int) < (M a0 0) then cond (Nat.beq (am_cls a0) 1) (cond (Nat.beq (am_cls (am_rf a0 2)) 9 || Nat.beq (am_cls (am_rf a0 2)) 12) (am_chk (0 ≤ (x3 : Int) ∧ x3 < (am_len M (am_rf a0 2))) ((if ((M (am_rf a0 2) x3) : Int) = x1 then cond (Nat.beq (am_cls a0) 1) (cond (Nat.beq (am_cls (am_rf a0 4)) 9 || Nat.beq (am_cls (am_rf a0 4)) 12) (am_chk (0 ≤ (x3 : Int) ∧ x3 < (am_len M (am_rf a0 4))) (cond (Nat.beq (am_cls a0) 1) (cond (Nat.beq (am_cls (am_rf a0 5)) 9 || Nat.beq (am_cls (am_rf a0 5)) 12) (am_chk (0 ≤ (x3 : Int) ∧ x3 < (am_len M (am_rf a0 5))) ((if ((M (am_rf a0 4) x3) : Int) = (M (am_rf a0 5) x3) then cond (Nat.beq (am_cls a0) 1) (cond (Nat.beq (am_cls (am_rf a0 3)) 9 || Nat.beq (am_cls (am_rf a0 3)) 12) (am_chk (0 ≤ (x3 : Int) ∧ x3 < (am_len M (am_rf a0 3))) (cond (Nat.beq (am_cls a0) 1) (cond (Nat.beq (am_cls (am_rf a0 4)) 9 || Nat.beq (am_cls (am_rf a0 4)) 12) (am_chk (0 ≤ (x3 : Int) ∧ x3 < (am_len M (am_rf a0 4))) (am_bnd (am_run d 156 [.inr a0, .inl (M (am_rf a0 3) x3), .inl (M (am_rf a0 4) x3), .inr 104] M) (fun r1 M1 => some (r1, M1)))) none) none)) none) none else cond (Nat.beq (am_cls a0) 1) (cond (Nat.beq (am_cls (am_rf a0 4)) 9 || Nat.beq (am_cls (am_rf a0 4)) 12) (am_chk (0 ≤ (x3 : Int) ∧ x3 < (am_len M (am_rf a0 4))) (cond (Nat.beq (am_cls a0) 1) (cond (Nat.beq (am_cls (am_rf a0 5)) 9 || Nat.beq (am_cls (am_rf a0 5)) 12) (am_chk (0 ≤ (x3 : Int) ∧ x3 < (am_len M (am_rf a0 5))) (am_bnd (am_run d 156 [.inr a0, .inl (M (am_rf a0 4) x3), .inl (M (am_rf a0 5) x3), .inr 104] M) (fun r2 M2 => (if (r2 : Int) = 0 then am_L d 155 2 [some (.inr a0), some (.inl x1), some (.inr 104), some (.inl (am_wrap (x3 + 1)))] [] M2 else cond (Nat.beq (am_cls a0) 1) (cond (Nat.beq (am_cls (am_rf a0 3)) 9 || Nat.beq (am_cls (am_rf a0 3)) 12) (am_chk (0 ≤ (x3 : Int) ∧ x3 < (am_len M2 (am_rf a0 3))) (cond (Nat.beq (am_cls a0) 1) (cond (Nat.beq (am_cls (am_rf a0 4)) 9 || Nat.beq (am_cls (am_rf a0 4)) 12) (am_chk (0 ≤ (x3 : Int) ∧ x3 < (am_len M2 (am_rf a0 4))) (am_bnd (am_run d 156 [.inr a0, .inl (M2 (am_rf a0 3) x3), .inl (M2 (am_rf a0 4) x3), .inr 104] M2) (fun r3 M3 => some (r3, M3)))) none) none)) none) none)))) none) none)) none) none))) none) none)) none) none else am_L d 155 2 [some (.inr a0), some (.inl x1), some (.inr 104), some (.inl (am_wrap (x3 + 1)))] [] M))) none) none else some (0, M))) none := (am_blk am_h155 [2] 400 d 2 _ _ M).trans rfl
-- 156: LentHands$Law.reckon(IILLentHands$Asked;)I; stops [7, 131]
set_option maxRecDepth 100000 in
theorem e156 (d : Nat) (a0 : Nat) (p1 : Int) (p2 : Int) (M : am_M) : am_run (d + 1) 156 [.inr a0, .inl p1, .inl p2, .inr 104] M = cond (Nat.beq (am_cls a0) 1) (am_L d 156 7 [some (.inr a0), some (.inl p1), some (.inl p2), some (.inr 104), some (.inr 106), some (.inl 0), some (.inl p1), none, none, none, none] [] M) none := (am_run_s _ _ _ _).trans ((congrArg (fun z => cond _ z none) ((am_blk am_h156 [7, 131] 400 d 0 _ _ M).trans rfl)))
set_option maxRecDepth 100000 in
theorem e156_7 (d : Nat) (a0 : Nat) (x1 : Int) (x2 : Int) (x5 : Int) (x6 : Int) (o7 : Option am_V) (o8 : Option am_V) (o9 : Option am_V) (o10 : Option am_V) (M : am_M) : am_L d 156 7 [some (.inr a0), some (.inl x1), some (.inl x2), some (.inr 104), some (.inr 106), some (.inl x5), some (.inl x6), o7, o8, o9, o10] [] M = (if (x6 : Int) < x2 then cond (Nat.beq (am_cls a0) 1) (cond (Nat.beq (am_cls (am_rf a0 6)) 9 || Nat.beq (am_cls (am_rf a0 6)) 12) (am_chk (0 ≤ (x6 : Int) ∧ x6 < (am_len M (am_rf a0 6))) ((if ((M (am_rf a0 6) x6) : Int) < 20000 then (if (x5 : Int) < 32 then (if ((M (am_rf a0 6) x6) : Int) < 10000 then am_chk (0 ≤ (x5 : Int) ∧ x5 < 32) (am_L d 156 7 [some (.inr a0), some (.inl x1), some (.inl x2), some (.inr 104), some (.inr 106), some (.inl (am_wrap (x5 + 1))), some (.inl (am_wrap (x6 + 1))), some (.inl (M (am_rf a0 6) x6)), o8, o9, o10] [] (am_upd M 106 x5 (M (am_rf a0 6) x6))) else am_chk (0 ≤ ((am_wrap ((M (am_rf a0 6) x6) - 10000)) : Int) ∧ (am_wrap ((M (am_rf a0 6) x6) - 10000)) < 14) (am_chk (0 ≤ (x5 : Int) ∧ x5 < 32) (am_L d 156 7 [some (.inr a0), some (.inl x1), some (.inl x2), some (.inr 104), some (.inr 106), some (.inl (am_wrap (x5 + 1))), some (.inl (am_wrap (x6 + 1))), some (.inl (M (am_rf a0 6) x6)), o8, o9, o10] [] (am_upd M 106 x5 (M 105 (am_wrap ((M (am_rf a0 6) x6) - 10000))))))) else am_L d 156 7 [some (.inr a0), some (.inl x1), some (.inl x2), some (.inr 104), some (.inr 106), some (.inl x5), some (.inl (am_wrap (x6 + 1))), some (.inl (M (am_rf a0 6) x6)), o8, o9, o10] [] M) else (if ((M (am_rf a0 6) x6) : Int) = 20017 then (if (x5 : Int) < 1 then am_L d 156 7 [some (.inr a0), some (.inl x1), some (.inl x2), some (.inr 104), some (.inr 106), some (.inl x5), some (.inl (am_wrap (x6 + 1))), some (.inl (M (am_rf a0 6) x6)), o8, o9, o10] [] M else am_chk (0 ≤ ((am_wrap (x5 - 1)) : Int) ∧ (am_wrap (x5 - 1)) < 32) (am_chk (0 ≤ ((am_wrap (x5 - 1)) : Int) ∧ (am_wrap (x5 - 1)) < 32) (am_L d 156 7 [some (.inr a0), some (.inl x1), some (.inl x2), some (.inr 104), some (.inr 106), some (.inl x5), some (.inl (am_wrap (x6 + 1))), some (.inl (M (am_rf a0 6) x6)), o8, o9, o10] [] (am_upd M 106 (am_wrap (x5 - 1)) (am_wrap (1 - (M 106 (am_wrap (x5 - 1))))))))) else (if (x5 : Int) < 2 then am_L d 156 7 [some (.inr a0), some (.inl x1), some (.inl x2), some (.inr 104), some (.inr 106), some (.inl x5), some (.inl (am_wrap (x6 + 1))), some (.inl (M (am_rf a0 6) x6)), o8, o9, o10] [] M else am_chk (0 ≤ ((am_wrap ((am_wrap (x5 + (-1))) - 1)) : Int) ∧ (am_wrap ((am_wrap (x5 + (-1))) - 1)) < 32) (am_chk (0 ≤ ((am_wrap (x5 + (-1))) : Int) ∧ (am_wrap (x5 + (-1))) < 32) ((if ((am_wrap ((M (am_rf a0 6) x6) - 20000)) : Int) = 16 then am_L d 156 131 [some (.inr a0), some (.inl x1), some (.inl x2), some (.inr 104), some (.inr 106), some (.inl (am_wrap (x5 + (-1)))), some (.inl x6), some (.inl (M (am_rf a0 6) x6)), some (.inl (M 106 (am_wrap ((am_wrap (x5 + (-1))) - 1)))), some (.inl (M 106 (am_wrap (x5 + (-1))))), some (.inl (am_iand (M 106 (am_wrap ((am_wrap (x5 + (-1))) - 1))) (M 106 (am_wrap (x5 + (-1))))))] [] M else (if ((am_wrap ((M (am_rf a0 6) x6) - 20000)) : Int) = 42 then am_L d 156 131 [some (.inr a0), some (.inl x1), some (.inl x2), some (.inr 104), some (.inr 106), some (.inl (am_wrap (x5 + (-1)))), some (.inl x6), some (.inl (M (am_rf a0 6) x6)), some (.inl (M 106 (am_wrap ((am_wrap (x5 + (-1))) - 1)))), some (.inl (M 106 (am_wrap (x5 + (-1))))), some (.inl (am_wrap ((M 106 (am_wrap ((am_wrap (x5 + (-1))) - 1))) * (M 106 (am_wrap (x5 + (-1)))))))] [] M else (if ((am_wrap ((M (am_rf a0 6) x6) - 20000)) : Int) = 43 then am_L d 156 131 [some (.inr a0), some (.inl x1), some (.inl x2), some (.inr 104), some (.inr 106), some (.inl (am_wrap (x5 + (-1)))), some (.inl x6), some (.inl (M (am_rf a0 6) x6)), some (.inl (M 106 (am_wrap ((am_wrap (x5 + (-1))) - 1)))), some (.inl (M 106 (am_wrap (x5 + (-1))))), some (.inl (am_wrap ((M 106 (am_wrap ((am_wrap (x5 + (-1))) - 1))) + (M 106 (am_wrap (x5 + (-1)))))))] [] M else (if ((am_wrap ((M (am_rf a0 6) x6) - 20000)) : Int) = 45 then am_L d 156 131 [some (.inr a0), some (.inl x1), some (.inl x2), some (.inr 104), some (.inr 106), some (.inl (am_wrap (x5 + (-1)))), some (.inl x6), some (.inl (M (am_rf a0 6) x6)), some (.inl (M 106 (am_wrap ((am_wrap (x5 + (-1))) - 1)))), some (.inl (M 106 (am_wrap (x5 + (-1))))), some (.inl (am_wrap ((M 106 (am_wrap ((am_wrap (x5 + (-1))) - 1))) - (M 106 (am_wrap (x5 + (-1)))))))] [] M else (if ((am_wrap ((M (am_rf a0 6) x6) - 20000)) : Int) = 47 then (if ((M 106 (am_wrap (x5 + (-1)))) : Int) = 0 then am_L d 156 131 [some (.inr a0), some (.inl x1), some (.inl x2), some (.inr 104), some (.inr 106), some (.inl (am_wrap (x5 + (-1)))), some (.inl x6), some (.inl (M (am_rf a0 6) x6)), some (.inl (M 106 (am_wrap ((am_wrap (x5 + (-1))) - 1)))), some (.inl (M 106 (am_wrap (x5 + (-1))))), some (.inl 0)] [] M else am_chk (¬ ((M 106 (am_wrap (x5 + (-1)))) : Int) = 0) (am_L d 156 131 [some (.inr a0), some (.inl x1), some (.inl x2), some (.inr 104), some (.inr 106), some (.inl (am_wrap (x5 + (-1)))), some (.inl x6), some (.inl (M (am_rf a0 6) x6)), some (.inl (M 106 (am_wrap ((am_wrap (x5 + (-1))) - 1)))), some (.inl (M 106 (am_wrap (x5 + (-1))))), some (.inl (am_idiv (M 106 (am_wrap ((am_wrap (x5 + (-1))) - 1))) (M 106 (am_wrap (x5 + (-1))))))] [] M)) else (if ((am_wrap ((M (am_rf a0 6) x6) - 20000)) : Int) = 60 then (if ((M 106 (am_wrap ((am_wrap (x5 + (-1))) - 1))) : Int) < (M 106 (am_wrap (x5 + (-1)))) then am_L d 156 131 [some (.inr a0), some (.inl x1), some (.inl x2), some (.inr 104), some (.inr 106), some (.inl (am_wrap (x5 + (-1)))), some (.inl x6), some (.inl (M (am_rf a0 6) x6)), some (.inl (M 106 (am_wrap ((am_wrap (x5 + (-1))) - 1)))), some (.inl (M 106 (am_wrap (x5 + (-1))))), some (.inl 1)] [] M else am_L d 156 131 [some (.inr a0), some (.inl x1), some (.inl x2), some (.inr 104), some (.inr 106), some (.inl (am_wrap (x5 + (-1)))), some (.inl x6), some (.inl (M (am_rf a0 6) x6)), some (.inl (M 106 (am_wrap ((am_wrap (x5 + (-1))) - 1)))), some (.inl (M 106 (am_wrap (x5 + (-1))))), some (.inl 0)] [] M) else (if ((am_wrap ((M (am_rf a0 6) x6) - 20000)) : Int) = 61 then (if ((M 106 (am_wrap ((am_wrap (x5 + (-1))) - 1))) : Int) = (M 106 (am_wrap (x5 + (-1)))) then am_L d 156 131 [some (.inr a0), some (.inl x1), some (.inl x2), some (.inr 104), some (.inr 106), some (.inl (am_wrap (x5 + (-1)))), some (.inl x6), some (.inl (M (am_rf a0 6) x6)), some (.inl (M 106 (am_wrap ((am_wrap (x5 + (-1))) - 1)))), some (.inl (M 106 (am_wrap (x5 + (-1))))), some (.inl 1)] [] M else am_L d 156 131 [some (.inr a0), some (.inl x1), some (.inl x2), some (.inr 104), some (.inr 106), some (.inl (am_wrap (x5 + (-1)))), some (.inl x6), some (.inl (M (am_rf a0 6) x6)), some (.inl (M 106 (am_wrap ((am_wrap (x5 + (-1))) - 1)))), some (.inl (M 106 (am_wrap (x5 + (-1))))), some (.inl 0)] [] M) else (if ((am_wrap ((M (am_rf a0 6) x6) - 20000)) : Int) = 62 then (if ((M 106 (am_wrap (x5 + (-1)))) : Int) < (M 106 (am_wrap ((am_wrap (x5 + (-1))) - 1))) then am_L d 156 131 [some (.inr a0), some (.inl x1), some (.inl x2), some (.inr 104), some (.inr 106), some (.inl (am_wrap (x5 + (-1)))), some (.inl x6), some (.inl (M (am_rf a0 6) x6)), some (.inl (M 106 (am_wrap ((am_wrap (x5 + (-1))) - 1)))), some (.inl (M 106 (am_wrap (x5 + (-1))))), some (.inl 1)] [] M else am_L d 156 131 [some (.inr a0), some (.inl x1), some (.inl x2), some (.inr 104), some (.inr 106), some (.inl (am_wrap (x5 + (-1)))), some (.inl x6), some (.inl (M (am_rf a0 6) x6)), some (.inl (M 106 (am_wrap ((am_wrap (x5 + (-1))) - 1)))), some (.inl (M 106 (am_wrap (x5 + (-1))))), some (.inl 0)] [] M) else am_L d 156 131 [some (.inr a0), some (.inl x1), some (.inl x2), some (.inr 104), some (.inr 106), some (.inl (am_wrap (x5 + (-1)))), some (.inl x6), some (.inl (M (am_rf a0 6) x6)), some (.inl (M 106 (am_wrap ((am_wrap (x5 + (-1))) - 1)))), some (.inl (M 106 (am_wrap (x5 + (-1))))), some (.inl (am_ior (M 106 (am_wrap ((am_wrap (x5 + (-1))) - 1))) (M 106 (am_wrap (x5 + (-1))))))] [] M))))))))))))))) none) none else am_chk (0 ≤ (0 : Int) ∧ 0 < 32) (some ((M 106 0), M))) := (am_blk am_h156 [7, 131] 400 d 7 _ _ M).trans rfl
set_option maxRecDepth 100000 in
theorem e156_131 (d : Nat) (a0 : Nat) (x1 : Int) (x2 : Int) (x5 : Int) (x6 : Int) (x7 : Int) (x8 : Int) (x9 : Int) (x10 : Int) (M : am_M) : am_L d 156 131 [some (.inr a0), some (.inl x1), some (.inl x2), some (.inr 104), some (.inr 106), some (.inl x5), some (.inl x6), some (.inl x7), some (.inl x8), some (.inl x9), some (.inl x10)] [] M = am_chk (0 ≤ ((am_wrap (x5 - 1)) : Int) ∧ (am_wrap (x5 - 1)) < 32) (am_L d 156 7 [some (.inr a0), some (.inl x1), some (.inl x2), some (.inr 104), some (.inr 106), some (.inl x5), some (.inl (am_wrap (x6 + 1))), some (.inl x7), some (.inl x8), some (.inl x9), some (.inl x10)] [] (am_upd M 106 (am_wrap (x5 - 1)) x10)) := (am_blk am_h156 [7, 131] 400 d 131 _ _ M).trans rfl
-- 157: LentHands$Table.cell(II)I; stops []
set_option maxRecDepth 100000 in
theorem e157 (d : Nat) (a0 : Nat) (p1 : Int) (p2 : Int) (M : am_M) : am_run (d + 1) 157 [.inr a0, .inl p1, .inl p2] M = cond (Nat.beq (am_cls a0) 3) (cond (Nat.beq (am_cls a0) 3) (cond (Nat.beq (am_cls (am_rf a0 1)) 9 || Nat.beq (am_cls (am_rf a0 1)) 12) (am_chk (0 ≤ ((am_wrap ((am_wrap (p1 * 5)) + p2)) : Int) ∧ (am_wrap ((am_wrap (p1 * 5)) + p2)) < (am_len M (am_rf a0 1))) (some ((M (am_rf a0 1) (am_wrap ((am_wrap (p1 * 5)) + p2))), M))) none) none) none := (am_run_s _ _ _ _).trans ((congrArg (fun z => cond _ z none) ((am_blk am_h157 [] 400 d 0 _ _ M).trans rfl)))
-- 158: LentHands$Table.copyFrom(LLentHands$Table;)V; stops []
set_option maxRecDepth 100000 in
theorem e158 (d : Nat) (a0 : Nat) (a1 : Nat) (M : am_M) : am_run (d + 1) 158 [.inr a0, .inr a1] M = cond (Nat.beq (am_cls a0) 3) (cond (Nat.beq (am_cls a1) 3) (cond (Nat.beq (am_cls a0) 3) (cond (Nat.beq (am_cls a1) 3) (cond (Nat.beq (am_cls a0) 3) (cond (Nat.beq (am_cls (am_rf a1 1)) 9 && Nat.beq (am_cls (am_rf a0 1)) 9) (am_chk (0 ≤ (0 : Int) ∧ 0 ≤ (0 : Int) ∧ 0 ≤ (80 : Int) ∧ (0 : Int) + 80 ≤ (am_len (am_upd M a0 0 (M a1 0)) (am_rf a1 1)) ∧ (0 : Int) + 80 ≤ (am_len (am_upd M a0 0 (M a1 0)) (am_rf a0 1))) (some (0, (am_cpy (am_upd M a0 0 (M a1 0)) (am_rf a1 1) 0 (am_rf a0 1) 0 80)))) none) none) none) none) none) none := (am_run_s _ _ _ _).trans ((congrArg (fun z => cond _ z none) ((am_blk am_h158 [] 400 d 0 _ _ M).trans rfl)))
-- 159: LentHands$Texts.copyFrom(LLentHands$Texts;)V; stops [2]
set_option maxRecDepth 100000 in
theorem e159 (d : Nat) (a0 : Nat) (a1 : Nat) (M : am_M) : am_run (d + 1) 159 [.inr a0, .inr a1] M = cond (Nat.beq (am_cls a0) 4) (am_L d 159 2 [some (.inr a0), some (.inr a1), some (.inl 0)] [] M) none := (am_run_s _ _ _ _).trans ((congrArg (fun z => cond _ z none) ((am_blk am_h159 [2] 400 d 0 _ _ M).trans rfl)))
set_option maxRecDepth 100000 in
theorem e159_2 (d : Nat) (a0 : Nat) (a1 : Nat) (x2 : Int) (M : am_M) : am_L d 159 2 [some (.inr a0), some (.inr a1), some (.inl x2)] [] M = (if (x2 : Int) < 3 then cond (Nat.beq (am_cls a0) 4) (cond (Nat.beq (am_cls (am_rf a0 0)) 11 || Nat.beq (am_cls (am_rf a0 0)) 14) (am_chk (0 ≤ (x2 : Int) ∧ x2 < (am_len M (am_rf a0 0))) (cond (Nat.beq (am_cls a1) 4) (cond (Nat.beq (am_cls (am_rf a1 0)) 11 || Nat.beq (am_cls (am_rf a1 0)) 14) (am_chk (0 ≤ (x2 : Int) ∧ x2 < (am_len M (am_rf a1 0))) (am_bnd (am_run d 152 [.inr (am_rf (am_rf a0 0) x2), .inr (am_rf (am_rf a1 0) x2)] M) (fun _ M3 => am_L d 159 2 [some (.inr a0), some (.inr a1), some (.inl (am_wrap (x2 + 1)))] [] M3))) none) none)) none) none else cond (Nat.beq (am_cls a0) 4) (cond (Nat.beq (am_cls a1) 4) (am_bnd (am_run d 158 [.inr (am_rf a0 1), .inr (am_rf a1 1)] M) (fun _ M1 => cond (Nat.beq (am_cls a0) 4) (cond (Nat.beq (am_cls a1) 4) (am_bnd (am_run d 158 [.inr (am_rf a0 2), .inr (am_rf a1 2)] M1) (fun _ M2 => some (0, M2))) none) none)) none) none) := (am_blk am_h159 [2] 400 d 2 _ _ M).trans rfl
-- 160: LentHands$Reader.begin([CI)V; stops [16]
set_option maxRecDepth 100000 in
theorem e160 (d : Nat) (p2 : Int) (M : am_M) : am_run (d + 1) 160 [.inr 92, .inr 91, .inl p2] M = am_L d 160 16 [some (.inr 92), some (.inr 91), some (.inl p2), some (.inl 0), some (.inl 0)] [] (am_upd (am_upd (am_upd (am_upd M 92 3 0) 92 4 0) 92 5 0) 92 6 (-1)) := (am_run_s _ _ _ _).trans (((am_blk am_h160 [16] 400 d 0 _ _ M).trans rfl))
set_option maxRecDepth 100000 in
theorem e160_16 (d : Nat) (x2 : Int) (x3 : Int) (x4 : Int) (M : am_M) : am_L d 160 16 [some (.inr 92), some (.inr 91), some (.inl x2), some (.inl x3), some (.inl x4)] [] M = (if (x4 : Int) < 400 then (if (x3 : Int) < x2 then am_chk (0 ≤ (x3 : Int) ∧ x3 < 400) ((if ((M 91 x3) : Int) = 32 then am_L d 160 16 [some (.inr 92), some (.inr 91), some (.inl x2), some (.inl (am_wrap (x3 + 1))), some (.inl (am_wrap (x4 + 1)))] [] M else am_chk (0 ≤ (x3 : Int) ∧ x3 < 400) ((if ((M 91 x3) : Int) = 10 then am_L d 160 16 [some (.inr 92), some (.inr 91), some (.inl x2), some (.inl (am_wrap (x3 + 1))), some (.inl (am_wrap (x4 + 1)))] [] M else am_bnd (am_run d 161 [.inr 92, .inr 91, .inl x3, .inl x2] M) (fun r3 M3 => am_L d 160 16 [some (.inr 92), some (.inr 91), some (.inl x2), some (.inl r3), some (.inl (am_wrap (x4 + 1)))] [] M3))))) else am_bnd (am_run d 162 [.inr 92, .inl 202, .inl 0, .inl x2] M) (fun _ M2 => some (0, M2))) else am_bnd (am_run d 162 [.inr 92, .inl 202, .inl 0, .inl x2] M) (fun _ M1 => some (0, M1))) := (am_blk am_h160 [16] 400 d 16 _ _ M).trans rfl
-- 161: LentHands$Reader.cutToken([CII)I; stops [9, 39]
set_option maxRecDepth 100000 in
theorem e161 (d : Nat) (p2 : Int) (p3 : Int) (M : am_M) : am_run (d + 1) 161 [.inr 92, .inr 91, .inl p2, .inl p3] M = am_chk (0 ≤ (p2 : Int) ∧ p2 < 400) (am_bnd (am_run d 163 [.inl (M 91 p2)] M) (fun r1 M1 => (if (r1 : Int) = 0 then am_chk (0 ≤ (p2 : Int) ∧ p2 < 400) (am_bnd (am_run d 164 [.inl (M1 91 p2)] M1) (fun r2 M2 => (if (r2 : Int) = 0 then am_chk (0 ≤ (p2 : Int) ∧ p2 < 400) (am_bnd (am_run d 165 [.inl (M2 91 p2)] M2) (fun r3 M3 => (if (r3 : Int) = 0 then am_bnd (am_run d 162 [.inr 92, .inl 201, .inl 0, .inl p2] M3) (fun _ M4 => some ((am_wrap (p2 + 1)), M4)) else am_chk (0 ≤ (p2 : Int) ∧ p2 < 400) (am_bnd (am_run d 162 [.inr 92, .inl (M3 91 p2), .inl 0, .inl p2] M3) (fun _ M5 => some ((am_wrap (p2 + 1)), M5)))))) else am_chk (0 ≤ (p2 : Int) ∧ p2 < 400) (am_L d 161 39 [some (.inr 92), some (.inr 91), some (.inl p2), some (.inl p3), some (.inl (am_wrap (p2 + 1))), some (.inl (am_wrap ((M2 91 p2) - 48)))] [] M2)))) else am_L d 161 9 [some (.inr 92), some (.inr 91), some (.inl p2), some (.inl p3), some (.inl (am_wrap (p2 + 1))), none] [] M1))) := (am_run_s _ _ _ _).trans (((am_blk am_h161 [9, 39] 400 d 0 _ _ M).trans rfl))
set_option maxRecDepth 100000 in
theorem e161_9 (d : Nat) (x2 : Int) (x3 : Int) (x4 : Int) (M : am_M) : am_L d 161 9 [some (.inr 92), some (.inr 91), some (.inl x2), some (.inl x3), some (.inl x4), none] [] M = (if (x4 : Int) < x3 then am_chk (0 ≤ (x4 : Int) ∧ x4 < 400) (am_bnd (am_run d 163 [.inl (M 91 x4)] M) (fun r3 M3 => (if (r3 : Int) = 0 then am_bnd (am_run d 166 [.inr 91, .inl x2, .inl x4] M3) (fun r4 M4 => am_bnd (am_run d 162 [.inr 92, .inl r4, .inl 0, .inl x2] M4) (fun _ M5 => some (x4, M5))) else am_L d 161 9 [some (.inr 92), some (.inr 91), some (.inl x2), some (.inl x3), some (.inl (am_wrap (x4 + 1))), none] [] M3))) else am_bnd (am_run d 166 [.inr 91, .inl x2, .inl x4] M) (fun r1 M1 => am_bnd (am_run d 162 [.inr 92, .inl r1, .inl 0, .inl x2] M1) (fun _ M2 => some (x4, M2)))) := (am_blk am_h161 [9, 39] 400 d 9 _ _ M).trans rfl
set_option maxRecDepth 100000 in
theorem e161_39 (d : Nat) (x2 : Int) (x3 : Int) (x4 : Int) (x5 : Int) (M : am_M) : am_L d 161 39 [some (.inr 92), some (.inr 91), some (.inl x2), some (.inl x3), some (.inl x4), some (.inl x5)] [] M = (if (x4 : Int) < x3 then am_chk (0 ≤ (x4 : Int) ∧ x4 < 400) (am_bnd (am_run d 164 [.inl (M 91 x4)] M) (fun r3 M3 => (if (r3 : Int) = 0 then (if (4 : Int) < (am_wrap (x4 - x2)) then am_bnd (am_run d 162 [.inr 92, .inl 201, .inl x5, .inl x2] M3) (fun _ M4 => some (x4, M4)) else am_bnd (am_run d 162 [.inr 92, .inl 200, .inl x5, .inl x2] M3) (fun _ M5 => some (x4, M5))) else am_chk (0 ≤ (x4 : Int) ∧ x4 < 400) (am_L d 161 39 [some (.inr 92), some (.inr 91), some (.inl x2), some (.inl x3), some (.inl (am_wrap (x4 + 1))), some (.inl (am_wrap ((am_wrap ((am_wrap (x5 * 10)) + (M3 91 x4))) - 48)))] [] M3)))) else (if (4 : Int) < (am_wrap (x4 - x2)) then am_bnd (am_run d 162 [.inr 92, .inl 201, .inl x5, .inl x2] M) (fun _ M1 => some (x4, M1)) else am_bnd (am_run d 162 [.inr 92, .inl 200, .inl x5, .inl x2] M) (fun _ M2 => some (x4, M2)))) := (am_blk am_h161 [9, 39] 400 d 39 _ _ M).trans rfl
-- 162: LentHands$Reader.addToken(III)V; stops []
set_option maxRecDepth 100000 in
theorem e162 (d : Nat) (p1 : Int) (p2 : Int) (p3 : Int) (M : am_M) : am_run (d + 1) 162 [.inr 92, .inl p1, .inl p2, .inl p3] M = (if (400 : Int) < (M 92 3) then some (0, M) else am_chk (0 ≤ ((M 92 3) : Int) ∧ (M 92 3) < 401) (am_chk (0 ≤ (((am_upd M 93 (M 92 3) p1) 92 3) : Int) ∧ ((am_upd M 93 (M 92 3) p1) 92 3) < 401) (am_chk (0 ≤ (((am_upd (am_upd M 93 (M 92 3) p1) 94 ((am_upd M 93 (M 92 3) p1) 92 3) p2) 92 3) : Int) ∧ ((am_upd (am_upd M 93 (M 92 3) p1) 94 ((am_upd M 93 (M 92 3) p1) 92 3) p2) 92 3) < 401) (some (0, (am_upd (am_upd (am_upd (am_upd M 93 (M 92 3) p1) 94 ((am_upd M 93 (M 92 3) p1) 92 3) p2) 95 ((am_upd (am_upd M 93 (M 92 3) p1) 94 ((am_upd M 93 (M 92 3) p1) 92 3) p2) 92 3) p3) 92 3 (am_wrap (((am_upd (am_upd (am_upd M 93 (M 92 3) p1) 94 ((am_upd M 93 (M 92 3) p1) 92 3) p2) 95 ((am_upd (am_upd M 93 (M 92 3) p1) 94 ((am_upd M 93 (M 92 3) p1) 92 3) p2) 92 3) p3) 92 3) + 1)))))))) := (am_run_s _ _ _ _).trans (((am_blk am_h162 [] 400 d 0 _ _ M).trans rfl))
-- 163: LentHands$Reader.isLetter(C)Z; stops []
set_option maxRecDepth 100000 in
theorem e163 (d : Nat) (p0 : Int) (M : am_M) : am_run (d + 1) 163 [.inl p0] M = (if (p0 : Int) < 97 then (if (p0 : Int) < 65 then some (0, M) else (if (90 : Int) < p0 then some (0, M) else some (1, M))) else (if (122 : Int) < p0 then (if (p0 : Int) < 65 then some (0, M) else (if (90 : Int) < p0 then some (0, M) else some (1, M))) else some (1, M))) := (am_run_s _ _ _ _).trans (((am_blk am_h163 [] 400 d 0 _ _ M).trans rfl))
-- 164: LentHands$Reader.isDigit(C)Z; stops []
set_option maxRecDepth 100000 in
theorem e164 (d : Nat) (p0 : Int) (M : am_M) : am_run (d + 1) 164 [.inl p0] M = (if (p0 : Int) < 48 then some (0, M) else (if (57 : Int) < p0 then some (0, M) else some (1, M))) := (am_run_s _ _ _ _).trans (((am_blk am_h164 [] 400 d 0 _ _ M).trans rfl))
-- 165: LentHands$Reader.isSign(C)Z; stops [6]
set_option maxRecDepth 100000 in
theorem e165 (d : Nat) (p0 : Int) (M : am_M) : am_run (d + 1) 165 [.inl p0] M = (if (p0 : Int) < 40 then am_L d 165 6 [some (.inl p0)] [] M else (if (43 : Int) < p0 then am_L d 165 6 [some (.inl p0)] [] M else some (1, M))) := (am_run_s _ _ _ _).trans (((am_blk am_h165 [6] 400 d 0 _ _ M).trans rfl))
set_option maxRecDepth 100000 in
theorem e165_6 (d : Nat) (x0 : Int) (M : am_M) : am_L d 165 6 [some (.inl x0)] [] M = (if (x0 : Int) = 45 then some (1, M) else (if (x0 : Int) = 47 then some (1, M) else (if (x0 : Int) < 59 then some (0, M) else (if (62 : Int) < x0 then some (0, M) else some (1, M))))) := (am_blk am_h165 [6] 400 d 6 _ _ M).trans rfl
-- 166: LentHands$Reader.wordNumber([CII)I; stops [6, 19]
set_option maxRecDepth 100000 in
theorem e166 (d : Nat) (p1 : Int) (p2 : Int) (M : am_M) : am_run (d + 1) 166 [.inr 91, .inl p1, .inl p2] M = am_L d 166 6 [some (.inr 91), some (.inl p1), some (.inl p2), some (.inl 0), some (.inl 0), some (.inl 0)] [] M := (am_run_s _ _ _ _).trans (((am_blk am_h166 [6, 19] 400 d 0 _ _ M).trans rfl))
set_option maxRecDepth 100000 in
theorem e166_6 (d : Nat) (x1 : Int) (x2 : Int) (x3 : Int) (x4 : Int) (x5 : Int) (M : am_M) : am_L d 166 6 [some (.inr 91), some (.inl x1), some (.inl x2), some (.inl x3), some (.inl x4), some (.inl x5)] [] M = am_bnd (am_run d 256 [.inr 300] M) (fun r1 M1 => (if (r1 : Int) < x5 then some (201, M1) else am_bnd (am_run d 256 [.inr 300] M1) (fun r2 M2 => (if (x5 : Int) = r2 then am_L d 166 19 [some (.inr 91), some (.inl x1), some (.inl x2), some (.inl x3), some (.inl x4), some (.inl x5)] [] M2 else am_bnd (am_run d 257 [.inr 300, .inl x5] M2) (fun r3 M3 => (if (r3 : Int) = 32 then am_L d 166 19 [some (.inr 91), some (.inl x1), some (.inl x2), some (.inl x3), some (.inl x4), some (.inl x5)] [] M3 else am_L d 166 6 [some (.inr 91), some (.inl x1), some (.inl x2), some (.inl x3), some (.inl x4), some (.inl (am_wrap (x5 + 1)))] [] M3)))))) := (am_blk am_h166 [6, 19] 400 d 6 _ _ M).trans rfl
set_option maxRecDepth 100000 in
theorem e166_19 (d : Nat) (x1 : Int) (x2 : Int) (x3 : Int) (x4 : Int) (x5 : Int) (M : am_M) : am_L d 166 19 [some (.inr 91), some (.inl x1), some (.inl x2), some (.inl x3), some (.inl x4), some (.inl x5)] [] M = (if ((am_wrap (x5 - x4)) : Int) = (am_wrap (x2 - x1)) then am_bnd (am_run d 167 [.inr 91, .inl x1, .inl x4, .inl x5] M) (fun r1 M1 => (if (r1 : Int) = 0 then am_L d 166 6 [some (.inr 91), some (.inl x1), some (.inl x2), some (.inl (am_wrap (x3 + 1))), some (.inl (am_wrap (x5 + 1))), some (.inl (am_wrap (x5 + 1)))] [] M1 else some (x3, M1))) else am_L d 166 6 [some (.inr 91), some (.inl x1), some (.inl x2), some (.inl (am_wrap (x3 + 1))), some (.inl (am_wrap (x5 + 1))), some (.inl (am_wrap (x5 + 1)))] [] M) := (am_blk am_h166 [6, 19] 400 d 19 _ _ M).trans rfl
-- 167: LentHands$Reader.isWordAt([CIII)Z; stops [2]
set_option maxRecDepth 100000 in
theorem e167 (d : Nat) (p1 : Int) (p2 : Int) (p3 : Int) (M : am_M) : am_run (d + 1) 167 [.inr 91, .inl p1, .inl p2, .inl p3] M = am_L d 167 2 [some (.inr 91), some (.inl p1), some (.inl p2), some (.inl p3), some (.inl p2)] [] M := (am_run_s _ _ _ _).trans (((am_blk am_h167 [2] 400 d 0 _ _ M).trans rfl))
set_option maxRecDepth 100000 in
theorem e167_2 (d : Nat) (x1 : Int) (x2 : Int) (x3 : Int) (x4 : Int) (M : am_M) : am_L d 167 2 [some (.inr 91), some (.inl x1), some (.inl x2), some (.inl x3), some (.inl x4)] [] M = (if (x4 : Int) < x3 then am_bnd (am_run d 257 [.inr 300, .inl x4] M) (fun r1 M1 => am_chk (0 ≤ ((am_wrap ((am_wrap (x1 + x4)) - x2)) : Int) ∧ (am_wrap ((am_wrap (x1 + x4)) - x2)) < 400) ((if (r1 : Int) = (M1 91 (am_wrap ((am_wrap (x1 + x4)) - x2))) then am_L d 167 2 [some (.inr 91), some (.inl x1), some (.inl x2), some (.inl x3), some (.inl (am_wrap (x4 + 1)))] [] M1 else some (0, M1)))) else some (1, M)) := (am_blk am_h167 [2] 400 d 2 _ _ M).trans rfl
-- 168: LentHands$Reader.seen()I; stops []
set_option maxRecDepth 100000 in
theorem e168 (d : Nat) (M : am_M) : am_run (d + 1) 168 [.inr 92] M = (if ((M 92 4) : Int) < (M 92 3) then am_chk (0 ≤ ((M 92 4) : Int) ∧ (M 92 4) < 401) (some ((M 93 (M 92 4)), M)) else some (202, M)) := (am_run_s _ _ _ _).trans (((am_blk am_h168 [] 400 d 0 _ _ M).trans rfl))
-- 169: LentHands$Reader.refuse(I)Z; stops []
set_option maxRecDepth 100000 in
theorem e169 (d : Nat) (p1 : Int) (M : am_M) : am_run (d + 1) 169 [.inr 92, .inl p1] M = (if (((am_upd M 92 5 p1) 92 4) : Int) < ((am_upd M 92 5 p1) 92 3) then am_chk (0 ≤ (((am_upd M 92 5 p1) 92 4) : Int) ∧ ((am_upd M 92 5 p1) 92 4) < 401) (some (0, (am_upd (am_upd M 92 5 p1) 92 6 ((am_upd M 92 5 p1) 95 ((am_upd M 92 5 p1) 92 4))))) else some (0, (am_upd (am_upd M 92 5 p1) 92 6 (-1)))) := (am_run_s _ _ _ _).trans (((am_blk am_h169 [] 400 d 0 _ _ M).trans rfl))
-- 170: LentHands$Reader.skip(I)Z; stops []
set_option maxRecDepth 100000 in
theorem e170 (d : Nat) (p1 : Int) (M : am_M) : am_run (d + 1) 170 [.inr 92, .inl p1] M = am_bnd (am_run d 168 [.inr 92] M) (fun r1 M1 => (if (r1 : Int) = p1 then some (1, (am_upd M1 92 4 (am_wrap ((M1 92 4) + 1)))) else am_bnd (am_run d 169 [.inr 92, .inl 1] M1) (fun r2 M2 => am_chk ((r2 : Int) = 0 ∨ r2 = 1) (some (r2, M2))))) := (am_run_s _ _ _ _).trans (((am_blk am_h170 [] 400 d 0 _ _ M).trans rfl))
-- 171: LentHands$Reader.readLaw(I)Z; stops [15]
set_option maxRecDepth 100000 in
theorem e171 (d : Nat) (p1 : Int) (M : am_M) : am_run (d + 1) 171 [.inr 92, .inl p1] M = am_chk (0 ≤ (p1 : Int) ∧ p1 < 3) (am_L d 171 15 [some (.inr 92), some (.inl p1), some (.inl 0)] [] (am_upd (am_upd (am_upd M 96 0 0) 96 1 0) 92 7 ((am_upd (am_upd M 96 0 0) 96 1 0) 202 p1))) := (am_run_s _ _ _ _).trans (((am_blk am_h171 [15] 400 d 0 _ _ M).trans rfl))
set_option maxRecDepth 100000 in
theorem e171_15 (d : Nat) (x1 : Int) (x2 : Int) (M : am_M) : am_L d 171 15 [some (.inr 92), some (.inl x1), some (.inl x2)] [] M = (if (400 : Int) < x2 then some (1, M) else am_bnd (am_run d 168 [.inr 92] M) (fun r1 M1 => (if (r1 : Int) = 202 then some (1, M1) else am_bnd (am_run d 172 [.inr 92, .inl x1] M1) (fun r2 M2 => (if (r2 : Int) = 0 then some (0, M2) else am_L d 171 15 [some (.inr 92), some (.inl x1), some (.inl (am_wrap (x2 + 1)))] [] M2))))) := (am_blk am_h171 [15] 400 d 15 _ _ M).trans rfl
-- 172: LentHands$Reader.lawLine(I)Z; stops [56]
set_option maxRecDepth 100000 in
theorem e172 (d : Nat) (p1 : Int) (M : am_M) : am_run (d + 1) 172 [.inr 92, .inl p1] M = am_bnd (am_run d 168 [.inr 92] M) (fun r1 M1 => am_chk (0 ≤ (p1 : Int) ∧ p1 < 3) ((if (r1 : Int) < (M1 200 p1) then am_bnd (am_run d 169 [.inr 92, .inl 1] M1) (fun r2 M2 => am_chk ((r2 : Int) = 0 ∨ r2 = 1) (some (r2, M2))) else am_chk (0 ≤ (p1 : Int) ∧ p1 < 3) ((if ((M1 201 p1) : Int) < r1 then am_bnd (am_run d 169 [.inr 92, .inl 1] M1) (fun r5 M5 => am_chk ((r5 : Int) = 0 ∨ r5 = 1) (some (r5, M5))) else (if ((M1 96 0) : Int) < 16 then am_chk (0 ≤ ((M1 96 0) : Int) ∧ (M1 96 0) < 16) (am_chk (0 ≤ ((M1 96 0) : Int) ∧ (M1 96 0) < 16) ((if (p1 : Int) = 1 then am_bnd (am_run d 175 [.inr 92] (am_upd (am_upd (am_upd M1 92 4 (am_wrap ((M1 92 4) + 1))) 97 (M1 96 0) r1) 98 (M1 96 0) ((am_upd (am_upd M1 92 4 (am_wrap ((M1 92 4) + 1))) 97 (M1 96 0) r1) 96 1))) (fun r3 M3 => (if (r3 : Int) = 0 then some (0, M3) else am_L d 172 56 [some (.inr 92), some (.inl p1), some (.inl r1), some (.inl (M1 96 0))] [] M3)) else am_L d 172 56 [some (.inr 92), some (.inl p1), some (.inl r1), some (.inl (M1 96 0))] [] (am_upd (am_upd (am_upd M1 92 4 (am_wrap ((M1 92 4) + 1))) 97 (M1 96 0) r1) 98 (M1 96 0) ((am_upd (am_upd M1 92 4 (am_wrap ((M1 92 4) + 1))) 97 (M1 96 0) r1) 96 1))))) else am_bnd (am_run d 169 [.inr 92, .inl 3] M1) (fun r4 M4 => am_chk ((r4 : Int) = 0 ∨ r4 = 1) (some (r4, M4))))))))) := (am_run_s _ _ _ _).trans (((am_blk am_h172 [56] 400 d 0 _ _ M).trans rfl))
set_option maxRecDepth 100000 in
theorem e172_56 (d : Nat) (x1 : Int) (x2 : Int) (x3 : Int) (M : am_M) : am_L d 172 56 [some (.inr 92), some (.inl x1), some (.inl x2), some (.inl x3)] [] M = am_chk (0 ≤ (x3 : Int) ∧ x3 < 16) (am_bnd (am_run d 168 [.inr 92] (am_upd M 99 x3 (M 96 1))) (fun r1 M1 => (if (r1 : Int) = 14 then am_bnd (am_run d 173 [.inr 92, .inl 0] (am_upd M1 92 4 (am_wrap ((M1 92 4) + 1)))) (fun r3 M3 => (if (r3 : Int) = 0 then some (0, M3) else am_chk (0 ≤ (x3 : Int) ∧ x3 < 16) (am_bnd (am_run d 170 [.inr 92, .inl 59] (am_upd (am_upd M3 100 x3 (M3 96 1)) 96 0 (am_wrap (((am_upd M3 100 x3 (M3 96 1)) 96 0) + 1)))) (fun r4 M4 => am_chk ((r4 : Int) = 0 ∨ r4 = 1) (some (r4, M4)))))) else am_chk (0 ≤ (x3 : Int) ∧ x3 < 16) (am_bnd (am_run d 170 [.inr 92, .inl 59] (am_upd (am_upd M1 100 x3 (M1 96 1)) 96 0 (am_wrap (((am_upd M1 100 x3 (M1 96 1)) 96 0) + 1)))) (fun r2 M2 => am_chk ((r2 : Int) = 0 ∨ r2 = 1) (some (r2, M2))))))) := (am_blk am_h172 [56] 400 d 56 _ _ M).trans rfl
-- 173: LentHands$Reader.anyOf(I)Z; stops [2, 7, 35]
set_option maxRecDepth 100000 in
theorem e173 (d : Nat) (p1 : Int) (M : am_M) : am_run (d + 1) 173 [.inr 92, .inl p1] M = am_L d 173 2 [some (.inr 92), some (.inl p1), some (.inl 0), none] [] M := (am_run_s _ _ _ _).trans (((am_blk am_h173 [2, 7, 35] 400 d 0 _ _ M).trans rfl))
set_option maxRecDepth 100000 in
theorem e173_2 (d : Nat) (x1 : Int) (x2 : Int) (o3 : Option am_V) (M : am_M) : am_L d 173 2 [some (.inr 92), some (.inl x1), some (.inl x2), o3] [] M = (if (400 : Int) < x2 then some (1, M) else am_L d 173 7 [some (.inr 92), some (.inl x1), some (.inl x2), some (.inl 0)] [] M) := (am_blk am_h173 [2, 7, 35] 400 d 2 _ _ M).trans rfl
set_option maxRecDepth 100000 in
theorem e173_7 (d : Nat) (x1 : Int) (x2 : Int) (x3 : Int) (M : am_M) : am_L d 173 7 [some (.inr 92), some (.inl x1), some (.inl x2), some (.inl x3)] [] M = (if (400 : Int) < x3 then am_L d 173 35 [some (.inr 92), some (.inl x1), some (.inl x2), some (.inl x3)] [] M else am_bnd (am_run d 174 [.inr 92, .inl x1] M) (fun r1 M1 => (if (r1 : Int) = 0 then some (0, M1) else (if (0 : Int) < x3 then am_bnd (am_run d 153 [.inr 96, .inl 20016] M1) (fun _ M3 => am_bnd (am_run d 168 [.inr 92] M3) (fun r4 M4 => (if (r4 : Int) = 16 then am_L d 173 7 [some (.inr 92), some (.inl x1), some (.inl x2), some (.inl (am_wrap (x3 + 1)))] [] (am_upd M4 92 4 (am_wrap ((M4 92 4) + 1))) else am_L d 173 35 [some (.inr 92), some (.inl x1), some (.inl x2), some (.inl x3)] [] M4))) else am_bnd (am_run d 168 [.inr 92] M1) (fun r2 M2 => (if (r2 : Int) = 16 then am_L d 173 7 [some (.inr 92), some (.inl x1), some (.inl x2), some (.inl (am_wrap (x3 + 1)))] [] (am_upd M2 92 4 (am_wrap ((M2 92 4) + 1))) else am_L d 173 35 [some (.inr 92), some (.inl x1), some (.inl x2), some (.inl x3)] [] M2)))))) := (am_blk am_h173 [2, 7, 35] 400 d 7 _ _ M).trans rfl
set_option maxRecDepth 100000 in
theorem e173_35 (d : Nat) (x1 : Int) (x2 : Int) (x3 : Int) (M : am_M) : am_L d 173 35 [some (.inr 92), some (.inl x1), some (.inl x2), some (.inl x3)] [] M = (if (0 : Int) < x2 then am_bnd (am_run d 153 [.inr 96, .inl 20015] M) (fun _ M2 => am_bnd (am_run d 168 [.inr 92] M2) (fun r3 M3 => (if (r3 : Int) = 15 then am_L d 173 2 [some (.inr 92), some (.inl x1), some (.inl (am_wrap (x2 + 1))), some (.inl x3)] [] (am_upd M3 92 4 (am_wrap ((M3 92 4) + 1))) else some (1, M3)))) else am_bnd (am_run d 168 [.inr 92] M) (fun r1 M1 => (if (r1 : Int) = 15 then am_L d 173 2 [some (.inr 92), some (.inl x1), some (.inl (am_wrap (x2 + 1))), some (.inl x3)] [] (am_upd M1 92 4 (am_wrap ((M1 92 4) + 1))) else some (1, M1)))) := (am_blk am_h173 [2, 7, 35] 400 d 35 _ _ M).trans rfl
-- 174: LentHands$Reader.single(I)Z; stops [9, 74]
set_option maxRecDepth 100000 in
theorem e174 (d : Nat) (p1 : Int) (M : am_M) : am_run (d + 1) 174 [.inr 92, .inl p1] M = am_bnd (am_run d 168 [.inr 92] M) (fun r1 M1 => (if (r1 : Int) = 17 then am_L d 174 9 [some (.inr 92), some (.inl p1), some (.inl r1), none] [] M1 else (if (r1 : Int) = 40 then am_L d 174 9 [some (.inr 92), some (.inl p1), some (.inl r1), none] [] M1 else am_bnd (am_run d 175 [.inr 92] M1) (fun r2 M2 => (if (r2 : Int) = 0 then some (0, M2) else am_bnd (am_run d 168 [.inr 92] M2) (fun r3 M3 => (if (r3 : Int) = 60 then am_L d 174 74 [some (.inr 92), some (.inl p1), some (.inl r1), some (.inl r3)] [] M3 else (if (r3 : Int) = 61 then am_L d 174 74 [some (.inr 92), some (.inl p1), some (.inl r1), some (.inl r3)] [] M3 else (if (r3 : Int) = 62 then am_L d 174 74 [some (.inr 92), some (.inl p1), some (.inl r1), some (.inl r3)] [] M3 else am_bnd (am_run d 169 [.inr 92, .inl 1] M3) (fun r4 M4 => am_chk ((r4 : Int) = 0 ∨ r4 = 1) (some (r4, M4)))))))))))) := (am_run_s _ _ _ _).trans (((am_blk am_h174 [9, 74] 400 d 0 _ _ M).trans rfl))
set_option maxRecDepth 100000 in
theorem e174_9 (d : Nat) (x1 : Int) (x2 : Int) (M : am_M) : am_L d 174 9 [some (.inr 92), some (.inl x1), some (.inl x2), none] [] M = (if (x1 : Int) < 8 then (if (x2 : Int) = 40 then am_bnd (am_run d 173 [.inr 92, .inl (am_wrap (x1 + 1))] (am_upd M 92 4 (am_wrap ((M 92 4) + 1)))) (fun r3 M3 => (if (r3 : Int) = 0 then some (0, M3) else am_bnd (am_run d 170 [.inr 92, .inl 41] M3) (fun r4 M4 => (if (r4 : Int) = 0 then some (0, M4) else some (1, M4))))) else am_bnd (am_run d 174 [.inr 92, .inl (am_wrap (x1 + 1))] (am_upd M 92 4 (am_wrap ((M 92 4) + 1)))) (fun r1 M1 => (if (r1 : Int) = 0 then some (0, M1) else am_bnd (am_run d 153 [.inr 96, .inl 20017] M1) (fun _ M2 => some (1, M2))))) else am_bnd (am_run d 169 [.inr 92, .inl 3] M) (fun r5 M5 => am_chk ((r5 : Int) = 0 ∨ r5 = 1) (some (r5, M5)))) := (am_blk am_h174 [9, 74] 400 d 9 _ _ M).trans rfl
set_option maxRecDepth 100000 in
theorem e174_74 (d : Nat) (x1 : Int) (x2 : Int) (x3 : Int) (M : am_M) : am_L d 174 74 [some (.inr 92), some (.inl x1), some (.inl x2), some (.inl x3)] [] M = am_bnd (am_run d 175 [.inr 92] (am_upd M 92 4 (am_wrap ((M 92 4) + 1)))) (fun r1 M1 => (if (r1 : Int) = 0 then some (0, M1) else am_bnd (am_run d 153 [.inr 96, .inl (am_wrap (20000 + x3))] M1) (fun _ M2 => some (1, M2)))) := (am_blk am_h174 [9, 74] 400 d 74 _ _ M).trans rfl
-- 175: LentHands$Reader.sum()Z; stops [4, 15, 26, 63]
set_option maxRecDepth 100000 in
theorem e175 (d : Nat) (M : am_M) : am_run (d + 1) 175 [.inr 92] M = am_L d 175 4 [some (.inr 92), some (.inl (-1)), some (.inl 0), none, none] [] M := (am_run_s _ _ _ _).trans (((am_blk am_h175 [4, 15, 26, 63] 400 d 0 _ _ M).trans rfl))
set_option maxRecDepth 100000 in
theorem e175_4 (d : Nat) (x1 : Int) (x2 : Int) (o3 : Option am_V) (o4 : Option am_V) (M : am_M) : am_L d 175 4 [some (.inr 92), some (.inl x1), some (.inl x2), o3, o4] [] M = (if (400 : Int) < x2 then some (1, M) else am_bnd (am_run d 176 [.inr 92, .inl 0] M) (fun r1 M1 => (if (r1 : Int) = 0 then some (0, M1) else am_L d 175 15 [some (.inr 92), some (.inl x1), some (.inl x2), some (.inl 0), o4] [] M1))) := (am_blk am_h175 [4, 15, 26, 63] 400 d 4 _ _ M).trans rfl
set_option maxRecDepth 100000 in
theorem e175_15 (d : Nat) (x1 : Int) (x2 : Int) (x3 : Int) (o4 : Option am_V) (M : am_M) : am_L d 175 15 [some (.inr 92), some (.inl x1), some (.inl x2), some (.inl x3), o4] [] M = (if (400 : Int) < x3 then (if (x1 : Int) = (-1) then am_L d 175 63 [some (.inr 92), some (.inl x1), some (.inl x2), some (.inl x3), o4] [] M else am_bnd (am_run d 153 [.inr 96, .inl (am_wrap (20000 + x1))] M) (fun _ M1 => am_L d 175 63 [some (.inr 92), some (.inl x1), some (.inl x2), some (.inl x3), o4] [] M1)) else am_bnd (am_run d 168 [.inr 92] M) (fun r2 M2 => (if (r2 : Int) = 42 then am_L d 175 26 [some (.inr 92), some (.inl x1), some (.inl x2), some (.inl x3), o4] [] M2 else am_bnd (am_run d 168 [.inr 92] M2) (fun r3 M3 => (if (r3 : Int) = 47 then am_L d 175 26 [some (.inr 92), some (.inl x1), some (.inl x2), some (.inl x3), o4] [] M3 else (if (x1 : Int) = (-1) then am_L d 175 63 [some (.inr 92), some (.inl x1), some (.inl x2), some (.inl x3), o4] [] M3 else am_bnd (am_run d 153 [.inr 96, .inl (am_wrap (20000 + x1))] M3) (fun _ M4 => am_L d 175 63 [some (.inr 92), some (.inl x1), some (.inl x2), some (.inl x3), o4] [] M4))))))) := (am_blk am_h175 [4, 15, 26, 63] 400 d 15 _ _ M).trans rfl
set_option maxRecDepth 100000 in
theorem e175_26 (d : Nat) (x1 : Int) (x2 : Int) (x3 : Int) (o4 : Option am_V) (M : am_M) : am_L d 175 26 [some (.inr 92), some (.inl x1), some (.inl x2), some (.inl x3), o4] [] M = am_bnd (am_run d 168 [.inr 92] M) (fun r1 M1 => (if (r1 : Int) = 47 then am_bnd (am_run d 176 [.inr 92, .inl 1] (am_upd M1 92 4 (am_wrap ((M1 92 4) + 1)))) (fun r4 M4 => (if (r4 : Int) = 0 then some (0, M4) else am_bnd (am_run d 153 [.inr 96, .inl (am_wrap (20000 + r1))] M4) (fun _ M5 => am_L d 175 15 [some (.inr 92), some (.inl x1), some (.inl x2), some (.inl (am_wrap (x3 + 1))), some (.inl r1)] [] M5))) else am_bnd (am_run d 176 [.inr 92, .inl 0] (am_upd M1 92 4 (am_wrap ((M1 92 4) + 1)))) (fun r2 M2 => (if (r2 : Int) = 0 then some (0, M2) else am_bnd (am_run d 153 [.inr 96, .inl (am_wrap (20000 + r1))] M2) (fun _ M3 => am_L d 175 15 [some (.inr 92), some (.inl x1), some (.inl x2), some (.inl (am_wrap (x3 + 1))), some (.inl r1)] [] M3))))) := (am_blk am_h175 [4, 15, 26, 63] 400 d 26 _ _ M).trans rfl
set_option maxRecDepth 100000 in
theorem e175_63 (d : Nat) (x1 : Int) (x2 : Int) (x3 : Int) (o4 : Option am_V) (M : am_M) : am_L d 175 63 [some (.inr 92), some (.inl x1), some (.inl x2), some (.inl x3), o4] [] M = am_bnd (am_run d 168 [.inr 92] M) (fun r1 M1 => (if (r1 : Int) = 43 then am_L d 175 4 [some (.inr 92), some (.inl r1), some (.inl (am_wrap (x2 + 1))), some (.inl x3), o4] [] (am_upd M1 92 4 (am_wrap ((M1 92 4) + 1))) else (if (r1 : Int) = 45 then am_L d 175 4 [some (.inr 92), some (.inl r1), some (.inl (am_wrap (x2 + 1))), some (.inl x3), o4] [] (am_upd M1 92 4 (am_wrap ((M1 92 4) + 1))) else some (1, M1)))) := (am_blk am_h175 [4, 15, 26, 63] 400 d 63 _ _ M).trans rfl
-- 176: LentHands$Reader.unit(Z)Z; stops []
set_option maxRecDepth 100000 in
theorem e176 (d : Nat) (p1 : Int) (M : am_M) : am_run (d + 1) 176 [.inr 92, .inl p1] M = am_bnd (am_run d 168 [.inr 92] M) (fun r1 M1 => (if (r1 : Int) = 200 then (if (p1 : Int) = 0 then am_chk (0 ≤ ((M1 92 4) : Int) ∧ (M1 92 4) < 401) (am_bnd (am_run d 153 [.inr 96, .inl (M1 94 (M1 92 4))] M1) (fun _ M6 => some (1, (am_upd M6 92 4 (am_wrap ((M6 92 4) + 1)))))) else am_chk (0 ≤ ((M1 92 4) : Int) ∧ (M1 92 4) < 401) ((if ((M1 94 (M1 92 4)) : Int) = 0 then am_bnd (am_run d 169 [.inr 92, .inl 2] M1) (fun r8 M8 => am_chk ((r8 : Int) = 0 ∨ r8 = 1) (some (r8, M8))) else am_chk (0 ≤ ((M1 92 4) : Int) ∧ (M1 92 4) < 401) (am_bnd (am_run d 153 [.inr 96, .inl (M1 94 (M1 92 4))] M1) (fun _ M7 => some (1, (am_upd M7 92 4 (am_wrap ((M7 92 4) + 1))))))))) else (if (p1 : Int) = 0 then (if (r1 : Int) < 14 then (if ((am_iand (am_ishr (M1 92 7) r1) 1) : Int) = 1 then am_bnd (am_run d 153 [.inr 96, .inl (am_wrap (10000 + r1))] M1) (fun _ M5 => some (1, (am_upd M5 92 4 (am_wrap ((M5 92 4) + 1))))) else am_bnd (am_run d 169 [.inr 92, .inl 1] M1) (fun r4 M4 => am_chk ((r4 : Int) = 0 ∨ r4 = 1) (some (r4, M4)))) else am_bnd (am_run d 169 [.inr 92, .inl 1] M1) (fun r3 M3 => am_chk ((r3 : Int) = 0 ∨ r3 = 1) (some (r3, M3)))) else am_bnd (am_run d 169 [.inr 92, .inl 1] M1) (fun r2 M2 => am_chk ((r2 : Int) = 0 ∨ r2 = 1) (some (r2, M2)))))) := (am_run_s _ _ _ _).trans (((am_blk am_h176 [] 400 d 0 _ _ M).trans rfl))
-- 177: LentHands$Reader.readTable(ZI)Z; stops [6, 33]
set_option maxRecDepth 100000 in
theorem e177 (d : Nat) (p1 : Int) (p2 : Int) (M : am_M) : am_run (d + 1) 177 [.inr 92, .inl p1, .inl p2] M = am_L d 177 6 [some (.inr 92), some (.inl p1), some (.inl p2), some (.inl 0), none, none] [] (am_upd M 102 0 0) := (am_run_s _ _ _ _).trans (((am_blk am_h177 [6, 33] 400 d 0 _ _ M).trans rfl))
set_option maxRecDepth 100000 in
theorem e177_6 (d : Nat) (x1 : Int) (x2 : Int) (x3 : Int) (o4 : Option am_V) (o5 : Option am_V) (M : am_M) : am_L d 177 6 [some (.inr 92), some (.inl x1), some (.inl x2), some (.inl x3), o4, o5] [] M = (if (400 : Int) < x3 then some (1, M) else am_bnd (am_run d 168 [.inr 92] M) (fun r1 M1 => (if (r1 : Int) = 202 then some (1, M1) else am_bnd (am_run d 168 [.inr 92] M1) (fun r2 M2 => (if (x1 : Int) = 0 then (if (r2 : Int) = 32 then (if (x1 : Int) = 0 then am_L d 177 33 [some (.inr 92), some (.inl x1), some (.inl x2), some (.inl x3), o4, o5] [.inl 8, .inl (M2 102 0)] M2 else am_L d 177 33 [some (.inr 92), some (.inl x1), some (.inl x2), some (.inl x3), o4, o5] [.inl 16, .inl (M2 102 0)] M2) else am_bnd (am_run d 169 [.inr 92, .inl 1] M2) (fun r3 M3 => am_chk ((r3 : Int) = 0 ∨ r3 = 1) (some (r3, M3)))) else (if (r2 : Int) = 28 then (if (x1 : Int) = 0 then am_L d 177 33 [some (.inr 92), some (.inl x1), some (.inl x2), some (.inl x3), o4, o5] [.inl 8, .inl (M2 102 0)] M2 else am_L d 177 33 [some (.inr 92), some (.inl x1), some (.inl x2), some (.inl x3), o4, o5] [.inl 16, .inl (M2 102 0)] M2) else am_bnd (am_run d 169 [.inr 92, .inl 1] M2) (fun r4 M4 => am_chk ((r4 : Int) = 0 ∨ r4 = 1) (some (r4, M4))))))))) := (am_blk am_h177 [6, 33] 400 d 6 _ _ M).trans rfl
set_option maxRecDepth 100000 in
theorem e177_33 (d : Nat) (x1 : Int) (x2 : Int) (x3 : Int) (o4 : Option am_V) (o5 : Option am_V) (xs0 : Int) (xs1 : Int) (M : am_M) : am_L d 177 33 [some (.inr 92), some (.inl x1), some (.inl x2), some (.inl x3), o4, o5] [.inl xs1, .inl xs0] M = (if (xs0 : Int) < xs1 then (if (x1 : Int) = 0 then am_bnd (am_run d 179 [.inr 92, .inl (am_wrap (((am_upd M 92 4 (am_wrap ((M 92 4) + 1))) 102 0) * 5))] (am_upd M 92 4 (am_wrap ((M 92 4) + 1)))) (fun r1 M1 => (if (r1 : Int) = 0 then some (0, M1) else am_bnd (am_run d 170 [.inr 92, .inl 59] M1) (fun r2 M2 => (if (r2 : Int) = 0 then some (0, M2) else am_L d 177 6 [some (.inr 92), some (.inl x1), some (.inl x2), some (.inl (am_wrap (x3 + 1))), some (.inl (am_wrap (((am_upd M 92 4 (am_wrap ((M 92 4) + 1))) 102 0) * 5))), some (.inl r1)] [] (am_upd M2 102 0 (am_wrap ((M2 102 0) + 1))))))) else am_bnd (am_run d 178 [.inr 92, .inl (am_wrap (((am_upd M 92 4 (am_wrap ((M 92 4) + 1))) 102 0) * 5)), .inl x2] (am_upd M 92 4 (am_wrap ((M 92 4) + 1)))) (fun r3 M3 => (if (r3 : Int) = 0 then some (0, M3) else am_bnd (am_run d 170 [.inr 92, .inl 59] M3) (fun r4 M4 => (if (r4 : Int) = 0 then some (0, M4) else am_L d 177 6 [some (.inr 92), some (.inl x1), some (.inl x2), some (.inl (am_wrap (x3 + 1))), some (.inl (am_wrap (((am_upd M 92 4 (am_wrap ((M 92 4) + 1))) 102 0) * 5))), some (.inl r3)] [] (am_upd M4 102 0 (am_wrap ((M4 102 0) + 1)))))))) else am_bnd (am_run d 169 [.inr 92, .inl 3] M) (fun r5 M5 => am_chk ((r5 : Int) = 0 ∨ r5 = 1) (some (r5, M5)))) := (am_blk am_h177 [6, 33] 400 d 33 _ _ M).trans rfl
-- 178: LentHands$Reader.bookingRow(II)Z; stops [61]
set_option maxRecDepth 100000 in
theorem e178 (d : Nat) (p1 : Int) (p2 : Int) (M : am_M) : am_run (d + 1) 178 [.inr 92, .inl p1, .inl p2] M = am_chk (0 ≤ ((am_wrap (p1 + 4)) : Int) ∧ (am_wrap (p1 + 4)) < 80) (am_bnd (am_run d 180 [.inr 92, .inl (am_wrap (p1 + 0)), .inl 0, .inl (am_wrap ((am_wrap (2 * p2)) - 1))] (am_upd M 103 (am_wrap (p1 + 4)) 0)) (fun r1 M1 => (if (r1 : Int) = 0 then am_L d 178 61 [some (.inr 92), some (.inl p1), some (.inl p2), none] [.inl 0] M1 else am_bnd (am_run d 170 [.inr 92, .inl 29] M1) (fun r2 M2 => (if (r2 : Int) = 0 then am_L d 178 61 [some (.inr 92), some (.inl p1), some (.inl p2), none] [.inl 0] M2 else am_bnd (am_run d 180 [.inr 92, .inl (am_wrap (p1 + 1)), .inl 0, .inl (am_wrap (p2 - 1))] M2) (fun r3 M3 => (if (r3 : Int) = 0 then am_L d 178 61 [some (.inr 92), some (.inl p1), some (.inl p2), none] [.inl 0] M3 else am_bnd (am_run d 170 [.inr 92, .inl 30] M3) (fun r4 M4 => (if (r4 : Int) = 0 then am_L d 178 61 [some (.inr 92), some (.inl p1), some (.inl p2), none] [.inl 0] M4 else am_bnd (am_run d 180 [.inr 92, .inl (am_wrap (p1 + 2)), .inl 0, .inl 9999] M4) (fun r5 M5 => (if (r5 : Int) = 0 then am_L d 178 61 [some (.inr 92), some (.inl p1), some (.inl p2), none] [.inl 0] M5 else am_bnd (am_run d 170 [.inr 92, .inl 31] M5) (fun r6 M6 => (if (r6 : Int) = 0 then am_L d 178 61 [some (.inr 92), some (.inl p1), some (.inl p2), none] [.inl 0] M6 else am_bnd (am_run d 180 [.inr 92, .inl (am_wrap (p1 + 3)), .inl 1, .inl 99] M6) (fun r7 M7 => (if (r7 : Int) = 0 then am_L d 178 61 [some (.inr 92), some (.inl p1), some (.inl p2), none] [.inl 0] M7 else am_L d 178 61 [some (.inr 92), some (.inl p1), some (.inl p2), none] [.inl 1] M7))))))))))))))) := (am_run_s _ _ _ _).trans (((am_blk am_h178 [61] 400 d 0 _ _ M).trans rfl))
set_option maxRecDepth 100000 in
theorem e178_61 (d : Nat) (x1 : Int) (x2 : Int) (xs0 : Int) (M : am_M) : am_L d 178 61 [some (.inr 92), some (.inl x1), some (.inl x2), none] [.inl xs0] M = (if (xs0 : Int) = 0 then am_chk ((xs0 : Int) = 0 ∨ xs0 = 1) (some (xs0, M)) else am_bnd (am_run d 168 [.inr 92] M) (fun r1 M1 => (if (r1 : Int) = 5 then am_bnd (am_run d 180 [.inr 92, .inl (am_wrap (x1 + 4)), .inl 0, .inl 99] (am_upd M1 92 4 (am_wrap ((M1 92 4) + 1)))) (fun r2 M2 => am_chk ((r2 : Int) = 0 ∨ r2 = 1) (some (r2, M2))) else am_chk ((xs0 : Int) = 0 ∨ xs0 = 1) (some (xs0, M1))))) := (am_blk am_h178 [61] 400 d 61 _ _ M).trans rfl
-- 179: LentHands$Reader.workRow(I)Z; stops [34, 47]
set_option maxRecDepth 100000 in
theorem e179 (d : Nat) (p1 : Int) (M : am_M) : am_run (d + 1) 179 [.inr 92, .inl p1] M = am_bnd (am_run d 180 [.inr 92, .inl (am_wrap (p1 + 0)), .inl 0, .inl 3] M) (fun r1 M1 => (if (r1 : Int) = 0 then am_L d 179 34 [some (.inr 92), some (.inl p1), none, none] [] M1 else am_bnd (am_run d 170 [.inr 92, .inl 33] M1) (fun r2 M2 => (if (r2 : Int) = 0 then am_L d 179 34 [some (.inr 92), some (.inl p1), none, none] [] M2 else am_bnd (am_run d 180 [.inr 92, .inl (am_wrap (p1 + 1)), .inl 0, .inl 99] M2) (fun r3 M3 => (if (r3 : Int) = 0 then am_L d 179 34 [some (.inr 92), some (.inl p1), none, none] [] M3 else am_bnd (am_run d 170 [.inr 92, .inl 34] M3) (fun r4 M4 => (if (r4 : Int) = 0 then am_L d 179 34 [some (.inr 92), some (.inl p1), none, none] [] M4 else am_bnd (am_run d 180 [.inr 92, .inl (am_wrap (p1 + 2)), .inl 0, .inl 99] M4) (fun r5 M5 => (if (r5 : Int) = 0 then am_L d 179 34 [some (.inr 92), some (.inl p1), none, none] [] M5 else (if (1 : Int) = 0 then some (0, M5) else am_bnd (am_run d 168 [.inr 92] M5) (fun r6 M6 => (if (r6 : Int) = 26 then am_L d 179 47 [some (.inr 92), some (.inl p1), some (.inl 1), none] [.inl 1] M6 else am_L d 179 47 [some (.inr 92), some (.inl p1), some (.inl 1), none] [.inl 0] M6))))))))))))) := (am_run_s _ _ _ _).trans (((am_blk am_h179 [34, 47] 400 d 0 _ _ M).trans rfl))
set_option maxRecDepth 100000 in
theorem e179_34 (d : Nat) (x1 : Int) (M : am_M) : am_L d 179 34 [some (.inr 92), some (.inl x1), none, none] [] M = (if (0 : Int) = 0 then some (0, M) else am_bnd (am_run d 168 [.inr 92] M) (fun r1 M1 => (if (r1 : Int) = 26 then am_L d 179 47 [some (.inr 92), some (.inl x1), some (.inl 0), none] [.inl 1] M1 else am_L d 179 47 [some (.inr 92), some (.inl x1), some (.inl 0), none] [.inl 0] M1))) := (am_blk am_h179 [34, 47] 400 d 34 _ _ M).trans rfl
set_option maxRecDepth 100000 in
theorem e179_47 (d : Nat) (x1 : Int) (x2 : Int) (xs0 : Int) (M : am_M) : am_L d 179 47 [some (.inr 92), some (.inl x1), some (.inl x2), none] [.inl xs0] M = (if (xs0 : Int) = 0 then am_chk (0 ≤ ((am_wrap (x1 + 3)) : Int) ∧ (am_wrap (x1 + 3)) < 80) ((if (xs0 : Int) = 0 then some (1, (am_upd M 103 (am_wrap (x1 + 3)) 0)) else some (1, (am_upd (am_upd M 103 (am_wrap (x1 + 3)) 0) 92 4 (am_wrap (((am_upd M 103 (am_wrap (x1 + 3)) 0) 92 4) + 1)))))) else am_chk (0 ≤ ((am_wrap (x1 + 3)) : Int) ∧ (am_wrap (x1 + 3)) < 80) ((if (xs0 : Int) = 0 then some (1, (am_upd M 103 (am_wrap (x1 + 3)) 1)) else some (1, (am_upd (am_upd M 103 (am_wrap (x1 + 3)) 1) 92 4 (am_wrap (((am_upd M 103 (am_wrap (x1 + 3)) 1) 92 4) + 1))))))) := (am_blk am_h179 [34, 47] 400 d 47 _ _ M).trans rfl
-- 180: LentHands$Reader.cell(III)Z; stops []
set_option maxRecDepth 100000 in
theorem e180 (d : Nat) (p1 : Int) (p2 : Int) (p3 : Int) (M : am_M) : am_run (d + 1) 180 [.inr 92, .inl p1, .inl p2, .inl p3] M = am_bnd (am_run d 168 [.inr 92] M) (fun r1 M1 => (if (r1 : Int) = 200 then am_chk (0 ≤ ((M1 92 4) : Int) ∧ (M1 92 4) < 401) ((if ((M1 94 (M1 92 4)) : Int) < p2 then am_bnd (am_run d 169 [.inr 92, .inl 2] M1) (fun r2 M2 => am_chk ((r2 : Int) = 0 ∨ r2 = 1) (some (r2, M2))) else am_chk (0 ≤ ((M1 92 4) : Int) ∧ (M1 92 4) < 401) ((if (p3 : Int) < (M1 94 (M1 92 4)) then am_bnd (am_run d 169 [.inr 92, .inl 2] M1) (fun r3 M3 => am_chk ((r3 : Int) = 0 ∨ r3 = 1) (some (r3, M3))) else am_chk (0 ≤ ((M1 92 4) : Int) ∧ (M1 92 4) < 401) (am_chk (0 ≤ (p1 : Int) ∧ p1 < 80) (some (1, (am_upd (am_upd M1 103 p1 (M1 94 (M1 92 4))) 92 4 (am_wrap (((am_upd M1 103 p1 (M1 94 (M1 92 4))) 92 4) + 1)))))))))) else am_bnd (am_run d 169 [.inr 92, .inl 1] M1) (fun r4 M4 => am_chk ((r4 : Int) = 0 ∨ r4 = 1) (some (r4, M4))))) := (am_run_s _ _ _ _).trans (((am_blk am_h180 [] 400 d 0 _ _ M).trans rfl))
-- 181: LentHands.state(I)I; stops []
set_option maxRecDepth 100000 in
theorem e181 (d : Nat) (p1 : Int) (M : am_M) : am_run (d + 1) 181 [.inr 0, .inl p1] M = am_bnd (am_run d 197 [.inr 0] (am_upd M 1 0 p1)) (fun _ M1 => some ((M 1 0), M1)) := (am_run_s _ _ _ _).trans (((am_blk am_h181 [] 400 d 0 _ _ M).trans rfl))
-- 182: LentHands.person(II)I; stops []
set_option maxRecDepth 100000 in
theorem e182 (d : Nat) (p1 : Int) (p2 : Int) (M : am_M) : am_run (d + 1) 182 [.inr 0, .inl p1, .inl p2] M = am_bnd (am_run d 253 [.inl p1, .inl 0, .inl 9999] M) (fun r1 M1 => (if (r1 : Int) = 0 then some ((-1), M1) else am_bnd (am_run d 253 [.inl p2, .inl 0, .inl 1] M1) (fun r2 M2 => (if (r2 : Int) = 0 then some ((-1), M2) else (if ((M2 1 2) : Int) < 8 then am_bnd (am_run d 197 [.inr 0] M2) (fun _ M3 => am_bnd (am_run d 136 [.inr 1, .inl p1, .inl p2] M3) (fun r4 M4 => some (r4, M4))) else some ((-1), M2)))))) := (am_run_s _ _ _ _).trans (((am_blk am_h182 [] 400 d 0 _ _ M).trans rfl))
-- 183: LentHands.set(III)Z; stops [17]
set_option maxRecDepth 100000 in
theorem e183 (d : Nat) (p1 : Int) (p2 : Int) (p3 : Int) (M : am_M) : am_run (d + 1) 183 [.inr 0, .inl p1, .inl p2, .inl p3] M = (if (p1 : Int) = 0 then am_bnd (am_run d 134 [.inr 1, .inl p2] M) (fun r1 M1 => (if (r1 : Int) = 0 then (if (0 : Int) = 0 then some (0, M1) else am_bnd (am_run d 197 [.inr 0] M1) (fun _ M2 => some (0, M2))) else (if (p1 : Int) = 0 then am_L d 183 17 [some (.inr 0), some (.inl p1), some (.inl p2), some (.inl p3), none] [.inl 1, .inr 1] M1 else am_L d 183 17 [some (.inr 0), some (.inl p1), some (.inl p2), some (.inl p3), none] [.inl 0, .inr 1] M1))) else (if (p1 : Int) = 1 then am_bnd (am_run d 134 [.inr 1, .inl p2] M) (fun r8 M8 => (if (r8 : Int) = 0 then (if (0 : Int) = 0 then some (0, M8) else am_bnd (am_run d 197 [.inr 0] M8) (fun _ M9 => some (0, M9))) else (if (p1 : Int) = 0 then am_L d 183 17 [some (.inr 0), some (.inl p1), some (.inl p2), some (.inl p3), none] [.inl 1, .inr 1] M8 else am_L d 183 17 [some (.inr 0), some (.inl p1), some (.inl p2), some (.inl p3), none] [.inl 0, .inr 1] M8))) else am_bnd (am_run d 135 [.inr 1, .inl p2] M) (fun r3 M3 => (if (r3 : Int) = 0 then (if (0 : Int) = 0 then some (0, M3) else am_bnd (am_run d 197 [.inr 0] M3) (fun _ M4 => some (0, M4))) else am_bnd (am_run d 138 [.inr 1, .inl (am_wrap (p1 - 2)), .inl p2, .inl p3] M3) (fun r5 M5 => (if (r5 : Int) = 0 then (if (0 : Int) = 0 then some (0, M5) else am_bnd (am_run d 197 [.inr 0] M5) (fun _ M6 => some (0, M6))) else (if (1 : Int) = 0 then some (1, M5) else am_bnd (am_run d 197 [.inr 0] M5) (fun _ M7 => some (1, M7))))))))) := (am_run_s _ _ _ _).trans (((am_blk am_h183 [17] 400 d 0 _ _ M).trans rfl))
set_option maxRecDepth 100000 in
theorem e183_17 (d : Nat) (x1 : Int) (x2 : Int) (x3 : Int) (xs1 : Int) (M : am_M) : am_L d 183 17 [some (.inr 0), some (.inl x1), some (.inl x2), some (.inl x3), none] [.inl xs1, .inr 1] M = am_bnd (am_run d 137 [.inr 1, .inl xs1, .inl x2, .inl x3] M) (fun r1 M1 => (if (r1 : Int) = 0 then (if (0 : Int) = 0 then some (0, M1) else am_bnd (am_run d 197 [.inr 0] M1) (fun _ M2 => some (0, M2))) else (if (1 : Int) = 0 then some (1, M1) else am_bnd (am_run d 197 [.inr 0] M1) (fun _ M3 => some (1, M3))))) := (am_blk am_h183 [17] 400 d 17 _ _ M).trans rfl
-- 184: LentHands.feed(IIIII)I; stops []
set_option maxRecDepth 100000 in
theorem e184 (d : Nat) (p1 : Int) (p2 : Int) (p3 : Int) (p4 : Int) (p5 : Int) (M : am_M) : am_run (d + 1) 184 [.inr 0, .inl p1, .inl p2, .inl p3, .inl p4, .inl p5] M = (if (400 : Int) < (am_wrap ((M 0 12) + 20)) then some ((-1), M) else am_bnd (am_run d 185 [.inr 0, .inl p1] M) (fun _ M1 => am_bnd (am_run d 185 [.inr 0, .inl p2] M1) (fun _ M2 => am_bnd (am_run d 185 [.inr 0, .inl p3] M2) (fun _ M3 => am_bnd (am_run d 185 [.inr 0, .inl p4] M3) (fun _ M4 => am_bnd (am_run d 185 [.inr 0, .inl p5] M4) (fun _ M5 => some ((M5 0 12), M5))))))) := (am_run_s _ _ _ _).trans (((am_blk am_h184 [] 400 d 0 _ _ M).trans rfl))
-- 185: LentHands.feedNumber(I)V; stops [2]
set_option maxRecDepth 100000 in
theorem e185 (d : Nat) (p1 : Int) (M : am_M) : am_run (d + 1) 185 [.inr 0, .inl p1] M = am_L d 185 2 [some (.inr 0), some (.inl p1), some (.inl 24)] [] M := (am_run_s _ _ _ _).trans (((am_blk am_h185 [2] 400 d 0 _ _ M).trans rfl))
set_option maxRecDepth 100000 in
theorem e185_2 (d : Nat) (x1 : Int) (x2 : Int) (M : am_M) : am_L d 185 2 [some (.inr 0), some (.inl x1), some (.inl x2)] [] M = (if (x2 : Int) < 0 then some (0, M) else (if ((M 0 12) : Int) < 400 then am_chk (0 ≤ ((M 0 12) : Int) ∧ (M 0 12) < 400) (am_L d 185 2 [some (.inr 0), some (.inl x1), some (.inl (am_wrap (x2 + (-8))))] [] (am_upd (am_upd M 91 (M 0 12) (am_chr (am_chr (am_iand (am_iushr x1 x2) 255)))) 0 12 (am_wrap (((am_upd M 91 (M 0 12) (am_chr (am_chr (am_iand (am_iushr x1 x2) 255)))) 0 12) + 1)))) else am_L d 185 2 [some (.inr 0), some (.inl x1), some (.inl (am_wrap (x2 + (-8))))] [] M)) := (am_blk am_h185 [2] 400 d 2 _ _ M).trans rfl
-- 186: LentHands.end(I)Z; stops []
set_option maxRecDepth 100000 in
theorem e186 (d : Nat) (p1 : Int) (M : am_M) : am_run (d + 1) 186 [.inr 0, .inl p1] M = am_bnd (am_run d 253 [.inl p1, .inl 0, .inl (M 0 12)] M) (fun r1 M1 => (if (r1 : Int) = 0 then some (0, M1) else some (1, (am_upd M1 0 12 p1)))) := (am_run_s _ _ _ _).trans (((am_blk am_h186 [] 400 d 0 _ _ M).trans rfl))
-- 187: LentHands.text(I)I; stops [47]
set_option maxRecDepth 100000 in
theorem e187 (d : Nat) (p1 : Int) (M : am_M) : am_run (d + 1) 187 [.inr 0, .inl p1] M = am_bnd (am_run d 160 [.inr 92, .inr 91, .inl (M 0 12)] M) (fun _ M1 => am_bnd (am_run d 253 [.inl p1, .inl 0, .inl 4] (am_upd M1 0 12 0)) (fun r2 M2 => (if (r2 : Int) = 0 then some ((-1), M2) else (if (p1 : Int) < 3 then am_bnd (am_run d 171 [.inr 92, .inl p1] M2) (fun r3 M3 => (if (r3 : Int) = 0 then some ((-1), M3) else am_chk (0 ≤ (p1 : Int) ∧ p1 < 3) (am_bnd (am_run d 152 [.inr (am_rf 29 p1), .inr 96] M3) (fun _ M4 => some ((M4 96 0), M4))))) else (if (p1 : Int) = 3 then am_L d 187 47 [some (.inr 0), some (.inl p1), none] [.inl 1] M2 else am_L d 187 47 [some (.inr 0), some (.inl p1), none] [.inl 0] M2))))) := (am_run_s _ _ _ _).trans (((am_blk am_h187 [47] 400 d 0 _ _ M).trans rfl))
set_option maxRecDepth 100000 in
theorem e187_47 (d : Nat) (x1 : Int) (xs0 : Int) (M : am_M) : am_L d 187 47 [some (.inr 0), some (.inl x1), none] [.inl xs0] M = am_bnd (am_run d 177 [.inr 92, .inl xs0, .inl (M 1 2)] M) (fun r1 M1 => (if (r1 : Int) = 0 then some ((-1), M1) else (if (xs0 : Int) = 0 then am_bnd (am_run d 158 [.inr 32, .inr 102] M1) (fun _ M2 => some ((M2 102 0), M2)) else am_bnd (am_run d 158 [.inr 30, .inr 102] M1) (fun _ M3 => am_bnd (am_run d 197 [.inr 0] M3) (fun _ M4 => some ((M4 102 0), M4)))))) := (am_blk am_h187 [47] 400 d 47 _ _ M).trans rfl
-- 188: LentHands.fault(I)I; stops []
set_option maxRecDepth 100000 in
theorem e188 (d : Nat) (p1 : Int) (M : am_M) : am_run (d + 1) 188 [.inr 0, .inl p1] M = (if (p1 : Int) = 0 then some ((M 92 5), M) else (if (p1 : Int) = 1 then some ((M 92 6), M) else some ((-1), M))) := (am_run_s _ _ _ _).trans (((am_blk am_h188 [] 400 d 0 _ _ M).trans rfl))
-- 189: LentHands.lend(IIII)I; stops []
set_option maxRecDepth 100000 in
theorem e189 (d : Nat) (p1 : Int) (p2 : Int) (p3 : Int) (p4 : Int) (M : am_M) : am_run (d + 1) 189 [.inr 0, .inl p1, .inl p2, .inl p3, .inl p4] M = am_bnd (am_run d 218 [.inr 0, .inr 1, .inl p1, .inl p2, .inl p3, .inl p4] M) (fun r1 M1 => (if (r1 : Int) = 0 then some ((-1), M1) else am_bnd (am_run d 196 [.inr 0] M1) (fun _ M2 => am_bnd (am_run d 147 [.inr 1, .inl p1, .inl p2, .inl p3, .inl p4] M2) (fun r3 M3 => some (r3, M3))))) := (am_run_s _ _ _ _).trans (((am_blk am_h189 [] 400 d 0 _ _ M).trans rfl))
end
section
-- 190: LentHands.leave(II)Z; stops []
set_option maxRecDepth 100000 in
theorem e190 (d : Nat) (p1 : Int) (p2 : Int) (M : am_M) : am_run (d + 1) 190 [.inr 0, .inl p1, .inl p2] M = am_bnd (am_run d 252 [.inr 0, .inl p1, .inl p2] M) (fun r1 M1 => (if (r1 : Int) = (-1) then some (0, M1) else (if (r1 : Int) = (am_wrap ((am_wrap (2 * p1)) + p2)) then am_bnd (am_run d 196 [.inr 0] M1) (fun _ M2 => am_bnd (am_run d 145 [.inr 1, .inl r1] M2) (fun _ M3 => some (1, M3))) else some (0, M1)))) := (am_run_s _ _ _ _).trans (((am_blk am_h190 [] 400 d 0 _ _ M).trans rfl))
-- 191: LentHands.fetch(II)Z; stops []
set_option maxRecDepth 100000 in
theorem e191 (d : Nat) (p1 : Int) (p2 : Int) (M : am_M) : am_run (d + 1) 191 [.inr 0, .inl p1, .inl p2] M = am_bnd (am_run d 134 [.inr 1, .inl p1] M) (fun r1 M1 => (if (r1 : Int) = 0 then some (0, M1) else am_bnd (am_run d 253 [.inl p2, .inl 0, .inl 1] M1) (fun r2 M2 => (if (r2 : Int) = 0 then some (0, M2) else am_chk (0 ≤ ((am_wrap ((am_wrap (2 * p1)) + p2)) : Int) ∧ (am_wrap ((am_wrap (2 * p1)) + p2)) < 16) ((if ((M2 6 (am_wrap ((am_wrap (2 * p1)) + p2))) : Int) = (-1) then am_chk (0 ≤ ((am_wrap ((am_wrap (2 * p1)) + p2)) : Int) ∧ (am_wrap ((am_wrap (2 * p1)) + p2)) < 16) ((if ((M2 7 (am_wrap ((am_wrap (2 * p1)) + p2))) : Int) = (-1) then am_bnd (am_run d 196 [.inr 0] M2) (fun _ M3 => am_bnd (am_run d 146 [.inr 1, .inl (am_wrap ((am_wrap (2 * p1)) + p2)), .inl p1] M3) (fun _ M4 => some (1, M4))) else some (0, M2))) else some (0, M2))))))) := (am_run_s _ _ _ _).trans (((am_blk am_h191 [] 400 d 0 _ _ M).trans rfl))
-- 192: LentHands.task(II)Z; stops []
set_option maxRecDepth 100000 in
theorem e192 (d : Nat) (p1 : Int) (p2 : Int) (M : am_M) : am_run (d + 1) 192 [.inr 0, .inl p1, .inl p2] M = am_bnd (am_run d 134 [.inr 1, .inl p1] M) (fun r1 M1 => (if (r1 : Int) = 0 then some (0, M1) else am_bnd (am_run d 253 [.inl p2, .inl (-1), .inl 3] M1) (fun r2 M2 => (if (r2 : Int) = 0 then some (0, M2) else am_bnd (am_run d 196 [.inr 0] M2) (fun _ M3 => am_chk (0 ≤ (p1 : Int) ∧ p1 < 8) (some (1, (am_upd M3 4 p1 p2)))))))) := (am_run_s _ _ _ _).trans (((am_blk am_h192 [] 400 d 0 _ _ M).trans rfl))
-- 193: LentHands.deed(II)I; stops [35]
set_option maxRecDepth 100000 in
theorem e193 (d : Nat) (p1 : Int) (p2 : Int) (M : am_M) : am_run (d + 1) 193 [.inr 0, .inl p1, .inl p2] M = am_bnd (am_run d 252 [.inr 0, .inl p1, .inl p2] M) (fun r1 M1 => (if (r1 : Int) = (-1) then some ((-1), M1) else am_bnd (am_run d 248 [.inr 0, .inl p1, .inl r1, .inl 0] M1) (fun r2 M2 => am_bnd (am_run d 196 [.inr 0] M2) (fun _ M3 => (if (r2 : Int) = 24 then am_chk (0 ≤ ((am_ishr r1 1) : Int) ∧ (am_ishr r1 1) < 8) (am_chk (0 ≤ ((am_ishr r1 1) : Int) ∧ (am_ishr r1 1) < 8) (am_L d 193 35 [some (.inr 0), some (.inl p1), some (.inl p2), some (.inl r1), some (.inl r2)] [] (am_upd M3 5 (am_ishr r1 1) (am_wrap ((M3 5 (am_ishr r1 1)) + 1))))) else (if (r2 : Int) = 26 then am_chk (0 ≤ ((am_ishr r1 1) : Int) ∧ (am_ishr r1 1) < 8) (am_chk (0 ≤ ((am_ishr r1 1) : Int) ∧ (am_ishr r1 1) < 8) (am_L d 193 35 [some (.inr 0), some (.inl p1), some (.inl p2), some (.inl r1), some (.inl r2)] [] (am_upd M3 5 (am_ishr r1 1) (am_wrap ((M3 5 (am_ishr r1 1)) + 1))))) else am_L d 193 35 [some (.inr 0), some (.inl p1), some (.inl p2), some (.inl r1), some (.inl r2)] [] M3)))))) := (am_run_s _ _ _ _).trans (((am_blk am_h193 [35] 400 d 0 _ _ M).trans rfl))
set_option maxRecDepth 100000 in
theorem e193_35 (d : Nat) (x1 : Int) (x2 : Int) (x3 : Int) (x4 : Int) (M : am_M) : am_L d 193 35 [some (.inr 0), some (.inl x1), some (.inl x2), some (.inl x3), some (.inl x4)] [] M = (if (x4 : Int) = 25 then am_chk (0 ≤ (x1 : Int) ∧ x1 < 8) (am_chk (0 ≤ (x1 : Int) ∧ x1 < 8) (am_bnd (am_run d 194 [.inr 0, .inl x3, .inl x1, .inl (am_wrap (x4 - 24))] (am_upd M 5 x1 (am_wrap ((M 5 x1) + 1)))) (fun _ M1 => some ((am_wrap (x4 - 24)), M1)))) else (if (x4 : Int) = 26 then am_chk (0 ≤ (x1 : Int) ∧ x1 < 8) (am_chk (0 ≤ (x1 : Int) ∧ x1 < 8) (am_bnd (am_run d 194 [.inr 0, .inl x3, .inl x1, .inl (am_wrap (x4 - 24))] (am_upd M 5 x1 (am_wrap ((M 5 x1) + 1)))) (fun _ M3 => some ((am_wrap (x4 - 24)), M3)))) else am_bnd (am_run d 194 [.inr 0, .inl x3, .inl x1, .inl (am_wrap (x4 - 24))] M) (fun _ M2 => some ((am_wrap (x4 - 24)), M2)))) := (am_blk am_h193 [35] 400 d 35 _ _ M).trans rfl
-- 194: LentHands.writeDeed(III)V; stops []
set_option maxRecDepth 100000 in
theorem e194 (d : Nat) (p1 : Int) (p2 : Int) (p3 : Int) (M : am_M) : am_run (d + 1) 194 [.inr 0, .inl p1, .inl p2, .inl p3] M = (if ((M 1 4) : Int) < 100 then am_chk (0 ≤ ((am_wrap ((M 1 4) * 4)) : Int) ∧ (am_wrap ((M 1 4) * 4)) < 400) (am_chk (0 ≤ ((am_wrap ((am_wrap ((M 1 4) * 4)) + 1)) : Int) ∧ (am_wrap ((am_wrap ((M 1 4) * 4)) + 1)) < 400) (am_chk (0 ≤ ((am_wrap ((am_wrap ((M 1 4) * 4)) + 2)) : Int) ∧ (am_wrap ((am_wrap ((M 1 4) * 4)) + 2)) < 400) (am_chk (0 ≤ ((am_wrap ((am_wrap ((M 1 4) * 4)) + 3)) : Int) ∧ (am_wrap ((am_wrap ((M 1 4) * 4)) + 3)) < 400) (some (0, (am_upd (am_upd (am_upd (am_upd (am_upd M 52 (am_wrap ((M 1 4) * 4)) (M 1 1)) 52 (am_wrap ((am_wrap ((M 1 4) * 4)) + 1)) p1) 52 (am_wrap ((am_wrap ((M 1 4) * 4)) + 2)) p2) 52 (am_wrap ((am_wrap ((M 1 4) * 4)) + 3)) p3) 1 4 (am_wrap (((am_upd (am_upd (am_upd (am_upd M 52 (am_wrap ((M 1 4) * 4)) (M 1 1)) 52 (am_wrap ((am_wrap ((M 1 4) * 4)) + 1)) p1) 52 (am_wrap ((am_wrap ((M 1 4) * 4)) + 2)) p2) 52 (am_wrap ((am_wrap ((M 1 4) * 4)) + 3)) p3) 1 4) + 1)))))))) else some (0, M)) := (am_run_s _ _ _ _).trans (((am_blk am_h194 [] 400 d 0 _ _ M).trans rfl))
-- 195: LentHands.hours(I)I; stops [18]
set_option maxRecDepth 100000 in
theorem e195 (d : Nat) (p1 : Int) (M : am_M) : am_run (d + 1) 195 [.inr 0, .inl p1] M = am_bnd (am_run d 253 [.inl p1, .inl 1, .inl 100] M) (fun r1 M1 => (if (r1 : Int) = 0 then some ((-1), M1) else (if (9999 : Int) < (am_wrap ((M1 1 1) + p1)) then some ((-1), M1) else am_L d 195 18 [some (.inr 0), some (.inl p1), some (.inl 0), some (.inl 0)] [] M1))) := (am_run_s _ _ _ _).trans (((am_blk am_h195 [18] 400 d 0 _ _ M).trans rfl))
set_option maxRecDepth 100000 in
theorem e195_18 (d : Nat) (x1 : Int) (x2 : Int) (x3 : Int) (M : am_M) : am_L d 195 18 [some (.inr 0), some (.inl x1), some (.inl x2), some (.inl x3)] [] M = (if (x3 : Int) < x1 then (if (6 : Int) < (am_wrap (x1 - x3)) then am_bnd (am_run d 233 [.inr 0, .inr 1, .inl 1] M) (fun r1 M1 => am_bnd (am_run d 255 [.inl r1] M1) (fun r2 M2 => am_L d 195 18 [some (.inr 0), some (.inl x1), some (.inl (am_wrap (x2 + r2))), some (.inl (am_wrap (x3 + 1)))] [] M2)) else am_bnd (am_run d 196 [.inr 0] M) (fun _ M3 => am_bnd (am_run d 233 [.inr 0, .inr 1, .inl 1] M3) (fun r4 M4 => am_bnd (am_run d 255 [.inl r4] M4) (fun r5 M5 => am_L d 195 18 [some (.inr 0), some (.inl x1), some (.inl (am_wrap (x2 + r5))), some (.inl (am_wrap (x3 + 1)))] [] M5)))) else some (x2, M)) := (am_blk am_h195 [18] 400 d 18 _ _ M).trans rfl
-- 196: LentHands.keep()V; stops []
set_option maxRecDepth 100000 in
theorem e196 (d : Nat) (M : am_M) : am_run (d + 1) 196 [.inr 0] M = am_chk (0 ≤ ((M 0 4) : Int) ∧ (M 0 4) < 6) (am_bnd (am_run d 133 [.inr (am_rf 27 (M 0 4)), .inr 1] M) (fun _ M1 => am_chk (¬ (6 : Int) = 0) (some (0, (am_upd (am_upd M1 0 4 (am_irem (am_wrap ((M1 0 4) + 1)) 6)) 0 3 (min (am_wrap (((am_upd M1 0 4 (am_irem (am_wrap ((M1 0 4) + 1)) 6)) 0 3) + 1)) 6)))))) := (am_run_s _ _ _ _).trans (((am_blk am_h196 [] 400 d 0 _ _ M).trans rfl))
-- 197: LentHands.forget()V; stops []
set_option maxRecDepth 100000 in
theorem e197 (d : Nat) (M : am_M) : am_run (d + 1) 197 [.inr 0] M = some (0, (am_upd M 0 3 0)) := (am_run_s _ _ _ _).trans (((am_blk am_h197 [] 400 d 0 _ _ M).trans rfl))
-- 198: LentHands.undo()Z; stops []
set_option maxRecDepth 100000 in
theorem e198 (d : Nat) (M : am_M) : am_run (d + 1) 198 [.inr 0] M = (if ((M 0 3) : Int) = 0 then some (0, M) else am_chk (¬ (6 : Int) = 0) (am_chk (0 ≤ (((am_upd (am_upd M 0 3 (am_wrap ((M 0 3) - 1))) 0 4 (am_irem (am_wrap ((am_wrap (((am_upd M 0 3 (am_wrap ((M 0 3) - 1))) 0 4) + 6)) - 1)) 6)) 0 4) : Int) ∧ ((am_upd (am_upd M 0 3 (am_wrap ((M 0 3) - 1))) 0 4 (am_irem (am_wrap ((am_wrap (((am_upd M 0 3 (am_wrap ((M 0 3) - 1))) 0 4) + 6)) - 1)) 6)) 0 4) < 6) (am_bnd (am_run d 133 [.inr 1, .inr (am_rf 27 ((am_upd (am_upd M 0 3 (am_wrap ((M 0 3) - 1))) 0 4 (am_irem (am_wrap ((am_wrap (((am_upd M 0 3 (am_wrap ((M 0 3) - 1))) 0 4) + 6)) - 1)) 6)) 0 4))] (am_upd (am_upd M 0 3 (am_wrap ((M 0 3) - 1))) 0 4 (am_irem (am_wrap ((am_wrap (((am_upd M 0 3 (am_wrap ((M 0 3) - 1))) 0 4) + 6)) - 1)) 6))) (fun _ M1 => some (1, M1))))) := (am_run_s _ _ _ _).trans (((am_blk am_h198 [] 400 d 0 _ _ M).trans rfl))
-- 199: LentHands.image(Z)Z; stops []
set_option maxRecDepth 100000 in
theorem e199 (d : Nat) (p1 : Int) (M : am_M) : am_run (d + 1) 199 [.inr 0, .inl p1] M = (if (p1 : Int) = 0 then (if ((M 0 10) : Int) = 0 then am_chk (((M 0 10) : Int) = 0 ∨ (M 0 10) = 1) (some ((M 0 10), M)) else am_bnd (am_run d 133 [.inr 1, .inr 53] M) (fun _ M1 => am_bnd (am_run d 159 [.inr 28, .inr 66] M1) (fun _ M2 => am_chk (0 ≤ (0 : Int) ∧ 0 ≤ (0 : Int) ∧ 0 ≤ (400 : Int) ∧ (0 : Int) + 400 ≤ 400 ∧ (0 : Int) + 400 ≤ 400) (am_bnd (am_run d 197 [.inr 0] (am_cpy M2 90 0 52 0 400)) (fun _ M3 => am_chk (((M3 0 10) : Int) = 0 ∨ (M3 0 10) = 1) (some ((M3 0 10), M3))))))) else am_bnd (am_run d 133 [.inr 53, .inr 1] M) (fun _ M4 => am_bnd (am_run d 159 [.inr 66, .inr 28] M4) (fun _ M5 => am_chk (0 ≤ (0 : Int) ∧ 0 ≤ (0 : Int) ∧ 0 ≤ (400 : Int) ∧ (0 : Int) + 400 ≤ 400 ∧ (0 : Int) + 400 ≤ 400) (am_chk ((((am_upd (am_cpy M5 52 0 90 0 400) 0 10 1) 0 10) : Int) = 0 ∨ ((am_upd (am_cpy M5 52 0 90 0 400) 0 10 1) 0 10) = 1) (some (((am_upd (am_cpy M5 52 0 90 0 400) 0 10 1) 0 10), (am_upd (am_cpy M5 52 0 90 0 400) 0 10 1))))))) := (am_run_s _ _ _ _).trans (((am_blk am_h199 [] 400 d 0 _ _ M).trans rfl))
-- 200: LentHands.of(II)I; stops []
set_option maxRecDepth 100000 in
theorem e200 (d : Nat) (p1 : Int) (p2 : Int) (M : am_M) : am_run (d + 1) 200 [.inr 0, .inl p1, .inl p2] M = am_bnd (am_run d 134 [.inr 1, .inl p1] M) (fun r1 M1 => (if (r1 : Int) = 0 then some ((-2), M1) else (if (p2 : Int) = 0 then am_chk (0 ≤ (p1 : Int) ∧ p1 < 8) (some ((M1 2 p1), M1)) else (if (p2 : Int) = 1 then am_chk (0 ≤ (p1 : Int) ∧ p1 < 8) (some ((M1 3 p1), M1)) else (if (p2 : Int) = 2 then am_chk (0 ≤ (p1 : Int) ∧ p1 < 8) (some ((M1 4 p1), M1)) else (if (p2 : Int) = 3 then am_chk (0 ≤ (p1 : Int) ∧ p1 < 8) (some ((M1 5 p1), M1)) else (if (p2 : Int) = 4 then am_chk (0 ≤ ((am_wrap (2 * p1)) : Int) ∧ (am_wrap (2 * p1)) < 16) (some ((M1 6 (am_wrap (2 * p1))), M1)) else (if (p2 : Int) = 5 then am_chk (0 ≤ ((am_wrap ((am_wrap (2 * p1)) + 1)) : Int) ∧ (am_wrap ((am_wrap (2 * p1)) + 1)) < 16) (some ((M1 6 (am_wrap ((am_wrap (2 * p1)) + 1))), M1)) else (if (p2 : Int) = 6 then am_bnd (am_run d 201 [.inr 0, .inl p1, .inl 0] M1) (fun r2 M2 => some (r2, M2)) else (if (p2 : Int) = 7 then am_bnd (am_run d 201 [.inr 0, .inl p1, .inl 1] M1) (fun r3 M3 => some (r3, M3)) else some ((-2), M1))))))))))) := (am_run_s _ _ _ _).trans (((am_blk am_h200 [] 400 d 0 _ _ M).trans rfl))
-- 201: LentHands.ring(II)I; stops [4]
set_option maxRecDepth 100000 in
theorem e201 (d : Nat) (p1 : Int) (p2 : Int) (M : am_M) : am_run (d + 1) 201 [.inr 0, .inl p1, .inl p2] M = am_L d 201 4 [some (.inr 0), some (.inl p1), some (.inl p2), some (.inl p1), some (.inl 1), none] [] M := (am_run_s _ _ _ _).trans (((am_blk am_h201 [4] 400 d 0 _ _ M).trans rfl))
set_option maxRecDepth 100000 in
theorem e201_4 (d : Nat) (x1 : Int) (x2 : Int) (x3 : Int) (x4 : Int) (o5 : Option am_V) (M : am_M) : am_L d 201 4 [some (.inr 0), some (.inl x1), some (.inl x2), some (.inl x3), some (.inl x4), o5] [] M = (if (8 : Int) < x4 then some (0, M) else am_bnd (am_run d 252 [.inr 0, .inl x3, .inl x2] M) (fun r1 M1 => (if (r1 : Int) = (-1) then some (0, M1) else (if ((am_ishr r1 1) : Int) = x1 then some (x4, M1) else am_L d 201 4 [some (.inr 0), some (.inl x1), some (.inl x2), some (.inl (am_ishr r1 1)), some (.inl (am_wrap (x4 + 1))), some (.inl r1)] [] M1)))) := (am_blk am_h201 [4] 400 d 4 _ _ M).trans rfl
-- 202: LentHands.at(II)I; stops [14]
set_option maxRecDepth 100000 in
theorem e202 (d : Nat) (p1 : Int) (p2 : Int) (M : am_M) : am_run (d + 1) 202 [.inr 0, .inl p1, .inl p2] M = am_bnd (am_run d 135 [.inr 1, .inl p1] M) (fun r1 M1 => (if (r1 : Int) = 0 then some ((-2), M1) else am_bnd (am_run d 143 [.inr 1, .inl p1] M1) (fun r2 M2 => (if (p2 : Int) = 0 then am_L d 202 14 [some (.inr 0), some (.inl p1), some (.inl p2), some (.inl r2)] [] M2 else (if (p2 : Int) = 1 then am_L d 202 14 [some (.inr 0), some (.inl p1), some (.inl p2), some (.inl r2)] [] M2 else (if (p2 : Int) = 2 then am_L d 202 14 [some (.inr 0), some (.inl p1), some (.inl p2), some (.inl r2)] [] M2 else (if (p2 : Int) = 3 then am_L d 202 14 [some (.inr 0), some (.inl p1), some (.inl p2), some (.inl r2)] [] M2 else (if (p2 : Int) = 4 then am_chk (0 ≤ (p1 : Int) ∧ p1 < 16) (some ((M2 9 p1), M2)) else (if (p2 : Int) = 5 then am_chk (0 ≤ (p1 : Int) ∧ p1 < 16) (some ((M2 10 p1), M2)) else (if (p2 : Int) = 6 then am_chk (0 ≤ (p1 : Int) ∧ p1 < 16) (some ((M2 11 p1), M2)) else (if (p2 : Int) = 7 then am_chk (0 ≤ (p1 : Int) ∧ p1 < 16) (some ((M2 12 p1), M2)) else (if (p2 : Int) = 8 then am_chk (0 ≤ (p1 : Int) ∧ p1 < 16) (some ((M2 7 p1), M2)) else (if (p2 : Int) = 9 then am_bnd (am_run d 144 [.inr 1, .inl p1] M2) (fun r3 M3 => some (r3, M3)) else (if (p2 : Int) = 10 then (if (r2 : Int) = (-1) then some ((-1), M2) else am_bnd (am_run d 142 [.inr 1, .inl r2, .inl 3] M2) (fun r4 M4 => some (r4, M4))) else some ((-2), M2))))))))))))))) := (am_run_s _ _ _ _).trans (((am_blk am_h202 [14] 400 d 0 _ _ M).trans rfl))
set_option maxRecDepth 100000 in
theorem e202_14 (d : Nat) (x1 : Int) (x2 : Int) (x3 : Int) (M : am_M) : am_L d 202 14 [some (.inr 0), some (.inl x1), some (.inl x2), some (.inl x3)] [] M = am_chk (0 ≤ ((am_wrap ((am_wrap (x1 * 4)) + x2)) : Int) ∧ (am_wrap ((am_wrap (x1 * 4)) + x2)) < 64) (some ((M 8 (am_wrap ((am_wrap (x1 * 4)) + x2))), M)) := (am_blk am_h202 [14] 400 d 14 _ _ M).trans rfl
-- 203: LentHands.loan(II)I; stops []
set_option maxRecDepth 100000 in
theorem e203 (d : Nat) (p1 : Int) (p2 : Int) (M : am_M) : am_run (d + 1) 203 [.inr 0, .inl p1, .inl p2] M = am_bnd (am_run d 253 [.inl p1, .inl 0, .inl (am_wrap ((M 1 3) - 1))] M) (fun r1 M1 => (if (r1 : Int) = 0 then some ((-1), M1) else am_bnd (am_run d 253 [.inl p2, .inl 0, .inl 4] M1) (fun r2 M2 => (if (r2 : Int) = 0 then some ((-1), M2) else am_bnd (am_run d 142 [.inr 1, .inl p1, .inl p2] M2) (fun r3 M3 => some (r3, M3)))))) := (am_run_s _ _ _ _).trans (((am_blk am_h203 [] 400 d 0 _ _ M).trans rfl))
-- 204: LentHands.book(II)I; stops []
set_option maxRecDepth 100000 in
theorem e204 (d : Nat) (p1 : Int) (p2 : Int) (M : am_M) : am_run (d + 1) 204 [.inr 0, .inl p1, .inl p2] M = am_bnd (am_run d 253 [.inl p1, .inl 0, .inl (am_wrap ((M 1 4) - 1))] M) (fun r1 M1 => (if (r1 : Int) = 0 then some ((-1), M1) else am_bnd (am_run d 253 [.inl p2, .inl 0, .inl 3] M1) (fun r2 M2 => (if (r2 : Int) = 0 then some ((-1), M2) else am_chk (0 ≤ ((am_wrap ((am_wrap (p1 * 4)) + p2)) : Int) ∧ (am_wrap ((am_wrap (p1 * 4)) + p2)) < 400) (some ((M2 52 (am_wrap ((am_wrap (p1 * 4)) + p2))), M2)))))) := (am_run_s _ _ _ _).trans (((am_blk am_h204 [] 400 d 0 _ _ M).trans rfl))
-- 205: LentHands.look(I)I; stops []
set_option maxRecDepth 100000 in
theorem e205 (d : Nat) (p1 : Int) (M : am_M) : am_run (d + 1) 205 [.inr 0, .inl p1] M = (if (p1 : Int) = 0 then some ((M 1 2), M) else (if (p1 : Int) = 1 then some ((M 1 1), M) else (if (p1 : Int) = 2 then some ((M 1 3), M) else (if (p1 : Int) = 3 then some ((M 1 4), M) else (if (p1 : Int) = 4 then some ((M 1 0), M) else (if (p1 : Int) = 5 then am_chk (0 ≤ ((am_wrap (p1 - 5)) : Int) ∧ (am_wrap (p1 - 5)) < 3) (cond (Nat.beq (am_cls (am_rf 29 (am_wrap (p1 - 5)))) 1) (some ((M (am_rf 29 (am_wrap (p1 - 5))) 0), M)) none) else (if (p1 : Int) = 6 then am_chk (0 ≤ ((am_wrap (p1 - 5)) : Int) ∧ (am_wrap (p1 - 5)) < 3) (cond (Nat.beq (am_cls (am_rf 29 (am_wrap (p1 - 5)))) 1) (some ((M (am_rf 29 (am_wrap (p1 - 5))) 0), M)) none) else (if (p1 : Int) = 7 then am_chk (0 ≤ ((am_wrap (p1 - 5)) : Int) ∧ (am_wrap (p1 - 5)) < 3) (cond (Nat.beq (am_cls (am_rf 29 (am_wrap (p1 - 5)))) 1) (some ((M (am_rf 29 (am_wrap (p1 - 5))) 0), M)) none) else (if (p1 : Int) = 8 then some ((M 30 0), M) else (if (p1 : Int) = 9 then some ((M 32 0), M) else (if (p1 : Int) = 10 then some ((M 0 3), M) else (if (p1 : Int) = 11 then am_bnd (am_run d 206 [.inr 0] M) (fun r1 M1 => some (r1, M1)) else some ((-1), M))))))))))))) := (am_run_s _ _ _ _).trans (((am_blk am_h205 [] 400 d 0 _ _ M).trans rfl))
-- 206: LentHands.inOffice()I; stops [4]
set_option maxRecDepth 100000 in
theorem e206 (d : Nat) (M : am_M) : am_run (d + 1) 206 [.inr 0] M = am_L d 206 4 [some (.inr 0), some (.inl 0), some (.inl 0)] [] M := (am_run_s _ _ _ _).trans (((am_blk am_h206 [4] 400 d 0 _ _ M).trans rfl))
set_option maxRecDepth 100000 in
theorem e206_4 (d : Nat) (x1 : Int) (x2 : Int) (M : am_M) : am_L d 206 4 [some (.inr 0), some (.inl x1), some (.inl x2)] [] M = (if (x2 : Int) < (am_wrap (2 * (M 1 2))) then am_chk (0 ≤ (x2 : Int) ∧ x2 < 16) ((if ((M 7 x2) : Int) = (-1) then am_L d 206 4 [some (.inr 0), some (.inl (am_ior x1 (am_ishl 1 x2))), some (.inl (am_wrap (x2 + 1)))] [] M else am_L d 206 4 [some (.inr 0), some (.inl x1), some (.inl (am_wrap (x2 + 1)))] [] M)) else some (x1, M)) := (am_blk am_h206 [4] 400 d 4 _ _ M).trans rfl
-- 207: LentHands.chain(II)I; stops [13]
set_option maxRecDepth 100000 in
theorem e207 (d : Nat) (p1 : Int) (p2 : Int) (M : am_M) : am_run (d + 1) 207 [.inr 0, .inl p1, .inl p2] M = am_bnd (am_run d 135 [.inr 1, .inl p1] M) (fun r1 M1 => (if (r1 : Int) = 0 then some ((-1), M1) else (if (p2 : Int) < 0 then some ((-1), M1) else am_L d 207 13 [some (.inr 0), some (.inl p1), some (.inl p2), some (.inl 0), some (.inl 0)] [] M1))) := (am_run_s _ _ _ _).trans (((am_blk am_h207 [13] 400 d 0 _ _ M).trans rfl))
set_option maxRecDepth 100000 in
theorem e207_13 (d : Nat) (x1 : Int) (x2 : Int) (x3 : Int) (x4 : Int) (M : am_M) : am_L d 207 13 [some (.inr 0), some (.inl x1), some (.inl x2), some (.inl x3), some (.inl x4)] [] M = (if (x4 : Int) < (M 1 3) then am_bnd (am_run d 142 [.inr 1, .inl x4, .inl 0] M) (fun r1 M1 => (if (r1 : Int) = x1 then (if (x3 : Int) = x2 then am_bnd (am_run d 142 [.inr 1, .inl x4, .inl 1] M1) (fun r2 M2 => some (r2, M2)) else am_L d 207 13 [some (.inr 0), some (.inl x1), some (.inl x2), some (.inl (am_wrap (x3 + 1))), some (.inl (am_wrap (x4 + 1)))] [] M1) else am_L d 207 13 [some (.inr 0), some (.inl x1), some (.inl x2), some (.inl x3), some (.inl (am_wrap (x4 + 1)))] [] M1)) else some ((-1), M)) := (am_blk am_h207 [13] 400 d 13 _ _ M).trans rfl
-- 208: LentHands.owes(II)I; stops [22]
set_option maxRecDepth 100000 in
theorem e208 (d : Nat) (p1 : Int) (p2 : Int) (M : am_M) : am_run (d + 1) 208 [.inr 0, .inl p1, .inl p2] M = am_bnd (am_run d 134 [.inr 1, .inl p1] M) (fun r1 M1 => (if (r1 : Int) = 0 then some ((-1), M1) else am_bnd (am_run d 253 [.inl p2, .inl 0, .inl 1] M1) (fun r2 M2 => (if (r2 : Int) = 0 then some ((-1), M2) else (if (p2 : Int) = 0 then am_L d 208 22 [some (.inr 0), some (.inl p1), some (.inl p2), some (.inl 2), some (.inl 0), some (.inl 0)] [] M2 else am_L d 208 22 [some (.inr 0), some (.inl p1), some (.inl p2), some (.inl 1), some (.inl 0), some (.inl 0)] [] M2))))) := (am_run_s _ _ _ _).trans (((am_blk am_h208 [22] 400 d 0 _ _ M).trans rfl))
set_option maxRecDepth 100000 in
theorem e208_22 (d : Nat) (x1 : Int) (x2 : Int) (x3 : Int) (x4 : Int) (x5 : Int) (M : am_M) : am_L d 208 22 [some (.inr 0), some (.inl x1), some (.inl x2), some (.inl x3), some (.inl x4), some (.inl x5)] [] M = (if (x5 : Int) < (M 1 3) then am_bnd (am_run d 142 [.inr 1, .inl x5, .inl x3] M) (fun r1 M1 => (if (r1 : Int) = x1 then am_bnd (am_run d 142 [.inr 1, .inl x5, .inl 0] M1) (fun r2 M2 => am_L d 208 22 [some (.inr 0), some (.inl x1), some (.inl x2), some (.inl x3), some (.inl (am_ior x4 (am_ishl 1 r2))), some (.inl (am_wrap (x5 + 1)))] [] M2) else am_L d 208 22 [some (.inr 0), some (.inl x1), some (.inl x2), some (.inl x3), some (.inl x4), some (.inl (am_wrap (x5 + 1)))] [] M1)) else some (x4, M)) := (am_blk am_h208 [22] 400 d 22 _ _ M).trans rfl
-- 209: LentHands.callus()I; stops [4]
set_option maxRecDepth 100000 in
theorem e209 (d : Nat) (M : am_M) : am_run (d + 1) 209 [.inr 0] M = am_L d 209 4 [some (.inr 0), some (.inl (-1)), some (.inl 0)] [] M := (am_run_s _ _ _ _).trans (((am_blk am_h209 [4] 400 d 0 _ _ M).trans rfl))
set_option maxRecDepth 100000 in
theorem e209_4 (d : Nat) (x1 : Int) (x2 : Int) (M : am_M) : am_L d 209 4 [some (.inr 0), some (.inl x1), some (.inl x2)] [] M = (if (x2 : Int) < (am_wrap (2 * (M 1 2))) then am_bnd (am_run d 139 [.inr 1, .inl x2] M) (fun r1 M1 => (if (r1 : Int) = 0 then (if (x1 : Int) = (-1) then am_L d 209 4 [some (.inr 0), some (.inl x2), some (.inl (am_wrap (x2 + 1)))] [] M1 else am_chk (0 ≤ (x2 : Int) ∧ x2 < 16) (am_chk (0 ≤ (x1 : Int) ∧ x1 < 16) ((if ((M1 9 x1) : Int) < (M1 9 x2) then am_L d 209 4 [some (.inr 0), some (.inl x2), some (.inl (am_wrap (x2 + 1)))] [] M1 else am_L d 209 4 [some (.inr 0), some (.inl x1), some (.inl (am_wrap (x2 + 1)))] [] M1)))) else am_L d 209 4 [some (.inr 0), some (.inl x1), some (.inl (am_wrap (x2 + 1)))] [] M1)) else some (x1, M)) := (am_blk am_h209 [4] 400 d 4 _ _ M).trans rfl
-- 210: LentHands.bare()I; stops [4]
set_option maxRecDepth 100000 in
theorem e210 (d : Nat) (M : am_M) : am_run (d + 1) 210 [.inr 0] M = am_L d 210 4 [some (.inr 0), some (.inl 0), some (.inl 0)] [] M := (am_run_s _ _ _ _).trans (((am_blk am_h210 [4] 400 d 0 _ _ M).trans rfl))
set_option maxRecDepth 100000 in
theorem e210_4 (d : Nat) (x1 : Int) (x2 : Int) (M : am_M) : am_L d 210 4 [some (.inr 0), some (.inl x1), some (.inl x2)] [] M = (if (x2 : Int) < (M 1 2) then am_bnd (am_run d 139 [.inr 1, .inl (am_wrap (2 * x2))] M) (fun r1 M1 => (if (r1 : Int) = 0 then am_bnd (am_run d 139 [.inr 1, .inl (am_wrap ((am_wrap (2 * x2)) + 1))] M1) (fun r2 M2 => (if (r2 : Int) = 0 then am_L d 210 4 [some (.inr 0), some (.inl (am_ior x1 (am_ishl 1 x2))), some (.inl (am_wrap (x2 + 1)))] [] M2 else am_L d 210 4 [some (.inr 0), some (.inl x1), some (.inl (am_wrap (x2 + 1)))] [] M2)) else am_L d 210 4 [some (.inr 0), some (.inl x1), some (.inl (am_wrap (x2 + 1)))] [] M1)) else some (x1, M)) := (am_blk am_h210 [4] 400 d 4 _ _ M).trans rfl
-- 211: LentHands.spread(II)I; stops [11]
set_option maxRecDepth 100000 in
theorem e211 (d : Nat) (p1 : Int) (p2 : Int) (M : am_M) : am_run (d + 1) 211 [.inr 0, .inl p1, .inl p2] M = am_bnd (am_run d 253 [.inl p1, .inl 0, .inl 3] M) (fun r1 M1 => (if (r1 : Int) = 0 then some ((-1), M1) else am_L d 211 11 [some (.inr 0), some (.inl p1), some (.inl p2), some (.inl 0), some (.inl 0), none] [] M1)) := (am_run_s _ _ _ _).trans (((am_blk am_h211 [11] 400 d 0 _ _ M).trans rfl))
set_option maxRecDepth 100000 in
theorem e211_11 (d : Nat) (x1 : Int) (x2 : Int) (x3 : Int) (x4 : Int) (o5 : Option am_V) (M : am_M) : am_L d 211 11 [some (.inr 0), some (.inl x1), some (.inl x2), some (.inl x3), some (.inl x4), o5] [] M = (if (x4 : Int) < (am_wrap (2 * (M 1 2))) then am_chk (0 ≤ (x4 : Int) ∧ x4 < 16) ((if ((M 7 x4) : Int) = (-1) then am_L d 211 11 [some (.inr 0), some (.inl x1), some (.inl x2), some (.inl x3), some (.inl (am_wrap (x4 + 1))), some (.inl (M 7 x4))] [] M else am_chk (0 ≤ ((am_wrap ((am_wrap (x4 * 4)) + x1)) : Int) ∧ (am_wrap ((am_wrap (x4 * 4)) + x1)) < 64) ((if ((M 8 (am_wrap ((am_wrap (x4 * 4)) + x1))) : Int) < x2 then am_L d 211 11 [some (.inr 0), some (.inl x1), some (.inl x2), some (.inl x3), some (.inl (am_wrap (x4 + 1))), some (.inl (M 7 x4))] [] M else am_L d 211 11 [some (.inr 0), some (.inl x1), some (.inl x2), some (.inl (am_ior x3 (am_ishl 1 (M 7 x4)))), some (.inl (am_wrap (x4 + 1))), some (.inl (M 7 x4))] [] M)))) else some (x3, M)) := (am_blk am_h211 [11] 400 d 11 _ _ M).trans rfl
-- 212: LentHands.whose(I)I; stops [17]
set_option maxRecDepth 100000 in
theorem e212 (d : Nat) (p1 : Int) (M : am_M) : am_run (d + 1) 212 [.inr 0, .inl p1] M = am_bnd (am_run d 253 [.inl p1, .inl 0, .inl (am_wrap ((am_ishl 1 (M 1 2)) - 1))] M) (fun r1 M1 => (if (r1 : Int) = 0 then some ((-1), M1) else am_L d 212 17 [some (.inr 0), some (.inl p1), some (.inl 0), some (.inl 0)] [] M1)) := (am_run_s _ _ _ _).trans (((am_blk am_h212 [17] 400 d 0 _ _ M).trans rfl))
set_option maxRecDepth 100000 in
theorem e212_17 (d : Nat) (x1 : Int) (x2 : Int) (x3 : Int) (M : am_M) : am_L d 212 17 [some (.inr 0), some (.inl x1), some (.inl x2), some (.inl x3)] [] M = (if (x3 : Int) < (am_wrap (2 * (M 1 2))) then am_chk (0 ≤ (x3 : Int) ∧ x3 < 16) ((if ((am_iand (M 11 x3) x1) : Int) = x1 then am_L d 212 17 [some (.inr 0), some (.inl x1), some (.inl (am_ior x2 (am_ishl 1 x3))), some (.inl (am_wrap (x3 + 1)))] [] M else am_L d 212 17 [some (.inr 0), some (.inl x1), some (.inl x2), some (.inl (am_wrap (x3 + 1)))] [] M)) else some (x2, M)) := (am_blk am_h212 [17] 400 d 17 _ _ M).trans rfl
-- 213: LentHands.ask(I)I; stops [27]
set_option maxRecDepth 100000 in
theorem e213 (d : Nat) (p1 : Int) (M : am_M) : am_run (d + 1) 213 [.inr 0, .inl p1] M = am_bnd (am_run d 255 [.inl p1] M) (fun r1 M1 => am_bnd (am_run d 253 [.inl p1, .inl 0, .inl (am_wrap ((am_ishl 1 (am_wrap (2 * (M1 1 2)))) - 1))] M1) (fun r2 M2 => (if (r2 : Int) = 0 then some ((-1), M2) else (if (r1 : Int) < 2 then some ((-1), M2) else am_L d 213 27 [some (.inr 0), some (.inl p1), some (.inl r1), some (.inl (-1)), some (.inl 17), some (.inl 0), none, none] [] M2)))) := (am_run_s _ _ _ _).trans (((am_blk am_h213 [27] 400 d 0 _ _ M).trans rfl))
set_option maxRecDepth 100000 in
theorem e213_27 (d : Nat) (x1 : Int) (x2 : Int) (x3 : Int) (x4 : Int) (x5 : Int) (o6 : Option am_V) (o7 : Option am_V) (M : am_M) : am_L d 213 27 [some (.inr 0), some (.inl x1), some (.inl x2), some (.inl x3), some (.inl x4), some (.inl x5), o6, o7] [] M = (if (x5 : Int) < (M 1 2) then am_bnd (am_run d 214 [.inr 0, .inl x1, .inl x5] M) (fun r1 M1 => (if ((max r1 (am_wrap (x2 - r1))) : Int) < x4 then am_L d 213 27 [some (.inr 0), some (.inl x1), some (.inl x2), some (.inl x5), some (.inl (max r1 (am_wrap (x2 - r1)))), some (.inl (am_wrap (x5 + 1))), some (.inl r1), some (.inl (max r1 (am_wrap (x2 - r1))))] [] M1 else am_L d 213 27 [some (.inr 0), some (.inl x1), some (.inl x2), some (.inl x3), some (.inl x4), some (.inl (am_wrap (x5 + 1))), some (.inl r1), some (.inl (max r1 (am_wrap (x2 - r1))))] [] M1)) else some (x3, M)) := (am_blk am_h213 [27] 400 d 27 _ _ M).trans rfl
-- 214: LentHands.markedAmong(II)I; stops [4]
set_option maxRecDepth 100000 in
theorem e214 (d : Nat) (p1 : Int) (p2 : Int) (M : am_M) : am_run (d + 1) 214 [.inr 0, .inl p1, .inl p2] M = am_L d 214 4 [some (.inr 0), some (.inl p1), some (.inl p2), some (.inl 0), some (.inl 0)] [] M := (am_run_s _ _ _ _).trans (((am_blk am_h214 [4] 400 d 0 _ _ M).trans rfl))
set_option maxRecDepth 100000 in
theorem e214_4 (d : Nat) (x1 : Int) (x2 : Int) (x3 : Int) (x4 : Int) (M : am_M) : am_L d 214 4 [some (.inr 0), some (.inl x1), some (.inl x2), some (.inl x3), some (.inl x4)] [] M = (if (x4 : Int) < (am_wrap (2 * (M 1 2))) then (if ((am_iand (am_ishr x1 x4) 1) : Int) = 1 then am_chk (0 ≤ (x4 : Int) ∧ x4 < 16) ((if ((am_iand (am_ishr (M 11 x4) x2) 1) : Int) = 1 then am_L d 214 4 [some (.inr 0), some (.inl x1), some (.inl x2), some (.inl (am_wrap (x3 + 1))), some (.inl (am_wrap (x4 + 1)))] [] M else am_L d 214 4 [some (.inr 0), some (.inl x1), some (.inl x2), some (.inl x3), some (.inl (am_wrap (x4 + 1)))] [] M)) else am_L d 214 4 [some (.inr 0), some (.inl x1), some (.inl x2), some (.inl x3), some (.inl (am_wrap (x4 + 1)))] [] M) else some (x3, M)) := (am_blk am_h214 [4] 400 d 4 _ _ M).trans rfl
-- 215: LentHands.turnsOf(IIII)I; stops [32]
set_option maxRecDepth 100000 in
theorem e215 (d : Nat) (p1 : Int) (p2 : Int) (p3 : Int) (p4 : Int) (M : am_M) : am_run (d + 1) 215 [.inr 0, .inl p1, .inl p2, .inl p3, .inl p4] M = am_bnd (am_run d 253 [.inl p1, .inl 1, .inl 60] M) (fun r1 M1 => (if (r1 : Int) = 0 then some ((-1), M1) else am_bnd (am_run d 253 [.inl p2, .inl 1, .inl 9] M1) (fun r2 M2 => (if (r2 : Int) = 0 then some ((-1), M2) else am_bnd (am_run d 253 [.inl p3, .inl 1, .inl 9] M2) (fun r3 M3 => (if (r3 : Int) = 0 then some ((-1), M3) else (if (p4 : Int) = 0 then am_L d 215 32 [some (.inr 0), some (.inl p1), some (.inl p2), some (.inl p3), some (.inl p4), some (.inl 0), some (.inl 0), none] [] M3 else am_bnd (am_run d 253 [.inl p4, .inl 10, .inl (am_wrap (9 + p1))] M3) (fun r4 M4 => (if (r4 : Int) = 0 then some ((-1), M4) else am_L d 215 32 [some (.inr 0), some (.inl p1), some (.inl p2), some (.inl p3), some (.inl p4), some (.inl 0), some (.inl 0), none] [] M4))))))))) := (am_run_s _ _ _ _).trans (((am_blk am_h215 [32] 400 d 0 _ _ M).trans rfl))
set_option maxRecDepth 100000 in
theorem e215_32 (d : Nat) (x1 : Int) (x2 : Int) (x3 : Int) (x4 : Int) (x5 : Int) (x6 : Int) (o7 : Option am_V) (M : am_M) : am_L d 215 32 [some (.inr 0), some (.inl x1), some (.inl x2), some (.inl x3), some (.inl x4), some (.inl x5), some (.inl x6), o7] [] M = (if (x6 : Int) < x1 then (if ((am_wrap ((am_wrap (x6 - x5)) * x2)) : Int) < (am_wrap (x5 * x3)) then (if (x4 : Int) = (am_wrap (10 + x6)) then (if (0 : Int) = 0 then some (1, M) else some (0, M)) else (if (0 : Int) = 0 then am_L d 215 32 [some (.inr 0), some (.inl x1), some (.inl x2), some (.inl x3), some (.inl x4), some (.inl x5), some (.inl (am_wrap (x6 + 1))), some (.inl 0)] [] M else am_L d 215 32 [some (.inr 0), some (.inl x1), some (.inl x2), some (.inl x3), some (.inl x4), some (.inl (am_wrap (x5 + 1))), some (.inl (am_wrap (x6 + 1))), some (.inl 0)] [] M)) else (if (x4 : Int) = (am_wrap (10 + x6)) then (if (1 : Int) = 0 then some (1, M) else some (0, M)) else (if (1 : Int) = 0 then am_L d 215 32 [some (.inr 0), some (.inl x1), some (.inl x2), some (.inl x3), some (.inl x4), some (.inl x5), some (.inl (am_wrap (x6 + 1))), some (.inl 1)] [] M else am_L d 215 32 [some (.inr 0), some (.inl x1), some (.inl x2), some (.inl x3), some (.inl x4), some (.inl (am_wrap (x5 + 1))), some (.inl (am_wrap (x6 + 1))), some (.inl 1)] [] M))) else some (x5, M)) := (am_blk am_h215 [32] 400 d 32 _ _ M).trans rfl
-- 216: LentHands.may(IIII)I; stops []
set_option maxRecDepth 100000 in
theorem e216 (d : Nat) (p1 : Int) (p2 : Int) (p3 : Int) (p4 : Int) (M : am_M) : am_run (d + 1) 216 [.inr 0, .inl p1, .inl p2, .inl p3, .inl p4] M = am_bnd (am_run d 135 [.inr 1, .inl p1] M) (fun r1 M1 => (if (r1 : Int) = 0 then some ((-1), M1) else am_bnd (am_run d 134 [.inr 1, .inl p2] M1) (fun r2 M2 => (if (r2 : Int) = 0 then some ((-1), M2) else am_bnd (am_run d 253 [.inl p3, .inl 1, .inl 99] M2) (fun r3 M3 => (if (r3 : Int) = 0 then some ((-1), M3) else am_bnd (am_run d 253 [.inl p4, .inl 0, .inl 99] M3) (fun r4 M4 => (if (r4 : Int) = 0 then some ((-1), M4) else am_bnd (am_run d 217 [.inr 0, .inr 1, .inl p1, .inl p2, .inl p3, .inl p4] M4) (fun r5 M5 => (if (r5 : Int) = 0 then some (0, M5) else some (1, M5))))))))))) := (am_run_s _ _ _ _).trans (((am_blk am_h216 [] 400 d 0 _ _ M).trans rfl))
-- 217: LentHands.lawLends(LLentHands$World;IIII)Z; stops []
set_option maxRecDepth 100000 in
theorem e217 (d : Nat) (a1 : Nat) (p2 : Int) (p3 : Int) (p4 : Int) (p5 : Int) (M : am_M) : am_run (d + 1) 217 [.inr 0, .inr a1, .inl p2, .inl p3, .inl p4, .inl p5] M = am_bnd (am_run d 251 [.inr 0, .inr a1, .inl p2, .inl p3] M) (fun _ M1 => am_chk (0 ≤ (4 : Int) ∧ 4 < 14) (am_chk (0 ≤ (5 : Int) ∧ 5 < 14) (cond (Nat.beq (am_cls a1) 5) (cond (Nat.beq (am_cls (am_rf a1 5)) 9 || Nat.beq (am_cls (am_rf a1 5)) 12) (am_chk (0 ≤ (p3 : Int) ∧ p3 < (am_len (am_upd (am_upd M1 105 4 p4) 105 5 p5) (am_rf a1 5))) (am_chk (0 ≤ (6 : Int) ∧ 6 < 14) (am_bnd (am_run d 144 [.inr a1, .inl p2] (am_upd (am_upd (am_upd M1 105 4 p4) 105 5 p5) 105 6 ((am_upd (am_upd M1 105 4 p4) 105 5 p5) (am_rf a1 5) p3))) (fun r2 M2 => am_chk (0 ≤ (9 : Int) ∧ 9 < 14) (am_chk (0 ≤ (0 : Int) ∧ 0 < 3) (am_bnd (am_run d 154 [.inr 34, .inr 104] (am_upd M2 105 9 r2)) (fun r3 M3 => (if (r3 : Int) = (-1) then some (1, M3) else (if (r3 : Int) = 18 then some (1, M3) else some (0, M3)))))))))) none) none))) := (am_run_s _ _ _ _).trans (((am_blk am_h217 [] 400 d 0 _ _ M).trans rfl))
-- 218: LentHands.canBeLent(LLentHands$World;IIII)Z; stops []
set_option maxRecDepth 100000 in
theorem e218 (d : Nat) (a1 : Nat) (p2 : Int) (p3 : Int) (p4 : Int) (p5 : Int) (M : am_M) : am_run (d + 1) 218 [.inr 0, .inr a1, .inl p2, .inl p3, .inl p4, .inl p5] M = am_bnd (am_run d 135 [.inr a1, .inl p2] M) (fun r1 M1 => (if (r1 : Int) = 0 then some (0, M1) else am_bnd (am_run d 134 [.inr a1, .inl p3] M1) (fun r2 M2 => (if (r2 : Int) = 0 then some (0, M2) else cond (Nat.beq (am_cls a1) 5) (cond (Nat.beq (am_cls (am_rf a1 10)) 9 || Nat.beq (am_cls (am_rf a1 10)) 12) (am_chk (0 ≤ (p2 : Int) ∧ p2 < (am_len M2 (am_rf a1 10))) ((if ((M2 (am_rf a1 10) p2) : Int) = (-1) then some (0, M2) else cond (Nat.beq (am_cls a1) 5) (cond (Nat.beq (am_cls (am_rf a1 10)) 9 || Nat.beq (am_cls (am_rf a1 10)) 12) (am_chk (0 ≤ (p2 : Int) ∧ p2 < (am_len M2 (am_rf a1 10))) ((if ((M2 (am_rf a1 10) p2) : Int) = p3 then some (0, M2) else am_bnd (am_run d 253 [.inl p4, .inl 1, .inl 99] M2) (fun r3 M3 => (if (r3 : Int) = 0 then some (0, M3) else am_bnd (am_run d 253 [.inl p5, .inl 0, .inl 99] M3) (fun r4 M4 => (if (r4 : Int) = 0 then some (0, M4) else cond (Nat.beq (am_cls a1) 5) ((if ((M4 a1 3) : Int) < 16 then cond (Nat.beq (am_cls a1) 5) (cond (Nat.beq (am_cls (am_rf a1 5)) 9 || Nat.beq (am_cls (am_rf a1 5)) 12) (am_chk (0 ≤ (p3 : Int) ∧ p3 < (am_len M4 (am_rf a1 5))) ((if ((M4 (am_rf a1 5) p3) : Int) < (am_wrap (p4 * p5)) then some (0, M4) else am_bnd (am_run d 143 [.inr a1, .inl p2] M4) (fun r5 M5 => (if (r5 : Int) = (-1) then am_bnd (am_run d 217 [.inr 0, .inr a1, .inl p2, .inl p3, .inl p4, .inl p5] M5) (fun r6 M6 => am_chk ((r6 : Int) = 0 ∨ r6 = 1) (some (r6, M6))) else cond (Nat.beq (am_cls a1) 5) (am_bnd (am_run d 142 [.inr a1, .inl r5, .inl 3] M5) (fun r7 M7 => (if (r7 : Int) < (am_wrap ((M5 a1 1) + p4)) then some (0, M7) else am_bnd (am_run d 217 [.inr 0, .inr a1, .inl p2, .inl p3, .inl p4, .inl p5] M7) (fun r8 M8 => am_chk ((r8 : Int) = 0 ∨ r8 = 1) (some (r8, M8)))))) none))))) none) none else some (0, M4))) none))))))) none) none))) none) none)))) := (am_run_s _ _ _ _).trans (((am_blk am_h218 [] 400 d 0 _ _ M).trans rfl))
-- 219: LentHands.finds(IIII)I; stops [14]
set_option maxRecDepth 100000 in
theorem e219 (d : Nat) (p1 : Int) (p2 : Int) (p3 : Int) (p4 : Int) (M : am_M) : am_run (d + 1) 219 [.inr 0, .inl p1, .inl p2, .inl p3, .inl p4] M = am_bnd (am_run d 134 [.inr 1, .inl p1] M) (fun r1 M1 => (if (r1 : Int) = 0 then some ((-1), M1) else am_bnd (am_run d 253 [.inl p2, .inl 0, .inl 3] M1) (fun r2 M2 => (if (r2 : Int) = 0 then some ((-1), M2) else am_L d 219 14 [some (.inr 0), some (.inl p1), some (.inl p2), some (.inl p3), some (.inl p4), some (.inl 0)] [] M2)))) := (am_run_s _ _ _ _).trans (((am_blk am_h219 [14] 400 d 0 _ _ M).trans rfl))
set_option maxRecDepth 100000 in
theorem e219_14 (d : Nat) (x1 : Int) (x2 : Int) (x3 : Int) (x4 : Int) (x5 : Int) (M : am_M) : am_L d 219 14 [some (.inr 0), some (.inl x1), some (.inl x2), some (.inl x3), some (.inl x4), some (.inl x5)] [] M = (if (x5 : Int) < (am_wrap (2 * (M 1 2))) then am_chk (0 ≤ ((am_wrap ((am_wrap (x5 * 4)) + x2)) : Int) ∧ (am_wrap ((am_wrap (x5 * 4)) + x2)) < 64) ((if ((M 8 (am_wrap ((am_wrap (x5 * 4)) + x2))) : Int) < x3 then am_L d 219 14 [some (.inr 0), some (.inl x1), some (.inl x2), some (.inl x3), some (.inl x4), some (.inl (am_wrap (x5 + 1)))] [] M else am_bnd (am_run d 218 [.inr 0, .inr 1, .inl x5, .inl x1, .inl x4, .inl 0] M) (fun r1 M1 => (if (r1 : Int) = 0 then am_L d 219 14 [some (.inr 0), some (.inl x1), some (.inl x2), some (.inl x3), some (.inl x4), some (.inl (am_wrap (x5 + 1)))] [] M1 else some (x5, M1))))) else some ((-1), M)) := (am_blk am_h219 [14] 400 d 14 _ _ M).trans rfl
-- 220: LentHands.dear(III)I; stops [2]
set_option maxRecDepth 100000 in
theorem e220 (d : Nat) (p1 : Int) (p2 : Int) (p3 : Int) (M : am_M) : am_run (d + 1) 220 [.inr 0, .inl p1, .inl p2, .inl p3] M = am_L d 220 2 [some (.inr 0), some (.inl p1), some (.inl p2), some (.inl p3), some (.inl 99)] [] M := (am_run_s _ _ _ _).trans (((am_blk am_h220 [2] 400 d 0 _ _ M).trans rfl))
set_option maxRecDepth 100000 in
theorem e220_2 (d : Nat) (x1 : Int) (x2 : Int) (x3 : Int) (x4 : Int) (M : am_M) : am_L d 220 2 [some (.inr 0), some (.inl x1), some (.inl x2), some (.inl x3), some (.inl x4)] [] M = (if (x4 : Int) < 0 then some ((-1), M) else am_bnd (am_run d 218 [.inr 0, .inr 1, .inl x1, .inl x2, .inl x3, .inl x4] M) (fun r1 M1 => (if (r1 : Int) = 0 then am_L d 220 2 [some (.inr 0), some (.inl x1), some (.inl x2), some (.inl x3), some (.inl (am_wrap (x4 + (-1))))] [] M1 else some (x4, M1)))) := (am_blk am_h220 [2] 400 d 2 _ _ M).trans rfl
-- 221: LentHands.can(II)I; stops []
set_option maxRecDepth 100000 in
theorem e221 (d : Nat) (p1 : Int) (p2 : Int) (M : am_M) : am_run (d + 1) 221 [.inr 0, .inl p1, .inl p2] M = am_bnd (am_run d 134 [.inr 1, .inl p1] M) (fun r1 M1 => (if (r1 : Int) = 0 then some ((-1), M1) else am_bnd (am_run d 253 [.inl p2, .inl 0, .inl (am_wrap ((M1 32 0) - 1))] M1) (fun r2 M2 => (if (r2 : Int) = 0 then some ((-1), M2) else am_bnd (am_run d 222 [.inr 0, .inl p1, .inl p2] M2) (fun r3 M3 => (if (r3 : Int) = 0 then some (0, M3) else some (1, M3))))))) := (am_run_s _ _ _ _).trans (((am_blk am_h221 [] 400 d 0 _ _ M).trans rfl))
-- 222: LentHands.canDo(II)Z; stops []
set_option maxRecDepth 100000 in
theorem e222 (d : Nat) (p1 : Int) (p2 : Int) (M : am_M) : am_run (d + 1) 222 [.inr 0, .inl p1, .inl p2] M = am_chk (0 ≤ ((am_wrap (2 * p1)) : Int) ∧ (am_wrap (2 * p1)) < 16) (am_chk (0 ≤ ((am_wrap ((am_wrap (2 * p1)) + 1)) : Int) ∧ (am_wrap ((am_wrap (2 * p1)) + 1)) < 16) (am_bnd (am_run d 223 [.inr 0, .inl p2, .inl (M 6 (am_wrap (2 * p1))), .inl (M 6 (am_wrap ((am_wrap (2 * p1)) + 1)))] M) (fun r1 M1 => am_chk ((r1 : Int) = 0 ∨ r1 = 1) (some (r1, M1))))) := (am_run_s _ _ _ _).trans (((am_blk am_h222 [] 400 d 0 _ _ M).trans rfl))
-- 223: LentHands.suffice(III)Z; stops []
set_option maxRecDepth 100000 in
theorem e223 (d : Nat) (p1 : Int) (p2 : Int) (p3 : Int) (M : am_M) : am_run (d + 1) 223 [.inr 0, .inl p1, .inl p2, .inl p3] M = am_bnd (am_run d 224 [.inr 0, .inl p1, .inl p2] M) (fun r1 M1 => am_bnd (am_run d 224 [.inr 0, .inl p1, .inl p3] M1) (fun r2 M2 => am_bnd (am_run d 157 [.inr 32, .inl p1, .inl 3] M2) (fun r3 M3 => (if (r3 : Int) = 1 then (if (r1 : Int) = 0 then some (0, M3) else (if (r2 : Int) = 0 then some (0, M3) else some (1, M3))) else (if (r1 : Int) = 0 then (if (r2 : Int) = 0 then some (0, M3) else some (1, M3)) else some (1, M3)))))) := (am_run_s _ _ _ _).trans (((am_blk am_h223 [] 400 d 0 _ _ M).trans rfl))
-- 224: LentHands.suffices(II)Z; stops []
set_option maxRecDepth 100000 in
theorem e224 (d : Nat) (p1 : Int) (p2 : Int) (M : am_M) : am_run (d + 1) 224 [.inr 0, .inl p1, .inl p2] M = am_bnd (am_run d 157 [.inr 32, .inl p1, .inl 0] M) (fun r1 M1 => am_bnd (am_run d 135 [.inr 1, .inl p2] M1) (fun r2 M2 => (if (r2 : Int) = 0 then some (0, M2) else am_chk (0 ≤ ((am_wrap ((am_wrap (p2 * 4)) + r1)) : Int) ∧ (am_wrap ((am_wrap (p2 * 4)) + r1)) < 64) (am_bnd (am_run d 157 [.inr 32, .inl p1, .inl 1] M2) (fun r3 M3 => (if ((M2 8 (am_wrap ((am_wrap (p2 * 4)) + r1))) : Int) < r3 then some (0, M3) else some (1, M3))))))) := (am_run_s _ _ _ _).trans (((am_blk am_h224 [] 400 d 0 _ _ M).trans rfl))
-- 225: LentHands.pay(I)I; stops [18, 40]
set_option maxRecDepth 100000 in
theorem e225 (d : Nat) (p1 : Int) (M : am_M) : am_run (d + 1) 225 [.inr 0, .inl p1] M = (if (p1 : Int) = 0 then am_L d 225 18 [some (.inr 0), some (.inl p1), some (.inl (M 32 0)), some (.inl 0)] [] M else am_bnd (am_run d 253 [.inl p1, .inl 10, .inl (am_wrap (9 + (M 32 0)))] M) (fun r1 M1 => (if (r1 : Int) = 0 then some ((-1), M1) else am_L d 225 18 [some (.inr 0), some (.inl p1), some (.inl (M 32 0)), some (.inl 0)] [] M1))) := (am_run_s _ _ _ _).trans (((am_blk am_h225 [18, 40] 400 d 0 _ _ M).trans rfl))
set_option maxRecDepth 100000 in
theorem e225_18 (d : Nat) (x1 : Int) (x2 : Int) (x3 : Int) (M : am_M) : am_L d 225 18 [some (.inr 0), some (.inl x1), some (.inl x2), some (.inl x3)] [] M = (if (x3 : Int) < (am_ishl 1 (M 1 2)) then am_chk (0 ≤ ((am_wrap ((am_ishl x2 8) + x3)) : Int) ∧ (am_wrap ((am_ishl x2 8) + x3)) < 2304) (am_L d 225 18 [some (.inr 0), some (.inl x1), some (.inl x2), some (.inl (am_wrap (x3 + 1)))] [] (am_upd M 107 (am_wrap ((am_ishl x2 8) + x3)) 0)) else am_L d 225 40 [some (.inr 0), some (.inl x1), some (.inl x2), some (.inl (am_wrap (x2 - 1)))] [] M) := (am_blk am_h225 [18, 40] 400 d 18 _ _ M).trans rfl
set_option maxRecDepth 100000 in
theorem e225_40 (d : Nat) (x1 : Int) (x2 : Int) (x3 : Int) (M : am_M) : am_L d 225 40 [some (.inr 0), some (.inl x1), some (.inl x2), some (.inl x3)] [] M = (if (x3 : Int) < 0 then (if (x1 : Int) = 0 then am_chk (0 ≤ (0 : Int) ∧ 0 < 2304) (some ((M 107 0), M)) else am_bnd (am_run d 228 [.inr 0, .inl (am_wrap (x1 - 10))] M) (fun r1 M1 => some (r1, M1))) else am_bnd (am_run d 226 [.inr 0, .inl x3] M) (fun _ M2 => am_L d 225 40 [some (.inr 0), some (.inl x1), some (.inl x2), some (.inl (am_wrap (x3 + (-1))))] [] M2)) := (am_blk am_h225 [18, 40] 400 d 40 _ _ M).trans rfl
-- 226: LentHands.planWork(I)V; stops [23, 39]
set_option maxRecDepth 100000 in
theorem e226 (d : Nat) (p1 : Int) (M : am_M) : am_run (d + 1) 226 [.inr 0, .inl p1] M = am_bnd (am_run d 157 [.inr 32, .inl p1, .inl 2] M) (fun r1 M1 => am_bnd (am_run d 227 [.inr 0, .inl p1] M1) (fun r2 M2 => am_L d 226 23 [some (.inr 0), some (.inl p1), some (.inl (am_ishl p1 8)), some (.inl (am_ishl (am_wrap (p1 + 1)) 8)), some (.inl r1), some (.inl r2), some (.inl 0), none, none] [] M2)) := (am_run_s _ _ _ _).trans (((am_blk am_h226 [23, 39] 400 d 0 _ _ M).trans rfl))
set_option maxRecDepth 100000 in
theorem e226_23 (d : Nat) (x1 : Int) (x2 : Int) (x3 : Int) (x4 : Int) (x5 : Int) (x6 : Int) (o7 : Option am_V) (o8 : Option am_V) (M : am_M) : am_L d 226 23 [some (.inr 0), some (.inl x1), some (.inl x2), some (.inl x3), some (.inl x4), some (.inl x5), some (.inl x6), o7, o8] [] M = (if (x6 : Int) < (am_ishl 1 (M 1 2)) then am_chk (0 ≤ ((am_wrap (x3 + x6)) : Int) ∧ (am_wrap (x3 + x6)) < 2304) (am_L d 226 39 [some (.inr 0), some (.inl x1), some (.inl x2), some (.inl x3), some (.inl x4), some (.inl x5), some (.inl x6), some (.inl (M 107 (am_wrap (x3 + x6)))), some (.inl 0)] [] M) else some (0, M)) := (am_blk am_h226 [23, 39] 400 d 23 _ _ M).trans rfl
set_option maxRecDepth 100000 in
theorem e226_39 (d : Nat) (x1 : Int) (x2 : Int) (x3 : Int) (x4 : Int) (x5 : Int) (x6 : Int) (x7 : Int) (x8 : Int) (M : am_M) : am_L d 226 39 [some (.inr 0), some (.inl x1), some (.inl x2), some (.inl x3), some (.inl x4), some (.inl x5), some (.inl x6), some (.inl x7), some (.inl x8)] [] M = (if (x8 : Int) < (M 1 2) then (if ((am_iand (am_ishr (am_iand x5 (am_ixor x6 (-1))) x8) 1) : Int) = 1 then am_chk (0 ≤ ((am_wrap (x3 + (am_ior x6 (am_ishl 1 x8)))) : Int) ∧ (am_wrap (x3 + (am_ior x6 (am_ishl 1 x8)))) < 2304) (am_L d 226 39 [some (.inr 0), some (.inl x1), some (.inl x2), some (.inl x3), some (.inl x4), some (.inl x5), some (.inl x6), some (.inl (max x7 (am_wrap (x4 + (M 107 (am_wrap (x3 + (am_ior x6 (am_ishl 1 x8))))))))), some (.inl (am_wrap (x8 + 1)))] [] M) else am_L d 226 39 [some (.inr 0), some (.inl x1), some (.inl x2), some (.inl x3), some (.inl x4), some (.inl x5), some (.inl x6), some (.inl x7), some (.inl (am_wrap (x8 + 1)))] [] M) else am_chk (0 ≤ ((am_wrap (x2 + x6)) : Int) ∧ (am_wrap (x2 + x6)) < 2304) (am_L d 226 23 [some (.inr 0), some (.inl x1), some (.inl x2), some (.inl x3), some (.inl x4), some (.inl x5), some (.inl (am_wrap (x6 + 1))), some (.inl x7), some (.inl x8)] [] (am_upd M 107 (am_wrap (x2 + x6)) x7))) := (am_blk am_h226 [23, 39] 400 d 39 _ _ M).trans rfl
-- 227: LentHands.doersOf(I)I; stops [4]
set_option maxRecDepth 100000 in
theorem e227 (d : Nat) (p1 : Int) (M : am_M) : am_run (d + 1) 227 [.inr 0, .inl p1] M = am_L d 227 4 [some (.inr 0), some (.inl p1), some (.inl 0), some (.inl 0)] [] M := (am_run_s _ _ _ _).trans (((am_blk am_h227 [4] 400 d 0 _ _ M).trans rfl))
set_option maxRecDepth 100000 in
theorem e227_4 (d : Nat) (x1 : Int) (x2 : Int) (x3 : Int) (M : am_M) : am_L d 227 4 [some (.inr 0), some (.inl x1), some (.inl x2), some (.inl x3)] [] M = (if (x3 : Int) < (M 1 2) then am_bnd (am_run d 222 [.inr 0, .inl x3, .inl x1] M) (fun r1 M1 => (if (r1 : Int) = 0 then am_L d 227 4 [some (.inr 0), some (.inl x1), some (.inl x2), some (.inl (am_wrap (x3 + 1)))] [] M1 else am_L d 227 4 [some (.inr 0), some (.inl x1), some (.inl (am_ior x2 (am_ishl 1 x3))), some (.inl (am_wrap (x3 + 1)))] [] M1)) else some (x2, M)) := (am_blk am_h227 [4] 400 d 4 _ _ M).trans rfl
-- 228: LentHands.doer(I)I; stops [6]
set_option maxRecDepth 100000 in
theorem e228 (d : Nat) (p1 : Int) (M : am_M) : am_run (d + 1) 228 [.inr 0, .inl p1] M = am_L d 228 6 [some (.inr 0), some (.inl p1), some (.inl 0), some (.inl (-1)), some (.inl 0)] [] M := (am_run_s _ _ _ _).trans (((am_blk am_h228 [6] 400 d 0 _ _ M).trans rfl))
set_option maxRecDepth 100000 in
theorem e228_6 (d : Nat) (x1 : Int) (x2 : Int) (x3 : Int) (x4 : Int) (M : am_M) : am_L d 228 6 [some (.inr 0), some (.inl x1), some (.inl x2), some (.inl x3), some (.inl x4)] [] M = (if (x1 : Int) < x4 then some (x3, M) else am_bnd (am_run d 229 [.inr 0, .inl x4, .inl x2] M) (fun r1 M1 => (if (r1 : Int) = (-1) then am_L d 228 6 [some (.inr 0), some (.inl x1), some (.inl x2), some (.inl r1), some (.inl (am_wrap (x4 + 1)))] [] M1 else am_L d 228 6 [some (.inr 0), some (.inl x1), some (.inl (am_ior x2 (am_ishl 1 r1))), some (.inl r1), some (.inl (am_wrap (x4 + 1)))] [] M1))) := (am_blk am_h228 [6] 400 d 6 _ _ M).trans rfl
-- 229: LentHands.firstDoer(II)I; stops [42]
set_option maxRecDepth 100000 in
theorem e229 (d : Nat) (p1 : Int) (p2 : Int) (M : am_M) : am_run (d + 1) 229 [.inr 0, .inl p1, .inl p2] M = am_chk (0 ≤ ((am_wrap ((am_ishl p1 8) + p2)) : Int) ∧ (am_wrap ((am_ishl p1 8) + p2)) < 2304) (am_chk (0 ≤ ((am_wrap ((am_ishl (am_wrap (p1 + 1)) 8) + p2)) : Int) ∧ (am_wrap ((am_ishl (am_wrap (p1 + 1)) 8) + p2)) < 2304) ((if ((M 107 (am_wrap ((am_ishl (am_wrap (p1 + 1)) 8) + p2))) : Int) = (M 107 (am_wrap ((am_ishl p1 8) + p2))) then some ((-1), M) else am_bnd (am_run d 157 [.inr 32, .inl p1, .inl 2] M) (fun r1 M1 => am_bnd (am_run d 227 [.inr 0, .inl p1] M1) (fun r2 M2 => am_L d 229 42 [some (.inr 0), some (.inl p1), some (.inl p2), some (.inl (am_ishl (am_wrap (p1 + 1)) 8)), some (.inl (M 107 (am_wrap ((am_ishl p1 8) + p2)))), some (.inl r1), some (.inl (am_iand r2 (am_ixor p2 (-1)))), some (.inl 0)] [] M2))))) := (am_run_s _ _ _ _).trans (((am_blk am_h229 [42] 400 d 0 _ _ M).trans rfl))
set_option maxRecDepth 100000 in
theorem e229_42 (d : Nat) (x1 : Int) (x2 : Int) (x3 : Int) (x4 : Int) (x5 : Int) (x6 : Int) (x7 : Int) (M : am_M) : am_L d 229 42 [some (.inr 0), some (.inl x1), some (.inl x2), some (.inl x3), some (.inl x4), some (.inl x5), some (.inl x6), some (.inl x7)] [] M = (if (x7 : Int) < (M 1 2) then (if ((am_iand (am_ishr x6 x7) 1) : Int) = 1 then am_chk (0 ≤ ((am_wrap (x3 + (am_ior x2 (am_ishl 1 x7)))) : Int) ∧ (am_wrap (x3 + (am_ior x2 (am_ishl 1 x7)))) < 2304) ((if ((am_wrap (x5 + (M 107 (am_wrap (x3 + (am_ior x2 (am_ishl 1 x7))))))) : Int) = x4 then some (x7, M) else am_L d 229 42 [some (.inr 0), some (.inl x1), some (.inl x2), some (.inl x3), some (.inl x4), some (.inl x5), some (.inl x6), some (.inl (am_wrap (x7 + 1)))] [] M)) else am_L d 229 42 [some (.inr 0), some (.inl x1), some (.inl x2), some (.inl x3), some (.inl x4), some (.inl x5), some (.inl x6), some (.inl (am_wrap (x7 + 1)))] [] M) else some ((-1), M)) := (am_blk am_h229 [42] 400 d 42 _ _ M).trans rfl
-- 230: LentHands.wishes(III)I; stops [75]
set_option maxRecDepth 100000 in
theorem e230 (d : Nat) (p1 : Int) (p2 : Int) (p3 : Int) (M : am_M) : am_run (d + 1) 230 [.inr 0, .inl p1, .inl p2, .inl p3] M = am_bnd (am_run d 134 [.inr 1, .inl p1] M) (fun r1 M1 => (if (r1 : Int) = 0 then some ((-2), M1) else am_bnd (am_run d 253 [.inl p2, .inl 0, .inl (am_wrap ((M1 32 0) - 1))] M1) (fun r2 M2 => (if (r2 : Int) = 0 then some ((-2), M2) else am_bnd (am_run d 253 [.inl p3, .inl 0, .inl 2] M2) (fun r3 M3 => (if (r3 : Int) = 0 then some ((-2), M3) else am_bnd (am_run d 222 [.inr 0, .inl p1, .inl p2] M3) (fun r4 M4 => (if (r4 : Int) = 0 then am_bnd (am_run d 231 [.inr 0, .inl p1, .inl p2, .inl 1] M4) (fun r5 M5 => (if (r5 : Int) = (-1) then am_bnd (am_run d 231 [.inr 0, .inl p1, .inl p2, .inl 0] M5) (fun r6 M6 => (if (r6 : Int) = (-1) then am_L d 230 75 [some (.inr 0), some (.inl p1), some (.inl p2), some (.inl p3), some (.inl r5), some (.inl 0)] [] M6 else (if (p3 : Int) = 0 then some (1, M6) else (if (p3 : Int) = 1 then some (r6, M6) else some ((-1), M6))))) else (if (p3 : Int) = 0 then some (1, M5) else (if (p3 : Int) = 1 then some ((-1), M5) else some (r5, M5))))) else (if (p3 : Int) = 0 then some (0, M4) else some ((-1), M4)))))))))) := (am_run_s _ _ _ _).trans (((am_blk am_h230 [75] 400 d 0 _ _ M).trans rfl))
set_option maxRecDepth 100000 in
theorem e230_75 (d : Nat) (x1 : Int) (x2 : Int) (x3 : Int) (x4 : Int) (x5 : Int) (M : am_M) : am_L d 230 75 [some (.inr 0), some (.inl x1), some (.inl x2), some (.inl x3), some (.inl x4), some (.inl x5)] [] M = (if (x5 : Int) < (am_wrap (2 * (M 1 2))) then am_bnd (am_run d 232 [.inr 0, .inl x1, .inl x2, .inl x5] M) (fun r1 M1 => (if (r1 : Int) = (-1) then am_L d 230 75 [some (.inr 0), some (.inl x1), some (.inl x2), some (.inl x3), some (.inl r1), some (.inl (am_wrap (x5 + 2)))] [] M1 else (if (x3 : Int) = 0 then some (2, M1) else (if (x3 : Int) = 1 then some (x5, M1) else some (r1, M1))))) else some ((-2), M)) := (am_blk am_h230 [75] 400 d 75 _ _ M).trans rfl
-- 231: LentHands.oneWish(III)I; stops [14]
set_option maxRecDepth 100000 in
theorem e231 (d : Nat) (p1 : Int) (p2 : Int) (p3 : Int) (M : am_M) : am_run (d + 1) 231 [.inr 0, .inl p1, .inl p2, .inl p3] M = am_chk (0 ≤ ((am_wrap ((am_wrap ((am_wrap (2 * p1)) + 1)) - p3)) : Int) ∧ (am_wrap ((am_wrap ((am_wrap (2 * p1)) + 1)) - p3)) < 16) (am_L d 231 14 [some (.inr 0), some (.inl p1), some (.inl p2), some (.inl p3), some (.inl (M 6 (am_wrap ((am_wrap ((am_wrap (2 * p1)) + 1)) - p3)))), some (.inl p3)] [] M) := (am_run_s _ _ _ _).trans (((am_blk am_h231 [14] 400 d 0 _ _ M).trans rfl))
set_option maxRecDepth 100000 in
theorem e231_14 (d : Nat) (x1 : Int) (x2 : Int) (x3 : Int) (x4 : Int) (x5 : Int) (M : am_M) : am_L d 231 14 [some (.inr 0), some (.inl x1), some (.inl x2), some (.inl x3), some (.inl x4), some (.inl x5)] [] M = (if (x5 : Int) < (am_wrap (2 * (M 1 2))) then am_bnd (am_run d 223 [.inr 0, .inl x2, .inl x5, .inl x4] M) (fun r1 M1 => (if (r1 : Int) = 0 then am_L d 231 14 [some (.inr 0), some (.inl x1), some (.inl x2), some (.inl x3), some (.inl x4), some (.inl (am_wrap (x5 + 2)))] [] M1 else am_bnd (am_run d 218 [.inr 0, .inr 1, .inl x5, .inl x1, .inl 1, .inl 0] M1) (fun r2 M2 => (if (r2 : Int) = 0 then am_L d 231 14 [some (.inr 0), some (.inl x1), some (.inl x2), some (.inl x3), some (.inl x4), some (.inl (am_wrap (x5 + 2)))] [] M2 else some (x5, M2))))) else some ((-1), M)) := (am_blk am_h231 [14] 400 d 14 _ _ M).trans rfl
-- 232: LentHands.secondWish(III)I; stops [26]
set_option maxRecDepth 100000 in
theorem e232 (d : Nat) (p1 : Int) (p2 : Int) (p3 : Int) (M : am_M) : am_run (d + 1) 232 [.inr 0, .inl p1, .inl p2, .inl p3] M = am_bnd (am_run d 218 [.inr 0, .inr 1, .inl p3, .inl p1, .inl 1, .inl 0] M) (fun r1 M1 => (if (r1 : Int) = 0 then some ((-1), M1) else am_bnd (am_run d 133 [.inr 14, .inr 1] M1) (fun _ M2 => am_bnd (am_run d 147 [.inr 14, .inl p3, .inl p1, .inl 1, .inl 0] M2) (fun r3 M3 => am_L d 232 26 [some (.inr 0), some (.inl p1), some (.inl p2), some (.inl p3), some (.inl 1)] [] M3)))) := (am_run_s _ _ _ _).trans (((am_blk am_h232 [26] 400 d 0 _ _ M).trans rfl))
set_option maxRecDepth 100000 in
theorem e232_26 (d : Nat) (x1 : Int) (x2 : Int) (x3 : Int) (x4 : Int) (M : am_M) : am_L d 232 26 [some (.inr 0), some (.inl x1), some (.inl x2), some (.inl x3), some (.inl x4)] [] M = (if (x4 : Int) < (am_wrap (2 * (M 1 2))) then am_bnd (am_run d 223 [.inr 0, .inl x2, .inl x3, .inl x4] M) (fun r1 M1 => (if (r1 : Int) = 0 then am_L d 232 26 [some (.inr 0), some (.inl x1), some (.inl x2), some (.inl x3), some (.inl (am_wrap (x4 + 2)))] [] M1 else am_bnd (am_run d 218 [.inr 0, .inr 14, .inl x4, .inl x1, .inl 1, .inl 0] M1) (fun r2 M2 => (if (r2 : Int) = 0 then am_L d 232 26 [some (.inr 0), some (.inl x1), some (.inl x2), some (.inl x3), some (.inl (am_wrap (x4 + 2)))] [] M2 else some (x4, M2))))) else some ((-1), M)) := (am_blk am_h232 [26] 400 d 26 _ _ M).trans rfl
-- 233: LentHands.passHour(LLentHands$World;Z)I; stops [6]
set_option maxRecDepth 100000 in
theorem e233 (d : Nat) (a1 : Nat) (p2 : Int) (M : am_M) : am_run (d + 1) 233 [.inr 0, .inr a1, .inl p2] M = am_bnd (am_run d 234 [.inr 0, .inr a1] M) (fun r1 M1 => am_L d 233 6 [some (.inr 0), some (.inr a1), some (.inl p2), some (.inl r1), some (.inl 0)] [] M1) := (am_run_s _ _ _ _).trans (((am_blk am_h233 [6] 400 d 0 _ _ M).trans rfl))
set_option maxRecDepth 100000 in
theorem e233_6 (d : Nat) (a1 : Nat) (x2 : Int) (x3 : Int) (x4 : Int) (M : am_M) : am_L d 233 6 [some (.inr 0), some (.inr a1), some (.inl x2), some (.inl x3), some (.inl x4)] [] M = cond (Nat.beq (am_cls a1) 5) ((if (x4 : Int) < (M a1 2) then cond (Nat.beq (am_cls a1) 5) (cond (Nat.beq (am_cls (am_rf a1 7)) 9 || Nat.beq (am_cls (am_rf a1 7)) 12) (am_chk (0 ≤ (x4 : Int) ∧ x4 < (am_len M (am_rf a1 7))) ((if ((M (am_rf a1 7) x4) : Int) = (-1) then am_L d 233 6 [some (.inr 0), some (.inr a1), some (.inl x2), some (.inl x3), some (.inl (am_wrap (x4 + 1)))] [] M else am_bnd (am_run d 235 [.inr 0, .inr a1, .inl x4, .inl 0, .inl x2] M) (fun _ M3 => am_bnd (am_run d 235 [.inr 0, .inr a1, .inl x4, .inl 1, .inl x2] M3) (fun _ M4 => am_L d 233 6 [some (.inr 0), some (.inr a1), some (.inl x2), some (.inl x3), some (.inl (am_wrap (x4 + 1)))] [] M4))))) none) none else am_bnd (am_run d 149 [.inr a1] M) (fun _ M1 => am_bnd (am_run d 150 [.inr a1] M1) (fun _ M2 => some (x3, M2))))) none := (am_blk am_h233 [6] 400 d 6 _ _ M).trans rfl
-- 234: LentHands.runBookings(LLentHands$World;)I; stops [8]
set_option maxRecDepth 100000 in
theorem e234 (d : Nat) (a1 : Nat) (M : am_M) : am_run (d + 1) 234 [.inr 0, .inr a1] M = am_L d 234 8 [some (.inr 0), some (.inr a1), some (.inr 30), some (.inl 0), some (.inl 0), none, none, none, none] [] M := (am_run_s _ _ _ _).trans (((am_blk am_h234 [8] 400 d 0 _ _ M).trans rfl))
set_option maxRecDepth 100000 in
theorem e234_8 (d : Nat) (a1 : Nat) (x3 : Int) (x4 : Int) (o5 : Option am_V) (o6 : Option am_V) (o7 : Option am_V) (o8 : Option am_V) (M : am_M) : am_L d 234 8 [some (.inr 0), some (.inr a1), some (.inr 30), some (.inl x3), some (.inl x4), o5, o6, o7, o8] [] M = (if (x4 : Int) < (M 30 0) then am_bnd (am_run d 157 [.inr 30, .inl x4, .inl 2] M) (fun r1 M1 => cond (Nat.beq (am_cls a1) 5) ((if (r1 : Int) = (M1 a1 1) then am_bnd (am_run d 157 [.inr 30, .inl x4, .inl 0] M1) (fun r2 M2 => am_bnd (am_run d 157 [.inr 30, .inl x4, .inl 1] M2) (fun r3 M3 => am_bnd (am_run d 157 [.inr 30, .inl x4, .inl 3] M3) (fun r4 M4 => am_bnd (am_run d 157 [.inr 30, .inl x4, .inl 4] M4) (fun r5 M5 => am_bnd (am_run d 218 [.inr 0, .inr a1, .inl r2, .inl r3, .inl r4, .inl r5] M5) (fun r6 M6 => (if (r6 : Int) = 0 then am_L d 234 8 [some (.inr 0), some (.inr a1), some (.inr 30), some (.inl (am_ior x3 (am_ishl 1 x4))), some (.inl (am_wrap (x4 + 1))), some (.inl r2), some (.inl r3), some (.inl r4), some (.inl r5)] [] M6 else am_bnd (am_run d 147 [.inr a1, .inl r2, .inl r3, .inl r4, .inl r5] M6) (fun r7 M7 => am_L d 234 8 [some (.inr 0), some (.inr a1), some (.inr 30), some (.inl x3), some (.inl (am_wrap (x4 + 1))), some (.inl r2), some (.inl r3), some (.inl r4), some (.inl r5)] [] M7))))))) else am_L d 234 8 [some (.inr 0), some (.inr a1), some (.inr 30), some (.inl x3), some (.inl (am_wrap (x4 + 1))), o5, o6, o7, o8] [] M1)) none) else some (x3, M)) := (am_blk am_h234 [8] 400 d 8 _ _ M).trans rfl
-- 235: LentHands.toilOn(LLentHands$World;IIZ)V; stops []
set_option maxRecDepth 100000 in
theorem e235 (d : Nat) (a1 : Nat) (p2 : Int) (p3 : Int) (p4 : Int) (M : am_M) : am_run (d + 1) 235 [.inr 0, .inr a1, .inl p2, .inl p3, .inl p4] M = cond (Nat.beq (am_cls a1) 5) (cond (Nat.beq (am_cls (am_rf a1 9)) 9 || Nat.beq (am_cls (am_rf a1 9)) 12) (am_chk (0 ≤ ((am_wrap ((am_wrap (2 * p2)) + p3)) : Int) ∧ (am_wrap ((am_wrap (2 * p2)) + p3)) < (am_len M (am_rf a1 9))) ((if ((M (am_rf a1 9) (am_wrap ((am_wrap (2 * p2)) + p3))) : Int) = (-1) then some (0, M) else cond (Nat.beq (am_cls a1) 5) (cond (Nat.beq (am_cls (am_rf a1 7)) 9 || Nat.beq (am_cls (am_rf a1 7)) 12) (am_chk (0 ≤ (p2 : Int) ∧ p2 < (am_len M (am_rf a1 7))) (am_bnd (am_run d 236 [.inr 0, .inr a1, .inl p2, .inl (M (am_rf a1 9) (am_wrap ((am_wrap (2 * p2)) + p3))), .inl (M (am_rf a1 7) p2)] M) (fun r1 M1 => (if (p4 : Int) = 0 then some (0, M1) else (if (0 : Int) < r1 then am_bnd (am_run d 148 [.inr a1] M1) (fun r2 M2 => (if (r2 : Int) < r1 then cond (Nat.beq (am_cls a1) 5) (cond (Nat.beq (am_cls a1) 5) (cond (Nat.beq (am_cls (am_rf a1 13)) 9 || Nat.beq (am_cls (am_rf a1 13)) 12) (am_chk (0 ≤ ((M (am_rf a1 9) (am_wrap ((am_wrap (2 * p2)) + p3))) : Int) ∧ (M (am_rf a1 9) (am_wrap ((am_wrap (2 * p2)) + p3))) < (am_len M2 (am_rf a1 13))) (cond (Nat.beq (am_cls (am_rf a1 13)) 9) (am_chk (0 ≤ ((M (am_rf a1 9) (am_wrap ((am_wrap (2 * p2)) + p3))) : Int) ∧ (M (am_rf a1 9) (am_wrap ((am_wrap (2 * p2)) + p3))) < (am_len M2 (am_rf a1 13))) (some (0, (am_upd M2 (am_rf a1 13) (M (am_rf a1 9) (am_wrap ((am_wrap (2 * p2)) + p3))) (min (am_wrap ((M2 (am_rf a1 13) (M (am_rf a1 9) (am_wrap ((am_wrap (2 * p2)) + p3)))) + 1)) 9))))) none)) none) none) none else some (0, M2))) else some (0, M1)))))) none) none))) none) none := (am_run_s _ _ _ _).trans (((am_blk am_h235 [] 400 d 0 _ _ M).trans rfl))
-- 236: LentHands.toil(LLentHands$World;III)I; stops []
set_option maxRecDepth 100000 in
theorem e236 (d : Nat) (a1 : Nat) (p2 : Int) (p3 : Int) (p4 : Int) (M : am_M) : am_run (d + 1) 236 [.inr 0, .inr a1, .inl p2, .inl p3, .inl p4] M = am_bnd (am_run d 251 [.inr 0, .inr a1, .inl p3, .inl p2] M) (fun _ M1 => cond (Nat.beq (am_cls a1) 5) (cond (Nat.beq (am_cls (am_rf a1 11)) 9 || Nat.beq (am_cls (am_rf a1 11)) 12) (am_chk (0 ≤ ((am_wrap ((am_wrap (p3 * 4)) + p4)) : Int) ∧ (am_wrap ((am_wrap (p3 * 4)) + p4)) < (am_len M1 (am_rf a1 11))) (am_chk (0 ≤ (10 : Int) ∧ 10 < 14) (am_chk (0 ≤ (12 : Int) ∧ 12 < 14) (cond (Nat.beq (am_cls a1) 5) (am_chk (0 ≤ (13 : Int) ∧ 13 < 14) (am_chk (0 ≤ (1 : Int) ∧ 1 < 3) (am_bnd (am_run d 155 [.inr 40, .inl 20, .inr 104] (am_upd (am_upd (am_upd M1 105 10 (M1 (am_rf a1 11) (am_wrap ((am_wrap (p3 * 4)) + p4)))) 105 12 p4) 105 13 ((am_upd (am_upd M1 105 10 (M1 (am_rf a1 11) (am_wrap ((am_wrap (p3 * 4)) + p4)))) 105 12 p4) a1 1))) (fun r2 M2 => am_bnd (am_run d 254 [.inl r2, .inl 9] M2) (fun r3 M3 => am_bnd (am_run d 155 [.inr 40, .inl 21, .inr 104] M3) (fun r4 M4 => am_bnd (am_run d 254 [.inl r4, .inl 9] M4) (fun r5 M5 => am_bnd (am_run d 155 [.inr 40, .inl 23, .inr 104] M5) (fun r6 M6 => am_bnd (am_run d 254 [.inl r6, .inl 99] M6) (fun r7 M7 => am_bnd (am_run d 155 [.inr 40, .inl 22, .inr 104] M7) (fun r8 M8 => am_bnd (am_run d 254 [.inl r8, .inl 1000] M8) (fun r9 M9 => cond (Nat.beq (am_cls a1) 5) (cond (Nat.beq (am_cls a1) 5) (cond (Nat.beq (am_cls (am_rf a1 11)) 9 || Nat.beq (am_cls (am_rf a1 11)) 12) (am_chk (0 ≤ ((am_wrap ((am_wrap (p3 * 4)) + p4)) : Int) ∧ (am_wrap ((am_wrap (p3 * 4)) + p4)) < (am_len M9 (am_rf a1 11))) (cond (Nat.beq (am_cls (am_rf a1 11)) 9) (am_chk (0 ≤ ((am_wrap ((am_wrap (p3 * 4)) + p4)) : Int) ∧ (am_wrap ((am_wrap (p3 * 4)) + p4)) < (am_len M9 (am_rf a1 11))) (cond (Nat.beq (am_cls a1) 5) (cond (Nat.beq (am_cls a1) 5) (cond (Nat.beq (am_cls (am_rf a1 12)) 9 || Nat.beq (am_cls (am_rf a1 12)) 12) (am_chk (0 ≤ (p3 : Int) ∧ p3 < (am_len (am_upd M9 (am_rf a1 11) (am_wrap ((am_wrap (p3 * 4)) + p4)) (min (am_wrap ((M9 (am_rf a1 11) (am_wrap ((am_wrap (p3 * 4)) + p4))) + r3)) 99)) (am_rf a1 12))) (cond (Nat.beq (am_cls (am_rf a1 12)) 9) (am_chk (0 ≤ (p3 : Int) ∧ p3 < (am_len (am_upd M9 (am_rf a1 11) (am_wrap ((am_wrap (p3 * 4)) + p4)) (min (am_wrap ((M9 (am_rf a1 11) (am_wrap ((am_wrap (p3 * 4)) + p4))) + r3)) 99)) (am_rf a1 12))) (cond (Nat.beq (am_cls a1) 5) (cond (Nat.beq (am_cls a1) 5) (cond (Nat.beq (am_cls (am_rf a1 5)) 9 || Nat.beq (am_cls (am_rf a1 5)) 12) (am_chk (0 ≤ (p2 : Int) ∧ p2 < (am_len (am_upd (am_upd M9 (am_rf a1 11) (am_wrap ((am_wrap (p3 * 4)) + p4)) (min (am_wrap ((M9 (am_rf a1 11) (am_wrap ((am_wrap (p3 * 4)) + p4))) + r3)) 99)) (am_rf a1 12) p3 (min (am_wrap (((am_upd M9 (am_rf a1 11) (am_wrap ((am_wrap (p3 * 4)) + p4)) (min (am_wrap ((M9 (am_rf a1 11) (am_wrap ((am_wrap (p3 * 4)) + p4))) + r3)) 99)) (am_rf a1 12) p3) + r5)) 99)) (am_rf a1 5))) (cond (Nat.beq (am_cls (am_rf a1 5)) 9) (am_chk (0 ≤ (p2 : Int) ∧ p2 < (am_len (am_upd (am_upd M9 (am_rf a1 11) (am_wrap ((am_wrap (p3 * 4)) + p4)) (min (am_wrap ((M9 (am_rf a1 11) (am_wrap ((am_wrap (p3 * 4)) + p4))) + r3)) 99)) (am_rf a1 12) p3 (min (am_wrap (((am_upd M9 (am_rf a1 11) (am_wrap ((am_wrap (p3 * 4)) + p4)) (min (am_wrap ((M9 (am_rf a1 11) (am_wrap ((am_wrap (p3 * 4)) + p4))) + r3)) 99)) (am_rf a1 12) p3) + r5)) 99)) (am_rf a1 5))) (some (r9, (am_upd (am_upd (am_upd M9 (am_rf a1 11) (am_wrap ((am_wrap (p3 * 4)) + p4)) (min (am_wrap ((M9 (am_rf a1 11) (am_wrap ((am_wrap (p3 * 4)) + p4))) + r3)) 99)) (am_rf a1 12) p3 (min (am_wrap (((am_upd M9 (am_rf a1 11) (am_wrap ((am_wrap (p3 * 4)) + p4)) (min (am_wrap ((M9 (am_rf a1 11) (am_wrap ((am_wrap (p3 * 4)) + p4))) + r3)) 99)) (am_rf a1 12) p3) + r5)) 99)) (am_rf a1 5) p2 (min (am_wrap (((am_upd (am_upd M9 (am_rf a1 11) (am_wrap ((am_wrap (p3 * 4)) + p4)) (min (am_wrap ((M9 (am_rf a1 11) (am_wrap ((am_wrap (p3 * 4)) + p4))) + r3)) 99)) (am_rf a1 12) p3 (min (am_wrap (((am_upd M9 (am_rf a1 11) (am_wrap ((am_wrap (p3 * 4)) + p4)) (min (am_wrap ((M9 (am_rf a1 11) (am_wrap ((am_wrap (p3 * 4)) + p4))) + r3)) 99)) (am_rf a1 12) p3) + r5)) 99)) (am_rf a1 5) p2) + r7)) 9999))))) none)) none) none) none)) none)) none) none) none)) none)) none) none) none))))))))))) none)))) none) none) := (am_run_s _ _ _ _).trans (((am_blk am_h236 [] 400 d 0 _ _ M).trans rfl))
-- 237: LentHands.thinkAhead(I)V; stops [7]
set_option maxRecDepth 100000 in
theorem e237 (d : Nat) (p1 : Int) (M : am_M) : am_run (d + 1) 237 [.inr 0, .inl p1] M = am_bnd (am_run d 133 [.inr 14, .inr 1] M) (fun _ M1 => am_L d 237 7 [some (.inr 0), some (.inl p1), some (.inl 0)] [] M1) := (am_run_s _ _ _ _).trans (((am_blk am_h237 [7] 400 d 0 _ _ M).trans rfl))
set_option maxRecDepth 100000 in
theorem e237_7 (d : Nat) (x1 : Int) (x2 : Int) (M : am_M) : am_L d 237 7 [some (.inr 0), some (.inl x1), some (.inl x2)] [] M = (if (x2 : Int) < x1 then am_bnd (am_run d 233 [.inr 0, .inr 14, .inl 0] M) (fun r1 M1 => am_L d 237 7 [some (.inr 0), some (.inl x1), some (.inl (am_wrap (x2 + 1)))] [] M1) else some (0, M)) := (am_blk am_h237 [7] 400 d 7 _ _ M).trans rfl
-- 238: LentHands.back()I; stops [7]
set_option maxRecDepth 100000 in
theorem e238 (d : Nat) (M : am_M) : am_run (d + 1) 238 [.inr 0] M = am_bnd (am_run d 133 [.inr 14, .inr 1] M) (fun _ M1 => am_L d 238 7 [some (.inr 0), some (.inl 0)] [] M1) := (am_run_s _ _ _ _).trans (((am_blk am_h238 [7] 400 d 0 _ _ M).trans rfl))
set_option maxRecDepth 100000 in
theorem e238_7 (d : Nat) (x1 : Int) (M : am_M) : am_L d 238 7 [some (.inr 0), some (.inl x1)] [] M = (if (x1 : Int) < 300 then am_bnd (am_run d 140 [.inr 14] M) (fun r2 M2 => (if (r2 : Int) = 0 then some ((M2 14 1), M2) else am_bnd (am_run d 233 [.inr 0, .inr 14, .inl 0] M2) (fun r3 M3 => am_L d 238 7 [some (.inr 0), some (.inl (am_wrap (x1 + 1)))] [] M3))) else am_bnd (am_run d 140 [.inr 14] M) (fun r1 M1 => (if (r1 : Int) = 0 then some ((M1 14 1), M1) else some ((-1), M1)))) := (am_blk am_h238 [7] 400 d 7 _ _ M).trans rfl
-- 239: LentHands.where(II)I; stops []
set_option maxRecDepth 100000 in
theorem e239 (d : Nat) (p1 : Int) (p2 : Int) (M : am_M) : am_run (d + 1) 239 [.inr 0, .inl p1, .inl p2] M = am_bnd (am_run d 135 [.inr 1, .inl p1] M) (fun r1 M1 => (if (r1 : Int) = 0 then some ((-2), M1) else am_bnd (am_run d 253 [.inl p2, .inl 0, .inl 300] M1) (fun r2 M2 => (if (r2 : Int) = 0 then some ((-2), M2) else am_bnd (am_run d 237 [.inr 0, .inl p2] M2) (fun _ M3 => am_chk (0 ≤ (p1 : Int) ∧ p1 < 16) (some ((M3 20 p1), M3))))))) := (am_run_s _ _ _ _).trans (((am_blk am_h239 [] 400 d 0 _ _ M).trans rfl))
-- 240: LentHands.out(I)I; stops []
set_option maxRecDepth 100000 in
theorem e240 (d : Nat) (p1 : Int) (M : am_M) : am_run (d + 1) 240 [.inr 0, .inl p1] M = am_bnd (am_run d 253 [.inl p1, .inl 0, .inl 300] M) (fun r1 M1 => (if (r1 : Int) = 0 then some ((-1), M1) else am_bnd (am_run d 237 [.inr 0, .inl p1] M1) (fun _ M2 => am_bnd (am_run d 140 [.inr 14] M2) (fun r3 M3 => some (r3, M3))))) := (am_run_s _ _ _ _).trans (((am_blk am_h240 [] 400 d 0 _ _ M).trans rfl))
-- 241: LentHands.fails(I)I; stops [14]
set_option maxRecDepth 100000 in
theorem e241 (d : Nat) (p1 : Int) (M : am_M) : am_run (d + 1) 241 [.inr 0, .inl p1] M = am_bnd (am_run d 253 [.inl p1, .inl 0, .inl 1] M) (fun r1 M1 => (if (r1 : Int) = 0 then some ((-1), M1) else am_bnd (am_run d 133 [.inr 14, .inr 1] M1) (fun _ M2 => am_L d 241 14 [some (.inr 0), some (.inl p1), some (.inl 0), none, none] [] M2))) := (am_run_s _ _ _ _).trans (((am_blk am_h241 [14] 400 d 0 _ _ M).trans rfl))
set_option maxRecDepth 100000 in
theorem e241_14 (d : Nat) (x1 : Int) (x2 : Int) (o3 : Option am_V) (o4 : Option am_V) (M : am_M) : am_L d 241 14 [some (.inr 0), some (.inl x1), some (.inl x2), o3, o4] [] M = (if (x2 : Int) < 300 then am_bnd (am_run d 233 [.inr 0, .inr 14, .inl 0] M) (fun r1 M1 => (if (r1 : Int) = 0 then am_L d 241 14 [some (.inr 0), some (.inl x1), some (.inl (am_wrap (x2 + 1))), some (.inl (M 14 1)), some (.inl r1)] [] M1 else (if (x1 : Int) = 1 then some ((M 14 1), M1) else am_bnd (am_run d 242 [.inl r1] M1) (fun r2 M2 => some (r2, M2))))) else some ((-1), M)) := (am_blk am_h241 [14] 400 d 14 _ _ M).trans rfl
-- 242: LentHands.leastOf(I)I; stops [2]
set_option maxRecDepth 100000 in
theorem e242 (d : Nat) (p0 : Int) (M : am_M) : am_run (d + 1) 242 [.inl p0] M = am_L d 242 2 [some (.inl p0), some (.inl 0)] [] M := (am_run_s _ _ _ _).trans (((am_blk am_h242 [2] 400 d 0 _ _ M).trans rfl))
set_option maxRecDepth 100000 in
theorem e242_2 (d : Nat) (x0 : Int) (x1 : Int) (M : am_M) : am_L d 242 2 [some (.inl x0), some (.inl x1)] [] M = (if (x1 : Int) < 16 then (if ((am_iand (am_ishr x0 x1) 1) : Int) = 1 then some (x1, M) else am_L d 242 2 [some (.inl x0), some (.inl (am_wrap (x1 + 1)))] [] M) else some ((-1), M)) := (am_blk am_h242 [2] 400 d 2 _ _ M).trans rfl
-- 243: LentHands.canTry(III)Z; stops []
set_option maxRecDepth 100000 in
theorem e243 (d : Nat) (p1 : Int) (p2 : Int) (p3 : Int) (M : am_M) : am_run (d + 1) 243 [.inr 0, .inl p1, .inl p2, .inl p3] M = am_bnd (am_run d 135 [.inr 1, .inl p1] M) (fun r1 M1 => (if (r1 : Int) = 0 then some (0, M1) else am_chk (0 ≤ (p1 : Int) ∧ p1 < 16) ((if ((M1 7 p1) : Int) = (-1) then some (0, M1) else am_bnd (am_run d 253 [.inl p2, .inl 0, .inl 3] M1) (fun r2 M2 => (if (r2 : Int) = 0 then some (0, M2) else am_bnd (am_run d 253 [.inl p3, .inl 0, .inl 99] M2) (fun r3 M3 => (if (r3 : Int) = 0 then some (0, M3) else some (1, M3))))))))) := (am_run_s _ _ _ _).trans (((am_blk am_h243 [] 400 d 0 _ _ M).trans rfl))
-- 244: LentHands.learns(III)I; stops []
set_option maxRecDepth 100000 in
theorem e244 (d : Nat) (p1 : Int) (p2 : Int) (p3 : Int) (M : am_M) : am_run (d + 1) 244 [.inr 0, .inl p1, .inl p2, .inl p3] M = am_bnd (am_run d 243 [.inr 0, .inl p1, .inl p2, .inl p3] M) (fun r1 M1 => (if (r1 : Int) = 0 then some ((-1), M1) else am_bnd (am_run d 246 [.inr 0, .inl p1, .inl p2, .inl p3] M1) (fun r2 M2 => am_chk (0 ≤ ((am_wrap ((am_wrap (p1 * 4)) + p2)) : Int) ∧ (am_wrap ((am_wrap (p1 * 4)) + p2)) < 64) (some ((M2 21 (am_wrap ((am_wrap (p1 * 4)) + p2))), M2))))) := (am_run_s _ _ _ _).trans (((am_blk am_h244 [] 400 d 0 _ _ M).trans rfl))
-- 245: LentHands.safe(III)I; stops []
set_option maxRecDepth 100000 in
theorem e245 (d : Nat) (p1 : Int) (p2 : Int) (p3 : Int) (M : am_M) : am_run (d + 1) 245 [.inr 0, .inl p1, .inl p2, .inl p3] M = am_bnd (am_run d 243 [.inr 0, .inl p1, .inl p2, .inl p3] M) (fun r1 M1 => (if (r1 : Int) = 0 then some ((-1), M1) else am_bnd (am_run d 246 [.inr 0, .inl p1, .inl p2, .inl p3] M1) (fun r2 M2 => some (r2, M2)))) := (am_run_s _ _ _ _).trans (((am_blk am_h245 [] 400 d 0 _ _ M).trans rfl))
-- 246: LentHands.unscarred(III)I; stops [15]
set_option maxRecDepth 100000 in
theorem e246 (d : Nat) (p1 : Int) (p2 : Int) (p3 : Int) (M : am_M) : am_run (d + 1) 246 [.inr 0, .inl p1, .inl p2, .inl p3] M = am_bnd (am_run d 133 [.inr 14, .inr 1] M) (fun _ M1 => am_chk (0 ≤ (p1 : Int) ∧ p1 < 16) (am_L d 246 15 [some (.inr 0), some (.inl p1), some (.inl p2), some (.inl p3), some (.inl (M1 20 p1)), some (.inl 1000000), some (.inl 0), none] [] M1)) := (am_run_s _ _ _ _).trans (((am_blk am_h246 [15] 400 d 0 _ _ M).trans rfl))
set_option maxRecDepth 100000 in
theorem e246_15 (d : Nat) (x1 : Int) (x2 : Int) (x3 : Int) (x4 : Int) (x5 : Int) (x6 : Int) (o7 : Option am_V) (M : am_M) : am_L d 246 15 [some (.inr 0), some (.inl x1), some (.inl x2), some (.inl x3), some (.inl x4), some (.inl x5), some (.inl x6), o7] [] M = (if (x6 : Int) < x3 then am_bnd (am_run d 236 [.inr 0, .inr 14, .inl x4, .inl x1, .inl x2] M) (fun r1 M1 => am_chk (¬ (1000 : Int) = 0) (am_chk (0 ≤ (x1 : Int) ∧ x1 < 16) (am_chk (0 ≤ (x1 : Int) ∧ x1 < 16) (am_L d 246 15 [some (.inr 0), some (.inl x1), some (.inl x2), some (.inl x3), some (.inl x4), some (.inl (am_idiv (am_wrap (x5 * (am_wrap (1000 - r1)))) 1000)), some (.inl (am_wrap (x6 + 1))), some (.inl r1)] [] (am_upd (am_upd M1 25 x1 (am_wrap ((M1 25 x1) + 1))) 14 1 (am_wrap (((am_upd M1 25 x1 (am_wrap ((M1 25 x1) + 1))) 14 1) + 1))))))) else some (x5, M)) := (am_blk am_h246 [15] 400 d 15 _ _ M).trans rfl
-- 247: LentHands.premium(II)I; stops [16]
set_option maxRecDepth 100000 in
theorem e247 (d : Nat) (p1 : Int) (p2 : Int) (M : am_M) : am_run (d + 1) 247 [.inr 0, .inl p1, .inl p2] M = am_bnd (am_run d 253 [.inl p1, .inl 0, .inl 3] M) (fun r1 M1 => (if (r1 : Int) = 0 then some ((-1), M1) else am_bnd (am_run d 253 [.inl p2, .inl 0, .inl 99] M1) (fun r2 M2 => (if (r2 : Int) = 0 then some ((-1), M2) else am_L d 247 16 [some (.inr 0), some (.inl p1), some (.inl p2), some (.inl 0), some (.inl 0)] [] M2)))) := (am_run_s _ _ _ _).trans (((am_blk am_h247 [16] 400 d 0 _ _ M).trans rfl))
set_option maxRecDepth 100000 in
theorem e247_16 (d : Nat) (x1 : Int) (x2 : Int) (x3 : Int) (x4 : Int) (M : am_M) : am_L d 247 16 [some (.inr 0), some (.inl x1), some (.inl x2), some (.inl x3), some (.inl x4)] [] M = (if (x4 : Int) < (am_wrap (2 * (M 1 2))) then am_chk (0 ≤ (x4 : Int) ∧ x4 < 16) ((if ((M 7 x4) : Int) = (-1) then am_L d 247 16 [some (.inr 0), some (.inl x1), some (.inl x2), some (.inl x3), some (.inl (am_wrap (x4 + 1)))] [] M else am_bnd (am_run d 246 [.inr 0, .inl x4, .inl x1, .inl x2] M) (fun r1 M1 => am_L d 247 16 [some (.inr 0), some (.inl x1), some (.inl x2), some (.inl (am_wrap (x3 + (am_wrap (1000000 - r1))))), some (.inl (am_wrap (x4 + 1)))] [] M1))) else some (x3, M)) := (am_blk am_h247 [16] 400 d 16 _ _ M).trans rfl
-- 248: LentHands.judge(III)I; stops []
set_option maxRecDepth 100000 in
theorem e248 (d : Nat) (p1 : Int) (p2 : Int) (p3 : Int) (M : am_M) : am_run (d + 1) 248 [.inr 0, .inl p1, .inl p2, .inl p3] M = am_bnd (am_run d 143 [.inr 1, .inl p2] M) (fun r1 M1 => am_bnd (am_run d 251 [.inr 0, .inr 1, .inl p2, .inl p1] M1) (fun _ M2 => am_chk (0 ≤ (11 : Int) ∧ 11 < 14) (am_chk (0 ≤ (11 : Int) ∧ 11 < 14) ((if (r1 : Int) = (-1) then am_chk (0 ≤ (5 : Int) ∧ 5 < 14) (am_chk (0 ≤ (2 : Int) ∧ 2 < 3) (am_bnd (am_run d 154 [.inr 46, .inr 104] (am_upd (am_upd M2 105 11 (am_wrap ((M2 105 11) + p3))) 105 5 0)) (fun r5 M5 => (if (r5 : Int) = (-1) then some (25, M5) else some (r5, M5))))) else am_bnd (am_run d 142 [.inr 1, .inl r1, .inl 4] (am_upd M2 105 11 (am_wrap ((M2 105 11) + p3)))) (fun r3 M3 => am_chk (0 ≤ (5 : Int) ∧ 5 < 14) (am_chk (0 ≤ (2 : Int) ∧ 2 < 3) (am_bnd (am_run d 154 [.inr 46, .inr 104] (am_upd M3 105 5 r3)) (fun r4 M4 => (if (r4 : Int) = (-1) then some (25, M4) else some (r4, M4))))))))))) := (am_run_s _ _ _ _).trans (((am_blk am_h248 [] 400 d 0 _ _ M).trans rfl))
-- 249: LentHands.judged(III)I; stops []
set_option maxRecDepth 100000 in
theorem e249 (d : Nat) (p1 : Int) (p2 : Int) (p3 : Int) (M : am_M) : am_run (d + 1) 249 [.inr 0, .inl p1, .inl p2, .inl p3] M = am_bnd (am_run d 252 [.inr 0, .inl p1, .inl p2] M) (fun r1 M1 => (if (r1 : Int) = (-1) then some ((-1), M1) else am_bnd (am_run d 253 [.inl p3, .inl 0, .inl 99] M1) (fun r2 M2 => (if (r2 : Int) = 0 then some ((-1), M2) else am_bnd (am_run d 248 [.inr 0, .inl p1, .inl r1, .inl p3] M2) (fun r3 M3 => some ((am_wrap (r3 - 24)), M3)))))) := (am_run_s _ _ _ _).trans (((am_blk am_h249 [] 400 d 0 _ _ M).trans rfl))
-- 250: LentHands.loophole(II)I; stops [18]
set_option maxRecDepth 100000 in
theorem e250 (d : Nat) (p1 : Int) (p2 : Int) (M : am_M) : am_run (d + 1) 250 [.inr 0, .inl p1, .inl p2] M = am_bnd (am_run d 252 [.inr 0, .inl p1, .inl p2] M) (fun r1 M1 => (if (r1 : Int) = (-1) then some ((-1), M1) else am_bnd (am_run d 248 [.inr 0, .inl p1, .inl r1, .inl 0] M1) (fun r2 M2 => am_L d 250 18 [some (.inr 0), some (.inl p1), some (.inl p2), some (.inl r1), some (.inl r2), some (.inl 1)] [] M2))) := (am_run_s _ _ _ _).trans (((am_blk am_h250 [18] 400 d 0 _ _ M).trans rfl))
set_option maxRecDepth 100000 in
theorem e250_18 (d : Nat) (x1 : Int) (x2 : Int) (x3 : Int) (x4 : Int) (x5 : Int) (M : am_M) : am_L d 250 18 [some (.inr 0), some (.inl x1), some (.inl x2), some (.inl x3), some (.inl x4), some (.inl x5)] [] M = (if (99 : Int) < x5 then some ((-1), M) else am_bnd (am_run d 248 [.inr 0, .inl x1, .inl x3, .inl x5] M) (fun r1 M1 => (if (r1 : Int) = x4 then am_L d 250 18 [some (.inr 0), some (.inl x1), some (.inl x2), some (.inl x3), some (.inl x4), some (.inl (am_wrap (x5 + 1)))] [] M1 else some (x5, M1)))) := (am_blk am_h250 [18] 400 d 18 _ _ M).trans rfl
-- 251: LentHands.askOfHand(LLentHands$World;II)V; stops []
set_option maxRecDepth 100000 in
theorem e251 (d : Nat) (a1 : Nat) (p2 : Int) (p3 : Int) (M : am_M) : am_run (d + 1) 251 [.inr 0, .inr a1, .inl p2, .inl p3] M = am_chk (0 ≤ (0 : Int) ∧ 0 < 14) (am_bnd (am_run d 141 [.inr a1, .inl p2] (am_upd M 105 0 (am_wrap (1 - (am_iand p2 1))))) (fun r1 M1 => am_chk (0 ≤ (1 : Int) ∧ 1 < 14) (cond (Nat.beq (am_cls a1) 5) (cond (Nat.beq (am_cls (am_rf a1 12)) 9 || Nat.beq (am_cls (am_rf a1 12)) 12) (am_chk (0 ≤ (p2 : Int) ∧ p2 < (am_len (am_upd M1 105 1 r1) (am_rf a1 12))) (am_chk (0 ≤ (2 : Int) ∧ 2 < 14) (cond (Nat.beq (am_cls a1) 5) (cond (Nat.beq (am_cls (am_rf a1 13)) 9 || Nat.beq (am_cls (am_rf a1 13)) 12) (am_chk (0 ≤ (p2 : Int) ∧ p2 < (am_len (am_upd (am_upd M1 105 1 r1) 105 2 ((am_upd M1 105 1 r1) (am_rf a1 12) p2)) (am_rf a1 13))) (am_chk (0 ≤ (3 : Int) ∧ 3 < 14) (cond (Nat.beq (am_cls a1) 5) (cond (Nat.beq (am_cls (am_rf a1 15)) 9 || Nat.beq (am_cls (am_rf a1 15)) 12) (am_chk (0 ≤ (p2 : Int) ∧ p2 < (am_len (am_upd (am_upd (am_upd M1 105 1 r1) 105 2 ((am_upd M1 105 1 r1) (am_rf a1 12) p2)) 105 3 ((am_upd (am_upd M1 105 1 r1) 105 2 ((am_upd M1 105 1 r1) (am_rf a1 12) p2)) (am_rf a1 13) p2)) (am_rf a1 15))) (am_chk (0 ≤ (11 : Int) ∧ 11 < 14) ((if ((am_ishr p2 1) : Int) = p3 then am_chk (0 ≤ (8 : Int) ∧ 8 < 14) (cond (Nat.beq (am_cls a1) 5) (cond (Nat.beq (am_cls (am_rf a1 6)) 9 || Nat.beq (am_cls (am_rf a1 6)) 12) (am_chk (0 ≤ (p3 : Int) ∧ p3 < (am_len (am_upd (am_upd (am_upd (am_upd (am_upd M1 105 1 r1) 105 2 ((am_upd M1 105 1 r1) (am_rf a1 12) p2)) 105 3 ((am_upd (am_upd M1 105 1 r1) 105 2 ((am_upd M1 105 1 r1) (am_rf a1 12) p2)) (am_rf a1 13) p2)) 105 11 ((am_upd (am_upd (am_upd M1 105 1 r1) 105 2 ((am_upd M1 105 1 r1) (am_rf a1 12) p2)) 105 3 ((am_upd (am_upd M1 105 1 r1) 105 2 ((am_upd M1 105 1 r1) (am_rf a1 12) p2)) (am_rf a1 13) p2)) (am_rf a1 15) p2)) 105 8 1) (am_rf a1 6))) (am_chk (0 ≤ (7 : Int) ∧ 7 < 14) (some (0, (am_upd (am_upd (am_upd (am_upd (am_upd (am_upd M1 105 1 r1) 105 2 ((am_upd M1 105 1 r1) (am_rf a1 12) p2)) 105 3 ((am_upd (am_upd M1 105 1 r1) 105 2 ((am_upd M1 105 1 r1) (am_rf a1 12) p2)) (am_rf a1 13) p2)) 105 11 ((am_upd (am_upd (am_upd M1 105 1 r1) 105 2 ((am_upd M1 105 1 r1) (am_rf a1 12) p2)) 105 3 ((am_upd (am_upd M1 105 1 r1) 105 2 ((am_upd M1 105 1 r1) (am_rf a1 12) p2)) (am_rf a1 13) p2)) (am_rf a1 15) p2)) 105 8 1) 105 7 ((am_upd (am_upd (am_upd (am_upd (am_upd M1 105 1 r1) 105 2 ((am_upd M1 105 1 r1) (am_rf a1 12) p2)) 105 3 ((am_upd (am_upd M1 105 1 r1) 105 2 ((am_upd M1 105 1 r1) (am_rf a1 12) p2)) (am_rf a1 13) p2)) 105 11 ((am_upd (am_upd (am_upd M1 105 1 r1) 105 2 ((am_upd M1 105 1 r1) (am_rf a1 12) p2)) 105 3 ((am_upd (am_upd M1 105 1 r1) 105 2 ((am_upd M1 105 1 r1) (am_rf a1 12) p2)) (am_rf a1 13) p2)) (am_rf a1 15) p2)) 105 8 1) (am_rf a1 6) p3)))))) none) none) else am_chk (0 ≤ (8 : Int) ∧ 8 < 14) (cond (Nat.beq (am_cls a1) 5) (cond (Nat.beq (am_cls (am_rf a1 6)) 9 || Nat.beq (am_cls (am_rf a1 6)) 12) (am_chk (0 ≤ (p3 : Int) ∧ p3 < (am_len (am_upd (am_upd (am_upd (am_upd (am_upd M1 105 1 r1) 105 2 ((am_upd M1 105 1 r1) (am_rf a1 12) p2)) 105 3 ((am_upd (am_upd M1 105 1 r1) 105 2 ((am_upd M1 105 1 r1) (am_rf a1 12) p2)) (am_rf a1 13) p2)) 105 11 ((am_upd (am_upd (am_upd M1 105 1 r1) 105 2 ((am_upd M1 105 1 r1) (am_rf a1 12) p2)) 105 3 ((am_upd (am_upd M1 105 1 r1) 105 2 ((am_upd M1 105 1 r1) (am_rf a1 12) p2)) (am_rf a1 13) p2)) (am_rf a1 15) p2)) 105 8 0) (am_rf a1 6))) (am_chk (0 ≤ (7 : Int) ∧ 7 < 14) (some (0, (am_upd (am_upd (am_upd (am_upd (am_upd (am_upd M1 105 1 r1) 105 2 ((am_upd M1 105 1 r1) (am_rf a1 12) p2)) 105 3 ((am_upd (am_upd M1 105 1 r1) 105 2 ((am_upd M1 105 1 r1) (am_rf a1 12) p2)) (am_rf a1 13) p2)) 105 11 ((am_upd (am_upd (am_upd M1 105 1 r1) 105 2 ((am_upd M1 105 1 r1) (am_rf a1 12) p2)) 105 3 ((am_upd (am_upd M1 105 1 r1) 105 2 ((am_upd M1 105 1 r1) (am_rf a1 12) p2)) (am_rf a1 13) p2)) (am_rf a1 15) p2)) 105 8 0) 105 7 ((am_upd (am_upd (am_upd (am_upd (am_upd M1 105 1 r1) 105 2 ((am_upd M1 105 1 r1) (am_rf a1 12) p2)) 105 3 ((am_upd (am_upd M1 105 1 r1) 105 2 ((am_upd M1 105 1 r1) (am_rf a1 12) p2)) (am_rf a1 13) p2)) 105 11 ((am_upd (am_upd (am_upd M1 105 1 r1) 105 2 ((am_upd M1 105 1 r1) (am_rf a1 12) p2)) 105 3 ((am_upd (am_upd M1 105 1 r1) 105 2 ((am_upd M1 105 1 r1) (am_rf a1 12) p2)) (am_rf a1 13) p2)) (am_rf a1 15) p2)) 105 8 0) (am_rf a1 6) p3)))))) none) none))))) none) none))) none) none))) none) none))) := (am_run_s _ _ _ _).trans (((am_blk am_h251 [] 400 d 0 _ _ M).trans rfl))
-- 252: LentHands.onWrist(II)I; stops []
set_option maxRecDepth 100000 in
theorem e252 (d : Nat) (p1 : Int) (p2 : Int) (M : am_M) : am_run (d + 1) 252 [.inr 0, .inl p1, .inl p2] M = am_bnd (am_run d 134 [.inr 1, .inl p1] M) (fun r1 M1 => (if (r1 : Int) = 0 then some ((-1), M1) else am_bnd (am_run d 253 [.inl p2, .inl 0, .inl 1] M1) (fun r2 M2 => (if (r2 : Int) = 0 then some ((-1), M2) else am_chk (0 ≤ ((am_wrap ((am_wrap (2 * p1)) + p2)) : Int) ∧ (am_wrap ((am_wrap (2 * p1)) + p2)) < 16) (some ((M2 6 (am_wrap ((am_wrap (2 * p1)) + p2))), M2)))))) := (am_run_s _ _ _ _).trans (((am_blk am_h252 [] 400 d 0 _ _ M).trans rfl))
-- 253: LentHands.within(III)Z; stops []
set_option maxRecDepth 100000 in
theorem e253 (d : Nat) (p0 : Int) (p1 : Int) (p2 : Int) (M : am_M) : am_run (d + 1) 253 [.inl p0, .inl p1, .inl p2] M = (if (p0 : Int) < p1 then some (0, M) else (if (p2 : Int) < p0 then some (0, M) else some (1, M))) := (am_run_s _ _ _ _).trans (((am_blk am_h253 [] 400 d 0 _ _ M).trans rfl))
-- 254: LentHands.heldTo(II)I; stops []
set_option maxRecDepth 100000 in
theorem e254 (d : Nat) (p0 : Int) (p1 : Int) (M : am_M) : am_run (d + 1) 254 [.inl p0, .inl p1] M = some ((max 0 (min p0 p1)), M) := (am_run_s _ _ _ _).trans (((am_blk am_h254 [] 400 d 0 _ _ M).trans rfl))
-- 255: java/lang/Integer.bitCount(I)I; stops []
set_option maxRecDepth 100000 in
theorem e255 (d : Nat) (p0 : Int) (M : am_M) : am_run (d + 1) 255 [.inl p0] M = some ((am_iand (am_wrap ((am_wrap ((am_iand (am_wrap ((am_wrap ((am_iand (am_wrap (p0 - (am_iand (am_iushr p0 1) 1431655765))) 858993459) + (am_iand (am_iushr (am_wrap (p0 - (am_iand (am_iushr p0 1) 1431655765))) 2) 858993459))) + (am_iushr (am_wrap ((am_iand (am_wrap (p0 - (am_iand (am_iushr p0 1) 1431655765))) 858993459) + (am_iand (am_iushr (am_wrap (p0 - (am_iand (am_iushr p0 1) 1431655765))) 2) 858993459))) 4))) 252645135) + (am_iushr (am_iand (am_wrap ((am_wrap ((am_iand (am_wrap (p0 - (am_iand (am_iushr p0 1) 1431655765))) 858993459) + (am_iand (am_iushr (am_wrap (p0 - (am_iand (am_iushr p0 1) 1431655765))) 2) 858993459))) + (am_iushr (am_wrap ((am_iand (am_wrap (p0 - (am_iand (am_iushr p0 1) 1431655765))) 858993459) + (am_iand (am_iushr (am_wrap (p0 - (am_iand (am_iushr p0 1) 1431655765))) 2) 858993459))) 4))) 252645135) 8))) + (am_iushr (am_wrap ((am_iand (am_wrap ((am_wrap ((am_iand (am_wrap (p0 - (am_iand (am_iushr p0 1) 1431655765))) 858993459) + (am_iand (am_iushr (am_wrap (p0 - (am_iand (am_iushr p0 1) 1431655765))) 2) 858993459))) + (am_iushr (am_wrap ((am_iand (am_wrap (p0 - (am_iand (am_iushr p0 1) 1431655765))) 858993459) + (am_iand (am_iushr (am_wrap (p0 - (am_iand (am_iushr p0 1) 1431655765))) 2) 858993459))) 4))) 252645135) + (am_iushr (am_iand (am_wrap ((am_wrap ((am_iand (am_wrap (p0 - (am_iand (am_iushr p0 1) 1431655765))) 858993459) + (am_iand (am_iushr (am_wrap (p0 - (am_iand (am_iushr p0 1) 1431655765))) 2) 858993459))) + (am_iushr (am_wrap ((am_iand (am_wrap (p0 - (am_iand (am_iushr p0 1) 1431655765))) 858993459) + (am_iand (am_iushr (am_wrap (p0 - (am_iand (am_iushr p0 1) 1431655765))) 2) 858993459))) 4))) 252645135) 8))) 16))) 63), M) := (am_run_s _ _ _ _).trans (((am_blk am_h255 [] 400 d 0 _ _ M).trans rfl))
-- 256: java/lang/String.length()I; stops []
set_option maxRecDepth 100000 in
theorem e256 (d : Nat) (a0 : Nat) (M : am_M) : am_run (d + 1) 256 [.inr a0] M = cond (Nat.beq (am_cls a0) 8) (cond (Nat.beq (am_cls a0) 8) (cond (Nat.ble 9 (am_cls (am_rf a0 0)) && Nat.blt (am_cls (am_rf a0 0)) 15) (am_bnd (am_run d 258 [.inr a0] M) (fun r1 M1 => some ((am_ishr (am_len M (am_rf a0 0)) r1), M1))) none) none) none := (am_run_s _ _ _ _).trans ((congrArg (fun z => cond _ z none) ((am_blk am_h256 [] 400 d 0 _ _ M).trans rfl)))
-- 257: java/lang/String.charAt(I)C; stops []
set_option maxRecDepth 100000 in
theorem e257 (d : Nat) (a0 : Nat) (p1 : Int) (M : am_M) : am_run (d + 1) 257 [.inr a0, .inl p1] M = cond (Nat.beq (am_cls a0) 8) (am_bnd (am_run d 259 [.inr a0] M) (fun r1 M1 => (if (r1 : Int) = 0 then cond (Nat.beq (am_cls a0) 8) (none) none else cond (Nat.beq (am_cls a0) 8) (am_bnd (am_run d 261 [.inr (am_rf a0 0), .inl p1] M1) (fun r2 M2 => am_chk (0 ≤ (r2 : Int) ∧ r2 < 65536) (some (r2, M2)))) none))) none := (am_run_s _ _ _ _).trans ((congrArg (fun z => cond _ z none) ((am_blk am_h257 [] 400 d 0 _ _ M).trans rfl)))
-- 258: java/lang/String.coder()B; stops []
set_option maxRecDepth 100000 in
theorem e258 (d : Nat) (a0 : Nat) (M : am_M) : am_run (d + 1) 258 [.inr a0] M = cond (Nat.beq (am_cls a0) 8) ((if (1 : Int) = 0 then some (1, M) else cond (Nat.beq (am_cls a0) 8) (am_chk (-128 ≤ ((M a0 0) : Int) ∧ (M a0 0) < 128) (some ((M a0 0), M))) none)) none := (am_run_s _ _ _ _).trans ((congrArg (fun z => cond _ z none) ((am_blk am_h258 [] 400 d 0 _ _ M).trans rfl)))
-- 259: java/lang/String.isLatin1()Z; stops []
set_option maxRecDepth 100000 in
theorem e259 (d : Nat) (a0 : Nat) (M : am_M) : am_run (d + 1) 259 [.inr a0] M = cond (Nat.beq (am_cls a0) 8) ((if (1 : Int) = 0 then some (0, M) else cond (Nat.beq (am_cls a0) 8) ((if ((M a0 0) : Int) = 0 then some (1, M) else some (0, M))) none)) none := (am_run_s _ _ _ _).trans ((congrArg (fun z => cond _ z none) ((am_blk am_h259 [] 400 d 0 _ _ M).trans rfl)))
-- 260: java/lang/String.checkIndex(II)V; stops []
set_option maxRecDepth 100000 in
theorem e260 (d : Nat) (p0 : Int) (p1 : Int) (M : am_M) : am_run (d + 1) 260 [.inl p0, .inl p1] M = am_bnd (am_run d 262 [.inl p0, .inl p1, .inr 204] M) (fun r1 M1 => some (0, M1)) := (am_run_s _ _ _ _).trans (((am_blk am_h260 [] 400 d 0 _ _ M).trans rfl))
-- 261: java/lang/StringLatin1.charAt([BI)C; stops []
set_option maxRecDepth 100000 in
theorem e261 (d : Nat) (a0 : Nat) (p1 : Int) (M : am_M) : am_run (d + 1) 261 [.inr a0, .inl p1] M = cond (Nat.ble 9 (am_cls a0) && Nat.blt (am_cls a0) 15) (am_bnd (am_run d 260 [.inl p1, .inl (am_len M a0)] M) (fun _ M1 => cond (Nat.beq (am_cls a0) 13) (am_chk (0 ≤ (p1 : Int) ∧ p1 < (am_len M1 a0)) (am_chk (0 ≤ ((am_chr (am_iand (M1 a0 p1) 255)) : Int) ∧ (am_chr (am_iand (M1 a0 p1) 255)) < 65536) (some ((am_chr (am_iand (M1 a0 p1) 255)), M1)))) none)) none := (am_run_s _ _ _ _).trans (((am_blk am_h261 [] 400 d 0 _ _ M).trans rfl))
-- 262: jdk/internal/util/Preconditions.checkIndex(IILjava/util/function/BiFunction;)I; stops []
set_option maxRecDepth 100000 in
theorem e262 (d : Nat) (p0 : Int) (p1 : Int) (M : am_M) : am_run (d + 1) 262 [.inl p0, .inl p1, .inr 204] M = (if (p0 : Int) < 0 then none else (if (p0 : Int) < p1 then some (p0, M) else none)) := (am_run_s _ _ _ _).trans (((am_blk am_h262 [] 400 d 0 _ _ M).trans rfl))
-- 263: LentHandsLaw.law([I)Z; stops []
set_option maxRecDepth 100000 in
theorem e263 (d : Nat) (M : am_M) : am_run (d + 1) 263 [.inr 203] M = none := (am_run_s _ _ _ _).trans (((am_blk am_h263 [] 400 d 0 _ _ M).trans rfl))
end
section
-- needs: 02 03 04
/-! PURE: laws to reckon with -/
theorem p_b (r : Int) (M : am_M) (f : Int → am_M → am_R) : am_bnd (some (r, M)) f = f r M := rfl
theorem p_c {c : Prop} [Decidable c] {x : am_R} (h : c) : am_chk c x = x := if_pos h
theorem p_w {x : Int} (h1 : -2147483648 ≤ x) (h2 : x ≤ 2147483647) : am_wrap x = x := by unfold am_wrap; omega
theorem p_w_in (x : Int) : -2147483648 ≤ am_wrap x ∧ am_wrap x ≤ 2147483647 := by unfold am_wrap; omega
/-- an array or object as a whole is put -/
def p_st (M : am_M) (a : Nat) (f : Int → Int) : am_M := fun b => if b = a then f else M b
def p_up (f : Int → Int) (i v : Int) : Int → Int := fun j => if j = i then v else f j
theorem p_upd (M : am_M) (a : Nat) (i v : Int) : am_upd M a i v = p_st M a (p_up (M a) i v) := by
  funext b j
  unfold am_upd p_st p_up
  by_cases h : b = a
  · subst h
    by_cases h2 : j = i <;> simp [h2]
  · simp [h]
theorem p_st1 (M : am_M) (a : Nat) (f : Int → Int) : p_st M a f a = f := if_pos rfl
theorem p_st2 {M : am_M} {a b : Nat} {f : Int → Int} (h : b ≠ a) : p_st M a f b = M b := if_neg h
theorem p_st3 (M : am_M) (a : Nat) (f g : Int → Int) : p_st (p_st M a f) a g = p_st M a g := by
  funext b
  unfold p_st
  by_cases h : b = a <;> simp [h]
theorem p_st4 {M : am_M} {a b : Nat} {f g : Int → Int} (h : b < a) : p_st (p_st M a f) b g = p_st (p_st M b g) a f := by
  funext c
  unfold p_st
  by_cases h1 : c = a
  · have : ¬ c = b := by omega
    simp [h1]
    intro h2
    omega
  · by_cases h2 : c = b
    · simp [h1, h2]
      intro h3
      omega
    · simp [h1, h2]
theorem p_st5 (M : am_M) (a : Nat) : p_st M a (M a) = M := by
  funext b
  unfold p_st
  by_cases h : b = a <;> simp [h]
theorem p_up1 (f : Int → Int) (i v : Int) : p_up f i v i = v := if_pos rfl
theorem p_up2 {f : Int → Int} {i j v : Int} (h : j ≠ i) : p_up f i v j = f j := if_neg h
theorem p_up3 (f : Int → Int) (i v v' : Int) : p_up (p_up f i v) i v' = p_up f i v' := by
  funext j
  unfold p_up
  by_cases h : j = i <;> simp [h]
theorem p_cpy (M : am_M) (a : Nat) (i : Int) (b : Nat) (j n : Int) : am_cpy M a i b j n = p_st M b (fun k => if j ≤ k ∧ k < j + n then M a (i + (k - j)) else M b k) := by
  funext c k
  unfold am_cpy p_st
  by_cases h : c = b
  · subst h
    by_cases h2 : j ≤ k ∧ k < j + n <;> simp [h2]
  · simp [h]
/-- the first of k numbers from i on, s apart, of which P holds; -1 if none -/
def p_find (P : Int → Bool) (s : Int) : Nat → Int → Int
  | 0, _ => -1
  | k + 1, i => if P i = true then i else p_find P s k (i + s)
/-- k steps of f from i on -/
def p_fold {α : Type} (f : Int → α → α) : Nat → Int → α → α
  | 0, _, a => a
  | k + 1, i, a => p_fold f k (i + 1) (f i a)
theorem p_small : ∀ h : Nat, h < 64 → am_iand h 1 = (h : Int) % 2 ∧ am_ishr h 1 = (h : Int) / 2 ∧ am_irem h 2 = (h : Int) % 2 ∧ am_idiv h 2 = (h : Int) / 2 := by decide +kernel
theorem p_and1 {h : Int} (h1 : 0 ≤ h) (h2 : h < 64) : am_iand h 1 = h % 2 := by
  have := (p_small h.toNat (by omega)).1
  rwa [show ((h.toNat : Nat) : Int) = h from by omega] at this
theorem p_shr1 {h : Int} (h1 : 0 ≤ h) (h2 : h < 64) : am_ishr h 1 = h / 2 := by
  have := (p_small h.toNat (by omega)).2.1
  rwa [show ((h.toNat : Nat) : Int) = h from by omega] at this
theorem p_rem2 {h : Int} (h1 : 0 ≤ h) (h2 : h < 64) : am_irem h 2 = h % 2 := by
  have := (p_small h.toNat (by omega)).2.2.1
  rwa [show ((h.toNat : Nat) : Int) = h from by omega] at this
theorem p_div2 {h : Int} (h1 : 0 ≤ h) (h2 : h < 64) : am_idiv h 2 = h / 2 := by
  have := (p_small h.toNat (by omega)).2.2.2
  rwa [show ((h.toNat : Nat) : Int) = h from by omega] at this
end
section
-- needs: 02 03 04 05 06 07 08 40
/-! PURE: the model's leaves -/
theorem p_i0 {c : Prop} [Decidable c] {α : Type} (x y : α) : (if (if c then (1 : Int) else 0) = 0 then x else y) = if c then y else x := by
  by_cases h : c <;> simp [h]
theorem p_i1 {c : Prop} [Decidable c] {α : Type} (x y : α) : (if (if c then (1 : Int) else 0) = 1 then x else y) = if c then x else y := by
  by_cases h : c <;> simp [h]
theorem p_bi {c : Prop} [Decidable c] (x y : am_R) (f : Int → am_M → am_R) : am_bnd (if c then x else y) f = if c then am_bnd x f else am_bnd y f := by
  by_cases h : c <;> simp [h]
theorem p_bool {c : Prop} [Decidable c] {x : am_R} : am_chk ((if c then (1 : Int) else 0) = 0 ∨ (if c then (1 : Int) else 0) = 1) x = x := by
  by_cases h : c <;> simp [h, am_chk]
theorem m0 (d : Nat) (v a b : Int) (M : am_M) : am_run (d + 1) 0 [.inl v, .inl a, .inl b] M = some (if a ≤ v ∧ v ≤ b then 1 else 0, M) := by
  rw [e0]
  by_cases h1 : v < a
  · simp (disch := omega) only [p_b, p_c, p_w, p_upd, p_st1, p_st2, p_st3, p_up1, p_up2, p_up3, p_i0, p_i1, p_bi, if_pos, if_neg, if_true, if_false, Bool.false_eq_true]
  · by_cases h2 : b < v
    · simp (disch := omega) only [p_b, p_c, p_w, p_upd, p_st1, p_st2, p_st3, p_up1, p_up2, p_up3, p_i0, p_i1, p_bi, if_pos, if_neg, if_true, if_false, Bool.false_eq_true]
    · simp (disch := omega) only [p_b, p_c, p_w, p_upd, p_st1, p_st2, p_st3, p_up1, p_up2, p_up3, p_i0, p_i1, p_bi, if_pos, if_neg, if_true, if_false, Bool.false_eq_true]
theorem m1 (d : Nat) (a b : Int) (M : am_M) : am_run (d + 1) 1 [.inl a, .inl b] M = some (min a b, M) := by
  rw [e1]
  by_cases h : a < b
  · simp (disch := omega) only [p_b, p_c, p_w, p_upd, p_st1, p_st2, p_st3, p_up1, p_up2, p_up3, p_i0, p_i1, p_bi, if_pos, if_neg, if_true, if_false, Bool.false_eq_true]
    rw [show min a b = a from by omega]
  · simp (disch := omega) only [p_b, p_c, p_w, p_upd, p_st1, p_st2, p_st3, p_up1, p_up2, p_up3, p_i0, p_i1, p_bi, if_pos, if_neg, if_true, if_false, Bool.false_eq_true]
    rw [show min a b = b from by omega]
theorem m2 (d : Nat) (a b : Int) (M : am_M) : am_run (d + 1) 2 [.inl a, .inl b] M = some (max a b, M) := by
  rw [e2]
  by_cases h : b < a
  · simp (disch := omega) only [p_b, p_c, p_w, p_upd, p_st1, p_st2, p_st3, p_up1, p_up2, p_up3, p_i0, p_i1, p_bi, if_pos, if_neg, if_true, if_false, Bool.false_eq_true]
    rw [show max a b = a from by omega]
  · simp (disch := omega) only [p_b, p_c, p_w, p_upd, p_st1, p_st2, p_st3, p_up1, p_up2, p_up3, p_i0, p_i1, p_bi, if_pos, if_neg, if_true, if_false, Bool.false_eq_true]
    rw [show max a b = b from by omega]
/-- the model's cells -/
def pW (M : am_M) : Int → Int := M 187
def pp (w : Int → Int) (p f : Int) : Int := w (4 + 4 * p + f)
def ph (w : Int → Int) (h f : Int) : Int := w (36 + 10 * h + f)
def pl (w : Int → Int) (i f : Int) : Int := w (196 + 5 * i + f)
theorem m3 (d : Nat) (p f : Int) (M : am_M) (hp : 0 ≤ p ∧ p < 8) (hf : 0 ≤ f ∧ f < 4) : am_run (d + 1) 3 [.inr 186, .inl p, .inl f] M = some (pp (M 187) p f, M) := by
  rw [e3]
  simp (disch := omega) only [p_b, p_c, p_w, p_upd, p_st1, p_st2, p_st3, p_up1, p_up2, p_up3, p_i0, p_i1, p_bi, if_pos, if_neg, if_true, if_false, Bool.false_eq_true, pp]
theorem m4 (d : Nat) (p f v : Int) (M : am_M) (hp : 0 ≤ p ∧ p < 8) (hf : 0 ≤ f ∧ f < 4) : am_run (d + 1) 4 [.inr 186, .inl p, .inl f, .inl v] M = some (0, p_st M 187 (p_up (M 187) (4 + 4 * p + f) v)) := by
  rw [e4]
  simp (disch := omega) only [p_b, p_c, p_w, p_upd, p_st1, p_st2, p_st3, p_up1, p_up2, p_up3, p_i0, p_i1, p_bi, if_pos, if_neg, if_true, if_false, Bool.false_eq_true]
theorem m5 (d : Nat) (h f : Int) (M : am_M) (hp : 0 ≤ h ∧ h < 16) (hf : 0 ≤ f ∧ f < 10) : am_run (d + 1) 5 [.inr 186, .inl h, .inl f] M = some (ph (M 187) h f, M) := by
  rw [e5]
  simp (disch := omega) only [p_b, p_c, p_w, p_upd, p_st1, p_st2, p_st3, p_up1, p_up2, p_up3, p_i0, p_i1, p_bi, if_pos, if_neg, if_true, if_false, Bool.false_eq_true, ph]
theorem m6 (d : Nat) (h f v : Int) (M : am_M) (hp : 0 ≤ h ∧ h < 16) (hf : 0 ≤ f ∧ f < 10) : am_run (d + 1) 6 [.inr 186, .inl h, .inl f, .inl v] M = some (0, p_st M 187 (p_up (M 187) (36 + 10 * h + f) v)) := by
  rw [e6]
  simp (disch := omega) only [p_b, p_c, p_w, p_upd, p_st1, p_st2, p_st3, p_up1, p_up2, p_up3, p_i0, p_i1, p_bi, if_pos, if_neg, if_true, if_false, Bool.false_eq_true]
theorem m7 (d : Nat) (i f : Int) (M : am_M) (hp : 0 ≤ i ∧ i < 16) (hf : 0 ≤ f ∧ f < 5) : am_run (d + 1) 7 [.inr 186, .inl i, .inl f] M = some (pl (M 187) i f, M) := by
  rw [e7]
  simp (disch := omega) only [p_b, p_c, p_w, p_upd, p_st1, p_st2, p_st3, p_up1, p_up2, p_up3, p_i0, p_i1, p_bi, if_pos, if_neg, if_true, if_false, Bool.false_eq_true, pl]
theorem m8 (d : Nat) (p : Int) (M : am_M) (hn : 0 ≤ M 187 276 ∧ M 187 276 ≤ 8) : am_run (d + 2) 8 [.inr 186, .inl p] M = some (if 0 ≤ p ∧ p ≤ M 187 276 - 1 then 1 else 0, M) := by
  rw [e8]
  simp (disch := omega) only [p_b, p_c, p_w, p_upd, p_st1, p_st2, p_st3, p_up1, p_up2, p_up3, p_i0, p_i1, p_bi, if_pos, if_neg, if_true, if_false, Bool.false_eq_true, m0, p_bool]
theorem m9 (d : Nat) (h : Int) (M : am_M) (hn : 0 ≤ M 187 276 ∧ M 187 276 ≤ 8) : am_run (d + 2) 9 [.inr 186, .inl h] M = some (if 0 ≤ h ∧ h ≤ 2 * M 187 276 - 1 then 1 else 0, M) := by
  rw [e9]
  simp (disch := omega) only [p_b, p_c, p_w, p_upd, p_st1, p_st2, p_st3, p_up1, p_up2, p_up3, p_i0, p_i1, p_bi, if_pos, if_neg, if_true, if_false, Bool.false_eq_true, m0, p_bool]
theorem m10 (d : Nat) (k : Int) (M : am_M) : am_run (d + 2) 10 [.inl k] M = some (if 0 ≤ k ∧ k ≤ 3 then 1 else 0, M) := by
  rw [e10]
  simp (disch := omega) only [p_b, p_c, p_w, p_upd, p_st1, p_st2, p_st3, p_up1, p_up2, p_up3, p_i0, p_i1, p_bi, if_pos, if_neg, if_true, if_false, Bool.false_eq_true, m0, p_bool]
theorem m11 (d : Nat) (k : Int) (M : am_M) : am_run (d + 2) 11 [.inl k] M = some (if 0 ≤ k ∧ k ≤ 1 then 1 else 0, M) := by
  rw [e11]
  simp (disch := omega) only [p_b, p_c, p_w, p_upd, p_st1, p_st2, p_st3, p_up1, p_up2, p_up3, p_i0, p_i1, p_bi, if_pos, if_neg, if_true, if_false, Bool.false_eq_true, m0, p_bool]
def pOn (w : Int → Int) (p s : Int) : Int := p_find (fun h => decide (ph w h 8 = p)) 2 (w 276).toNat s
theorem m12_2 (d : Nat) (p s : Int) (M : am_M) (hn : 0 ≤ M 187 276 ∧ M 187 276 ≤ 8) (hs : 0 ≤ s ∧ s ≤ 1) : ∀ (k : Nat) (i : Int), k ≤ M 187 276 → i = s + 2 * (M 187 276 - k) → am_L (d + 1) 12 2 [some (.inr 186), some (.inl p), some (.inl s), some (.inl i)] [] M = some (p_find (fun h => decide (ph (M 187) h 8 = p)) 2 k i, M) := by
  intro k
  induction k with
  | zero =>
    intro i hk hi
    rw [e12_2]
    simp (disch := omega) only [p_b, p_c, p_w, p_upd, p_st1, p_st2, p_st3, p_up1, p_up2, p_up3, p_i0, p_i1, p_bi, if_pos, if_neg, if_true, if_false, Bool.false_eq_true, p_find]
  | succ k ih =>
    intro i hk hi
    rw [e12_2]
    simp (disch := omega) only [p_b, p_c, p_w, p_upd, p_st1, p_st2, p_st3, p_up1, p_up2, p_up3, p_i0, p_i1, p_bi, if_pos, if_neg, if_true, if_false, Bool.false_eq_true, m5, p_find]
    by_cases h : ph (M 187) i 8 = p
    · simp (disch := omega) only [p_b, p_c, p_w, p_upd, p_st1, p_st2, p_st3, p_up1, p_up2, p_up3, p_i0, p_i1, p_bi, if_pos, if_neg, if_true, if_false, Bool.false_eq_true, h, decide_true]
    · simp (disch := omega) only [p_b, p_c, p_w, p_upd, p_st1, p_st2, p_st3, p_up1, p_up2, p_up3, p_i0, p_i1, p_bi, if_pos, if_neg, if_true, if_false, Bool.false_eq_true, h, decide_false]
      exact ih (i + 2) (by omega) (by omega)
theorem m12 (d : Nat) (p s : Int) (M : am_M) (hn : 0 ≤ M 187 276 ∧ M 187 276 ≤ 8) (hs : 0 ≤ s ∧ s ≤ 1) : am_run (d + 2) 12 [.inr 186, .inl p, .inl s] M = some (pOn (M 187) p s, M) := by
  rw [e12]
  exact m12_2 d p s M hn hs (M 187 276).toNat s (by omega) (by omega)
theorem m13 (d : Nat) (h : Int) (M : am_M) (hh : 0 ≤ h ∧ h < 16) : am_run (d + 1) 13 [.inl h] M = some (h / 2, M) := by
  rw [e13]
  simp (disch := omega) only [p_b, p_c, p_w, p_upd, p_st1, p_st2, p_st3, p_up1, p_up2, p_up3, p_i0, p_i1, p_bi, if_pos, if_neg, if_true, if_false, Bool.false_eq_true, p_div2]
theorem m14 (d : Nat) (M : am_M) : am_run (d + 1) 14 [.inr 186] M = some (0, p_st M 186 (p_up (M 186) 4 0)) := by
  rw [e14]
  simp (disch := omega) only [p_b, p_c, p_w, p_upd, p_st1, p_st2, p_st3, p_up1, p_up2, p_up3, p_i0, p_i1, p_bi, if_pos, if_neg, if_true, if_false, Bool.false_eq_true]
theorem m15 (d : Nat) (v : Int) (M : am_M) : am_run (d + 2) 15 [.inr 186, .inl v] M = some (M 187 3, p_st (p_st M 186 (p_up (M 186) 4 0)) 187 (p_up (M 187) 3 v)) := by
  rw [e15]
  simp (disch := omega) only [p_b, p_c, p_w, p_upd, p_st1, p_st2, p_st3, p_up1, p_up2, p_up3, p_i0, p_i1, p_bi, if_pos, if_neg, if_true, if_false, Bool.false_eq_true, m14, p_st2, p_st4]
end
section
-- needs: 02 03 04 05 06 07 08 40 41
/-! PURE: the model's hands and loans -/
def pBest (w : Int → Int) (h : Int) : Int := max (max (max (max 0 (ph w h 0)) (ph w h 1)) (ph w h 2)) (ph w h 3)
theorem m59 (d : Nat) (h : Int) (M : am_M) (hh : 0 ≤ h ∧ h < 16) : am_run (d + 2) 59 [.inr 186, .inl h] M = some (pBest (M 187) h, M) := by
  rw [e59, e59_4]
  simp (disch := omega) only [p_b, p_c, p_w, p_upd, p_st1, p_st2, p_st3, p_up1, p_up2, p_up3, p_i0, p_i1, p_bi, if_pos, if_neg, if_true, if_false, Bool.false_eq_true, m5, m2]
  rw [e59_4]
  simp (disch := omega) only [p_b, p_c, p_w, p_upd, p_st1, p_st2, p_st3, p_up1, p_up2, p_up3, p_i0, p_i1, p_bi, if_pos, if_neg, if_true, if_false, Bool.false_eq_true, m5, m2]
  rw [e59_4]
  simp (disch := omega) only [p_b, p_c, p_w, p_upd, p_st1, p_st2, p_st3, p_up1, p_up2, p_up3, p_i0, p_i1, p_bi, if_pos, if_neg, if_true, if_false, Bool.false_eq_true, m5, m2]
  rw [e59_4]
  simp (disch := omega) only [p_b, p_c, p_w, p_upd, p_st1, p_st2, p_st3, p_up1, p_up2, p_up3, p_i0, p_i1, p_bi, if_pos, if_neg, if_true, if_false, Bool.false_eq_true, m5, m2]
  rw [e59_4]
  simp (disch := omega) only [p_b, p_c, p_w, p_upd, p_st1, p_st2, p_st3, p_up1, p_up2, p_up3, p_i0, p_i1, p_bi, if_pos, if_neg, if_true, if_false, Bool.false_eq_true, m5, m2]
  rfl
def pCnt (P : Int → Bool) : Nat → Int → Int → Int
  | 0, _, n => n
  | k + 1, i, n => pCnt P k (i + 1) (if P i = true then n + 1 else n)
theorem pCnt_le (P : Int → Bool) : ∀ (k : Nat) (i n : Int), n ≤ pCnt P k i n ∧ pCnt P k i n ≤ n + k := by
  intro k
  induction k with
  | zero => intro i n; simp [pCnt]
  | succ k ih =>
    intro i n
    rw [pCnt]
    by_cases h : P i = true
    · have := ih (i + 1) (n + 1)
      rw [if_pos h]
      omega
    · have := ih (i + 1) n
      rw [if_neg h]
      omega
def pLoans (w : Int → Int) (h : Int) : Int := pCnt (fun i => decide (pl w i 0 = h)) (w 1).toNat 0 0
theorem m60_4 (d : Nat) (h : Int) (M : am_M) (hn : 0 ≤ M 187 1 ∧ M 187 1 ≤ 16) : ∀ (k : Nat) (i n : Int), i = M 187 1 - k → 0 ≤ i → 0 ≤ n → n ≤ i → am_L (d + 1) 60 4 [some (.inr 186), some (.inl h), some (.inl n), some (.inl i)] [] M = some (pCnt (fun i => decide (pl (M 187) i 0 = h)) k i n, M) := by
  intro k
  induction k with
  | zero =>
    intro i n hi h0 h1 h2
    rw [e60_4]
    simp (disch := omega) only [p_b, p_c, p_w, p_upd, p_st1, p_st2, p_st3, p_up1, p_up2, p_up3, p_i0, p_i1, p_bi, if_pos, if_neg, if_true, if_false, Bool.false_eq_true, pCnt]
  | succ k ih =>
    intro i n hi h0 h1 h2
    rw [e60_4]
    simp (disch := omega) only [p_b, p_c, p_w, p_upd, p_st1, p_st2, p_st3, p_up1, p_up2, p_up3, p_i0, p_i1, p_bi, if_pos, if_neg, if_true, if_false, Bool.false_eq_true, m7, pCnt]
    by_cases hc : pl (M 187) i 0 = h
    · simp (disch := omega) only [p_b, p_c, p_w, p_upd, p_st1, p_st2, p_st3, p_up1, p_up2, p_up3, p_i0, p_i1, p_bi, if_pos, if_neg, if_true, if_false, Bool.false_eq_true, hc, decide_true]
      exact ih (i + 1) (n + 1) (by omega) (by omega) (by omega) (by omega)
    · simp (disch := omega) only [p_b, p_c, p_w, p_upd, p_st1, p_st2, p_st3, p_up1, p_up2, p_up3, p_i0, p_i1, p_bi, if_pos, if_neg, if_true, if_false, Bool.false_eq_true, hc, decide_false, Bool.false_eq_true, Int.add_zero]
      exact ih (i + 1) n (by omega) (by omega) (by omega) (by omega)
theorem m60 (d : Nat) (h : Int) (M : am_M) (hn : 0 ≤ M 187 1 ∧ M 187 1 ≤ 16) : am_run (d + 2) 60 [.inr 186, .inl h] M = some (pLoans (M 187) h, M) := by
  rw [e60]
  exact m60_4 d h M hn (M 187 1).toNat 0 0 (by omega) (by omega) (by omega) (by omega)
def pLatest (w : Int → Int) (h : Int) : Int := p_find (fun i => decide (pl w i 0 = h)) (-1) (w 1).toNat (w 1 - 1)
theorem m61_7 (d : Nat) (h : Int) (M : am_M) : ∀ (k : Nat) (i : Int), k ≤ 16 → i = k - 1 → am_L (d + 1) 61 7 [some (.inr 186), some (.inl h), some (.inl i)] [] M = some (p_find (fun i => decide (pl (M 187) i 0 = h)) (-1) k i, M) := by
  intro k
  induction k with
  | zero =>
    intro i hk hi
    rw [e61_7]
    simp (disch := omega) only [p_b, p_c, p_w, p_upd, p_st1, p_st2, p_st3, p_up1, p_up2, p_up3, p_i0, p_i1, p_bi, if_pos, if_neg, if_true, if_false, Bool.false_eq_true, p_find]
  | succ k ih =>
    intro i hk hi
    rw [e61_7]
    simp (disch := omega) only [p_b, p_c, p_w, p_upd, p_st1, p_st2, p_st3, p_up1, p_up2, p_up3, p_i0, p_i1, p_bi, if_pos, if_neg, if_true, if_false, Bool.false_eq_true, m7, p_find]
    by_cases hc : pl (M 187) i 0 = h
    · simp (disch := omega) only [p_b, p_c, p_w, p_upd, p_st1, p_st2, p_st3, p_up1, p_up2, p_up3, p_i0, p_i1, p_bi, if_pos, if_neg, if_true, if_false, Bool.false_eq_true, hc, decide_true]
    · simp (disch := omega) only [p_b, p_c, p_w, p_upd, p_st1, p_st2, p_st3, p_up1, p_up2, p_up3, p_i0, p_i1, p_bi, if_pos, if_neg, if_true, if_false, Bool.false_eq_true, hc, decide_false]
      exact ih (i + -1) (by omega) (by omega)
theorem m61 (d : Nat) (h : Int) (M : am_M) (hn : 0 ≤ M 187 1 ∧ M 187 1 ≤ 16) : am_run (d + 2) 61 [.inr 186, .inl h] M = some (pLatest (M 187) h, M) := by
  rw [e61]
  simp (disch := omega) only [p_b, p_c, p_w, p_upd, p_st1, p_st2, p_st3, p_up1, p_up2, p_up3, p_i0, p_i1, p_bi, if_pos, if_neg, if_true, if_false, Bool.false_eq_true]
  exact m61_7 d h M (M 187 1).toNat (M 187 1 - 1) (by omega) (by omega)
/-- what handFacts lays -/
def pHF (w : Int → Int) (h p : Int) (f : Int → Int) : Int → Int := p_up (p_up (p_up (p_up (p_up (p_up (p_up f 1 (1 - h % 2)) 2 (pBest w h)) 3 (ph w h 4)) 4 (ph w h 5)) 12 (ph w h 7)) 9 (if h / 2 = p then 1 else 0)) 8 (w (277 + p))
theorem m62 (d : Nat) (h p : Int) (M : am_M) (hh : 0 ≤ h ∧ h < 16) (hp : 0 ≤ p ∧ p < 8) : am_run (d + 3) 62 [.inr 186, .inl h, .inl p] M = some (0, p_st M 196 (pHF (M 187) h p (M 196))) := by
  rw [e62]
  simp (disch := omega) only [p_b, p_c, p_w, p_upd, p_st1, p_st2, p_st3, p_up1, p_up2, p_up3, p_i0, p_i1, p_bi, if_pos, if_neg, if_true, if_false, Bool.false_eq_true, p_rem2, m59, m5, m13, p_st2]
  by_cases hc : h / 2 = p
  · simp (disch := omega) only [p_b, p_c, p_w, p_upd, p_st1, p_st2, p_st3, p_up1, p_up2, p_up3, p_i0, p_i1, p_bi, if_pos, if_neg, if_true, if_false, Bool.false_eq_true, hc, p_st2, pHF]
  · simp (disch := omega) only [p_b, p_c, p_w, p_upd, p_st1, p_st2, p_st3, p_up1, p_up2, p_up3, p_i0, p_i1, p_bi, if_pos, if_neg, if_true, if_false, Bool.false_eq_true, hc, p_st2, pHF]
def pGoes (w : Int → Int) (h p : Int) : Int → Int := p_up (p_up w (36 + 10 * h + 8) p) (36 + 10 * h + 7) 0
theorem m66 (d : Nat) (h p : Int) (M : am_M) (hh : 0 ≤ h ∧ h < 16) : am_run (d + 2) 66 [.inr 186, .inl h, .inl p] M = some (0, p_st M 187 (pGoes (M 187) h p)) := by
  rw [e66]
  simp (disch := omega) only [p_b, p_c, p_w, p_upd, p_st1, p_st2, p_st3, p_up1, p_up2, p_up3, p_i0, p_i1, p_bi, if_pos, if_neg, if_true, if_false, Bool.false_eq_true, m6, pGoes]
theorem m67 (d : Nat) (n price : Int) (M : am_M) : am_run (d + 2) 67 [.inl n, .inl price] M = some (if (1 ≤ n ∧ n ≤ 99) ∧ 0 ≤ price ∧ price ≤ 99 then 1 else 0, M) := by
  rw [e67]
  simp (disch := omega) only [p_b, p_c, p_w, p_upd, p_st1, p_st2, p_st3, p_up1, p_up2, p_up3, p_i0, p_i1, p_bi, if_pos, if_neg, if_true, if_false, Bool.false_eq_true, m0]
  by_cases h1 : 1 ≤ n ∧ n ≤ 99
  · by_cases h2 : 0 ≤ price ∧ price ≤ 99
    · simp (disch := omega) only [p_b, p_c, p_w, p_upd, p_st1, p_st2, p_st3, p_up1, p_up2, p_up3, p_i0, p_i1, p_bi, if_pos, if_neg, if_true, if_false, Bool.false_eq_true]
    · simp (disch := omega) only [p_b, p_c, p_w, p_upd, p_st1, p_st2, p_st3, p_up1, p_up2, p_up3, p_i0, p_i1, p_bi, if_pos, if_neg, if_true, if_false, Bool.false_eq_true]
  · simp (disch := omega) only [p_b, p_c, p_w, p_upd, p_st1, p_st2, p_st3, p_up1, p_up2, p_up3, p_i0, p_i1, p_bi, if_pos, if_neg, if_true, if_false, Bool.false_eq_true]
def pEarns (w : Int → Int) (p v : Int) : Int → Int := p_up w (4 + 4 * p + 0) (min 9999 (pp w p 0 + v))
theorem m69 (d : Nat) (p v : Int) (M : am_M) (hp : 0 ≤ p ∧ p < 8) (hc : 0 ≤ pp (M 187) p 0 ∧ pp (M 187) p 0 ≤ 9999) (hv : -99999 ≤ v ∧ v ≤ 99999) : am_run (d + 2) 69 [.inr 186, .inl p, .inl v] M = some (0, p_st M 187 (pEarns (M 187) p v)) := by
  rw [e69]
  simp (disch := omega) only [p_b, p_c, p_w, p_upd, p_st1, p_st2, p_st3, p_up1, p_up2, p_up3, p_i0, p_i1, p_bi, if_pos, if_neg, if_true, if_false, Bool.false_eq_true, m3, m1, m4, pEarns]
theorem m76 (d : Nat) (p : Int) (M : am_M) (hp : 0 ≤ p ∧ p < 8) : am_run (d + 2) 76 [.inr 186, .inl p] M = some (0, p_st M 187 (p_up (M 187) (4 + 4 * p + 2) (am_wrap (pp (M 187) p 2 + 1)))) := by
  rw [e76]
  simp (disch := omega) only [m3, m4, p_b]
end
section
-- needs: 02 03 04 05 06 07 08 40 41 42
/-! PURE: what a law comes to, in the model -/
def pBoth (s a b : Int) : Int := if s = 23 then am_wrap (a + b) else if s = 24 then am_wrap (a - b) else if s = 25 then am_wrap (a * b) else if s = 27 then (if a < b then 1 else 0) else if s = 28 then (if a = b then 1 else 0) else if s = 29 then (if b < a then 1 else 0) else if s = 31 then am_iand a b else am_ior a b
theorem m54 (d : Nat) (s a b : Int) (M : am_M) : am_run (d + 1) 54 [.inl s, .inl a, .inl b] M = some (pBoth s a b, M) := by
  rw [e54, pBoth]
  by_cases h23 : s = 23
  · simp (disch := omega) only [p_b, p_c, p_w, p_upd, p_st1, p_st2, p_st3, p_up1, p_up2, p_up3, p_i0, p_i1, p_bi, if_pos, if_neg, if_true, if_false, Bool.false_eq_true, h23]
  by_cases h24 : s = 24
  · simp (disch := omega) only [p_b, p_c, p_w, p_upd, p_st1, p_st2, p_st3, p_up1, p_up2, p_up3, p_i0, p_i1, p_bi, if_pos, if_neg, if_true, if_false, Bool.false_eq_true, h24]
  by_cases h25 : s = 25
  · simp (disch := omega) only [p_b, p_c, p_w, p_upd, p_st1, p_st2, p_st3, p_up1, p_up2, p_up3, p_i0, p_i1, p_bi, if_pos, if_neg, if_true, if_false, Bool.false_eq_true, h25]
  by_cases h26 : s = 26
  · subst h26; rfl
  by_cases h27 : s = 27
  · subst h27
    by_cases h : a < b
    · simp (disch := omega) only [p_b, p_c, p_w, p_upd, p_st1, p_st2, p_st3, p_up1, p_up2, p_up3, p_i0, p_i1, p_bi, if_pos, if_neg, if_true, if_false, Bool.false_eq_true]
    · simp (disch := omega) only [p_b, p_c, p_w, p_upd, p_st1, p_st2, p_st3, p_up1, p_up2, p_up3, p_i0, p_i1, p_bi, if_pos, if_neg, if_true, if_false, Bool.false_eq_true]
  by_cases h28 : s = 28
  · subst h28
    by_cases h : a = b
    · simp (disch := omega) only [p_b, p_c, p_w, p_upd, p_st1, p_st2, p_st3, p_up1, p_up2, p_up3, p_i0, p_i1, p_bi, if_pos, if_neg, if_true, if_false, Bool.false_eq_true]
    · simp (disch := omega) only [p_b, p_c, p_w, p_upd, p_st1, p_st2, p_st3, p_up1, p_up2, p_up3, p_i0, p_i1, p_bi, if_pos, if_neg, if_true, if_false, Bool.false_eq_true]
  by_cases h29 : s = 29
  · subst h29
    by_cases h : b < a
    · simp (disch := omega) only [p_b, p_c, p_w, p_upd, p_st1, p_st2, p_st3, p_up1, p_up2, p_up3, p_i0, p_i1, p_bi, if_pos, if_neg, if_true, if_false, Bool.false_eq_true]
    · simp (disch := omega) only [p_b, p_c, p_w, p_upd, p_st1, p_st2, p_st3, p_up1, p_up2, p_up3, p_i0, p_i1, p_bi, if_pos, if_neg, if_true, if_false, Bool.false_eq_true]
  by_cases h30 : s = 30
  · subst h30; rfl
  by_cases h31 : s = 31
  · simp (disch := omega) only [p_b, p_c, p_w, p_upd, p_st1, p_st2, p_st3, p_up1, p_up2, p_up3, p_i0, p_i1, p_bi, if_pos, if_neg, if_true, if_false, Bool.false_eq_true, h31]
  simp (disch := omega) only [p_b, p_c, p_w, p_upd, p_st1, p_st2, p_st3, p_up1, p_up2, p_up3, p_i0, p_i1, p_bi, if_pos, if_neg, if_true, if_false, Bool.false_eq_true]
/-- one step on a stack -/
def pMst (f : Int → Int) (q : Int × Int) (st : List Int) : Option (List Int) :=
  if q.1 < 23 then (if 0 ≤ q.1 ∧ q.1 < 15 ∧ st.length < 32 then some ((if q.1 = 0 then q.2 else f q.1) :: st) else none)
  else if q.1 = 26 then (match st with
    | a :: r => if q.2 = 0 then none else some (am_idiv a q.2 :: r)
    | [] => none)
  else if q.1 = 30 then (match st with
    | a :: r => some (am_wrap (1 - a) :: r)
    | [] => none)
  else match st with
    | b :: a :: r => some (pBoth q.1 a b :: r)
    | _ => none
def pMrun (f : Int → Int) : List (Int × Int) → List Int → Option (List Int)
  | [], st => some st
  | q :: l, st => (pMst f q st).bind (pMrun f l)
def pSteps (w : Int → Int) (k : Int) : Nat → Int → List (Int × Int)
  | 0, _ => []
  | n + 1, i => (w (996 + 820 * k + 2 * i), w (996 + 820 * k + 2 * i + 1)) :: pSteps w k n (i + 1)
def PS (f : Int → Int) : List Int → Prop
  | [] => True
  | x :: st => f st.length = x ∧ PS f st
theorem PS_up {f : Int → Int} {i v : Int} : ∀ {st : List Int}, PS f st → (st.length : Int) ≤ i → PS (p_up f i v) st := by
  intro st
  induction st with
  | nil => intro _ _; trivial
  | cons x st ih =>
    intro h hi
    have hl : ((x :: st).length : Int) = st.length + 1 := by simp
    refine ⟨?_, ih h.2 (by omega)⟩
    rw [p_up2 (by omega)]
    exact h.1
theorem m55_4 (d : Nat) (k b : Int) (hk : 0 ≤ k ∧ k < 3) : ∀ (n : Nat) (i top : Int) (st st' : List Int) (o6 o7 : Option am_V) (M : am_M), PS (M 195) st → top = st.length → st.length ≤ 32 → 0 ≤ i → i + n ≤ 410 → pMrun (M 196) (pSteps (M 187) k n i) st = some st' → ∃ pile, am_L (d + 1) 55 4 [some (.inr 186), some (.inl k), some (.inl b), some (.inl (i + n)), some (.inl top), some (.inl i), o6, o7] [] M = some (pile 0, p_st M 195 pile) ∧ PS pile st' := by
  intro n
  induction n with
  | zero =>
    intro i top st st' o6 o7 M hP ht hl h0 hn hr
    cases hr
    refine ⟨M 195, ?_, hP⟩
    rw [e55_4]
    simp (disch := omega) only [p_b, p_c, p_w, p_upd, p_st1, p_st2, p_st3, p_up1, p_up2, p_up3, p_i0, p_i1, p_bi, if_pos, if_neg, if_true, if_false, Bool.false_eq_true, p_st5]
  | succ n ih =>
    intro i top st st' o6 o7 M hP ht hl h0 hn hr
    have hr : (pMst (M 196) (M 187 (996 + 820 * k + 2 * i), M 187 (996 + 820 * k + 2 * i + 1)) st).bind (pMrun (M 196) (pSteps (M 187) k n (i + 1))) = some st' := hr
    obtain ⟨st1, hs1, hs2⟩ := Option.bind_eq_some_iff.mp hr
    have go : ∀ (x top' : Int) (st0 : List Int) (o6 o7 : Option am_V), st1 = x :: st0 → top' = st1.length → PS (M 195) st0 → st0.length < 32 → ∃ pile, am_L (d + 1) 55 4 [some (.inr 186), some (.inl k), some (.inl b), some (.inl (i + ((n + 1 : Nat) : Int))), some (.inl top'), some (.inl (i + 1)), o6, o7] [] (p_st M 195 (p_up (M 195) st0.length x)) = some (pile 0, p_st M 195 pile) ∧ PS pile st' := by
      intro x top' st0 o6 o7 e1 e2 e3 e4
      subst e1
      have := ih (i + 1) top' (x :: st0) st' o6 o7 (p_st M 195 (p_up (M 195) st0.length x)) (by
        rw [p_st1]
        exact ⟨p_up1 _ _ _, PS_up e3 (Int.le_refl _)⟩) e2 (by simp; omega) (by omega) (by omega) (by
        rw [p_st2 (by decide), p_st2 (by decide)]
        exact hs2)
      obtain ⟨pile, g1, g2⟩ := this
      refine ⟨pile, ?_, g2⟩
      rw [p_st3] at g1
      rw [show i + ((n + 1 : Nat) : Int) = i + 1 + (n : Int) from by omega]
      exact g1
    rw [e55_4]
    simp (disch := omega) only [p_b, p_c, p_w, p_upd, p_st1, p_st2, p_st3, p_up1, p_up2, p_up3, p_i0, p_i1, p_bi, if_pos, if_neg, if_true, if_false, Bool.false_eq_true]
    generalize hs : M 187 (996 + 820 * k + 2 * i) = s at hs1 ⊢
    generalize hv : M 187 (996 + 820 * k + 2 * i + 1) = v at hs1 ⊢
    unfold pMst at hs1
    by_cases h23 : s < 23
    · rw [if_pos h23] at hs1
      by_cases hc : 0 ≤ s ∧ s < 15 ∧ st.length < 32
      · rw [if_pos hc] at hs1
        obtain rfl := Option.some.inj hs1
        rw [if_pos h23]
        by_cases hz : s = 0
        · simp (disch := omega) only [p_b, p_c, p_w, p_upd, p_st1, p_st2, p_st3, p_up1, p_up2, p_up3, p_i0, p_i1, p_bi, if_pos, if_neg, if_true, if_false, Bool.false_eq_true]
          have := go _ (top + 1) st (some (.inl s)) (some (.inl v)) rfl (by simp; omega) hP hc.2.2
          rw [if_pos hz] at this
          rw [ht]
          rw [ht] at this
          exact this
        · simp (disch := omega) only [p_b, p_c, p_w, p_upd, p_st1, p_st2, p_st3, p_up1, p_up2, p_up3, p_i0, p_i1, p_bi, if_pos, if_neg, if_true, if_false, Bool.false_eq_true]
          have := go _ (top + 1) st (some (.inl s)) (some (.inl v)) rfl (by simp; omega) hP hc.2.2
          rw [if_neg hz] at this
          rw [ht]
          rw [ht] at this
          exact this
      · rw [if_neg hc] at hs1
        cases hs1
    · rw [if_neg h23] at hs1
      rw [if_neg h23]
      by_cases h26 : s = 26
      · rw [if_pos h26] at hs1
        rw [if_pos h26]
        match st, hP, ht, hl, hs1 with
        | [], _, _, _, hs1 => cases hs1
        | a :: r, hP, ht, hl, hs1 =>
          dsimp only at hs1
          by_cases hz : v = 0
          · rw [if_pos hz] at hs1
            cases hs1
          rw [if_neg hz] at hs1
          obtain rfl := Option.some.inj hs1
          have hl' : (a :: r).length = r.length + 1 := rfl
          have htop : top = r.length + 1 := by rw [ht]; simp
          have hx : M 195 (r.length : Int) = a := hP.1
          have := go _ top r (some (.inl s)) (some (.inl v)) rfl (by simp; omega) hP.2 (by omega)
          simp (disch := omega) only [p_b, p_c, p_w, p_upd, p_st1, p_st2, p_st3, p_up1, p_up2, p_up3, p_i0, p_i1, p_bi, if_pos, if_neg, if_true, if_false, Bool.false_eq_true, show top - 1 = (r.length : Int) from by omega, hx]
          exact this
      · rw [if_neg h26] at hs1
        rw [if_neg h26]
        by_cases h30 : s = 30
        · rw [if_pos h30] at hs1
          rw [if_pos h30]
          match st, hP, ht, hl, hs1 with
          | [], _, _, _, hs1 => cases hs1
          | a :: r, hP, ht, hl, hs1 =>
            obtain rfl := Option.some.inj hs1
            have hl' : (a :: r).length = r.length + 1 := rfl
            have htop : top = r.length + 1 := by rw [ht]; simp
            have hx : M 195 (r.length : Int) = a := hP.1
            have := go _ top r (some (.inl s)) (some (.inl v)) rfl (by simp; omega) hP.2 (by omega)
            have ew : am_wrap (top - 1) = (r.length : Int) := by rw [p_w (by omega) (by omega)]; omega
            simp (disch := omega) only [p_b, p_c, p_upd, ew, show top - 1 = (r.length : Int) from by omega, hx]
            exact this
        · rw [if_neg h30] at hs1
          rw [if_neg h30]
          match st, hP, ht, hl, hs1 with
          | [], _, _, _, hs1 => cases hs1
          | [_], _, _, _, hs1 => cases hs1
          | y :: a :: r, hP, ht, hl, hs1 =>
            obtain rfl := Option.some.inj hs1
            have hl' : (y :: a :: r).length = r.length + 2 := rfl
            have htop : top = r.length + 2 := by rw [ht]; simp; omega
            have hx : M 195 ((r.length : Int) + 1) = y := by
              have := hP.1
              rw [show (((a :: r).length : Nat) : Int) = (r.length : Int) + 1 from by simp] at this
              exact this
            have hx2 : M 195 (r.length : Int) = a := hP.2.1
            have := go _ (top - 1) r (some (.inl s)) (some (.inl v)) rfl (by simp; omega) hP.2.2 (by omega)
            simp (disch := omega) only [p_b, p_c, p_w, p_upd, p_st1, p_st2, p_st3, p_up1, p_up2, p_up3, p_i0, p_i1, p_bi, if_pos, if_neg, if_true, if_false, Bool.false_eq_true, show (r.length : Int) + 1 - 1 = (r.length : Int) from by omega, show top + -1 = (r.length : Int) + 1 from by omega, hx, hx2, m54]
            rw [show top - 1 = (r.length : Int) + 1 from by omega] at this
            exact this
theorem m55 (d : Nat) (k b e x : Int) (M : am_M) (hk : 0 ≤ k ∧ k < 3) (hb : 0 ≤ b ∧ b ≤ e ∧ e ≤ 410) (hr : pMrun (M 196) (pSteps (M 187) k (e - b).toNat b) [] = some [x]) : ∃ pile, am_run (d + 2) 55 [.inr 186, .inl k, .inl b, .inl e] M = some (x, p_st M 195 pile) := by
  obtain ⟨pile, h1, h2⟩ := m55_4 d k b hk (e - b).toNat b 0 [] [x] none none M trivial rfl (by decide) hb.1 (by omega) hr
  refine ⟨pile, ?_⟩
  rw [e55, show e = b + ((e - b).toNat : Int) from by omega]
  rw [h1]
  have : pile 0 = x := h2.1
  rw [this]
end
section
-- needs: 02 03 04 05 06 07 08 40 41 42 43
/-! PURE: what a law says, in the model -/
def pVal (f : Int → Int) (l : List (Int × Int)) : Int := match pMrun f l [] with
  | some (x :: _) => x
  | _ => 0
def pRuns (l : List (Int × Int)) : Prop := ∀ f, ∃ x, pMrun f l [] = some [x]
theorem pRuns_val {l : List (Int × Int)} (h : pRuns l) (f : Int → Int) : pMrun f l [] = some [pVal f l] := by
  obtain ⟨x, hx⟩ := h f
  simp only [pVal, hx]
def pFrom (w : Int → Int) (k i : Int) : Int := w (804 + 16 * k + i)
def pMid (w : Int → Int) (k i : Int) : Int := w (852 + 16 * k + i)
def pTo (w : Int → Int) (k i : Int) : Int := w (900 + 16 * k + i)
def pSay (w : Int → Int) (k i : Int) : Int := w (948 + 16 * k + i)
def pB (w : Int → Int) (k i : Int) : List (Int × Int) := pSteps w k (pTo w k i - pMid w k i).toNat (pMid w k i)
def pE (w : Int → Int) (k i : Int) : List (Int × Int) := pSteps w k (pMid w k i - pFrom w k i).toNat (pFrom w k i)
def pHolds (w f : Int → Int) (k i : Int) : Bool := decide (pTo w k i = pMid w k i ∨ pVal f (pB w k i) = 1)
/-- which facts a law's texts may ask -/
def pA (k : Int) : List Int := if k = 0 then [1, 2, 3, 4, 5, 6, 7, 8, 9, 10] else if k = 1 then [1, 3, 4, 8, 9, 11, 12, 13, 14] else [1, 2, 4, 6, 8, 9, 12]
def pDep (A : List Int) (l : List (Int × Int)) : Prop := ∀ f g : Int → Int, (∀ s ∈ A, f s = g s) → pMrun f l [] = pMrun g l []
/-- a law that was read well -/
def pLaw (w : Int → Int) (k : Int) : Prop := (0 ≤ w (288 + k) ∧ w (288 + k) ≤ 16) ∧ ∀ i, 0 ≤ i → i < w (288 + k) → (0 ≤ pFrom w k i ∧ pFrom w k i ≤ pMid w k i ∧ pMid w k i ≤ pTo w k i ∧ pTo w k i ≤ 410) ∧ (pTo w k i ≠ pMid w k i → pRuns (pB w k i) ∧ pDep (pA k) (pB w k i)) ∧ (k = 1 → pRuns (pE w k i) ∧ pDep (pA k) (pE w k i))
theorem m56 (d : Nat) (k i : Int) (M : am_M) (hk : 0 ≤ k ∧ k < 3) (hL : pLaw (M 187) k) (hi : 0 ≤ i ∧ i < M 187 (288 + k)) : ∃ pile, am_run (d + 3) 56 [.inr 186, .inl k, .inl i] M = some (if pHolds (M 187) (M 196) k i = true then 1 else 0, p_st M 195 pile) := by
  obtain ⟨⟨a1, a2⟩, h⟩ := hL
  obtain ⟨b1, b2, b3⟩ := h i hi.1 hi.2
  unfold pFrom pMid pTo at b1
  rw [e56]
  simp (disch := omega) only [p_b, p_c, p_w, p_upd, p_st1, p_st2, p_st3, p_up1, p_up2, p_up3, p_i0, p_i1, p_bi, if_pos, if_neg, if_true, if_false, Bool.false_eq_true]
  by_cases hc : M 187 (900 + 16 * k + i) = M 187 (852 + 16 * k + i)
  · refine ⟨M 195, ?_⟩
    simp (disch := omega) only [p_b, p_c, p_w, p_upd, p_st1, p_st2, p_st3, p_up1, p_up2, p_up3, p_i0, p_i1, p_bi, if_pos, if_neg, if_true, if_false, Bool.false_eq_true, pHolds, pTo, pMid, hc, true_or, decide_true, p_st5]
  · have hr := pRuns_val (b2 hc).1 (M 196)
    obtain ⟨pile, hp⟩ := m55 d k (M 187 (852 + 16 * k + i)) (M 187 (900 + 16 * k + i)) _ M hk (by omega) hr
    refine ⟨pile, ?_⟩
    have hc' : ¬ pTo (M 187) k i = pMid (M 187) k i := hc
    rw [if_neg hc]
    have hp : am_run (d + 2) 55 [.inr 186, .inl k, .inl (M 187 (852 + 16 * k + i)), .inl (M 187 (900 + 16 * k + i))] M = some (pVal (M 196) (pB (M 187) k i), p_st M 195 pile) := hp
    rw [hp, p_b]
    by_cases h1 : pVal (M 196) (pB (M 187) k i) = 1
    · simp only [pHolds, h1, or_true, decide_true, if_true]
    · simp only [pHolds, h1, hc', or_false, decide_false, if_false, Bool.false_eq_true]
def pSays (w f : Int → Int) (k o : Int) : Nat → Int → Int
  | 0, _ => o
  | n + 1, i => if pHolds w f k i = true then pSay w k i else pSays w f k o n (i + 1)
theorem m57_2 (d : Nat) (k o : Int) (hk : 0 ≤ k ∧ k < 3) : ∀ (n : Nat) (i : Int) (M : am_M), pLaw (M 187) k → 0 ≤ i → i + n = M 187 (288 + k) → ∃ pile, am_L (d + 3) 57 2 [some (.inr 186), some (.inl k), some (.inl o), some (.inl i)] [] M = some (pSays (M 187) (M 196) k o n i, p_st M 195 pile) := by
  intro n
  induction n with
  | zero =>
    intro i M hL h0 hi
    refine ⟨M 195, ?_⟩
    rw [e57_2]
    simp (disch := omega) only [p_b, p_c, p_w, p_upd, p_st1, p_st2, p_st3, p_up1, p_up2, p_up3, p_i0, p_i1, p_bi, if_pos, if_neg, if_true, if_false, Bool.false_eq_true, pSays, p_st5]
  | succ n ih =>
    intro i M hL h0 hi
    have hL2 := hL
    obtain ⟨⟨a1, a2⟩, -⟩ := hL2
    obtain ⟨pile, hp⟩ := m56 d k i M hk hL (by omega)
    rw [e57_2]
    simp (disch := omega) only [p_b, p_c, p_w, p_upd, p_st1, p_st2, p_st3, p_up1, p_up2, p_up3, p_i0, p_i1, p_bi, if_pos, if_neg, if_true, if_false, Bool.false_eq_true, hp]
    by_cases hc : pHolds (M 187) (M 196) k i = true
    · refine ⟨pile, ?_⟩
      simp (disch := omega) only [p_b, p_c, p_w, p_upd, p_st1, p_st2, p_st3, p_up1, p_up2, p_up3, p_i0, p_i1, p_bi, if_pos, if_neg, if_true, if_false, Bool.false_eq_true, hc, pSays, p_st2, pSay]
    · obtain ⟨pile2, hp2⟩ := ih (i + 1) (p_st M 195 pile) (by rw [p_st2 (by decide)]; exact hL) (by omega) (by rw [p_st2 (by decide)]; omega)
      refine ⟨pile2, ?_⟩
      rw [p_st3, p_st2 (by decide), p_st2 (by decide)] at hp2
      simp (disch := omega) only [p_b, p_c, p_w, p_upd, p_st1, p_st2, p_st3, p_up1, p_up2, p_up3, p_i0, p_i1, p_bi, if_pos, if_neg, if_true, if_false, Bool.false_eq_true, hc, pSays, hp2]
theorem m57 (d : Nat) (k o : Int) (M : am_M) (hk : 0 ≤ k ∧ k < 3) (hL : pLaw (M 187) k) : ∃ pile, am_run (d + 4) 57 [.inr 186, .inl k, .inl o] M = some (pSays (M 187) (M 196) k o (M 187 (288 + k)).toNat 0, p_st M 195 pile) := by
  have := hL.1
  rw [e57]
  exact m57_2 d k o hk _ 0 M hL (Int.le_refl _) (by omega)
def pAmt (w f : Int → Int) (word high : Int) : Nat → Int → Int
  | 0, _ => 0
  | n + 1, i => if pSay w 1 i = word ∧ pHolds w f 1 i = true then max 0 (min high (pVal f (pE w 1 i))) else pAmt w f word high n (i + 1)
theorem m58_2 (d : Nat) (word high : Int) : ∀ (n : Nat) (i : Int) (M : am_M), pLaw (M 187) 1 → 0 ≤ i → i + n = M 187 289 → ∃ pile, am_L (d + 3) 58 2 [some (.inr 186), some (.inl word), some (.inl high), some (.inl i)] [] M = some (pAmt (M 187) (M 196) word high n i, p_st M 195 pile) := by
  intro n
  induction n with
  | zero =>
    intro i M hL h0 hi
    refine ⟨M 195, ?_⟩
    rw [e58_2]
    simp (disch := omega) only [p_b, p_c, p_w, p_upd, p_st1, p_st2, p_st3, p_up1, p_up2, p_up3, p_i0, p_i1, p_bi, if_pos, if_neg, if_true, if_false, Bool.false_eq_true, pAmt, p_st5]
  | succ n ih =>
    intro i M hL h0 hi
    have hL2 := hL
    obtain ⟨⟨a1, a2⟩, hL3⟩ := hL2
    have a2 : M 187 289 ≤ 16 := a2
    obtain ⟨b1, b2, b3⟩ := hL3 i h0 (show i < M 187 289 by omega)
    have e1 : pSay (M 187) 1 i = M 187 (964 + i) := congrArg (M 187) (by omega)
    have e2 : pFrom (M 187) 1 i = M 187 (820 + i) := congrArg (M 187) (by omega)
    have e3 : pMid (M 187) 1 i = M 187 (868 + i) := congrArg (M 187) (by omega)
    have next : ∀ pile, ¬ (pSay (M 187) 1 i = word ∧ pHolds (M 187) (M 196) 1 i = true) → ∃ pile2, am_L (d + 3) 58 2 [some (.inr 186), some (.inl word), some (.inl high), some (.inl (i + 1))] [] (p_st M 195 pile) = some (pAmt (M 187) (M 196) word high (n + 1) i, p_st M 195 pile2) := by
      intro pile hc
      obtain ⟨pile2, hp2⟩ := ih (i + 1) (p_st M 195 pile) (by rw [p_st2 (by decide)]; exact hL) (by omega) (by rw [p_st2 (by decide)]; omega)
      refine ⟨pile2, ?_⟩
      rw [p_st3, p_st2 (by decide), p_st2 (by decide)] at hp2
      rw [hp2, pAmt, if_neg hc]
    rw [e58_2]
    simp (disch := omega) only [p_b, p_c, p_w, p_upd, p_st1, p_st2, p_st3, p_up1, p_up2, p_up3, p_i0, p_i1, p_bi, if_pos, if_neg, if_true, if_false, Bool.false_eq_true]
    by_cases hw : M 187 (964 + i) = word
    · obtain ⟨pile, hp⟩ := m56 d 1 i M (by omega) hL (by show 0 ≤ i ∧ i < M 187 289; omega)
      rw [if_pos hw, hp]
      simp (disch := omega) only [p_b, p_c, p_w, p_upd, p_st1, p_st2, p_st3, p_up1, p_up2, p_up3, p_i0, p_i1, p_bi, if_pos, if_neg, if_true, if_false, Bool.false_eq_true]
      by_cases hc : pHolds (M 187) (M 196) 1 i = true
      · rw [if_pos hc]
        have hr := pRuns_val (b3 rfl).1 (M 196)
        obtain ⟨pile2, hp2⟩ := m55 (d + 1) 1 (pFrom (M 187) 1 i) (pMid (M 187) 1 i) _ (p_st M 195 pile) (by omega) (by omega) (by rw [p_st2 (by decide), p_st2 (by decide)]; exact hr)
        refine ⟨pile2, ?_⟩
        rw [e2, e3, p_st3] at hp2
        simp (disch := omega) only [p_b, p_c, p_w, p_upd, p_st1, p_st2, p_st3, p_up1, p_up2, p_up3, p_i0, p_i1, p_bi, if_pos, if_neg, if_true, if_false, Bool.false_eq_true, p_st2, hp2, m1, m2]
        rw [pAmt, if_pos ⟨e1.trans hw, hc⟩]
      · rw [if_neg hc]
        exact next pile (fun h => hc h.2)
    · rw [if_neg hw]
      have := next (M 195) (fun h => hw (e1.symm.trans h.1))
      rw [p_st5] at this
      exact this
theorem m58 (d : Nat) (word high : Int) (M : am_M) (hL : pLaw (M 187) 1) : ∃ pile, am_run (d + 4) 58 [.inr 186, .inl word, .inl high] M = some (pAmt (M 187) (M 196) word high (M 187 289).toNat 0, p_st M 195 pile) := by
  have : 0 ≤ M 187 289 := hL.1.1
  rw [e58]
  exact m58_2 d word high _ 0 M hL (Int.le_refl _) (by omega)
theorem pHolds_dep {w f g : Int → Int} {k i : Int} (hL : pLaw w k) (hi : 0 ≤ i ∧ i < w (288 + k)) (h : ∀ s ∈ pA k, f s = g s) : pHolds w f k i = pHolds w g k i := by
  obtain ⟨-, b2, -⟩ := hL.2 i hi.1 hi.2
  unfold pHolds
  by_cases hc : pTo w k i = pMid w k i
  · simp only [hc, true_or]
  · have : pVal f (pB w k i) = pVal g (pB w k i) := by
      unfold pVal
      rw [(b2 hc).2 f g h]
    rw [this]
theorem pSays_dep {w f g : Int → Int} {k o : Int} (hL : pLaw w k) (h : ∀ s ∈ pA k, f s = g s) : ∀ (n : Nat) (i : Int), 0 ≤ i → i + n = w (288 + k) → pSays w f k o n i = pSays w g k o n i := by
  intro n
  induction n with
  | zero => intro i _ _; rfl
  | succ n ih =>
    intro i h0 hi
    rw [pSays, pSays, pHolds_dep hL ⟨h0, by omega⟩ h, ih (i + 1) (by omega) (by omega)]
theorem pAmt_dep {w f g : Int → Int} {word high : Int} (hL : pLaw w 1) (h : ∀ s ∈ pA 1, f s = g s) : ∀ (n : Nat) (i : Int), 0 ≤ i → i + n = w 289 → pAmt w f word high n i = pAmt w g word high n i := by
  intro n
  induction n with
  | zero => intro i _ _; rfl
  | succ n ih =>
    intro i h0 hi
    have hi' : i < w (288 + 1) := by show i < w 289; omega
    obtain ⟨-, -, b3⟩ := hL.2 i h0 hi'
    have : pVal f (pE w 1 i) = pVal g (pE w 1 i) := by
      unfold pVal
      rw [(b3 rfl).2 f g h]
    rw [pAmt, pAmt, pHolds_dep hL ⟨h0, hi'⟩ h, ih (i + 1) (by omega) (by omega), this]
end
section
-- needs: 02 03 04 05 06 07 08 40 41 42 43 44 44b
/-! PURE: may and can be lent, in the model -/
theorem p_mul {a b : Int} (ha : 0 ≤ a ∧ a ≤ 99) (hb : 0 ≤ b ∧ b ≤ 99) : 0 ≤ a * b ∧ a * b ≤ 9801 := by
  refine ⟨Int.mul_nonneg ha.1 hb.1, ?_⟩
  have h1 : a * b ≤ 99 * b := Int.mul_le_mul_of_nonneg_right ha.2 hb.1
  omega
theorem p_find_range (P : Int → Bool) (s : Int) : ∀ (k : Nat) (i : Int), p_find P s k i = -1 ∨ ∃ j : Nat, j < k ∧ p_find P s k i = i + s * j ∧ P (i + s * j) = true := by
  intro k
  induction k with
  | zero => intro i; exact Or.inl rfl
  | succ k ih =>
    intro i
    rw [p_find]
    by_cases h : P i = true
    · rw [if_pos h]
      exact Or.inr ⟨0, by omega, by simp, by simpa using h⟩
    · rw [if_neg h]
      rcases ih (i + s) with h1 | ⟨j, h1, h2, h3⟩
      · exact Or.inl h1
      · have e : i + s * ((j + 1 : Nat) : Int) = i + s + s * (j : Int) := by
          rw [Int.natCast_add, Int.mul_add]
          simp
          omega
        exact Or.inr ⟨j + 1, by omega, by rw [e]; exact h2, by rw [e]; exact h3⟩
theorem pLatest_range {w : Int → Int} {h : Int} (hn : 0 ≤ w 1) : pLatest w h = -1 ∨ (0 ≤ pLatest w h ∧ pLatest w h < w 1 ∧ pl w (pLatest w h) 0 = h) := by
  rcases p_find_range (fun i => decide (pl w i 0 = h)) (-1) (w 1).toNat (w 1 - 1) with h1 | ⟨j, h1, h2, h3⟩
  · exact Or.inl h1
  · refine Or.inr ?_
    have h3 := of_decide_eq_true h3
    unfold pLatest
    rw [h2]
    exact ⟨by omega, by omega, h3⟩
def pMayF (w : Int → Int) (h to n price : Int) (f : Int → Int) : Int → Int := p_up (p_up (p_up (p_up (pHF w h to f) 5 n) 6 price) 7 (pp w to 0)) 10 (pLoans w h)
def pMay (w : Int → Int) (h to n price : Int) : Bool := decide (pSays w (pMayF w h to n price (fun _ => 0)) 0 20 (w 288).toNat 0 = 20)
theorem pMayF_dep (w : Int → Int) (h to n price : Int) (f g : Int → Int) : ∀ s ∈ pA 0, pMayF w h to n price f s = pMayF w h to n price g s := by
  intro s hs
  simp only [pA, if_true, List.mem_cons, List.not_mem_nil, or_false] at hs
  rcases hs with rfl | rfl | rfl | rfl | rfl | rfl | rfl | rfl | rfl | rfl <;> simp [pMayF, pHF, p_up]
theorem m63 (d : Nat) (h to n price : Int) (M : am_M) (hh : 0 ≤ h ∧ h < 16) (ht : 0 ≤ to ∧ to < 8) (hn : 0 ≤ M 187 1 ∧ M 187 1 ≤ 16) (hL : pLaw (M 187) 0) : ∃ pile, am_run (d + 5) 63 [.inr 186, .inl h, .inl to, .inl n, .inl price] M = some (if pMay (M 187) h to n price = true then 1 else 0, p_st (p_st M 195 pile) 196 (pMayF (M 187) h to n price (M 196))) := by
  obtain ⟨pile, hp⟩ := m57 d 0 20 (p_st M 196 (pMayF (M 187) h to n price (M 196))) (by omega) (by rw [p_st2 (by decide)]; exact hL)
  have h0 : 0 ≤ M 187 288 := hL.1.1
  rw [p_st1, p_st2 (by decide), show (288 : Int) + 0 = 288 from rfl, pSays_dep hL (pMayF_dep (M 187) h to n price (M 196) (fun _ => 0)) _ 0 (Int.le_refl _) (by show (0 : Int) + _ = M 187 288; omega), p_st4 (by decide)] at hp
  refine ⟨pile, ?_⟩
  rw [e63]
  simp (disch := first | omega | (simp (disch := omega) only [p_st1, p_st2]; omega)) only [p_b, p_c, p_w, p_upd, p_st1, p_st2, p_st3, p_up1, p_up2, p_up3, p_i0, p_i1, p_bi, if_pos, if_neg, if_true, if_false, Bool.false_eq_true, m62, m3, m60, p_st2]
  unfold pMayF at hp
  rw [hp]
  simp (disch := omega) only [p_b, p_c, p_w, p_upd, p_st1, p_st2, p_st3, p_up1, p_up2, p_up3, p_i0, p_i1, p_bi, if_pos, if_neg, if_true, if_false, Bool.false_eq_true]
  by_cases hc : pSays (M 187) (pMayF (M 187) h to n price (fun _ => 0)) 0 20 (M 187 288).toNat 0 = 20
  · have : pMay (M 187) h to n price = true := decide_eq_true hc
    unfold pMayF at hc
    rw [if_pos hc, this]
    rfl
  · have : pMay (M 187) h to n price = false := decide_eq_false hc
    unfold pMayF at hc
    rw [if_neg hc, this]
    rfl
def pCan (w : Int → Int) (h to n price : Int) : Bool := decide ((0 ≤ h ∧ h ≤ 2 * w 276 - 1) ∧ (0 ≤ to ∧ to ≤ w 276 - 1) ∧ ((1 ≤ n ∧ n ≤ 99) ∧ 0 ≤ price ∧ price ≤ 99) ∧ ¬ w 1 = 16 ∧ ¬ ph w h 8 = -1 ∧ ¬ ph w h 8 = to ∧ (pLatest w h = -1 ∨ ¬ pl w (pLatest w h) 3 < w 0 + n) ∧ ¬ pp w to 0 < n * price ∧ pMay w h to n price = true)
theorem m68 (d : Nat) (h to n price : Int) (M : am_M) (hn : 0 ≤ M 187 1 ∧ M 187 1 ≤ 16) (hp : 0 ≤ M 187 276 ∧ M 187 276 ≤ 8) (hh : 0 ≤ M 187 0 ∧ M 187 0 ≤ 20000) (hL : pLaw (M 187) 0) : ∃ pile f, am_run (d + 6) 68 [.inr 186, .inl h, .inl to, .inl n, .inl price] M = some (if pCan (M 187) h to n price = true then 1 else 0, p_st (p_st M 195 pile) 196 f) := by
  have no : ∀ P : Prop, ¬ P → (pCan (M 187) h to n price = true → P) → ∃ pile f, (some (0, M) : am_R) = some (if pCan (M 187) h to n price = true then 1 else 0, p_st (p_st M 195 pile) 196 f) := by
    intro P h1 h2
    refine ⟨M 195, M 196, ?_⟩
    rw [if_neg (fun q => h1 (h2 q)), p_st5, p_st5]
  rw [e68, m9 _ _ _ hp, p_b, p_i0]
  by_cases h1 : 0 ≤ h ∧ h ≤ 2 * M 187 276 - 1
  · rw [if_pos h1, m8 _ _ _ hp, p_b, p_i0]
    by_cases h2 : 0 ≤ to ∧ to ≤ M 187 276 - 1
    · rw [if_pos h2, m67, p_b, p_i0]
      by_cases h3 : (1 ≤ n ∧ n ≤ 99) ∧ 0 ≤ price ∧ price ≤ 99
      · rw [if_pos h3, p_c (by omega)]
        have hm := p_mul (a := n) (b := price) (by omega) (by omega)
        by_cases h4 : M 187 1 = 16
        · rw [if_pos h4]
          exact no (¬ M 187 1 = 16) (fun q => q h4) (fun q => (of_decide_eq_true q).2.2.2.1)
        · rw [if_neg h4]
          simp (disch := omega) only [p_b, p_c, p_w, p_upd, p_st1, p_st2, p_st3, p_up1, p_up2, p_up3, p_i0, p_i1, p_bi, if_pos, if_neg, if_true, if_false, Bool.false_eq_true, m5]
          by_cases h5 : ph (M 187) h 8 = -1
          · rw [if_pos h5]
            exact no (¬ ph (M 187) h 8 = -1) (fun q => q h5) (fun q => (of_decide_eq_true q).2.2.2.2.1)
          · rw [if_neg h5]
            by_cases h6 : ph (M 187) h 8 = to
            · rw [if_pos h6]
              exact no (¬ ph (M 187) h 8 = to) (fun q => q h6) (fun q => (of_decide_eq_true q).2.2.2.2.2.1)
            · rw [if_neg h6]
              obtain ⟨pile, hmay⟩ := m63 d h to n price M (by omega) (by omega) hn hL
              have fin : (pLatest (M 187) h = -1 ∨ ¬ pl (M 187) (pLatest (M 187) h) 3 < M 187 0 + n) → ∃ pile f, (if pp (M 187) to 0 < n * price then some (0, M) else am_bnd (am_run (d + 5) 63 [.inr 186, .inl h, .inl to, .inl n, .inl price] M) (fun r8 M8 => (if (r8 : Int) = 0 then some (0, M8) else some (1, M8)))) = some (if pCan (M 187) h to n price = true then 1 else 0, p_st (p_st M 195 pile) 196 f) := by
                intro h7
                by_cases h8 : pp (M 187) to 0 < n * price
                · rw [if_pos h8]
                  exact no (¬ pp (M 187) to 0 < n * price) (fun q => q h8) (fun q => (of_decide_eq_true q).2.2.2.2.2.2.2.1)
                · rw [if_neg h8, hmay]
                  refine ⟨pile, pMayF (M 187) h to n price (M 196), ?_⟩
                  simp (disch := omega) only [p_b, p_c, p_w, p_upd, p_st1, p_st2, p_st3, p_up1, p_up2, p_up3, p_i0, p_i1, p_bi, if_pos, if_neg, if_true, if_false, Bool.false_eq_true]
                  by_cases h9 : pMay (M 187) h to n price = true
                  · have : pCan (M 187) h to n price = true := decide_eq_true ⟨h1, h2, h3, h4, h5, h6, h7, h8, h9⟩
                    rw [if_pos h9, if_pos this]
                  · rw [if_neg h9, if_neg (fun q => h9 (of_decide_eq_true q).2.2.2.2.2.2.2.2)]
              simp (disch := omega) only [p_b, p_c, p_w, p_upd, p_st1, p_st2, p_st3, p_up1, p_up2, p_up3, p_i0, p_i1, p_bi, if_pos, if_neg, if_true, if_false, Bool.false_eq_true, m61]
              rcases pLatest_range (w := M 187) (h := h) hn.1 with h7 | ⟨g1, g2, -⟩
              · rw [if_pos h7]
                simp (disch := omega) only [p_b, p_c, p_w, p_upd, p_st1, p_st2, p_st3, p_up1, p_up2, p_up3, p_i0, p_i1, p_bi, if_pos, if_neg, if_true, if_false, Bool.false_eq_true, m3]
                exact fin (Or.inl h7)
              · simp (disch := omega) only [p_b, p_c, p_w, p_upd, p_st1, p_st2, p_st3, p_up1, p_up2, p_up3, p_i0, p_i1, p_bi, if_pos, if_neg, if_true, if_false, Bool.false_eq_true, m7]
                by_cases h8 : pl (M 187) (pLatest (M 187) h) 3 < M 187 0 + n
                · rw [if_pos h8]
                  exact no (pLatest (M 187) h = -1 ∨ ¬ pl (M 187) (pLatest (M 187) h) 3 < M 187 0 + n) (fun q => q.elim (fun q => by omega) (fun q => q h8)) (fun q => (of_decide_eq_true q).2.2.2.2.2.2.1)
                · rw [if_neg h8]
                  simp (disch := omega) only [p_b, p_c, p_w, p_upd, p_st1, p_st2, p_st3, p_up1, p_up2, p_up3, p_i0, p_i1, p_bi, if_pos, if_neg, if_true, if_false, Bool.false_eq_true, m3]
                  exact fin (Or.inr h8)
      · rw [if_neg h3]
        exact no _ h3 (fun q => (of_decide_eq_true q).2.2.1)
    · rw [if_neg h2]
      exact no _ h2 (fun q => (of_decide_eq_true q).2.1)
  · rw [if_neg h1]
    exact no _ h1 (fun q => (of_decide_eq_true q).1)
end
section
/-! PURE: what holds of the model's cells; runs that end well -/
def pOk (x : am_R) (Q : Int → am_M → Prop) : Prop := ∃ r M, x = some (r, M) ∧ Q r M
theorem pOk_s {r : Int} {M : am_M} {Q : Int → am_M → Prop} (h : Q r M) : pOk (some (r, M)) Q := ⟨r, M, rfl, h⟩
theorem pOk_c {c : Prop} [Decidable c] {x : am_R} {Q : Int → am_M → Prop} (h : c) (h2 : pOk x Q) : pOk (am_chk c x) Q := by rw [p_c h]; exact h2
theorem pOk_b {x : am_R} {f : Int → am_M → am_R} {P Q : Int → am_M → Prop} (h : pOk x P) (h2 : ∀ r M, P r M → pOk (f r M) Q) : pOk (am_bnd x f) Q := by
  obtain ⟨r, M, h, hp⟩ := h
  rw [h]
  exact h2 r M hp
theorem pOk_i {c : Prop} [Decidable c] {x y : am_R} {Q : Int → am_M → Prop} (h1 : c → pOk x Q) (h2 : ¬ c → pOk y Q) : pOk (if c then x else y) Q := by
  by_cases h : c
  · rw [if_pos h]; exact h1 h
  · rw [if_neg h]; exact h2 h
theorem pOk_e {x : am_R} {r : Int} {M : am_M} {Q : Int → am_M → Prop} (h : x = some (r, M)) (h2 : Q r M) : pOk x Q := ⟨r, M, h, h2⟩
theorem pOk_m {x : am_R} {P Q : Int → am_M → Prop} (h : pOk x P) (h2 : ∀ r M, P r M → Q r M) : pOk x Q := by
  obtain ⟨r, M, h, hp⟩ := h
  exact ⟨r, M, h, h2 r M hp⟩
/-- a loop that counts up -/
theorem p_for {S : Type} (N : Int) (L : Int → S → am_R) (I : Int → S → Prop) (Q : Int → am_M → Prop) (step : ∀ i s, I i s → i < N → (∀ s', I (i + 1) s' → pOk (L (i + 1) s') Q) → pOk (L i s) Q) (done : ∀ i s, I i s → ¬ i < N → pOk (L i s) Q) : ∀ i s, I i s → pOk (L i s) Q := by
  have : ∀ (k : Nat) (i : Int) (s : S), (N - i).toNat ≤ k → I i s → pOk (L i s) Q := by
    intro k
    induction k with
    | zero =>
      intro i s hk hi
      exact done i s hi (by omega)
    | succ k ih =>
      intro i s hk hi
      by_cases h : i < N
      · exact step i s hi h (fun s' h' => ih (i + 1) s' (by omega) h')
      · exact done i s hi h
  intro i s
  exact this _ i s (Nat.le_refl _)
/-- a loop that counts down -/
theorem p_down {S : Type} (L : Int → S → am_R) (I : Int → S → Prop) (Q : Int → am_M → Prop) (step : ∀ i s, I i s → 0 ≤ i → (∀ s', I (i - 1) s' → pOk (L (i - 1) s') Q) → pOk (L i s) Q) (done : ∀ i s, I i s → i < 0 → pOk (L i s) Q) : ∀ i s, I i s → pOk (L i s) Q := by
  have : ∀ (k : Nat) (i : Int) (s : S), (i + 1).toNat ≤ k → I i s → pOk (L i s) Q := by
    intro k
    induction k with
    | zero =>
      intro i s hk hi
      exact done i s hi (by omega)
    | succ k ih =>
      intro i s hk hi
      by_cases h : 0 ≤ i
      · exact step i s hi h (fun s' h' => ih (i - 1) s' (by omega) h')
      · exact done i s hi (by omega)
  intro i s
  exact this _ i s (Nat.le_refl _)
/-- k steps of f -/
def pF {α : Type} (f : Int → α → α) : Nat → α → α
  | 0, a => a
  | k + 1, a => f k (pF f k a)
theorem pF_next {α : Type} (f : Int → α → α) (a : α) {i : Int} (h : 0 ≤ i) : f i (pF f i.toNat a) = pF f (i + 1).toNat a := by
  rw [show (i + 1).toNat = i.toNat + 1 from by omega, pF, show ((i.toNat : Nat) : Int) = i from by omega]
theorem p_ww (x y : Int) : am_wrap (am_wrap x + y) = am_wrap (x + y) := by unfold am_wrap; omega
theorem p_ww2 (x y : Int) : am_wrap (x + am_wrap y) = am_wrap (x + y) := by unfold am_wrap; omega
theorem p_ww3 (x : Int) : am_wrap (am_wrap x) = am_wrap x := by unfold am_wrap; omega
def WFn (w : Int → Int) : Prop := (0 ≤ w 1 ∧ w 1 ≤ 16) ∧ (0 ≤ w 276 ∧ w 276 ≤ 8) ∧ (0 ≤ w 2 ∧ w 2 ≤ 100)
def WFp (w : Int → Int) : Prop := ∀ p, 0 ≤ p → p < 8 → (0 ≤ pp w p 0 ∧ pp w p 0 ≤ 9999) ∧ (-1 ≤ pp w p 1 ∧ pp w p 1 ≤ 3)
def WFh (w : Int → Int) : Prop := (∀ h, 0 ≤ h → h < 2 * w 276 → (-1 ≤ ph w h 8 ∧ ph w h 8 < w 276)) ∧ (∀ h, 0 ≤ h → h < 16 → (-2147483648 ≤ ph w h 7 ∧ ph w h 7 ≤ 2147483647)) ∧ (∀ h g, 0 ≤ h → h < 2 * w 276 → 0 ≤ g → g < 2 * w 276 → h % 2 = g % 2 → ph w h 8 = ph w g 8 → ph w h 8 ≠ -1 → h = g)
def WFl (w : Int → Int) : Prop := ∀ i, 0 ≤ i → i < w 1 → (0 ≤ pl w i 0 ∧ pl w i 0 < 2 * w 276) ∧ (0 ≤ pl w i 1 ∧ pl w i 1 < w 276) ∧ (0 ≤ pl w i 2 ∧ pl w i 2 < w 276)
def WFz (w : Int → Int) : Prop := (∀ p, w 276 ≤ p → p < 8 → (∀ f, 0 ≤ f → f < 4 → pp w p f = 0) ∧ w (277 + p) = 0) ∧ (∀ h, 2 * w 276 ≤ h → h < 16 → ∀ f, 0 ≤ f → f < 10 → ph w h f = 0)
def WF (w : Int → Int) : Prop := WFn w ∧ WFp w ∧ WFh w ∧ WFl w ∧ WFz w
/-! a loan is made, in the model -/
def pRow (w : Int → Int) (h to n price : Int) : Int → Int := p_up (p_up (p_up (p_up (p_up (p_up w (196 + 5 * w 1 + 0) h) (196 + 5 * w 1 + 1) (ph w h 8)) (196 + 5 * w 1 + 2) to) (196 + 5 * w 1 + 3) (w 0 + n)) (196 + 5 * w 1 + 4) price) 1 (w 1 + 1)
def pPaid (w : Int → Int) (h to n price : Int) : Int → Int := pEarns (pEarns (pRow w h to n price) to (-(n * price))) (ph w h 8) (n * price)
def pLends (w : Int → Int) (h to n price : Int) : Int → Int := pGoes (if pOn w to (h % 2) = -1 then pPaid w h to n price else pGoes (pPaid w h to n price) (pOn w to (h % 2)) (-1)) h to
/-- what is read of what was put -/
theorem ph_up (w : Int → Int) (a b v h f : Int) (hb : 0 ≤ b ∧ b < 10) (hf : 0 ≤ f ∧ f < 10) : ph (p_up w (36 + 10 * a + b) v) h f = if h = a ∧ f = b then v else ph w h f := by
  unfold ph p_up
  by_cases h1 : h = a ∧ f = b
  · rw [if_pos h1, if_pos (by omega)]
  · rw [if_neg h1, if_neg (by omega)]
theorem ph_off {w : Int → Int} {i v h f : Int} (h1 : i < 36 + 10 * h + f ∨ 36 + 10 * h + f < i) : ph (p_up w i v) h f = ph w h f := if_neg (by omega)
theorem pp_up (w : Int → Int) (a b v p f : Int) (hb : 0 ≤ b ∧ b < 4) (hf : 0 ≤ f ∧ f < 4) : pp (p_up w (4 + 4 * a + b) v) p f = if p = a ∧ f = b then v else pp w p f := by
  unfold pp p_up
  by_cases h1 : p = a ∧ f = b
  · rw [if_pos h1, if_pos (by omega)]
  · rw [if_neg h1, if_neg (by omega)]
theorem pp_off {w : Int → Int} {i v p f : Int} (h1 : i < 4 + 4 * p + f ∨ 4 + 4 * p + f < i) : pp (p_up w i v) p f = pp w p f := if_neg (by omega)
theorem pl_up (w : Int → Int) (a b v i f : Int) (hb : 0 ≤ b ∧ b < 5) (hf : 0 ≤ f ∧ f < 5) : pl (p_up w (196 + 5 * a + b) v) i f = if i = a ∧ f = b then v else pl w i f := by
  unfold pl p_up
  by_cases h1 : i = a ∧ f = b
  · rw [if_pos h1, if_pos (by omega)]
  · rw [if_neg h1, if_neg (by omega)]
theorem pl_off {w : Int → Int} {j v i f : Int} (h1 : j < 196 + 5 * i + f ∨ 196 + 5 * i + f < j) : pl (p_up w j v) i f = pl w i f := if_neg (by omega)
theorem p_off {w : Int → Int} {i v j : Int} (h : j < i ∨ i < j) : p_up w i v j = w j := if_neg (by omega)
theorem p_find_cg {P P' : Int → Bool} (s : Int) : ∀ (k : Nat) (i : Int), (∀ j : Nat, j < k → P (i + s * j) = P' (i + s * j)) → p_find P s k i = p_find P' s k i := by
  intro k
  induction k with
  | zero => intro i _; rfl
  | succ k ih =>
    intro i h
    have h0 := h 0 (by omega)
    rw [show i + s * ((0 : Nat) : Int) = i from by simp] at h0
    rw [p_find, p_find, h0, ih (i + s) (fun j hj => by
      have := h (j + 1) (by omega)
      rwa [show i + s * ((j + 1 : Nat) : Int) = i + s + s * (j : Int) from by rw [Int.natCast_add, Int.mul_add]; simp; omega] at this)]
/-- who is on a wrist hangs on where the hands are -/
theorem pOn_cg {w w' : Int → Int} {p s : Int} (hs : 0 ≤ s ∧ s ≤ 1) (h1 : w' 276 = w 276) (h2 : ∀ h, 0 ≤ h → h < 2 * w 276 → ph w' h 8 = ph w h 8) : pOn w' p s = pOn w p s := by
  unfold pOn
  rw [h1]
  refine p_find_cg 2 _ s (fun j hj => ?_)
  rw [h2 _ (by omega) (by omega)]
theorem pOn_off {w : Int → Int} {i v p s : Int} (hs : 0 ≤ s ∧ s ≤ 1) (hi : i < 36 ∨ 196 ≤ i ∨ i % 10 ≠ 4) (hi2 : i ≠ 276) (hn : w 276 ≤ 8) : pOn (p_up w i v) p s = pOn w p s := pOn_cg hs (p_off (by omega)) (fun h h0 h1 => ph_off (by omega))
theorem pOn_range {w : Int → Int} {p s : Int} (hs : 0 ≤ s ∧ s ≤ 1) (hn : 0 ≤ w 276) : pOn w p s = -1 ∨ (0 ≤ pOn w p s ∧ pOn w p s < 2 * w 276 ∧ pOn w p s % 2 = s ∧ ph w (pOn w p s) 8 = p) := by
  rcases p_find_range (fun h => decide (ph w h 8 = p)) 2 (w 276).toNat s with h1 | ⟨j, h1, h2, h3⟩
  · exact Or.inl h1
  · refine Or.inr ?_
    have h3 := of_decide_eq_true h3
    unfold pOn
    rw [h2]
    exact ⟨by omega, by omega, by omega, h3⟩
theorem p_find_none {P : Int → Bool} (s : Int) : ∀ (k : Nat) (i : Int), i ≠ -1 → (∀ j : Nat, j < k → i + s * j ≠ -1) → (p_find P s k i = -1 ↔ ∀ j : Nat, j < k → P (i + s * j) = false) := by
  intro k
  induction k with
  | zero => intro i _ _; exact ⟨fun _ j hj => by omega, fun _ => rfl⟩
  | succ k ih =>
    intro i hi hj
    have e : ∀ j : Nat, i + s * ((j + 1 : Nat) : Int) = i + s + s * (j : Int) := fun j => by rw [Int.natCast_add, Int.mul_add]; simp; omega
    rw [p_find]
    by_cases h : P i = true
    · rw [if_pos h]
      refine ⟨fun q => absurd q hi, fun q => ?_⟩
      have := q 0 (by omega)
      rw [show i + s * ((0 : Nat) : Int) = i from by simp, h] at this
      exact absurd this (by decide)
    · rw [if_neg h]
      by_cases hk : k = 0
      · subst hk
        refine ⟨fun _ j hj => ?_, fun _ => rfl⟩
        rw [show j = 0 from by omega, show i + s * ((0 : Nat) : Int) = i from by simp]
        simpa using h
      rw [ih (i + s) (by have := hj 1 (by omega); simpa using this) (fun j q => by rw [← e]; exact hj (j + 1) (by omega))]
      constructor
      · intro q j hj
        match j with
        | 0 => rw [show i + s * ((0 : Nat) : Int) = i from by simp]; simpa using h
        | j + 1 => rw [e]; exact q j (by omega)
      · intro q j hj
        rw [← e]
        exact q (j + 1) (by omega)
theorem pOn_none {w : Int → Int} {p s : Int} (hs : 0 ≤ s ∧ s ≤ 1) (hn : 0 ≤ w 276) : pOn w p s = -1 ↔ ∀ h, 0 ≤ h → h < 2 * w 276 → h % 2 = s → ph w h 8 ≠ p := by
  unfold pOn
  rw [p_find_none 2 _ s (by omega) (fun j hj => by omega)]
  constructor
  · intro q h h0 h1 h2 h3
    have := q ((h - s) / 2).toNat (by omega)
    rw [show s + 2 * (((h - s) / 2).toNat : Int) = h from by omega, h3] at this
    exact absurd this (by simp)
  · intro q j hj
    exact decide_eq_false (q _ (by omega) (by omega) (by omega))
theorem pOn_is {w : Int → Int} (hw : WFh w) {p s h : Int} (hs : 0 ≤ s ∧ s ≤ 1) (hp : p ≠ -1) (hn : 0 ≤ w 276) (h0 : 0 ≤ h ∧ h < 2 * w 276) (h2 : h % 2 = s) (h3 : ph w h 8 = p) : pOn w p s = h := by
  rcases pOn_range (w := w) (p := p) hs hn with q | ⟨q1, q2, q3, q4⟩
  · exact absurd h3 ((pOn_none hs hn).mp q h h0.1 h0.2 h2)
  · exact hw.2.2 _ _ q1 q2 h0.1 h0.2 (by omega) (by rw [q4, h3]) (by rw [q4]; exact hp)
theorem m70 (d : Nat) (h to n price : Int) (M : am_M) (hn : 0 ≤ M 187 1 ∧ M 187 1 < 16) (hp : 0 ≤ M 187 276 ∧ M 187 276 ≤ 8) (hh : 0 ≤ h ∧ h < 16) (ht : 0 ≤ to ∧ to < 8) (ha : 0 ≤ ph (M 187) h 8 ∧ ph (M 187) h 8 < 8) (hne : ph (M 187) h 8 ≠ to) (h1 : 1 ≤ n ∧ n ≤ 99) (h2 : 0 ≤ price ∧ price ≤ 99) (h0 : 0 ≤ M 187 0 ∧ M 187 0 ≤ 20000) (hc1 : 0 ≤ pp (M 187) to 0 ∧ pp (M 187) to 0 ≤ 9999) (hc2 : 0 ≤ pp (M 187) (ph (M 187) h 8) 0 ∧ pp (M 187) (ph (M 187) h 8) 0 ≤ 9999) (hc3 : n * price ≤ pp (M 187) to 0) : am_run (d + 3) 70 [.inr 186, .inl h, .inl to, .inl n, .inl price] M = some (M 187 0 + n, p_st M 187 (pLends (M 187) h to n price)) := by
  have hm := p_mul (a := n) (b := price) (by omega) h2
  have hneg : am_wrap (-n * price) = -(n * price) := by
    rw [Int.neg_mul, p_w (by omega) (by omega)]
  have g1 : pp (pRow (M 187) h to n price) to 0 = pp (M 187) to 0 := by
    unfold pRow
    simp (disch := omega) only [pp_off]
  have g2 : pp (pEarns (pRow (M 187) h to n price) to (-(n * price))) (ph (M 187) h 8) 0 = pp (M 187) (ph (M 187) h 8) 0 := by
    unfold pEarns pRow
    rw [pp_up _ _ _ _ _ _ (by omega) (by omega), if_neg (by omega)]
    simp (disch := omega) only [pp_off]
  have g3 : (pPaid (M 187) h to n price) 276 = M 187 276 := by
    unfold pPaid pEarns pRow
    simp (disch := omega) only [p_off]
  have g4 : (pPaid (M 187) h to n price) 0 = M 187 0 := by
    unfold pPaid pEarns pRow
    simp (disch := omega) only [p_off]
  have g5 : pOn (pPaid (M 187) h to n price) to (h % 2) = pOn (M 187) to (h % 2) := by
    refine pOn_cg (by omega) g3 (fun g k1 k2 => ?_)
    unfold pPaid pEarns pRow
    simp (disch := omega) only [ph_off]
  rw [e70, m5 _ _ _ _ hh (by omega), p_b]
  simp (disch := omega) only [p_c, p_w, p_upd, p_st1, p_st3, p_up1, p_up2, hneg]
  rw [← pRow, m69 _ _ _ _ ht (by rw [p_st1]; omega) (by omega), p_b, p_st1, p_st3, m69 _ _ _ _ ha (by rw [p_st1]; omega) (by omega), p_b, p_st1, p_st3, ← pPaid]
  rw [m12 _ _ _ _ (by rw [p_st1]; omega) (by rw [p_rem2 hh.1 (by omega)]; omega), p_b]
  simp only [p_st3, p_st1, p_rem2 hh.1 (show h < 64 by omega)]
  rw [g5]
  by_cases hq : pOn (M 187) to (h % 2) = -1
  · rw [if_pos hq, m66 _ _ _ _ hh, p_b]
    simp (disch := omega) only [p_c, p_st1, p_st3]
    unfold pLends
    rw [if_pos hq]
    have : (pGoes (pPaid (M 187) h to n price) h to) 0 = M 187 0 := by
      unfold pGoes
      simp (disch := omega) only [p_off, g4]
    rw [this, p_w (by omega) (by omega)]
  · rw [if_neg hq]
    have hr : 0 ≤ pOn (M 187) to (h % 2) ∧ pOn (M 187) to (h % 2) < 16 := by
      rcases pOn_range (w := M 187) (p := to) (s := h % 2) (by omega) hp.1 with q | ⟨q1, q2, -⟩
      · exact absurd q hq
      · omega
    rw [m66 _ _ _ _ hr, p_b, m66 _ _ _ _ hh, p_b]
    simp (disch := omega) only [p_c, p_st1, p_st3]
    unfold pLends
    rw [if_neg hq]
    have : (pGoes (pGoes (pPaid (M 187) h to n price) (pOn (M 187) to (h % 2)) (-1)) h to) 0 = M 187 0 := by
      unfold pGoes
      simp (disch := omega) only [p_off, g4]
    rw [this, p_w (by omega) (by omega)]
end
section
/-! PURE: what a loan leaves, in the model -/
theorem pG_ph (w : Int → Int) (h p g f : Int) (hf : 0 ≤ f ∧ f < 10) : ph (pGoes w h p) g f = if g = h ∧ f = 8 then p else if g = h ∧ f = 7 then 0 else ph w g f := by
  unfold pGoes
  rw [ph_up _ _ _ _ _ _ (by omega) hf, ph_up _ _ _ _ _ _ (by omega) hf]
  by_cases h1 : g = h ∧ f = 8
  · rw [if_neg (by omega), if_pos h1, if_pos h1]
  · by_cases h2 : g = h ∧ f = 7
    · rw [if_pos h2, if_neg h1, if_pos h2]
    · rw [if_neg h2, if_neg h1, if_neg h1, if_neg h2]
theorem pG_off {w : Int → Int} {h p k : Int} (hk : k < 36 + 10 * h + 7 ∨ 36 + 10 * h + 8 < k) : pGoes w h p k = w k := by
  unfold pGoes
  rw [p_off (by omega), p_off (by omega)]
/-- the loan can be -/
def pLok (w : Int → Int) (h to n price : Int) : Prop := ((0 ≤ h ∧ h ≤ 2 * w 276 - 1) ∧ (0 ≤ to ∧ to ≤ w 276 - 1)) ∧ ((1 ≤ n ∧ n ≤ 99) ∧ 0 ≤ price ∧ price ≤ 99) ∧ ¬ w 1 = 16 ∧ ¬ ph w h 8 = -1 ∧ ¬ ph w h 8 = to ∧ ¬ pp w to 0 < n * price
theorem pCan_ok {w : Int → Int} {h to n price : Int} (hc : pCan w h to n price = true) : pLok w h to n price := by
  obtain ⟨h1, h2, h3, h4, h5, h6, h7, h8, h9⟩ := of_decide_eq_true hc
  exact ⟨⟨h1, h2⟩, h3, h4, h5, h6, h8⟩
theorem pLends_hi {w : Int → Int} {h to n price k : Int} (hw : WF w) (hc : pLok w h to n price) (hk : k = 0 ∨ k = 2 ∨ k = 3 ∨ 276 ≤ k) : pLends w h to n price k = w k := by
  obtain ⟨⟨c1, c2⟩, c3, c4, c5, c6, c7⟩ := hc
  obtain ⟨⟨n1, n2, n3⟩, hp, hh, hl, hz⟩ := hw
  have a1 := hh.1 h c1.1 (by omega)
  have hr := pOn_range (w := w) (p := to) (s := h % 2) (by omega) n2.1
  unfold pLends
  rw [pG_off (by omega)]
  have e : pPaid w h to n price k = w k := by
    unfold pPaid pEarns pRow
    simp (disch := omega) only [p_off]
  by_cases hq : pOn w to (h % 2) = -1
  · rw [if_pos hq, e]
  · rw [if_neg hq, pG_off (by omega), e]
theorem pLends_1 {w : Int → Int} {h to n price : Int} (hw : WF w) (hc : pLok w h to n price) : pLends w h to n price 1 = w 1 + 1 := by
  obtain ⟨⟨c1, c2⟩, c3, c4, c5, c6, c7⟩ := hc
  obtain ⟨⟨n1, n2, n3⟩, hp, hh, hl, hz⟩ := hw
  have a1 := hh.1 h c1.1 (by omega)
  have hr := pOn_range (w := w) (p := to) (s := h % 2) (by omega) n2.1
  unfold pLends
  rw [pG_off (by omega)]
  have e : pPaid w h to n price 1 = w 1 + 1 := by
    unfold pPaid pEarns pRow
    simp (disch := omega) only [p_off, p_up1]
  by_cases hq : pOn w to (h % 2) = -1
  · rw [if_pos hq, e]
  · rw [if_neg hq, pG_off (by omega), e]
theorem pLends_ph {w : Int → Int} {h to n price g f : Int} (hw : WF w) (hc : pLok w h to n price) (hg : 0 ≤ g ∧ g < 16) (hf : 0 ≤ f ∧ f < 10) : ph (pLends w h to n price) g f = if f = 8 then (if g = h then to else if g = pOn w to (h % 2) then -1 else ph w g 8) else if f = 7 then (if g = h ∨ g = pOn w to (h % 2) then 0 else ph w g 7) else ph w g f := by
  obtain ⟨⟨c1, c2⟩, c3, c4, c5, c6, c7⟩ := hc
  obtain ⟨⟨n1, n2, n3⟩, hp, hh, hl, hz⟩ := hw
  have a1 := hh.1 h c1.1 (by omega)
  have hr := pOn_range (w := w) (p := to) (s := h % 2) (by omega) n2.1
  have e : ∀ g f, 0 ≤ g ∧ g < 16 → 0 ≤ f ∧ f < 10 → ph (pPaid w h to n price) g f = ph w g f := by
    intro g f h1 h2
    unfold pPaid pEarns pRow
    simp (disch := omega) only [ph_off]
  unfold pLends
  rw [pG_ph _ _ _ _ _ hf]
  by_cases f8 : f = 8
  · subst f8
    rw [if_pos rfl]
    by_cases g1 : g = h
    · rw [if_pos ⟨g1, rfl⟩, if_pos g1]
    · rw [if_neg (by omega), if_neg (by omega), if_neg g1]
      by_cases hq : pOn w to (h % 2) = -1
      · rw [if_pos hq, e _ _ hg hf, if_neg (by omega)]
      · rw [if_neg hq, pG_ph _ _ _ _ _ hf]
        by_cases g2 : g = pOn w to (h % 2)
        · rw [if_pos ⟨g2, rfl⟩, if_pos g2]
        · rw [if_neg (by omega), if_neg (by omega), if_neg g2, e _ _ hg hf]
  · rw [if_neg f8, if_neg (by omega)]
    by_cases f7 : f = 7
    · subst f7
      rw [if_pos rfl]
      by_cases g1 : g = h
      · rw [if_pos ⟨g1, rfl⟩, if_pos (Or.inl g1)]
      · rw [if_neg (by omega)]
        by_cases hq : pOn w to (h % 2) = -1
        · rw [if_pos hq, e _ _ hg hf, if_neg (by omega)]
        · rw [if_neg hq, pG_ph _ _ _ _ _ hf, if_neg (by omega)]
          by_cases g2 : g = pOn w to (h % 2)
          · rw [if_pos ⟨g2, rfl⟩, if_pos (Or.inr g2)]
          · rw [if_neg (by omega), if_neg (by omega), e _ _ hg hf]
    · rw [if_neg (by omega), if_neg f7]
      by_cases hq : pOn w to (h % 2) = -1
      · rw [if_pos hq, e _ _ hg hf]
      · rw [if_neg hq, pG_ph _ _ _ _ _ hf, if_neg (by omega), if_neg (by omega), e _ _ hg hf]
theorem pp_goes {w : Int → Int} {h q p f : Int} (hp : 0 ≤ p ∧ p < 8) (hf : 0 ≤ f ∧ f < 4) (hh : 0 ≤ h) : pp (pGoes w h q) p f = pp w p f := by
  unfold pGoes
  rw [pp_off (by omega), pp_off (by omega)]
theorem pl_goes {w : Int → Int} {h q i f : Int} (hi : 0 ≤ i) (hf : 0 ≤ f) (hh : 0 ≤ h ∧ h < 16) : pl (pGoes w h q) i f = pl w i f := by
  unfold pGoes
  rw [pl_off (by omega), pl_off (by omega)]
theorem pLends_pp {w : Int → Int} {h to n price p f : Int} (hw : WF w) (hc : pLok w h to n price) (hp : 0 ≤ p ∧ p < 8) (hf : 0 ≤ f ∧ f < 4) : pp (pLends w h to n price) p f = if f = 0 then (if p = to then pp w p 0 - n * price else if p = ph w h 8 then min 9999 (pp w p 0 + n * price) else pp w p 0) else pp w p f := by
  obtain ⟨⟨c1, c2⟩, c3, c4, c5, c6, c7⟩ := hc
  obtain ⟨⟨n1, n2, n3⟩, hpp, hh, hl, hz⟩ := hw
  have a1 := hh.1 h c1.1 (by omega)
  have hm := p_mul (a := n) (b := price) (by omega) c3.2
  have hr := pOn_range (w := w) (p := to) (s := h % 2) (by omega) n2.1
  have b1 := (hpp to c2.1 (by omega)).1
  have e : pp (pPaid w h to n price) p f = if f = 0 then (if p = to then pp w p 0 - n * price else if p = ph w h 8 then min 9999 (pp w p 0 + n * price) else pp w p 0) else pp w p f := by
    have e1 : ∀ p f, 0 ≤ p ∧ p < 8 → 0 ≤ f ∧ f < 4 → pp (pRow w h to n price) p f = pp w p f := by
      intro p f h1 h2
      unfold pRow
      simp (disch := omega) only [pp_off]
    unfold pPaid pEarns
    rw [pp_up _ _ _ _ _ _ (by omega) hf, pp_up _ _ _ _ _ _ (by omega) (by omega), pp_up _ _ _ _ _ _ (by omega) hf, e1 _ _ (by omega) (by omega), e1 _ _ (by omega) (by omega), e1 _ _ hp hf]
    by_cases f0 : f = 0
    · subst f0
      rw [if_pos rfl]
      by_cases p1 : p = to
      · subst p1
        rw [if_neg (by omega), if_pos ⟨rfl, rfl⟩, if_pos rfl]
        omega
      · rw [if_neg p1]
        by_cases p2 : p = ph w h 8
        · rw [if_pos ⟨p2, rfl⟩, if_neg (by omega), if_pos p2, ← p2]
        · rw [if_neg (by omega), if_neg (by omega), if_neg p2]
    · rw [if_neg (by omega), if_neg (by omega), if_neg f0]
  unfold pLends
  rw [pp_goes hp hf c1.1]
  by_cases hq : pOn w to (h % 2) = -1
  · rw [if_pos hq, e]
  · rw [if_neg hq, pp_goes hp hf (by omega), e]
theorem pLends_pl {w : Int → Int} {h to n price i f : Int} (hw : WF w) (hc : pLok w h to n price) (hi : 0 ≤ i ∧ i < 16) (hf : 0 ≤ f ∧ f < 5) : pl (pLends w h to n price) i f = if i = w 1 then (if f = 0 then h else if f = 1 then ph w h 8 else if f = 2 then to else if f = 3 then w 0 + n else price) else pl w i f := by
  obtain ⟨⟨c1, c2⟩, c3, c4, c5, c6, c7⟩ := hc
  obtain ⟨⟨n1, n2, n3⟩, hpp, hh, hl, hz⟩ := hw
  have a1 := hh.1 h c1.1 (by omega)
  have hr := pOn_range (w := w) (p := to) (s := h % 2) (by omega) n2.1
  have e : pl (pPaid w h to n price) i f = if i = w 1 then (if f = 0 then h else if f = 1 then ph w h 8 else if f = 2 then to else if f = 3 then w 0 + n else price) else pl w i f := by
    unfold pPaid pEarns
    rw [pl_off (by omega), pl_off (by omega)]
    unfold pRow
    rw [pl_off (by omega), pl_up _ _ _ _ _ _ (by omega) hf, pl_up _ _ _ _ _ _ (by omega) hf, pl_up _ _ _ _ _ _ (by omega) hf, pl_up _ _ _ _ _ _ (by omega) hf, pl_up _ _ _ _ _ _ (by omega) hf]
    by_cases i1 : i = w 1
    · rw [if_pos i1]
      by_cases f4 : f = 4
      · rw [if_pos ⟨i1, f4⟩, if_neg (by omega), if_neg (by omega), if_neg (by omega), if_neg (by omega)]
      by_cases f3 : f = 3
      · rw [if_neg (by omega), if_pos ⟨i1, f3⟩, if_neg (by omega), if_neg (by omega), if_neg (by omega), if_pos f3]
      by_cases f2 : f = 2
      · rw [if_neg (by omega), if_neg (by omega), if_pos ⟨i1, f2⟩, if_neg (by omega), if_neg (by omega), if_pos f2]
      by_cases f1 : f = 1
      · rw [if_neg (by omega), if_neg (by omega), if_neg (by omega), if_pos ⟨i1, f1⟩, if_neg (by omega), if_pos f1]
      · rw [if_neg (by omega), if_neg (by omega), if_neg (by omega), if_neg (by omega), if_pos ⟨i1, by omega⟩, if_pos (by omega)]
    · simp only [i1, false_and, if_false]
  unfold pLends
  rw [pl_goes hi.1 hf.1 (by omega)]
  by_cases hq : pOn w to (h % 2) = -1
  · rw [if_pos hq, e]
  · rw [if_neg hq, pl_goes hi.1 hf.1 (by omega), e]
theorem pLends_WF {w : Int → Int} {h to n price : Int} (hw : WF w) (hc : pLok w h to n price) : WF (pLends w h to n price) := by
  have e276 := pLends_hi hw hc (k := 276) (by omega)
  have e2 := pLends_hi hw hc (k := 2) (by omega)
  have e1 := pLends_1 hw hc
  have eph := @pLends_ph w h to n price
  have epp := @pLends_pp w h to n price
  have epl := @pLends_pl w h to n price
  have hw' := hw
  have hc' := hc
  obtain ⟨⟨c1, c2⟩, c3, c4, c5, c6, c7⟩ := hc
  obtain ⟨⟨n1, n2, n3⟩, hp, hh, hl, hz⟩ := hw
  have a1 := hh.1 h c1.1 (by omega)
  have hm := p_mul (a := n) (b := price) (by omega) c3.2
  have hr := pOn_range (w := w) (p := to) (s := h % 2) (by omega) n2.1
  have b1 := (hp to c2.1 (by omega)).1
  refine ⟨⟨by omega, by omega, by omega⟩, ?_, ⟨?_, ?_, ?_⟩, ?_, ⟨?_, ?_⟩⟩
  · intro p h0 h1
    have b2 := hp p h0 h1
    rw [epp hw' hc' ⟨h0, h1⟩ (by omega), epp hw' hc' ⟨h0, h1⟩ (by omega), if_pos rfl, if_neg (show ¬ (1 : Int) = 0 by omega)]
    refine ⟨?_, b2.2⟩
    by_cases p1 : p = to
    · rw [if_pos p1, p1]; omega
    · rw [if_neg p1]
      by_cases p2 : p = ph w h 8
      · rw [if_pos p2]; omega
      · rw [if_neg p2]; exact b2.1
  · intro g h0 h1
    rw [e276] at h1 ⊢
    rw [eph hw' hc' ⟨h0, by omega⟩ (by omega), if_pos rfl]
    have := hh.1 g h0 h1
    by_cases g1 : g = h
    · rw [if_pos g1]; omega
    · rw [if_neg g1]
      by_cases g2 : g = pOn w to (h % 2)
      · rw [if_pos g2]; omega
      · rw [if_neg g2]; exact this
  · intro g h0 h1
    rw [eph hw' hc' ⟨h0, h1⟩ (by omega), if_neg (by omega), if_pos rfl]
    have := hh.2.1 g h0 h1
    by_cases g1 : g = h ∨ g = pOn w to (h % 2)
    · rw [if_pos g1]; omega
    · rw [if_neg g1]; exact this
  · intro a b h0 h1 h2 h3 h4
    rw [e276] at h1 h3
    have no : ∀ g, 0 ≤ g → g < 2 * w 276 → g % 2 = h % 2 → g ≠ pOn w to (h % 2) → ph w g 8 ≠ to := by
      intro g k1 k2 k3 k4 k5
      exact k4 (pOn_is hh (by omega) (by omega) n2.1 ⟨k1, k2⟩ k3 k5).symm
    rw [eph hw' hc' ⟨h0, by omega⟩ (by omega), eph hw' hc' ⟨h2, by omega⟩ (by omega), if_pos rfl, if_pos rfl]
    have hu := hh.2.2 a b h0 h1 h2 h3 h4
    by_cases g1 : a = h
    · rw [if_pos g1]
      by_cases g2 : b = h
      · intro _ _; omega
      · rw [if_neg g2]
        by_cases g3 : b = pOn w to (h % 2)
        · rw [if_pos g3]; intro _ _; omega
        · rw [if_neg g3]
          intro k1 _
          exact absurd k1.symm (no b h2 h3 (by omega) g3)
    · rw [if_neg g1]
      by_cases g2 : b = h
      · rw [if_pos g2]
        by_cases g3 : a = pOn w to (h % 2)
        · rw [if_pos g3]; intro _ _; omega
        · rw [if_neg g3]
          intro k1 _
          exact absurd k1 (no a h0 h1 (by omega) g3)
      · rw [if_neg g2]
        by_cases g3 : a = pOn w to (h % 2)
        · rw [if_pos g3]; intro _ q; exact absurd rfl q
        · rw [if_neg g3]
          by_cases g4 : b = pOn w to (h % 2)
          · rw [if_pos g4]; intro q1 q2; exact absurd q1 q2
          · rw [if_neg g4]; exact hu
  · intro i h0 h1
    rw [e1] at h1
    rw [e276, epl hw' hc' ⟨h0, by omega⟩ (by omega), epl hw' hc' ⟨h0, by omega⟩ (by omega), epl hw' hc' ⟨h0, by omega⟩ (by omega)]
    by_cases i1 : i = w 1
    · simp only [i1, if_true]
      simp (disch := omega) only [if_pos, if_neg]
      omega
    · rw [if_neg i1, if_neg i1, if_neg i1]
      exact hl i h0 (by omega)
  · intro p h0 h1
    rw [e276] at h0
    have := hz.1 p h0 h1
    refine ⟨fun f k1 k2 => ?_, by rw [pLends_hi hw' hc' (by omega)]; exact this.2⟩
    rw [epp hw' hc' ⟨by omega, h1⟩ ⟨k1, k2⟩, if_neg (show ¬ p = to by omega), if_neg (show ¬ p = ph w h 8 by omega), this.1 f k1 k2]
    by_cases f0 : f = 0
    · rw [if_pos f0, this.1 0 (by omega) (by omega)]
    · rw [if_neg f0]
  · intro g h0 h1 f k1 k2
    rw [e276] at h0
    have z := hz.2 g h0 h1
    rw [eph hw' hc' ⟨by omega, h1⟩ ⟨k1, k2⟩, if_neg (show ¬ g = h by omega), if_neg (show ¬ g = pOn w to (h % 2) by omega), if_neg (show ¬ (g = h ∨ g = pOn w to (h % 2)) by omega), z f k1 k2]
    by_cases f8 : f = 8
    · rw [if_pos f8, z 8 (by omega) (by omega)]
    · rw [if_neg f8]
      by_cases f7 : f = 7
      · rw [if_pos f7, z 7 (by omega) (by omega)]
      · rw [if_neg f7]
end
section
/-! PURE: the model's keeping, and an hour of it -/
/-- what a model's run may touch: its object, its cells, the pile, the facts -/
def pS (M : am_M) (u w pile f : Int → Int) : am_M := p_st (p_st (p_st (p_st M 186 u) 187 w) 195 pile) 196 f
theorem pS_186 (M : am_M) (u w pile f : Int → Int) : pS M u w pile f 186 = u := rfl
theorem pS_187 (M : am_M) (u w pile f : Int → Int) : pS M u w pile f 187 = w := rfl
theorem pS_195 (M : am_M) (u w pile f : Int → Int) : pS M u w pile f 195 = pile := rfl
theorem pS_196 (M : am_M) (u w pile f : Int → Int) : pS M u w pile f 196 = f := rfl
theorem pS_o {M : am_M} {u w pile f : Int → Int} {b : Nat} (h : b ≠ 186 ∧ b ≠ 187 ∧ b ≠ 195 ∧ b ≠ 196) : pS M u w pile f b = M b := by
  unfold pS
  rw [p_st2 h.2.2.2, p_st2 h.2.2.1, p_st2 h.2.1, p_st2 h.1]
theorem pS_st186 (M : am_M) (u w pile f g : Int → Int) : p_st (pS M u w pile f) 186 g = pS M g w pile f := by
  unfold pS
  rw [p_st4 (a := 196) (b := 186) (by decide), p_st4 (a := 195) (b := 186) (by decide), p_st4 (a := 187) (b := 186) (by decide), p_st3]
theorem pS_st187 (M : am_M) (u w pile f g : Int → Int) : p_st (pS M u w pile f) 187 g = pS M u g pile f := by
  unfold pS
  rw [p_st4 (a := 196) (b := 187) (by decide), p_st4 (a := 195) (b := 187) (by decide), p_st3]
theorem pS_st195 (M : am_M) (u w pile f g : Int → Int) : p_st (pS M u w pile f) 195 g = pS M u w g f := by
  unfold pS
  rw [p_st4 (by decide), p_st3]
theorem pS_st196 (M : am_M) (u w pile f g : Int → Int) : p_st (pS M u w pile f) 196 g = pS M u w pile g := by
  unfold pS
  rw [p_st3]
theorem pS_pS (M : am_M) (u w pile f u' w' pile' f' : Int → Int) : pS (pS M u w pile f) u' w' pile' f' = pS M u' w' pile' f' := by
  rw [pS, pS_st186, pS_st187, pS_st195, pS_st196]
theorem pS_id (M : am_M) : pS M (M 186) (M 187) (M 195) (M 196) = M := by
  unfold pS
  rw [p_st5, p_st5, p_st5, p_st5]
theorem pS_w (M : am_M) (w : Int → Int) : p_st M 187 w = pS M (M 186) w (M 195) (M 196) := by
  rw [← pS_st187 M (M 186) (M 187), pS_id]
theorem pS_lw (M : am_M) (pile f : Int → Int) : p_st (p_st M 195 pile) 196 f = pS M (M 186) (M 187) pile f := by
  rw [← pS_st196 M (M 186) (M 187) pile (M 196), ← pS_st195 M (M 186) (M 187) (M 195), pS_id]
/-- cells copied from g onto f, n from a on -/
def pCp (f g : Int → Int) (a n : Int) : Int → Int := fun x => if a ≤ x ∧ x < a + n then g x else f x
theorem pCp_0 (f g : Int → Int) (a : Int) : pCp f g a 0 = f := by
  funext x
  exact if_neg (by omega)
theorem pCp_up {f g : Int → Int} {a n i v : Int} (hn : 0 ≤ n) (hi : i = a + n) (hv : v = g i) : p_up (pCp f g a n) i v = pCp f g a (n + 1) := by
  funext x
  unfold p_up pCp
  by_cases h : x = i
  · rw [if_pos h, if_pos (by omega), h, hv]
  · rw [if_neg h]
    by_cases h2 : a ≤ x ∧ x < a + n
    · rw [if_pos h2, if_pos (by omega)]
    · rw [if_neg h2, if_neg (by omega)]
theorem pCp_in {f g : Int → Int} {a n x : Int} (h : a ≤ x ∧ x < a + n) : pCp f g a n x = g x := if_pos h
theorem pCp_out {f g : Int → Int} {a n x : Int} (h : x < a ∨ a + n ≤ x) : pCp f g a n x = f x := if_neg (by omega)
/-- the rows of what is kept, before and behind a keeping -/
def pKB (B : Int → Int) (c : Int) : Int → Int := if c = 6 then pCp B (fun x => B (x + 276)) 0 1380 else B
def pKc (c : Int) : Int := if c = 6 then 5 else c
def pKept (B w : Int → Int) (c : Int) : Int → Int := pCp (pKB B c) (fun x => w (x - 276 * pKc c)) (276 * pKc c) 276
theorem m64_6 (d : Nat) (M : am_M) : ∀ (k : Nat) (i : Int), i = 1380 - k → 0 ≤ i → am_L d 64 6 [some (.inr 186), some (.inl i)] [] (p_st M 189 (pCp (M 189) (fun x => M 189 (x + 276)) 0 i)) = am_L d 64 29 [some (.inr 186), some (.inl 0)] [] (p_st (p_st M 186 (p_up (M 186) 4 (am_wrap (M 186 4 - 1)))) 189 (pCp (M 189) (fun x => M 189 (x + 276)) 0 1380)) := by
  intro k
  induction k with
  | zero =>
    intro i hi h0
    obtain rfl : i = 1380 := by omega
    rw [e64_6]
    simp (disch := omega) only [p_w, p_c, if_neg, p_upd, p_st2, p_st4]
  | succ k ih =>
    intro i hi h0
    rw [e64_6]
    simp (disch := omega) only [p_w, p_c, if_pos, p_upd, p_st1, p_st3, pCp_out]
    rw [pCp_up h0 (by omega) rfl]
    exact ih (i + 1) (by omega) (by omega)
theorem m64_29 (d : Nat) (M : am_M) (c : Int) (hc : M 186 4 = c) (h : 0 ≤ c ∧ c ≤ 5) : ∀ (k : Nat) (i : Int), i = 276 - k → 0 ≤ i → am_L d 64 29 [some (.inr 186), some (.inl i)] [] (p_st M 189 (pCp (M 189) (fun x => M 187 (x - 276 * c)) (276 * c) i)) = some (0, p_st (p_st M 186 (p_up (M 186) 4 (c + 1))) 189 (pCp (M 189) (fun x => M 187 (x - 276 * c)) (276 * c) 276)) := by
  intro k
  induction k with
  | zero =>
    intro i hi h0
    obtain rfl : i = 276 := by omega
    rw [e64_29]
    simp (disch := omega) only [p_w, p_c, if_neg, p_upd, p_st2, p_st4, hc]
  | succ k ih =>
    intro i hi h0
    rw [e64_29]
    simp (disch := omega) only [p_w, p_c, if_pos, p_upd, p_st1, p_st2, p_st3, hc]
    rw [pCp_up (g := fun x => M 187 (x - 276 * c)) (a := 276 * c) h0 rfl (show M 187 i = M 187 (276 * c + i - 276 * c) from by rw [show 276 * c + i - 276 * c = i from by omega])]
    exact ih (i + 1) (by omega) (by omega)
theorem m64 (d : Nat) (M : am_M) (h : 0 ≤ M 186 4 ∧ M 186 4 ≤ 6) : am_run (d + 1) 64 [.inr 186] M = some (0, p_st (p_st M 186 (p_up (M 186) 4 (pKc (M 186 4) + 1))) 189 (pKept (M 189) (M 187) (M 186 4))) := by
  rw [e64]
  unfold pKept pKB pKc
  by_cases h6 : M 186 4 = 6
  · rw [if_pos h6, if_pos h6, if_pos h6]
    have := m64_6 d M 1380 0 (by omega) (by omega)
    rw [pCp_0, p_st5] at this
    rw [this]
    have := m64_29 d (p_st (p_st M 186 (p_up (M 186) 4 (am_wrap (M 186 4 - 1)))) 189 (pCp (M 189) (fun x => M 189 (x + 276)) 0 1380)) 5 (by rw [p_st2 (by decide), p_st1, p_up1, p_w (by omega) (by omega)]; omega) (by omega) 276 0 (by omega) (by omega)
    simp (disch := decide) only [pCp_0, p_st5, p_st1, p_st2, p_st3, p_up3] at this
    rw [this, p_st4 (a := 189) (b := 186) (by decide), p_st3, p_st3]
  · rw [if_neg h6, if_neg h6, if_neg h6]
    have := m64_29 d M (M 186 4) rfl (by omega) 276 0 (by omega) (by omega)
    rw [pCp_0, p_st5] at this
    exact this
/-- the cells that an undoing brings back -/
def pUn (B w : Int → Int) (j : Int) : Int → Int := pCp w (fun x => B (276 * j + x)) 0 276
theorem m65_13 (d : Nat) (M : am_M) (c : Int) (hc : M 186 4 = c) (h : 0 ≤ c ∧ c ≤ 5) : ∀ (k : Nat) (i : Int), i = 276 - k → 0 ≤ i → am_L d 65 13 [some (.inr 186), some (.inl i)] [] (p_st M 187 (pCp (M 187) (fun x => M 189 (276 * c + x)) 0 i)) = some (1, p_st M 187 (pUn (M 189) (M 187) c)) := by
  intro k
  induction k with
  | zero =>
    intro i hi h0
    obtain rfl : i = 276 := by omega
    rw [e65_13]
    simp (disch := omega) only [p_w, p_c, if_neg, pUn]
  | succ k ih =>
    intro i hi h0
    rw [e65_13]
    simp (disch := omega) only [p_w, p_c, if_pos, p_upd, p_st1, p_st2, p_st3, hc]
    rw [pCp_up h0 (by omega) (by rfl)]
    exact ih (i + 1) (by omega) (by omega)
theorem m65 (d : Nat) (M : am_M) (h : 0 ≤ M 186 4 ∧ M 186 4 ≤ 6) : am_run (d + 1) 65 [.inr 186] M = some (if M 186 4 = 0 then 0 else 1, if M 186 4 = 0 then M else p_st (p_st M 186 (p_up (M 186) 4 (M 186 4 - 1))) 187 (pUn (M 189) (M 187) (M 186 4 - 1))) := by
  rw [e65]
  by_cases h6 : M 186 4 = 0
  · rw [if_pos h6, if_pos h6, if_pos h6]
  · rw [if_neg h6, if_neg h6, if_neg h6]
    have := m65_13 d (p_st M 186 (p_up (M 186) 4 (M 186 4 - 1))) (M 186 4 - 1) (by rw [p_st1, p_up1]) (by omega) 276 0 (by omega) (by omega)
    rw [pCp_0, p_st5, p_st2 (by decide), p_st2 (by decide)] at this
    simp (disch := omega) only [p_w, p_upd]
    exact this
/-- aside and back -/
theorem m104_2 (d : Nat) (M : am_M) : ∀ (k : Nat) (i : Int), i = 276 - k → 0 ≤ i → am_L d 104 2 [some (.inr 186), some (.inl i)] [] (p_st M 190 (pCp (M 190) (M 187) 0 i)) = some (0, p_st M 190 (pCp (M 190) (M 187) 0 276)) := by
  intro k
  induction k with
  | zero =>
    intro i hi h0
    obtain rfl : i = 276 := by omega
    rw [e104_2]
    simp (disch := omega) only [p_w, p_c, if_neg]
  | succ k ih =>
    intro i hi h0
    rw [e104_2]
    simp (disch := omega) only [p_w, p_c, if_pos, p_upd, p_st1, p_st2, p_st3]
    rw [pCp_up h0 (by omega) rfl]
    exact ih (i + 1) (by omega) (by omega)
theorem m104 (d : Nat) (M : am_M) : am_run (d + 1) 104 [.inr 186] M = some (0, p_st M 190 (pCp (M 190) (M 187) 0 276)) := by
  rw [e104]
  have := m104_2 d M 276 0 (by omega) (by omega)
  rwa [pCp_0, p_st5] at this
theorem m105_2 (d : Nat) (M : am_M) : ∀ (k : Nat) (i : Int), i = 276 - k → 0 ≤ i → am_L d 105 2 [some (.inr 186), some (.inl i)] [] (p_st M 187 (pCp (M 187) (M 190) 0 i)) = some (0, p_st M 187 (pCp (M 187) (M 190) 0 276)) := by
  intro k
  induction k with
  | zero =>
    intro i hi h0
    obtain rfl : i = 276 := by omega
    rw [e105_2]
    simp (disch := omega) only [p_w, p_c, if_neg]
  | succ k ih =>
    intro i hi h0
    rw [e105_2]
    simp (disch := omega) only [p_w, p_c, if_pos, p_upd, p_st1, p_st2, p_st3]
    rw [pCp_up h0 (by omega) rfl]
    exact ih (i + 1) (by omega) (by omega)
theorem m105 (d : Nat) (M : am_M) : am_run (d + 1) 105 [.inr 186] M = some (0, p_st M 187 (pCp (M 187) (M 190) 0 276)) := by
  rw [e105]
  have := m105_2 d M 276 0 (by omega) (by omega)
  rwa [pCp_0, p_st5] at this
theorem m16 (d : Nat) (M : am_M) : am_run (d + 1) 16 [.inr 186, .inl 1000] M = some (am_irem (am_iushr (am_wrap (1664525 * M 187 3 + 1013904223)) 8) 1000, p_st M 187 (p_up (M 187) 3 (am_wrap (1664525 * M 187 3 + 1013904223)))) := by
  rw [e16]
  simp (disch := omega) only [p_c, p_upd, p_st1, p_up1, p_ww]
def pTaskF (w : Int → Int) (h p kind skill : Int) (f : Int → Int) : Int → Int := p_up (p_up (p_up (pHF w h p f) 11 skill) 13 kind) 14 (w 0)
theorem m81 (d : Nat) (h p kind skill : Int) (M : am_M) (hh : 0 ≤ h ∧ h < 16) (hp : 0 ≤ p ∧ p < 8) : am_run (d + 4) 81 [.inr 186, .inl h, .inl p, .inl kind, .inl skill] M = some (0, p_st M 196 (pTaskF (M 187) h p kind skill (M 196))) := by
  rw [e81, m62 _ _ _ _ hh hp, p_b]
  simp (disch := omega) only [p_c, p_upd, p_st1, p_st2, p_st3, pTaskF]
theorem pTaskF_dep (w : Int → Int) (h p kind skill : Int) (f g : Int → Int) : ∀ s ∈ pA 1, pTaskF w h p kind skill f s = pTaskF w h p kind skill g s := by
  intro s hs
  simp only [pA, if_true, if_false, List.mem_cons, List.not_mem_nil, or_false, show ¬ (1 : Int) = 0 by decide] at hs
  rcases hs with rfl | rfl | rfl | rfl | rfl | rfl | rfl | rfl | rfl <;> simp [pTaskF, pHF, p_up]
/-- an amount of the hands' law -/
def pAm (w F : Int → Int) (word high : Int) : Int := pAmt w F word high (w 289).toNat 0
theorem pAm_range {w F : Int → Int} {word high : Int} (h : 0 ≤ high) : 0 ≤ pAm w F word high ∧ pAm w F word high ≤ high := by
  unfold pAm
  generalize (w 289).toNat = n
  have : ∀ (n : Nat) (i : Int), 0 ≤ pAmt w F word high n i ∧ pAmt w F word high n i ≤ high := by
    intro n
    induction n with
    | zero => intro i; simp only [pAmt]; omega
    | succ n ih =>
      intro i
      rw [pAmt]
      by_cases hc : pSay w 1 i = word ∧ pHolds w F 1 i = true
      · rw [if_pos hc]; omega
      · rw [if_neg hc]; exact ih _
  exact this n 0
def pWk1 (w : Int → Int) (p h : Int) (F : Int → Int) : Int → Int := p_up w (36 + 10 * h + pp w p 1) (min 99 (am_wrap (ph w h (pp w p 1) + pAm w F 26 9)))
def pWk2 (w : Int → Int) (h a : Int) : Int → Int := p_up w (36 + 10 * h + 4) (min 99 (am_wrap (ph w h 4 + a)))
def pDraw (w : Int → Int) : Int → Int := p_up w 3 (am_wrap (1664525 * w 3 + 1013904223))
def pWk4 (w : Int → Int) (h a : Int) : Int → Int := if 0 < a then (if am_irem (am_iushr (am_wrap (1664525 * w 3 + 1013904223)) 8) 1000 < a then p_up (pDraw w) (36 + 10 * h + 5) (min 9 (am_wrap (ph (pDraw w) h 5 + 1))) else pDraw w) else w
def pWkF (w : Int → Int) (p h : Int) : Int → Int := pTaskF w h p (pp w p 1) (ph w h (pp w p 1)) (fun _ => 0)
/-- an hour of a task with a hand -/
def pWorks (w : Int → Int) (p h t : Int) : Int → Int := pWk4 (pEarns (pWk2 (pWk1 w p h (pWkF w p h)) h (pAm w (pWkF w p h) 27 9)) p (pAm w (pWkF w p h) 29 99)) h (if t = 0 then 0 else pAm w (pWkF w p h) 28 1000)
theorem m82 (d : Nat) (p h t : Int) (M : am_M) (hw : WF (M 187)) (hL : pLaw (M 187) 1) (hh : 0 ≤ h ∧ h < 16) (hp : 0 ≤ p ∧ p < 8) (ht : pp (M 187) p 1 ≠ -1) : ∃ pile f, am_run (d + 6) 82 [.inr 186, .inl p, .inl h, .inl t] M = some (0, pS M (M 186) (pWorks (M 187) p h t) pile f) := by
  have k1 := (hw.2.1 p hp.1 hp.2).2
  have c1 := (hw.2.1 p hp.1 hp.2).1
  have n9 : 0 ≤ M 187 289 := hL.1.1
  generalize hF : pTaskF (M 187) h p (pp (M 187) p 1) (ph (M 187) h (pp (M 187) p 1)) (M 196) = F
  have am : ∀ (pile : Int → Int) (word high : Int), ∃ pile2, am_run (d + 5) 58 [.inr 186, .inl word, .inl high] (pS M (M 186) (M 187) pile F) = some (pAm (M 187) (pWkF (M 187) p h) word high, pS M (M 186) (M 187) pile2 F) := by
    intro pile word high
    obtain ⟨pile2, hp2⟩ := m58 (d + 1) word high (pS M (M 186) (M 187) pile F) hL
    refine ⟨pile2, ?_⟩
    rw [pS_st195, pS_187, pS_196] at hp2
    rw [hp2, ← hF, pAmt_dep hL (pTaskF_dep (M 187) h p (pp (M 187) p 1) (ph (M 187) h (pp (M 187) p 1)) (M 196) (fun _ => 0)) _ 0 (Int.le_refl _) (by omega)]
    rfl
  have fin : ∀ (a : Int) (pile : Int → Int), am_L (d + 5) 82 39 [some (.inr 186), some (.inl p), some (.inl h), some (.inl t), some (.inl (pp (M 187) p 1)), some (.inl (pAm (M 187) (pWkF (M 187) p h) 26 9)), some (.inl (pAm (M 187) (pWkF (M 187) p h) 27 9)), some (.inl (pAm (M 187) (pWkF (M 187) p h) 29 99)), none] [.inl a] (pS M (M 186) (M 187) pile F) = some (0, pS M (M 186) (pWk4 (pEarns (pWk2 (pWk1 (M 187) p h (pWkF (M 187) p h)) h (pAm (M 187) (pWkF (M 187) p h) 27 9)) p (pAm (M 187) (pWkF (M 187) p h) 29 99)) h a) pile F) := by
    intro a pile
    have r29 := pAm_range (w := M 187) (F := pWkF (M 187) p h) (word := 29) (high := 99) (by omega)
    have ec : pp (pWk2 (pWk1 (M 187) p h (pWkF (M 187) p h)) h (pAm (M 187) (pWkF (M 187) p h) 27 9)) p 0 = pp (M 187) p 0 := by
      unfold pWk2 pWk1
      simp (disch := omega) only [pp_off]
    rw [e82_39, show am_wrap (0 + pp (M 187) p 1) = pp (M 187) p 1 from by rw [p_w (by omega) (by omega)]; omega]
    rw [m5 _ _ _ _ hh (by omega), p_b, m1, p_b, m6 _ _ _ _ _ hh (by omega), p_b, pS_187, pS_st187, ← pWk1, m5 _ _ _ _ hh (by omega), p_b, m1, p_b, m6 _ _ _ _ _ hh (by omega), p_b, pS_187, pS_st187, ← pWk2, m69 _ _ _ _ hp (by rw [pS_187, ec]; exact c1) (by omega), p_b, pS_187, pS_st187]
    unfold pWk4
    by_cases a0 : 0 < a
    · rw [if_pos a0, if_pos a0, m16, p_b, pS_187, pS_st187, ← pDraw]
      by_cases a1 : am_irem (am_iushr (am_wrap (1664525 * pEarns (pWk2 (pWk1 (M 187) p h (pWkF (M 187) p h)) h (pAm (M 187) (pWkF (M 187) p h) 27 9)) p (pAm (M 187) (pWkF (M 187) p h) 29 99) 3 + 1013904223)) 8) 1000 < a
      · rw [if_pos a1, if_pos a1, m5 _ _ _ _ hh (by omega), p_b, m1, p_b, m6 _ _ _ _ _ hh (by omega), p_b, pS_187, pS_st187]
      · rw [if_neg a1, if_neg a1]
    · rw [if_neg a0, if_neg a0]
  rw [e82, m3 _ _ _ _ hp (by omega), p_b, show am_wrap (0 + pp (M 187) p 1) = pp (M 187) p 1 from by rw [p_w (by omega) (by omega)]; omega, m5 _ _ _ _ hh (by omega), p_b, m81 _ _ _ _ _ _ hh hp, p_b, hF]
  have e0 : p_st M 196 F = pS M (M 186) (M 187) (M 195) F := by rw [← pS_lw, p_st5]
  rw [e0]
  obtain ⟨p1, h1⟩ := am (M 195) 26 9
  obtain ⟨p2, h2⟩ := am p1 27 9
  obtain ⟨p3, h3⟩ := am p2 29 99
  obtain ⟨p4, h4⟩ := am p3 28 1000
  rw [h1, p_b, h2, p_b, h3, p_b]
  unfold pWorks
  by_cases t0 : t = 0
  · rw [if_pos t0, if_pos t0]
    exact ⟨_, _, fin 0 p3⟩
  · rw [if_neg t0, if_neg t0, h4, p_b]
    exact ⟨_, _, fin _ p4⟩
end
section
/-! PURE: the model's hour: what holds on -/
theorem pl_hi {w : Int → Int} {h p i f : Int} (h0 : 0 ≤ i) (h1 : 0 ≤ f) (hh : 0 ≤ h ∧ h < 16) : pl (pGoes w h p) i f = pl w i f := pl_goes h0 h1 hh
theorem WFh_goes {w : Int → Int} {h p : Int} (hw : WFh w) (hn : w 276 ≤ 8) (hh : 0 ≤ h ∧ h < 2 * w 276) (hp : -1 ≤ p ∧ p < w 276) (hno : p = -1 ∨ ∀ g, 0 ≤ g → g < 2 * w 276 → g % 2 = h % 2 → g ≠ h → ph w g 8 ≠ p) : WFh (pGoes w h p) := by
  have e : pGoes w h p 276 = w 276 := pG_off (by omega)
  refine ⟨?_, ?_, ?_⟩
  · intro g h0 h1
    rw [e] at h1 ⊢
    have := hw.1 g h0 h1
    rw [pG_ph _ _ _ _ _ (by omega)]
    by_cases q : g = h
    · rw [if_pos ⟨q, rfl⟩]; omega
    · rw [if_neg (by omega), if_neg (by omega)]; exact this
  · intro g h0 h1
    have := hw.2.1 g h0 h1
    rw [pG_ph _ _ _ _ _ (by omega), if_neg (by omega)]
    by_cases q : g = h
    · rw [if_pos ⟨q, rfl⟩]; omega
    · rw [if_neg (by omega)]; exact this
  · intro a b h0 h1 h2 h3 h4
    rw [e] at h1 h3
    have hu := hw.2.2 a b h0 h1 h2 h3 h4
    rw [pG_ph _ _ _ _ _ (by omega), pG_ph _ _ _ _ _ (by omega), if_neg (show ¬ (a = h ∧ (8 : Int) = 7) by omega), if_neg (show ¬ (b = h ∧ (8 : Int) = 7) by omega)]
    by_cases qa : a = h
    · rw [if_pos ⟨qa, rfl⟩]
      by_cases qb : b = h
      · intro _ _; omega
      · rw [if_neg (by omega)]
        intro k1 k2
        rcases hno with q | q
        · exact absurd q k2
        · exact absurd k1.symm (q b h2 h3 (by omega) qb)
    · rw [if_neg (by omega)]
      by_cases qb : b = h
      · rw [if_pos ⟨qb, rfl⟩]
        intro k1 k2
        rcases hno with q | q
        · exact absurd (k1.trans q) k2
        · exact absurd k1 (q a h0 h1 (by omega) qa)
      · rw [if_neg (by omega)]
        exact hu
/-- cells that leave all well -/
theorem WF_same {w w' : Int → Int} (hw : WF w) (hn : w' 1 = w 1 ∧ w' 2 = w 2 ∧ w' 276 = w 276) (hp : ∀ p, 0 ≤ p → p < 8 → (0 ≤ pp w' p 0 ∧ pp w' p 0 ≤ 9999) ∧ (-1 ≤ pp w' p 1 ∧ pp w' p 1 ≤ 3)) (hh : WFh w') (hl : ∀ i f, 0 ≤ i → i < 16 → 0 ≤ f → f < 5 → pl w' i f = pl w i f) (hz : ∀ p, w 276 ≤ p → p < 8 → (∀ f, 0 ≤ f → f < 4 → pp w' p f = pp w p f) ∧ w' (277 + p) = w (277 + p)) (hz2 : ∀ h, 2 * w 276 ≤ h → h < 16 → ∀ f, 0 ≤ f → f < 10 → ph w' h f = ph w h f) : WF w' := by
  obtain ⟨⟨n1, n2, n3⟩, -, -, l0, z0⟩ := hw
  obtain ⟨e1, e2, e3⟩ := hn
  refine ⟨⟨by omega, by omega, by omega⟩, hp, hh, ?_, ⟨?_, ?_⟩⟩
  · intro i h0 h1
    rw [e1] at h1
    rw [hl i 0 h0 (by omega) (by omega) (by omega), hl i 1 h0 (by omega) (by omega) (by omega), hl i 2 h0 (by omega) (by omega) (by omega), e3]
    exact l0 i h0 h1
  · intro p h0 h1
    rw [e3] at h0
    refine ⟨fun f k1 k2 => ?_, ?_⟩
    · rw [(hz p h0 h1).1 f k1 k2]
      exact (z0.1 p h0 h1).1 f k1 k2
    · rw [(hz p h0 h1).2]
      exact (z0.1 p h0 h1).2
  · intro h h0 h1 f k1 k2
    rw [e3] at h0
    rw [hz2 h h0 h1 f k1 k2]
    exact z0.2 h h0 h1 f k1 k2
theorem WFh_same {w w' : Int → Int} (hw : WFh w) (hn : w' 276 = w 276) (h8 : ∀ h, 0 ≤ h → h < 2 * w 276 → ph w' h 8 = ph w h 8) (h7 : ∀ h, 0 ≤ h → h < 16 → (-2147483648 ≤ ph w' h 7 ∧ ph w' h 7 ≤ 2147483647)) : WFh w' := by
  refine ⟨?_, h7, ?_⟩
  · intro h h0 h1
    rw [hn] at h1 ⊢
    rw [h8 h h0 h1]
    exact hw.1 h h0 h1
  · intro a b h0 h1 h2 h3 h4
    rw [hn] at h1 h3
    rw [h8 a h0 h1, h8 b h2 h3]
    exact hw.2.2 a b h0 h1 h2 h3 h4
theorem pWorks_off {w : Int → Int} {p h t k : Int} (hk : -1 ≤ pp w p 1 ∧ pp w p 1 ≤ 3) (ht : pp w p 1 ≠ -1) (h0 : k ≠ 3) (h1 : k ≠ 4 + 4 * p + 0) (h2 : k < 36 + 10 * h ∨ 36 + 10 * h + 5 < k) : pWorks w p h t k = w k := by
  unfold pWorks pWk4
  generalize (if t = 0 then 0 else pAm w (pWkF w p h) 28 1000) = a
  have e : (pEarns (pWk2 (pWk1 w p h (pWkF w p h)) h (pAm w (pWkF w p h) 27 9)) p (pAm w (pWkF w p h) 29 99)) k = w k := by
    unfold pEarns pWk2 pWk1
    rw [p_off (by omega), p_off (by omega), p_off (by omega)]
  generalize (pEarns (pWk2 (pWk1 w p h (pWkF w p h)) h (pAm w (pWkF w p h) 27 9)) p (pAm w (pWkF w p h) 29 99)) = w3 at e ⊢
  by_cases a0 : 0 < a
  · rw [if_pos a0]
    by_cases a1 : am_irem (am_iushr (am_wrap (1664525 * w3 3 + 1013904223)) 8) 1000 < a
    · rw [if_pos a1]
      unfold pDraw
      rw [p_off (by omega), p_off (by omega), e]
    · rw [if_neg a1]
      unfold pDraw
      rw [p_off (by omega), e]
  · rw [if_neg a0, e]
theorem pWorks_coin {w : Int → Int} {p h t : Int} (hh : 0 ≤ h ∧ h < 16) (hp : 0 ≤ p ∧ p < 8) (hk : -1 ≤ pp w p 1 ∧ pp w p 1 ≤ 3) (ht : pp w p 1 ≠ -1) (hc : 0 ≤ pp w p 0 ∧ pp w p 0 ≤ 9999) : pp (pWorks w p h t) p 0 = min 9999 (pp w p 0 + pAm w (pWkF w p h) 29 99) := by
  unfold pWorks pWk4
  generalize (if t = 0 then 0 else pAm w (pWkF w p h) 28 1000) = a
  have e : pp (pEarns (pWk2 (pWk1 w p h (pWkF w p h)) h (pAm w (pWkF w p h) 27 9)) p (pAm w (pWkF w p h) 29 99)) p 0 = min 9999 (pp w p 0 + pAm w (pWkF w p h) 29 99) := by
    unfold pEarns
    rw [pp_up _ _ _ _ _ _ (by omega) (by omega), if_pos ⟨rfl, rfl⟩]
    unfold pWk2 pWk1
    rw [pp_off (by omega), pp_off (by omega)]
  generalize (pEarns (pWk2 (pWk1 w p h (pWkF w p h)) h (pAm w (pWkF w p h) 27 9)) p (pAm w (pWkF w p h) 29 99)) = w3 at e ⊢
  by_cases a0 : 0 < a
  · rw [if_pos a0]
    by_cases a1 : am_irem (am_iushr (am_wrap (1664525 * w3 3 + 1013904223)) 8) 1000 < a
    · rw [if_pos a1]
      unfold pDraw
      rw [pp_off (by omega), pp_off (by omega), e]
    · rw [if_neg a1]
      unfold pDraw
      rw [pp_off (by omega), e]
  · rw [if_neg a0, e]
theorem pWorks_WF {w : Int → Int} {p h t : Int} (hw : WF w) (hh : 0 ≤ h ∧ h < 2 * w 276) (hp : 0 ≤ p ∧ p < w 276) (ht : pp w p 1 ≠ -1) : WF (pWorks w p h t) := by
  have n2 := hw.1.2.1
  have hk := (hw.2.1 p hp.1 (by omega)).2
  have hc := (hw.2.1 p hp.1 (by omega)).1
  have off : ∀ k, k ≠ 3 → k ≠ 4 + 4 * p + 0 → (k < 36 + 10 * h ∨ 36 + 10 * h + 5 < k) → pWorks w p h t k = w k := fun k => pWorks_off hk ht
  have co := pWorks_coin (t := t) (h := h) (by omega) (by omega) hk ht hc
  have ra := pAm_range (w := w) (F := pWkF w p h) (word := 29) (high := 99) (by omega)
  refine WF_same hw ⟨off 1 (by omega) (by omega) (by omega), off 2 (by omega) (by omega) (by omega), off 276 (by omega) (by omega) (by omega)⟩ ?_ ?_ ?_ ?_ ?_
  · intro q h0 h1
    have hq := hw.2.1 q h0 h1
    refine ⟨?_, by unfold pp; rw [off _ (by omega) (by omega) (by omega)]; exact hq.2⟩
    by_cases e : q = p
    · rw [e, co]; omega
    · unfold pp; rw [off _ (by omega) (by omega) (by omega)]; exact hq.1
  · refine WFh_same hw.2.2.1 (off 276 (by omega) (by omega) (by omega)) ?_ ?_
    · intro g h0 h1
      unfold ph
      rw [off _ (by omega) (by omega) (by omega)]
    · intro g h0 h1
      unfold ph
      rw [off _ (by omega) (by omega) (by omega)]
      exact hw.2.2.1.2.1 g h0 h1
  · intro i f h0 h1 h2 h3
    unfold pl
    rw [off _ (by omega) (by omega) (by omega)]
  · intro q h0 h1
    refine ⟨fun f k1 k2 => ?_, ?_⟩
    · unfold pp
      rw [off _ (by omega) (by omega) (by omega)]
    · rw [off _ (by omega) (by omega) (by omega)]
  · intro g h0 h1 f k1 k2
    unfold ph
    rw [off _ (by omega) (by omega) (by omega)]
/-- marks -/
def pMk (w : Int → Int) (n : Int) : Int → Int := fun k => if 36 ≤ k ∧ k < 36 + 10 * n ∧ w (36 + 10 * ((k - 36) / 10) + 8) ≠ -1 then (if (k - 36) % 10 = 7 then am_wrap (w k + 1) else if (k - 36) % 10 = 6 then am_ior (w k) (am_ishl 1 (w (36 + 10 * ((k - 36) / 10) + 8))) else w k) else w k
theorem pMk_off {w : Int → Int} {n k : Int} (h : k < 36 + 6 ∨ 36 + 10 * n ≤ k ∨ ((k - 36) % 10 ≠ 7 ∧ (k - 36) % 10 ≠ 6)) : pMk w n k = w k := by
  unfold pMk
  by_cases h1 : 36 ≤ k ∧ k < 36 + 10 * n ∧ w (36 + 10 * ((k - 36) / 10) + 8) ≠ -1
  · rw [if_pos h1, if_neg (by omega), if_neg (by omega)]
  · rw [if_neg h1]
theorem pMk_next1 {w : Int → Int} {n : Int} (h0 : 0 ≤ n) (h : w (36 + 10 * n + 8) = -1) : pMk w (n + 1) = pMk w n := by
  funext k
  unfold pMk
  by_cases h1 : 36 ≤ k ∧ k < 36 + 10 * n ∧ w (36 + 10 * ((k - 36) / 10) + 8) ≠ -1
  · rw [if_pos h1, if_pos ⟨h1.1, by omega, h1.2.2⟩]
  · rw [if_neg h1]
    by_cases h2 : 36 + 10 * n ≤ k ∧ k < 36 + 10 * (n + 1)
    · rw [if_neg]
      intro q
      rw [show (k - 36) / 10 = n from by omega] at q
      exact q.2.2 h
    · rw [if_neg]
      intro q
      exact h1 ⟨q.1, by omega, q.2.2⟩
theorem pMk_next2 {w : Int → Int} {n : Int} (h0 : 0 ≤ n) (h : w (36 + 10 * n + 8) ≠ -1) : pMk w (n + 1) = p_up (p_up (pMk w n) (36 + 10 * n + 7) (am_wrap (w (36 + 10 * n + 7) + 1))) (36 + 10 * n + 6) (am_ior (w (36 + 10 * n + 6)) (am_ishl 1 (w (36 + 10 * n + 8)))) := by
  funext k
  unfold p_up
  by_cases k6 : k = 36 + 10 * n + 6
  · rw [if_pos k6]
    unfold pMk
    rw [show (k - 36) / 10 = n from by omega, if_pos ⟨by omega, by omega, h⟩, if_neg (by omega), if_pos (by omega), k6]
  · rw [if_neg k6]
    by_cases k7 : k = 36 + 10 * n + 7
    · rw [if_pos k7]
      unfold pMk
      rw [show (k - 36) / 10 = n from by omega, if_pos ⟨by omega, by omega, h⟩, if_pos (by omega), k7]
    · rw [if_neg k7]
      by_cases h2 : 36 + 10 * n ≤ k ∧ k < 36 + 10 * (n + 1)
      · rw [pMk_off (by omega), pMk_off (by omega)]
      · unfold pMk
        by_cases h1 : 36 ≤ k ∧ k < 36 + 10 * n ∧ w (36 + 10 * ((k - 36) / 10) + 8) ≠ -1
        · rw [if_pos h1, if_pos ⟨h1.1, by omega, h1.2.2⟩]
        · rw [if_neg h1, if_neg]
          intro q
          exact h1 ⟨q.1, by omega, q.2.2⟩
def pMarks (w : Int → Int) : Int → Int := pMk w (2 * w 276)
theorem m85_2 (d : Nat) (M : am_M) (w : Int → Int) (hn : 0 ≤ w 276 ∧ w 276 ≤ 8) : ∀ (k : Nat) (i : Int) (o2 : Option am_V), i = 2 * w 276 - k → 0 ≤ i → am_L (d + 1) 85 2 [some (.inr 186), some (.inl i), o2] [] (p_st M 187 (pMk w i)) = some (0, p_st M 187 (pMarks w)) := by
  intro k
  induction k with
  | zero =>
    intro i o2 hi h0
    obtain rfl : i = 2 * w 276 := by omega
    have e : pMk w (2 * w 276) 276 = w 276 := pMk_off (by omega)
    rw [e85_2]
    simp (disch := omega) only [p_w, p_c, if_neg, p_st1, e, pMarks]
  | succ k ih =>
    intro i o2 hi h0
    have e : pMk w i 276 = w 276 := pMk_off (by omega)
    have e8 : ph (pMk w i) i 8 = w (36 + 10 * i + 8) := pMk_off (by omega)
    have e7 : ph (pMk w i) i 7 = w (36 + 10 * i + 7) := pMk_off (by omega)
    have e6 : ph (p_up (pMk w i) (36 + 10 * i + 7) (am_wrap (w (36 + 10 * i + 7) + 1))) i 6 = w (36 + 10 * i + 6) := by
      rw [ph_up _ _ _ _ _ _ (by omega) (by omega), if_neg (by omega)]
      exact pMk_off (by omega)
    rw [e85_2]
    simp (disch := omega) only [p_c, if_pos, p_st1, e, m5, p_b, e8]
    by_cases h : w (36 + 10 * i + 8) = -1
    · rw [if_pos (by rw [p_w] <;> omega), if_pos h, p_w (by omega) (by omega), ← pMk_next1 h0 h]
      exact ih (i + 1) _ (by omega) (by omega)
    · rw [if_pos (by rw [p_w] <;> omega), if_neg h]
      simp (disch := omega) only [m5, m6, p_b, p_st1, p_st3, e7, e6, p_w]
      rw [← pMk_next2 h0 h]
      exact ih (i + 1) _ (by omega) (by omega)
theorem m85 (d : Nat) (M : am_M) (hn : 0 ≤ M 187 276 ∧ M 187 276 ≤ 8) : am_run (d + 2) 85 [.inr 186] M = some (0, p_st M 187 (pMarks (M 187))) := by
  rw [e85]
  have := m85_2 d M (M 187) hn (2 * M 187 276).toNat 0 none (by omega) (by omega)
  rwa [show pMk (M 187) 0 = M 187 from by funext k; exact pMk_off (by omega), p_st5] at this
theorem pMarks_WF {w : Int → Int} (hw : WF w) : WF (pMarks w) := by
  have n2 := hw.1.2.1
  have off : ∀ k, (k < 36 + 6 ∨ 36 + 10 * (2 * w 276) ≤ k ∨ ((k - 36) % 10 ≠ 7 ∧ (k - 36) % 10 ≠ 6)) → pMarks w k = w k := fun k => pMk_off
  refine WF_same hw ⟨off 1 (by omega), off 2 (by omega), off 276 (by omega)⟩ ?_ ?_ ?_ ?_ ?_
  · intro q h0 h1
    unfold pp
    rw [off _ (by omega), off _ (by omega)]
    exact hw.2.1 q h0 h1
  · refine WFh_same hw.2.2.1 (off 276 (by omega)) ?_ ?_
    · intro g h0 h1
      unfold ph
      rw [off _ (by omega)]
    · intro g h0 h1
      have := hw.2.2.1.2.1 g h0 h1
      unfold ph at this ⊢
      unfold pMarks pMk
      by_cases h1 : 36 ≤ 36 + 10 * g + 7 ∧ 36 + 10 * g + 7 < 36 + 10 * (2 * w 276) ∧ w (36 + 10 * ((36 + 10 * g + 7 - 36) / 10) + 8) ≠ -1
      · rw [if_pos h1, if_pos (by omega)]
        exact p_w_in _
      · rw [if_neg h1]
        exact this
  · intro i f h0 h1 h2 h3
    unfold pl
    rw [off _ (by omega)]
  · intro q h0 h1
    refine ⟨fun f k1 k2 => ?_, ?_⟩
    · unfold pp
      rw [off _ (by omega)]
    · rw [off _ (by omega)]
  · intro g h0 h1 f k1 k2
    unfold ph
    rw [off _ (by omega)]
end
section
/-! PURE: loans end, in the model -/
def pEn2 (w : Int → Int) (i : Int) : Int → Int := pGoes (p_up w (36 + 10 * pl w i 0 + 8) (-1)) (pl w i 0) (if pOn (p_up w (36 + 10 * pl w i 0 + 8) (-1)) (pl w i 1) (pl w i 0 % 2) = -1 then pl w i 1 else -1)
def pEn3 (w : Int → Int) (i : Int) : Int → Int := if pOn (pEn2 w i) (pl w i 2) (pl w i 0 % 2) = -1 ∧ ph (pEn2 w i) (2 * pl w i 2 + pl w i 0 % 2) 8 = -1 then pGoes (pEn2 w i) (2 * pl w i 2 + pl w i 0 % 2) (pl w i 2) else pEn2 w i
def pEnds (w : Int → Int) (i : Int) : Int → Int := p_up (pCp (pEn3 w i) (fun k => pEn3 w i (k + 5)) (196 + 5 * i) (5 * (w 1 - 1 - i))) 1 (w 1 - 1)
theorem pEn2_off {w : Int → Int} {i k : Int} (hk : k < 36 + 10 * pl w i 0 + 7 ∨ 36 + 10 * pl w i 0 + 8 < k) : pEn2 w i k = w k := by
  unfold pEn2
  rw [pG_off hk, p_off (by omega)]
theorem pEn3_off {w : Int → Int} {i k : Int} (hl : (0 ≤ pl w i 0 ∧ pl w i 0 < 16) ∧ (0 ≤ pl w i 2 ∧ pl w i 2 < 8)) (hk : k < 43 ∨ 194 < k ∨ (k % 10 ≠ 3 ∧ k % 10 ≠ 4)) : pEn3 w i k = w k := by
  unfold pEn3
  by_cases h : pOn (pEn2 w i) (pl w i 2) (pl w i 0 % 2) = -1 ∧ ph (pEn2 w i) (2 * pl w i 2 + pl w i 0 % 2) 8 = -1
  · rw [if_pos h, pG_off (by omega), pEn2_off (by omega)]
  · rw [if_neg h, pEn2_off (by omega)]
theorem m83_64 (d : Nat) (M : am_M) (w : Int → Int) (i N : Int) (o : List (Option am_V)) (hN : w 1 = N) (hN2 : N ≤ 16) (h0 : 0 ≤ i) (hi : i < N) (x1 x2 x3 x4 x5 x6 : Int) : ∀ (k : Nat) (j : Int), j = 5 * (N - 1 - i) - k → 0 ≤ j → am_L (d + 1) 83 64 [some (.inr 186), some (.inl x1), some (.inl x2), some (.inl x3), some (.inl x4), some (.inl x5), some (.inl x6), some (.inl (196 + 5 * i + j))] [] (p_st M 187 (pCp w (fun k => w (k + 5)) (196 + 5 * i) j)) = some (0, p_st M 187 (p_up (pCp w (fun k => w (k + 5)) (196 + 5 * i) (5 * (N - 1 - i))) 1 (N - 1))) := by
  intro k
  induction k with
  | zero =>
    intro j hj hj0
    obtain rfl : j = 5 * (N - 1 - i) := by omega
    have e : pCp w (fun k => w (k + 5)) (196 + 5 * i) (5 * (N - 1 - i)) 1 = N := by rw [pCp_out (by omega)]; exact hN
    rw [e83_64]
    simp (disch := omega) only [p_w, p_c, if_neg, p_st1, e, p_upd, p_st3]
  | succ k ih =>
    intro j hj hj0
    have e : pCp w (fun k => w (k + 5)) (196 + 5 * i) j 1 = N := by rw [pCp_out (by omega)]; exact hN
    rw [e83_64]
    simp (disch := omega) only [p_w, p_c, if_pos, p_st1, e, p_upd, p_st3]
    rw [pCp_up (v := pCp w (fun k => w (k + 5)) (196 + 5 * i) j (196 + 5 * i + j + 5)) hj0 rfl (by rw [pCp_out (by omega)]), show 196 + 5 * i + j + 1 = 196 + 5 * i + (j + 1) from by omega]
    exact ih (j + 1) (by omega) (by omega)
theorem m83 (d : Nat) (i : Int) (M : am_M) (hw : WF (M 187)) (hi : 0 ≤ i ∧ i < M 187 1) : am_run (d + 3) 83 [.inr 186, .inl i] M = some (0, p_st M 187 (pEnds (M 187) i)) := by
  obtain ⟨⟨n1, n2, n3⟩, hp, hh, hl, hz⟩ := hw
  obtain ⟨l0, l1, l2⟩ := hl i hi.1 hi.2
  have fin : ∀ x6, am_L (d + 2) 83 64 [some (.inr 186), some (.inl i), some (.inl (pl (M 187) i 0)), some (.inl (pl (M 187) i 1)), some (.inl (pl (M 187) i 2)), some (.inl (pl (M 187) i 0 % 2)), some (.inl x6), some (.inl (196 + 5 * i))] [] (p_st M 187 (pEn3 (M 187) i)) = some (0, p_st M 187 (pEnds (M 187) i)) := by
    intro x6
    have := m83_64 (d + 1) M (pEn3 (M 187) i) i (M 187 1) [] (pEn3_off (by omega) (by omega)) n1.2 hi.1 hi.2 i (pl (M 187) i 0) (pl (M 187) i 1) (pl (M 187) i 2) (pl (M 187) i 0 % 2) x6 (5 * (M 187 1 - 1 - i)).toNat 0 (by omega) (by omega)
    rw [pCp_0, show 196 + 5 * i + 0 = 196 + 5 * i from by omega] at this
    exact this
  have g276 : (p_up (M 187) (36 + 10 * pl (M 187) i 0 + 8) (-1)) 276 = M 187 276 := p_off (by omega)
  have g2 : pEn2 (M 187) i 276 = M 187 276 := pEn2_off (by omega)
  have mid : am_L (d + 2) 83 35 [some (.inr 186), some (.inl i), some (.inl (pl (M 187) i 0)), some (.inl (pl (M 187) i 1)), some (.inl (pl (M 187) i 2)), some (.inl (pl (M 187) i 0 % 2)), none, none] [.inl (if pOn (p_up (M 187) (36 + 10 * pl (M 187) i 0 + 8) (-1)) (pl (M 187) i 1) (pl (M 187) i 0 % 2) = -1 then pl (M 187) i 1 else -1), .inl (pl (M 187) i 0), .inr 186] (p_st M 187 (p_up (M 187) (36 + 10 * pl (M 187) i 0 + 8) (-1))) = some (0, p_st M 187 (pEnds (M 187) i)) := by
    rw [e83_35, m66 _ _ _ _ (by omega), p_b, p_st1, p_st3, ← pEn2, m12 _ _ _ _ (by rw [p_st1, g2]; exact n2) (by omega), p_b, p_st1]
    simp (disch := omega) only [p_w]
    by_cases h1 : pOn (pEn2 (M 187) i) (pl (M 187) i 2) (pl (M 187) i 0 % 2) = -1
    · rw [if_pos h1, m5 _ _ _ _ (by omega) (by omega), p_b, p_st1]
      by_cases h2 : ph (pEn2 (M 187) i) (2 * pl (M 187) i 2 + pl (M 187) i 0 % 2) 8 = -1
      · rw [if_pos h2, m66 _ _ _ _ (by omega), p_b, p_st1, p_st3]
        have : pEn3 (M 187) i = pGoes (pEn2 (M 187) i) (2 * pl (M 187) i 2 + pl (M 187) i 0 % 2) (pl (M 187) i 2) := if_pos ⟨h1, h2⟩
        rw [← this]
        exact fin _
      · rw [if_neg h2]
        have : pEn3 (M 187) i = pEn2 (M 187) i := if_neg (fun q => h2 q.2)
        rw [← this]
        exact fin _
    · rw [if_neg h1]
      have : pEn3 (M 187) i = pEn2 (M 187) i := if_neg (fun q => h1 q.1)
      rw [← this]
      exact fin _
  rw [e83, m7 _ _ _ _ (by omega) (by omega), p_b, m7 _ _ _ _ (by omega) (by omega), p_b, m7 _ _ _ _ (by omega) (by omega), p_b, p_c (by decide), m6 _ _ _ _ _ (by omega) (by omega), p_b, p_rem2 (by omega) (by omega), m12 _ _ _ _ (by rw [p_st1, g276]; exact n2) (by omega), p_b, p_st1]
  by_cases h1 : pOn (p_up (M 187) (36 + 10 * pl (M 187) i 0 + 8) (-1)) (pl (M 187) i 1) (pl (M 187) i 0 % 2) = -1
  · rw [if_pos h1]
    rw [if_pos h1] at mid
    exact mid
  · rw [if_neg h1]
    rw [if_neg h1] at mid
    exact mid
theorem pG_up (w : Int → Int) (h p v : Int) : pGoes (p_up w (36 + 10 * h + 8) v) h p = pGoes w h p := by
  unfold pGoes
  rw [p_up3]
theorem pEn3_WFh {w : Int → Int} {i : Int} (hw : WF w) (hi : 0 ≤ i ∧ i < w 1) : WFh (pEn3 w i) := by
  obtain ⟨⟨n1, n2, n3⟩, hp, hh, hl, hz⟩ := hw
  obtain ⟨l0, l1, l2⟩ := hl i hi.1 hi.2
  have g2 : pEn2 w i 276 = w 276 := pEn2_off (by omega)
  have w2 : WFh (pEn2 w i) := by
    unfold pEn2
    rw [pG_up]
    refine WFh_goes hh n2.2 l0 ?_ ?_
    · by_cases h1 : pOn (p_up w (36 + 10 * pl w i 0 + 8) (-1)) (pl w i 1) (pl w i 0 % 2) = -1
      · rw [if_pos h1]; omega
      · rw [if_neg h1]; omega
    · by_cases h1 : pOn (p_up w (36 + 10 * pl w i 0 + 8) (-1)) (pl w i 1) (pl w i 0 % 2) = -1
      · rw [if_pos h1]
        refine Or.inr (fun g k0 k1 k2 k3 => ?_)
        have := (pOn_none (by omega) (by rw [p_off (by omega)]; omega)).mp h1 g k0 (by rw [p_off (by omega)]; exact k1) k2
        rwa [ph_off (by omega)] at this
      · rw [if_neg h1]; exact Or.inl rfl
  unfold pEn3
  by_cases h : pOn (pEn2 w i) (pl w i 2) (pl w i 0 % 2) = -1 ∧ ph (pEn2 w i) (2 * pl w i 2 + pl w i 0 % 2) 8 = -1
  · rw [if_pos h]
    refine WFh_goes w2 (by omega) (by omega) (by omega) (Or.inr (fun g k0 k1 k2 k3 => ?_))
    exact (pOn_none (by omega) (by omega)).mp h.1 g k0 k1 (by omega)
  · rw [if_neg h]; exact w2
theorem pEnds_off {w : Int → Int} {i k : Int} (hl : (0 ≤ pl w i 0 ∧ pl w i 0 < 16) ∧ (0 ≤ pl w i 2 ∧ pl w i 2 < 8)) (hi : 0 ≤ i ∧ i < w 1 ∧ w 1 ≤ 16) (h1 : k ≠ 1) (hk : k < 43 ∨ (194 < k ∧ k < 196) ∨ 276 ≤ k ∨ (k < 196 ∧ k % 10 ≠ 3 ∧ k % 10 ≠ 4)) : pEnds w i k = w k := by
  unfold pEnds
  rw [p_off (by omega), pCp_out (by omega), pEn3_off hl (by omega)]
theorem pEnds_ph {w : Int → Int} {i h f : Int} (hi : 0 ≤ i) (h0 : 0 ≤ h ∧ h < 16) (hf : 0 ≤ f ∧ f < 10) : ph (pEnds w i) h f = ph (pEn3 w i) h f := by
  unfold ph pEnds
  rw [p_off (by omega), pCp_out (by omega)]
theorem pEnds_pl {w : Int → Int} {i j f : Int} (hl : (0 ≤ pl w i 0 ∧ pl w i 0 < 16) ∧ (0 ≤ pl w i 2 ∧ pl w i 2 < 8)) (hi : 0 ≤ i ∧ i < w 1) (hj : 0 ≤ j) (hf : 0 ≤ f ∧ f < 5) : pl (pEnds w i) j f = if i ≤ j ∧ j < w 1 - 1 then pl w (j + 1) f else pl w j f := by
  unfold pEnds pl
  rw [p_off (by omega)]
  by_cases h : i ≤ j ∧ j < w 1 - 1
  · rw [pCp_in (by omega), if_pos h, pEn3_off hl (by omega)]
    congr 1
    omega
  · rw [pCp_out (by omega), if_neg h, pEn3_off hl (by omega)]
theorem pEnds_1 (w : Int → Int) (i : Int) : pEnds w i 1 = w 1 - 1 := p_up1 _ _ _
theorem pEnds_WF {w : Int → Int} {i : Int} (hw : WF w) (hi : 0 ≤ i ∧ i < w 1) : WF (pEnds w i) := by
  have h3 := pEn3_WFh hw hi
  obtain ⟨⟨n1, n2, n3⟩, hp, hh, hl, hz⟩ := hw
  obtain ⟨l0, l1, l2⟩ := hl i hi.1 hi.2
  have hl' : (0 ≤ pl w i 0 ∧ pl w i 0 < 16) ∧ (0 ≤ pl w i 2 ∧ pl w i 2 < 8) := by omega
  have off : ∀ k, k ≠ 1 → (k < 43 ∨ (194 < k ∧ k < 196) ∨ 276 ≤ k ∨ (k < 196 ∧ k % 10 ≠ 3 ∧ k % 10 ≠ 4)) → pEnds w i k = w k := fun k => pEnds_off hl' ⟨hi.1, hi.2, n1.2⟩
  have e1 := pEnds_1 w i
  have e276 := off 276 (by omega) (by omega)
  have e2 := off 2 (by omega) (by omega)
  have e3 : pEn3 w i 276 = w 276 := pEn3_off hl' (by omega)
  refine ⟨⟨by omega, by omega, by omega⟩, ?_, ⟨?_, ?_, ?_⟩, ?_, ⟨?_, ?_⟩⟩
  · intro q k0 k1
    unfold pp
    rw [off _ (by omega) (by omega), off _ (by omega) (by omega)]
    exact hp q k0 k1
  · intro g k0 k1
    rw [e276] at k1 ⊢
    rw [pEnds_ph hi.1 (by omega) (by omega), ← e3]
    exact h3.1 g k0 (by omega)
  · intro g k0 k1
    rw [pEnds_ph hi.1 (by omega) (by omega)]
    exact h3.2.1 g k0 (by omega)
  · intro a b k0 k1 k2 k3
    rw [e276] at k1 k3
    rw [pEnds_ph hi.1 (by omega) (by omega), pEnds_ph hi.1 (by omega) (by omega)]
    exact h3.2.2 a b k0 (by omega) k2 (by omega)
  · intro j k0 k1
    rw [e1] at k1
    rw [pEnds_pl hl' hi k0 (by omega), pEnds_pl hl' hi k0 (by omega), pEnds_pl hl' hi k0 (by omega), e276]
    by_cases h : i ≤ j ∧ j < w 1 - 1
    · rw [if_pos h, if_pos h, if_pos h]
      exact hl (j + 1) (by omega) (by omega)
    · rw [if_neg h, if_neg h, if_neg h]
      exact hl j (by omega) (by omega)
  · intro p k0 k1
    rw [e276] at k0
    have := hz.1 p k0 k1
    refine ⟨fun f q0 q1 => ?_, ?_⟩
    · have := this.1 f q0 q1
      unfold pp at this ⊢
      rw [off _ (by omega) (by omega)]
      exact this
    · rw [off _ (by omega) (by omega)]
      exact this.2
  · intro g k0 k1 f q0 q1
    rw [e276] at k0
    rw [pEnds_ph hi.1 (by omega) (by omega), ← hz.2 g k0 k1 f q0 q1]
    have e2 : ph (pEn2 w i) g f = ph w g f := by
      unfold ph
      rw [pEn2_off (by omega)]
    unfold pEn3
    by_cases h : pOn (pEn2 w i) (pl w i 2) (pl w i 0 % 2) = -1 ∧ ph (pEn2 w i) (2 * pl w i 2 + pl w i 0 % 2) 8 = -1
    · rw [if_pos h, pG_ph _ _ _ _ _ (by omega), if_neg (by omega), if_neg (by omega), e2]
    · rw [if_neg h, e2]
/-- all loans that end now, from the latest on -/
def pEA : Nat → (Int → Int) → Int → Int
  | 0, w => w
  | k + 1, w => pEA k (if w 0 < pl w k 3 then w else pEnds w k)
theorem pEA_all : ∀ (k : Nat) (w : Int → Int), WF w → (k : Int) ≤ w 1 → WF (pEA k w) ∧ ∀ j, j ≠ 1 → (j < 43 ∨ 276 ≤ j ∨ (j < 196 ∧ j % 10 ≠ 3 ∧ j % 10 ≠ 4)) → pEA k w j = w j := by
  intro k
  induction k with
  | zero => intro w hw hk; exact ⟨hw, fun _ _ _ => rfl⟩
  | succ k ih =>
    intro w hw hk
    rw [pEA]
    by_cases h : w 0 < pl w k 3
    · rw [if_pos h]
      exact ih w hw (by omega)
    · rw [if_neg h]
      have hi : 0 ≤ (k : Int) ∧ (k : Int) < w 1 := by omega
      obtain ⟨l0, l1, l2⟩ := hw.2.2.2.1 k hi.1 hi.2
      have n2 := hw.1.2.1
      have := ih (pEnds w k) (pEnds_WF hw hi) (by rw [pEnds_1]; omega)
      refine ⟨this.1, fun j h1 h2 => ?_⟩
      rw [this.2 j h1 h2, pEnds_off (by omega) ⟨hi.1, hi.2, hw.1.1.2⟩ h1 (by omega)]
theorem m86_7 (d : Nat) (M : am_M) : ∀ (k : Nat) (w : Int → Int), WF w → (k : Int) ≤ w 1 → am_L (d + 3) 86 7 [some (.inr 186), some (.inl ((k : Int) - 1))] [] (p_st M 187 w) = some (0, p_st M 187 (pEA k w)) := by
  intro k
  induction k with
  | zero =>
    intro w hw hk
    rw [e86_7, if_pos (by omega), pEA]
  | succ k ih =>
    intro w hw hk
    have n1 := hw.1.1
    have hk2 : 0 ≤ (k : Int) ∧ (k : Int) < w 1 := by omega
    rw [e86_7, if_neg (by omega), show ((k + 1 : Nat) : Int) - 1 = k from by omega, m7 _ _ _ _ (by omega) (by omega), p_b, p_c (by omega), p_st1, pEA, show am_wrap ((k : Int) + -1) = (k : Int) - 1 from by rw [p_w (by omega) (by omega)]; omega]
    by_cases h : w 0 < pl w k 3
    · rw [if_pos h, if_pos h]
      exact ih w hw (by omega)
    · rw [if_neg h, if_neg h, m83 _ _ _ (by rw [p_st1]; exact hw) (by rw [p_st1]; exact hk2), p_b, p_st1, p_st3]
      exact ih _ (pEnds_WF hw hk2) (by rw [pEnds_1]; omega)
theorem m86 (d : Nat) (M : am_M) (hw : WF (M 187)) : am_run (d + 4) 86 [.inr 186] M = some (0, p_st M 187 (pEA (M 187 1).toNat (M 187))) := by
  have n1 := hw.1.1
  have := m86_7 d M (M 187 1).toNat (M 187) hw (by omega)
  rw [e86, p_c (by omega), p_w (by omega) (by omega)]
  rw [p_st5, show (((M 187 1).toNat : Nat) : Int) = M 187 1 from by omega] at this
  exact this
end
section
/-! PURE: an hour, in the model -/
/-- the texts are the same -/
def pTX (w w' : Int → Int) : Prop := ∀ k, 277 ≤ k → w' k = w k
theorem pTX_refl (w : Int → Int) : pTX w w := fun _ _ => rfl
theorem pTX_trans {a b c : Int → Int} (h1 : pTX a b) (h2 : pTX b c) : pTX a c := fun k hk => (h2 k hk).trans (h1 k hk)
theorem pSteps_TX {w w' : Int → Int} {k : Int} (h : pTX w w') (hk : 0 ≤ k) : ∀ (n : Nat) (i : Int), 0 ≤ i → pSteps w' k n i = pSteps w k n i := by
  intro n
  induction n with
  | zero => intro i _; rfl
  | succ n ih =>
    intro i hi
    rw [pSteps, pSteps, h _ (by omega), h _ (by omega), ih (i + 1) (by omega)]
theorem pB_TX {w w' : Int → Int} {k i : Int} (h : pTX w w') (hk : 0 ≤ k) (hi : 0 ≤ i) (hm : 0 ≤ pMid w k i) : pB w' k i = pB w k i := by
  have e1 : pTo w' k i = pTo w k i := h _ (by omega)
  have e2 : pMid w' k i = pMid w k i := h _ (by omega)
  unfold pB
  rw [e1, e2, pSteps_TX h hk _ _ hm]
theorem pE_TX {w w' : Int → Int} {k i : Int} (h : pTX w w') (hk : 0 ≤ k) (hi : 0 ≤ i) (hm : 0 ≤ pFrom w k i) : pE w' k i = pE w k i := by
  have e1 : pFrom w' k i = pFrom w k i := h _ (by omega)
  have e2 : pMid w' k i = pMid w k i := h _ (by omega)
  unfold pE
  rw [e1, e2, pSteps_TX h hk _ _ hm]
theorem pLaw_TX {w w' : Int → Int} {k : Int} (h : pTX w w') (hk : 0 ≤ k) (hL : pLaw w k) : pLaw w' k := by
  obtain ⟨h1, h2⟩ := hL
  have e : w' (288 + k) = w (288 + k) := h _ (by omega)
  refine ⟨by rw [e]; exact h1, fun i h0 hi => ?_⟩
  rw [e] at hi
  obtain ⟨b1, b2, b3⟩ := h2 i h0 hi
  rw [pB_TX h hk h0 (by omega), pE_TX h hk h0 (by omega), show pFrom w' k i = pFrom w k i from h _ (by omega), show pMid w' k i = pMid w k i from h _ (by omega), show pTo w' k i = pTo w k i from h _ (by omega)]
  exact ⟨b1, b2, b3⟩
theorem pLends_TX {w : Int → Int} {h to n price : Int} (hw : WF w) (hc : pLok w h to n price) : pTX w (pLends w h to n price) := fun k hk => pLends_hi hw hc (by omega)
theorem pWorks_TX {w : Int → Int} {p h t : Int} (hh : 0 ≤ h ∧ h < 16) (hp : 0 ≤ p ∧ p < 8) (hk : -1 ≤ pp w p 1 ∧ pp w p 1 ≤ 3) (ht : pp w p 1 ≠ -1) : pTX w (pWorks w p h t) := fun k hk2 => pWorks_off hk ht (by omega) (by omega) (by omega)
theorem pMarks_TX {w : Int → Int} (hn : w 276 ≤ 8) : pTX w (pMarks w) := fun k hk => pMk_off (by omega)
/-- one booking in its hour: the cells, and the bookings that failed -/
def pBk (i : Int) (s : (Int → Int) × List Int) : (Int → Int) × List Int := if s.1 (292 + 5 * i + 2) = s.1 0 then (if pCan s.1 (s.1 (292 + 5 * i)) (s.1 (292 + 5 * i + 1)) (s.1 (292 + 5 * i + 3)) (s.1 (292 + 5 * i + 4)) = true then (pLends s.1 (s.1 (292 + 5 * i)) (s.1 (292 + 5 * i + 1)) (s.1 (292 + 5 * i + 3)) (s.1 (292 + 5 * i + 4)), s.2) else (s.1, s.2 ++ [i])) else s
def pBks (w : Int → Int) (n : Int) : (Int → Int) × List Int := pF pBk n.toNat (w, [])
def pFa (u : Int → Int) (l : List Int) (hour : Int) : Int → Int := match l with
  | [] => u
  | i :: _ => if u 27 = -1 then p_up (p_up u 27 i) 28 hour else u
theorem pFa_app (u : Int → Int) (l : List Int) (i h : Int) (hl : ∀ x ∈ l, 0 ≤ x) : pFa u (l ++ [i]) h = if pFa u l h 27 = -1 then p_up (p_up (pFa u l h) 27 i) 28 h else pFa u l h := by
  cases l with
  | nil => rfl
  | cons x l =>
    have hx := hl x (List.mem_cons_self ..)
    show (if u 27 = -1 then p_up (p_up u 27 x) 28 h else u) = _
    have e : pFa u (x :: l) h = if u 27 = -1 then p_up (p_up u 27 x) 28 h else u := rfl
    rw [e]
    by_cases h3 : u 27 = -1
    · rw [if_pos h3, if_neg]
      rw [p_off (by omega), p_up1]
      omega
    · rw [if_neg h3, if_neg h3]
theorem pBks_next (w : Int → Int) {i : Int} (h : 0 ≤ i) : pBks w (i + 1) = pBk i (pBks w i) := (pF_next pBk (w, []) h).symm
theorem pBks_all {w : Int → Int} (hw : WF w) : ∀ n : Nat, WF (pBks w n).1 ∧ pTX w (pBks w n).1 ∧ (pBks w n).1 0 = w 0 ∧ (pBks w n).1 276 = w 276 ∧ (pBks w n).1 2 = w 2 ∧ (pBks w n).2.length ≤ n ∧ ∀ x ∈ (pBks w n).2, 0 ≤ x ∧ x < n := by
  intro n
  induction n with
  | zero => exact ⟨hw, pTX_refl w, rfl, rfl, rfl, Nat.le_refl _, fun x hx => by cases hx⟩
  | succ n ih =>
    rw [show ((n + 1 : Nat) : Int) = (n : Int) + 1 from by omega, pBks_next w (by omega)]
    generalize pBks w n = s at ih ⊢
    obtain ⟨i1, i2, i3, i4, i5, i6, i7⟩ := ih
    have i8 : ∀ x ∈ s.2, 0 ≤ x ∧ x < (n : Int) + 1 := fun x hx => by have := i7 x hx; omega
    unfold pBk
    by_cases h1 : s.1 (292 + 5 * (n : Int) + 2) = s.1 0
    · rw [if_pos h1]
      by_cases h2 : pCan s.1 (s.1 (292 + 5 * (n : Int))) (s.1 (292 + 5 * (n : Int) + 1)) (s.1 (292 + 5 * (n : Int) + 3)) (s.1 (292 + 5 * (n : Int) + 4)) = true
      · rw [if_pos h2]
        have ok := pCan_ok h2
        exact ⟨pLends_WF i1 ok, pTX_trans i2 (pLends_TX i1 ok), (pLends_hi i1 ok (by omega)).trans i3, (pLends_hi i1 ok (by omega)).trans i4, (pLends_hi i1 ok (by omega)).trans i5, Nat.le_succ_of_le i6, i8⟩
      · rw [if_neg h2]
        refine ⟨i1, i2, i3, i4, i5, ?_, ?_⟩
        · rw [List.length_append]
          simp
          omega
        · intro x hx
          rcases List.mem_append.mp hx with q | q
          · exact i8 x q
          · rw [List.mem_singleton.mp q]; omega
    · rw [if_neg h1]
      exact ⟨i1, i2, i3, i4, i5, by omega, i8⟩
theorem m70p (d : Nat) (h to n price : Int) (M : am_M) (hw : WF (M 187)) (h0 : 0 ≤ M 187 0 ∧ M 187 0 ≤ 20000) (hc : pLok (M 187) h to n price) : am_run (d + 3) 70 [.inr 186, .inl h, .inl to, .inl n, .inl price] M = some (M 187 0 + n, p_st M 187 (pLends (M 187) h to n price)) := by
  obtain ⟨⟨c1, c2⟩, c3, c4, c5, c6, c7⟩ := hc
  obtain ⟨⟨n1, n2, n3⟩, hp, hh, hl, hz⟩ := hw
  have a1 := hh.1 h c1.1 (by omega)
  exact m70 d h to n price M (by omega) n2 (by omega) (by omega) (by omega) c6 c3.1 c3.2 h0 (hp to c2.1 (by omega)).1 (hp _ (by omega) (by omega)).1 (by omega)
theorem m80_4 (d : Nat) (M : am_M) (u0 w0 : Int → Int) (hw0 : WF w0) (hL : pLaw w0 0) (h0 : 0 ≤ w0 0 ∧ w0 0 ≤ 20000) (hb : 0 ≤ w0 286 ∧ w0 286 ≤ 16) : ∀ (k : Nat) (i : Int) (o3 : Option am_V) (pile f : Int → Int), i = w0 286 - k → 0 ≤ i → ∃ pile' f', am_L (d + 6) 80 4 [some (.inr 186), some (.inl ((pBks w0 i).2.length : Int)), some (.inl i), o3] [] (pS M (pFa u0 (pBks w0 i).2 (w0 0)) (pBks w0 i).1 pile f) = some (((pBks w0 (w0 286)).2.length : Int), pS M (pFa u0 (pBks w0 (w0 286)).2 (w0 0)) (pBks w0 (w0 286)).1 pile' f') := by
  intro k
  induction k with
  | zero =>
    intro i o3 pile f hi hi0
    obtain rfl : i = w0 286 := by omega
    obtain ⟨a1, a2, a3, a4, a5, a6, a7⟩ := pBks_all hw0 (w0 286).toNat
    rw [show ((w0 286).toNat : Int) = w0 286 from by omega] at a1 a2 a3 a4 a5 a6 a7
    refine ⟨pile, f, ?_⟩
    have : (pBks w0 (w0 286)).1 286 = w0 286 := a2 _ (by omega)
    rw [e80_4, p_c (by omega), pS_187, this, if_neg (by omega)]
  | succ k ih =>
    intro i o3 pile f hi hi0
    obtain ⟨a1, a2, a3, a4, a5, a6, a7⟩ := pBks_all hw0 i.toNat
    have e := pBks_next w0 hi0
    rw [show (i.toNat : Int) = i from by omega] at a1 a2 a3 a4 a5 a6 a7
    have next := ih (i + 1)
    rw [e] at next
    generalize pBks w0 i = s at *
    have b0 : s.1 286 = w0 286 := a2 _ (by omega)
    have n1 := a1.1.1
    have n2 := a1.1.2.1
    have a6' : (s.2.length : Int) ≤ i := by omega
    rw [e80_4, p_c (by omega), pS_187, b0, if_pos (by omega)]
    simp (disch := omega) only [p_w]
    rw [p_c (by omega), p_c (by omega)]
    unfold pBk at next
    by_cases h1 : s.1 (292 + 5 * i + 2) = s.1 0
    · rw [if_pos h1]
      rw [if_pos h1] at next
      rw [p_c (by omega), p_c (by omega), p_c (by omega), p_c (by omega)]
      obtain ⟨pile2, f2, hm⟩ := m68 d (s.1 (292 + 5 * i)) (s.1 (292 + 5 * i + 1)) (s.1 (292 + 5 * i + 3)) (s.1 (292 + 5 * i + 4)) (pS M (pFa u0 s.2 (w0 0)) s.1 pile f) n1 n2 (by rw [pS_187, a3]; exact h0) (pLaw_TX a2 (by omega) hL)
      rw [pS_187, pS_st195, pS_st196] at hm
      rw [hm, p_b]
      by_cases h2 : pCan s.1 (s.1 (292 + 5 * i)) (s.1 (292 + 5 * i + 1)) (s.1 (292 + 5 * i + 3)) (s.1 (292 + 5 * i + 4)) = true
      · rw [if_pos h2] at next ⊢
        have ok := pCan_ok h2
        rw [if_neg (by decide), pS_187, p_c (by omega), p_c (by omega), p_c (by omega), p_c (by omega), m70p (d + 3) _ _ _ _ _ (by rw [pS_187]; exact a1) (by rw [pS_187, a3]; exact h0) (by rw [pS_187]; exact ok), p_b, pS_187, pS_st187]
        exact next _ pile2 f2 (by omega) (by omega)
      · rw [if_neg h2] at next ⊢
        rw [if_pos rfl, pS_186]
        simp only [List.length_append, List.length_cons, List.length_nil] at next
        rw [show ((s.2.length + (0 + 1) : Nat) : Int) = (s.2.length : Int) + 1 from by omega, pFa_app u0 s.2 i (w0 0) (fun x hx => (a7 x hx).1)] at next
        by_cases h3 : pFa u0 s.2 (w0 0) 27 = -1
        · rw [if_pos h3] at next
          rw [if_pos h3, p_c (by omega), p_upd, p_upd, pS_st186, pS_186, pS_187, a3, pS_st186]
          exact next _ pile2 f2 (by omega) (by omega)
        · rw [if_neg h3] at next
          rw [if_neg h3]
          exact next _ pile2 f2 (by omega) (by omega)
    · rw [if_neg h1] at next ⊢
      exact next _ pile f (by omega) (by omega)
theorem m80 (d : Nat) (M : am_M) (hw : WF (M 187)) (hL : pLaw (M 187) 0) (h0 : 0 ≤ M 187 0 ∧ M 187 0 ≤ 20000) (hb : 0 ≤ M 187 286 ∧ M 187 286 ≤ 16) : ∃ pile f, am_run (d + 7) 80 [.inr 186] M = some (((pBks (M 187) (M 187 286)).2.length : Int), pS M (pFa (M 186) (pBks (M 187) (M 187 286)).2 (M 187 0)) (pBks (M 187) (M 187 286)).1 pile f) := by
  obtain ⟨pile, f, h⟩ := m80_4 d M (M 186) (M 187) hw hL h0 hb (M 187 286).toNat 0 none (M 195) (M 196) (by omega) (by omega)
  refine ⟨pile, f, ?_⟩
  rw [e80]
  have e : pS M (pFa (M 186) (pBks (M 187) 0).2 (M 187 0)) (pBks (M 187) 0).1 (M 195) (M 196) = M := pS_id M
  rw [e] at h
  exact h
/-- works -/
def pWO1 (t p s : Int) (w : Int → Int) : Int → Int := if pOn w p s = -1 then w else pWorks w p (pOn w p s) t
def pWO (t p : Int) (w : Int → Int) : Int → Int := pWO1 t p 1 (pWO1 t p 0 w)
def pWA1 (t p : Int) (w : Int → Int) : Int → Int := if pp w p 1 = -1 then w else pWO t p w
def pWA (t : Int) (w : Int → Int) (n : Int) : Int → Int := pF (pWA1 t) n.toNat w
theorem pWA_next (t : Int) (w : Int → Int) {i : Int} (h : 0 ≤ i) : pWA t w (i + 1) = pWA1 t i (pWA t w i) := (pF_next (pWA1 t) w h).symm
/-- what a work keeps: the wrists, the tasks, the texts -/
def pWK (w w' : Int → Int) : Prop := WF w' ∧ pTX w w' ∧ w' 0 = w 0 ∧ w' 1 = w 1 ∧ w' 2 = w 2 ∧ w' 276 = w 276 ∧ (∀ p, 0 ≤ p → p < 8 → pp w' p 1 = pp w p 1) ∧ ∀ h, 0 ≤ h → h < 16 → ph w' h 8 = ph w h 8
theorem pWK_refl {w : Int → Int} (hw : WF w) : pWK w w := ⟨hw, pTX_refl w, rfl, rfl, rfl, rfl, fun _ _ _ => rfl, fun _ _ _ => rfl⟩
theorem pWK_trans {a b c : Int → Int} (h1 : pWK a b) (h2 : pWK b c) : pWK a c := by
  obtain ⟨-, a2, a3, a4, a5, a6, a7, a8⟩ := h1
  obtain ⟨b1, b2, b3, b4, b5, b6, b7, b8⟩ := h2
  exact ⟨b1, pTX_trans a2 b2, b3.trans a3, b4.trans a4, b5.trans a5, b6.trans a6, fun p h h' => (b7 p h h').trans (a7 p h h'), fun p h h' => (b8 p h h').trans (a8 p h h')⟩
theorem pWO1_K {w : Int → Int} {t p s : Int} (hw : WF w) (hp : 0 ≤ p ∧ p < w 276) (hs : 0 ≤ s ∧ s ≤ 1) (ht : pp w p 1 ≠ -1) : pWK w (pWO1 t p s w) := by
  unfold pWO1
  have n2 := hw.1.2.1
  by_cases h : pOn w p s = -1
  · rw [if_pos h]; exact pWK_refl hw
  · rw [if_neg h]
    have hr := pOn_range (w := w) (p := p) hs n2.1
    have hk := (hw.2.1 p hp.1 (by omega)).2
    have off : ∀ k, k ≠ 3 → k ≠ 4 + 4 * p + 0 → (k < 36 + 10 * pOn w p s ∨ 36 + 10 * pOn w p s + 5 < k) → pWorks w p (pOn w p s) t k = w k := fun k => pWorks_off hk ht
    exact ⟨pWorks_WF hw (by omega) hp ht, fun k hk => off k (by omega) (by omega) (by omega), off 0 (by omega) (by omega) (by omega), off 1 (by omega) (by omega) (by omega), off 2 (by omega) (by omega) (by omega), off 276 (by omega) (by omega) (by omega), fun q h0 h1 => off _ (by omega) (by omega) (by omega), fun g h0 h1 => off _ (by omega) (by omega) (by omega)⟩
theorem pWO_K {w : Int → Int} {t p : Int} (hw : WF w) (hp : 0 ≤ p ∧ p < w 276) (ht : pp w p 1 ≠ -1) : pWK w (pWO t p w) := by
  have n2 := hw.1.2.1
  have h1 := pWO1_K (t := t) (s := 0) hw hp (by omega) ht
  have h2 := pWO1_K (t := t) (p := p) (s := 1) h1.1 (by rw [h1.2.2.2.2.2.1]; exact hp) (by omega) (by rw [h1.2.2.2.2.2.2.1 p hp.1 (by omega)]; exact ht)
  exact pWK_trans h1 h2
theorem pWA_K {w : Int → Int} (t : Int) (hw : WF w) : ∀ n : Nat, (n : Int) ≤ w 276 → pWK w (pWA t w n) := by
  intro n
  induction n with
  | zero => intro _; exact pWK_refl hw
  | succ n ih =>
    intro hn
    have h1 := ih (by omega)
    rw [show ((n + 1 : Nat) : Int) = (n : Int) + 1 from by omega, pWA_next t w (by omega)]
    unfold pWA1
    by_cases h : pp (pWA t w n) n 1 = -1
    · rw [if_pos h]; exact h1
    · rw [if_neg h]
      exact pWK_trans h1 (pWO_K h1.1 (by rw [h1.2.2.2.2.2.1]; omega) h)
theorem m84 (d : Nat) (p t : Int) (M : am_M) (hw : WF (M 187)) (hL : pLaw (M 187) 1) (hp : 0 ≤ p ∧ p < M 187 276) (ht : pp (M 187) p 1 ≠ -1) : ∃ pile f, am_run (d + 7) 84 [.inr 186, .inl p, .inl t] M = some (0, pS M (M 186) (pWO t p (M 187)) pile f) := by
  have n2 := hw.1.2.1
  have one : ∀ (s : Int) (o4 : Option am_V) (w pile f : Int → Int), 0 ≤ s ∧ s ≤ 1 → WF w → pLaw w 1 → 0 ≤ p ∧ p < w 276 → pp w p 1 ≠ -1 → ∃ pile2 f2 o, am_L (d + 6) 84 2 [some (.inr 186), some (.inl p), some (.inl t), some (.inl s), o4] [] (pS M (M 186) w pile f) = am_L (d + 6) 84 2 [some (.inr 186), some (.inl p), some (.inl t), some (.inl (s + 1)), o] [] (pS M (M 186) (pWO1 t p s w) pile2 f2) := by
    intro s o4 w pile f hs hw hL hp ht
    have n2 := hw.1.2.1
    have hr := pOn_range (w := w) (p := p) hs n2.1
    rw [e84_2, if_pos (by omega), m12 _ _ _ _ (by rw [pS_187]; exact n2) hs, p_b, pS_187, p_w (by omega) (by omega)]
    unfold pWO1
    by_cases h : pOn w p s = -1
    · rw [if_pos h, if_pos h]
      exact ⟨_, _, _, rfl⟩
    · rw [if_neg h, if_neg h]
      obtain ⟨pile2, f2, h2⟩ := m82 d p (pOn w p s) t (pS M (M 186) w pile f) (by rw [pS_187]; exact hw) (by rw [pS_187]; exact hL) (by omega) (by omega) (by rw [pS_187]; exact ht)
      rw [h2, p_b, pS_pS, pS_186, pS_187]
      exact ⟨_, _, _, rfl⟩
  have k1 := pWO1_K (t := t) (s := 0) hw hp (by omega) ht
  obtain ⟨p1, f1, o1, h1⟩ := one 0 none (M 187) (M 195) (M 196) (by omega) hw hL hp ht
  obtain ⟨p2, f2, o2, h2⟩ := one 1 o1 (pWO1 t p 0 (M 187)) p1 f1 (by omega) k1.1 (pLaw_TX k1.2.1 (by omega) hL) (by rw [k1.2.2.2.2.2.1]; exact hp) (by rw [k1.2.2.2.2.2.2.1 p hp.1 (by omega)]; exact ht)
  refine ⟨p2, f2, ?_⟩
  rw [pS_id] at h1
  rw [show (0 : Int) + 1 = 1 from rfl] at h1
  rw [e84, h1, h2, e84_2, if_neg (by decide)]
  rfl
/-- an hour: the bookings that failed, and the cells -/
def pHr2 (t : Int) (w : Int → Int) : Int → Int := pMarks (pWA t w (w 276))
def pHr3 (w : Int → Int) : Int → Int := pEA (w 1).toNat (p_up w 0 (w 0 + 1))
def pHr (t : Int) (w : Int → Int) : Int → Int := pHr3 (pHr2 t (pBks w (w 286)).1)
def pHrL (w : Int → Int) : List Int := (pBks w (w 286)).2
theorem WF_hour {w : Int → Int} (hw : WF w) (v : Int) : WF (p_up w 0 v) := by
  have n2 := hw.1.2.1
  have off : ∀ k, k ≠ 0 → p_up w 0 v k = w k := fun k hk => p_off (by omega)
  refine WF_same hw ⟨off 1 (by omega), off 2 (by omega), off 276 (by omega)⟩ ?_ ?_ ?_ ?_ ?_
  · intro q h0 h1
    unfold pp
    rw [off _ (by omega), off _ (by omega)]
    exact hw.2.1 q h0 h1
  · refine WFh_same hw.2.2.1 (off 276 (by omega)) ?_ ?_
    · intro g h0 h1
      exact off _ (by omega)
    · intro g h0 h1
      unfold ph
      rw [off _ (by omega)]
      exact hw.2.2.1.2.1 g h0 h1
  · intro i f h0 h1 h2 h3
    exact off _ (by omega)
  · intro q h0 h1
    exact ⟨fun f k1 k2 => off _ (by omega), off _ (by omega)⟩
  · intro g h0 h1 f k1 k2
    exact off _ (by omega)
/-- what an hour keeps -/
def pHK (w w' : Int → Int) : Prop := WF w' ∧ pTX w w' ∧ w' 276 = w 276 ∧ w' 2 = w 2
theorem pHr_K {w : Int → Int} (t : Int) (hw : WF w) (hb : 0 ≤ w 286) : pHK w (pHr t w) ∧ pHr t w 0 = w 0 + 1 := by
  have n2 := hw.1.2.1
  obtain ⟨a1, a2, a3, a4, a5, a6, a7⟩ := pBks_all hw (w 286).toNat
  rw [show ((w 286).toNat : Int) = w 286 from by omega] at a1 a2 a3 a4 a5 a6 a7
  unfold pHr
  generalize (pBks w (w 286)).1 = w1 at *
  have k := pWA_K t a1 (w1 276).toNat (by omega)
  rw [show ((w1 276).toNat : Int) = w1 276 from by omega] at k
  unfold pHr2
  generalize pWA t w1 (w1 276) = w2 at *
  obtain ⟨b1, b2, b3, b4, b5, b6, b7, b8⟩ := k
  have m := pMarks_WF b1
  have moff : ∀ k, (k < 42 ∨ 196 ≤ k) → pMarks w2 k = w2 k := fun k hk => pMk_off (by omega)
  have h1 := WF_hour m (pMarks w2 0 + 1)
  have n1 := m.1.1
  have off1 : p_up (pMarks w2) 0 (pMarks w2 0 + 1) 1 = pMarks w2 1 := p_off (by omega)
  obtain ⟨c1, c2⟩ := pEA_all (pMarks w2 1).toNat _ h1 (by rw [off1]; omega)
  unfold pHr3
  refine ⟨⟨c1, fun k hk => ?_, ?_, ?_⟩, ?_⟩
  · rw [c2 k (by omega) (by omega), p_off (by omega), moff k (by omega), b2 k hk, a2 k hk]
  · rw [c2 _ (by omega) (by omega), p_off (by omega), moff _ (by omega), b6, a4]
  · rw [c2 _ (by omega) (by omega), p_off (by omega), moff _ (by omega), b5, a5]
  · rw [c2 _ (by omega) (by omega), p_up1, moff _ (by omega), b3, a3]
theorem m87_5 (d : Nat) (M : am_M) (u w0 : Int → Int) (t l : Int) (hw : WF w0) (hL : pLaw w0 1) (h0 : 0 ≤ w0 0 ∧ w0 0 ≤ 20000) : ∀ (k : Nat) (i : Int) (pile f : Int → Int), i = w0 276 - k → 0 ≤ i → ∃ pile2 f2, am_L (d + 7) 87 5 [some (.inr 186), some (.inl t), some (.inl l), some (.inl i)] [] (pS M u (pWA t w0 i) pile f) = some (l, pS M u (pHr3 (pHr2 t w0)) pile2 f2) := by
  intro k
  have n2 := hw.1.2.1
  induction k with
  | zero =>
    intro i pile f hi hi0
    obtain rfl : i = w0 276 := by omega
    have kk := pWA_K t hw (w0 276).toNat (by omega)
    rw [show ((w0 276).toNat : Int) = w0 276 from by omega] at kk
    obtain ⟨b1, b2, b3, b4, b5, b6, b7, b8⟩ := kk
    have e0 : pMarks (pWA t w0 (w0 276)) 0 = w0 0 := by rw [← b3]; exact pMk_off (by omega)
    refine ⟨pile, f, ?_⟩
    rw [e87_5, p_c (by omega), pS_187, if_neg (by omega), m85 _ _ (by rw [pS_187]; omega), p_b, pS_187, pS_st187, p_c (by omega), p_c (by omega), p_upd, pS_187, pS_st187, m86 _ _ (by rw [pS_187]; exact WF_hour (pMarks_WF b1) _), p_b, pS_187, pS_st187, e0, p_w (by omega) (by omega)]
    unfold pHr2 pHr3
    rw [e0, p_off (by omega)]
  | succ k ih =>
    intro i pile f hi hi0
    have kk := pWA_K t hw i.toNat (by omega)
    rw [show (i.toNat : Int) = i from by omega] at kk
    have e := pWA_next t w0 hi0
    have next := ih (i + 1)
    rw [e] at next
    generalize pWA t w0 i = w at *
    obtain ⟨b1, b2, b3, b4, b5, b6, b7, b8⟩ := kk
    rw [e87_5, p_c (by omega), pS_187, if_pos (by omega), m3 _ _ _ _ (by omega) (by omega), p_b, pS_187, p_w (by omega) (by omega)]
    unfold pWA1 at next
    by_cases h : pp w i 1 = -1
    · rw [if_pos h] at next ⊢
      exact next _ _ (by omega) (by omega)
    · rw [if_neg h] at next ⊢
      obtain ⟨pile2, f2, h2⟩ := m84 d i t (pS M u w pile f) b1 (pLaw_TX b2 (by omega) hL) (by rw [pS_187]; omega) h
      rw [h2, p_b, pS_pS, pS_186, pS_187]
      exact next _ _ (by omega) (by omega)
theorem m87 (d : Nat) (t : Int) (M : am_M) (hw : WF (M 187)) (hL : pLaw (M 187) 0 ∧ pLaw (M 187) 1) (h0 : 0 ≤ M 187 0 ∧ M 187 0 ≤ 20000) (hb : 0 ≤ M 187 286 ∧ M 187 286 ≤ 16) : ∃ pile f, am_run (d + 8) 87 [.inr 186, .inl t] M = some (((pHrL (M 187)).length : Int), pS M (pFa (M 186) (pHrL (M 187)) (M 187 0)) (pHr t (M 187)) pile f) := by
  have n2 := hw.1.2.1
  obtain ⟨pile, f, h⟩ := m80 d M hw hL.1 h0 hb
  obtain ⟨a1, a2, a3, a4, a5, a6, a7⟩ := pBks_all hw (M 187 286).toNat
  rw [show ((M 187 286).toNat : Int) = M 187 286 from by omega] at a1 a2 a3 a4 a5 a6 a7
  obtain ⟨pile2, f2, h2⟩ := m87_5 d M (pFa (M 186) (pHrL (M 187)) (M 187 0)) (pBks (M 187) (M 187 286)).1 t ((pHrL (M 187)).length : Int) a1 (pLaw_TX a2 (by omega) hL.2) (by omega) ((pBks (M 187) (M 187 286)).1 276).toNat 0 pile f (by have := a1.1.2.1; omega) (by omega)
  refine ⟨pile2, f2, ?_⟩
  rw [e87, h, p_b]
  exact h2
end
section
/-! PURE: the class's worlds -/
def IsW (o : Nat) : Prop := o = 1 ∨ o = 14 ∨ o = 53 ∨ o = 108 ∨ o = 121 ∨ o = 134 ∨ o = 147 ∨ o = 160 ∨ o = 173
theorem w_c {o : Nat} (h : IsW o) : am_cls o = 5 := by rcases h with rfl | rfl | rfl | rfl | rfl | rfl | rfl | rfl | rfl <;> rfl
theorem w_B5 : Nat.beq 5 5 = true := rfl
theorem w_B9 : Nat.beq 9 9 = true := rfl
theorem w_far {o : Nat} (h : IsW o) : (o + 12 < 105 ∨ 107 < o) ∧ o + 12 < 186 ∧ 0 < o ∧ (o + 12 < 28 ∨ 52 < o) ∧ (o + 12 < 66 ∨ 107 < o) := by rcases h with rfl | rfl | rfl | rfl | rfl | rfl | rfl | rfl | rfl <;> decide
theorem w_apart {o q : Nat} (h : IsW o) (h2 : IsW q) (hne : o ≠ q) : o + 12 < q ∨ q + 12 < o := by
  rcases h with rfl | rfl | rfl | rfl | rfl | rfl | rfl | rfl | rfl <;> rcases h2 with rfl | rfl | rfl | rfl | rfl | rfl | rfl | rfl | rfl <;> first | exact absurd rfl hne | decide
theorem w_r5 {o : Nat} (h : IsW o) : am_rf o 5 = o + 1 := by rcases h with rfl | rfl | rfl | rfl | rfl | rfl | rfl | rfl | rfl <;> rfl
theorem w_k1 {o : Nat} (h : IsW o) : am_cls (o + 1) = 9 := by rcases h with rfl | rfl | rfl | rfl | rfl | rfl | rfl | rfl | rfl <;> rfl
theorem w_l1 {o : Nat} (h : IsW o) (M : am_M) : am_len M (o + 1) = 8 := by rcases h with rfl | rfl | rfl | rfl | rfl | rfl | rfl | rfl | rfl <;> rfl
theorem w_r6 {o : Nat} (h : IsW o) : am_rf o 6 = o + 2 := by rcases h with rfl | rfl | rfl | rfl | rfl | rfl | rfl | rfl | rfl <;> rfl
theorem w_k2 {o : Nat} (h : IsW o) : am_cls (o + 2) = 9 := by rcases h with rfl | rfl | rfl | rfl | rfl | rfl | rfl | rfl | rfl <;> rfl
theorem w_l2 {o : Nat} (h : IsW o) (M : am_M) : am_len M (o + 2) = 8 := by rcases h with rfl | rfl | rfl | rfl | rfl | rfl | rfl | rfl | rfl <;> rfl
theorem w_r7 {o : Nat} (h : IsW o) : am_rf o 7 = o + 3 := by rcases h with rfl | rfl | rfl | rfl | rfl | rfl | rfl | rfl | rfl <;> rfl
theorem w_k3 {o : Nat} (h : IsW o) : am_cls (o + 3) = 9 := by rcases h with rfl | rfl | rfl | rfl | rfl | rfl | rfl | rfl | rfl <;> rfl
theorem w_l3 {o : Nat} (h : IsW o) (M : am_M) : am_len M (o + 3) = 8 := by rcases h with rfl | rfl | rfl | rfl | rfl | rfl | rfl | rfl | rfl <;> rfl
theorem w_r8 {o : Nat} (h : IsW o) : am_rf o 8 = o + 4 := by rcases h with rfl | rfl | rfl | rfl | rfl | rfl | rfl | rfl | rfl <;> rfl
theorem w_k4 {o : Nat} (h : IsW o) : am_cls (o + 4) = 9 := by rcases h with rfl | rfl | rfl | rfl | rfl | rfl | rfl | rfl | rfl <;> rfl
theorem w_l4 {o : Nat} (h : IsW o) (M : am_M) : am_len M (o + 4) = 8 := by rcases h with rfl | rfl | rfl | rfl | rfl | rfl | rfl | rfl | rfl <;> rfl
theorem w_r9 {o : Nat} (h : IsW o) : am_rf o 9 = o + 5 := by rcases h with rfl | rfl | rfl | rfl | rfl | rfl | rfl | rfl | rfl <;> rfl
theorem w_k5 {o : Nat} (h : IsW o) : am_cls (o + 5) = 9 := by rcases h with rfl | rfl | rfl | rfl | rfl | rfl | rfl | rfl | rfl <;> rfl
theorem w_l5 {o : Nat} (h : IsW o) (M : am_M) : am_len M (o + 5) = 16 := by rcases h with rfl | rfl | rfl | rfl | rfl | rfl | rfl | rfl | rfl <;> rfl
theorem w_r10 {o : Nat} (h : IsW o) : am_rf o 10 = o + 6 := by rcases h with rfl | rfl | rfl | rfl | rfl | rfl | rfl | rfl | rfl <;> rfl
theorem w_k6 {o : Nat} (h : IsW o) : am_cls (o + 6) = 9 := by rcases h with rfl | rfl | rfl | rfl | rfl | rfl | rfl | rfl | rfl <;> rfl
theorem w_l6 {o : Nat} (h : IsW o) (M : am_M) : am_len M (o + 6) = 16 := by rcases h with rfl | rfl | rfl | rfl | rfl | rfl | rfl | rfl | rfl <;> rfl
theorem w_r11 {o : Nat} (h : IsW o) : am_rf o 11 = o + 7 := by rcases h with rfl | rfl | rfl | rfl | rfl | rfl | rfl | rfl | rfl <;> rfl
theorem w_k7 {o : Nat} (h : IsW o) : am_cls (o + 7) = 9 := by rcases h with rfl | rfl | rfl | rfl | rfl | rfl | rfl | rfl | rfl <;> rfl
theorem w_l7 {o : Nat} (h : IsW o) (M : am_M) : am_len M (o + 7) = 64 := by rcases h with rfl | rfl | rfl | rfl | rfl | rfl | rfl | rfl | rfl <;> rfl
theorem w_r12 {o : Nat} (h : IsW o) : am_rf o 12 = o + 8 := by rcases h with rfl | rfl | rfl | rfl | rfl | rfl | rfl | rfl | rfl <;> rfl
theorem w_k8 {o : Nat} (h : IsW o) : am_cls (o + 8) = 9 := by rcases h with rfl | rfl | rfl | rfl | rfl | rfl | rfl | rfl | rfl <;> rfl
theorem w_l8 {o : Nat} (h : IsW o) (M : am_M) : am_len M (o + 8) = 16 := by rcases h with rfl | rfl | rfl | rfl | rfl | rfl | rfl | rfl | rfl <;> rfl
theorem w_r13 {o : Nat} (h : IsW o) : am_rf o 13 = o + 9 := by rcases h with rfl | rfl | rfl | rfl | rfl | rfl | rfl | rfl | rfl <;> rfl
theorem w_k9 {o : Nat} (h : IsW o) : am_cls (o + 9) = 9 := by rcases h with rfl | rfl | rfl | rfl | rfl | rfl | rfl | rfl | rfl <;> rfl
theorem w_l9 {o : Nat} (h : IsW o) (M : am_M) : am_len M (o + 9) = 16 := by rcases h with rfl | rfl | rfl | rfl | rfl | rfl | rfl | rfl | rfl <;> rfl
theorem w_r14 {o : Nat} (h : IsW o) : am_rf o 14 = o + 10 := by rcases h with rfl | rfl | rfl | rfl | rfl | rfl | rfl | rfl | rfl <;> rfl
theorem w_k10 {o : Nat} (h : IsW o) : am_cls (o + 10) = 9 := by rcases h with rfl | rfl | rfl | rfl | rfl | rfl | rfl | rfl | rfl <;> rfl
theorem w_l10 {o : Nat} (h : IsW o) (M : am_M) : am_len M (o + 10) = 16 := by rcases h with rfl | rfl | rfl | rfl | rfl | rfl | rfl | rfl | rfl <;> rfl
theorem w_r15 {o : Nat} (h : IsW o) : am_rf o 15 = o + 11 := by rcases h with rfl | rfl | rfl | rfl | rfl | rfl | rfl | rfl | rfl <;> rfl
theorem w_k11 {o : Nat} (h : IsW o) : am_cls (o + 11) = 9 := by rcases h with rfl | rfl | rfl | rfl | rfl | rfl | rfl | rfl | rfl <;> rfl
theorem w_l11 {o : Nat} (h : IsW o) (M : am_M) : am_len M (o + 11) = 16 := by rcases h with rfl | rfl | rfl | rfl | rfl | rfl | rfl | rfl | rfl <;> rfl
theorem w_r16 {o : Nat} (h : IsW o) : am_rf o 16 = o + 12 := by rcases h with rfl | rfl | rfl | rfl | rfl | rfl | rfl | rfl | rfl <;> rfl
theorem w_k12 {o : Nat} (h : IsW o) : am_cls (o + 12) = 9 := by rcases h with rfl | rfl | rfl | rfl | rfl | rfl | rfl | rfl | rfl <;> rfl
theorem w_l12 {o : Nat} (h : IsW o) (M : am_M) : am_len M (o + 12) = 80 := by rcases h with rfl | rfl | rfl | rfl | rfl | rfl | rfl | rfl | rfl <;> rfl
def WR (M : am_M) (o : Nat) (w : Int → Int) : Prop :=
  (M o 0 = w 3 ∧ M o 1 = w 0 ∧ M o 2 = w 276 ∧ M o 3 = w 1 ∧ M o 4 = w 2) ∧
  (∀ p, 0 ≤ p → p < 8 → M (o + 1) p = pp w p 0 ∧ M (o + 2) p = w (277 + p) ∧ M (o + 3) p = pp w p 1 ∧ M (o + 4) p = pp w p 2) ∧
  (∀ p s, 0 ≤ p → p < w 276 → 0 ≤ s → s ≤ 1 → M (o + 5) (2 * p + s) = pOn w p s) ∧
  (∀ h, 0 ≤ h → h < 16 → M (o + 6) h = ph w h 8 ∧ M (o + 8) h = ph w h 4 ∧ M (o + 9) h = ph w h 5 ∧ M (o + 10) h = ph w h 6 ∧ M (o + 11) h = ph w h 7) ∧
  (∀ h k, 0 ≤ h → h < 16 → 0 ≤ k → k < 4 → M (o + 7) (h * 4 + k) = ph w h k) ∧
  (∀ k, 0 ≤ k → k < 80 → M (o + 12) k = w (196 + k))
theorem R_dr {M : am_M} {o : Nat} {w : Int → Int} (h : WR M o w) : M o 0 = w 3 := h.1.1
theorem R_hr {M : am_M} {o : Nat} {w : Int → Int} (h : WR M o w) : M o 1 = w 0 := h.1.2.1
theorem R_n {M : am_M} {o : Nat} {w : Int → Int} (h : WR M o w) : M o 2 = w 276 := h.1.2.2.1
theorem R_ln {M : am_M} {o : Nat} {w : Int → Int} (h : WR M o w) : M o 3 = w 1 := h.1.2.2.2.1
theorem R_bk {M : am_M} {o : Nat} {w : Int → Int} (h : WR M o w) : M o 4 = w 2 := h.1.2.2.2.2
theorem R_coin {M : am_M} {o : Nat} {w : Int → Int} (h : WR M o w) {p : Int} (h0 : 0 ≤ p) (h1 : p < 8) : M (o + 1) p = pp w p 0 := (h.2.1 p h0 h1).1
theorem R_child {M : am_M} {o : Nat} {w : Int → Int} (h : WR M o w) {p : Int} (h0 : 0 ≤ p) (h1 : p < 8) : M (o + 2) p = w (277 + p) := (h.2.1 p h0 h1).2.1
theorem R_task {M : am_M} {o : Nat} {w : Int → Int} (h : WR M o w) {p : Int} (h0 : 0 ≤ p) (h1 : p < 8) : M (o + 3) p = pp w p 1 := (h.2.1 p h0 h1).2.2.1
theorem R_guilt {M : am_M} {o : Nat} {w : Int → Int} (h : WR M o w) {p : Int} (h0 : 0 ≤ p) (h1 : p < 8) : M (o + 4) p = pp w p 2 := (h.2.1 p h0 h1).2.2.2
theorem R_on {M : am_M} {o : Nat} {w : Int → Int} (h : WR M o w) {p s : Int} (h0 : 0 ≤ p) (h1 : p < w 276) (h2 : 0 ≤ s) (h3 : s ≤ 1) : M (o + 5) (2 * p + s) = pOn w p s := h.2.2.1 p s h0 h1 h2 h3
theorem R_at {M : am_M} {o : Nat} {w : Int → Int} (h : WR M o w) {g : Int} (h0 : 0 ≤ g) (h1 : g < 16) : M (o + 6) g = ph w g 8 := (h.2.2.2.1 g h0 h1).1
theorem R_wear {M : am_M} {o : Nat} {w : Int → Int} (h : WR M o w) {g : Int} (h0 : 0 ≤ g) (h1 : g < 16) : M (o + 8) g = ph w g 4 := (h.2.2.2.1 g h0 h1).2.1
theorem R_scars {M : am_M} {o : Nat} {w : Int → Int} (h : WR M o w) {g : Int} (h0 : 0 ≤ g) (h1 : g < 16) : M (o + 9) g = ph w g 5 := (h.2.2.2.1 g h0 h1).2.2.1
theorem R_marks {M : am_M} {o : Nat} {w : Int → Int} (h : WR M o w) {g : Int} (h0 : 0 ≤ g) (h1 : g < 16) : M (o + 10) g = ph w g 6 := (h.2.2.2.1 g h0 h1).2.2.2.1
theorem R_held {M : am_M} {o : Nat} {w : Int → Int} (h : WR M o w) {g : Int} (h0 : 0 ≤ g) (h1 : g < 16) : M (o + 11) g = ph w g 7 := (h.2.2.2.1 g h0 h1).2.2.2.2
theorem R_skill {M : am_M} {o : Nat} {w : Int → Int} (h : WR M o w) {g k : Int} (h0 : 0 ≤ g) (h1 : g < 16) (h2 : 0 ≤ k) (h3 : k < 4) : M (o + 7) (g * 4 + k) = ph w g k := h.2.2.2.2.1 g k h0 h1 h2 h3
theorem R_loan {M : am_M} {o : Nat} {w : Int → Int} (h : WR M o w) {i c : Int} (h0 : 0 ≤ i) (h1 : i < 16) (h2 : 0 ≤ c) (h3 : c < 5) : M (o + 12) (i * 5 + c) = pl w i c := by
  rw [h.2.2.2.2.2 (i * 5 + c) (by omega) (by omega)]
  unfold pl
  congr 1
  omega
/-- what another world's run leaves -/
theorem WR_fr {M M' : am_M} {o : Nat} {w : Int → Int} (h : WR M o w) (hf : ∀ b, o ≤ b → b ≤ o + 12 → M' b = M b) : WR M' o w := by
  obtain ⟨h1, h2, h3, h4, h5, h6⟩ := h
  have e : ∀ j : Nat, j ≤ 12 → M' (o + j) = M (o + j) := fun j hj => hf _ (by omega) (by omega)
  refine ⟨?_, ?_, ?_, ?_, ?_, ?_⟩
  · rw [hf o (by omega) (by omega)]; exact h1
  · intro p k0 k1
    rw [e 1 (by omega), e 2 (by omega), e 3 (by omega), e 4 (by omega)]
    exact h2 p k0 k1
  · intro p s k0 k1 k2 k3
    rw [e 5 (by omega)]
    exact h3 p s k0 k1 k2 k3
  · intro g k0 k1
    rw [e 6 (by omega), e 8 (by omega), e 9 (by omega), e 10 (by omega), e 11 (by omega)]
    exact h4 g k0 k1
  · intro g k k0 k1 k2 k3
    rw [e 7 (by omega)]
    exact h5 g k k0 k1 k2 k3
  · intro k k0 k1
    rw [e 12 (by omega)]
    exact h6 k k0 k1
theorem WR_cg {M : am_M} {o : Nat} {w w' : Int → Int} (hw : w 276 ≤ 8) (h : WR M o w) (he : ∀ k, 0 ≤ k → k < 285 → w' k = w k) : WR M o w' := by
  obtain ⟨h1, h2, h3, h4, h5, h6⟩ := h
  refine ⟨?_, ?_, ?_, ?_, ?_, ?_⟩
  · rw [he _ (by omega) (by omega), he _ (by omega) (by omega), he _ (by omega) (by omega), he _ (by omega) (by omega), he _ (by omega) (by omega)]; exact h1
  · intro p k0 k1
    unfold pp
    rw [he _ (by omega) (by omega), he _ (by omega) (by omega), he _ (by omega) (by omega), he _ (by omega) (by omega)]
    exact h2 p k0 k1
  · intro p s k0 k1 k2 k3
    rw [he _ (by omega) (by omega)] at k1
    rw [h3 p s k0 k1 k2 k3]
    exact (pOn_cg ⟨k2, k3⟩ (he _ (by omega) (by omega)) (fun g q0 q1 => he _ (by omega) (by omega))).symm
  · intro g k0 k1
    unfold ph
    rw [he _ (by omega) (by omega), he _ (by omega) (by omega), he _ (by omega) (by omega), he _ (by omega) (by omega), he _ (by omega) (by omega)]
    exact h4 g k0 k1
  · intro g k k0 k1 k2 k3
    unfold ph
    rw [he _ (by omega) (by omega)]
    exact h5 g k k0 k1 k2 k3
  · intro k k0 k1
    rw [he _ (by omega) (by omega)]
    exact h6 k k0 k1
theorem p_cp1 {M : am_M} {a b c : Nat} {i j n : Int} (h : c ≠ b) : am_cpy M a i b j n c = M c := by
  funext k
  exact if_neg (fun q => h q.1)
theorem p_cp2 {M : am_M} {a b : Nat} {n k : Int} (h0 : 0 ≤ k) (h : k < n) : am_cpy M a 0 b 0 n b k = M a k := by
  unfold am_cpy
  rw [if_pos ⟨rfl, h0, by omega⟩]
  congr 1
  omega
theorem p_ud1 {M : am_M} {a b : Nat} {i v : Int} (h : b ≠ a) : am_upd M a i v b = M b := by
  funext k
  exact if_neg (fun q => h q.1)
theorem p_ud2 (M : am_M) (a : Nat) (i v : Int) : am_upd M a i v a i = v := if_pos ⟨rfl, rfl⟩
theorem p_ud3 {M : am_M} {a : Nat} {i j v : Int} (h : j ≠ i) : am_upd M a i v a j = M a j := if_neg (fun q => h q.2)
/-- a copy of a world -/
theorem c133 (d : Nat) {a b : Nat} (ha : IsW a) (hb : IsW b) (hab : a ≠ b) {M : am_M} {w : Int → Int} (hn : w 276 ≤ 8) (hR : WR M b w) : pOk (am_run (d + 1) 133 [.inr a, .inr b] M) (fun r M' => r = 0 ∧ WR M' a w ∧ ∀ c, c < a ∨ a + 12 < c → M' c = M c) := by
  have hap := w_apart ha hb hab
  rw [e133]
  simp only [w_c ha, w_r5 ha, w_r6 ha, w_r7 ha, w_r8 ha, w_r9 ha, w_r10 ha, w_r11 ha, w_r12 ha, w_r13 ha, w_r14 ha, w_r15 ha, w_r16 ha, w_k1 ha, w_k2 ha, w_k3 ha, w_k4 ha, w_k5 ha, w_k6 ha, w_k7 ha, w_k8 ha, w_k9 ha, w_k10 ha, w_k11 ha, w_k12 ha, w_l1 ha, w_l2 ha, w_l3 ha, w_l4 ha, w_l5 ha, w_l6 ha, w_l7 ha, w_l8 ha, w_l9 ha, w_l10 ha, w_l11 ha, w_l12 ha, w_B5, w_B9, cond_true, Bool.true_or, w_c hb, w_r5 hb, w_r6 hb, w_r7 hb, w_r8 hb, w_r9 hb, w_r10 hb, w_r11 hb, w_r12 hb, w_r13 hb, w_r14 hb, w_r15 hb, w_r16 hb, w_k1 hb, w_k2 hb, w_k3 hb, w_k4 hb, w_k5 hb, w_k6 hb, w_k7 hb, w_k8 hb, w_k9 hb, w_k10 hb, w_k11 hb, w_k12 hb, w_l1 hb, w_l2 hb, w_l3 hb, w_l4 hb, w_l5 hb, w_l6 hb, w_l7 hb, w_l8 hb, w_l9 hb, w_l10 hb, w_l11 hb, w_l12 hb, w_B5, w_B9, cond_true, Bool.true_or, Bool.and_self]
  repeat refine pOk_c (by omega) ?_
  refine pOk_s ⟨rfl, ?_, ?_⟩
  · obtain ⟨h1, h2, h3, h4, h5, h6⟩ := hR
    refine ⟨?_, ?_, ?_, ?_, ?_, ?_⟩
    · simp (disch := omega) only [p_cp1, p_ud1, p_ud2, p_ud3]
      exact h1
    · intro p k0 k1
      simp (disch := omega) only [p_cp1, p_cp2, p_ud1]
      exact h2 p k0 k1
    · intro p s k0 k1 k2 k3
      simp (disch := omega) only [p_cp1, p_cp2, p_ud1]
      exact h3 p s k0 k1 k2 k3
    · intro g k0 k1
      simp (disch := omega) only [p_cp1, p_cp2, p_ud1]
      exact h4 g k0 k1
    · intro g k k0 k1 k2 k3
      simp (disch := omega) only [p_cp1, p_cp2, p_ud1]
      exact h5 g k k0 k1 k2 k3
    · intro k k0 k1
      simp (disch := omega) only [p_cp1, p_cp2, p_ud1]
      exact h6 k k0 k1
  · intro c hc
    simp (disch := omega) only [p_cp1, p_ud1]
end
section
/-! PURE: one cell of a world is put -/
theorem U_coin {M : am_M} {o : Nat} {w : Int → Int} (hR : WR M o w) (hn : w 276 ≤ 8) {p v : Int} (hp : 0 ≤ p ∧ p < 8) : WR (p_st M (o + 1) (p_up (M (o + 1)) p v)) o (p_up w (4 + 4 * p + 0) v) := by
  obtain ⟨h1, h2, h3, h4, h5, h6⟩ := hR
  refine ⟨?_, ?_, ?_, ?_, ?_, ?_⟩
  · simp (disch := omega) only [p_st1, p_st2, p_up1, p_up2]
    exact h1
  · intro q k0 k1
    have z := h2 q k0 k1
    unfold pp at z ⊢
    by_cases e : q = p
    · subst e
      refine ⟨?_, ?_, ?_, ?_⟩ <;> simp (disch := omega) only [p_st1, p_st2, p_up1, p_up2] <;> first | exact z.1 | exact z.2.1 | exact z.2.2.1 | exact z.2.2.2
    · simp (disch := omega) only [p_st1, p_st2, p_up1, p_up2]
      exact z
  · intro q s k0 k1 k2 k3
    rw [p_off (by omega)] at k1
    rw [pOn_off ⟨k2, k3⟩ (by omega) (by omega) hn]
    simp (disch := omega) only [p_st1, p_st2, p_up1, p_up2]
    exact h3 q s k0 k1 k2 k3
  · intro g k0 k1
    have z := h4 g k0 k1
    unfold ph at z ⊢
    simp (disch := omega) only [p_st1, p_st2, p_up1, p_up2]
    exact z
  · intro g f k0 k1 k2 k3
    have z := h5 g f k0 k1 k2 k3
    unfold ph at z ⊢
    simp (disch := omega) only [p_st1, p_st2, p_up1, p_up2]
    exact z
  · intro k' k0 k1
    have z := h6 k' k0 k1
    simp (disch := omega) only [p_st1, p_st2, p_up1, p_up2]
    exact z
theorem U_task {M : am_M} {o : Nat} {w : Int → Int} (hR : WR M o w) (hn : w 276 ≤ 8) {p v : Int} (hp : 0 ≤ p ∧ p < 8) : WR (p_st M (o + 3) (p_up (M (o + 3)) p v)) o (p_up w (4 + 4 * p + 1) v) := by
  obtain ⟨h1, h2, h3, h4, h5, h6⟩ := hR
  refine ⟨?_, ?_, ?_, ?_, ?_, ?_⟩
  · simp (disch := omega) only [p_st1, p_st2, p_up1, p_up2]
    exact h1
  · intro q k0 k1
    have z := h2 q k0 k1
    unfold pp at z ⊢
    by_cases e : q = p
    · subst e
      refine ⟨?_, ?_, ?_, ?_⟩ <;> simp (disch := omega) only [p_st1, p_st2, p_up1, p_up2] <;> first | exact z.1 | exact z.2.1 | exact z.2.2.1 | exact z.2.2.2
    · simp (disch := omega) only [p_st1, p_st2, p_up1, p_up2]
      exact z
  · intro q s k0 k1 k2 k3
    rw [p_off (by omega)] at k1
    rw [pOn_off ⟨k2, k3⟩ (by omega) (by omega) hn]
    simp (disch := omega) only [p_st1, p_st2, p_up1, p_up2]
    exact h3 q s k0 k1 k2 k3
  · intro g k0 k1
    have z := h4 g k0 k1
    unfold ph at z ⊢
    simp (disch := omega) only [p_st1, p_st2, p_up1, p_up2]
    exact z
  · intro g f k0 k1 k2 k3
    have z := h5 g f k0 k1 k2 k3
    unfold ph at z ⊢
    simp (disch := omega) only [p_st1, p_st2, p_up1, p_up2]
    exact z
  · intro k' k0 k1
    have z := h6 k' k0 k1
    simp (disch := omega) only [p_st1, p_st2, p_up1, p_up2]
    exact z
theorem U_guilt {M : am_M} {o : Nat} {w : Int → Int} (hR : WR M o w) (hn : w 276 ≤ 8) {p v : Int} (hp : 0 ≤ p ∧ p < 8) : WR (p_st M (o + 4) (p_up (M (o + 4)) p v)) o (p_up w (4 + 4 * p + 2) v) := by
  obtain ⟨h1, h2, h3, h4, h5, h6⟩ := hR
  refine ⟨?_, ?_, ?_, ?_, ?_, ?_⟩
  · simp (disch := omega) only [p_st1, p_st2, p_up1, p_up2]
    exact h1
  · intro q k0 k1
    have z := h2 q k0 k1
    unfold pp at z ⊢
    by_cases e : q = p
    · subst e
      refine ⟨?_, ?_, ?_, ?_⟩ <;> simp (disch := omega) only [p_st1, p_st2, p_up1, p_up2] <;> first | exact z.1 | exact z.2.1 | exact z.2.2.1 | exact z.2.2.2
    · simp (disch := omega) only [p_st1, p_st2, p_up1, p_up2]
      exact z
  · intro q s k0 k1 k2 k3
    rw [p_off (by omega)] at k1
    rw [pOn_off ⟨k2, k3⟩ (by omega) (by omega) hn]
    simp (disch := omega) only [p_st1, p_st2, p_up1, p_up2]
    exact h3 q s k0 k1 k2 k3
  · intro g k0 k1
    have z := h4 g k0 k1
    unfold ph at z ⊢
    simp (disch := omega) only [p_st1, p_st2, p_up1, p_up2]
    exact z
  · intro g f k0 k1 k2 k3
    have z := h5 g f k0 k1 k2 k3
    unfold ph at z ⊢
    simp (disch := omega) only [p_st1, p_st2, p_up1, p_up2]
    exact z
  · intro k' k0 k1
    have z := h6 k' k0 k1
    simp (disch := omega) only [p_st1, p_st2, p_up1, p_up2]
    exact z
theorem U_child {M : am_M} {o : Nat} {w : Int → Int} (hR : WR M o w) (hn : w 276 ≤ 8) {p v : Int} (hp : 0 ≤ p ∧ p < 8) : WR (p_st M (o + 2) (p_up (M (o + 2)) p v)) o (p_up w (277 + p) v) := by
  obtain ⟨h1, h2, h3, h4, h5, h6⟩ := hR
  refine ⟨?_, ?_, ?_, ?_, ?_, ?_⟩
  · simp (disch := omega) only [p_st1, p_st2, p_up1, p_up2]
    exact h1
  · intro q k0 k1
    have z := h2 q k0 k1
    unfold pp at z ⊢
    by_cases e : q = p
    · subst e
      refine ⟨?_, ?_, ?_, ?_⟩ <;> simp (disch := omega) only [p_st1, p_st2, p_up1, p_up2] <;> first | exact z.1 | exact z.2.1 | exact z.2.2.1 | exact z.2.2.2
    · simp (disch := omega) only [p_st1, p_st2, p_up1, p_up2]
      exact z
  · intro q s k0 k1 k2 k3
    rw [p_off (by omega)] at k1
    rw [pOn_off ⟨k2, k3⟩ (by omega) (by omega) hn]
    simp (disch := omega) only [p_st1, p_st2, p_up1, p_up2]
    exact h3 q s k0 k1 k2 k3
  · intro g k0 k1
    have z := h4 g k0 k1
    unfold ph at z ⊢
    simp (disch := omega) only [p_st1, p_st2, p_up1, p_up2]
    exact z
  · intro g f k0 k1 k2 k3
    have z := h5 g f k0 k1 k2 k3
    unfold ph at z ⊢
    simp (disch := omega) only [p_st1, p_st2, p_up1, p_up2]
    exact z
  · intro k' k0 k1
    have z := h6 k' k0 k1
    simp (disch := omega) only [p_st1, p_st2, p_up1, p_up2]
    exact z
theorem U_wear {M : am_M} {o : Nat} {w : Int → Int} (hR : WR M o w) (hn : w 276 ≤ 8) {h v : Int} (hh : 0 ≤ h ∧ h < 16) : WR (p_st M (o + 8) (p_up (M (o + 8)) h v)) o (p_up w (36 + 10 * h + 4) v) := by
  obtain ⟨h1, h2, h3, h4, h5, h6⟩ := hR
  refine ⟨?_, ?_, ?_, ?_, ?_, ?_⟩
  · simp (disch := omega) only [p_st1, p_st2, p_up1, p_up2]
    exact h1
  · intro q k0 k1
    have z := h2 q k0 k1
    unfold pp at z ⊢
    simp (disch := omega) only [p_st1, p_st2, p_up1, p_up2]
    exact z
  · intro q s k0 k1 k2 k3
    rw [p_off (by omega)] at k1
    rw [pOn_off ⟨k2, k3⟩ (by omega) (by omega) hn]
    simp (disch := omega) only [p_st1, p_st2, p_up1, p_up2]
    exact h3 q s k0 k1 k2 k3
  · intro g k0 k1
    have z := h4 g k0 k1
    unfold ph at z ⊢
    by_cases e : g = h
    · subst e
      refine ⟨?_, ?_, ?_, ?_, ?_⟩ <;> simp (disch := omega) only [p_st1, p_st2, p_up1, p_up2] <;> first | exact z.1 | exact z.2.1 | exact z.2.2.1 | exact z.2.2.2.1 | exact z.2.2.2.2
    · simp (disch := omega) only [p_st1, p_st2, p_up1, p_up2]
      exact z
  · intro g f k0 k1 k2 k3
    have z := h5 g f k0 k1 k2 k3
    unfold ph at z ⊢
    simp (disch := omega) only [p_st1, p_st2, p_up1, p_up2]
    exact z
  · intro k' k0 k1
    have z := h6 k' k0 k1
    simp (disch := omega) only [p_st1, p_st2, p_up1, p_up2]
    exact z
theorem U_scars {M : am_M} {o : Nat} {w : Int → Int} (hR : WR M o w) (hn : w 276 ≤ 8) {h v : Int} (hh : 0 ≤ h ∧ h < 16) : WR (p_st M (o + 9) (p_up (M (o + 9)) h v)) o (p_up w (36 + 10 * h + 5) v) := by
  obtain ⟨h1, h2, h3, h4, h5, h6⟩ := hR
  refine ⟨?_, ?_, ?_, ?_, ?_, ?_⟩
  · simp (disch := omega) only [p_st1, p_st2, p_up1, p_up2]
    exact h1
  · intro q k0 k1
    have z := h2 q k0 k1
    unfold pp at z ⊢
    simp (disch := omega) only [p_st1, p_st2, p_up1, p_up2]
    exact z
  · intro q s k0 k1 k2 k3
    rw [p_off (by omega)] at k1
    rw [pOn_off ⟨k2, k3⟩ (by omega) (by omega) hn]
    simp (disch := omega) only [p_st1, p_st2, p_up1, p_up2]
    exact h3 q s k0 k1 k2 k3
  · intro g k0 k1
    have z := h4 g k0 k1
    unfold ph at z ⊢
    by_cases e : g = h
    · subst e
      refine ⟨?_, ?_, ?_, ?_, ?_⟩ <;> simp (disch := omega) only [p_st1, p_st2, p_up1, p_up2] <;> first | exact z.1 | exact z.2.1 | exact z.2.2.1 | exact z.2.2.2.1 | exact z.2.2.2.2
    · simp (disch := omega) only [p_st1, p_st2, p_up1, p_up2]
      exact z
  · intro g f k0 k1 k2 k3
    have z := h5 g f k0 k1 k2 k3
    unfold ph at z ⊢
    simp (disch := omega) only [p_st1, p_st2, p_up1, p_up2]
    exact z
  · intro k' k0 k1
    have z := h6 k' k0 k1
    simp (disch := omega) only [p_st1, p_st2, p_up1, p_up2]
    exact z
theorem U_marks {M : am_M} {o : Nat} {w : Int → Int} (hR : WR M o w) (hn : w 276 ≤ 8) {h v : Int} (hh : 0 ≤ h ∧ h < 16) : WR (p_st M (o + 10) (p_up (M (o + 10)) h v)) o (p_up w (36 + 10 * h + 6) v) := by
  obtain ⟨h1, h2, h3, h4, h5, h6⟩ := hR
  refine ⟨?_, ?_, ?_, ?_, ?_, ?_⟩
  · simp (disch := omega) only [p_st1, p_st2, p_up1, p_up2]
    exact h1
  · intro q k0 k1
    have z := h2 q k0 k1
    unfold pp at z ⊢
    simp (disch := omega) only [p_st1, p_st2, p_up1, p_up2]
    exact z
  · intro q s k0 k1 k2 k3
    rw [p_off (by omega)] at k1
    rw [pOn_off ⟨k2, k3⟩ (by omega) (by omega) hn]
    simp (disch := omega) only [p_st1, p_st2, p_up1, p_up2]
    exact h3 q s k0 k1 k2 k3
  · intro g k0 k1
    have z := h4 g k0 k1
    unfold ph at z ⊢
    by_cases e : g = h
    · subst e
      refine ⟨?_, ?_, ?_, ?_, ?_⟩ <;> simp (disch := omega) only [p_st1, p_st2, p_up1, p_up2] <;> first | exact z.1 | exact z.2.1 | exact z.2.2.1 | exact z.2.2.2.1 | exact z.2.2.2.2
    · simp (disch := omega) only [p_st1, p_st2, p_up1, p_up2]
      exact z
  · intro g f k0 k1 k2 k3
    have z := h5 g f k0 k1 k2 k3
    unfold ph at z ⊢
    simp (disch := omega) only [p_st1, p_st2, p_up1, p_up2]
    exact z
  · intro k' k0 k1
    have z := h6 k' k0 k1
    simp (disch := omega) only [p_st1, p_st2, p_up1, p_up2]
    exact z
theorem U_held {M : am_M} {o : Nat} {w : Int → Int} (hR : WR M o w) (hn : w 276 ≤ 8) {h v : Int} (hh : 0 ≤ h ∧ h < 16) : WR (p_st M (o + 11) (p_up (M (o + 11)) h v)) o (p_up w (36 + 10 * h + 7) v) := by
  obtain ⟨h1, h2, h3, h4, h5, h6⟩ := hR
  refine ⟨?_, ?_, ?_, ?_, ?_, ?_⟩
  · simp (disch := omega) only [p_st1, p_st2, p_up1, p_up2]
    exact h1
  · intro q k0 k1
    have z := h2 q k0 k1
    unfold pp at z ⊢
    simp (disch := omega) only [p_st1, p_st2, p_up1, p_up2]
    exact z
  · intro q s k0 k1 k2 k3
    rw [p_off (by omega)] at k1
    rw [pOn_off ⟨k2, k3⟩ (by omega) (by omega) hn]
    simp (disch := omega) only [p_st1, p_st2, p_up1, p_up2]
    exact h3 q s k0 k1 k2 k3
  · intro g k0 k1
    have z := h4 g k0 k1
    unfold ph at z ⊢
    by_cases e : g = h
    · subst e
      refine ⟨?_, ?_, ?_, ?_, ?_⟩ <;> simp (disch := omega) only [p_st1, p_st2, p_up1, p_up2] <;> first | exact z.1 | exact z.2.1 | exact z.2.2.1 | exact z.2.2.2.1 | exact z.2.2.2.2
    · simp (disch := omega) only [p_st1, p_st2, p_up1, p_up2]
      exact z
  · intro g f k0 k1 k2 k3
    have z := h5 g f k0 k1 k2 k3
    unfold ph at z ⊢
    simp (disch := omega) only [p_st1, p_st2, p_up1, p_up2]
    exact z
  · intro k' k0 k1
    have z := h6 k' k0 k1
    simp (disch := omega) only [p_st1, p_st2, p_up1, p_up2]
    exact z
theorem U_skill {M : am_M} {o : Nat} {w : Int → Int} (hR : WR M o w) (hn : w 276 ≤ 8) {h k v : Int} (hh : 0 ≤ h ∧ h < 16) (hk : 0 ≤ k ∧ k < 4) : WR (p_st M (o + 7) (p_up (M (o + 7)) (h * 4 + k) v)) o (p_up w (36 + 10 * h + k) v) := by
  obtain ⟨h1, h2, h3, h4, h5, h6⟩ := hR
  refine ⟨?_, ?_, ?_, ?_, ?_, ?_⟩
  · simp (disch := omega) only [p_st1, p_st2, p_up1, p_up2]
    exact h1
  · intro q k0 k1
    have z := h2 q k0 k1
    unfold pp at z ⊢
    simp (disch := omega) only [p_st1, p_st2, p_up1, p_up2]
    exact z
  · intro q s k0 k1 k2 k3
    rw [p_off (by omega)] at k1
    rw [pOn_off ⟨k2, k3⟩ (by omega) (by omega) hn]
    simp (disch := omega) only [p_st1, p_st2, p_up1, p_up2]
    exact h3 q s k0 k1 k2 k3
  · intro g k0 k1
    have z := h4 g k0 k1
    unfold ph at z ⊢
    simp (disch := omega) only [p_st1, p_st2, p_up1, p_up2]
    exact z
  · intro g f k0 k1 k2 k3
    have z := h5 g f k0 k1 k2 k3
    unfold ph at z ⊢
    by_cases e : g = h ∧ f = k
    · obtain ⟨e1, e2⟩ := e
      subst e1 e2
      simp (disch := omega) only [p_st1, p_st2, p_up1, p_up2]
    · simp (disch := omega) only [p_st1, p_st2, p_up1, p_up2]
      exact z
  · intro k' k0 k1
    have z := h6 k' k0 k1
    simp (disch := omega) only [p_st1, p_st2, p_up1, p_up2]
    exact z
theorem U_loan {M : am_M} {o : Nat} {w : Int → Int} (hR : WR M o w) (hn : w 276 ≤ 8) {i c v : Int} (hi : 0 ≤ i ∧ i < 16) (hc : 0 ≤ c ∧ c < 5) : WR (p_st M (o + 12) (p_up (M (o + 12)) (i * 5 + c) v)) o (p_up w (196 + 5 * i + c) v) := by
  obtain ⟨h1, h2, h3, h4, h5, h6⟩ := hR
  refine ⟨?_, ?_, ?_, ?_, ?_, ?_⟩
  · simp (disch := omega) only [p_st1, p_st2, p_up1, p_up2]
    exact h1
  · intro q k0 k1
    have z := h2 q k0 k1
    unfold pp at z ⊢
    simp (disch := omega) only [p_st1, p_st2, p_up1, p_up2]
    exact z
  · intro q s k0 k1 k2 k3
    rw [p_off (by omega)] at k1
    rw [pOn_off ⟨k2, k3⟩ (by omega) (by omega) hn]
    simp (disch := omega) only [p_st1, p_st2, p_up1, p_up2]
    exact h3 q s k0 k1 k2 k3
  · intro g k0 k1
    have z := h4 g k0 k1
    unfold ph at z ⊢
    simp (disch := omega) only [p_st1, p_st2, p_up1, p_up2]
    exact z
  · intro g f k0 k1 k2 k3
    have z := h5 g f k0 k1 k2 k3
    unfold ph at z ⊢
    simp (disch := omega) only [p_st1, p_st2, p_up1, p_up2]
    exact z
  · intro k' k0 k1
    have z := h6 k' k0 k1
    by_cases e : k' = i * 5 + c
    · subst e
      rw [p_st1, p_up1, show 196 + (i * 5 + c) = 196 + 5 * i + c from by omega, p_up1]
    · simp (disch := omega) only [p_st1, p_st2, p_up1, p_up2]
      exact z
theorem U_dr {M : am_M} {o : Nat} {w : Int → Int} (hR : WR M o w) (hn : w 276 ≤ 8) {v : Int} : WR (p_st M o (p_up (M o) 0 v)) o (p_up w 3 v) := by
  obtain ⟨h1, h2, h3, h4, h5, h6⟩ := hR
  refine ⟨?_, ?_, ?_, ?_, ?_, ?_⟩
  · simp (disch := omega) only [p_st1, p_st2, p_up1, p_up2]
    exact ⟨trivial, h1.2.1, h1.2.2.1, h1.2.2.2.1, h1.2.2.2.2⟩
  · intro q k0 k1
    have z := h2 q k0 k1
    unfold pp at z ⊢
    simp (disch := omega) only [p_st1, p_st2, p_up1, p_up2]
    exact z
  · intro q s k0 k1 k2 k3
    rw [p_off (by omega)] at k1
    rw [pOn_off ⟨k2, k3⟩ (by omega) (by omega) hn]
    simp (disch := omega) only [p_st1, p_st2, p_up1, p_up2]
    exact h3 q s k0 k1 k2 k3
  · intro g k0 k1
    have z := h4 g k0 k1
    unfold ph at z ⊢
    simp (disch := omega) only [p_st1, p_st2, p_up1, p_up2]
    exact z
  · intro g f k0 k1 k2 k3
    have z := h5 g f k0 k1 k2 k3
    unfold ph at z ⊢
    simp (disch := omega) only [p_st1, p_st2, p_up1, p_up2]
    exact z
  · intro k' k0 k1
    have z := h6 k' k0 k1
    simp (disch := omega) only [p_st1, p_st2, p_up1, p_up2]
    exact z
theorem U_hr {M : am_M} {o : Nat} {w : Int → Int} (hR : WR M o w) (hn : w 276 ≤ 8) {v : Int} : WR (p_st M o (p_up (M o) 1 v)) o (p_up w 0 v) := by
  obtain ⟨h1, h2, h3, h4, h5, h6⟩ := hR
  refine ⟨?_, ?_, ?_, ?_, ?_, ?_⟩
  · simp (disch := omega) only [p_st1, p_st2, p_up1, p_up2]
    exact ⟨h1.1, trivial, h1.2.2.1, h1.2.2.2.1, h1.2.2.2.2⟩
  · intro q k0 k1
    have z := h2 q k0 k1
    unfold pp at z ⊢
    simp (disch := omega) only [p_st1, p_st2, p_up1, p_up2]
    exact z
  · intro q s k0 k1 k2 k3
    rw [p_off (by omega)] at k1
    rw [pOn_off ⟨k2, k3⟩ (by omega) (by omega) hn]
    simp (disch := omega) only [p_st1, p_st2, p_up1, p_up2]
    exact h3 q s k0 k1 k2 k3
  · intro g k0 k1
    have z := h4 g k0 k1
    unfold ph at z ⊢
    simp (disch := omega) only [p_st1, p_st2, p_up1, p_up2]
    exact z
  · intro g f k0 k1 k2 k3
    have z := h5 g f k0 k1 k2 k3
    unfold ph at z ⊢
    simp (disch := omega) only [p_st1, p_st2, p_up1, p_up2]
    exact z
  · intro k' k0 k1
    have z := h6 k' k0 k1
    simp (disch := omega) only [p_st1, p_st2, p_up1, p_up2]
    exact z
theorem U_ln {M : am_M} {o : Nat} {w : Int → Int} (hR : WR M o w) (hn : w 276 ≤ 8) {v : Int} : WR (p_st M o (p_up (M o) 3 v)) o (p_up w 1 v) := by
  obtain ⟨h1, h2, h3, h4, h5, h6⟩ := hR
  refine ⟨?_, ?_, ?_, ?_, ?_, ?_⟩
  · simp (disch := omega) only [p_st1, p_st2, p_up1, p_up2]
    exact ⟨h1.1, h1.2.1, h1.2.2.1, trivial, h1.2.2.2.2⟩
  · intro q k0 k1
    have z := h2 q k0 k1
    unfold pp at z ⊢
    simp (disch := omega) only [p_st1, p_st2, p_up1, p_up2]
    exact z
  · intro q s k0 k1 k2 k3
    rw [p_off (by omega)] at k1
    rw [pOn_off ⟨k2, k3⟩ (by omega) (by omega) hn]
    simp (disch := omega) only [p_st1, p_st2, p_up1, p_up2]
    exact h3 q s k0 k1 k2 k3
  · intro g k0 k1
    have z := h4 g k0 k1
    unfold ph at z ⊢
    simp (disch := omega) only [p_st1, p_st2, p_up1, p_up2]
    exact z
  · intro g f k0 k1 k2 k3
    have z := h5 g f k0 k1 k2 k3
    unfold ph at z ⊢
    simp (disch := omega) only [p_st1, p_st2, p_up1, p_up2]
    exact z
  · intro k' k0 k1
    have z := h6 k' k0 k1
    simp (disch := omega) only [p_st1, p_st2, p_up1, p_up2]
    exact z
theorem U_bk {M : am_M} {o : Nat} {w : Int → Int} (hR : WR M o w) (hn : w 276 ≤ 8) {v : Int} : WR (p_st M o (p_up (M o) 4 v)) o (p_up w 2 v) := by
  obtain ⟨h1, h2, h3, h4, h5, h6⟩ := hR
  refine ⟨?_, ?_, ?_, ?_, ?_, ?_⟩
  · simp (disch := omega) only [p_st1, p_st2, p_up1, p_up2]
    exact ⟨h1.1, h1.2.1, h1.2.2.1, h1.2.2.2.1, trivial⟩
  · intro q k0 k1
    have z := h2 q k0 k1
    unfold pp at z ⊢
    simp (disch := omega) only [p_st1, p_st2, p_up1, p_up2]
    exact z
  · intro q s k0 k1 k2 k3
    rw [p_off (by omega)] at k1
    rw [pOn_off ⟨k2, k3⟩ (by omega) (by omega) hn]
    simp (disch := omega) only [p_st1, p_st2, p_up1, p_up2]
    exact h3 q s k0 k1 k2 k3
  · intro g k0 k1
    have z := h4 g k0 k1
    unfold ph at z ⊢
    simp (disch := omega) only [p_st1, p_st2, p_up1, p_up2]
    exact z
  · intro g f k0 k1 k2 k3
    have z := h5 g f k0 k1 k2 k3
    unfold ph at z ⊢
    simp (disch := omega) only [p_st1, p_st2, p_up1, p_up2]
    exact z
  · intro k' k0 k1
    have z := h6 k' k0 k1
    simp (disch := omega) only [p_st1, p_st2, p_up1, p_up2]
    exact z
theorem pOn_iff {w w' : Int → Int} {p s : Int} (hs : 0 ≤ s ∧ s ≤ 1) (h1 : w' 276 = w 276) (h2 : ∀ h, 0 ≤ h → h < 2 * w 276 → h % 2 = s → (ph w' h 8 = p ↔ ph w h 8 = p)) : pOn w' p s = pOn w p s := by
  unfold pOn
  rw [h1]
  refine p_find_cg 2 _ s (fun j hj => ?_)
  exact decide_eq_decide.mpr (h2 _ (by omega) (by omega) (by omega))
theorem WR_acc {M : am_M} {o : Nat} {w w' : Int → Int} (h : WR M o w) (hs : w' 0 = w 0 ∧ w' 1 = w 1 ∧ w' 2 = w 2 ∧ w' 3 = w 3 ∧ w' 276 = w 276) (hn : w 276 ≤ 8) (hp : ∀ p, 0 ≤ p → p < 8 → ∀ f, 0 ≤ f → f < 3 → pp w' p f = pp w p f) (hc : ∀ p, 0 ≤ p → p < 8 → w' (277 + p) = w (277 + p)) (hh : ∀ g, 0 ≤ g → g < 16 → ∀ f, 0 ≤ f → f < 9 → ph w' g f = ph w g f) (hl : ∀ i, 0 ≤ i → i < 16 → ∀ f, 0 ≤ f → f < 5 → pl w' i f = pl w i f) : WR M o w' := by
  obtain ⟨h1, h2, h3, h4, h5, h6⟩ := h
  obtain ⟨s0, s1, s2, s3, s4⟩ := hs
  refine ⟨?_, ?_, ?_, ?_, ?_, ?_⟩
  · rw [s0, s1, s2, s3, s4]; exact h1
  · intro p k0 k1
    rw [hp p k0 k1 0 (by omega) (by omega), hp p k0 k1 1 (by omega) (by omega), hp p k0 k1 2 (by omega) (by omega), hc p k0 k1]
    exact h2 p k0 k1
  · intro p s k0 k1 k2 k3
    rw [s4] at k1
    rw [h3 p s k0 k1 k2 k3]
    exact (pOn_cg ⟨k2, k3⟩ s4 (fun g q0 q1 => hh g q0 (by omega) 8 (by omega) (by omega))).symm
  · intro g k0 k1
    rw [hh g k0 k1 8 (by omega) (by omega), hh g k0 k1 4 (by omega) (by omega), hh g k0 k1 5 (by omega) (by omega), hh g k0 k1 6 (by omega) (by omega), hh g k0 k1 7 (by omega) (by omega)]
    exact h4 g k0 k1
  · intro g k k0 k1 k2 k3
    rw [hh g k0 k1 k k2 (by omega)]
    exact h5 g k k0 k1 k2 k3
  · intro k k0 k1
    have := hl (k / 5) (by omega) (by omega) (k % 5) (by omega) (by omega)
    unfold pl at this
    rw [show 196 + 5 * (k / 5) + k % 5 = 196 + k from by omega] at this
    rw [this]
    exact h6 k k0 k1
def cS (M : am_M) (o : Nat) (wr pl he : Int → Int) : am_M := p_st (p_st (p_st M (o + 5) wr) (o + 6) pl) (o + 11) he
theorem c145 (d : Nat) {o : Nat} (ho : IsW o) {M : am_M} {h : Int} (hh : 0 ≤ h ∧ h < 16) (hp : -1 ≤ M (o + 6) h ∧ M (o + 6) h < 8) : am_run (d + 1) 145 [.inr o, .inl h] M = some (0, cS M o (if M (o + 6) h = -1 then M (o + 5) else p_up (M (o + 5)) (2 * M (o + 6) h + h % 2) (-1)) (p_up (M (o + 6)) h (-1)) (p_up (M (o + 11)) h 0)) := by
  rw [e145]
  simp only [w_c ho, w_r5 ho, w_r6 ho, w_r7 ho, w_r8 ho, w_r9 ho, w_r10 ho, w_r11 ho, w_r12 ho, w_r13 ho, w_r14 ho, w_r15 ho, w_r16 ho, w_k1 ho, w_k2 ho, w_k3 ho, w_k4 ho, w_k5 ho, w_k6 ho, w_k7 ho, w_k8 ho, w_k9 ho, w_k10 ho, w_k11 ho, w_k12 ho, w_l1 ho, w_l2 ho, w_l3 ho, w_l4 ho, w_l5 ho, w_l6 ho, w_l7 ho, w_l8 ho, w_l9 ho, w_l10 ho, w_l11 ho, w_l12 ho, w_B5, w_B9, cond_true, Bool.true_or, p_and1 hh.1 (show h < 64 by omega)]
  rw [p_c (by omega)]
  by_cases q : M (o + 6) h = -1
  · rw [if_pos q, if_pos q]
    simp (disch := omega) only [p_c, p_upd, p_st2, cS, p_st5]
  · rw [if_neg q, if_neg q]
    simp (disch := omega) only [p_w, p_c, p_upd, p_st2, cS]
theorem c146 (d : Nat) {o : Nat} (ho : IsW o) {M : am_M} {h p : Int} (hh : 0 ≤ h ∧ h < 16) (hp : 0 ≤ p ∧ p < 8) : am_run (d + 1) 146 [.inr o, .inl h, .inl p] M = some (0, cS M o (p_up (M (o + 5)) (2 * p + h % 2) h) (p_up (M (o + 6)) h p) (p_up (M (o + 11)) h 0)) := by
  rw [e146]
  simp only [w_c ho, w_r5 ho, w_r6 ho, w_r7 ho, w_r8 ho, w_r9 ho, w_r10 ho, w_r11 ho, w_r12 ho, w_r13 ho, w_r14 ho, w_r15 ho, w_r16 ho, w_k1 ho, w_k2 ho, w_k3 ho, w_k4 ho, w_k5 ho, w_k6 ho, w_k7 ho, w_k8 ho, w_k9 ho, w_k10 ho, w_k11 ho, w_k12 ho, w_l1 ho, w_l2 ho, w_l3 ho, w_l4 ho, w_l5 ho, w_l6 ho, w_l7 ho, w_l8 ho, w_l9 ho, w_l10 ho, w_l11 ho, w_l12 ho, w_B5, w_B9, cond_true, Bool.true_or, p_and1 hh.1 (show h < 64 by omega)]
  simp (disch := omega) only [p_w, p_c, p_upd, p_st2, cS]
/-- a hand is put: somewhere, or into the office -/
theorem WR_goes {M : am_M} {o : Nat} {w wr : Int → Int} {h p : Int} (hR : WR M o w) (hn : 0 ≤ w 276 ∧ w 276 ≤ 8) (hh : 0 ≤ h ∧ h < 16) (hw : ∀ q s, 0 ≤ q → q < w 276 → 0 ≤ s → s ≤ 1 → wr (2 * q + s) = pOn (pGoes w h p) q s) : WR (cS M o wr (p_up (M (o + 6)) h p) (p_up (M (o + 11)) h 0)) o (pGoes w h p) := by
  obtain ⟨h1, h2, h3, h4, h5, h6⟩ := hR
  unfold cS
  refine ⟨?_, ?_, ?_, ?_, ?_, ?_⟩
  · simp (disch := omega) only [p_st1, p_st2, pG_off]
    exact h1
  · intro q k0 k1
    rw [pp_goes ⟨k0, k1⟩ (by omega) hh.1, pp_goes ⟨k0, k1⟩ (by omega) hh.1, pp_goes ⟨k0, k1⟩ (by omega) hh.1]
    simp (disch := omega) only [p_st1, p_st2, pG_off]
    exact h2 q k0 k1
  · intro q s k0 k1 k2 k3
    rw [pG_off (by omega)] at k1
    simp (disch := omega) only [p_st1, p_st2]
    exact hw q s k0 k1 k2 k3
  · intro g k0 k1
    have z := h4 g k0 k1
    simp (disch := omega) only [p_st1, p_st2]
    rw [pG_ph _ _ _ _ _ (by omega), pG_ph _ _ _ _ _ (by omega), pG_ph _ _ _ _ _ (by omega), pG_ph _ _ _ _ _ (by omega), pG_ph _ _ _ _ _ (by omega)]
    by_cases e : g = h
    · subst e
      simp (disch := omega) only [p_up1, if_pos, if_neg]
      exact ⟨rfl, z.2.1, z.2.2.1, z.2.2.2.1, rfl⟩
    · simp (disch := omega) only [p_up2, if_neg]
      exact z
  · intro g f k0 k1 k2 k3
    rw [pG_ph _ _ _ _ _ (by omega), if_neg (by omega), if_neg (by omega)]
    simp (disch := omega) only [p_st1, p_st2]
    exact h5 g f k0 k1 k2 k3
  · intro k k0 k1
    rw [pG_off (by omega)]
    simp (disch := omega) only [p_st1, p_st2]
    exact h6 k k0 k1
theorem cS_o {M : am_M} {o : Nat} {wr pl he : Int → Int} {b : Nat} (h : b ≠ o + 5 ∧ b ≠ o + 6 ∧ b ≠ o + 11) : cS M o wr pl he b = M b := by
  unfold cS
  rw [p_st2 h.2.2, p_st2 h.2.1, p_st2 h.1]
def CW (o : Nat) (M M' : am_M) : Prop := ∀ b, b < o ∨ o + 12 < b → M' b = M b
theorem CW_refl (o : Nat) (M : am_M) : CW o M M := fun _ _ => rfl
theorem CW_trans {o : Nat} {A B C : am_M} (h1 : CW o A B) (h2 : CW o B C) : CW o A C := fun b hb => (h2 b hb).trans (h1 b hb)
theorem c145R (d : Nat) {o : Nat} (ho : IsW o) {M : am_M} {w : Int → Int} {h : Int} (hR : WR M o w) (hw : WFh w) (hn : 0 ≤ w 276 ∧ w 276 ≤ 8) (hh : 0 ≤ h ∧ h < 2 * w 276) : pOk (am_run (d + 1) 145 [.inr o, .inl h] M) (fun r M' => WR M' o (pGoes w h (-1)) ∧ CW o M M') := by
  have ea := R_at hR hh.1 (by omega)
  have ra := hw.1 h hh.1 hh.2
  refine pOk_e (c145 d ho (by omega) (by omega)) ⟨WR_goes hR hn (by omega) (fun q s k0 k1 k2 k3 => ?_), fun b hb => cS_o (by omega)⟩
  rw [ea]
  have e := R_on hR k0 k1 k2 k3
  by_cases h1 : ph w h 8 = -1
  · rw [if_pos h1, e]
    refine (pOn_cg ⟨k2, k3⟩ (pG_off (by omega)) (fun g z0 z1 => ?_)).symm
    rw [pG_ph _ _ _ _ _ (by omega), if_neg (show ¬ (g = h ∧ (8 : Int) = 7) by omega)]
    by_cases z : g = h
    · rw [if_pos ⟨z, rfl⟩, z, h1]
    · rw [if_neg (by omega)]
  · rw [if_neg h1]
    by_cases h2 : q = ph w h 8 ∧ s = h % 2
    · obtain ⟨e1, e2⟩ := h2
      subst e1 e2
      rw [p_up1]
      refine ((pOn_none ⟨k2, k3⟩ (by rw [pG_off (by omega)]; omega)).mpr (fun g z0 z1 z2 => ?_)).symm
      rw [pG_off (by omega)] at z1
      rw [pG_ph _ _ _ _ _ (by omega), if_neg (show ¬ (g = h ∧ (8 : Int) = 7) by omega)]
      by_cases z : g = h
      · rw [if_pos ⟨z, rfl⟩]; omega
      · rw [if_neg (by omega)]
        intro z3
        exact z (hw.2.2 g h z0 z1 hh.1 hh.2 z2 z3 (by omega))
    · rw [p_up2 (by omega), e]
      refine (pOn_iff ⟨k2, k3⟩ (pG_off (by omega)) (fun g z0 z1 z2 => ?_)).symm
      rw [pG_ph _ _ _ _ _ (by omega), if_neg (show ¬ (g = h ∧ (8 : Int) = 7) by omega)]
      by_cases z : g = h
      · rw [if_pos ⟨z, rfl⟩, z]; omega
      · rw [if_neg (by omega)]
theorem c146R (d : Nat) {o : Nat} (ho : IsW o) {M : am_M} {w : Int → Int} {h p : Int} (hR : WR M o w) (hn : 0 ≤ w 276 ∧ w 276 ≤ 8) (hh : 0 ≤ h ∧ h < 2 * w 276) (hw : WFh (pGoes w h p)) (hp : 0 ≤ p ∧ p < w 276) (ha : ph w h 8 = -1) : pOk (am_run (d + 1) 146 [.inr o, .inl h, .inl p] M) (fun r M' => WR M' o (pGoes w h p) ∧ CW o M M') := by
  refine pOk_e (c146 d ho (by omega) (by omega)) ⟨WR_goes hR hn (by omega) (fun q s k0 k1 k2 k3 => ?_), fun b hb => cS_o (by omega)⟩
  have e := R_on hR k0 k1 k2 k3
  have g276 : pGoes w h p 276 = w 276 := pG_off (by omega)
  by_cases h2 : q = p ∧ s = h % 2
  · obtain ⟨e1, e2⟩ := h2
    subst e1 e2
    rw [p_up1]
    exact (pOn_is hw ⟨k2, k3⟩ (by omega) (by omega) (by omega) rfl (by rw [pG_ph _ _ _ _ _ (by omega), if_pos ⟨rfl, rfl⟩])).symm
  · rw [p_up2 (by omega), e]
    refine (pOn_iff ⟨k2, k3⟩ g276 (fun g z0 z1 z2 => ?_)).symm
    rw [pG_ph _ _ _ _ _ (by omega), if_neg (show ¬ (g = h ∧ (8 : Int) = 7) by omega)]
    by_cases z : g = h
    · rw [if_pos ⟨z, rfl⟩, z, ha]; omega
    · rw [if_neg (by omega)]
end
section
/-! PURE: what worlds answer and do -/
theorem c253 (d : Nat) (v a b : Int) (M : am_M) : am_run (d + 1) 253 [.inl v, .inl a, .inl b] M = some (if a ≤ v ∧ v ≤ b then 1 else 0, M) := by
  rw [e253]
  by_cases h1 : v < a
  · rw [if_pos h1, if_neg (by omega)]
  · rw [if_neg h1]
    by_cases h2 : b < v
    · rw [if_pos h2, if_neg (by omega)]
    · rw [if_neg h2, if_pos (by omega)]
theorem c254 (d : Nat) (v a : Int) (M : am_M) : am_run (d + 1) 254 [.inl v, .inl a] M = some (max 0 (min a v), M) := by
  rw [e254, Int.min_comm]
theorem c134 (d : Nat) {o : Nat} (ho : IsW o) {M : am_M} {w : Int → Int} (hR : WR M o w) (p : Int) : am_run (d + 1) 134 [.inr o, .inl p] M = some (if 0 ≤ p ∧ p ≤ w 276 - 1 then 1 else 0, M) := by
  rw [e134]
  simp only [w_c ho, w_r5 ho, w_r6 ho, w_r7 ho, w_r8 ho, w_r9 ho, w_r10 ho, w_r11 ho, w_r12 ho, w_r13 ho, w_r14 ho, w_r15 ho, w_r16 ho, w_k1 ho, w_k2 ho, w_k3 ho, w_k4 ho, w_k5 ho, w_k6 ho, w_k7 ho, w_k8 ho, w_k9 ho, w_k10 ho, w_k11 ho, w_k12 ho, w_l1 ho, w_l2 ho, w_l3 ho, w_l4 ho, w_l5 ho, w_l6 ho, w_l7 ho, w_l8 ho, w_l9 ho, w_l10 ho, w_l11 ho, w_l12 ho, w_B5, w_B9, cond_true, Bool.true_or, R_n hR]
  by_cases h1 : p < 0
  · rw [if_pos h1, if_neg (by omega)]
  · rw [if_neg h1]
    by_cases h2 : p < w 276
    · rw [if_pos h2, if_pos (by omega)]
    · rw [if_neg h2, if_neg (by omega)]
theorem c135 (d : Nat) {o : Nat} (ho : IsW o) {M : am_M} {w : Int → Int} (hR : WR M o w) (hn : 0 ≤ w 276 ∧ w 276 ≤ 8) (p : Int) : am_run (d + 1) 135 [.inr o, .inl p] M = some (if 0 ≤ p ∧ p ≤ 2 * w 276 - 1 then 1 else 0, M) := by
  rw [e135]
  simp only [w_c ho, w_r5 ho, w_r6 ho, w_r7 ho, w_r8 ho, w_r9 ho, w_r10 ho, w_r11 ho, w_r12 ho, w_r13 ho, w_r14 ho, w_r15 ho, w_r16 ho, w_k1 ho, w_k2 ho, w_k3 ho, w_k4 ho, w_k5 ho, w_k6 ho, w_k7 ho, w_k8 ho, w_k9 ho, w_k10 ho, w_k11 ho, w_k12 ho, w_l1 ho, w_l2 ho, w_l3 ho, w_l4 ho, w_l5 ho, w_l6 ho, w_l7 ho, w_l8 ho, w_l9 ho, w_l10 ho, w_l11 ho, w_l12 ho, w_B5, w_B9, cond_true, Bool.true_or, R_n hR]
  rw [p_w (by omega) (by omega)]
  by_cases h1 : p < 0
  · rw [if_pos h1, if_neg (by omega)]
  · rw [if_neg h1]
    by_cases h2 : p < 2 * w 276
    · rw [if_pos h2, if_pos (by omega)]
    · rw [if_neg h2, if_neg (by omega)]
theorem c139 (d : Nat) {o : Nat} (ho : IsW o) {M : am_M} {w : Int → Int} (hR : WR M o w) {h : Int} (hh : 0 ≤ h ∧ h < 16) : am_run (d + 1) 139 [.inr o, .inl h] M = some (if ph w h 8 = h / 2 then 1 else 0, M) := by
  rw [e139]
  simp only [w_c ho, w_r5 ho, w_r6 ho, w_r7 ho, w_r8 ho, w_r9 ho, w_r10 ho, w_r11 ho, w_r12 ho, w_r13 ho, w_r14 ho, w_r15 ho, w_r16 ho, w_k1 ho, w_k2 ho, w_k3 ho, w_k4 ho, w_k5 ho, w_k6 ho, w_k7 ho, w_k8 ho, w_k9 ho, w_k10 ho, w_k11 ho, w_k12 ho, w_l1 ho, w_l2 ho, w_l3 ho, w_l4 ho, w_l5 ho, w_l6 ho, w_l7 ho, w_l8 ho, w_l9 ho, w_l10 ho, w_l11 ho, w_l12 ho, w_B5, w_B9, cond_true, Bool.true_or, p_shr1 hh.1 (show h < 64 by omega)]
  rw [p_c (by omega), R_at hR hh.1 hh.2]
  by_cases h1 : ph w h 8 = h / 2
  · rw [if_pos h1, if_pos h1]
  · rw [if_neg h1, if_neg h1]
/-- a set of those of n things that are so -/
def pSet (P : Int → Bool) (n : Int) : Int := pF (fun h s => if P h = true then am_ior s (am_ishl 1 h) else s) n.toNat 0
theorem pSet_next (P : Int → Bool) {i : Int} (h : 0 ≤ i) : pSet P (i + 1) = if P i = true then am_ior (pSet P i) (am_ishl 1 i) else pSet P i := (pF_next (fun h s => if P h = true then am_ior s (am_ishl 1 h) else s) 0 h).symm
theorem pSet_0 (P : Int → Bool) : pSet P 0 = 0 := rfl
def pAway (w : Int → Int) (h : Int) : Bool := decide (ph w h 8 ≠ h / 2)
theorem c140_4 (d : Nat) {o : Nat} (ho : IsW o) {M : am_M} {w : Int → Int} (hR : WR M o w) (hn : 0 ≤ w 276 ∧ w 276 ≤ 8) : ∀ (k : Nat) (i : Int), i = 2 * w 276 - k → 0 ≤ i → am_L (d + 1) 140 4 [some (.inr o), some (.inl (pSet (pAway w) i)), some (.inl i)] [] M = some (pSet (pAway w) (2 * w 276), M) := by
  intro k
  induction k with
  | zero =>
    intro i hi h0
    rw [e140_4]
    simp only [w_c ho, w_r5 ho, w_r6 ho, w_r7 ho, w_r8 ho, w_r9 ho, w_r10 ho, w_r11 ho, w_r12 ho, w_r13 ho, w_r14 ho, w_r15 ho, w_r16 ho, w_k1 ho, w_k2 ho, w_k3 ho, w_k4 ho, w_k5 ho, w_k6 ho, w_k7 ho, w_k8 ho, w_k9 ho, w_k10 ho, w_k11 ho, w_k12 ho, w_l1 ho, w_l2 ho, w_l3 ho, w_l4 ho, w_l5 ho, w_l6 ho, w_l7 ho, w_l8 ho, w_l9 ho, w_l10 ho, w_l11 ho, w_l12 ho, w_B5, w_B9, cond_true, Bool.true_or, R_n hR]
    rw [p_w (by omega) (by omega), if_neg (by omega), show i = 2 * w 276 from by omega]
  | succ k ih =>
    intro i hi h0
    rw [e140_4]
    simp only [w_c ho, w_r5 ho, w_r6 ho, w_r7 ho, w_r8 ho, w_r9 ho, w_r10 ho, w_r11 ho, w_r12 ho, w_r13 ho, w_r14 ho, w_r15 ho, w_r16 ho, w_k1 ho, w_k2 ho, w_k3 ho, w_k4 ho, w_k5 ho, w_k6 ho, w_k7 ho, w_k8 ho, w_k9 ho, w_k10 ho, w_k11 ho, w_k12 ho, w_l1 ho, w_l2 ho, w_l3 ho, w_l4 ho, w_l5 ho, w_l6 ho, w_l7 ho, w_l8 ho, w_l9 ho, w_l10 ho, w_l11 ho, w_l12 ho, w_B5, w_B9, cond_true, Bool.true_or, R_n hR]
    rw [p_w (by omega) (by omega), if_pos (by omega), c139 d ho hR ⟨h0, by omega⟩, p_b, p_w (by omega) (by omega)]
    have next := ih (i + 1) (by omega) (by omega)
    rw [pSet_next _ h0] at next
    unfold pAway at next ⊢
    by_cases h : ph w i 8 = i / 2
    · rw [if_pos h, if_neg (by decide)]
      rw [if_neg (by simp [h])] at next
      exact next
    · rw [if_neg h, if_pos rfl]
      rw [if_pos (by simp [h])] at next
      exact next
theorem c140 (d : Nat) {o : Nat} (ho : IsW o) {M : am_M} {w : Int → Int} (hR : WR M o w) (hn : 0 ≤ w 276 ∧ w 276 ≤ 8) : am_run (d + 2) 140 [.inr o] M = some (pSet (pAway w) (2 * w 276), M) := by
  rw [e140]
  simp only [w_c ho, w_r5 ho, w_r6 ho, w_r7 ho, w_r8 ho, w_r9 ho, w_r10 ho, w_r11 ho, w_r12 ho, w_r13 ho, w_r14 ho, w_r15 ho, w_r16 ho, w_k1 ho, w_k2 ho, w_k3 ho, w_k4 ho, w_k5 ho, w_k6 ho, w_k7 ho, w_k8 ho, w_k9 ho, w_k10 ho, w_k11 ho, w_k12 ho, w_l1 ho, w_l2 ho, w_l3 ho, w_l4 ho, w_l5 ho, w_l6 ho, w_l7 ho, w_l8 ho, w_l9 ho, w_l10 ho, w_l11 ho, w_l12 ho, w_B5, w_B9, cond_true, Bool.true_or]
  exact c140_4 d ho hR hn (2 * w 276).toNat 0 (by omega) (by omega)
theorem c141 (d : Nat) {o : Nat} (ho : IsW o) {M : am_M} {w : Int → Int} (hR : WR M o w) {h : Int} (hh : 0 ≤ h ∧ h < 16) : am_run (d + 1) 141 [.inr o, .inl h] M = some (pBest w h, M) := by
  have step : ∀ (k b : Int) (o4 : Option am_V), 0 ≤ k → k < 4 → ∃ o5, am_L d 141 4 [some (.inr o), some (.inl h), some (.inl b), some (.inl k), o4] [] M = am_L d 141 4 [some (.inr o), some (.inl h), some (.inl (max b (ph w h k))), some (.inl (k + 1)), o5] [] M := by
    intro k b o4 h0 h1
    rw [e141_4]
    simp only [w_c ho, w_r5 ho, w_r6 ho, w_r7 ho, w_r8 ho, w_r9 ho, w_r10 ho, w_r11 ho, w_r12 ho, w_r13 ho, w_r14 ho, w_r15 ho, w_r16 ho, w_k1 ho, w_k2 ho, w_k3 ho, w_k4 ho, w_k5 ho, w_k6 ho, w_k7 ho, w_k8 ho, w_k9 ho, w_k10 ho, w_k11 ho, w_k12 ho, w_l1 ho, w_l2 ho, w_l3 ho, w_l4 ho, w_l5 ho, w_l6 ho, w_l7 ho, w_l8 ho, w_l9 ho, w_l10 ho, w_l11 ho, w_l12 ho, w_B5, w_B9, cond_true, Bool.true_or]
    rw [if_pos h1, p_w (x := h * 4) (by omega) (by omega), p_w (x := h * 4 + k) (by omega) (by omega), p_c (by omega), R_skill hR hh.1 hh.2 h0 h1, p_w (x := k + 1) (by omega) (by omega)]
    by_cases q : b < ph w h k
    · rw [if_pos q, show max b (ph w h k) = ph w h k from by omega]
      exact ⟨_, rfl⟩
    · rw [if_neg q, show max b (ph w h k) = b from by omega]
      exact ⟨_, rfl⟩
  obtain ⟨o1, s1⟩ := step 0 0 none (by omega) (by omega)
  obtain ⟨o2, s2⟩ := step 1 (max 0 (ph w h 0)) o1 (by omega) (by omega)
  obtain ⟨o3, s3⟩ := step 2 (max (max 0 (ph w h 0)) (ph w h 1)) o2 (by omega) (by omega)
  obtain ⟨o4, s4⟩ := step 3 (max (max (max 0 (ph w h 0)) (ph w h 1)) (ph w h 2)) o3 (by omega) (by omega)
  rw [e141]
  simp only [w_c ho, w_r5 ho, w_r6 ho, w_r7 ho, w_r8 ho, w_r9 ho, w_r10 ho, w_r11 ho, w_r12 ho, w_r13 ho, w_r14 ho, w_r15 ho, w_r16 ho, w_k1 ho, w_k2 ho, w_k3 ho, w_k4 ho, w_k5 ho, w_k6 ho, w_k7 ho, w_k8 ho, w_k9 ho, w_k10 ho, w_k11 ho, w_k12 ho, w_l1 ho, w_l2 ho, w_l3 ho, w_l4 ho, w_l5 ho, w_l6 ho, w_l7 ho, w_l8 ho, w_l9 ho, w_l10 ho, w_l11 ho, w_l12 ho, w_B5, w_B9, cond_true, Bool.true_or]
  rw [s1]
  rw [show (0 : Int) + 1 = 1 from rfl, s2]
  rw [show (1 : Int) + 1 = 2 from rfl, s3]
  rw [show (2 : Int) + 1 = 3 from rfl, s4]
  rw [e141_4, if_neg (by decide)]
  rfl
theorem c142 (d : Nat) {o : Nat} (ho : IsW o) {M : am_M} {w : Int → Int} (hR : WR M o w) {i c : Int} (hi : 0 ≤ i ∧ i < 16) (hc : 0 ≤ c ∧ c < 5) : am_run (d + 1) 142 [.inr o, .inl i, .inl c] M = some (pl w i c, M) := by
  rw [e142]
  simp only [w_c ho, w_r5 ho, w_r6 ho, w_r7 ho, w_r8 ho, w_r9 ho, w_r10 ho, w_r11 ho, w_r12 ho, w_r13 ho, w_r14 ho, w_r15 ho, w_r16 ho, w_k1 ho, w_k2 ho, w_k3 ho, w_k4 ho, w_k5 ho, w_k6 ho, w_k7 ho, w_k8 ho, w_k9 ho, w_k10 ho, w_k11 ho, w_k12 ho, w_l1 ho, w_l2 ho, w_l3 ho, w_l4 ho, w_l5 ho, w_l6 ho, w_l7 ho, w_l8 ho, w_l9 ho, w_l10 ho, w_l11 ho, w_l12 ho, w_B5, w_B9, cond_true, Bool.true_or]
  rw [p_w (x := i * 5) (by omega) (by omega), p_w (by omega) (by omega), p_c (by omega), R_loan hR hi.1 hi.2 hc.1 hc.2]
theorem c143_5 (d : Nat) {o : Nat} (ho : IsW o) {M : am_M} {w : Int → Int} (hR : WR M o w) (h : Int) : ∀ (k : Nat) (i : Int), k ≤ 16 → i = k - 1 → am_L (d + 1) 143 5 [some (.inr o), some (.inl h), some (.inl i)] [] M = some (p_find (fun i => decide (pl w i 0 = h)) (-1) k i, M) := by
  intro k
  induction k with
  | zero =>
    intro i hk hi
    rw [e143_5, if_pos (by omega)]
    rfl
  | succ k ih =>
    intro i hk hi
    rw [e143_5, if_neg (by omega), c142 d ho hR (by omega) (by omega), p_b, p_find]
    by_cases hc : pl w i 0 = h
    · simp only [hc, decide_true, if_true]
    · simp only [hc, decide_false, if_false, Bool.false_eq_true]
      rw [p_w (by omega) (by omega)]
      exact ih (i + -1) (by omega) (by omega)
theorem c143 (d : Nat) {o : Nat} (ho : IsW o) {M : am_M} {w : Int → Int} (hR : WR M o w) (hn : 0 ≤ w 1 ∧ w 1 ≤ 16) (h : Int) : am_run (d + 2) 143 [.inr o, .inl h] M = some (pLatest w h, M) := by
  rw [e143]
  simp only [w_c ho, w_r5 ho, w_r6 ho, w_r7 ho, w_r8 ho, w_r9 ho, w_r10 ho, w_r11 ho, w_r12 ho, w_r13 ho, w_r14 ho, w_r15 ho, w_r16 ho, w_k1 ho, w_k2 ho, w_k3 ho, w_k4 ho, w_k5 ho, w_k6 ho, w_k7 ho, w_k8 ho, w_k9 ho, w_k10 ho, w_k11 ho, w_k12 ho, w_l1 ho, w_l2 ho, w_l3 ho, w_l4 ho, w_l5 ho, w_l6 ho, w_l7 ho, w_l8 ho, w_l9 ho, w_l10 ho, w_l11 ho, w_l12 ho, w_B5, w_B9, cond_true, Bool.true_or, R_ln hR]
  rw [p_w (by omega) (by omega)]
  exact c143_5 d ho hR h (w 1).toNat (w 1 - 1) (by omega) (by omega)
theorem c144_4 (d : Nat) {o : Nat} (ho : IsW o) {M : am_M} {w : Int → Int} (hR : WR M o w) (hn : 0 ≤ w 1 ∧ w 1 ≤ 16) (h : Int) : ∀ (k : Nat) (i n : Int), i = w 1 - k → 0 ≤ i → 0 ≤ n → n ≤ i → am_L (d + 1) 144 4 [some (.inr o), some (.inl h), some (.inl n), some (.inl i)] [] M = some (pCnt (fun i => decide (pl w i 0 = h)) k i n, M) := by
  intro k
  induction k with
  | zero =>
    intro i n hi h0 h1 h2
    rw [e144_4]
    simp only [w_c ho, w_r5 ho, w_r6 ho, w_r7 ho, w_r8 ho, w_r9 ho, w_r10 ho, w_r11 ho, w_r12 ho, w_r13 ho, w_r14 ho, w_r15 ho, w_r16 ho, w_k1 ho, w_k2 ho, w_k3 ho, w_k4 ho, w_k5 ho, w_k6 ho, w_k7 ho, w_k8 ho, w_k9 ho, w_k10 ho, w_k11 ho, w_k12 ho, w_l1 ho, w_l2 ho, w_l3 ho, w_l4 ho, w_l5 ho, w_l6 ho, w_l7 ho, w_l8 ho, w_l9 ho, w_l10 ho, w_l11 ho, w_l12 ho, w_B5, w_B9, cond_true, Bool.true_or, R_ln hR]
    rw [if_neg (by omega)]
    rfl
  | succ k ih =>
    intro i n hi h0 h1 h2
    rw [e144_4]
    simp only [w_c ho, w_r5 ho, w_r6 ho, w_r7 ho, w_r8 ho, w_r9 ho, w_r10 ho, w_r11 ho, w_r12 ho, w_r13 ho, w_r14 ho, w_r15 ho, w_r16 ho, w_k1 ho, w_k2 ho, w_k3 ho, w_k4 ho, w_k5 ho, w_k6 ho, w_k7 ho, w_k8 ho, w_k9 ho, w_k10 ho, w_k11 ho, w_k12 ho, w_l1 ho, w_l2 ho, w_l3 ho, w_l4 ho, w_l5 ho, w_l6 ho, w_l7 ho, w_l8 ho, w_l9 ho, w_l10 ho, w_l11 ho, w_l12 ho, w_B5, w_B9, cond_true, Bool.true_or, R_ln hR]
    rw [if_pos (by omega), c142 d ho hR (by omega) (by omega), p_b, pCnt, p_w (x := i + 1) (by omega) (by omega), p_w (x := n + 1) (by omega) (by omega)]
    by_cases hc : pl w i 0 = h
    · simp only [hc, decide_true, if_true]
      exact ih (i + 1) (n + 1) (by omega) (by omega) (by omega) (by omega)
    · simp only [hc, decide_false, if_false, Bool.false_eq_true]
      exact ih (i + 1) n (by omega) (by omega) (by omega) (by omega)
theorem c144 (d : Nat) {o : Nat} (ho : IsW o) {M : am_M} {w : Int → Int} (hR : WR M o w) (hn : 0 ≤ w 1 ∧ w 1 ≤ 16) (h : Int) : am_run (d + 2) 144 [.inr o, .inl h] M = some (pLoans w h, M) := by
  rw [e144]
  simp only [w_c ho, w_r5 ho, w_r6 ho, w_r7 ho, w_r8 ho, w_r9 ho, w_r10 ho, w_r11 ho, w_r12 ho, w_r13 ho, w_r14 ho, w_r15 ho, w_r16 ho, w_k1 ho, w_k2 ho, w_k3 ho, w_k4 ho, w_k5 ho, w_k6 ho, w_k7 ho, w_k8 ho, w_k9 ho, w_k10 ho, w_k11 ho, w_k12 ho, w_l1 ho, w_l2 ho, w_l3 ho, w_l4 ho, w_l5 ho, w_l6 ho, w_l7 ho, w_l8 ho, w_l9 ho, w_l10 ho, w_l11 ho, w_l12 ho, w_B5, w_B9, cond_true, Bool.true_or]
  exact c144_4 d ho hR hn h (w 1).toNat 0 0 (by omega) (by omega) (by omega) (by omega)
theorem c148 (d : Nat) {o : Nat} (ho : IsW o) {M : am_M} {w : Int → Int} (hR : WR M o w) (hn : w 276 ≤ 8) : pOk (am_run (d + 1) 148 [.inr o] M) (fun r M' => r = am_irem (am_iushr (am_wrap (1664525 * w 3 + 1013904223)) 8) 1000 ∧ WR M' o (pDraw w) ∧ CW o M M') := by
  have e : am_wrap (am_wrap (M o 0 * 1664525) + 1013904223) = am_wrap (1664525 * w 3 + 1013904223) := by rw [R_dr hR, p_ww, Int.mul_comm]
  rw [e148]
  simp only [w_c ho, w_r5 ho, w_r6 ho, w_r7 ho, w_r8 ho, w_r9 ho, w_r10 ho, w_r11 ho, w_r12 ho, w_r13 ho, w_r14 ho, w_r15 ho, w_r16 ho, w_k1 ho, w_k2 ho, w_k3 ho, w_k4 ho, w_k5 ho, w_k6 ho, w_k7 ho, w_k8 ho, w_k9 ho, w_k10 ho, w_k11 ho, w_k12 ho, w_l1 ho, w_l2 ho, w_l3 ho, w_l4 ho, w_l5 ho, w_l6 ho, w_l7 ho, w_l8 ho, w_l9 ho, w_l10 ho, w_l11 ho, w_l12 ho, w_B5, w_B9, cond_true, Bool.true_or, e]
  refine pOk_c (by decide) (pOk_s ⟨?_, ?_, ?_⟩)
  · rw [p_ud2]
  · rw [p_upd]
    exact U_dr hR hn
  · intro b hb
    exact p_ud1 (by omega)
theorem pG_pG (w : Int → Int) (h p q : Int) : pGoes (pGoes w h p) h q = pGoes w h q := by
  unfold pGoes
  funext k
  unfold p_up
  by_cases h1 : k = 36 + 10 * h + 7
  · simp only [h1, if_true]
  · simp only [h1, if_false]
    by_cases h2 : k = 36 + 10 * h + 8
    · simp only [h2, if_true]
    · simp only [h2, if_false]
/-- what a loan does in a world of the class -/
theorem c147 (d : Nat) {o : Nat} (ho : IsW o) {M : am_M} {w : Int → Int} {h to n price : Int} (hR : WR M o w) (hw : WF w) (h0 : 0 ≤ w 0 ∧ w 0 ≤ 20000) (hc : pLok w h to n price) : pOk (am_run (d + 2) 147 [.inr o, .inl h, .inl to, .inl n, .inl price] M) (fun r M' => r = w 0 + n ∧ WR M' o (pLends w h to n price) ∧ CW o M M') := by
  have hw' := hw
  have hc' := hc
  obtain ⟨⟨c1, c2⟩, c3, c4, c5, c6, c7⟩ := hc
  obtain ⟨⟨n1, n2, n3⟩, hp, hh, hl, hz⟩ := hw
  have a1 := hh.1 h c1.1 (by omega)
  have hm := p_mul (a := n) (b := price) (by omega) c3.2
  have hr := pOn_range (w := w) (p := to) (s := h % 2) (by omega) n2.1
  have b1 := (hp to c2.1 (by omega)).1
  have b2 := (hp (ph w h 8) (by omega) (by omega)).1
  have ea := R_at hR c1.1 (show h < 16 by omega)
  have eon := R_on hR c2.1 (show to < w 276 by omega) (show 0 ≤ h % 2 by omega) (show h % 2 ≤ 1 by omega)
  have ec := R_coin hR c2.1 (show to < 8 by omega)
  have ec2 := R_coin hR (show 0 ≤ ph w h 8 by omega) (show ph w h 8 < 8 by omega)
  -- coins
  have R1 := U_coin hR n2.2 (p := to) (v := pp w to 0 - n * price) (by omega)
  have R2 := U_coin R1 (by rw [p_off (by omega)]; exact n2.2) (p := ph w h 8) (v := min (pp w (ph w h 8) 0 + n * price) 9999) (by omega)
  simp only [p_st1, p_st3] at R2
  generalize hv2 : p_up (p_up w (4 + 4 * to + 0) (pp w to 0 - n * price)) (4 + 4 * ph w h 8 + 0) (min (pp w (ph w h 8) 0 + n * price) 9999) = v2 at R2
  have off2 : ∀ k, k < 4 ∨ 36 ≤ k → v2 k = w k := by
    intro k hk
    rw [← hv2, p_off (by omega), p_off (by omega)]
  have hh2 : WFh v2 := WFh_same hh (off2 _ (by omega)) (fun g _ _ => off2 _ (by omega)) (fun g k0 k1 => by
    have := hh.2.1 g k0 k1
    unfold ph at this ⊢
    rwa [off2 _ (by omega)])
  have n22 : v2 276 = w 276 := off2 _ (by omega)
  -- hands: v3 with the displaced hand away, v5 with the hand where it goes
  have mid : ∀ (x6 : Int) (v3 : Int → Int) (M3 : am_M), WR M3 o v3 → WFh v3 → v3 276 = w 276 → v3 1 = w 1 → v3 0 = w 0 → ph v3 h 8 = ph w h 8 → pOn v3 to (h % 2) = -1 → CW o M M3 → (∀ k, 0 ≤ k → k < 285 → pLends w h to n price k = (p_up (p_up (p_up (p_up (p_up (p_up (pGoes v3 h to) (196 + 5 * w 1 + 0) h) (196 + 5 * w 1 + 1) (ph w h 8)) (196 + 5 * w 1 + 2) to) (196 + 5 * w 1 + 3) (w 0 + n)) (196 + 5 * w 1 + 4) price) 1 (w 1 + 1)) k) → pOk (am_L (d + 1) 147 46 [some (.inr o), some (.inl h), some (.inl to), some (.inl n), some (.inl price), some (.inl (ph w h 8)), some (.inl x6), none] [] M3) (fun r M' => r = w 0 + n ∧ WR M' o (pLends w h to n price) ∧ CW o M M') := by
    intro x6 v3 M3 hR3 hw3 e276 e1 e0 eat hfree hC he
    rw [e147_46]
    refine pOk_b (c145R d ho hR3 hw3 (by omega) (by omega)) (fun _ M4 ⟨hR4, hC4⟩ => ?_)
    have g4 : pGoes v3 h (-1) 276 = w 276 := by rw [pG_off (by omega), e276]
    have hw5 : WFh (pGoes (pGoes v3 h (-1)) h to) := by
      rw [pG_pG]
      refine WFh_goes hw3 (by omega) (by omega) (by omega) (Or.inr (fun g k0 k1 k2 _ => ?_))
      exact (pOn_none (by omega) (by omega)).mp hfree g k0 k1 k2
    refine pOk_b (c146R d ho (h := h) (p := to) hR4 (by omega) (by omega) hw5 (by omega) (by rw [pG_ph _ _ _ _ _ (by omega), if_pos ⟨rfl, rfl⟩])) (fun _ M5 ⟨hR5, hC5⟩ => ?_)
    rw [pG_pG] at hR5
    have hC' := CW_trans hC (CW_trans hC4 hC5)
    have q1 : pGoes v3 h to 1 = w 1 := by rw [pG_off (by omega), e1]
    have q0 : pGoes v3 h to 0 = w 0 := by rw [pG_off (by omega), e0]
    have q276 : pGoes v3 h to 276 = w 276 := by rw [pG_off (by omega), e276]
    have L1 := U_loan hR5 (by omega) (i := w 1) (c := 0) (v := h) (by omega) (by omega)
    have L2 := U_loan L1 (by rw [p_off (by omega)]; omega) (i := w 1) (c := 1) (v := ph w h 8) (by omega) (by omega)
    have L3 := U_loan L2 (by simp (disch := omega) only [p_off]; omega) (i := w 1) (c := 2) (v := to) (by omega) (by omega)
    have L4 := U_loan L3 (by simp (disch := omega) only [p_off]; omega) (i := w 1) (c := 3) (v := w 0 + n) (by omega) (by omega)
    have L5 := U_loan L4 (by simp (disch := omega) only [p_off]; omega) (i := w 1) (c := 4) (v := price) (by omega) (by omega)
    have L6 := U_ln L5 (by simp (disch := omega) only [p_off]; omega) (v := w 1 + 1)
    have L7 := WR_cg (by simp (disch := omega) only [p_off]; omega) L6 he
    simp (disch := omega) only [p_st1, p_st2, p_st3] at L7
    have k3 : M5 o 3 = w 1 := by rw [R_ln hR5, q1]
    have k1 : M5 o 1 = w 0 := by rw [R_hr hR5, q0]
    simp only [w_c ho, w_r5 ho, w_r6 ho, w_r7 ho, w_r8 ho, w_r9 ho, w_r10 ho, w_r11 ho, w_r12 ho, w_r13 ho, w_r14 ho, w_r15 ho, w_r16 ho, w_k1 ho, w_k2 ho, w_k3 ho, w_k4 ho, w_k5 ho, w_k6 ho, w_k7 ho, w_k8 ho, w_k9 ho, w_k10 ho, w_k11 ho, w_k12 ho, w_l1 ho, w_l2 ho, w_l3 ho, w_l4 ho, w_l5 ho, w_l6 ho, w_l7 ho, w_l8 ho, w_l9 ho, w_l10 ho, w_l11 ho, w_l12 ho, w_B5, w_B9, cond_true, Bool.true_or, k3]
    simp (disch := omega) only [p_w, p_c, p_upd, p_st1, p_st2, p_st3, p_up2, k1, k3]
    refine pOk_s ⟨rfl, L7, fun b hb => ?_⟩
    rw [p_st2 (by omega), p_st2 (by omega)]
    exact hC' b hb
  rw [e147]
  simp only [w_c ho, w_r5 ho, w_r6 ho, w_r7 ho, w_r8 ho, w_r9 ho, w_r10 ho, w_r11 ho, w_r12 ho, w_r13 ho, w_r14 ho, w_r15 ho, w_r16 ho, w_k1 ho, w_k2 ho, w_k3 ho, w_k4 ho, w_k5 ho, w_k6 ho, w_k7 ho, w_k8 ho, w_k9 ho, w_k10 ho, w_k11 ho, w_k12 ho, w_l1 ho, w_l2 ho, w_l3 ho, w_l4 ho, w_l5 ho, w_l6 ho, w_l7 ho, w_l8 ho, w_l9 ho, w_l10 ho, w_l11 ho, w_l12 ho, w_B5, w_B9, cond_true, Bool.true_or, p_and1 c1.1 (show h < 64 by omega), ea]
  simp (disch := omega) only [p_w, eon, ec, p_c, p_upd, p_st1, p_st3, p_up2, ec2]
  have hC2 : CW o M (p_st M (o + 1) (p_up (p_up (M (o + 1)) to (pp w to 0 - n * price)) (ph w h 8) (min (pp w (ph w h 8) 0 + n * price) 9999))) := fun b hb => p_st2 (by omega)
  have key : ∀ v3 : Int → Int, (∀ k, k < 4 → v3 k = w k) → (∀ k, 196 ≤ k → v3 k = w k) → (∀ p, 0 ≤ p → p < 8 → ∀ f, 0 ≤ f → f < 4 → pp v3 p f = pp v2 p f) → (∀ g, 0 ≤ g → g < 16 → ∀ f, 0 ≤ f → f < 10 → ph v3 g f = if g = pOn w to (h % 2) ∧ f = 8 then -1 else if g = pOn w to (h % 2) ∧ f = 7 then 0 else ph w g f) → ∀ k, 0 ≤ k → k < 285 → pLends w h to n price k = (p_up (p_up (p_up (p_up (p_up (p_up (pGoes v3 h to) (196 + 5 * w 1 + 0) h) (196 + 5 * w 1 + 1) (ph w h 8)) (196 + 5 * w 1 + 2) to) (196 + 5 * w 1 + 3) (w 0 + n)) (196 + 5 * w 1 + 4) price) 1 (w 1 + 1)) k := by
    intro v3 lo hi pv hv k k0 k1
    by_cases r1 : k = 1
    · rw [r1, pLends_1 hw' hc', p_up1]
    · by_cases r2 : k < 4 ∨ 276 ≤ k
      · rw [pLends_hi hw' hc' (by omega)]
        simp (disch := omega) only [p_off, pG_off]
        rcases r2 with r2 | r2
        · exact (lo k r2).symm
        · exact (hi k (by omega)).symm
      · by_cases r3 : k < 36
        · have := pLends_pp hw' hc' (p := (k - 4) / 4) (f := (k - 4) % 4) (by omega) (by omega)
          unfold pp at this
          rw [show 4 + 4 * ((k - 4) / 4) + (k - 4) % 4 = k from by omega] at this
          rw [this]
          simp (disch := omega) only [p_off, pG_off]
          have z := pv ((k - 4) / 4) (by omega) (by omega) ((k - 4) % 4) (by omega) (by omega)
          rw [← hv2, pp_up _ _ _ _ _ _ (by omega) (by omega), pp_up _ _ _ _ _ _ (by omega) (by omega)] at z
          unfold pp at z
          rw [show 4 + 4 * ((k - 4) / 4) + (k - 4) % 4 = k from by omega] at z
          rw [z]
          by_cases f0 : (k - 4) % 4 = 0
          · rw [if_pos f0, show 4 + 4 * ((k - 4) / 4) + 0 = k from by omega]
            by_cases t1 : (k - 4) / 4 = to
            · rw [if_pos t1, if_neg (by omega), if_pos ⟨t1, f0⟩, show 4 + 4 * to + 0 = k from by omega]
            · rw [if_neg t1]
              by_cases t2 : (k - 4) / 4 = ph w h 8
              · rw [if_pos t2, if_pos ⟨t2, f0⟩, Int.min_comm, show 4 + 4 * ph w h 8 + 0 = k from by omega]
              · rw [if_neg t2, if_neg (by omega), if_neg (by omega)]
          · rw [if_neg f0, if_neg (by omega), if_neg (by omega)]
        · by_cases r4 : k < 196
          · have := pLends_ph hw' hc' (g := (k - 36) / 10) (f := (k - 36) % 10) (by omega) (by omega)
            unfold ph at this
            rw [show 36 + 10 * ((k - 36) / 10) + (k - 36) % 10 = k from by omega] at this
            rw [this]
            simp (disch := omega) only [p_off]
            have z := pG_ph v3 h to ((k - 36) / 10) ((k - 36) % 10) (by omega)
            rw [hv _ (by omega) (by omega) _ (by omega) (by omega)] at z
            unfold ph at z
            rw [show 36 + 10 * ((k - 36) / 10) + (k - 36) % 10 = k from by omega] at z
            rw [z]
            by_cases f8 : (k - 36) % 10 = 8
            · rw [if_pos f8, show 36 + 10 * ((k - 36) / 10) + 8 = k from by omega]
              by_cases t1 : (k - 36) / 10 = h
              · rw [if_pos t1, if_pos ⟨t1, f8⟩]
              · rw [if_neg t1, if_neg (show ¬ ((k - 36) / 10 = h ∧ (k - 36) % 10 = 8) by omega), if_neg (show ¬ ((k - 36) / 10 = h ∧ (k - 36) % 10 = 7) by omega)]
                by_cases t2 : (k - 36) / 10 = pOn w to (h % 2)
                · rw [if_pos t2, if_pos ⟨t2, f8⟩]
                · rw [if_neg t2, if_neg (by omega), if_neg (by omega)]
            · rw [if_neg f8]
              by_cases f7 : (k - 36) % 10 = 7
              · rw [if_pos f7, show 36 + 10 * ((k - 36) / 10) + 7 = k from by omega]
                by_cases t1 : (k - 36) / 10 = h
                · rw [if_pos (Or.inl t1), if_neg (by omega), if_pos ⟨t1, f7⟩]
                · rw [if_neg (show ¬ ((k - 36) / 10 = h ∧ (k - 36) % 10 = 8) by omega), if_neg (show ¬ ((k - 36) / 10 = h ∧ (k - 36) % 10 = 7) by omega), if_neg (show ¬ ((k - 36) / 10 = pOn w to (h % 2) ∧ (k - 36) % 10 = 8) by omega)]
                  by_cases t2 : (k - 36) / 10 = pOn w to (h % 2)
                  · rw [if_pos (Or.inr t2), if_pos ⟨t2, f7⟩]
                  · rw [if_neg (by omega), if_neg (by omega)]
              · rw [if_neg f7, if_neg (by omega), if_neg (by omega), if_neg (by omega), if_neg (by omega)]
          · have := pLends_pl hw' hc' (i := (k - 196) / 5) (f := (k - 196) % 5) (by omega) (by omega)
            unfold pl at this
            rw [show 196 + 5 * ((k - 196) / 5) + (k - 196) % 5 = k from by omega] at this
            rw [this]
            rw [p_off (by omega)]
            unfold p_up
            by_cases t1 : (k - 196) / 5 = w 1
            · rw [if_pos t1]
              by_cases g4 : (k - 196) % 5 = 4
              · simp (disch := omega) only [if_pos, if_neg]
              by_cases g3 : (k - 196) % 5 = 3
              · simp (disch := omega) only [if_pos, if_neg]
              by_cases g2 : (k - 196) % 5 = 2
              · simp (disch := omega) only [if_pos, if_neg]
              by_cases g1 : (k - 196) % 5 = 1
              · simp (disch := omega) only [if_pos, if_neg]
              · simp (disch := omega) only [if_pos, if_neg]
            · simp (disch := omega) only [if_neg, pG_off]
              exact (hi k (by omega)).symm
  by_cases hq : pOn w to (h % 2) = -1
  · rw [if_pos hq]
    refine mid _ v2 _ R2 hh2 n22 (off2 _ (by omega)) (off2 _ (by omega)) (off2 _ (by omega)) ?_ hC2 (key v2 (fun k hk => off2 k (by omega)) (fun k hk => off2 k (by omega)) (fun _ _ _ _ _ _ => rfl) (fun g k0 k1 f k2 k3 => ?_))
    · rw [← hq]
      exact pOn_cg (by omega) n22 (fun g _ _ => off2 _ (by omega))
    · rw [if_neg (by omega), if_neg (by omega)]
      exact off2 _ (by omega)
  · rw [if_neg hq]
    refine pOk_b (c145R (d := d) ho R2 hh2 (by omega) (h := pOn w to (h % 2)) (by omega)) (fun _ M3 ⟨hR3, hC3⟩ => ?_)
    have g276 : pGoes v2 (pOn w to (h % 2)) (-1) 276 = w 276 := by rw [pG_off (by omega), n22]
    have hw3 : WFh (pGoes v2 (pOn w to (h % 2)) (-1)) := WFh_goes hh2 (by omega) (by omega) (by omega) (Or.inl rfl)
    have hph : ∀ g, 0 ≤ g → g < 16 → ∀ f, 0 ≤ f → f < 10 → ph (pGoes v2 (pOn w to (h % 2)) (-1)) g f = if g = pOn w to (h % 2) ∧ f = 8 then -1 else if g = pOn w to (h % 2) ∧ f = 7 then 0 else ph w g f := by
      intro g k0 k1 f k2 k3
      rw [pG_ph _ _ _ _ _ (by omega), show ph v2 g f = ph w g f from off2 _ (by omega)]
    refine mid _ _ M3 hR3 hw3 g276 ?_ ?_ ?_ ?_ (CW_trans hC2 hC3) (key _ (fun k hk => ?_) (fun k hk => ?_) (fun p k0 k1 f k2 k3 => ?_) hph)
    · rw [pG_off (by omega), off2 _ (by omega)]
    · rw [pG_off (by omega), off2 _ (by omega)]
    · have hne : h ≠ pOn w to (h % 2) := by
        intro q
        rcases hr with z | ⟨-, -, -, z⟩
        · exact hq z
        · rw [← q] at z
          exact c6 z
      rw [hph _ (by omega) (by omega) _ (by omega) (by omega), if_neg (fun q => hne q.1), if_neg (fun q => hne q.1)]
    · refine (pOn_none (by omega) (by omega)).mpr (fun g k0 k1 k2 => ?_)
      rw [g276] at k1
      rw [hph _ (by omega) (by omega) _ (by omega) (by omega), if_neg (show ¬ (g = pOn w to (h % 2) ∧ (8 : Int) = 7) by omega)]
      by_cases t : g = pOn w to (h % 2)
      · rw [if_pos ⟨t, rfl⟩]; omega
      · rw [if_neg (by omega)]
        intro z
        exact t (pOn_is hh (by omega) (by omega) n2.1 ⟨k0, k1⟩ k2 z).symm
    · rw [pG_off (by omega), off2 _ (by omega)]
    · rw [pG_off (by omega), off2 _ (by omega)]
    · rw [pp_goes ⟨k0, k1⟩ ⟨k2, k3⟩ (by omega)]
end
section
/-! PURE: a world's hour -/
theorem pMk_0 (w : Int → Int) : pMk w 0 = w := by
  funext k
  exact pMk_off (by omega)
theorem c149 (d : Nat) {o : Nat} (ho : IsW o) {M : am_M} {w : Int → Int} (hR : WR M o w) (hn : 0 ≤ w 276 ∧ w 276 ≤ 8) (h0 : 0 ≤ w 0 ∧ w 0 ≤ 20000) : pOk (am_run (d + 1) 149 [.inr o] M) (fun _ M' => WR M' o (p_up (pMarks w) 0 (w 0 + 1)) ∧ CW o M M') := by
  have main : ∀ (k : Nat) (i : Int) (M' : am_M), i = 2 * w 276 - k → 0 ≤ i → WR M' o (pMk w i) → CW o M M' → pOk (am_L d 149 2 [some (.inr o), some (.inl i)] [] M') (fun _ M' => WR M' o (p_up (pMarks w) 0 (w 0 + 1)) ∧ CW o M M') := by
    intro k
    induction k with
    | zero =>
      intro i M' hi hi0 hR' hC
      obtain rfl : i = 2 * w 276 := by omega
      have e276 : pMk w (2 * w 276) 276 = w 276 := pMk_off (by omega)
      have e0 : pMk w (2 * w 276) 0 = w 0 := pMk_off (by omega)
      have eh := R_hr hR'
      rw [e149_2]
      simp only [w_c ho, w_r5 ho, w_r6 ho, w_r7 ho, w_r8 ho, w_r9 ho, w_r10 ho, w_r11 ho, w_r12 ho, w_r13 ho, w_r14 ho, w_r15 ho, w_r16 ho, w_k1 ho, w_k2 ho, w_k3 ho, w_k4 ho, w_k5 ho, w_k6 ho, w_k7 ho, w_k8 ho, w_k9 ho, w_k10 ho, w_k11 ho, w_k12 ho, w_l1 ho, w_l2 ho, w_l3 ho, w_l4 ho, w_l5 ho, w_l6 ho, w_l7 ho, w_l8 ho, w_l9 ho, w_l10 ho, w_l11 ho, w_l12 ho, w_B5, w_B9, cond_true, Bool.true_or, R_n hR', e276]
      rw [p_w (x := 2 * w 276) (by omega) (by omega), if_neg (by omega), eh, e0, p_w (by omega) (by omega), p_upd]
      exact pOk_s ⟨U_hr hR' (by omega), fun b hb => by rw [p_st2 (by omega)]; exact hC b hb⟩
    | succ k ih =>
      intro i M' hi hi0 hR' hC
      have e276 : pMk w i 276 = w 276 := pMk_off (by omega)
      have e8 : ph (pMk w i) i 8 = ph w i 8 := pMk_off (by omega)
      have e7 : ph (pMk w i) i 7 = ph w i 7 := pMk_off (by omega)
      have e6 : ph (pMk w i) i 6 = ph w i 6 := pMk_off (by omega)
      have ea := R_at hR' hi0 (show i < 16 by omega)
      have eh := R_held hR' hi0 (show i < 16 by omega)
      have em := R_marks hR' hi0 (show i < 16 by omega)
      rw [e8] at ea
      rw [e7] at eh
      rw [e6] at em
      rw [e149_2]
      simp only [w_c ho, w_r5 ho, w_r6 ho, w_r7 ho, w_r8 ho, w_r9 ho, w_r10 ho, w_r11 ho, w_r12 ho, w_r13 ho, w_r14 ho, w_r15 ho, w_r16 ho, w_k1 ho, w_k2 ho, w_k3 ho, w_k4 ho, w_k5 ho, w_k6 ho, w_k7 ho, w_k8 ho, w_k9 ho, w_k10 ho, w_k11 ho, w_k12 ho, w_l1 ho, w_l2 ho, w_l3 ho, w_l4 ho, w_l5 ho, w_l6 ho, w_l7 ho, w_l8 ho, w_l9 ho, w_l10 ho, w_l11 ho, w_l12 ho, w_B5, w_B9, cond_true, Bool.true_or, R_n hR', e276]
      rw [p_w (x := 2 * w 276) (by omega) (by omega), if_pos (by omega), p_c (by omega), ea, p_w (x := i + 1) (by omega) (by omega)]
      by_cases h : ph w i 8 = -1
      · rw [if_pos h]
        refine ih (i + 1) M' (by omega) (by omega) ?_ hC
        rw [pMk_next1 hi0 h]
        exact hR'
      · rw [if_neg h]
        simp (disch := omega) only [p_c, p_upd, p_st1, p_st2, eh, em, ea]
        have R1 := U_held hR' (by omega) (h := i) (v := am_wrap (ph w i 7 + 1)) (by omega)
        have R2 := U_marks R1 (by rw [p_off (by omega)]; omega) (h := i) (v := am_ior (ph w i 6) (am_ishl 1 (ph w i 8))) (by omega)
        simp (disch := omega) only [p_st2] at R2
        refine ih (i + 1) _ (by omega) (by omega) ?_ (fun b hb => by rw [p_st2 (by omega), p_st2 (by omega)]; exact hC b hb)
        rw [pMk_next2 hi0 h]
        exact R2
  rw [e149]
  simp only [w_c ho, w_r5 ho, w_r6 ho, w_r7 ho, w_r8 ho, w_r9 ho, w_r10 ho, w_r11 ho, w_r12 ho, w_r13 ho, w_r14 ho, w_r15 ho, w_r16 ho, w_k1 ho, w_k2 ho, w_k3 ho, w_k4 ho, w_k5 ho, w_k6 ho, w_k7 ho, w_k8 ho, w_k9 ho, w_k10 ho, w_k11 ho, w_k12 ho, w_l1 ho, w_l2 ho, w_l3 ho, w_l4 ho, w_l5 ho, w_l6 ho, w_l7 ho, w_l8 ho, w_l9 ho, w_l10 ho, w_l11 ho, w_l12 ho, w_B5, w_B9, cond_true, Bool.true_or]
  exact main (2 * w 276).toNat 0 M (by omega) (by omega) (by rw [pMk_0]; exact hR) (CW_refl _ _)
theorem c151 (d : Nat) {o : Nat} (ho : IsW o) {M : am_M} {w : Int → Int} (hR : WR M o w) (hw : WF w) {i : Int} (hi : 0 ≤ i ∧ i < w 1) : pOk (am_run (d + 2) 151 [.inr o, .inl (pl w i 0), .inl (pl w i 1), .inl (pl w i 2)] M) (fun _ M' => WR M' o (pEn3 w i) ∧ CW o M M') := by
  have hw3 := pEn3_WFh hw hi
  have hw' := hw
  obtain ⟨⟨n1, n2, n3⟩, hp, hh, hl, hz⟩ := hw
  obtain ⟨l0, l1, l2⟩ := hl i hi.1 hi.2
  have e2 : pEn2 w i = pGoes w (pl w i 0) (if pOn (pGoes w (pl w i 0) (-1)) (pl w i 1) (pl w i 0 % 2) = -1 then pl w i 1 else -1) := by
    unfold pEn2
    have e : pOn (p_up w (36 + 10 * pl w i 0 + 8) (-1)) (pl w i 1) (pl w i 0 % 2) = pOn (pGoes w (pl w i 0) (-1)) (pl w i 1) (pl w i 0 % 2) := by
      unfold pGoes
      exact (pOn_off (w := p_up w (36 + 10 * pl w i 0 + 8) (-1)) (i := 36 + 10 * pl w i 0 + 7) (v := 0) (by omega) (by omega) (by omega) (by rw [p_off (by omega)]; omega)).symm
    rw [e, pG_up]
  have g1 : pGoes w (pl w i 0) (-1) 276 = w 276 := pG_off (by omega)
  have w1 : WFh (pGoes w (pl w i 0) (-1)) := WFh_goes hh n2.2 l0 (by omega) (Or.inl rfl)
  rw [e151]
  simp only [w_c ho, w_r5 ho, w_r6 ho, w_r7 ho, w_r8 ho, w_r9 ho, w_r10 ho, w_r11 ho, w_r12 ho, w_r13 ho, w_r14 ho, w_r15 ho, w_r16 ho, w_k1 ho, w_k2 ho, w_k3 ho, w_k4 ho, w_k5 ho, w_k6 ho, w_k7 ho, w_k8 ho, w_k9 ho, w_k10 ho, w_k11 ho, w_k12 ho, w_l1 ho, w_l2 ho, w_l3 ho, w_l4 ho, w_l5 ho, w_l6 ho, w_l7 ho, w_l8 ho, w_l9 ho, w_l10 ho, w_l11 ho, w_l12 ho, w_B5, w_B9, cond_true, Bool.true_or, p_and1 l0.1 (show pl w i 0 < 64 by omega)]
  refine pOk_b (c145R d ho hR hh n2 l0) (fun _ M1 ⟨R1, C1⟩ => ?_)
  have on1 := R_on R1 l1.1 (by omega) (show 0 ≤ pl w i 0 % 2 by omega) (show pl w i 0 % 2 ≤ 1 by omega)
  have fin : ∀ M3, WR M3 o (pEn2 w i) → WFh (pEn2 w i) → CW o M M3 → pOk (am_chk (0 ≤ (am_wrap (am_wrap (2 * pl w i 2) + pl w i 0 % 2) : Int) ∧ am_wrap (am_wrap (2 * pl w i 2) + pl w i 0 % 2) < 16) (if (M3 (o + 5) (am_wrap (am_wrap (2 * pl w i 2) + pl w i 0 % 2)) : Int) = -1 then am_chk (0 ≤ (am_wrap (am_wrap (2 * pl w i 2) + pl w i 0 % 2) : Int) ∧ am_wrap (am_wrap (2 * pl w i 2) + pl w i 0 % 2) < 16) (if (M3 (o + 6) (am_wrap (am_wrap (2 * pl w i 2) + pl w i 0 % 2)) : Int) = -1 then am_bnd (am_run (d + 1) 146 [.inr o, .inl (am_wrap (am_wrap (2 * pl w i 2) + pl w i 0 % 2)), .inl (pl w i 2)] M3) (fun _ M4 => some (0, M4)) else some (0, M3)) else some (0, M3))) (fun _ M' => WR M' o (pEn3 w i) ∧ CW o M M') := by
    intro M3 R3 W3 C3
    have g2 : pEn2 w i 276 = w 276 := pEn2_off (by omega)
    have on3 := R_on R3 l2.1 (by omega) (show 0 ≤ pl w i 0 % 2 by omega) (show pl w i 0 % 2 ≤ 1 by omega)
    have at3 := R_at R3 (g := 2 * pl w i 2 + pl w i 0 % 2) (by omega) (by omega)
    simp (disch := omega) only [p_w, p_c, on3, at3]
    unfold pEn3 at hw3 ⊢
    by_cases h1 : pOn (pEn2 w i) (pl w i 2) (pl w i 0 % 2) = -1
    · rw [if_pos h1]
      by_cases h2 : ph (pEn2 w i) (2 * pl w i 2 + pl w i 0 % 2) 8 = -1
      · rw [if_pos h2, if_pos ⟨h1, h2⟩]
        rw [if_pos ⟨h1, h2⟩] at hw3
        exact pOk_b (c146R d ho (h := 2 * pl w i 2 + pl w i 0 % 2) (p := pl w i 2) R3 (by omega) (by omega) hw3 (by omega) h2) (fun _ M4 ⟨R4, C4⟩ => pOk_s ⟨R4, CW_trans C3 C4⟩)
      · rw [if_neg h2, if_neg (fun q => h2 q.2)]
        exact pOk_s ⟨R3, C3⟩
    · rw [if_neg h1, if_neg (fun q => h1 q.1)]
      exact pOk_s ⟨R3, C3⟩
  simp (disch := omega) only [p_w, p_c, on1] at fin ⊢
  by_cases h1 : pOn (pGoes w (pl w i 0) (-1)) (pl w i 1) (pl w i 0 % 2) = -1
  · rw [if_pos h1] at e2 ⊢
    have W2 : WFh (pGoes (pGoes w (pl w i 0) (-1)) (pl w i 0) (pl w i 1)) := by
      rw [pG_pG]
      refine WFh_goes hh n2.2 l0 (by omega) (Or.inr (fun g k0 k1 k2 k3 => ?_))
      have := (pOn_none (by omega) (by omega)).mp h1 g k0 (by omega) k2
      rwa [pG_ph _ _ _ _ _ (by omega), if_neg (by omega), if_neg (by omega)] at this
    refine pOk_b (c146R d ho (h := pl w i 0) (p := pl w i 1) R1 (by omega) (by omega) W2 (by omega) (by rw [pG_ph _ _ _ _ _ (by omega), if_pos ⟨rfl, rfl⟩])) (fun _ M3 ⟨R3, C3⟩ => ?_)
    rw [pG_pG, ← e2] at R3 W2
    exact fin M3 R3 W2 (CW_trans C1 C3)
  · rw [if_neg h1] at e2 ⊢
    rw [← e2] at R1 w1
    exact fin M1 R1 w1 C1
theorem U_shift {M : am_M} {o : Nat} {v : Int → Int} (hR : WR M o v) (hn : v 276 ≤ 8) {i : Int} (hi : 0 ≤ i ∧ i < v 1) (h1 : v 1 ≤ 16) : WR (p_st (p_st M (o + 12) (fun k => if 5 * i ≤ k ∧ k < 5 * i + 5 * (v 1 - 1 - i) then M (o + 12) (k + 5) else M (o + 12) k)) o (p_up (M o) 3 (v 1 - 1))) o (p_up (pCp v (fun k => v (k + 5)) (196 + 5 * i) (5 * (v 1 - 1 - i))) 1 (v 1 - 1)) := by
  have R5 : WR (p_st M (o + 12) (fun k => if 5 * i ≤ k ∧ k < 5 * i + 5 * (v 1 - 1 - i) then M (o + 12) (k + 5) else M (o + 12) k)) o (pCp v (fun k => v (k + 5)) (196 + 5 * i) (5 * (v 1 - 1 - i))) := by
    obtain ⟨h1, h2, h3, h4, h5, h6⟩ := hR
    refine ⟨?_, ?_, ?_, ?_, ?_, ?_⟩
    · simp (disch := omega) only [p_st2, pCp_out]
      exact h1
    · intro p k0 k1
      unfold pp
      simp (disch := omega) only [p_st2, pCp_out]
      exact h2 p k0 k1
    · intro p s k0 k1 k2 k3
      rw [pCp_out (by omega)] at k1
      simp (disch := omega) only [p_st2]
      rw [h3 p s k0 k1 k2 k3]
      exact (pOn_cg ⟨k2, k3⟩ (pCp_out (by omega)) (fun g _ _ => pCp_out (by omega))).symm
    · intro g k0 k1
      unfold ph
      simp (disch := omega) only [p_st2, pCp_out]
      exact h4 g k0 k1
    · intro g k k0 k1 k2 k3
      unfold ph
      simp (disch := omega) only [p_st2, pCp_out]
      exact h5 g k k0 k1 k2 k3
    · intro k k0 k1
      rw [p_st1]
      by_cases q : 5 * i ≤ k ∧ k < 5 * i + 5 * (v 1 - 1 - i)
      · rw [if_pos q, pCp_in (by omega), h6 (k + 5) (by omega) (by omega)]
        congr 1
        omega
      · rw [if_neg q, pCp_out (by omega), h6 k k0 k1]
  have q := U_ln R5 (v := v 1 - 1) (by rw [pCp_out (by omega)]; exact hn)
  rw [p_st2 (show o ≠ o + 12 by omega)] at q
  exact q
theorem c150_5 (d : Nat) {o : Nat} (ho : IsW o) (M : am_M) : ∀ (k : Nat) (w : Int → Int) (M' : am_M) (o2 : Option am_V), WF w → WR M' o w → (k : Int) ≤ w 1 → CW o M M' → pOk (am_L (d + 2) 150 5 [some (.inr o), some (.inl ((k : Int) - 1)), o2] [] M') (fun _ M' => WR M' o (pEA k w) ∧ CW o M M') := by
  intro k
  induction k with
  | zero =>
    intro w M' o2 hw hR hk hC
    rw [e150_5, if_pos (by omega)]
    exact pOk_s ⟨hR, hC⟩
  | succ k ih =>
    intro w M' o2 hw hR hk hC
    have n1 := hw.1.1
    have n2 := hw.1.2.1
    have hk2 : 0 ≤ (k : Int) ∧ (k : Int) < w 1 := by omega
    obtain ⟨l0, l1, l2⟩ := hw.2.2.2.1 k hk2.1 hk2.2
    rw [e150_5]
    simp only [w_r16 ho, w_k12 ho, w_c ho, w_B5, w_B9, cond_true, Bool.and_self, w_l12 ho]
    rw [if_neg (by omega), show ((k + 1 : Nat) : Int) - 1 = k from by omega, c142 _ ho hR (by omega) (by omega), p_b, R_hr hR]
    rw [pEA, p_w (x := (k : Int) + -1) (by omega) (by omega), show (k : Int) + -1 = (k : Int) - 1 from by omega]
    by_cases h : w 0 < pl w k 3
    · rw [if_pos h, if_pos h]
      exact ih w M' _ hw hR (by omega) hC
    · rw [if_neg h, if_neg h, c142 _ ho hR (by omega) (by omega), p_b, c142 _ ho hR (by omega) (by omega), p_b, c142 _ ho hR (by omega) (by omega), p_b]
      refine pOk_b (c151 d ho hR hw hk2) (fun _ M5 ⟨R5, C5⟩ => ?_)
      have e1 : pEn3 w k 1 = w 1 := pEn3_off (by omega) (by omega)
      have e276 : pEn3 w k 276 = w 276 := pEn3_off (by omega) (by omega)
      have k3 : M5 o 3 = w 1 := by rw [R_ln R5, e1]
      have R6 := U_shift R5 (by omega) (i := k) (by omega) (by omega)
      rw [e1] at R6
      have next := ih (pEnds w k) (p_st (p_st M5 (o + 12) (fun j => if 5 * (k : Int) ≤ j ∧ j < 5 * (k : Int) + 5 * (w 1 - 1 - k) then M5 (o + 12) (j + 5) else M5 (o + 12) j)) o (p_up (M5 o) 3 (w 1 - 1)))
      simp (disch := omega) only [p_w, k3]
      rw [p_c (by omega)]
      simp (disch := omega) only [p_upd, p_cpy, p_st2, k3, p_w]
      have ef : (fun j => if ((k : Int) + 1) * 5 - 5 ≤ j ∧ j < ((k : Int) + 1) * 5 - 5 + (w 1 * 5 - ((k : Int) + 1) * 5) then M5 (o + 12) (((k : Int) + 1) * 5 + (j - (((k : Int) + 1) * 5 - 5))) else M5 (o + 12) j) = (fun j => if 5 * (k : Int) ≤ j ∧ j < 5 * (k : Int) + 5 * (w 1 - 1 - k) then M5 (o + 12) (j + 5) else M5 (o + 12) j) := by
        funext j
        by_cases q : 5 * (k : Int) ≤ j ∧ j < 5 * (k : Int) + 5 * (w 1 - 1 - k)
        · rw [if_pos q, if_pos (by omega)]
          congr 1
          omega
        · rw [if_neg q, if_neg (by omega)]
      rw [ef]
      exact next _ (pEnds_WF hw hk2) R6 (by rw [pEnds_1]; omega) (fun b hb => by rw [p_st2 (by omega), p_st2 (by omega)]; exact CW_trans hC C5 b hb)
theorem c150 (d : Nat) {o : Nat} (ho : IsW o) {M : am_M} {w : Int → Int} (hR : WR M o w) (hw : WF w) : pOk (am_run (d + 3) 150 [.inr o] M) (fun _ M' => WR M' o (pEA (w 1).toNat w) ∧ CW o M M') := by
  have n1 := hw.1.1
  rw [e150]
  simp only [w_c ho, w_r5 ho, w_r6 ho, w_r7 ho, w_r8 ho, w_r9 ho, w_r10 ho, w_r11 ho, w_r12 ho, w_r13 ho, w_r14 ho, w_r15 ho, w_r16 ho, w_k1 ho, w_k2 ho, w_k3 ho, w_k4 ho, w_k5 ho, w_k6 ho, w_k7 ho, w_k8 ho, w_k9 ho, w_k10 ho, w_k11 ho, w_k12 ho, w_l1 ho, w_l2 ho, w_l3 ho, w_l4 ho, w_l5 ho, w_l6 ho, w_l7 ho, w_l8 ho, w_l9 ho, w_l10 ho, w_l11 ho, w_l12 ho, w_B5, w_B9, cond_true, Bool.true_or, R_ln hR]
  rw [p_w (by omega) (by omega)]
  have := c150_5 d ho M (w 1).toNat w M none hw hR (by omega) (CW_refl _ _)
  rwa [show (((w 1).toNat : Nat) : Int) = w 1 from by omega] at this
end
section
/-! PURE: what a law comes to, in the class -/
def IsL (a : Nat) : Prop := a = 34 ∨ a = 40 ∨ a = 46 ∨ a = 72 ∨ a = 78 ∨ a = 84 ∨ a = 96
theorem l_c {o : Nat} (h : IsL o) : am_cls o = 1 := by rcases h with rfl | rfl | rfl | rfl | rfl | rfl | rfl <;> rfl
theorem l_B1 : Nat.beq 1 1 = true := rfl
theorem l_r2 {o : Nat} (h : IsL o) : am_rf o 2 = o + 1 := by rcases h with rfl | rfl | rfl | rfl | rfl | rfl | rfl <;> rfl
theorem l_k1 {o : Nat} (h : IsL o) : am_cls (o + 1) = 9 := by rcases h with rfl | rfl | rfl | rfl | rfl | rfl | rfl <;> rfl
theorem l_l1 {o : Nat} (h : IsL o) (M : am_M) : am_len M (o + 1) = 16 := by rcases h with rfl | rfl | rfl | rfl | rfl | rfl | rfl <;> rfl
theorem l_r3 {o : Nat} (h : IsL o) : am_rf o 3 = o + 2 := by rcases h with rfl | rfl | rfl | rfl | rfl | rfl | rfl <;> rfl
theorem l_k2 {o : Nat} (h : IsL o) : am_cls (o + 2) = 9 := by rcases h with rfl | rfl | rfl | rfl | rfl | rfl | rfl <;> rfl
theorem l_l2 {o : Nat} (h : IsL o) (M : am_M) : am_len M (o + 2) = 16 := by rcases h with rfl | rfl | rfl | rfl | rfl | rfl | rfl <;> rfl
theorem l_r4 {o : Nat} (h : IsL o) : am_rf o 4 = o + 3 := by rcases h with rfl | rfl | rfl | rfl | rfl | rfl | rfl <;> rfl
theorem l_k3 {o : Nat} (h : IsL o) : am_cls (o + 3) = 9 := by rcases h with rfl | rfl | rfl | rfl | rfl | rfl | rfl <;> rfl
theorem l_l3 {o : Nat} (h : IsL o) (M : am_M) : am_len M (o + 3) = 16 := by rcases h with rfl | rfl | rfl | rfl | rfl | rfl | rfl <;> rfl
theorem l_r5 {o : Nat} (h : IsL o) : am_rf o 5 = o + 4 := by rcases h with rfl | rfl | rfl | rfl | rfl | rfl | rfl <;> rfl
theorem l_k4 {o : Nat} (h : IsL o) : am_cls (o + 4) = 9 := by rcases h with rfl | rfl | rfl | rfl | rfl | rfl | rfl <;> rfl
theorem l_l4 {o : Nat} (h : IsL o) (M : am_M) : am_len M (o + 4) = 16 := by rcases h with rfl | rfl | rfl | rfl | rfl | rfl | rfl <;> rfl
theorem l_r6 {o : Nat} (h : IsL o) : am_rf o 6 = o + 5 := by rcases h with rfl | rfl | rfl | rfl | rfl | rfl | rfl <;> rfl
theorem l_k5 {o : Nat} (h : IsL o) : am_cls (o + 5) = 9 := by rcases h with rfl | rfl | rfl | rfl | rfl | rfl | rfl <;> rfl
theorem l_l5 {o : Nat} (h : IsL o) (M : am_M) : am_len M (o + 5) = 400 := by rcases h with rfl | rfl | rfl | rfl | rfl | rfl | rfl <;> rfl
/-- steps with types: what stands on the stack, numbers and truths -/
def pTy : List (Int × Int) → List Bool → Option (List Bool)
  | [], st => some st
  | q :: l, st => if q.1 < 23 then (if 0 ≤ q.1 ∧ q.1 < 15 ∧ (q.1 = 0 → 0 ≤ q.2 ∧ q.2 ≤ 9999) ∧ st.length < 30 then pTy l (false :: st) else none)
    else if q.1 = 26 then (match st with
      | false :: r => if 1 ≤ q.2 ∧ q.2 ≤ 9999 ∧ st.length < 30 then pTy l (false :: r) else none
      | _ => none)
    else if q.1 = 30 then (match st with
      | true :: r => pTy l (true :: r)
      | _ => none)
    else if q.1 ≤ 25 then (match st with
      | false :: false :: r => pTy l (false :: r)
      | _ => none)
    else if q.1 ≤ 29 then (match st with
      | false :: false :: r => pTy l (true :: r)
      | _ => none)
    else if q.1 ≤ 32 then (match st with
      | true :: true :: r => pTy l (true :: r)
      | _ => none)
    else none
/-- a stack of the types -/
def pOf : List Bool → List Int → Prop
  | [], [] => True
  | t :: ts, x :: st => (t = true → x = 0 ∨ x = 1) ∧ pOf ts st
  | _, _ => False
theorem pOf_len : ∀ {ts : List Bool} {st : List Int}, pOf ts st → ts.length = st.length := by
  intro ts
  induction ts with
  | nil => intro st h; cases st with
    | nil => rfl
    | cons x st => exact h.elim
  | cons t ts ih => intro st h; cases st with
    | nil => exact h.elim
    | cons x st => simp [ih h.2]
theorem pNot_01 {x : Int} (h : x = 0 ∨ x = 1) : am_wrap (1 - x) = 0 ∨ am_wrap (1 - x) = 1 := by
  rcases h with rfl | rfl
  · exact Or.inr (by decide)
  · exact Or.inl (by decide)
theorem pAnd_01 {x y : Int} (h : x = 0 ∨ x = 1) (h2 : y = 0 ∨ y = 1) : (am_iand x y = 0 ∨ am_iand x y = 1) ∧ (am_ior x y = 0 ∨ am_ior x y = 1) := by
  rcases h with rfl | rfl <;> rcases h2 with rfl | rfl <;> decide
/-- well typed steps run, whatever is asked -/
theorem pTy_run (f : Int → Int) : ∀ (l : List (Int × Int)) (ts ts' : List Bool) (st : List Int), pTy l ts = some ts' → pOf ts st → ∃ st', pMrun f l st = some st' ∧ pOf ts' st' := by
  intro l
  induction l with
  | nil => intro ts ts' st h hs; cases h; exact ⟨st, rfl, hs⟩
  | cons q l ih =>
    intro ts ts' st h hs
    have hl := pOf_len hs
    unfold pTy at h
    show ∃ st', (pMst f q st).bind (pMrun f l) = some st' ∧ pOf ts' st'
    unfold pMst
    by_cases c1 : q.1 < 23
    · rw [if_pos c1] at h
      rw [if_pos c1]
      by_cases c2 : 0 ≤ q.1 ∧ q.1 < 15 ∧ (q.1 = 0 → 0 ≤ q.2 ∧ q.2 ≤ 9999) ∧ ts.length < 30
      · rw [if_pos c2] at h
        rw [if_pos ⟨c2.1, c2.2.1, by omega⟩]
        exact ih _ _ _ h ⟨fun q => absurd q (by decide), hs⟩
      · rw [if_neg c2] at h; cases h
    · rw [if_neg c1] at h
      rw [if_neg c1]
      by_cases c3 : q.1 = 26
      · rw [if_pos c3] at h
        rw [if_pos c3]
        match ts, st, hs, h with
        | false :: r, x :: st, hs, h =>
          dsimp only at h ⊢
          by_cases c4 : 1 ≤ q.2 ∧ q.2 ≤ 9999 ∧ (false :: r).length < 30
          · rw [if_pos c4] at h
            rw [if_neg (by omega)]
            exact ih _ _ _ h ⟨fun q => absurd q (by decide), hs.2⟩
          · rw [if_neg c4] at h; cases h
        | true :: r, _, _, h => cases h
        | [], _, _, h => cases h
      · rw [if_neg c3] at h
        rw [if_neg c3]
        by_cases c5 : q.1 = 30
        · rw [if_pos c5] at h
          rw [if_pos c5]
          match ts, st, hs, h with
          | true :: r, x :: st, hs, h => exact ih _ _ _ h ⟨fun _ => pNot_01 (hs.1 rfl), hs.2⟩
          | false :: r, _, _, h => cases h
          | [], _, _, h => cases h
        · rw [if_neg c5] at h
          rw [if_neg c5]
          by_cases c6 : q.1 ≤ 25
          · rw [if_pos c6] at h
            match ts, st, hs, h with
            | false :: false :: r, x :: y :: st, hs, h => exact ih _ _ _ h ⟨fun q => absurd q (by decide), hs.2.2⟩
            | [], _, _, h => cases h
            | [false], _, _, h => cases h
            | [true], _, _, h => cases h
            | true :: _ :: _, _, _, h => cases h
            | false :: true :: _, _, _, h => cases h
          · rw [if_neg c6] at h
            by_cases c7 : q.1 ≤ 29
            · rw [if_pos c7] at h
              match ts, st, hs, h with
              | false :: false :: r, x :: y :: st, hs, h =>
                refine ih _ _ _ h ⟨fun _ => ?_, hs.2.2⟩
                unfold pBoth
                rw [if_neg (by omega), if_neg (by omega), if_neg (by omega)]
                by_cases d1 : q.1 = 27
                · rw [if_pos d1]
                  by_cases d : y < x
                  · rw [if_pos d]; exact Or.inr rfl
                  · rw [if_neg d]; exact Or.inl rfl
                · rw [if_neg d1]
                  by_cases d2 : q.1 = 28
                  · rw [if_pos d2]
                    by_cases d : y = x
                    · rw [if_pos d]; exact Or.inr rfl
                    · rw [if_neg d]; exact Or.inl rfl
                  · rw [if_neg d2, if_pos (by omega)]
                    by_cases d : x < y
                    · rw [if_pos d]; exact Or.inr rfl
                    · rw [if_neg d]; exact Or.inl rfl
              | [], _, _, h => cases h
              | [false], _, _, h => cases h
              | [true], _, _, h => cases h
              | true :: _ :: _, _, _, h => cases h
              | false :: true :: _, _, _, h => cases h
            · rw [if_neg c7] at h
              by_cases c8 : q.1 ≤ 32
              · rw [if_pos c8] at h
                match ts, st, hs, h with
                | true :: true :: r, x :: y :: st, hs, h =>
                  refine ih _ _ _ h ⟨fun _ => ?_, hs.2.2⟩
                  have := pAnd_01 (hs.2.1 rfl) (hs.1 rfl)
                  unfold pBoth
                  rw [if_neg (by omega), if_neg (by omega), if_neg (by omega), if_neg (by omega), if_neg (by omega), if_neg (by omega)]
                  by_cases d1 : q.1 = 31
                  · rw [if_pos d1]; exact this.1
                  · rw [if_neg d1]; exact this.2
                | [], _, _, h => cases h
                | [false], _, _, h => cases h
                | [true], _, _, h => cases h
                | false :: _ :: _, _, _, h => cases h
                | true :: false :: _, _, _, h => cases h
              · rw [if_neg c8] at h; cases h
theorem pTy_val {l : List (Int × Int)} {t : Bool} (h : pTy l [] = some [t]) : pRuns l ∧ (t = true → ∀ f, pVal f l = 0 ∨ pVal f l = 1) := by
  have : ∀ f, ∃ x, pMrun f l [] = some [x] ∧ (t = true → x = 0 ∨ x = 1) := by
    intro f
    obtain ⟨st', h1, h2⟩ := pTy_run f l [] [t] [] h trivial
    match st', h2 with
    | [x], h2 => exact ⟨x, h1, h2.1⟩
  refine ⟨fun f => ?_, fun ht f => ?_⟩
  · obtain ⟨x, h1, -⟩ := this f
    exact ⟨x, h1⟩
  · obtain ⟨x, h1, h2⟩ := this f
    unfold pVal
    rw [h1]
    exact h2 ht
/-- what the steps ask -/
def pAsks (A : List Int) (l : List (Int × Int)) : Prop := ∀ q ∈ l, 0 < q.1 → q.1 < 15 → q.1 ∈ A
theorem pAsks_dep {A : List Int} {l : List (Int × Int)} (h : pAsks A l) : pDep A l := by
  intro f g hfg
  have : ∀ (l : List (Int × Int)) (st : List Int), pAsks A l → pMrun f l st = pMrun g l st := by
    intro l
    induction l with
    | nil => intro _ _; rfl
    | cons q l ih =>
      intro st hl
      have e : pMst f q st = pMst g q st := by
        unfold pMst
        by_cases c1 : q.1 < 23
        · rw [if_pos c1, if_pos c1]
          by_cases c2 : 0 ≤ q.1 ∧ q.1 < 15 ∧ st.length < 32
          · rw [if_pos c2, if_pos c2]
            by_cases c3 : q.1 = 0
            · rw [if_pos c3, if_pos c3]
            · rw [if_neg c3, if_neg c3, hfg q.1 (hl q (List.mem_cons_self ..) (by omega) c2.2.1)]
          · rw [if_neg c2, if_neg c2]
        · rw [if_neg c1, if_neg c1]
      show (pMst f q st).bind (pMrun f l) = (pMst g q st).bind (pMrun g l)
      rw [e]
      cases pMst g q st with
      | none => rfl
      | some st' => exact ih st' (fun q' hq' => hl q' (List.mem_cons_of_mem _ hq'))
  exact this l [] h
def pOpc (s : Int) : Int := if s = 23 then 43 else if s = 24 then 45 else if s = 25 then 42 else if s = 27 then 60 else if s = 28 then 61 else if s = 29 then 62 else if s = 30 then 17 else if s = 31 then 16 else 15
/-- the class's code of a step -/
def pFl1 (q : Int × Int) : List Int := if q.1 = 0 then [q.2] else if q.1 < 23 then [10000 + (q.1 - 1)] else if q.1 = 26 then [q.2, 20047] else [20000 + pOpc q.1]
def pFl : List (Int × Int) → List Int
  | [] => []
  | q :: l => pFl1 q ++ pFl l
/-- cells that read a list -/
def pAtL (f : Int → Int) : Int → List Int → Prop
  | _, [] => True
  | i, x :: l => f i = x ∧ pAtL f (i + 1) l
theorem pAtL_app (f : Int → Int) : ∀ (l m : List Int) (i : Int), pAtL f i (l ++ m) ↔ pAtL f i l ∧ pAtL f (i + l.length) m := by
  intro l
  induction l with
  | nil => intro m i; simp [pAtL]
  | cons x l ih =>
    intro m i
    show (f i = x ∧ pAtL f (i + 1) (l ++ m)) ↔ (f i = x ∧ pAtL f (i + 1) l) ∧ _
    rw [ih, show i + 1 + (l.length : Int) = i + ((x :: l).length : Int) from by simp; omega, and_assoc]
def LAWL (a : Nat) (x1 x2 : am_V) (top x6 : Int) (o7 o8 o9 o10 : Option am_V) : List (Option am_V) := [some (.inr a), some x1, some x2, some (.inr 104), some (.inr 106), some (.inl top), some (.inl x6), o7, o8, o9, o10]
theorem c156_num (d : Nat) {a : Nat} (ha : IsL a) {M : am_M} {e x6 top c : Int} (x1 : Int) (o7 o8 o9 o10 : Option am_V) (hx : 0 ≤ x6 ∧ x6 < e ∧ e ≤ 400) (hc : M (a + 5) x6 = c) (h1 : c < 10000) (ht : 0 ≤ top ∧ top < 32) : ∃ p7 p8 p9 p10, am_L d 156 7 (LAWL a (.inl x1) (.inl e) top x6 o7 o8 o9 o10) [] M = am_L d 156 7 (LAWL a (.inl x1) (.inl e) (top + 1) (x6 + 1) p7 p8 p9 p10) [] (p_st M 106 (p_up (M 106) top c)) := by
  unfold LAWL
  rw [e156_7]
  simp only [l_c ha, l_r6 ha, l_k5 ha, l_l5 ha, l_B1, w_B9, cond_true, Bool.true_or]
  rw [if_pos (by omega), p_c (by omega), hc, if_pos (by omega), if_pos (by omega), if_pos (by omega), p_c (by omega), p_w (by omega) (by omega), p_w (by omega) (by omega), p_upd]
  exact ⟨_, _, _, _, rfl⟩
theorem c156_ask (d : Nat) {a : Nat} (ha : IsL a) {M : am_M} {e x6 top s : Int} (x1 : Int) (o7 o8 o9 o10 : Option am_V) (hx : 0 ≤ x6 ∧ x6 < e ∧ e ≤ 400) (hs : 0 < s ∧ s < 15) (hc : M (a + 5) x6 = 10000 + (s - 1)) (ht : 0 ≤ top ∧ top < 32) : ∃ p7 p8 p9 p10, am_L d 156 7 (LAWL a (.inl x1) (.inl e) top x6 o7 o8 o9 o10) [] M = am_L d 156 7 (LAWL a (.inl x1) (.inl e) (top + 1) (x6 + 1) p7 p8 p9 p10) [] (p_st M 106 (p_up (M 106) top (M 105 (s - 1)))) := by
  unfold LAWL
  rw [e156_7]
  simp only [l_c ha, l_r6 ha, l_k5 ha, l_l5 ha, l_B1, w_B9, cond_true, Bool.true_or]
  rw [if_pos (by omega), p_c (by omega), hc, if_pos (by omega), if_pos (by omega), if_neg (by omega), p_w (x := 10000 + (s - 1) - 10000) (by omega) (by omega), show 10000 + (s - 1) - 10000 = s - 1 from by omega, p_c (by omega), p_c (by omega), p_w (by omega) (by omega), p_w (by omega) (by omega), p_upd]
  exact ⟨_, _, _, _, rfl⟩
theorem c156_not (d : Nat) {a : Nat} (ha : IsL a) {M : am_M} {e x6 top : Int} (x1 : Int) (o7 o8 o9 o10 : Option am_V) (hx : 0 ≤ x6 ∧ x6 < e ∧ e ≤ 400) (hc : M (a + 5) x6 = 20017) (ht : 1 ≤ top ∧ top ≤ 32) : ∃ p7 p8 p9 p10, am_L d 156 7 (LAWL a (.inl x1) (.inl e) top x6 o7 o8 o9 o10) [] M = am_L d 156 7 (LAWL a (.inl x1) (.inl e) top (x6 + 1) p7 p8 p9 p10) [] (p_st M 106 (p_up (M 106) (top - 1) (am_wrap (1 - M 106 (top - 1))))) := by
  unfold LAWL
  rw [e156_7]
  simp only [l_c ha, l_r6 ha, l_k5 ha, l_l5 ha, l_B1, w_B9, cond_true, Bool.true_or]
  rw [if_pos (by omega), p_c (by omega), hc, if_neg (by omega), if_pos (by omega), if_neg (by omega), p_w (x := top - 1) (by omega) (by omega), p_c (by omega), p_c (by omega), p_w (x := x6 + 1) (by omega) (by omega), p_upd]
  exact ⟨_, _, _, _, rfl⟩
theorem c156_op (d : Nat) {a : Nat} (ha : IsL a) {M : am_M} {e x6 top c v : Int} (x1 : Int) (o7 o8 o9 o10 : Option am_V) (hx : 0 ≤ x6 ∧ x6 < e ∧ e ≤ 400) (hc : M (a + 5) x6 = 20000 + c) (ht : 2 ≤ top ∧ top ≤ 32) (hv : (c = 16 ∧ v = am_iand (M 106 (top - 2)) (M 106 (top - 1))) ∨ (c = 42 ∧ v = am_wrap (M 106 (top - 2) * M 106 (top - 1))) ∨ (c = 43 ∧ v = am_wrap (M 106 (top - 2) + M 106 (top - 1))) ∨ (c = 45 ∧ v = am_wrap (M 106 (top - 2) - M 106 (top - 1))) ∨ (c = 47 ∧ M 106 (top - 1) ≠ 0 ∧ v = am_idiv (M 106 (top - 2)) (M 106 (top - 1))) ∨ (c = 60 ∧ v = if M 106 (top - 2) < M 106 (top - 1) then 1 else 0) ∨ (c = 61 ∧ v = if M 106 (top - 2) = M 106 (top - 1) then 1 else 0) ∨ (c = 62 ∧ v = if M 106 (top - 1) < M 106 (top - 2) then 1 else 0) ∨ (c = 15 ∧ v = am_ior (M 106 (top - 2)) (M 106 (top - 1)))) : ∃ p7 p8 p9 p10, am_L d 156 7 (LAWL a (.inl x1) (.inl e) top x6 o7 o8 o9 o10) [] M = am_L d 156 7 (LAWL a (.inl x1) (.inl e) (top - 1) (x6 + 1) p7 p8 p9 p10) [] (p_st M 106 (p_up (M 106) (top - 2) v)) := by
  have fin : ∀ (q7 q8 q9 v : Int), ∃ p7 p8 p9 p10, am_L d 156 131 [some (.inr a), some (.inl x1), some (.inl e), some (.inr 104), some (.inr 106), some (.inl (top - 1)), some (.inl x6), some (.inl q7), some (.inl q8), some (.inl q9), some (.inl v)] [] M = am_L d 156 7 (LAWL a (.inl x1) (.inl e) (top - 1) (x6 + 1) p7 p8 p9 p10) [] (p_st M 106 (p_up (M 106) (top - 2) v)) := by
    intro q7 q8 q9 v
    unfold LAWL
    rw [e156_131, p_w (x := top - 1 - 1) (by omega) (by omega), show top - 1 - 1 = top - 2 from by omega, p_c (by omega), p_w (x := x6 + 1) (by omega) (by omega), p_upd]
    exact ⟨_, _, _, _, rfl⟩
  unfold LAWL at fin ⊢
  rw [e156_7]
  simp only [l_c ha, l_r6 ha, l_k5 ha, l_l5 ha, l_B1, w_B9, cond_true, Bool.true_or]
  rw [if_pos (by omega), p_c (by omega), hc, if_neg (by omega), if_neg (by omega), if_neg (by omega), p_w (x := top + -1) (by omega) (by omega), show top + -1 = top - 1 from by omega, p_w (x := top - 1 - 1) (by omega) (by omega), show top - 1 - 1 = top - 2 from by omega, p_c (by omega), p_c (by omega), p_w (x := 20000 + c - 20000) (by omega) (by omega), show 20000 + c - 20000 = c from by omega]
  rcases hv with ⟨rfl, rfl⟩ | ⟨rfl, rfl⟩ | ⟨rfl, rfl⟩ | ⟨rfl, rfl⟩ | ⟨rfl, hz, rfl⟩ | ⟨rfl, rfl⟩ | ⟨rfl, rfl⟩ | ⟨rfl, rfl⟩ | ⟨rfl, rfl⟩
  · simp (disch := omega) only [if_pos, if_neg]
    exact fin _ _ _ _
  · simp (disch := omega) only [if_pos, if_neg]
    exact fin _ _ _ _
  · simp (disch := omega) only [if_pos, if_neg]
    exact fin _ _ _ _
  · simp (disch := omega) only [if_pos, if_neg]
    exact fin _ _ _ _
  · simp (disch := first | exact hz | omega) only [if_pos, if_neg, p_c]
    exact fin _ _ _ _
  · by_cases q : M 106 (top - 2) < M 106 (top - 1)
    · simp (disch := omega) only [if_pos, if_neg]
      exact fin _ _ _ _
    · simp (disch := omega) only [if_pos, if_neg]
      exact fin _ _ _ _
  · by_cases q : M 106 (top - 2) = M 106 (top - 1)
    · simp (disch := omega) only [if_pos, if_neg]
      exact fin _ _ _ _
    · simp (disch := omega) only [if_pos, if_neg]
      exact fin _ _ _ _
  · by_cases q : M 106 (top - 1) < M 106 (top - 2)
    · simp (disch := omega) only [if_pos, if_neg]
      exact fin _ _ _ _
    · simp (disch := omega) only [if_pos, if_neg]
      exact fin _ _ _ _
  · simp (disch := omega) only [if_pos, if_neg]
    exact fin _ _ _ _
theorem pBoth_01 {s x y : Int} (hs : 27 ≤ s ∧ s ≤ 29) : pBoth s x y = 0 ∨ pBoth s x y = 1 := by
  unfold pBoth
  rw [if_neg (by omega), if_neg (by omega), if_neg (by omega)]
  by_cases d1 : s = 27
  · rw [if_pos d1]
    by_cases d : x < y
    · rw [if_pos d]; exact Or.inr rfl
    · rw [if_neg d]; exact Or.inl rfl
  · rw [if_neg d1]
    by_cases d2 : s = 28
    · rw [if_pos d2]
      by_cases d : x = y
      · rw [if_pos d]; exact Or.inr rfl
      · rw [if_neg d]; exact Or.inl rfl
    · rw [if_neg d2, if_pos (by omega)]
      by_cases d : y < x
      · rw [if_pos d]; exact Or.inr rfl
      · rw [if_neg d]; exact Or.inl rfl
theorem pBoth_01b {s x y : Int} (hs : 31 ≤ s ∧ s ≤ 32) (hx : x = 0 ∨ x = 1) (hy : y = 0 ∨ y = 1) : pBoth s x y = 0 ∨ pBoth s x y = 1 := by
  have := pAnd_01 hx hy
  unfold pBoth
  rw [if_neg (by omega), if_neg (by omega), if_neg (by omega), if_neg (by omega), if_neg (by omega), if_neg (by omega)]
  by_cases d1 : s = 31
  · rw [if_pos d1]; exact this.1
  · rw [if_neg d1]; exact this.2
theorem pOpc_ok {s A B : Int} (hs : 23 ≤ s ∧ s ≤ 32 ∧ s ≠ 26 ∧ s ≠ 30) : (pOpc s = 16 ∧ pBoth s A B = am_iand A B) ∨ (pOpc s = 42 ∧ pBoth s A B = am_wrap (A * B)) ∨ (pOpc s = 43 ∧ pBoth s A B = am_wrap (A + B)) ∨ (pOpc s = 45 ∧ pBoth s A B = am_wrap (A - B)) ∨ (pOpc s = 47 ∧ B ≠ 0 ∧ pBoth s A B = am_idiv A B) ∨ (pOpc s = 60 ∧ pBoth s A B = if A < B then 1 else 0) ∨ (pOpc s = 61 ∧ pBoth s A B = if A = B then 1 else 0) ∨ (pOpc s = 62 ∧ pBoth s A B = if B < A then 1 else 0) ∨ (pOpc s = 15 ∧ pBoth s A B = am_ior A B) := by
  have : s = 23 ∨ s = 24 ∨ s = 25 ∨ s = 27 ∨ s = 28 ∨ s = 29 ∨ s = 31 ∨ s = 32 := by omega
  rcases this with rfl | rfl | rfl | rfl | rfl | rfl | rfl | rfl
  · exact Or.inr (Or.inr (Or.inl ⟨rfl, rfl⟩))
  · exact Or.inr (Or.inr (Or.inr (Or.inl ⟨rfl, rfl⟩)))
  · exact Or.inr (Or.inl ⟨rfl, rfl⟩)
  · exact Or.inr (Or.inr (Or.inr (Or.inr (Or.inr (Or.inl ⟨rfl, rfl⟩)))))
  · exact Or.inr (Or.inr (Or.inr (Or.inr (Or.inr (Or.inr (Or.inl ⟨rfl, rfl⟩))))))
  · exact Or.inr (Or.inr (Or.inr (Or.inr (Or.inr (Or.inr (Or.inr (Or.inl ⟨rfl, rfl⟩)))))))
  · exact Or.inl ⟨rfl, rfl⟩
  · exact Or.inr (Or.inr (Or.inr (Or.inr (Or.inr (Or.inr (Or.inr (Or.inr ⟨rfl, rfl⟩)))))))
theorem PS_upd {f : Int → Int} {x : Int} {st : List Int} (h : PS f st) {n : Int} (hn : n = st.length) : PS (p_up f n x) (x :: st) := by
  subst hn
  exact ⟨p_up1 _ _ _, PS_up h (Int.le_refl _)⟩
/-- the class's reckoning -/
theorem c156_7 (d : Nat) {a : Nat} (ha : IsL a) (f : Int → Int) (e x1 : Int) (he : e ≤ 400) : ∀ (l : List (Int × Int)) (ts ts' : List Bool) (st st' : List Int) (x6 : Int) (M : am_M) (o7 o8 o9 o10 : Option am_V), 0 ≤ x6 → x6 + (pFl l).length = e → pAtL (M (a + 5)) x6 (pFl l) → (∀ q ∈ l, 0 < q.1 → q.1 < 15 → M 105 (q.1 - 1) = f q.1) → pTy l ts = some ts' → ts.length ≤ 30 → pOf ts st → pMrun f l st = some st' → PS (M 106) st → ∃ stk, am_L d 156 7 (LAWL a (.inl x1) (.inl e) (st.length : Int) x6 o7 o8 o9 o10) [] M = some (stk 0, p_st M 106 stk) ∧ PS stk st' := by
  intro l
  have h106 : a + 5 ≠ 106 := by rcases ha with rfl | rfl | rfl | rfl | rfl | rfl | rfl <;> decide
  induction l with
  | nil =>
    intro ts ts' st st' x6 M o7 o8 o9 o10 h0 hx hA hF hT hB hO hr hP
    cases hr
    refine ⟨M 106, ?_, hP⟩
    unfold LAWL
    rw [e156_7]
    simp only [pFl, List.length_nil] at hx
    rw [if_neg (by omega), p_c (by omega), p_st5]
  | cons q l ih =>
    intro ts ts' st st' x6 M o7 o8 o9 o10 h0 hx hA hF hT hB hO hr hP
    have hlen := pOf_len hO
    have hr : (pMst f q st).bind (pMrun f l) = some st' := hr
    obtain ⟨st1, hs1, hs2⟩ := Option.bind_eq_some_iff.mp hr
    have hx' : x6 + ((pFl1 q).length + (pFl l).length : Nat) = e := by rw [← hx, pFl, List.length_append]
    obtain ⟨hA1, hA2⟩ := (pAtL_app _ _ _ _).mp hA
    have hF' : ∀ q ∈ l, 0 < q.1 → q.1 < 15 → M 105 (q.1 - 1) = f q.1 := fun q' hq' => hF q' (List.mem_cons_of_mem _ hq')
    -- one value is laid upon st0
    have go : ∀ (ts1 : List Bool) (st0 : List Int) (v : Int) (M1 : am_M) (n : Int) (p7 p8 p9 p10 : Option am_V), pTy l ts1 = some ts' → ts1.length ≤ 30 → pOf ts1 (v :: st0) → st1 = v :: st0 → PS (M1 106) (v :: st0) → M1 (a + 5) = M (a + 5) → M1 105 = M 105 → n = (v :: st0).length → ∃ stk, am_L d 156 7 (LAWL a (.inl x1) (.inl e) n (x6 + (pFl1 q).length) p7 p8 p9 p10) [] M1 = some (stk 0, p_st M1 106 stk) ∧ PS stk st' := by
      intro ts1 st0 v M1 n p7 p8 p9 p10 g1 gb g2 g3 g4 g5 g6 g7
      subst g7
      exact ih ts1 ts' (v :: st0) st' (x6 + (pFl1 q).length) M1 p7 p8 p9 p10 (by omega) (by omega) (by rw [g5]; exact hA2) (by rw [g6]; exact hF') g1 gb g2 (by rw [← g3]; exact hs2) g4
    have wrap : ∀ (M1 : am_M) (g : Int → Int), (∃ stk, am_L d 156 7 (LAWL a (.inl x1) (.inl e) (st.length : Int) x6 o7 o8 o9 o10) [] M = some (stk 0, p_st (p_st M 106 g) 106 stk) ∧ PS stk st') → ∃ stk, am_L d 156 7 (LAWL a (.inl x1) (.inl e) (st.length : Int) x6 o7 o8 o9 o10) [] M = some (stk 0, p_st M 106 stk) ∧ PS stk st' := by
      intro M1 g ⟨stk, g1, g2⟩
      rw [p_st3] at g1
      exact ⟨stk, g1, g2⟩
    have n5 : ∀ g, (p_st M 106 g) (a + 5) = M (a + 5) := fun g => p_st2 h106
    have n105 : ∀ g, (p_st M 106 g) 105 = M 105 := fun g => p_st2 (by decide)
    unfold pTy at hT
    unfold pMst at hs1
    by_cases c1 : q.1 < 23
    · rw [if_pos c1] at hT hs1
      by_cases c2 : 0 ≤ q.1 ∧ q.1 < 15 ∧ (q.1 = 0 → 0 ≤ q.2 ∧ q.2 ≤ 9999) ∧ ts.length < 30
      · rw [if_pos c2] at hT
        rw [if_pos ⟨c2.1, c2.2.1, by omega⟩] at hs1
        by_cases c3 : q.1 = 0
        · have ef : pFl1 q = [q.2] := if_pos c3
          rw [ef] at hA1 hx' go
          rw [if_pos c3] at hs1
          obtain ⟨p7, p8, p9, p10, hstep⟩ := c156_num d ha (M := M) (e := e) (x6 := x6) (top := st.length) (c := q.2) x1 o7 o8 o9 o10 (by simp at hx'; omega) hA1.1 (by have := c2.2.2.1 c3; omega) (by omega)
          refine wrap M (p_up (M 106) st.length q.2) ?_
          rw [hstep]
          exact go _ st q.2 _ _ p7 p8 p9 p10 hT (by simp; omega) ⟨fun z => absurd z (by decide), hO⟩ (Option.some.inj hs1).symm (by rw [p_st1]; exact PS_upd hP rfl) (n5 _) (n105 _) (by simp)
        · have ef : pFl1 q = [10000 + (q.1 - 1)] := by unfold pFl1; rw [if_neg c3, if_pos c1]
          rw [ef] at hA1 hx' go
          rw [if_neg c3] at hs1
          have hq := hF q (List.mem_cons_self ..) (by omega) c2.2.1
          obtain ⟨p7, p8, p9, p10, hstep⟩ := c156_ask d ha (M := M) (e := e) (x6 := x6) (top := st.length) (s := q.1) x1 o7 o8 o9 o10 (by simp at hx'; omega) (by omega) hA1.1 (by omega)
          rw [hq] at hstep
          refine wrap M (p_up (M 106) st.length (f q.1)) ?_
          rw [hstep]
          exact go _ st (f q.1) _ _ p7 p8 p9 p10 hT (by simp; omega) ⟨fun z => absurd z (by decide), hO⟩ (Option.some.inj hs1).symm (by rw [p_st1]; exact PS_upd hP rfl) (n5 _) (n105 _) (by simp)
      · rw [if_neg c2] at hT; cases hT
    · rw [if_neg c1] at hT hs1
      by_cases c3 : q.1 = 26
      · rw [if_pos c3] at hT hs1
        have ef : pFl1 q = [q.2, 20047] := by unfold pFl1; rw [if_neg (by omega), if_neg c1, if_pos c3]
        rw [ef] at hA1 hx' go
        match ts, st, hB, hO, hT, hs1, hP, hlen, go, wrap with
        | false :: r, x :: st, hB, hO, hT, hs1, hP, hlen, go, wrap =>
          dsimp only at hT hs1
          by_cases c4 : 1 ≤ q.2 ∧ q.2 ≤ 9999 ∧ (false :: r).length < 30
          · rw [if_pos c4] at hT
            rw [if_neg (by omega)] at hs1
            obtain ⟨hA3, hA4, -⟩ := hA1
            simp only [List.length_cons, List.length_nil] at hlen hx' go c4
            obtain ⟨p7, p8, p9, p10, hstep⟩ := c156_num d ha (M := M) (e := e) (x6 := x6) (top := (x :: st).length) (c := q.2) x1 o7 o8 o9 o10 (by omega) hA3 (by omega) (by simp; omega)
            obtain ⟨r7, r8, r9, r10, hstep2⟩ := c156_op d ha (M := p_st M 106 (p_up (M 106) ((x :: st).length : Int) q.2)) (e := e) (x6 := x6 + 1) (top := (x :: st).length + 1) (c := 47) (v := am_idiv x q.2) x1 p7 p8 p9 p10 (by omega) (by rw [n5]; exact hA4) (by simp; omega) (by
              refine Or.inr (Or.inr (Or.inr (Or.inr (Or.inl ⟨rfl, ?_, ?_⟩))))
              · rw [p_st1, show ((x :: st).length : Int) + 1 - 1 = (x :: st).length from by omega, p_up1]; omega
              · rw [p_st1, show ((x :: st).length : Int) + 1 - 1 = (x :: st).length from by omega, p_up1, p_up2 (by omega), show ((x :: st).length : Int) + 1 - 2 = st.length from by simp; omega, hP.1])
            rw [p_st1, p_st3, show ((x :: st).length : Int) + 1 - 1 = ((x :: st).length : Nat) from by omega, show x6 + 1 + 1 = x6 + ((0 + 1 + 1 : Nat) : Int) from by omega, show ((x :: st).length : Int) + 1 - 2 = (st.length : Nat) from by simp; omega] at hstep2
            refine wrap M (p_up (p_up (M 106) ((x :: st).length : Int) q.2) (st.length : Int) (am_idiv x q.2)) ?_
            rw [hstep, hstep2]
            exact go _ st (am_idiv x q.2) _ _ r7 r8 r9 r10 hT hB ⟨fun z => absurd z (by decide), hO.2⟩ (Option.some.inj hs1).symm (by rw [p_st1]; exact PS_upd (PS_up hP.2 (by simp; omega)) rfl) (n5 _) (n105 _) rfl
          · rw [if_neg c4] at hT; cases hT
        | true :: r, _, _, _, hT, _, _, _, _, _ => cases hT
        | [], _, _, _, hT, _, _, _, _, _ => cases hT
      · rw [if_neg c3] at hT hs1
        have ef : pFl1 q = [20000 + pOpc q.1] := by unfold pFl1; rw [if_neg (by omega), if_neg c1, if_neg c3]
        rw [ef] at hA1 hx' go
        simp only [List.length_cons, List.length_nil] at hx' go
        by_cases c5 : q.1 = 30
        · rw [if_pos c5] at hT hs1
          have eo : 20000 + pOpc q.1 = 20017 := by rw [c5]; rfl
          rw [eo] at hA1
          match ts, st, hB, hO, hT, hs1, hP, hlen, go, wrap with
          | true :: r, x :: st, hB, hO, hT, hs1, hP, hlen, go, wrap =>
            obtain ⟨p7, p8, p9, p10, hstep⟩ := c156_not d ha (M := M) (e := e) (x6 := x6) (top := (x :: st).length) x1 o7 o8 o9 o10 (by omega) hA1.1 (by simp only [List.length_cons] at hlen hB ⊢; omega)
            have et : ((x :: st).length : Int) - 1 = st.length := by simp
            rw [et, hP.1] at hstep
            refine wrap M (p_up (M 106) st.length (am_wrap (1 - x))) ?_
            rw [hstep]
            exact go _ st (am_wrap (1 - x)) _ _ p7 p8 p9 p10 hT hB ⟨fun _ => pNot_01 (hO.1 rfl), hO.2⟩ (Option.some.inj hs1).symm (by rw [p_st1]; exact PS_upd hP.2 rfl) (n5 _) (n105 _) (by simp)
          | false :: r, _, _, _, hT, _, _, _, _, _ => cases hT
          | [], _, _, _, hT, _, _, _, _, _ => cases hT
        · rw [if_neg c5] at hT hs1
          have bin : ∀ (ts1 : List Bool) (y x : Int) (st0 : List Int), st = y :: x :: st0 → q.1 ≤ 32 → pTy l ts1 = some ts' → ts1.length ≤ 30 → pOf ts1 (pBoth q.1 x y :: st0) → st1 = pBoth q.1 x y :: st0 → ∃ stk, am_L d 156 7 (LAWL a (.inl x1) (.inl e) (st.length : Int) x6 o7 o8 o9 o10) [] M = some (stk 0, p_st M 106 stk) ∧ PS stk st' := by
            intro ts1 y x st0 g1 g3 g4 gb g5 g6
            subst g1
            have hl2 : (y :: x :: st0).length = st0.length + 2 := rfl
            have ey : M 106 (((y :: x :: st0).length : Int) - 1) = y := by
              rw [show ((y :: x :: st0).length : Int) - 1 = ((x :: st0).length : Nat) from by simp]
              exact hP.1
            have ex : M 106 (((y :: x :: st0).length : Int) - 2) = x := by
              rw [show ((y :: x :: st0).length : Int) - 2 = (st0.length : Nat) from by simp; omega]
              exact hP.2.1
            obtain ⟨p7, p8, p9, p10, hstep⟩ := c156_op d ha (M := M) (e := e) (x6 := x6) (top := (y :: x :: st0).length) (c := pOpc q.1) (v := pBoth q.1 x y) x1 o7 o8 o9 o10 (by omega) hA1.1 (by omega) (by
              rw [ex, ey]
              exact pOpc_ok (by omega))
            refine wrap M (p_up (M 106) (((y :: x :: st0).length : Int) - 2) (pBoth q.1 x y)) ?_
            rw [hstep]
            exact go ts1 st0 (pBoth q.1 x y) _ _ p7 p8 p9 p10 g4 gb g5 g6 (by rw [p_st1]; exact PS_upd hP.2.2 (by simp; omega)) (n5 _) (n105 _) (by simp only [List.length_cons]; omega)
          by_cases c6 : q.1 ≤ 25
          · rw [if_pos c6] at hT
            match ts, st, hB, hO, hT, hs1, bin with
            | false :: false :: r, y :: x :: st, hB, hO, hT, hs1, bin => exact bin _ y x st rfl (by omega) hT (by simp only [List.length_cons] at hB ⊢; omega) ⟨fun z => absurd z (by decide), hO.2.2⟩ (Option.some.inj hs1).symm
            | [], _, _, _, hT, _, _ => cases hT
            | [true], _, _, _, hT, _, _ => cases hT
            | [false], _, _, _, hT, _, _ => cases hT
            | true :: _ :: _, _, _, _, hT, _, _ => cases hT
            | false :: true :: _, _, _, _, hT, _, _ => cases hT
          · rw [if_neg c6] at hT
            by_cases c7 : q.1 ≤ 29
            · rw [if_pos c7] at hT
              match ts, st, hB, hO, hT, hs1, bin with
              | false :: false :: r, y :: x :: st, hB, hO, hT, hs1, bin => exact bin _ y x st rfl (by omega) hT (by simp only [List.length_cons] at hB ⊢; omega) ⟨fun _ => pBoth_01 (by omega), hO.2.2⟩ (Option.some.inj hs1).symm
              | [], _, _, _, hT, _, _ => cases hT
              | [true], _, _, _, hT, _, _ => cases hT
              | [false], _, _, _, hT, _, _ => cases hT
              | true :: _ :: _, _, _, _, hT, _, _ => cases hT
              | false :: true :: _, _, _, _, hT, _, _ => cases hT
            · rw [if_neg c7] at hT
              by_cases c8 : q.1 ≤ 32
              · rw [if_pos c8] at hT
                match ts, st, hB, hO, hT, hs1, bin with
                | true :: true :: r, y :: x :: st, hB, hO, hT, hs1, bin => exact bin _ y x st rfl c8 hT (by simp only [List.length_cons] at hB ⊢; omega) ⟨fun _ => pBoth_01b (by omega) (hO.2.1 rfl) (hO.1 rfl), hO.2.2⟩ (Option.some.inj hs1).symm
                | [], _, _, _, hT, _, _ => cases hT
                | [true], _, _, _, hT, _, _ => cases hT
                | [false], _, _, _, hT, _, _ => cases hT
                | false :: _ :: _, _, _, _, hT, _, _ => cases hT
                | true :: false :: _, _, _, _, hT, _, _ => cases hT
              · rw [if_neg c8] at hT; cases hT
theorem c156 (d : Nat) {a : Nat} (ha : IsL a) {M : am_M} {f : Int → Int} {l : List (Int × Int)} {t : Bool} {b e : Int} (h0 : 0 ≤ b) (he : e ≤ 400) (hx : b + (pFl l).length = e) (hA : pAtL (M (a + 5)) b (pFl l)) (hF : ∀ q ∈ l, 0 < q.1 → q.1 < 15 → M 105 (q.1 - 1) = f q.1) (hT : pTy l [] = some [t]) : ∃ stk, am_run (d + 1) 156 [.inr a, .inl b, .inl e, .inr 104] M = some (pVal f l, p_st M 106 stk) := by
  have hr := pRuns_val (pTy_val hT).1 f
  obtain ⟨stk, h1, h2⟩ := c156_7 d ha f e b he l [] [t] [] [pVal f l] b M none none none none h0 hx hA hF hT (by simp) trivial hr trivial
  refine ⟨stk, ?_⟩
  have e0 : stk 0 = pVal f l := h2.1
  rw [e156]
  simp only [l_c ha, l_B1, cond_true]
  rw [← e0]
  exact h1
end
section
/-! PURE: what a law says, in the class -/
def pVb (x : Int) : Int := if x ≤ 21 then x - 2 else if x ≤ 25 then x + 2 else x - 6
def pSayOk (k s : Int) : Prop := (k = 0 → 20 ≤ s ∧ s ≤ 21) ∧ (k = 1 → 26 ≤ s ∧ s ≤ 29) ∧ (k = 2 → 22 ≤ s ∧ s ≤ 25)
def LawT (w : Int → Int) (k : Int) : Prop := (0 ≤ w (288 + k) ∧ w (288 + k) ≤ 16) ∧ ∀ i, 0 ≤ i → i < w (288 + k) → (0 ≤ pFrom w k i ∧ pFrom w k i ≤ pMid w k i ∧ pMid w k i ≤ pTo w k i ∧ pTo w k i ≤ 410) ∧ (pTo w k i ≠ pMid w k i → pTy (pB w k i) [] = some [true] ∧ pAsks (pA k) (pB w k i)) ∧ (k = 1 → pTy (pE w k i) [] = some [false] ∧ pAsks (pA k) (pE w k i)) ∧ pSayOk k (pSay w k i)
theorem LawT_law {w : Int → Int} {k : Int} (h : LawT w k) : pLaw w k := by
  refine ⟨h.1, fun i h0 h1 => ?_⟩
  obtain ⟨b1, b2, b3, b4⟩ := h.2 i h0 h1
  exact ⟨b1, fun q => ⟨(pTy_val (b2 q).1).1, pAsks_dep (b2 q).2⟩, fun q => ⟨(pTy_val (b3 q).1).1, pAsks_dep (b3 q).2⟩⟩
def LawR (M : am_M) (a : Nat) (w : Int → Int) (k : Int) : Prop := M a 0 = w (288 + k) ∧ ∀ i, 0 ≤ i → i < w (288 + k) → M (a + 1) i = pVb (pSay w k i) ∧ (0 ≤ M (a + 2) i ∧ M (a + 2) i + (pFl (pE w k i)).length = M (a + 3) i ∧ M (a + 3) i + (pFl (pB w k i)).length = M (a + 4) i ∧ M (a + 4) i ≤ 400) ∧ pAtL (M (a + 5)) (M (a + 2) i) (pFl (pE w k i)) ∧ pAtL (M (a + 5)) (M (a + 3) i) (pFl (pB w k i))
theorem pFl_pos : ∀ {l : List (Int × Int)}, l ≠ [] → 0 < (pFl l).length := by
  intro l h
  match l, h with
  | q :: l, _ =>
    rw [pFl, List.length_append]
    have : 0 < (pFl1 q).length := by
      unfold pFl1
      by_cases h1 : q.1 = 0
      · rw [if_pos h1]; simp
      · rw [if_neg h1]
        by_cases h2 : q.1 < 23
        · rw [if_pos h2]; simp
        · rw [if_neg h2]
          by_cases h3 : q.1 = 26
          · rw [if_pos h3]; simp
          · rw [if_neg h3]; simp
    omega
theorem pB_nil {w : Int → Int} {k i : Int} (h : pMid w k i ≤ pTo w k i) : (pTo w k i = pMid w k i → pB w k i = []) ∧ (pTo w k i ≠ pMid w k i → pB w k i ≠ []) := by
  unfold pB
  constructor
  · intro q
    rw [q, show (pMid w k i - pMid w k i).toNat = 0 from by omega]
    rfl
  · intro q
    obtain ⟨n, hn⟩ : ∃ n, (pTo w k i - pMid w k i).toNat = n + 1 := ⟨(pTo w k i - pMid w k i).toNat - 1, by omega⟩
    rw [hn]
    intro z
    cases z
/-- what stands among the class's asked values -/
def pAskd (M : am_M) (k : Int) (f : Int → Int) : Prop := ∀ s ∈ pA k, M 105 (s - 1) = f s
theorem l_far {a : Nat} (h : IsL a) : a + 5 < 105 ∧ 0 < a := by rcases h with rfl | rfl | rfl | rfl | rfl | rfl | rfl <;> decide
/-- whether a line of a law applies, in both -/
theorem pAp {M : am_M} {a : Nat} {w f : Int → Int} {k i : Int} (hL : LawT w k) (hi : 0 ≤ i ∧ i < w (288 + k)) (hR : LawR M a w k) : (M (a + 3) i = M (a + 4) i ↔ pTo w k i = pMid w k i) ∧ (pTo w k i ≠ pMid w k i → (pHolds w f k i = true ↔ pVal f (pB w k i) ≠ 0)) ∧ (pTo w k i = pMid w k i → pHolds w f k i = true) := by
  obtain ⟨b1, b2, b3, b4⟩ := hL.2 i hi.1 hi.2
  obtain ⟨r1, r2, r3, r4⟩ := hR.2 i hi.1 hi.2
  have hn := pB_nil (w := w) (k := k) (i := i) (by omega)
  refine ⟨⟨fun q => ?_, fun q => ?_⟩, fun q => ?_, fun q => ?_⟩
  · by_cases z : pTo w k i = pMid w k i
    · exact z
    · have := pFl_pos (hn.2 z)
      omega
  · have := hn.1 q
    rw [this] at r2
    have : (pFl []).length = 0 := rfl
    omega
  · have := (pTy_val (b2 q).1).2 rfl f
    unfold pHolds
    rw [decide_eq_true_iff]
    constructor
    · intro z
      rcases z with z | z
      · exact absurd z q
      · omega
    · intro z
      exact Or.inr (by omega)
  · exact decide_eq_true (Or.inl q)
theorem c154_2 (d : Nat) {a : Nat} (ha : IsL a) {M : am_M} {w f : Int → Int} {k : Int} (hk : 0 ≤ k ∧ k < 3) (hL : LawT w k) (hR : LawR M a w k) (hF : pAskd M k f) : ∀ (n : Nat) (i : Int) (g : Int → Int), 0 ≤ i → i + n = w (288 + k) → ∃ r stk, am_L (d + 1) 154 2 [some (.inr a), some (.inr 104), some (.inl i)] [] (p_st M 106 g) = some (r, p_st M 106 stk) ∧ ((r = -1 ∧ ∀ o, pSays w f k o n i = o) ∨ ∃ s, pSayOk k s ∧ r = pVb s ∧ ∀ o, pSays w f k o n i = s) := by
  have hfar := l_far ha
  intro n
  induction n with
  | zero =>
    intro i g h0 hi
    refine ⟨-1, g, ?_, Or.inl ⟨rfl, fun o => rfl⟩⟩
    rw [e154_2]
    simp only [l_c ha, l_B1, cond_true]
    rw [p_st2 (by omega), hR.1, if_neg (by omega)]
  | succ n ih =>
    intro i g h0 hi
    have hi' : 0 ≤ i ∧ i < w (288 + k) := by omega
    have n16 := hL.1
    obtain ⟨b1, b2, b3, b4⟩ := hL.2 i hi'.1 hi'.2
    obtain ⟨r1, r2, r3, r4⟩ := hR.2 i hi'.1 hi'.2
    have ap := pAp (f := f) hL hi' hR
    have e : ∀ (g : Int → Int) (j : Nat), j ≤ 5 → (p_st M 106 g) (a + j) = M (a + j) := fun g j hj => p_st2 (by omega)
    rw [e154_2]
    simp only [l_c ha, l_r4 ha, l_r5 ha, l_r2 ha, l_k1 ha, l_k3 ha, l_k4 ha, l_l1 ha, l_l3 ha, l_l4 ha, l_B1, w_B9, cond_true, Bool.true_or]
    rw [p_st2 (show a ≠ 106 by omega), hR.1, if_pos (by omega), p_c (by omega), p_c (by omega), e g 3 (by omega), e g 4 (by omega), e g 1 (by omega)]
    by_cases c1 : pTo w k i = pMid w k i
    · rw [if_pos (ap.1.mpr c1), p_c (by omega)]
      refine ⟨_, g, rfl, Or.inr ⟨pSay w k i, b4, r1, fun o => ?_⟩⟩
      rw [pSays, if_pos (ap.2.2 c1)]
    · obtain ⟨stk, hs⟩ := c156 d ha (M := p_st M 106 g) (f := f) (l := pB w k i) (t := true) (b := M (a + 3) i) (e := M (a + 4) i) (by omega) (by omega) (by omega) (by rw [e g 5 (by omega)]; exact r4) (fun q hq z1 z2 => by rw [p_st2 (by decide)]; exact hF _ ((b2 c1).2 q hq z1 z2)) (b2 c1).1
      rw [p_st3] at hs
      rw [if_neg (fun q => c1 (ap.1.mp q)), p_c (by omega), p_c (by omega), hs, p_b, p_w (x := i + 1) (by omega) (by omega)]
      by_cases c2 : pVal f (pB w k i) = 0
      · obtain ⟨r, stk2, h1, h2⟩ := ih (i + 1) stk (by omega) (by omega)
        rw [if_pos c2]
        refine ⟨r, stk2, h1, ?_⟩
        have : ∀ o, pSays w f k o (n + 1) i = pSays w f k o n (i + 1) := fun o => by rw [pSays, if_neg (fun q => (ap.2.1 c1).mp q c2)]
        simp only [this]
        exact h2
      · rw [if_neg c2, p_c (by omega), e stk 1 (by omega)]
        refine ⟨_, stk, rfl, Or.inr ⟨pSay w k i, b4, r1, fun o => ?_⟩⟩
        rw [pSays, if_pos ((ap.2.1 c1).mpr c2)]
def cSaid (w f : Int → Int) (k r : Int) : Prop := (r = -1 ∧ ∀ o, pSays w f k o (w (288 + k)).toNat 0 = o) ∨ ∃ s, pSayOk k s ∧ r = pVb s ∧ ∀ o, pSays w f k o (w (288 + k)).toNat 0 = s
theorem c154 (d : Nat) {a : Nat} (ha : IsL a) {M : am_M} {w f : Int → Int} {k : Int} (hk : 0 ≤ k ∧ k < 3) (hL : LawT w k) (hR : LawR M a w k) (hF : pAskd M k f) : ∃ r stk, am_run (d + 2) 154 [.inr a, .inr 104] M = some (r, p_st M 106 stk) ∧ cSaid w f k r := by
  have n16 := hL.1
  obtain ⟨r, stk, h1, h2⟩ := c154_2 d ha hk hL hR hF (w (288 + k)).toNat 0 (M 106) (by omega) (by omega)
  refine ⟨r, stk, ?_, h2⟩
  rw [e154]
  simp only [l_c ha, l_B1, cond_true]
  rw [p_st5] at h1
  exact h1
theorem pVb_hand {s word : Int} (h : pSayOk 1 s) (hw : 26 ≤ word ∧ word ≤ 29) : pVb s = word - 6 ↔ s = word := by
  have := h.2.1 rfl
  unfold pVb
  rw [if_neg (by omega), if_neg (by omega)]
  omega
theorem c155_2 (d : Nat) {a : Nat} (ha : IsL a) {M : am_M} {w f : Int → Int} {word : Int} (hw : 26 ≤ word ∧ word ≤ 29) (hL : LawT w 1) (hR : LawR M a w 1) (hF : pAskd M 1 f) : ∀ (n : Nat) (i : Int) (g : Int → Int), 0 ≤ i → i + n = w 289 → ∃ r stk, am_L (d + 1) 155 2 [some (.inr a), some (.inl (word - 6)), some (.inr 104), some (.inl i)] [] (p_st M 106 g) = some (r, p_st M 106 stk) ∧ ∀ high, 0 ≤ high → max 0 (min high r) = pAmt w f word high n i := by
  have hfar := l_far ha
  have hR0 : M a 0 = w 289 := hR.1
  intro n
  induction n with
  | zero =>
    intro i g h0 hi
    refine ⟨0, g, ?_, fun high hh => ?_⟩
    · rw [e155_2]
      simp only [l_c ha, l_B1, cond_true]
      rw [p_st2 (by omega), hR0, if_neg (by omega)]
    · rw [pAmt]; omega
  | succ n ih =>
    intro i g h0 hi
    have hi' : 0 ≤ i ∧ i < w (288 + 1) := by show 0 ≤ i ∧ i < w 289; omega
    have n16 : 0 ≤ w 289 ∧ w 289 ≤ 16 := hL.1
    obtain ⟨b1, b2, b3, b4⟩ := hL.2 i hi'.1 hi'.2
    obtain ⟨r1, r2, r3, r4⟩ := hR.2 i hi'.1 hi'.2
    have ap := pAp (f := f) hL hi' hR
    have e : ∀ (g : Int → Int) (j : Nat), j ≤ 5 → (p_st M 106 g) (a + j) = M (a + j) := fun g j hj => p_st2 (by omega)
    have next : ∀ stk, ¬ (pSay w 1 i = word ∧ pHolds w f 1 i = true) → ∃ r stk2, am_L (d + 1) 155 2 [some (.inr a), some (.inl (word - 6)), some (.inr 104), some (.inl (i + 1))] [] (p_st M 106 stk) = some (r, p_st M 106 stk2) ∧ ∀ high, 0 ≤ high → max 0 (min high r) = pAmt w f word high (n + 1) i := by
      intro stk hc
      obtain ⟨r, stk2, g1, g2⟩ := ih (i + 1) stk (by omega) (by omega)
      refine ⟨r, stk2, g1, fun high hh => ?_⟩
      rw [pAmt, if_neg hc]
      exact g2 high hh
    rw [e155_2]
    simp only [l_c ha, l_r4 ha, l_r5 ha, l_r2 ha, l_r3 ha, l_k1 ha, l_k2 ha, l_k3 ha, l_k4 ha, l_l1 ha, l_l2 ha, l_l3 ha, l_l4 ha, l_B1, w_B9, cond_true, Bool.true_or]
    rw [p_st2 (show a ≠ 106 by omega), hR0, if_pos (by omega), p_c (by omega), e g 1 (by omega), r1]
    have take : ∀ g, (pSay w 1 i = word ∧ pHolds w f 1 i = true) → ∃ r stk2, am_bnd (am_run (d + 1) 156 [.inr a, .inl (M (a + 2) i), .inl (M (a + 3) i), .inr 104] (p_st M 106 g)) (fun r1 M1 => some (r1, M1)) = some (r, p_st M 106 stk2) ∧ ∀ high, 0 ≤ high → max 0 (min high r) = pAmt w f word high (n + 1) i := by
      intro g hc
      obtain ⟨stk, hs⟩ := c156 d ha (M := p_st M 106 g) (f := f) (l := pE w 1 i) (t := false) (b := M (a + 2) i) (e := M (a + 3) i) (by omega) (by omega) (by omega) (by rw [e g 5 (by omega)]; exact r3) (fun q hq z1 z2 => by rw [p_st2 (by decide)]; exact hF _ ((b3 rfl).2 q hq z1 z2)) (b3 rfl).1
      rw [p_st3] at hs
      refine ⟨pVal f (pE w 1 i), stk, ?_, fun high hh => ?_⟩
      · rw [hs, p_b]
      · rw [pAmt, if_pos hc]
    by_cases c0 : pSay w 1 i = word
    · rw [if_pos ((pVb_hand b4 hw).mpr c0), p_c (by omega), p_c (by omega), e g 3 (by omega), e g 4 (by omega), e g 2 (by omega)]
      by_cases c1 : pTo w 1 i = pMid w 1 i
      · rw [if_pos (ap.1.mpr c1), p_c (by omega), p_c (by omega)]
        exact take g ⟨c0, ap.2.2 c1⟩
      · obtain ⟨stk, hs⟩ := c156 d ha (M := p_st M 106 g) (f := f) (l := pB w 1 i) (t := true) (b := M (a + 3) i) (e := M (a + 4) i) (by omega) (by omega) (by omega) (by rw [e g 5 (by omega)]; exact r4) (fun q hq z1 z2 => by rw [p_st2 (by decide)]; exact hF _ ((b2 c1).2 q hq z1 z2)) (b2 c1).1
        rw [p_st3] at hs
        rw [if_neg (fun q => c1 (ap.1.mp q)), p_c (by omega), p_c (by omega), hs, p_b, p_w (x := i + 1) (by omega) (by omega)]
        by_cases c2 : pVal f (pB w 1 i) = 0
        · rw [if_pos c2]
          exact next stk (fun q => (ap.2.1 c1).mp q.2 c2)
        · rw [if_neg c2, p_c (by omega), p_c (by omega), e stk 2 (by omega), e stk 3 (by omega)]
          exact take stk ⟨c0, (ap.2.1 c1).mpr c2⟩
    · rw [if_neg (fun q => c0 ((pVb_hand b4 hw).mp q)), p_w (x := i + 1) (by omega) (by omega)]
      exact next g (fun q => c0 q.1)
theorem c155 (d : Nat) {a : Nat} (ha : IsL a) {M : am_M} {w f : Int → Int} {word : Int} (hw : 26 ≤ word ∧ word ≤ 29) (hL : LawT w 1) (hR : LawR M a w 1) (hF : pAskd M 1 f) : ∃ r stk, am_run (d + 2) 155 [.inr a, .inl (word - 6), .inr 104] M = some (r, p_st M 106 stk) ∧ ∀ high, 0 ≤ high → max 0 (min high r) = pAm w f word high := by
  have n16 : 0 ≤ w 289 ∧ w 289 ≤ 16 := hL.1
  obtain ⟨r, stk, h1, h2⟩ := c155_2 d ha hw hL hR hF (w 289).toNat 0 (M 106) (by omega) (by omega)
  refine ⟨r, stk, ?_, h2⟩
  rw [e155]
  simp only [l_c ha, l_B1, cond_true]
  rw [p_st5] at h1
  exact h1
end
section
/-! PURE: the class's acts in a world: what is asked, loans, toil -/
def cT (M : am_M) (F stk : Int → Int) : am_M := p_st (p_st M 105 F) 106 stk
theorem cT_105 (M : am_M) (F stk : Int → Int) : cT M F stk 105 = F := rfl
theorem cT_106 (M : am_M) (F stk : Int → Int) : cT M F stk 106 = stk := rfl
theorem cT_o {M : am_M} {F stk : Int → Int} {b : Nat} (h : b ≠ 105 ∧ b ≠ 106) : cT M F stk b = M b := by
  unfold cT
  rw [p_st2 h.2, p_st2 h.1]
theorem cT_st105 (M : am_M) (F stk G : Int → Int) : p_st (cT M F stk) 105 G = cT M G stk := by
  unfold cT
  rw [p_st4 (by decide), p_st3]
theorem cT_st106 (M : am_M) (F stk G : Int → Int) : p_st (cT M F stk) 106 G = cT M F G := by
  unfold cT
  rw [p_st3]
theorem cT_id (M : am_M) : cT M (M 105) (M 106) = M := by
  unfold cT
  rw [p_st5, p_st5]
theorem cT_F (M : am_M) (F : Int → Int) : p_st M 105 F = cT M F (M 106) := by
  rw [← cT_st105 M (M 105), cT_id]
theorem cT_cT (M : am_M) (F stk F' stk' : Int → Int) : cT (cT M F stk) F' stk' = cT M F' stk' := by
  rw [cT, cT_st105, cT_st106]
/-- what a law's reckoning and a world's run may touch -/
def CA (o : Nat) (M M' : am_M) : Prop := ∀ b, (b < o ∨ o + 12 < b) → b ≠ 105 → b ≠ 106 → M' b = M b
theorem CA_refl (o : Nat) (M : am_M) : CA o M M := fun _ _ _ _ => rfl
theorem CA_trans {o : Nat} {A B C : am_M} (h1 : CA o A B) (h2 : CA o B C) : CA o A C := fun b hb h5 h6 => (h2 b hb h5 h6).trans (h1 b hb h5 h6)
theorem CW_CA {o : Nat} {A B : am_M} (h : CW o A B) : CA o A B := fun b hb _ _ => h b hb
theorem CA_cT (o : Nat) (M : am_M) (F stk : Int → Int) : CA o M (cT M F stk) := fun b _ h5 h6 => cT_o ⟨h5, h6⟩
theorem WR_cT {M : am_M} {o : Nat} {w : Int → Int} (ho : IsW o) (h : WR M o w) (F stk : Int → Int) : WR (cT M F stk) o w := by
  have := w_far ho
  exact WR_fr h (fun b h0 h1 => cT_o (by omega))
/-- the class's texts -/
def TxR (M : am_M) (x : Nat) (w : Int → Int) : Prop := (LawR M (x + 6) w 0 ∧ LawR M (x + 12) w 1 ∧ LawR M (x + 18) w 2) ∧ (M (x + 2) 0 = w 286 ∧ ∀ i j, 0 ≤ i → i < w 286 → 0 ≤ j → j < 5 → M (x + 3) (i * 5 + j) = w (292 + 5 * i + j)) ∧ (M (x + 4) 0 = w 287 ∧ ∀ i j, 0 ≤ i → i < w 287 → 0 ≤ j → j < 4 → M (x + 5) (i * 5 + j) = w (372 + 4 * i + j))
def TxW (w : Int → Int) : Prop := (LawT w 0 ∧ LawT w 1 ∧ LawT w 2) ∧ (0 ≤ w 286 ∧ w 286 ≤ 16) ∧ (0 ≤ w 287 ∧ w 287 ≤ 8) ∧ ∀ i, 0 ≤ i → i < w 287 → (0 ≤ w (372 + 4 * i) ∧ w (372 + 4 * i) ≤ 3) ∧ (w (372 + 4 * i + 3) = 0 ∨ w (372 + 4 * i + 3) = 1)
theorem LawR_fr {M M' : am_M} {a : Nat} {w : Int → Int} {k : Int} (h : LawR M a w k) (hf : ∀ b, a ≤ b → b ≤ a + 5 → M' b = M b) : LawR M' a w k := by
  obtain ⟨h1, h2⟩ := h
  refine ⟨by rw [hf a (by omega) (by omega)]; exact h1, fun i h0 hi => ?_⟩
  rw [hf (a + 1) (by omega) (by omega), hf (a + 2) (by omega) (by omega), hf (a + 3) (by omega) (by omega), hf (a + 4) (by omega) (by omega), hf (a + 5) (by omega) (by omega)]
  exact h2 i h0 hi
theorem TxR_fr {M M' : am_M} {x : Nat} {w : Int → Int} (h : TxR M x w) (hf : ∀ b, x ≤ b → b ≤ x + 23 → M' b = M b) : TxR M' x w := by
  obtain ⟨⟨l0, l1, l2⟩, ⟨b1, b2⟩, w1, w2⟩ := h
  refine ⟨⟨LawR_fr l0 (fun b _ _ => hf b (by omega) (by omega)), LawR_fr l1 (fun b _ _ => hf b (by omega) (by omega)), LawR_fr l2 (fun b _ _ => hf b (by omega) (by omega))⟩, ⟨?_, ?_⟩, ?_, ?_⟩
  · rw [hf _ (by omega) (by omega)]; exact b1
  · intro i j k0 k1 k2 k3
    rw [hf _ (by omega) (by omega)]; exact b2 i j k0 k1 k2 k3
  · rw [hf _ (by omega) (by omega)]; exact w1
  · intro i j k0 k1 k2 k3
    rw [hf _ (by omega) (by omega)]; exact w2 i j k0 k1 k2 k3
theorem LawT_TX {w w' : Int → Int} {k : Int} (h : pTX w w') (hk : 0 ≤ k) (hL : LawT w k) : LawT w' k := by
  obtain ⟨h1, h2⟩ := hL
  have e : w' (288 + k) = w (288 + k) := h _ (by omega)
  refine ⟨by rw [e]; exact h1, fun i h0 hi => ?_⟩
  rw [e] at hi
  obtain ⟨b1, b2, b3, b4⟩ := h2 i h0 hi
  rw [pB_TX h hk h0 (by omega), pE_TX h hk h0 (by omega), show pFrom w' k i = pFrom w k i from h _ (by omega), show pMid w' k i = pMid w k i from h _ (by omega), show pTo w' k i = pTo w k i from h _ (by omega), show pSay w' k i = pSay w k i from h _ (by omega)]
  exact ⟨b1, b2, b3, b4⟩
theorem LawR_TX {M : am_M} {a : Nat} {w w' : Int → Int} {k : Int} (h : pTX w w') (hk : 0 ≤ k) (hL : LawT w k) (hR : LawR M a w k) : LawR M a w' k := by
  have e : w' (288 + k) = w (288 + k) := h _ (by omega)
  refine ⟨by rw [e]; exact hR.1, fun i h0 hi => ?_⟩
  rw [e] at hi
  obtain ⟨b1, -, -, -⟩ := hL.2 i h0 hi
  rw [pB_TX h hk h0 (by omega), pE_TX h hk h0 (by omega), show pSay w' k i = pSay w k i from h _ (by omega)]
  exact hR.2 i h0 hi
theorem TxW_TX {w w' : Int → Int} (h : pTX w w') (hW : TxW w) : TxW w' := by
  obtain ⟨⟨l0, l1, l2⟩, b, c, e⟩ := hW
  refine ⟨⟨LawT_TX h (by omega) l0, LawT_TX h (by omega) l1, LawT_TX h (by omega) l2⟩, by rw [h _ (by omega)]; exact b, by rw [h _ (by omega)]; exact c, fun i h0 h1 => ?_⟩
  rw [h _ (by omega)] at h1
  rw [h _ (by omega), h _ (by omega)]
  exact e i h0 h1
theorem TxR_TX {M : am_M} {x : Nat} {w w' : Int → Int} (h : pTX w w') (hW : TxW w) (hR : TxR M x w) : TxR M x w' := by
  obtain ⟨⟨l0, l1, l2⟩, b, c, e⟩ := hW
  obtain ⟨⟨r0, r1, r2⟩, ⟨b1, b2⟩, w1, w2⟩ := hR
  refine ⟨⟨LawR_TX h (by omega) l0 r0, LawR_TX h (by omega) l1 r1, LawR_TX h (by omega) l2 r2⟩, ⟨?_, ?_⟩, ?_, ?_⟩
  · rw [h _ (by omega)]; exact b1
  · intro i j k0 k1 k2 k3
    rw [h _ (by omega)] at k1
    rw [h _ (by omega)]; exact b2 i j k0 k1 k2 k3
  · rw [h _ (by omega)]; exact w1
  · intro i j k0 k1 k2 k3
    rw [h _ (by omega)] at k1
    rw [h _ (by omega)]; exact w2 i j k0 k1 k2 k3
/-- what askOfHand lays -/
def cHF (w : Int → Int) (h p : Int) (f : Int → Int) : Int → Int := p_up (p_up (p_up (p_up (p_up (p_up (p_up f 0 (1 - h % 2)) 1 (pBest w h)) 2 (ph w h 4)) 3 (ph w h 5)) 11 (ph w h 7)) 8 (if h / 2 = p then 1 else 0)) 7 (w (277 + p))
theorem c251 (d : Nat) {o : Nat} (ho : IsW o) {M : am_M} {w : Int → Int} (hR : WR M o w) {h p : Int} (hh : 0 ≤ h ∧ h < 16) (hp : 0 ≤ p ∧ p < 8) : am_run (d + 2) 251 [.inr 0, .inr o, .inl h, .inl p] M = some (0, cT M (cHF w h p (M 105)) (M 106)) := by
  have hfar := w_far ho
  have far := hfar
  have R : ∀ F, WR (p_st M 105 F) o w := fun F => by rw [cT_F]; exact WR_cT ho hR F _
  have e8 := R_wear hR hh.1 hh.2
  have e9 := R_scars hR hh.1 hh.2
  have e11 := R_held hR hh.1 hh.2
  have e2 := R_child hR hp.1 hp.2
  rw [e251]
  simp only [w_c ho, w_r5 ho, w_r6 ho, w_r7 ho, w_r8 ho, w_r9 ho, w_r10 ho, w_r11 ho, w_r12 ho, w_r13 ho, w_r14 ho, w_r15 ho, w_r16 ho, w_k1 ho, w_k2 ho, w_k3 ho, w_k4 ho, w_k5 ho, w_k6 ho, w_k7 ho, w_k8 ho, w_k9 ho, w_k10 ho, w_k11 ho, w_k12 ho, w_l1 ho, w_l2 ho, w_l3 ho, w_l4 ho, w_l5 ho, w_l6 ho, w_l7 ho, w_l8 ho, w_l9 ho, w_l10 ho, w_l11 ho, w_l12 ho, w_B5, w_B9, cond_true, Bool.true_or, p_and1 hh.1 (show h < 64 by omega), p_shr1 hh.1 (show h < 64 by omega)]
  rw [p_c (by decide), p_upd, c141 d ho (R _) hh, p_b]
  simp (disch := omega) only [p_c, p_upd, p_st1, p_st2, p_st3, e8, e9, e11, e2, p_w]
  rw [← cT_F]
  unfold cHF
  by_cases q : h / 2 = p
  · rw [if_pos q, if_pos q]
  · rw [if_neg q, if_neg q]
theorem pAskd_loan (M : am_M) (w : Int → Int) (h to n price : Int) (g : Int → Int) (hM : M 105 = p_up (p_up (p_up (p_up (cHF w h to g) 4 n) 5 price) 6 (pp w to 0)) 9 (pLoans w h)) : pAskd M 0 (pMayF w h to n price (fun _ => 0)) := by
  intro s hs
  rw [hM]
  simp only [pA, if_true, List.mem_cons, List.not_mem_nil, or_false] at hs
  rcases hs with rfl | rfl | rfl | rfl | rfl | rfl | rfl | rfl | rfl | rfl <;> simp [pMayF, pHF, cHF, p_up]
theorem c217 (d : Nat) {o : Nat} (ho : IsW o) {M : am_M} {w : Int → Int} (hR : WR M o w) (hW : TxW w) (hX : TxR M 28 w) (hn : 0 ≤ w 1 ∧ w 1 ≤ 16) {h to : Int} (n price : Int) (hh : 0 ≤ h ∧ h < 16) (hp : 0 ≤ to ∧ to < 8) : ∃ F stk, am_run (d + 3) 217 [.inr 0, .inr o, .inl h, .inl to, .inl n, .inl price] M = some (if pMay w h to n price = true then 1 else 0, cT M F stk) := by
  have far := w_far ho
  have e1 := R_coin hR hp.1 hp.2
  have R : ∀ F stk, WR (cT M F stk) o w := fun F stk => WR_cT ho hR F stk
  generalize hF : p_up (p_up (p_up (p_up (cHF w h to (M 105)) 4 n) 5 price) 6 (pp w to 0)) 9 (pLoans w h) = F
  obtain ⟨r, stk, h1, h2⟩ := c154 d (a := 34) (by unfold IsL; omega) (M := cT M F (M 106)) (w := w) (f := pMayF w h to n price (fun _ => 0)) (k := 0) (by omega) hW.1.1 (LawR_fr hX.1.1 (fun b _ _ => cT_o (by omega))) (pAskd_loan _ w h to n price (M 105) (by rw [cT_105, ← hF]))
  refine ⟨F, stk, ?_⟩
  rw [cT_st106] at h1
  rw [e217, c251 _ ho hR hh hp, p_b]
  simp only [w_c ho, w_r5 ho, w_r6 ho, w_r7 ho, w_r8 ho, w_r9 ho, w_r10 ho, w_r11 ho, w_r12 ho, w_r13 ho, w_r14 ho, w_r15 ho, w_r16 ho, w_k1 ho, w_k2 ho, w_k3 ho, w_k4 ho, w_k5 ho, w_k6 ho, w_k7 ho, w_k8 ho, w_k9 ho, w_k10 ho, w_k11 ho, w_k12 ho, w_l1 ho, w_l2 ho, w_l3 ho, w_l4 ho, w_l5 ho, w_l6 ho, w_l7 ho, w_l8 ho, w_l9 ho, w_l10 ho, w_l11 ho, w_l12 ho, w_B5, w_B9, cond_true, Bool.true_or]
  rw [p_c (by decide), p_c (by decide), p_c (by omega), p_c (by decide)]
  simp only [p_upd, cT_105, cT_st105]
  rw [cT_o (show o + 1 ≠ 105 ∧ o + 1 ≠ 106 by omega), e1, c144 _ ho (R _ _) hn, p_b, p_c (by decide), p_c (by decide)]
  simp only [cT_105, cT_st105]
  rw [hF, h1, p_b]
  rcases h2 with ⟨rfl, h2⟩ | ⟨s, hs, rfl, h2⟩
  · have : pMay w h to n price = true := decide_eq_true (h2 20)
    rw [if_pos rfl, if_pos this]
  · have hs2 := hs.1 rfl
    have h3 : pSays w (pMayF w h to n price (fun _ => 0)) 0 20 (w 288).toNat 0 = s := h2 20
    have ev : pVb s = s - 2 := if_pos (by omega)
    rw [ev, if_neg (by omega)]
    by_cases s20 : s = 20
    · have : pMay w h to n price = true := decide_eq_true (h3.trans s20)
      rw [if_pos (by omega), if_pos this]
    · have : ¬ pMay w h to n price = true := fun q => s20 (h3.symm.trans (of_decide_eq_true q))
      rw [if_neg (by omega), if_neg this]
theorem c218 (d : Nat) {o : Nat} (ho : IsW o) {M : am_M} {w : Int → Int} (hR : WR M o w) (hw : WF w) (hW : TxW w) (hX : TxR M 28 w) (h0 : 0 ≤ w 0 ∧ w 0 ≤ 20000) (h to n price : Int) : ∃ F stk, am_run (d + 4) 218 [.inr 0, .inr o, .inl h, .inl to, .inl n, .inl price] M = some (if pCan w h to n price = true then 1 else 0, cT M F stk) := by
  obtain ⟨n1, n2, n3⟩ := hw.1
  have no : ∀ P : Prop, ¬ P → (pCan w h to n price = true → P) → ∃ F stk, (some (0, M) : am_R) = some (if pCan w h to n price = true then 1 else 0, cT M F stk) := by
    intro P h1 h2
    refine ⟨M 105, M 106, ?_⟩
    rw [if_neg (fun q => h1 (h2 q)), cT_id]
  rw [e218, c135 _ ho hR n2, p_b, p_i0]
  by_cases h1 : 0 ≤ h ∧ h ≤ 2 * w 276 - 1
  · rw [if_pos h1, c134 _ ho hR, p_b, p_i0]
    by_cases h2 : 0 ≤ to ∧ to ≤ w 276 - 1
    · have ea := R_at hR h1.1 (show h < 16 by omega)
      have ec := R_coin hR h2.1 (show to < 8 by omega)
      rw [if_pos h2]
      simp only [w_c ho, w_r5 ho, w_r6 ho, w_r7 ho, w_r8 ho, w_r9 ho, w_r10 ho, w_r11 ho, w_r12 ho, w_r13 ho, w_r14 ho, w_r15 ho, w_r16 ho, w_k1 ho, w_k2 ho, w_k3 ho, w_k4 ho, w_k5 ho, w_k6 ho, w_k7 ho, w_k8 ho, w_k9 ho, w_k10 ho, w_k11 ho, w_k12 ho, w_l1 ho, w_l2 ho, w_l3 ho, w_l4 ho, w_l5 ho, w_l6 ho, w_l7 ho, w_l8 ho, w_l9 ho, w_l10 ho, w_l11 ho, w_l12 ho, w_B5, w_B9, cond_true, Bool.true_or]
      rw [p_c (by omega), ea]
      by_cases h5 : ph w h 8 = -1
      · rw [if_pos h5]
        exact no (¬ ph w h 8 = -1) (fun q => q h5) (fun q => (of_decide_eq_true q).2.2.2.2.1)
      · rw [if_neg h5, p_c (by omega)]
        by_cases h6 : ph w h 8 = to
        · rw [if_pos h6]
          exact no (¬ ph w h 8 = to) (fun q => q h6) (fun q => (of_decide_eq_true q).2.2.2.2.2.1)
        · rw [if_neg h6, c253, p_b, p_i0]
          by_cases h3a : 1 ≤ n ∧ n ≤ 99
          · rw [if_pos h3a, c253, p_b, p_i0]
            by_cases h3b : 0 ≤ price ∧ price ≤ 99
            · have hm := p_mul (a := n) (b := price) (by omega) (by omega)
              rw [if_pos h3b, R_ln hR]
              by_cases h4 : w 1 = 16
              · rw [if_neg (by omega)]
                exact no (¬ w 1 = 16) (fun q => q h4) (fun q => (of_decide_eq_true q).2.2.2.1)
              · rw [if_pos (by omega), p_c (by omega), ec, p_w (x := n * price) (by omega) (by omega)]
                by_cases h8 : pp w to 0 < n * price
                · rw [if_pos h8]
                  exact no (¬ pp w to 0 < n * price) (fun q => q h8) (fun q => (of_decide_eq_true q).2.2.2.2.2.2.2.1)
                · rw [if_neg h8, c143 _ ho hR n1, p_b]
                  obtain ⟨F, stk, hmay⟩ := c217 d ho hR hW hX n1 n price (h := h) (to := to) (by omega) (by omega)
                  have fin : (pLatest w h = -1 ∨ ¬ pl w (pLatest w h) 3 < w 0 + n) → ∃ F stk, am_bnd (am_run (d + 3) 217 [.inr 0, .inr o, .inl h, .inl to, .inl n, .inl price] M) (fun r6 M6 => am_chk ((r6 : Int) = 0 ∨ r6 = 1) (some (r6, M6))) = some (if pCan w h to n price = true then 1 else 0, cT M F stk) := by
                    intro h7
                    refine ⟨F, stk, ?_⟩
                    rw [hmay, p_b]
                    by_cases h9 : pMay w h to n price = true
                    · have : pCan w h to n price = true := decide_eq_true ⟨h1, h2, ⟨h3a, h3b⟩, h4, h5, h6, h7, h8, h9⟩
                      rw [if_pos h9, if_pos this, p_c (Or.inr rfl)]
                    · rw [if_neg h9, if_neg (fun q => h9 (of_decide_eq_true q).2.2.2.2.2.2.2.2), p_c (Or.inl rfl)]
                  rcases pLatest_range (w := w) (h := h) n1.1 with h7 | ⟨g1, g2, -⟩
                  · rw [if_pos h7]
                    exact fin (Or.inl h7)
                  · rw [if_neg (by omega), c142 _ ho hR (by omega) (by omega), p_b, R_hr hR, p_w (x := w 0 + n) (by omega) (by omega)]
                    by_cases h10 : pl w (pLatest w h) 3 < w 0 + n
                    · rw [if_pos h10]
                      exact no (pLatest w h = -1 ∨ ¬ pl w (pLatest w h) 3 < w 0 + n) (fun q => q.elim (fun q => by omega) (fun q => q h10)) (fun q => (of_decide_eq_true q).2.2.2.2.2.2.1)
                    · rw [if_neg h10]
                      exact fin (Or.inr h10)
            · rw [if_neg h3b]
              exact no _ h3b (fun q => (of_decide_eq_true q).2.2.1.2)
          · rw [if_neg h3a]
            exact no _ h3a (fun q => (of_decide_eq_true q).2.2.1.1)
    · rw [if_neg h2]
      exact no _ h2 (fun q => (of_decide_eq_true q).2.1)
  · rw [if_neg h1]
    exact no _ h1 (fun q => (of_decide_eq_true q).1)
end
section
/-! PURE: toil and an hour, in the class -/
def pTk1 (w : Int → Int) (h kind : Int) (F : Int → Int) : Int → Int := p_up w (36 + 10 * h + kind) (min 99 (am_wrap (ph w h kind + pAm w F 26 9)))
def pTkF (w : Int → Int) (p h kind : Int) : Int → Int := pTaskF w h p kind (ph w h kind) (fun _ => 0)
def pToil (w : Int → Int) (p h kind : Int) : Int → Int := pEarns (pWk2 (pTk1 w h kind (pTkF w p h kind)) h (pAm w (pTkF w p h kind) 27 9)) p (pAm w (pTkF w p h kind) 29 99)
theorem pWorks_toil (w : Int → Int) (p h t : Int) : pWorks w p h t = pWk4 (pToil w p h (pp w p 1)) h (if t = 0 then 0 else pAm w (pTkF w p h (pp w p 1)) 28 1000) := rfl
theorem pAskd_task (M : am_M) (w : Int → Int) (h p kind : Int) (g : Int → Int) (hM : M 105 = p_up (p_up (p_up (cHF w h p g) 10 (ph w h kind)) 12 kind) 13 (w 0)) : pAskd M 1 (pTkF w p h kind) := by
  intro s hs
  rw [hM]
  simp only [pA, if_true, if_false, List.mem_cons, List.not_mem_nil, or_false, show ¬ (1 : Int) = 0 by decide] at hs
  rcases hs with rfl | rfl | rfl | rfl | rfl | rfl | rfl | rfl | rfl <;> simp [pTkF, pTaskF, pHF, cHF, p_up]
theorem c236 (d : Nat) {o : Nat} (ho : IsW o) {M : am_M} {w : Int → Int} (hR : WR M o w) (hw : WF w) (hW : TxW w) (hX : TxR M 28 w) {p h kind : Int} (hh : 0 ≤ h ∧ h < 16) (hp : 0 ≤ p ∧ p < 8) (hk : 0 ≤ kind ∧ kind < 4) : pOk (am_run (d + 3) 236 [.inr 0, .inr o, .inl p, .inl h, .inl kind] M) (fun r M' => r = pAm w (pTkF w p h kind) 28 1000 ∧ WR M' o (pToil w p h kind) ∧ CA o M M') := by
  have far := w_far ho
  have n2 := hw.1.2.1
  have hc := (hw.2.1 p hp.1 hp.2).1
  have R : ∀ F stk, WR (cT M F stk) o w := fun F stk => WR_cT ho hR F stk
  have es := R_skill hR hh.1 hh.2 hk.1 hk.2
  have ehr := R_hr hR
  have ew := R_wear hR hh.1 hh.2
  have ec := R_coin hR hp.1 hp.2
  generalize hF : p_up (p_up (p_up (cHF w h p (M 105)) 10 (ph w h kind)) 12 kind) 13 (w 0) = F
  have am : ∀ (stk : Int → Int) (word : Int), 26 ≤ word ∧ word ≤ 29 → ∃ r stk2, am_run (d + 2) 155 [.inr 40, .inl (word - 6), .inr 104] (cT M F stk) = some (r, cT M F stk2) ∧ ∀ high, 0 ≤ high → max 0 (min high r) = pAm w (pTkF w p h kind) word high := by
    intro stk word hword
    obtain ⟨r, stk2, h1, h2⟩ := c155 d (a := 40) (by unfold IsL; omega) (M := cT M F stk) (w := w) (f := pTkF w p h kind) (word := word) hword hW.1.2.1 (LawR_fr hX.1.2.1 (fun b _ _ => cT_o (by omega))) (pAskd_task _ w h p kind (M 105) (by rw [cT_105, ← hF]))
    rw [cT_st106] at h1
    exact ⟨r, stk2, h1, h2⟩
  obtain ⟨r1, s1, a1, b1⟩ := am (M 106) 26 (by omega)
  obtain ⟨r2, s2, a2, b2⟩ := am s1 27 (by omega)
  obtain ⟨r3, s3, a3, b3⟩ := am s2 29 (by omega)
  obtain ⟨r4, s4, a4, b4⟩ := am s3 28 (by omega)
  have ra := pAm_range (w := w) (F := pTkF w p h kind) (word := 29) (high := 99) (by omega)
  have x0 : o ≠ 105 ∧ o ≠ 106 := by omega
  have x1 : o + 1 ≠ 105 ∧ o + 1 ≠ 106 := by omega
  have x7 : o + 7 ≠ 105 ∧ o + 7 ≠ 106 := by omega
  have x8 : o + 8 ≠ 105 ∧ o + 8 ≠ 106 := by omega
  have U1 := U_skill (R F s4) n2.2 (h := h) (k := kind) (v := min 99 (am_wrap (ph w h kind + pAm w (pTkF w p h kind) 26 9))) hh hk
  have U2 := U_wear U1 (by rw [p_off (by omega)]; exact n2.2) (h := h) (v := min 99 (am_wrap (ph w h 4 + pAm w (pTkF w p h kind) 27 9))) hh
  have U3 := U_coin U2 (by rw [p_off (by omega), p_off (by omega)]; exact n2.2) (p := p) (v := min 9999 (pp w p 0 + pAm w (pTkF w p h kind) 29 99)) hp
  have eW : p_up (p_up (p_up w (36 + 10 * h + kind) (min 99 (am_wrap (ph w h kind + pAm w (pTkF w p h kind) 26 9)))) (36 + 10 * h + 4) (min 99 (am_wrap (ph w h 4 + pAm w (pTkF w p h kind) 27 9)))) (4 + 4 * p + 0) (min 9999 (pp w p 0 + pAm w (pTkF w p h kind) 29 99)) = pToil w p h kind := by
    unfold pToil pEarns pWk2 pTk1
    rw [ph_off (by omega), pp_off (by omega), pp_off (by omega)]
  rw [eW] at U3
  simp (disch := omega) only [p_st1, p_st2, cT_o x1, cT_o x7, cT_o x8] at U3
  rw [e236]
  simp only [w_c ho, w_r5 ho, w_r6 ho, w_r7 ho, w_r8 ho, w_r9 ho, w_r10 ho, w_r11 ho, w_r12 ho, w_r13 ho, w_r14 ho, w_r15 ho, w_r16 ho, w_k1 ho, w_k2 ho, w_k3 ho, w_k4 ho, w_k5 ho, w_k6 ho, w_k7 ho, w_k8 ho, w_k9 ho, w_k10 ho, w_k11 ho, w_k12 ho, w_l1 ho, w_l2 ho, w_l3 ho, w_l4 ho, w_l5 ho, w_l6 ho, w_l7 ho, w_l8 ho, w_l9 ho, w_l10 ho, w_l11 ho, w_l12 ho, w_B5, w_B9, cond_true, Bool.true_or]
  rw [c251 _ ho hR hh hp, p_b, p_w (x := h * 4) (by omega) (by omega), p_w (x := h * 4 + kind) (by omega) (by omega), p_c (by omega), p_c (by decide), p_c (by decide), p_c (by decide), p_c (by decide)]
  simp only [p_upd, cT_105, cT_st105, cT_o x7, cT_o x0, es, ehr]
  rw [hF]
  have w6 : (26 : Int) - 6 = 20 := rfl
  have w7 : (27 : Int) - 6 = 21 := rfl
  have w8 : (28 : Int) - 6 = 22 := rfl
  have w9 : (29 : Int) - 6 = 23 := rfl
  rw [w6] at a1
  rw [w7] at a2
  rw [w8] at a4
  rw [w9] at a3
  rw [a1, p_b, c254, p_b, b1 9 (by omega), a2, p_b, c254, p_b, b2 9 (by omega), a3, p_b, c254, p_b, b3 99 (by omega), a4, p_b, c254, p_b, b4 1000 (by omega)]
  simp (disch := omega) only [p_st2, cT_o x1, cT_o x7, cT_o x8, es, ew, ec, p_w]
  simp only [Int.min_comm _ 99, Int.min_comm _ 9999]
  refine pOk_c (by omega) (pOk_c (by omega) (pOk_c (by omega) (pOk_c (by omega) (pOk_c (by omega) (pOk_c (by omega) (pOk_s ⟨rfl, U3, ?_⟩))))))
  intro b hb h5 h6
  rw [p_st2 (by omega), p_st2 (by omega), p_st2 (by omega), cT_o ⟨h5, h6⟩]
end
section
/-! PURE: an hour in the class -/
theorem c235 (d : Nat) {o : Nat} (ho : IsW o) {M : am_M} {w : Int → Int} (hR : WR M o w) (hw : WF w) (hW : TxW w) (hX : TxR M 28 w) {p s t : Int} (hp : 0 ≤ p ∧ p < w 276) (hs : 0 ≤ s ∧ s ≤ 1) (ht : pp w p 1 ≠ -1) : pOk (am_run (d + 4) 235 [.inr 0, .inr o, .inl p, .inl s, .inl t] M) (fun _ M' => WR M' o (pWO1 t p s w) ∧ CA o M M') := by
  have far := w_far ho
  have n2 := hw.1.2.1
  have hk := (hw.2.1 p hp.1 (by omega)).2
  have hr := pOn_range (w := w) (p := p) hs n2.1
  have eon := R_on hR hp.1 hp.2 hs.1 hs.2
  have et := R_task hR hp.1 (show p < 8 by omega)
  rw [e235]
  simp only [w_c ho, w_r5 ho, w_r6 ho, w_r7 ho, w_r8 ho, w_r9 ho, w_r10 ho, w_r11 ho, w_r12 ho, w_r13 ho, w_r14 ho, w_r15 ho, w_r16 ho, w_k1 ho, w_k2 ho, w_k3 ho, w_k4 ho, w_k5 ho, w_k6 ho, w_k7 ho, w_k8 ho, w_k9 ho, w_k10 ho, w_k11 ho, w_k12 ho, w_l1 ho, w_l2 ho, w_l3 ho, w_l4 ho, w_l5 ho, w_l6 ho, w_l7 ho, w_l8 ho, w_l9 ho, w_l10 ho, w_l11 ho, w_l12 ho, w_B5, w_B9, cond_true, Bool.true_or]
  rw [p_w (x := 2 * p) (by omega) (by omega), p_w (x := 2 * p + s) (by omega) (by omega), p_c (by omega), eon]
  unfold pWO1
  by_cases h : pOn w p s = -1
  · rw [if_pos h, if_pos h]
    exact pOk_s ⟨hR, CA_refl _ _⟩
  · rw [if_neg h, if_neg h, p_c (by omega), et]
    refine pOk_b (c236 d ho hR hw hW hX (h := pOn w p s) (p := p) (kind := pp w p 1) (by omega) (by omega) (by omega)) (fun r M1 ⟨hr1, R1, C1⟩ => ?_)
    have q276 : pToil w p (pOn w p s) (pp w p 1) 276 = w 276 := by
      unfold pToil pEarns pWk2 pTk1
      rw [p_off (by omega), p_off (by omega), p_off (by omega)]
    rw [pWorks_toil]
    unfold pWk4
    by_cases t0 : t = 0
    · rw [if_pos t0, if_pos t0, if_neg (by decide)]
      exact pOk_s ⟨R1, C1⟩
    · rw [if_neg t0, if_neg t0, ← hr1]
      by_cases a0 : 0 < r
      · rw [if_pos a0, if_pos a0]
        refine pOk_b (c148 _ ho R1 (by omega)) (fun r2 M2 ⟨hr2, R2, C2⟩ => ?_)
        rw [← hr2]
        by_cases a1 : r2 < r
        · rw [if_pos a1, if_pos a1]
          have esc := R_scars R2 (g := pOn w p s) (by omega) (by omega)
          have d276 : pDraw (pToil w p (pOn w p s) (pp w p 1)) 276 = w 276 := by
            unfold pDraw
            rw [p_off (by omega), q276]
          rw [p_c (by omega), p_c (by omega), esc, p_upd, Int.min_comm]
          refine pOk_s ⟨U_scars R2 (by omega) (by omega), fun b hb h5 h6 => ?_⟩
          rw [p_st2 (by omega)]
          exact CA_trans C1 (CW_CA C2) b hb h5 h6
        · rw [if_neg a1, if_neg a1]
          exact pOk_s ⟨R2, CA_trans C1 (CW_CA C2)⟩
      · rw [if_neg a0, if_neg a0]
        exact pOk_s ⟨R1, C1⟩
/-- a set told by a list -/
def pSetL (l : List Int) : Int := l.foldl (fun s i => am_ior s (am_ishl 1 i)) 0
theorem pSetL_app (l : List Int) (i : Int) : pSetL (l ++ [i]) = am_ior (pSetL l) (am_ishl 1 i) := by
  unfold pSetL
  rw [List.foldl_append]
  rfl
theorem c157b (d : Nat) {M : am_M} {i j : Int} (hi : 0 ≤ i ∧ i < 16) (hj : 0 ≤ j ∧ j < 5) : am_run (d + 1) 157 [.inr 30, .inl i, .inl j] M = some (M 31 (i * 5 + j), M) := by
  have e1 : am_rf 30 1 = 31 := rfl
  have e2 : am_cls 30 = 3 := rfl
  have e3 : am_cls 31 = 9 := rfl
  have e4 : ∀ M, am_len M 31 = 80 := fun _ => rfl
  have e5 : Nat.beq 3 3 = true := rfl
  rw [e157]
  simp only [e1, e2, e3, e4, e5, w_B9, cond_true, Bool.true_or]
  rw [p_w (x := i * 5) (by omega) (by omega), p_w (by omega) (by omega), p_c (by omega)]
theorem c157w (d : Nat) {M : am_M} {i j : Int} (hi : 0 ≤ i ∧ i < 16) (hj : 0 ≤ j ∧ j < 5) : am_run (d + 1) 157 [.inr 32, .inl i, .inl j] M = some (M 33 (i * 5 + j), M) := by
  have e1 : am_rf 32 1 = 33 := rfl
  have e2 : am_cls 32 = 3 := rfl
  have e3 : am_cls 33 = 9 := rfl
  have e4 : ∀ M, am_len M 33 = 80 := fun _ => rfl
  have e5 : Nat.beq 3 3 = true := rfl
  rw [e157]
  simp only [e1, e2, e3, e4, e5, w_B9, cond_true, Bool.true_or]
  rw [p_w (x := i * 5) (by omega) (by omega), p_w (by omega) (by omega), p_c (by omega)]
theorem TxR_CA {M M' : am_M} {o : Nat} {w : Int → Int} (ho : IsW o) (h : TxR M 28 w) (hC : CA o M M') : TxR M' 28 w := by
  have far := w_far ho
  exact TxR_fr h (fun b h0 h1 => hC b (by omega) (by omega) (by omega))
theorem c234_8 (d : Nat) {o : Nat} (ho : IsW o) {M : am_M} {w0 : Int → Int} (hw0 : WF w0) (hW : TxW w0) (hX : TxR M 28 w0) (h0 : 0 ≤ w0 0 ∧ w0 0 ≤ 20000) : ∀ (k : Nat) (i : Int) (o5 o6 o7 o8 : Option am_V) (M' : am_M), i = w0 286 - k → 0 ≤ i → WR M' o (pBks w0 i).1 → CA o M M' → pOk (am_L (d + 5) 234 8 [some (.inr 0), some (.inr o), some (.inr 30), some (.inl (pSetL (pBks w0 i).2)), some (.inl i), o5, o6, o7, o8] [] M') (fun r M' => r = pSetL (pHrL w0) ∧ WR M' o (pBks w0 (w0 286)).1 ∧ CA o M M') := by
  have n286 := hW.2.1
  intro k
  induction k with
  | zero =>
    intro i o5 o6 o7 o8 M' hi hi0 hR hC
    obtain rfl : i = w0 286 := by omega
    have hX' := TxR_CA ho hX hC
    rw [e234_8, hX'.2.1.1, if_neg (by omega)]
    exact pOk_s ⟨rfl, hR, hC⟩
  | succ k ih =>
    intro i o5 o6 o7 o8 M' hi hi0 hR hC
    obtain ⟨a1, a2, a3, a4, a5, a6, a7⟩ := pBks_all hw0 i.toNat
    have e := pBks_next w0 hi0
    rw [show (i.toNat : Int) = i from by omega] at a1 a2 a3 a4 a5 a6 a7
    have next := ih (i + 1)
    rw [e] at next
    generalize pBks w0 i = s at *
    have hX' := TxR_TX a2 hW (TxR_CA ho hX hC)
    have hW' := TxW_TX a2 hW
    have b0 : s.1 286 = w0 286 := a2 _ (by omega)
    have cell : ∀ j, 0 ≤ j → j < 5 → M' 31 (i * 5 + j) = s.1 (292 + 5 * i + j) := fun j j0 j1 => hX'.2.1.2 i j hi0 (by omega) j0 j1
    have n2 := a1.1.2.1
    rw [e234_8, hX'.2.1.1, if_pos (by omega), c157b _ (by omega) (by omega), p_b, cell 2 (by omega) (by omega)]
    simp only [w_c ho, w_r5 ho, w_r6 ho, w_r7 ho, w_r8 ho, w_r9 ho, w_r10 ho, w_r11 ho, w_r12 ho, w_r13 ho, w_r14 ho, w_r15 ho, w_r16 ho, w_k1 ho, w_k2 ho, w_k3 ho, w_k4 ho, w_k5 ho, w_k6 ho, w_k7 ho, w_k8 ho, w_k9 ho, w_k10 ho, w_k11 ho, w_k12 ho, w_l1 ho, w_l2 ho, w_l3 ho, w_l4 ho, w_l5 ho, w_l6 ho, w_l7 ho, w_l8 ho, w_l9 ho, w_l10 ho, w_l11 ho, w_l12 ho, w_B5, w_B9, cond_true, Bool.true_or]
    rw [R_hr hR, p_w (x := i + 1) (by omega) (by omega)]
    unfold pBk at next
    by_cases h1 : s.1 (292 + 5 * i + 2) = s.1 0
    · rw [if_pos h1] at next ⊢
      rw [c157b _ (by omega) (by omega), p_b, c157b _ (by omega) (by omega), p_b, c157b _ (by omega) (by omega), p_b, c157b _ (by omega) (by omega), p_b, cell 0 (by omega) (by omega), cell 1 (by omega) (by omega), cell 3 (by omega) (by omega), cell 4 (by omega) (by omega), show 292 + 5 * i + 0 = 292 + 5 * i from by omega]
      obtain ⟨F, stk, hc⟩ := c218 (d + 1) ho hR a1 hW' hX' (by rw [a3]; exact h0) (s.1 (292 + 5 * i)) (s.1 (292 + 5 * i + 1)) (s.1 (292 + 5 * i + 3)) (s.1 (292 + 5 * i + 4))
      rw [hc, p_b]
      have R2 := WR_cT ho hR F stk
      have C2 := CA_trans hC (CA_cT o M' F stk)
      by_cases h2 : pCan s.1 (s.1 (292 + 5 * i)) (s.1 (292 + 5 * i + 1)) (s.1 (292 + 5 * i + 3)) (s.1 (292 + 5 * i + 4)) = true
      · rw [if_pos h2] at next ⊢
        rw [if_neg (by decide)]
        refine pOk_b (c147 _ ho R2 a1 (by rw [a3]; exact h0) (pCan_ok h2)) (fun _ M3 ⟨_, R3, C3⟩ => ?_)
        exact next _ _ _ _ M3 (by omega) (by omega) R3 (CA_trans C2 (CW_CA C3))
      · rw [if_neg h2] at next ⊢
        rw [if_pos rfl]
        rw [pSetL_app] at next
        exact next _ _ _ _ _ (by omega) (by omega) R2 C2
    · rw [if_neg h1] at next ⊢
      exact next _ _ _ _ _ (by omega) (by omega) hR hC
theorem c234 (d : Nat) {o : Nat} (ho : IsW o) {M : am_M} {w : Int → Int} (hR : WR M o w) (hw : WF w) (hW : TxW w) (hX : TxR M 28 w) (h0 : 0 ≤ w 0 ∧ w 0 ≤ 20000) : pOk (am_run (d + 6) 234 [.inr 0, .inr o] M) (fun r M' => r = pSetL (pHrL w) ∧ WR M' o (pBks w (w 286)).1 ∧ CA o M M') := by
  have := hW.2.1
  rw [e234]
  exact c234_8 d ho hw hW hX h0 (w 286).toNat 0 none none none none M (by omega) (by omega) hR (CA_refl _ _)
theorem c233 (d : Nat) {o : Nat} (ho : IsW o) {M : am_M} {w : Int → Int} (hR : WR M o w) (hw : WF w) (hW : TxW w) (hX : TxR M 28 w) (h0 : 0 ≤ w 0 ∧ w 0 ≤ 20000) (t : Int) : pOk (am_run (d + 7) 233 [.inr 0, .inr o, .inl t] M) (fun r M' => r = pSetL (pHrL w) ∧ WR M' o (pHr t w) ∧ CA o M M') := by
  have n286 := hW.2.1
  obtain ⟨a1, a2, a3, a4, a5, a6, a7⟩ := pBks_all hw (w 286).toNat
  rw [show ((w 286).toNat : Int) = w 286 from by omega] at a1 a2 a3 a4 a5 a6 a7
  unfold pHr
  rw [e233]
  refine pOk_b (c234 d ho hR hw hW hX h0) (fun r M1 ⟨hr, R1, C1⟩ => ?_)
  subst hr
  generalize (pBks w (w 286)).1 = w1 at *
  have n2 := a1.1.2.1
  have main : ∀ (k : Nat) (i : Int) (M' : am_M), i = w1 276 - k → 0 ≤ i → WR M' o (pWA t w1 i) → CA o M M' → pOk (am_L (d + 6) 233 6 [some (.inr 0), some (.inr o), some (.inl t), some (.inl (pSetL (pHrL w))), some (.inl i)] [] M') (fun r M' => r = pSetL (pHrL w) ∧ WR M' o (pHr3 (pHr2 t w1)) ∧ CA o M M') := by
    intro k
    induction k with
    | zero =>
      intro i M' hi hi0 hR' hC
      obtain rfl : i = w1 276 := by omega
      have kk := pWA_K t a1 (w1 276).toNat (by omega)
      rw [show ((w1 276).toNat : Int) = w1 276 from by omega] at kk
      unfold pHr2
      generalize pWA t w1 (w1 276) = v at *
      obtain ⟨b1, b2, b3, b4, b5, b6, b7, b8⟩ := kk
      rw [e233_6]
      simp only [w_c ho, w_r5 ho, w_r6 ho, w_r7 ho, w_r8 ho, w_r9 ho, w_r10 ho, w_r11 ho, w_r12 ho, w_r13 ho, w_r14 ho, w_r15 ho, w_r16 ho, w_k1 ho, w_k2 ho, w_k3 ho, w_k4 ho, w_k5 ho, w_k6 ho, w_k7 ho, w_k8 ho, w_k9 ho, w_k10 ho, w_k11 ho, w_k12 ho, w_l1 ho, w_l2 ho, w_l3 ho, w_l4 ho, w_l5 ho, w_l6 ho, w_l7 ho, w_l8 ho, w_l9 ho, w_l10 ho, w_l11 ho, w_l12 ho, w_B5, w_B9, cond_true, Bool.true_or]
      rw [R_n hR', if_neg (by omega)]
      refine pOk_b (c149 _ ho hR' (by omega) (by omega)) (fun _ M2 ⟨R2, C2⟩ => ?_)
      refine pOk_b (c150 _ ho R2 (WF_hour (pMarks_WF b1) _)) (fun _ M3 ⟨R3, C3⟩ => ?_)
      refine pOk_s ⟨rfl, ?_, CA_trans hC (CA_trans (CW_CA C2) (CW_CA C3))⟩
      have e0 : pMarks v 0 = v 0 := pMk_off (by omega)
      unfold pHr3
      rw [p_off (show (1 : Int) < 0 ∨ (0 : Int) < 1 by omega)] at R3
      rw [e0]
      exact R3
    | succ k ih =>
      intro i M' hi hi0 hR' hC
      have kk := pWA_K t a1 i.toNat (by omega)
      rw [show (i.toNat : Int) = i from by omega] at kk
      have e := pWA_next t w1 hi0
      have next := ih (i + 1)
      rw [e] at next
      generalize pWA t w1 i = v at *
      obtain ⟨b1, b2, b3, b4, b5, b6, b7, b8⟩ := kk
      have tx := pTX_trans a2 b2
      have hW' := TxW_TX tx hW
      have et := R_task hR' hi0 (show i < 8 by omega)
      rw [e233_6]
      simp only [w_c ho, w_r5 ho, w_r6 ho, w_r7 ho, w_r8 ho, w_r9 ho, w_r10 ho, w_r11 ho, w_r12 ho, w_r13 ho, w_r14 ho, w_r15 ho, w_r16 ho, w_k1 ho, w_k2 ho, w_k3 ho, w_k4 ho, w_k5 ho, w_k6 ho, w_k7 ho, w_k8 ho, w_k9 ho, w_k10 ho, w_k11 ho, w_k12 ho, w_l1 ho, w_l2 ho, w_l3 ho, w_l4 ho, w_l5 ho, w_l6 ho, w_l7 ho, w_l8 ho, w_l9 ho, w_l10 ho, w_l11 ho, w_l12 ho, w_B5, w_B9, cond_true, Bool.true_or]
      rw [R_n hR', if_pos (by omega), p_c (by omega), et, p_w (x := i + 1) (by omega) (by omega)]
      unfold pWA1 at next
      by_cases h : pp v i 1 = -1
      · rw [if_pos h] at next ⊢
        exact next _ (by omega) (by omega) hR' hC
      · rw [if_neg h] at next ⊢
        have k1 := pWO1_K (t := t) (p := i) (s := 0) b1 (by omega) (by omega) h
        refine pOk_b (c235 (d + 2) ho hR' b1 hW' (TxR_TX tx hW (TxR_CA ho hX hC)) (p := i) (s := 0) (t := t) (by omega) (by omega) h) (fun _ M2 ⟨R2, C2⟩ => ?_)
        have tx2 := pTX_trans tx k1.2.1
        refine pOk_b (c235 (d + 2) ho R2 k1.1 (TxW_TX tx2 hW) (TxR_TX tx2 hW (TxR_CA ho hX (CA_trans hC C2))) (p := i) (s := 1) (t := t) (by rw [k1.2.2.2.2.2.1]; omega) (by omega) (by rw [k1.2.2.2.2.2.2.1 i (by omega) (by omega)]; exact h)) (fun _ M3 ⟨R3, C3⟩ => ?_)
        exact next _ (by omega) (by omega) R3 (CA_trans hC (CA_trans C2 C3))
  exact main (w1 276).toNat 0 M1 (by omega) (by omega) R1 C1
end
