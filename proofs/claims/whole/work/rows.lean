section
-- ===== PART A: goes FIRST, ahead of the names: the tables' words, and 'selects' of the private methods out of them =====
/-- a private method of a class that the tables say can be made, by its rows of tables_1 -/
def lw_okq (q : MethodName × Nat) : Prop := (q.1.cls ≠ "java/lang/invoke/MethodHandle" ∧ q.1.cls ≠ "java/lang/invoke/VarHandle") ∧ Cond.instantiable q.1.cls q.2 ∈ tables_1 ∧ Cond.privateMethod q.1 ∈ tables_1 ∧ Cond.instanceMethod q.1 ∈ tables_1
theorem lw_p0 : lw_okq (⟨"TariffBoxes$Terms", "depthOf", "(I)I"⟩, 8) := ⟨⟨by decide +kernel, by decide +kernel⟩, List.mem_of_getElem? (i := 20) (by decide +kernel), List.mem_of_getElem? (i := 271) (by decide +kernel), List.mem_of_getElem? (i := 272) (by decide +kernel)⟩
theorem lw_p1 : lw_okq (⟨"TariffBoxes$Tape", "readTerm", "(I)I"⟩, 11) := ⟨⟨by decide +kernel, by decide +kernel⟩, List.mem_of_getElem? (i := 144) (by decide +kernel), List.mem_of_getElem? (i := 340) (by decide +kernel), List.mem_of_getElem? (i := 341) (by decide +kernel)⟩
theorem lw_p2 : lw_okq (⟨"TariffBoxes$Tape", "here", "()I"⟩, 11) := ⟨⟨by decide +kernel, by decide +kernel⟩, List.mem_of_getElem? (i := 144) (by decide +kernel), List.mem_of_getElem? (i := 344) (by decide +kernel), List.mem_of_getElem? (i := 345) (by decide +kernel)⟩
theorem lw_p3 : lw_okq (⟨"TariffBoxes$Tape", "isFigure", "(I)Z"⟩, 11) := ⟨⟨by decide +kernel, by decide +kernel⟩, List.mem_of_getElem? (i := 144) (by decide +kernel), List.mem_of_getElem? (i := 348) (by decide +kernel), List.mem_of_getElem? (i := 349) (by decide +kernel)⟩
theorem lw_p4 : lw_okq (⟨"TariffBoxes$Tape", "readNumber", "()I"⟩, 11) := ⟨⟨by decide +kernel, by decide +kernel⟩, List.mem_of_getElem? (i := 144) (by decide +kernel), List.mem_of_getElem? (i := 352) (by decide +kernel), List.mem_of_getElem? (i := 353) (by decide +kernel)⟩
theorem lw_p5 : lw_okq (⟨"TariffBoxes$Tape", "fail", "(I)V"⟩, 11) := ⟨⟨by decide +kernel, by decide +kernel⟩, List.mem_of_getElem? (i := 144) (by decide +kernel), List.mem_of_getElem? (i := 356) (by decide +kernel), List.mem_of_getElem? (i := 357) (by decide +kernel)⟩
theorem lw_p6 : lw_okq (⟨"TariffBoxes$Tape", "take", "(IIIII)I"⟩, 11) := ⟨⟨by decide +kernel, by decide +kernel⟩, List.mem_of_getElem? (i := 144) (by decide +kernel), List.mem_of_getElem? (i := 360) (by decide +kernel), List.mem_of_getElem? (i := 361) (by decide +kernel)⟩
theorem lw_p7 : lw_okq (⟨"TariffBoxes$Tape", "kindBySign", "(I)I"⟩, 11) := ⟨⟨by decide +kernel, by decide +kernel⟩, List.mem_of_getElem? (i := 144) (by decide +kernel), List.mem_of_getElem? (i := 365) (by decide +kernel), List.mem_of_getElem? (i := 366) (by decide +kernel)⟩
theorem lw_p8 : lw_okq (⟨"TariffBoxes$Tape", "readNamed", "()I"⟩, 11) := ⟨⟨by decide +kernel, by decide +kernel⟩, List.mem_of_getElem? (i := 144) (by decide +kernel), List.mem_of_getElem? (i := 369) (by decide +kernel), List.mem_of_getElem? (i := 370) (by decide +kernel)⟩
theorem lw_p9 : lw_okq (⟨"TariffBoxes$Tape", "readComposed", "(II)I"⟩, 11) := ⟨⟨by decide +kernel, by decide +kernel⟩, List.mem_of_getElem? (i := 144) (by decide +kernel), List.mem_of_getElem? (i := 373) (by decide +kernel), List.mem_of_getElem? (i := 374) (by decide +kernel)⟩
theorem lw_p10 : lw_okq (⟨"TariffBoxes$Tape", "readBox", "()I"⟩, 11) := ⟨⟨by decide +kernel, by decide +kernel⟩, List.mem_of_getElem? (i := 144) (by decide +kernel), List.mem_of_getElem? (i := 377) (by decide +kernel), List.mem_of_getElem? (i := 378) (by decide +kernel)⟩
theorem lw_p11 : lw_okq (⟨"TariffBoxes$Tape", "goOver", "(I)Z"⟩, 11) := ⟨⟨by decide +kernel, by decide +kernel⟩, List.mem_of_getElem? (i := 144) (by decide +kernel), List.mem_of_getElem? (i := 382) (by decide +kernel), List.mem_of_getElem? (i := 383) (by decide +kernel)⟩
theorem lw_p12 : lw_okq (⟨"TariffBoxes$Paper", "writeTerm", "(II)V"⟩, 3) := ⟨⟨by decide +kernel, by decide +kernel⟩, List.mem_of_getElem? (i := 187) (by decide +kernel), List.mem_of_getElem? (i := 410) (by decide +kernel), List.mem_of_getElem? (i := 411) (by decide +kernel)⟩
theorem lw_p13 : lw_okq (⟨"TariffBoxes$Paper", "writeFee", "(I)V"⟩, 3) := ⟨⟨by decide +kernel, by decide +kernel⟩, List.mem_of_getElem? (i := 187) (by decide +kernel), List.mem_of_getElem? (i := 415) (by decide +kernel), List.mem_of_getElem? (i := 416) (by decide +kernel)⟩
theorem lw_p14 : lw_okq (⟨"TariffBoxes$Paper", "writeByte", "(I)V"⟩, 3) := ⟨⟨by decide +kernel, by decide +kernel⟩, List.mem_of_getElem? (i := 187) (by decide +kernel), List.mem_of_getElem? (i := 419) (by decide +kernel), List.mem_of_getElem? (i := 420) (by decide +kernel)⟩
theorem lw_p15 : lw_okq (⟨"TariffBoxes$Paper", "signOf", "(I)I"⟩, 3) := ⟨⟨by decide +kernel, by decide +kernel⟩, List.mem_of_getElem? (i := 187) (by decide +kernel), List.mem_of_getElem? (i := 423) (by decide +kernel), List.mem_of_getElem? (i := 424) (by decide +kernel)⟩
def lw_privs_1 : List (MethodName × Nat) := [(⟨"TariffBoxes$Terms", "depthOf", "(I)I"⟩, 8), (⟨"TariffBoxes$Tape", "readTerm", "(I)I"⟩, 11), (⟨"TariffBoxes$Tape", "here", "()I"⟩, 11), (⟨"TariffBoxes$Tape", "isFigure", "(I)Z"⟩, 11), (⟨"TariffBoxes$Tape", "readNumber", "()I"⟩, 11), (⟨"TariffBoxes$Tape", "fail", "(I)V"⟩, 11), (⟨"TariffBoxes$Tape", "take", "(IIIII)I"⟩, 11), (⟨"TariffBoxes$Tape", "kindBySign", "(I)I"⟩, 11), (⟨"TariffBoxes$Tape", "readNamed", "()I"⟩, 11), (⟨"TariffBoxes$Tape", "readComposed", "(II)I"⟩, 11), (⟨"TariffBoxes$Tape", "readBox", "()I"⟩, 11), (⟨"TariffBoxes$Tape", "goOver", "(I)Z"⟩, 11), (⟨"TariffBoxes$Paper", "writeTerm", "(II)V"⟩, 3), (⟨"TariffBoxes$Paper", "writeFee", "(I)V"⟩, 3), (⟨"TariffBoxes$Paper", "writeByte", "(I)V"⟩, 3), (⟨"TariffBoxes$Paper", "signOf", "(I)I"⟩, 3)]
theorem lw_r1 : ∀ q ∈ lw_privs_1, lw_okq q := List.forall_mem_cons.mpr ⟨lw_p0, List.forall_mem_cons.mpr ⟨lw_p1, List.forall_mem_cons.mpr ⟨lw_p2, List.forall_mem_cons.mpr ⟨lw_p3, List.forall_mem_cons.mpr ⟨lw_p4, List.forall_mem_cons.mpr ⟨lw_p5, List.forall_mem_cons.mpr ⟨lw_p6, List.forall_mem_cons.mpr ⟨lw_p7, List.forall_mem_cons.mpr ⟨lw_p8, List.forall_mem_cons.mpr ⟨lw_p9, List.forall_mem_cons.mpr ⟨lw_p10, List.forall_mem_cons.mpr ⟨lw_p11, List.forall_mem_cons.mpr ⟨lw_p12, List.forall_mem_cons.mpr ⟨lw_p13, List.forall_mem_cons.mpr ⟨lw_p14, List.forall_mem_cons.mpr ⟨lw_p15, fun _ h => absurd h List.not_mem_nil⟩⟩⟩⟩⟩⟩⟩⟩⟩⟩⟩⟩⟩⟩⟩⟩
theorem lw_p16 : lw_okq (⟨"TariffBoxes$Paper", "writeHead", "(I)V"⟩, 3) := ⟨⟨by decide +kernel, by decide +kernel⟩, List.mem_of_getElem? (i := 187) (by decide +kernel), List.mem_of_getElem? (i := 427) (by decide +kernel), List.mem_of_getElem? (i := 428) (by decide +kernel)⟩
theorem lw_p17 : lw_okq (⟨"TariffBoxes$Tree", "setPlace", "(II)V"⟩, 8) := ⟨⟨by decide +kernel, by decide +kernel⟩, List.mem_of_getElem? (i := 90) (by decide +kernel), List.mem_of_getElem? (i := 452) (by decide +kernel), List.mem_of_getElem? (i := 453) (by decide +kernel)⟩
theorem lw_p18 : lw_okq (⟨"TariffBoxes$Tree", "answerAt", "(II)I"⟩, 8) := ⟨⟨by decide +kernel, by decide +kernel⟩, List.mem_of_getElem? (i := 90) (by decide +kernel), List.mem_of_getElem? (i := 461) (by decide +kernel), List.mem_of_getElem? (i := 462) (by decide +kernel)⟩
theorem lw_p19 : lw_okq (⟨"TariffBoxes$Tree", "saidAt", "(I)I"⟩, 8) := ⟨⟨by decide +kernel, by decide +kernel⟩, List.mem_of_getElem? (i := 90) (by decide +kernel), List.mem_of_getElem? (i := 469) (by decide +kernel), List.mem_of_getElem? (i := 470) (by decide +kernel)⟩
theorem lw_p20 : lw_okq (⟨"TariffBoxes$Tree", "capped", "(III)I"⟩, 8) := ⟨⟨by decide +kernel, by decide +kernel⟩, List.mem_of_getElem? (i := 90) (by decide +kernel), List.mem_of_getElem? (i := 486) (by decide +kernel), List.mem_of_getElem? (i := 487) (by decide +kernel)⟩
theorem lw_p21 : lw_okq (⟨"TariffBoxes", "earned", "(I)I"⟩, 10) := ⟨⟨by decide +kernel, by decide +kernel⟩, List.mem_of_getElem? (i := 12) (by decide +kernel), List.mem_of_getElem? (i := 494) (by decide +kernel), List.mem_of_getElem? (i := 495) (by decide +kernel)⟩
theorem lw_p22 : lw_okq (⟨"TariffBoxes", "covered", "(I)I"⟩, 10) := ⟨⟨by decide +kernel, by decide +kernel⟩, List.mem_of_getElem? (i := 12) (by decide +kernel), List.mem_of_getElem? (i := 499) (by decide +kernel), List.mem_of_getElem? (i := 500) (by decide +kernel)⟩
theorem lw_p23 : lw_okq (⟨"TariffBoxes", "boxFees", "(I)V"⟩, 10) := ⟨⟨by decide +kernel, by decide +kernel⟩, List.mem_of_getElem? (i := 12) (by decide +kernel), List.mem_of_getElem? (i := 515) (by decide +kernel), List.mem_of_getElem? (i := 516) (by decide +kernel)⟩
theorem lw_p24 : lw_okq (⟨"TariffBoxes$Boxes", "takeFrom", "(I)V"⟩, 4) := ⟨⟨by decide +kernel, by decide +kernel⟩, List.mem_of_getElem? (i := 121) (by decide +kernel), List.mem_of_getElem? (i := 523) (by decide +kernel), List.mem_of_getElem? (i := 524) (by decide +kernel)⟩
theorem lw_p25 : lw_okq (⟨"TariffBoxes$Boxes", "hoursAlike", "(IIIII)Z"⟩, 4) := ⟨⟨by decide +kernel, by decide +kernel⟩, List.mem_of_getElem? (i := 121) (by decide +kernel), List.mem_of_getElem? (i := 530) (by decide +kernel), List.mem_of_getElem? (i := 531) (by decide +kernel)⟩
theorem lw_p26 : lw_okq (⟨"TariffBoxes$Boxes", "daysAlike", "(IIIIII)Z"⟩, 4) := ⟨⟨by decide +kernel, by decide +kernel⟩, List.mem_of_getElem? (i := 121) (by decide +kernel), List.mem_of_getElem? (i := 538) (by decide +kernel), List.mem_of_getElem? (i := 539) (by decide +kernel)⟩
theorem lw_p27 : lw_okq (⟨"TariffBoxes$Boxes", "keep", "(II)V"⟩, 4) := ⟨⟨by decide +kernel, by decide +kernel⟩, List.mem_of_getElem? (i := 121) (by decide +kernel), List.mem_of_getElem? (i := 543) (by decide +kernel), List.mem_of_getElem? (i := 544) (by decide +kernel)⟩
theorem lw_p28 : lw_okq (⟨"TariffBoxes", "boxGaps", "(I)V"⟩, 10) := ⟨⟨by decide +kernel, by decide +kernel⟩, List.mem_of_getElem? (i := 12) (by decide +kernel), List.mem_of_getElem? (i := 562) (by decide +kernel), List.mem_of_getElem? (i := 563) (by decide +kernel)⟩
theorem lw_p29 : lw_okq (⟨"TariffBoxes", "boxDiffs", "(II)V"⟩, 10) := ⟨⟨by decide +kernel, by decide +kernel⟩, List.mem_of_getElem? (i := 12) (by decide +kernel), List.mem_of_getElem? (i := 570) (by decide +kernel), List.mem_of_getElem? (i := 571) (by decide +kernel)⟩
theorem lw_p30 : lw_okq (⟨"TariffBoxes$Tree", "isRule", "(I)Z"⟩, 8) := ⟨⟨by decide +kernel, by decide +kernel⟩, List.mem_of_getElem? (i := 90) (by decide +kernel), List.mem_of_getElem? (i := 591) (by decide +kernel), List.mem_of_getElem? (i := 592) (by decide +kernel)⟩
theorem lw_p31 : lw_okq (⟨"TariffBoxes", "isIdle", "(I)Z"⟩, 10) := ⟨⟨by decide +kernel, by decide +kernel⟩, List.mem_of_getElem? (i := 12) (by decide +kernel), List.mem_of_getElem? (i := 604) (by decide +kernel), List.mem_of_getElem? (i := 605) (by decide +kernel)⟩
def lw_privs_2 : List (MethodName × Nat) := [(⟨"TariffBoxes$Paper", "writeHead", "(I)V"⟩, 3), (⟨"TariffBoxes$Tree", "setPlace", "(II)V"⟩, 8), (⟨"TariffBoxes$Tree", "answerAt", "(II)I"⟩, 8), (⟨"TariffBoxes$Tree", "saidAt", "(I)I"⟩, 8), (⟨"TariffBoxes$Tree", "capped", "(III)I"⟩, 8), (⟨"TariffBoxes", "earned", "(I)I"⟩, 10), (⟨"TariffBoxes", "covered", "(I)I"⟩, 10), (⟨"TariffBoxes", "boxFees", "(I)V"⟩, 10), (⟨"TariffBoxes$Boxes", "takeFrom", "(I)V"⟩, 4), (⟨"TariffBoxes$Boxes", "hoursAlike", "(IIIII)Z"⟩, 4), (⟨"TariffBoxes$Boxes", "daysAlike", "(IIIIII)Z"⟩, 4), (⟨"TariffBoxes$Boxes", "keep", "(II)V"⟩, 4), (⟨"TariffBoxes", "boxGaps", "(I)V"⟩, 10), (⟨"TariffBoxes", "boxDiffs", "(II)V"⟩, 10), (⟨"TariffBoxes$Tree", "isRule", "(I)Z"⟩, 8), (⟨"TariffBoxes", "isIdle", "(I)Z"⟩, 10)]
theorem lw_r2 : ∀ q ∈ lw_privs_2, lw_okq q := List.forall_mem_cons.mpr ⟨lw_p16, List.forall_mem_cons.mpr ⟨lw_p17, List.forall_mem_cons.mpr ⟨lw_p18, List.forall_mem_cons.mpr ⟨lw_p19, List.forall_mem_cons.mpr ⟨lw_p20, List.forall_mem_cons.mpr ⟨lw_p21, List.forall_mem_cons.mpr ⟨lw_p22, List.forall_mem_cons.mpr ⟨lw_p23, List.forall_mem_cons.mpr ⟨lw_p24, List.forall_mem_cons.mpr ⟨lw_p25, List.forall_mem_cons.mpr ⟨lw_p26, List.forall_mem_cons.mpr ⟨lw_p27, List.forall_mem_cons.mpr ⟨lw_p28, List.forall_mem_cons.mpr ⟨lw_p29, List.forall_mem_cons.mpr ⟨lw_p30, List.forall_mem_cons.mpr ⟨lw_p31, fun _ h => absurd h List.not_mem_nil⟩⟩⟩⟩⟩⟩⟩⟩⟩⟩⟩⟩⟩⟩⟩⟩
theorem lw_p32 : lw_okq (⟨"TariffBoxes", "isFlat", "(I)Z"⟩, 10) := ⟨⟨by decide +kernel, by decide +kernel⟩, List.mem_of_getElem? (i := 12) (by decide +kernel), List.mem_of_getElem? (i := 624) (by decide +kernel), List.mem_of_getElem? (i := 625) (by decide +kernel)⟩
theorem lw_p33 : lw_okq (⟨"TariffBoxes", "saysWhatWasPaid", "()Z"⟩, 10) := ⟨⟨by decide +kernel, by decide +kernel⟩, List.mem_of_getElem? (i := 12) (by decide +kernel), List.mem_of_getElem? (i := 648) (by decide +kernel), List.mem_of_getElem? (i := 649) (by decide +kernel)⟩
theorem lw_p34 : lw_okq (⟨"TariffBoxes", "partNumber", "(II)I"⟩, 10) := ⟨⟨by decide +kernel, by decide +kernel⟩, List.mem_of_getElem? (i := 12) (by decide +kernel), List.mem_of_getElem? (i := 701) (by decide +kernel), List.mem_of_getElem? (i := 702) (by decide +kernel)⟩
theorem lw_p35 : lw_okq (⟨"TariffBoxes$Racks", "partsOf", "(I)I"⟩, 2) := ⟨⟨by decide +kernel, by decide +kernel⟩, List.mem_of_getElem? (i := 206) (by decide +kernel), List.mem_of_getElem? (i := 713) (by decide +kernel), List.mem_of_getElem? (i := 714) (by decide +kernel)⟩
theorem lw_p36 : lw_okq (⟨"TariffBoxes$Racks", "numberCanBe", "(II)Z"⟩, 2) := ⟨⟨by decide +kernel, by decide +kernel⟩, List.mem_of_getElem? (i := 206) (by decide +kernel), List.mem_of_getElem? (i := 717) (by decide +kernel), List.mem_of_getElem? (i := 718) (by decide +kernel)⟩
theorem lw_p37 : lw_okq (⟨"TariffBoxes$Racks", "isInPart", "(III)Z"⟩, 2) := ⟨⟨by decide +kernel, by decide +kernel⟩, List.mem_of_getElem? (i := 206) (by decide +kernel), List.mem_of_getElem? (i := 728) (by decide +kernel), List.mem_of_getElem? (i := 729) (by decide +kernel)⟩
theorem lw_p38 : lw_okq (⟨"TariffBoxes$Racks", "isWithin", "(III)Z"⟩, 2) := ⟨⟨by decide +kernel, by decide +kernel⟩, List.mem_of_getElem? (i := 206) (by decide +kernel), List.mem_of_getElem? (i := 733) (by decide +kernel), List.mem_of_getElem? (i := 734) (by decide +kernel)⟩
theorem lw_p39 : lw_okq (⟨"TariffBoxesModel", "adds", "(IIIII)I"⟩, 38) := ⟨⟨by decide +kernel, by decide +kernel⟩, List.mem_of_getElem? (i := 767) (by decide +kernel), List.mem_of_getElem? (i := 896) (by decide +kernel), List.mem_of_getElem? (i := 897) (by decide +kernel)⟩
theorem lw_p40 : lw_okq (⟨"TariffBoxesModel", "lays", "(IIIIII)V"⟩, 38) := ⟨⟨by decide +kernel, by decide +kernel⟩, List.mem_of_getElem? (i := 767) (by decide +kernel), List.mem_of_getElem? (i := 900) (by decide +kernel), List.mem_of_getElem? (i := 901) (by decide +kernel)⟩
theorem lw_p41 : lw_okq (⟨"TariffBoxesModel", "isTerm", "(I)Z"⟩, 38) := ⟨⟨by decide +kernel, by decide +kernel⟩, List.mem_of_getElem? (i := 767) (by decide +kernel), List.mem_of_getElem? (i := 913) (by decide +kernel), List.mem_of_getElem? (i := 914) (by decide +kernel)⟩
theorem lw_p42 : lw_okq (⟨"TariffBoxesModel", "term", "(I)I"⟩, 38) := ⟨⟨by decide +kernel, by decide +kernel⟩, List.mem_of_getElem? (i := 767) (by decide +kernel), List.mem_of_getElem? (i := 954) (by decide +kernel), List.mem_of_getElem? (i := 955) (by decide +kernel)⟩
theorem lw_p43 : lw_okq (⟨"TariffBoxesModel", "isFigure", "()Z"⟩, 38) := ⟨⟨by decide +kernel, by decide +kernel⟩, List.mem_of_getElem? (i := 767) (by decide +kernel), List.mem_of_getElem? (i := 958) (by decide +kernel), List.mem_of_getElem? (i := 959) (by decide +kernel)⟩
theorem lw_p44 : lw_okq (⟨"TariffBoxesModel", "next", "()I"⟩, 38) := ⟨⟨by decide +kernel, by decide +kernel⟩, List.mem_of_getElem? (i := 767) (by decide +kernel), List.mem_of_getElem? (i := 962) (by decide +kernel), List.mem_of_getElem? (i := 963) (by decide +kernel)⟩
theorem lw_p45 : lw_okq (⟨"TariffBoxesModel", "number", "()I"⟩, 38) := ⟨⟨by decide +kernel, by decide +kernel⟩, List.mem_of_getElem? (i := 767) (by decide +kernel), List.mem_of_getElem? (i := 966) (by decide +kernel), List.mem_of_getElem? (i := 967) (by decide +kernel)⟩
theorem lw_p46 : lw_okq (⟨"TariffBoxesModel", "ends", "(I)I"⟩, 38) := ⟨⟨by decide +kernel, by decide +kernel⟩, List.mem_of_getElem? (i := 767) (by decide +kernel), List.mem_of_getElem? (i := 970) (by decide +kernel), List.mem_of_getElem? (i := 971) (by decide +kernel)⟩
theorem lw_p47 : lw_okq (⟨"TariffBoxesModel", "makes", "(IIIII)I"⟩, 38) := ⟨⟨by decide +kernel, by decide +kernel⟩, List.mem_of_getElem? (i := 767) (by decide +kernel), List.mem_of_getElem? (i := 974) (by decide +kernel), List.mem_of_getElem? (i := 975) (by decide +kernel)⟩
def lw_privs_3 : List (MethodName × Nat) := [(⟨"TariffBoxes", "isFlat", "(I)Z"⟩, 10), (⟨"TariffBoxes", "saysWhatWasPaid", "()Z"⟩, 10), (⟨"TariffBoxes", "partNumber", "(II)I"⟩, 10), (⟨"TariffBoxes$Racks", "partsOf", "(I)I"⟩, 2), (⟨"TariffBoxes$Racks", "numberCanBe", "(II)Z"⟩, 2), (⟨"TariffBoxes$Racks", "isInPart", "(III)Z"⟩, 2), (⟨"TariffBoxes$Racks", "isWithin", "(III)Z"⟩, 2), (⟨"TariffBoxesModel", "adds", "(IIIII)I"⟩, 38), (⟨"TariffBoxesModel", "lays", "(IIIIII)V"⟩, 38), (⟨"TariffBoxesModel", "isTerm", "(I)Z"⟩, 38), (⟨"TariffBoxesModel", "term", "(I)I"⟩, 38), (⟨"TariffBoxesModel", "isFigure", "()Z"⟩, 38), (⟨"TariffBoxesModel", "next", "()I"⟩, 38), (⟨"TariffBoxesModel", "number", "()I"⟩, 38), (⟨"TariffBoxesModel", "ends", "(I)I"⟩, 38), (⟨"TariffBoxesModel", "makes", "(IIIII)I"⟩, 38)]
theorem lw_r3 : ∀ q ∈ lw_privs_3, lw_okq q := List.forall_mem_cons.mpr ⟨lw_p32, List.forall_mem_cons.mpr ⟨lw_p33, List.forall_mem_cons.mpr ⟨lw_p34, List.forall_mem_cons.mpr ⟨lw_p35, List.forall_mem_cons.mpr ⟨lw_p36, List.forall_mem_cons.mpr ⟨lw_p37, List.forall_mem_cons.mpr ⟨lw_p38, List.forall_mem_cons.mpr ⟨lw_p39, List.forall_mem_cons.mpr ⟨lw_p40, List.forall_mem_cons.mpr ⟨lw_p41, List.forall_mem_cons.mpr ⟨lw_p42, List.forall_mem_cons.mpr ⟨lw_p43, List.forall_mem_cons.mpr ⟨lw_p44, List.forall_mem_cons.mpr ⟨lw_p45, List.forall_mem_cons.mpr ⟨lw_p46, List.forall_mem_cons.mpr ⟨lw_p47, fun _ h => absurd h List.not_mem_nil⟩⟩⟩⟩⟩⟩⟩⟩⟩⟩⟩⟩⟩⟩⟩⟩
theorem lw_p48 : lw_okq (⟨"TariffBoxesModel", "boxThere", "()I"⟩, 38) := ⟨⟨by decide +kernel, by decide +kernel⟩, List.mem_of_getElem? (i := 767) (by decide +kernel), List.mem_of_getElem? (i := 984) (by decide +kernel), List.mem_of_getElem? (i := 985) (by decide +kernel)⟩
theorem lw_p49 : lw_okq (⟨"TariffBoxesModel", "is", "(I)Z"⟩, 38) := ⟨⟨by decide +kernel, by decide +kernel⟩, List.mem_of_getElem? (i := 767) (by decide +kernel), List.mem_of_getElem? (i := 988) (by decide +kernel), List.mem_of_getElem? (i := 989) (by decide +kernel)⟩
theorem lw_p50 : lw_okq (⟨"TariffBoxesModel", "wrong", "(I)Z"⟩, 38) := ⟨⟨by decide +kernel, by decide +kernel⟩, List.mem_of_getElem? (i := 767) (by decide +kernel), List.mem_of_getElem? (i := 992) (by decide +kernel), List.mem_of_getElem? (i := 993) (by decide +kernel)⟩
theorem lw_p51 : lw_okq (⟨"TariffBoxesModel", "spells", "(I)V"⟩, 38) := ⟨⟨by decide +kernel, by decide +kernel⟩, List.mem_of_getElem? (i := 767) (by decide +kernel), List.mem_of_getElem? (i := 1012) (by decide +kernel), List.mem_of_getElem? (i := 1013) (by decide +kernel)⟩
theorem lw_p52 : lw_okq (⟨"TariffBoxesModel", "writesNumber", "(I)V"⟩, 38) := ⟨⟨by decide +kernel, by decide +kernel⟩, List.mem_of_getElem? (i := 767) (by decide +kernel), List.mem_of_getElem? (i := 1016) (by decide +kernel), List.mem_of_getElem? (i := 1017) (by decide +kernel)⟩
theorem lw_p53 : lw_okq (⟨"TariffBoxesModel", "writes", "(I)V"⟩, 38) := ⟨⟨by decide +kernel, by decide +kernel⟩, List.mem_of_getElem? (i := 767) (by decide +kernel), List.mem_of_getElem? (i := 1020) (by decide +kernel), List.mem_of_getElem? (i := 1021) (by decide +kernel)⟩
theorem lw_p54 : lw_okq (⟨"TariffBoxesModel", "sayOf", "(II)I"⟩, 38) := ⟨⟨by decide +kernel, by decide +kernel⟩, List.mem_of_getElem? (i := 767) (by decide +kernel), List.mem_of_getElem? (i := 1038) (by decide +kernel), List.mem_of_getElem? (i := 1039) (by decide +kernel)⟩
theorem lw_p55 : lw_okq (⟨"TariffBoxesModel", "said", "(II)I"⟩, 38) := ⟨⟨by decide +kernel, by decide +kernel⟩, List.mem_of_getElem? (i := 767) (by decide +kernel), List.mem_of_getElem? (i := 1042) (by decide +kernel), List.mem_of_getElem? (i := 1043) (by decide +kernel)⟩
theorem lw_p56 : lw_okq (⟨"TariffBoxesModel", "tells", "(I[I)V"⟩, 38) := ⟨⟨by decide +kernel, by decide +kernel⟩, List.mem_of_getElem? (i := 767) (by decide +kernel), List.mem_of_getElem? (i := 1057) (by decide +kernel), List.mem_of_getElem? (i := 1058) (by decide +kernel)⟩
theorem lw_p57 : lw_okq (⟨"TariffBoxesModel", "finds", "(III)V"⟩, 38) := ⟨⟨by decide +kernel, by decide +kernel⟩, List.mem_of_getElem? (i := 767) (by decide +kernel), List.mem_of_getElem? (i := 1071) (by decide +kernel), List.mem_of_getElem? (i := 1072) (by decide +kernel)⟩
theorem lw_p58 : lw_okq (⟨"TariffBoxesModel", "packs", "()V"⟩, 38) := ⟨⟨by decide +kernel, by decide +kernel⟩, List.mem_of_getElem? (i := 767) (by decide +kernel), List.mem_of_getElem? (i := 1075) (by decide +kernel), List.mem_of_getElem? (i := 1076) (by decide +kernel)⟩
theorem lw_p59 : lw_okq (⟨"TariffBoxesModel", "all", "(IIIIIII)Z"⟩, 38) := ⟨⟨by decide +kernel, by decide +kernel⟩, List.mem_of_getElem? (i := 767) (by decide +kernel), List.mem_of_getElem? (i := 1079) (by decide +kernel), List.mem_of_getElem? (i := 1080) (by decide +kernel)⟩
theorem lw_p60 : lw_okq (⟨"TariffBoxesModel", "goesWith", "(II)Z"⟩, 38) := ⟨⟨by decide +kernel, by decide +kernel⟩, List.mem_of_getElem? (i := 767) (by decide +kernel), List.mem_of_getElem? (i := 1083) (by decide +kernel), List.mem_of_getElem? (i := 1084) (by decide +kernel)⟩
theorem lw_p61 : lw_okq (⟨"TariffBoxesModel", "found", "(III)I"⟩, 38) := ⟨⟨by decide +kernel, by decide +kernel⟩, List.mem_of_getElem? (i := 767) (by decide +kernel), List.mem_of_getElem? (i := 1087) (by decide +kernel), List.mem_of_getElem? (i := 1088) (by decide +kernel)⟩
theorem lw_p62 : lw_okq (⟨"TariffBoxesModel", "meets", "(I)V"⟩, 38) := ⟨⟨by decide +kernel, by decide +kernel⟩, List.mem_of_getElem? (i := 767) (by decide +kernel), List.mem_of_getElem? (i := 1103) (by decide +kernel), List.mem_of_getElem? (i := 1104) (by decide +kernel)⟩
theorem lw_p63 : lw_okq (⟨"TariffBoxesModel", "isFlat", "(I)Z"⟩, 38) := ⟨⟨by decide +kernel, by decide +kernel⟩, List.mem_of_getElem? (i := 767) (by decide +kernel), List.mem_of_getElem? (i := 1120) (by decide +kernel), List.mem_of_getElem? (i := 1121) (by decide +kernel)⟩
def lw_privs_4 : List (MethodName × Nat) := [(⟨"TariffBoxesModel", "boxThere", "()I"⟩, 38), (⟨"TariffBoxesModel", "is", "(I)Z"⟩, 38), (⟨"TariffBoxesModel", "wrong", "(I)Z"⟩, 38), (⟨"TariffBoxesModel", "spells", "(I)V"⟩, 38), (⟨"TariffBoxesModel", "writesNumber", "(I)V"⟩, 38), (⟨"TariffBoxesModel", "writes", "(I)V"⟩, 38), (⟨"TariffBoxesModel", "sayOf", "(II)I"⟩, 38), (⟨"TariffBoxesModel", "said", "(II)I"⟩, 38), (⟨"TariffBoxesModel", "tells", "(I[I)V"⟩, 38), (⟨"TariffBoxesModel", "finds", "(III)V"⟩, 38), (⟨"TariffBoxesModel", "packs", "()V"⟩, 38), (⟨"TariffBoxesModel", "all", "(IIIIIII)Z"⟩, 38), (⟨"TariffBoxesModel", "goesWith", "(II)Z"⟩, 38), (⟨"TariffBoxesModel", "found", "(III)I"⟩, 38), (⟨"TariffBoxesModel", "meets", "(I)V"⟩, 38), (⟨"TariffBoxesModel", "isFlat", "(I)Z"⟩, 38)]
theorem lw_r4 : ∀ q ∈ lw_privs_4, lw_okq q := List.forall_mem_cons.mpr ⟨lw_p48, List.forall_mem_cons.mpr ⟨lw_p49, List.forall_mem_cons.mpr ⟨lw_p50, List.forall_mem_cons.mpr ⟨lw_p51, List.forall_mem_cons.mpr ⟨lw_p52, List.forall_mem_cons.mpr ⟨lw_p53, List.forall_mem_cons.mpr ⟨lw_p54, List.forall_mem_cons.mpr ⟨lw_p55, List.forall_mem_cons.mpr ⟨lw_p56, List.forall_mem_cons.mpr ⟨lw_p57, List.forall_mem_cons.mpr ⟨lw_p58, List.forall_mem_cons.mpr ⟨lw_p59, List.forall_mem_cons.mpr ⟨lw_p60, List.forall_mem_cons.mpr ⟨lw_p61, List.forall_mem_cons.mpr ⟨lw_p62, List.forall_mem_cons.mpr ⟨lw_p63, fun _ h => absurd h List.not_mem_nil⟩⟩⟩⟩⟩⟩⟩⟩⟩⟩⟩⟩⟩⟩⟩⟩
theorem lw_p64 : lw_okq (⟨"TariffBoxesModel", "wouldSay", "(IIII)I"⟩, 38) := ⟨⟨by decide +kernel, by decide +kernel⟩, List.mem_of_getElem? (i := 767) (by decide +kernel), List.mem_of_getElem? (i := 1124) (by decide +kernel), List.mem_of_getElem? (i := 1125) (by decide +kernel)⟩
theorem lw_p65 : lw_okq (⟨"TariffBoxesModel", "tellsOf", "(III)I"⟩, 38) := ⟨⟨by decide +kernel, by decide +kernel⟩, List.mem_of_getElem? (i := 767) (by decide +kernel), List.mem_of_getElem? (i := 1166) (by decide +kernel), List.mem_of_getElem? (i := 1167) (by decide +kernel)⟩
def lw_privs_5 : List (MethodName × Nat) := [(⟨"TariffBoxesModel", "wouldSay", "(IIII)I"⟩, 38), (⟨"TariffBoxesModel", "tellsOf", "(III)I"⟩, 38)]
theorem lw_r5 : ∀ q ∈ lw_privs_5, lw_okq q := List.forall_mem_cons.mpr ⟨lw_p64, List.forall_mem_cons.mpr ⟨lw_p65, fun _ h => absurd h List.not_mem_nil⟩⟩
def lw_privs : List (MethodName × Nat) := lw_privs_1 ++ (lw_privs_2 ++ (lw_privs_3 ++ (lw_privs_4 ++ (lw_privs_5))))
def lw_tbl : List Cond := k2_sels lw_privs ++ tables_1
theorem lw_privs_ok : ∀ q ∈ lw_privs, lw_okq q := by
  show ∀ q ∈ lw_privs_1 ++ (lw_privs_2 ++ (lw_privs_3 ++ (lw_privs_4 ++ (lw_privs_5)))), lw_okq q
  exact List.forall_mem_append.mpr ⟨lw_r1, List.forall_mem_append.mpr ⟨lw_r2, List.forall_mem_append.mpr ⟨lw_r3, List.forall_mem_append.mpr ⟨lw_r4, lw_r5⟩⟩⟩⟩
end
section
def RX0 : String := "TariffBoxes$Boxes"
def TX0 : u_T := fun k => match k with
  | 0 => ("TariffBoxes$Boxes", "mark", "[I", true)
  | 1 => ("TariffBoxes$Boxes", "box", "[I", true)
  | 2 => ("TariffBoxes$Boxes", "by", "[I", true)
  | _ => ("TariffBoxes$Boxes", "count", "I", false)
def tyX0 : Nat → FieldType := fun k => match k with
  | 0 => .array .int
  | 1 => .array .int
  | 2 => .array .int
  | _ => .int
theorem nmX0 : ∀ a, a < 4 → ∀ b, b < 4 → a ≠ b → (TX0 a).2.1 ≠ (TX0 b).2.1 := by decide +kernel
theorem tyX0_ok : ∀ k, k < 4 → parseFieldDescriptor (TX0 k).2.2.1 = some (tyX0 k) := by decide +kernel
abbrev cX0_init : ByteArray := prog_2_method_1_code
def yX0_init : MethodName := ⟨RX0, "<init>", "()V"⟩
abbrev cX0_has : ByteArray := prog_2_method_2_code
def yX0_has : MethodName := ⟨RX0, "has", "(I)Z"⟩
abbrev cX0_tell : ByteArray := prog_2_method_3_code
def yX0_tell : MethodName := ⟨RX0, "tell", "(II)I"⟩
abbrev cX0_takeAll : ByteArray := prog_2_method_4_code
def yX0_takeAll : MethodName := ⟨RX0, "takeAll", "()V"⟩
abbrev cX0_takeFrom : ByteArray := prog_2_method_5_code
def yX0_takeFrom : MethodName := ⟨RX0, "takeFrom", "(I)V"⟩
abbrev cX0_hoursAlike : ByteArray := prog_2_method_6_code
def yX0_hoursAlike : MethodName := ⟨RX0, "hoursAlike", "(IIIII)Z"⟩
abbrev cX0_daysAlike : ByteArray := prog_2_method_7_code
def yX0_daysAlike : MethodName := ⟨RX0, "daysAlike", "(IIIIII)Z"⟩
abbrev cX0_keep : ByteArray := prog_2_method_8_code
def yX0_keep : MethodName := ⟨RX0, "keep", "(II)V"⟩
def RX1 : String := "TariffBoxes$Paid"
def TX1 : u_T := fun k => match k with
  | 0 => ("TariffBoxes$Paid", "one", "[I", true)
  | 1 => ("TariffBoxes$Paid", "fee", "[I", true)
  | _ => ("TariffBoxes$Paid", "count", "I", false)
def tyX1 : Nat → FieldType := fun k => match k with
  | 0 => .array .int
  | 1 => .array .int
  | _ => .int
theorem nmX1 : ∀ a, a < 3 → ∀ b, b < 3 → a ≠ b → (TX1 a).2.1 ≠ (TX1 b).2.1 := by decide +kernel
theorem tyX1_ok : ∀ k, k < 3 → parseFieldDescriptor (TX1 k).2.2.1 = some (tyX1 k) := by decide +kernel
abbrev cX1_init : ByteArray := prog_3_method_1_code
def yX1_init : MethodName := ⟨RX1, "<init>", "()V"⟩
abbrev cX1_note : ByteArray := prog_3_method_2_code
def yX1_note : MethodName := ⟨RX1, "note", "(II)I"⟩
abbrev cX1_forget : ByteArray := prog_3_method_3_code
def yX1_forget : MethodName := ⟨RX1, "forget", "()V"⟩
abbrev cX1_copyFrom : ByteArray := prog_3_method_4_code
def yX1_copyFrom : MethodName := ⟨RX1, "copyFrom", "(LTariffBoxes$Paid;)V"⟩
def RX2 : String := "TariffBoxes$Paper"
def TX2 : u_T := fun k => match k with
  | 0 => ("TariffBoxes$Paper", "terms", "LTariffBoxes$Terms;", true)
  | 1 => ("TariffBoxes$Paper", "bytes", "[B", true)
  | _ => ("TariffBoxes$Paper", "length", "I", false)
def tyX2 : Nat → FieldType := fun k => match k with
  | 0 => .object "TariffBoxes$Terms"
  | 1 => .array .byte
  | _ => .int
theorem nmX2 : ∀ a, a < 3 → ∀ b, b < 3 → a ≠ b → (TX2 a).2.1 ≠ (TX2 b).2.1 := by decide +kernel
theorem tyX2_ok : ∀ k, k < 3 → parseFieldDescriptor (TX2 k).2.2.1 = some (tyX2 k) := by decide +kernel
abbrev cX2_init : ByteArray := prog_4_method_1_code
def yX2_init : MethodName := ⟨RX2, "<init>", "(LTariffBoxes$Terms;)V"⟩
abbrev cX2_write : ByteArray := prog_4_method_2_code
def yX2_write : MethodName := ⟨RX2, "write", "(I)I"⟩
abbrev cX2_writeTerm : ByteArray := prog_4_method_3_code
def yX2_writeTerm : MethodName := ⟨RX2, "writeTerm", "(II)V"⟩
abbrev cX2_signOf : ByteArray := prog_4_method_4_code
def yX2_signOf : MethodName := ⟨RX2, "signOf", "(I)I"⟩
abbrev cX2_writeHead : ByteArray := prog_4_method_5_code
def yX2_writeHead : MethodName := ⟨RX2, "writeHead", "(I)V"⟩
abbrev cX2_writeFee : ByteArray := prog_4_method_6_code
def yX2_writeFee : MethodName := ⟨RX2, "writeFee", "(I)V"⟩
abbrev cX2_writeByte : ByteArray := prog_4_method_7_code
def yX2_writeByte : MethodName := ⟨RX2, "writeByte", "(I)V"⟩
def RX3 : String := "TariffBoxes$Racks"
def TX3 : u_T := fun k => match k with
  | 0 => ("TariffBoxes$Racks", "row", "[[I", true)
  | _ => ("TariffBoxes$Racks", "length", "[I", true)
def tyX3 : Nat → FieldType := fun k => match k with
  | 0 => .array (.array .int)
  | _ => .array .int
theorem nmX3 : ∀ a, a < 2 → ∀ b, b < 2 → a ≠ b → (TX3 a).2.1 ≠ (TX3 b).2.1 := by decide +kernel
theorem tyX3_ok : ∀ k, k < 2 → parseFieldDescriptor (TX3 k).2.2.1 = some (tyX3 k) := by decide +kernel
abbrev cX3_init : ByteArray := prog_5_method_1_code
def yX3_init : MethodName := ⟨RX3, "<init>", "()V"⟩
abbrev cX3_has : ByteArray := prog_5_method_2_code
def yX3_has : MethodName := ⟨RX3, "has", "(I)Z"⟩
abbrev cX3_holds : ByteArray := prog_5_method_3_code
def yX3_holds : MethodName := ⟨RX3, "holds", "(I)Z"⟩
abbrev cX3_hasPlace : ByteArray := prog_5_method_4_code
def yX3_hasPlace : MethodName := ⟨RX3, "hasPlace", "(II)Z"⟩
abbrev cX3_renew : ByteArray := prog_5_method_5_code
def yX3_renew : MethodName := ⟨RX3, "renew", "(II)V"⟩
abbrev cX3_store : ByteArray := prog_5_method_6_code
def yX3_store : MethodName := ⟨RX3, "store", "(III)V"⟩
abbrev cX3_at : ByteArray := prog_5_method_7_code
def yX3_at : MethodName := ⟨RX3, "at", "(II)I"⟩
abbrev cX3_partsOf : ByteArray := prog_5_method_8_code
def yX3_partsOf : MethodName := ⟨RX3, "partsOf", "(I)I"⟩
abbrev cX3_flaw : ByteArray := prog_5_method_9_code
def yX3_flaw : MethodName := ⟨RX3, "flaw", "(I)I"⟩
abbrev cX3_numberCanBe : ByteArray := prog_5_method_10_code
def yX3_numberCanBe : MethodName := ⟨RX3, "numberCanBe", "(II)Z"⟩
abbrev cX3_answer : ByteArray := prog_5_method_11_code
def yX3_answer : MethodName := ⟨RX3, "answer", "(II)I"⟩
abbrev cX3_isInPart : ByteArray := prog_5_method_12_code
def yX3_isInPart : MethodName := ⟨RX3, "isInPart", "(III)Z"⟩
abbrev cX3_isWithin : ByteArray := prog_5_method_13_code
def yX3_isWithin : MethodName := ⟨RX3, "isWithin", "(III)Z"⟩
def RX4 : String := "TariffBoxes$Tape"
def TX4 : u_T := fun k => match k with
  | 0 => ("TariffBoxes$Tape", "terms", "LTariffBoxes$Terms;", true)
  | 1 => ("TariffBoxes$Tape", "bytes", "[I", true)
  | 2 => ("TariffBoxes$Tape", "length", "I", false)
  | 3 => ("TariffBoxes$Tape", "way", "[I", true)
  | 4 => ("TariffBoxes$Tape", "wayLength", "I", false)
  | 5 => ("TariffBoxes$Tape", "at", "I", false)
  | 6 => ("TariffBoxes$Tape", "ahead", "I", false)
  | 7 => ("TariffBoxes$Tape", "fault", "I", false)
  | 8 => ("TariffBoxes$Tape", "full", "Z", false)
  | 9 => ("TariffBoxes$Tape", "begun", "[I", true)
  | _ => ("TariffBoxes$Tape", "begunLength", "I", false)
def tyX4 : Nat → FieldType := fun k => match k with
  | 0 => .object "TariffBoxes$Terms"
  | 1 => .array .int
  | 2 => .int
  | 3 => .array .int
  | 4 => .int
  | 5 => .int
  | 6 => .int
  | 7 => .int
  | 8 => .boolean
  | 9 => .array .int
  | _ => .int
theorem nmX4 : ∀ a, a < 11 → ∀ b, b < 11 → a ≠ b → (TX4 a).2.1 ≠ (TX4 b).2.1 := by decide +kernel
theorem tyX4_ok : ∀ k, k < 11 → parseFieldDescriptor (TX4 k).2.2.1 = some (tyX4 k) := by decide +kernel
abbrev cX4_init : ByteArray := prog_6_method_1_code
def yX4_init : MethodName := ⟨RX4, "<init>", "(LTariffBoxes$Terms;)V"⟩
abbrev cX4_append : ByteArray := prog_6_method_2_code
def yX4_append : MethodName := ⟨RX4, "append", "(I)I"⟩
abbrev cX4_wipe : ByteArray := prog_6_method_3_code
def yX4_wipe : MethodName := ⟨RX4, "wipe", "()I"⟩
abbrev cX4_readAll : ByteArray := prog_6_method_4_code
def yX4_readAll : MethodName := ⟨RX4, "readAll", "()I"⟩
abbrev cX4_here : ByteArray := prog_6_method_5_code
def yX4_here : MethodName := ⟨RX4, "here", "()I"⟩
abbrev cX4_isFigure : ByteArray := prog_6_method_6_code
def yX4_isFigure : MethodName := ⟨RX4, "isFigure", "(I)Z"⟩
abbrev cX4_fail : ByteArray := prog_6_method_7_code
def yX4_fail : MethodName := ⟨RX4, "fail", "(I)V"⟩
abbrev cX4_goOver : ByteArray := prog_6_method_8_code
def yX4_goOver : MethodName := ⟨RX4, "goOver", "(I)Z"⟩
abbrev cX4_readTerm : ByteArray := prog_6_method_9_code
def yX4_readTerm : MethodName := ⟨RX4, "readTerm", "(I)I"⟩
abbrev cX4_kindBySign : ByteArray := prog_6_method_10_code
def yX4_kindBySign : MethodName := ⟨RX4, "kindBySign", "(I)I"⟩
abbrev cX4_readNamed : ByteArray := prog_6_method_11_code
def yX4_readNamed : MethodName := ⟨RX4, "readNamed", "()I"⟩
abbrev cX4_readComposed : ByteArray := prog_6_method_12_code
def yX4_readComposed : MethodName := ⟨RX4, "readComposed", "(II)I"⟩
abbrev cX4_readBox : ByteArray := prog_6_method_13_code
def yX4_readBox : MethodName := ⟨RX4, "readBox", "()I"⟩
abbrev cX4_readNumber : ByteArray := prog_6_method_14_code
def yX4_readNumber : MethodName := ⟨RX4, "readNumber", "()I"⟩
abbrev cX4_take : ByteArray := prog_6_method_15_code
def yX4_take : MethodName := ⟨RX4, "take", "(IIIII)I"⟩
def RX5 : String := "TariffBoxes$Terms"
def TX5 : u_T := fun k => match k with
  | 0 => ("TariffBoxes$Terms", "kind", "[I", true)
  | 1 => ("TariffBoxes$Terms", "fee", "[I", true)
  | 2 => ("TariffBoxes$Terms", "box", "[I", true)
  | 3 => ("TariffBoxes$Terms", "one", "[I", true)
  | 4 => ("TariffBoxes$Terms", "other", "[I", true)
  | 5 => ("TariffBoxes$Terms", "size", "[I", true)
  | 6 => ("TariffBoxes$Terms", "depth", "[I", true)
  | _ => ("TariffBoxes$Terms", "count", "I", false)
def tyX5 : Nat → FieldType := fun k => match k with
  | 0 => .array .int
  | 1 => .array .int
  | 2 => .array .int
  | 3 => .array .int
  | 4 => .array .int
  | 5 => .array .int
  | 6 => .array .int
  | _ => .int
theorem nmX5 : ∀ a, a < 8 → ∀ b, b < 8 → a ≠ b → (TX5 a).2.1 ≠ (TX5 b).2.1 := by decide +kernel
theorem tyX5_ok : ∀ k, k < 8 → parseFieldDescriptor (TX5 k).2.2.1 = some (tyX5 k) := by decide +kernel
abbrev cX5_init : ByteArray := prog_7_method_1_code
def yX5_init : MethodName := ⟨RX5, "<init>", "()V"⟩
abbrev cX5_has : ByteArray := prog_7_method_2_code
def yX5_has : MethodName := ⟨RX5, "has", "(I)Z"⟩
abbrev cX5_add : ByteArray := prog_7_method_3_code
def yX5_add : MethodName := ⟨RX5, "add", "(IIIII)I"⟩
abbrev cX5_sizeOf : ByteArray := prog_7_method_4_code
def yX5_sizeOf : MethodName := ⟨RX5, "sizeOf", "(I)I"⟩
abbrev cX5_depthOf : ByteArray := prog_7_method_5_code
def yX5_depthOf : MethodName := ⟨RX5, "depthOf", "(I)I"⟩
abbrev cX5_cutTo : ByteArray := prog_7_method_6_code
def yX5_cutTo : MethodName := ⟨RX5, "cutTo", "(I)V"⟩
abbrev cX5_countOf : ByteArray := prog_7_method_7_code
def yX5_countOf : MethodName := ⟨RX5, "countOf", "(I)I"⟩
abbrev cX5_greatestSize : ByteArray := prog_7_method_8_code
def yX5_greatestSize : MethodName := ⟨RX5, "greatestSize", "()I"⟩
abbrev cX5_copyFrom : ByteArray := prog_7_method_9_code
def yX5_copyFrom : MethodName := ⟨RX5, "copyFrom", "(LTariffBoxes$Terms;)V"⟩
def RX6 : String := "TariffBoxes$Tree"
def TX6 : u_T := fun k => match k with
  | 0 => ("TariffBoxes$Tree", "terms", "LTariffBoxes$Terms;", true)
  | 1 => ("TariffBoxes$Tree", "term", "[I", true)
  | 2 => ("TariffBoxes$Tree", "otherPlace", "[I", true)
  | 3 => ("TariffBoxes$Tree", "said", "[I", true)
  | 4 => ("TariffBoxes$Tree", "length", "I", false)
  | 5 => ("TariffBoxes$Tree", "silent", "I", false)
  | 6 => ("TariffBoxes$Tree", "supposedFlat", "I", false)
  | _ => ("TariffBoxes$Tree", "supposedFee", "I", false)
def tyX6 : Nat → FieldType := fun k => match k with
  | 0 => .object "TariffBoxes$Terms"
  | 1 => .array .int
  | 2 => .array .int
  | 3 => .array .int
  | 4 => .int
  | 5 => .int
  | 6 => .int
  | _ => .int
theorem nmX6 : ∀ a, a < 8 → ∀ b, b < 8 → a ≠ b → (TX6 a).2.1 ≠ (TX6 b).2.1 := by decide +kernel
theorem tyX6_ok : ∀ k, k < 8 → parseFieldDescriptor (TX6 k).2.2.1 = some (tyX6 k) := by decide +kernel
abbrev cX6_init : ByteArray := prog_8_method_1_code
def yX6_init : MethodName := ⟨RX6, "<init>", "(LTariffBoxes$Terms;)V"⟩
abbrev cX6_unfold : ByteArray := prog_8_method_2_code
def yX6_unfold : MethodName := ⟨RX6, "unfold", "(I)V"⟩
abbrev cX6_setPlace : ByteArray := prog_8_method_3_code
def yX6_setPlace : MethodName := ⟨RX6, "setPlace", "(II)V"⟩
abbrev cX6_silence : ByteArray := prog_8_method_4_code
def yX6_silence : MethodName := ⟨RX6, "silence", "(I)V"⟩
abbrev cX6_suppose : ByteArray := prog_8_method_5_code
def yX6_suppose : MethodName := ⟨RX6, "suppose", "(II)V"⟩
abbrev cX6_answer : ByteArray := prog_8_method_6_code
def yX6_answer : MethodName := ⟨RX6, "answer", "(I)I"⟩
abbrev cX6_saidAt : ByteArray := prog_8_method_7_code
def yX6_saidAt : MethodName := ⟨RX6, "saidAt", "(I)I"⟩
abbrev cX6_termAt : ByteArray := prog_8_method_8_code
def yX6_termAt : MethodName := ⟨RX6, "termAt", "(I)I"⟩
abbrev cX6_answerAt : ByteArray := prog_8_method_9_code
def yX6_answerAt : MethodName := ⟨RX6, "answerAt", "(II)I"⟩
abbrev cX6_capped : ByteArray := prog_8_method_10_code
def yX6_capped : MethodName := ⟨RX6, "capped", "(III)I"⟩
abbrev cX6_ruleCount : ByteArray := prog_8_method_11_code
def yX6_ruleCount : MethodName := ⟨RX6, "ruleCount", "()I"⟩
abbrev cX6_placeOfRule : ByteArray := prog_8_method_12_code
def yX6_placeOfRule : MethodName := ⟨RX6, "placeOfRule", "(I)I"⟩
abbrev cX6_isRule : ByteArray := prog_8_method_13_code
def yX6_isRule : MethodName := ⟨RX6, "isRule", "(I)Z"⟩
def RX7 : String := "TariffBoxes"
def TX7 : u_T := fun k => match k with
  | 0 => ("TariffBoxes", "terms", "LTariffBoxes$Terms;", true)
  | 1 => ("TariffBoxes", "receipts", "LTariffBoxes$Paid;", true)
  | 2 => ("TariffBoxes", "imageTerms", "LTariffBoxes$Terms;", true)
  | 3 => ("TariffBoxes", "imageReceipts", "LTariffBoxes$Paid;", true)
  | 4 => ("TariffBoxes", "imaged", "Z", false)
  | 5 => ("TariffBoxes", "tree", "LTariffBoxes$Tree;", true)
  | 6 => ("TariffBoxes", "boxes", "LTariffBoxes$Boxes;", true)
  | 7 => ("TariffBoxes", "tape", "LTariffBoxes$Tape;", true)
  | 8 => ("TariffBoxes", "sheet", "LTariffBoxes$Paper;", true)
  | _ => ("TariffBoxes", "racks", "LTariffBoxes$Racks;", true)
def tyX7 : Nat → FieldType := fun k => match k with
  | 0 => .object "TariffBoxes$Terms"
  | 1 => .object "TariffBoxes$Paid"
  | 2 => .object "TariffBoxes$Terms"
  | 3 => .object "TariffBoxes$Paid"
  | 4 => .boolean
  | 5 => .object "TariffBoxes$Tree"
  | 6 => .object "TariffBoxes$Boxes"
  | 7 => .object "TariffBoxes$Tape"
  | 8 => .object "TariffBoxes$Paper"
  | _ => .object "TariffBoxes$Racks"
theorem nmX7 : ∀ a, a < 10 → ∀ b, b < 10 → a ≠ b → (TX7 a).2.1 ≠ (TX7 b).2.1 := by decide +kernel
theorem tyX7_ok : ∀ k, k < 10 → parseFieldDescriptor (TX7 k).2.2.1 = some (tyX7 k) := by decide +kernel
abbrev cX7_init : ByteArray := prog_1_method_1_code
def yX7_init : MethodName := ⟨RX7, "<init>", "()V"⟩
abbrev cX7_flat : ByteArray := prog_1_method_2_code
def yX7_flat : MethodName := ⟨RX7, "flat", "(I)I"⟩
abbrev cX7_empty : ByteArray := prog_1_method_3_code
def yX7_empty : MethodName := ⟨RX7, "empty", "()I"⟩
abbrev cX7_when : ByteArray := prog_1_method_4_code
def yX7_when : MethodName := ⟨RX7, "when", "(II)I"⟩
abbrev cX7_cap : ByteArray := prog_1_method_5_code
def yX7_cap : MethodName := ⟨RX7, "cap", "(III)I"⟩
abbrev cX7_two : ByteArray := prog_1_method_6_code
def yX7_two : MethodName := ⟨RX7, "two", "(III)I"⟩
abbrev cX7_drop : ByteArray := prog_1_method_7_code
def yX7_drop : MethodName := ⟨RX7, "drop", "()I"⟩
abbrev cX7_feed : ByteArray := prog_1_method_8_code
def yX7_feed : MethodName := ⟨RX7, "feed", "(I)I"⟩
abbrev cX7_clear : ByteArray := prog_1_method_9_code
def yX7_clear : MethodName := ⟨RX7, "clear", "()I"⟩
abbrev cX7_read : ByteArray := prog_1_method_10_code
def yX7_read : MethodName := ⟨RX7, "read", "()I"⟩
abbrev cX7_way : ByteArray := prog_1_method_11_code
def yX7_way : MethodName := ⟨RX7, "way", "(I)I"⟩
abbrev cX7_of : ByteArray := prog_1_method_12_code
def yX7_of : MethodName := ⟨RX7, "of", "(II)I"⟩
abbrev cX7_taken : ByteArray := prog_1_method_13_code
def yX7_taken : MethodName := ⟨RX7, "taken", "(II)I"⟩
abbrev cX7_spell : ByteArray := prog_1_method_14_code
def yX7_spell : MethodName := ⟨RX7, "spell", "(I)I"⟩
abbrev cX7_paper : ByteArray := prog_1_method_15_code
def yX7_paper : MethodName := ⟨RX7, "paper", "(I)I"⟩
abbrev cX7_says : ByteArray := prog_1_method_16_code
def yX7_says : MethodName := ⟨RX7, "says", "(II)I"⟩
abbrev cX7_sum : ByteArray := prog_1_method_17_code
def yX7_sum : MethodName := ⟨RX7, "sum", "(II)I"⟩
abbrev cX7_odds : ByteArray := prog_1_method_18_code
def yX7_odds : MethodName := ⟨RX7, "odds", "(II)J"⟩
abbrev cX7_part : ByteArray := prog_1_method_19_code
def yX7_part : MethodName := ⟨RX7, "part", "(III)I"⟩
abbrev cX7_gap : ByteArray := prog_1_method_20_code
def yX7_gap : MethodName := ⟨RX7, "gap", "(III)I"⟩
abbrev cX7_diff : ByteArray := prog_1_method_21_code
def yX7_diff : MethodName := ⟨RX7, "diff", "(IIII)I"⟩
abbrev cX7_rule : ByteArray := prog_1_method_22_code
def yX7_rule : MethodName := ⟨RX7, "rule", "(II)I"⟩
abbrev cX7_idle : ByteArray := prog_1_method_23_code
def yX7_idle : MethodName := ⟨RX7, "idle", "(II)I"⟩
abbrev cX7_overlap : ByteArray := prog_1_method_24_code
def yX7_overlap : MethodName := ⟨RX7, "overlap", "(II)I"⟩
abbrev cX7_would : ByteArray := prog_1_method_25_code
def yX7_would : MethodName := ⟨RX7, "would", "(IIII)I"⟩
abbrev cX7_paid : ByteArray := prog_1_method_26_code
def yX7_paid : MethodName := ⟨RX7, "paid", "(II)I"⟩
abbrev cX7_fits : ByteArray := prog_1_method_27_code
def yX7_fits : MethodName := ⟨RX7, "fits", "(III)I"⟩
abbrev cX7_till : ByteArray := prog_1_method_28_code
def yX7_till : MethodName := ⟨RX7, "till", "(IIII)I"⟩
abbrev cX7_rack : ByteArray := prog_1_method_29_code
def yX7_rack : MethodName := ⟨RX7, "rack", "(II)I"⟩
abbrev cX7_put : ByteArray := prog_1_method_30_code
def yX7_put : MethodName := ⟨RX7, "put", "(III)I"⟩
abbrev cX7_get : ByteArray := prog_1_method_31_code
def yX7_get : MethodName := ⟨RX7, "get", "(II)J"⟩
abbrev cX7_lay : ByteArray := prog_1_method_32_code
def yX7_lay : MethodName := ⟨RX7, "lay", "(III)I"⟩
abbrev cX7_judge : ByteArray := prog_1_method_33_code
def yX7_judge : MethodName := ⟨RX7, "judge", "(II)I"⟩
abbrev cX7_image : ByteArray := prog_1_method_34_code
def yX7_image : MethodName := ⟨RX7, "image", "()I"⟩
abbrev cX7_undo : ByteArray := prog_1_method_35_code
def yX7_undo : MethodName := ⟨RX7, "undo", "()I"⟩
abbrev cX7_count : ByteArray := prog_1_method_36_code
def yX7_count : MethodName := ⟨RX7, "count", "(I)I"⟩
abbrev cX7_isCase : ByteArray := prog_1_method_37_code
def yX7_isCase : MethodName := ⟨RX7, "isCase", "(I)Z"⟩
abbrev cX7_isFee : ByteArray := prog_1_method_38_code
def yX7_isFee : MethodName := ⟨RX7, "isFee", "(I)Z"⟩
abbrev cX7_isOfTwo : ByteArray := prog_1_method_39_code
def yX7_isOfTwo : MethodName := ⟨RX7, "isOfTwo", "(I)Z"⟩
abbrev cX7_kindAbove : ByteArray := prog_1_method_40_code
def yX7_kindAbove : MethodName := ⟨RX7, "kindAbove", "(I)I"⟩
abbrev cX7_isFlat : ByteArray := prog_1_method_41_code
def yX7_isFlat : MethodName := ⟨RX7, "isFlat", "(I)Z"⟩
abbrev cX7_caseOf : ByteArray := prog_1_method_42_code
def yX7_caseOf : MethodName := ⟨RX7, "caseOf", "(III)I"⟩
abbrev cX7_ageOf : ByteArray := prog_1_method_43_code
def yX7_ageOf : MethodName := ⟨RX7, "ageOf", "(I)I"⟩
abbrev cX7_dayOf : ByteArray := prog_1_method_44_code
def yX7_dayOf : MethodName := ⟨RX7, "dayOf", "(I)I"⟩
abbrev cX7_hourOf : ByteArray := prog_1_method_45_code
def yX7_hourOf : MethodName := ⟨RX7, "hourOf", "(I)I"⟩
abbrev cX7_figure : ByteArray := prog_1_method_46_code
def yX7_figure : MethodName := ⟨RX7, "figure", "(II)I"⟩
abbrev cX7_canBe : ByteArray := prog_1_method_47_code
def yX7_canBe : MethodName := ⟨RX7, "canBe", "(III)Z"⟩
abbrev cX7_isBox : ByteArray := prog_1_method_48_code
def yX7_isBox : MethodName := ⟨RX7, "isBox", "(I)Z"⟩
abbrev cX7_isInBox : ByteArray := prog_1_method_49_code
def yX7_isInBox : MethodName := ⟨RX7, "isInBox", "(II)Z"⟩
abbrev cX7_sharedSide : ByteArray := prog_1_method_50_code
def yX7_sharedSide : MethodName := ⟨RX7, "sharedSide", "(III)I"⟩
abbrev cX7_earned : ByteArray := prog_1_method_51_code
def yX7_earned : MethodName := ⟨RX7, "earned", "(I)I"⟩
abbrev cX7_covered : ByteArray := prog_1_method_52_code
def yX7_covered : MethodName := ⟨RX7, "covered", "(I)I"⟩
abbrev cX7_commonDivisor : ByteArray := prog_1_method_53_code
def yX7_commonDivisor : MethodName := ⟨RX7, "commonDivisor", "(I)I"⟩
abbrev cX7_isIdle : ByteArray := prog_1_method_54_code
def yX7_isIdle : MethodName := ⟨RX7, "isIdle", "(I)Z"⟩
abbrev cX7_saysWhatWasPaid : ByteArray := prog_1_method_55_code
def yX7_saysWhatWasPaid : MethodName := ⟨RX7, "saysWhatWasPaid", "()Z"⟩
abbrev cX7_boxFees : ByteArray := prog_1_method_56_code
def yX7_boxFees : MethodName := ⟨RX7, "boxFees", "(I)V"⟩
abbrev cX7_boxGaps : ByteArray := prog_1_method_57_code
def yX7_boxGaps : MethodName := ⟨RX7, "boxGaps", "(I)V"⟩
abbrev cX7_boxDiffs : ByteArray := prog_1_method_58_code
def yX7_boxDiffs : MethodName := ⟨RX7, "boxDiffs", "(II)V"⟩
abbrev cX7_pair : ByteArray := prog_1_method_59_code
def yX7_pair : MethodName := ⟨RX7, "pair", "(II)I"⟩
abbrev cX7_firstOfPair : ByteArray := prog_1_method_60_code
def yX7_firstOfPair : MethodName := ⟨RX7, "firstOfPair", "(I)I"⟩
abbrev cX7_secondOfPair : ByteArray := prog_1_method_61_code
def yX7_secondOfPair : MethodName := ⟨RX7, "secondOfPair", "(I)I"⟩
abbrev cX7_partNumber : ByteArray := prog_1_method_62_code
def yX7_partNumber : MethodName := ⟨RX7, "partNumber", "(II)I"⟩
def RX8 : String := "TariffBoxesModel"
def TX8 : u_T := fun k => match k with
  | 0 => ("TariffBoxesModel", "terms", "I", false)
  | 1 => ("TariffBoxesModel", "kind", "[I", true)
  | 2 => ("TariffBoxesModel", "fee", "[I", true)
  | 3 => ("TariffBoxesModel", "one", "[I", true)
  | 4 => ("TariffBoxesModel", "two", "[I", true)
  | 5 => ("TariffBoxesModel", "box", "[I", true)
  | 6 => ("TariffBoxesModel", "size", "[I", true)
  | 7 => ("TariffBoxesModel", "deep", "[I", true)
  | 8 => ("TariffBoxesModel", "paid", "I", false)
  | 9 => ("TariffBoxesModel", "paidCase", "[I", true)
  | 10 => ("TariffBoxesModel", "paidFee", "[I", true)
  | 11 => ("TariffBoxesModel", "told", "[I", true)
  | 12 => ("TariffBoxesModel", "other", "[I", true)
  | 13 => ("TariffBoxesModel", "done", "[Z", true)
  | 14 => ("TariffBoxesModel", "boxes", "I", false)
  | 15 => ("TariffBoxesModel", "found", "[I", true)
  | 16 => ("TariffBoxesModel", "rules", "I", false)
  | 17 => ("TariffBoxesModel", "wanted", "I", false)
  | 18 => ("TariffBoxesModel", "ruleTerm", "I", false)
  | 19 => ("TariffBoxesModel", "flat", "I", false)
  | 20 => ("TariffBoxesModel", "flatFee", "I", false)
  | 21 => ("TariffBoxesModel", "taped", "I", false)
  | 22 => ("TariffBoxesModel", "tape", "[I", true)
  | 23 => ("TariffBoxesModel", "at", "I", false)
  | 24 => ("TariffBoxesModel", "begun", "I", false)
  | 25 => ("TariffBoxesModel", "begins", "[I", true)
  | 26 => ("TariffBoxesModel", "ways", "I", false)
  | 27 => ("TariffBoxesModel", "way", "[I", true)
  | 28 => ("TariffBoxesModel", "fault", "I", false)
  | 29 => ("TariffBoxesModel", "news", "I", false)
  | 30 => ("TariffBoxesModel", "papers", "I", false)
  | 31 => ("TariffBoxesModel", "paper", "[I", true)
  | 32 => ("TariffBoxesModel", "imaged", "Z", false)
  | 33 => ("TariffBoxesModel", "oldTerms", "I", false)
  | 34 => ("TariffBoxesModel", "oldPaid", "I", false)
  | 35 => ("TariffBoxesModel", "old", "[I", true)
  | 36 => ("TariffBoxesModel", "long1", "[I", true)
  | _ => ("TariffBoxesModel", "items", "[I", true)
def tyX8 : Nat → FieldType := fun k => match k with
  | 0 => .int
  | 1 => .array .int
  | 2 => .array .int
  | 3 => .array .int
  | 4 => .array .int
  | 5 => .array .int
  | 6 => .array .int
  | 7 => .array .int
  | 8 => .int
  | 9 => .array .int
  | 10 => .array .int
  | 11 => .array .int
  | 12 => .array .int
  | 13 => .array .boolean
  | 14 => .int
  | 15 => .array .int
  | 16 => .int
  | 17 => .int
  | 18 => .int
  | 19 => .int
  | 20 => .int
  | 21 => .int
  | 22 => .array .int
  | 23 => .int
  | 24 => .int
  | 25 => .array .int
  | 26 => .int
  | 27 => .array .int
  | 28 => .int
  | 29 => .int
  | 30 => .int
  | 31 => .array .int
  | 32 => .boolean
  | 33 => .int
  | 34 => .int
  | 35 => .array .int
  | 36 => .array .int
  | _ => .array .int
theorem nmX8 : ∀ a, a < 38 → ∀ b, b < 38 → a ≠ b → (TX8 a).2.1 ≠ (TX8 b).2.1 := by decide +kernel
theorem tyX8_ok : ∀ k, k < 38 → parseFieldDescriptor (TX8 k).2.2.1 = some (tyX8 k) := by decide +kernel
abbrev cX8_init : ByteArray := prog_10_method_1_code
def yX8_init : MethodName := ⟨RX8, "<init>", "()V"⟩
abbrev cX8_within : ByteArray := prog_10_method_2_code
def yX8_within : MethodName := ⟨RX8, "within", "(III)Z"⟩
abbrev cX8_isTerm : ByteArray := prog_10_method_3_code
def yX8_isTerm : MethodName := ⟨RX8, "isTerm", "(I)Z"⟩
abbrev cX8_isCase : ByteArray := prog_10_method_4_code
def yX8_isCase : MethodName := ⟨RX8, "isCase", "(I)Z"⟩
abbrev cX8_figure : ByteArray := prog_10_method_5_code
def yX8_figure : MethodName := ⟨RX8, "figure", "(II)I"⟩
abbrev cX8_most : ByteArray := prog_10_method_6_code
def yX8_most : MethodName := ⟨RX8, "most", "(I)I"⟩
abbrev cX8_isBox : ByteArray := prog_10_method_7_code
def yX8_isBox : MethodName := ⟨RX8, "isBox", "(I)Z"⟩
abbrev cX8_part : ByteArray := prog_10_method_8_code
def yX8_part : MethodName := ⟨RX8, "part", "(II)I"⟩
abbrev cX8_isIn : ByteArray := prog_10_method_9_code
def yX8_isIn : MethodName := ⟨RX8, "isIn", "(II)Z"⟩
abbrev cX8_ofTwo : ByteArray := prog_10_method_10_code
def yX8_ofTwo : MethodName := ⟨RX8, "ofTwo", "(I)Z"⟩
abbrev cX8_ofOne : ByteArray := prog_10_method_11_code
def yX8_ofOne : MethodName := ⟨RX8, "ofOne", "(I)Z"⟩
abbrev cX8_lays : ByteArray := prog_10_method_12_code
def yX8_lays : MethodName := ⟨RX8, "lays", "(IIIIII)V"⟩
abbrev cX8_adds : ByteArray := prog_10_method_13_code
def yX8_adds : MethodName := ⟨RX8, "adds", "(IIIII)I"⟩
abbrev cX8_flat : ByteArray := prog_10_method_14_code
def yX8_flat : MethodName := ⟨RX8, "flat", "(I)I"⟩
abbrev cX8_empty : ByteArray := prog_10_method_15_code
def yX8_empty : MethodName := ⟨RX8, "empty", "()I"⟩
abbrev cX8_when : ByteArray := prog_10_method_16_code
def yX8_when : MethodName := ⟨RX8, "when", "(II)I"⟩
abbrev cX8_cap : ByteArray := prog_10_method_17_code
def yX8_cap : MethodName := ⟨RX8, "cap", "(III)I"⟩
abbrev cX8_two : ByteArray := prog_10_method_18_code
def yX8_two : MethodName := ⟨RX8, "two", "(III)I"⟩
abbrev cX8_drop : ByteArray := prog_10_method_19_code
def yX8_drop : MethodName := ⟨RX8, "drop", "()I"⟩
abbrev cX8_feed : ByteArray := prog_10_method_20_code
def yX8_feed : MethodName := ⟨RX8, "feed", "(I)I"⟩
abbrev cX8_clear : ByteArray := prog_10_method_21_code
def yX8_clear : MethodName := ⟨RX8, "clear", "()I"⟩
abbrev cX8_next : ByteArray := prog_10_method_22_code
def yX8_next : MethodName := ⟨RX8, "next", "()I"⟩
abbrev cX8_is : ByteArray := prog_10_method_23_code
def yX8_is : MethodName := ⟨RX8, "is", "(I)Z"⟩
abbrev cX8_wrong : ByteArray := prog_10_method_24_code
def yX8_wrong : MethodName := ⟨RX8, "wrong", "(I)Z"⟩
abbrev cX8_isFigure : ByteArray := prog_10_method_25_code
def yX8_isFigure : MethodName := ⟨RX8, "isFigure", "()Z"⟩
abbrev cX8_number : ByteArray := prog_10_method_26_code
def yX8_number : MethodName := ⟨RX8, "number", "()I"⟩
abbrev cX8_ends : ByteArray := prog_10_method_27_code
def yX8_ends : MethodName := ⟨RX8, "ends", "(I)I"⟩
abbrev cX8_boxThere : ByteArray := prog_10_method_28_code
def yX8_boxThere : MethodName := ⟨RX8, "boxThere", "()I"⟩
abbrev cX8_makes : ByteArray := prog_10_method_29_code
def yX8_makes : MethodName := ⟨RX8, "makes", "(IIIII)I"⟩
abbrev cX8_kindOf : ByteArray := prog_10_method_30_code
def yX8_kindOf : MethodName := ⟨RX8, "kindOf", "(I)I"⟩
abbrev cX8_term : ByteArray := prog_10_method_31_code
def yX8_term : MethodName := ⟨RX8, "term", "(I)I"⟩
abbrev cX8_read : ByteArray := prog_10_method_32_code
def yX8_read : MethodName := ⟨RX8, "read", "()I"⟩
abbrev cX8_way : ByteArray := prog_10_method_33_code
def yX8_way : MethodName := ⟨RX8, "way", "(I)I"⟩
abbrev cX8_of : ByteArray := prog_10_method_34_code
def yX8_of : MethodName := ⟨RX8, "of", "(II)I"⟩
abbrev cX8_taken : ByteArray := prog_10_method_35_code
def yX8_taken : MethodName := ⟨RX8, "taken", "(II)I"⟩
abbrev cX8_writes : ByteArray := prog_10_method_36_code
def yX8_writes : MethodName := ⟨RX8, "writes", "(I)V"⟩
abbrev cX8_writesNumber : ByteArray := prog_10_method_37_code
def yX8_writesNumber : MethodName := ⟨RX8, "writesNumber", "(I)V"⟩
abbrev cX8_letterOf : ByteArray := prog_10_method_38_code
def yX8_letterOf : MethodName := ⟨RX8, "letterOf", "(I)I"⟩
abbrev cX8_spells : ByteArray := prog_10_method_39_code
def yX8_spells : MethodName := ⟨RX8, "spells", "(I)V"⟩
abbrev cX8_spell : ByteArray := prog_10_method_40_code
def yX8_spell : MethodName := ⟨RX8, "spell", "(I)I"⟩
abbrev cX8_paper : ByteArray := prog_10_method_41_code
def yX8_paper : MethodName := ⟨RX8, "paper", "(I)I"⟩
abbrev cX8_said : ByteArray := prog_10_method_42_code
def yX8_said : MethodName := ⟨RX8, "said", "(II)I"⟩
abbrev cX8_sayOf : ByteArray := prog_10_method_43_code
def yX8_sayOf : MethodName := ⟨RX8, "sayOf", "(II)I"⟩
abbrev cX8_tells : ByteArray := prog_10_method_44_code
def yX8_tells : MethodName := ⟨RX8, "tells", "(I[I)V"⟩
abbrev cX8_says : ByteArray := prog_10_method_45_code
def yX8_says : MethodName := ⟨RX8, "says", "(II)I"⟩
abbrev cX8_sum : ByteArray := prog_10_method_46_code
def yX8_sum : MethodName := ⟨RX8, "sum", "(II)I"⟩
abbrev cX8_odds : ByteArray := prog_10_method_47_code
def yX8_odds : MethodName := ⟨RX8, "odds", "(II)J"⟩
abbrev cX8_goesWith : ByteArray := prog_10_method_48_code
def yX8_goesWith : MethodName := ⟨RX8, "goesWith", "(II)Z"⟩
abbrev cX8_all : ByteArray := prog_10_method_49_code
def yX8_all : MethodName := ⟨RX8, "all", "(IIIIIII)Z"⟩
abbrev cX8_packs : ByteArray := prog_10_method_50_code
def yX8_packs : MethodName := ⟨RX8, "packs", "()V"⟩
abbrev cX8_finds : ByteArray := prog_10_method_51_code
def yX8_finds : MethodName := ⟨RX8, "finds", "(III)V"⟩
abbrev cX8_found : ByteArray := prog_10_method_52_code
def yX8_found : MethodName := ⟨RX8, "found", "(III)I"⟩
abbrev cX8_part_ : ByteArray := prog_10_method_53_code
def yX8_part_ : MethodName := ⟨RX8, "part", "(III)I"⟩
abbrev cX8_gap : ByteArray := prog_10_method_54_code
def yX8_gap : MethodName := ⟨RX8, "gap", "(III)I"⟩
abbrev cX8_diff : ByteArray := prog_10_method_55_code
def yX8_diff : MethodName := ⟨RX8, "diff", "(IIII)I"⟩
abbrev cX8_meets : ByteArray := prog_10_method_56_code
def yX8_meets : MethodName := ⟨RX8, "meets", "(I)V"⟩
abbrev cX8_rule : ByteArray := prog_10_method_57_code
def yX8_rule : MethodName := ⟨RX8, "rule", "(II)I"⟩
abbrev cX8_idle : ByteArray := prog_10_method_58_code
def yX8_idle : MethodName := ⟨RX8, "idle", "(II)I"⟩
abbrev cX8_overlap : ByteArray := prog_10_method_59_code
def yX8_overlap : MethodName := ⟨RX8, "overlap", "(II)I"⟩
abbrev cX8_isFlat : ByteArray := prog_10_method_60_code
def yX8_isFlat : MethodName := ⟨RX8, "isFlat", "(I)Z"⟩
abbrev cX8_wouldSay : ByteArray := prog_10_method_61_code
def yX8_wouldSay : MethodName := ⟨RX8, "wouldSay", "(IIII)I"⟩
abbrev cX8_would : ByteArray := prog_10_method_62_code
def yX8_would : MethodName := ⟨RX8, "would", "(IIII)I"⟩
abbrev cX8_paid : ByteArray := prog_10_method_63_code
def yX8_paid : MethodName := ⟨RX8, "paid", "(II)I"⟩
abbrev cX8_fits : ByteArray := prog_10_method_64_code
def yX8_fits : MethodName := ⟨RX8, "fits", "(III)I"⟩
abbrev cX8_till : ByteArray := prog_10_method_65_code
def yX8_till : MethodName := ⟨RX8, "till", "(IIII)I"⟩
abbrev cX8_isRack : ByteArray := prog_10_method_66_code
def yX8_isRack : MethodName := ⟨RX8, "isRack", "(I)Z"⟩
abbrev cX8_rack : ByteArray := prog_10_method_67_code
def yX8_rack : MethodName := ⟨RX8, "rack", "(II)I"⟩
abbrev cX8_put : ByteArray := prog_10_method_68_code
def yX8_put : MethodName := ⟨RX8, "put", "(III)I"⟩
abbrev cX8_get : ByteArray := prog_10_method_69_code
def yX8_get : MethodName := ⟨RX8, "get", "(II)J"⟩
abbrev cX8_lay : ByteArray := prog_10_method_70_code
def yX8_lay : MethodName := ⟨RX8, "lay", "(III)I"⟩
abbrev cX8_tellsOf : ByteArray := prog_10_method_71_code
def yX8_tellsOf : MethodName := ⟨RX8, "tellsOf", "(III)I"⟩
abbrev cX8_judge : ByteArray := prog_10_method_72_code
def yX8_judge : MethodName := ⟨RX8, "judge", "(II)I"⟩
abbrev cX8_image : ByteArray := prog_10_method_73_code
def yX8_image : MethodName := ⟨RX8, "image", "()I"⟩
abbrev cX8_undo : ByteArray := prog_10_method_74_code
def yX8_undo : MethodName := ⟨RX8, "undo", "()I"⟩
abbrev cX8_count : ByteArray := prog_10_method_75_code
def yX8_count : MethodName := ⟨RX8, "count", "(I)I"⟩
def RJ9 : String := "java/lang/Math"
def TJ9 : u_T := fun k => match k with
  | _ => ("", "", "", false)
def tyJ9 : Nat → FieldType := fun k => match k with
  | _ => .int
theorem nmJ9 : ∀ a, a < 0 → ∀ b, b < 0 → a ≠ b → (TJ9 a).2.1 ≠ (TJ9 b).2.1 := by decide +kernel
theorem tyJ9_ok : ∀ k, k < 0 → parseFieldDescriptor (TJ9 k).2.2.1 = some (tyJ9 k) := by decide +kernel
def RL : String := "TariffBoxesLaw"
abbrev cL_law : ByteArray := code
def yL_law : MethodName := ⟨RL, "law", "([I)Z"⟩
abbrev vwCl : List vw_C := [(RX0, TX0, 4), (RX1, TX1, 3), (RX2, TX2, 3), (RX3, TX3, 2), (RX4, TX4, 11), (RX5, TX5, 8), (RX6, TX6, 8), (RX7, TX7, 10), (RX8, TX8, 38)]
end
section
theorem dX0_init_0 : decode cX0_init 0 = .ok (.aload_n 0, 1) := by decide +kernel
theorem dX0_init_1 : decode cX0_init 1 = .ok (.invokespecial 3, 3) := by decide +kernel
theorem dX0_init_4 : decode cX0_init 4 = .ok (.aload_n 0, 1) := by decide +kernel
theorem dX0_init_5 : decode cX0_init 5 = .ok (.sipush 224, 3) := by decide +kernel
theorem dX0_init_8 : decode cX0_init 8 = .ok (.newarray .int, 2) := by decide +kernel
theorem dX0_init_10 : decode cX0_init 10 = .ok (.putfield 9, 3) := by decide +kernel
theorem dX0_init_13 : decode cX0_init 13 = .ok (.aload_n 0, 1) := by decide +kernel
theorem dX0_init_14 : decode cX0_init 14 = .ok (.sipush 224, 3) := by decide +kernel
theorem dX0_init_17 : decode cX0_init 17 = .ok (.newarray .int, 2) := by decide +kernel
theorem dX0_init_19 : decode cX0_init 19 = .ok (.putfield 15, 3) := by decide +kernel
theorem dX0_init_22 : decode cX0_init 22 = .ok (.aload_n 0, 1) := by decide +kernel
theorem dX0_init_23 : decode cX0_init 23 = .ok (.sipush 224, 3) := by decide +kernel
theorem dX0_init_26 : decode cX0_init 26 = .ok (.newarray .int, 2) := by decide +kernel
theorem dX0_init_28 : decode cX0_init 28 = .ok (.putfield 18, 3) := by decide +kernel
theorem dX0_init_31 : decode cX0_init 31 = .ok (.aload_n 0, 1) := by decide +kernel
theorem dX0_init_32 : decode cX0_init 32 = .ok (.iconst 0, 1) := by decide +kernel
theorem dX0_init_33 : decode cX0_init 33 = .ok (.putfield 21, 3) := by decide +kernel
theorem dX0_init_36 : decode cX0_init 36 = .ok (.return_, 1) := by decide +kernel
theorem dX0_has_0 : decode cX0_has 0 = .ok (.iload_n 1, 1) := by decide +kernel
theorem dX0_has_1 : decode cX0_has 1 = .ok (.ifCond .lt 15, 3) := by decide +kernel
theorem dX0_has_4 : decode cX0_has 4 = .ok (.iload_n 1, 1) := by decide +kernel
theorem dX0_has_5 : decode cX0_has 5 = .ok (.aload_n 0, 1) := by decide +kernel
theorem dX0_has_6 : decode cX0_has 6 = .ok (.getfield 21, 3) := by decide +kernel
theorem dX0_has_9 : decode cX0_has 9 = .ok (.if_icmp .ge 7, 3) := by decide +kernel
theorem dX0_has_12 : decode cX0_has 12 = .ok (.iconst 1, 1) := by decide +kernel
theorem dX0_has_13 : decode cX0_has 13 = .ok (.goto 4, 3) := by decide +kernel
theorem dX0_has_16 : decode cX0_has 16 = .ok (.iconst 0, 1) := by decide +kernel
theorem dX0_has_17 : decode cX0_has 17 = .ok (.ireturn, 1) := by decide +kernel
theorem dX0_tell_0 : decode cX0_tell 0 = .ok (.iload_n 1, 1) := by decide +kernel
theorem dX0_tell_1 : decode cX0_tell 1 = .ok (.iconst (-1), 1) := by decide +kernel
theorem dX0_tell_2 : decode cX0_tell 2 = .ok (.if_icmp .ne 8, 3) := by decide +kernel
theorem dX0_tell_5 : decode cX0_tell 5 = .ok (.aload_n 0, 1) := by decide +kernel
theorem dX0_tell_6 : decode cX0_tell 6 = .ok (.getfield 21, 3) := by decide +kernel
theorem dX0_tell_9 : decode cX0_tell 9 = .ok (.ireturn, 1) := by decide +kernel
theorem dX0_tell_10 : decode cX0_tell 10 = .ok (.aload_n 0, 1) := by decide +kernel
theorem dX0_tell_11 : decode cX0_tell 11 = .ok (.iload_n 1, 1) := by decide +kernel
theorem dX0_tell_12 : decode cX0_tell 12 = .ok (.invokevirtual 25, 3) := by decide +kernel
theorem dX0_tell_15 : decode cX0_tell 15 = .ok (.ifCond .eq 26, 3) := by decide +kernel
theorem dX0_tell_18 : decode cX0_tell 18 = .ok (.iload_n 2, 1) := by decide +kernel
theorem dX0_tell_19 : decode cX0_tell 19 = .ok (.ifCond .lt 22, 3) := by decide +kernel
theorem dX0_tell_22 : decode cX0_tell 22 = .ok (.iload_n 2, 1) := by decide +kernel
theorem dX0_tell_23 : decode cX0_tell 23 = .ok (.bipush 6, 2) := by decide +kernel
theorem dX0_tell_25 : decode cX0_tell 25 = .ok (.if_icmp .ge 16, 3) := by decide +kernel
theorem dX0_tell_28 : decode cX0_tell 28 = .ok (.aload_n 0, 1) := by decide +kernel
theorem dX0_tell_29 : decode cX0_tell 29 = .ok (.getfield 15, 3) := by decide +kernel
theorem dX0_tell_32 : decode cX0_tell 32 = .ok (.iload_n 1, 1) := by decide +kernel
theorem dX0_tell_33 : decode cX0_tell 33 = .ok (.iaload, 1) := by decide +kernel
theorem dX0_tell_34 : decode cX0_tell 34 = .ok (.iload_n 2, 1) := by decide +kernel
theorem dX0_tell_35 : decode cX0_tell 35 = .ok (.invokestatic 29, 3) := by decide +kernel
theorem dX0_tell_38 : decode cX0_tell 38 = .ok (.goto 4, 3) := by decide +kernel
theorem dX0_tell_41 : decode cX0_tell 41 = .ok (.iconst (-1), 1) := by decide +kernel
theorem dX0_tell_42 : decode cX0_tell 42 = .ok (.ireturn, 1) := by decide +kernel
theorem dX0_takeAll_0 : decode cX0_takeAll 0 = .ok (.aload_n 0, 1) := by decide +kernel
theorem dX0_takeAll_1 : decode cX0_takeAll 1 = .ok (.iconst 0, 1) := by decide +kernel
theorem dX0_takeAll_2 : decode cX0_takeAll 2 = .ok (.putfield 21, 3) := by decide +kernel
theorem dX0_takeAll_5 : decode cX0_takeAll 5 = .ok (.iconst 0, 1) := by decide +kernel
theorem dX0_takeAll_6 : decode cX0_takeAll 6 = .ok (.istore_n 1, 1) := by decide +kernel
theorem dX0_takeAll_7 : decode cX0_takeAll 7 = .ok (.iload_n 1, 1) := by decide +kernel
theorem dX0_takeAll_8 : decode cX0_takeAll 8 = .ok (.sipush 224, 3) := by decide +kernel
theorem dX0_takeAll_11 : decode cX0_takeAll 11 = .ok (.if_icmp .ge 24, 3) := by decide +kernel
theorem dX0_takeAll_14 : decode cX0_takeAll 14 = .ok (.aload_n 0, 1) := by decide +kernel
theorem dX0_takeAll_15 : decode cX0_takeAll 15 = .ok (.getfield 9, 3) := by decide +kernel
theorem dX0_takeAll_18 : decode cX0_takeAll 18 = .ok (.iload_n 1, 1) := by decide +kernel
theorem dX0_takeAll_19 : decode cX0_takeAll 19 = .ok (.iaload, 1) := by decide +kernel
theorem dX0_takeAll_20 : decode cX0_takeAll 20 = .ok (.iconst (-1), 1) := by decide +kernel
theorem dX0_takeAll_21 : decode cX0_takeAll 21 = .ok (.if_icmp .eq 8, 3) := by decide +kernel
theorem dX0_takeAll_24 : decode cX0_takeAll 24 = .ok (.aload_n 0, 1) := by decide +kernel
theorem dX0_takeAll_25 : decode cX0_takeAll 25 = .ok (.iload_n 1, 1) := by decide +kernel
theorem dX0_takeAll_26 : decode cX0_takeAll 26 = .ok (.invokevirtual 33, 3) := by decide +kernel
theorem dX0_takeAll_29 : decode cX0_takeAll 29 = .ok (.iinc 1 1, 3) := by decide +kernel
theorem dX0_takeAll_32 : decode cX0_takeAll 32 = .ok (.goto (-25), 3) := by decide +kernel
theorem dX0_takeAll_35 : decode cX0_takeAll 35 = .ok (.return_, 1) := by decide +kernel
theorem dX0_takeFrom_0 : decode cX0_takeFrom 0 = .ok (.aload_n 0, 1) := by decide +kernel
theorem dX0_takeFrom_1 : decode cX0_takeFrom 1 = .ok (.getfield 9, 3) := by decide +kernel
theorem dX0_takeFrom_4 : decode cX0_takeFrom 4 = .ok (.iload_n 1, 1) := by decide +kernel
theorem dX0_takeFrom_5 : decode cX0_takeFrom 5 = .ok (.iaload, 1) := by decide +kernel
theorem dX0_takeFrom_6 : decode cX0_takeFrom 6 = .ok (.istore_n 2, 1) := by decide +kernel
theorem dX0_takeFrom_7 : decode cX0_takeFrom 7 = .ok (.iload_n 1, 1) := by decide +kernel
theorem dX0_takeFrom_8 : decode cX0_takeFrom 8 = .ok (.invokestatic 37, 3) := by decide +kernel
theorem dX0_takeFrom_11 : decode cX0_takeFrom 11 = .ok (.istore_n 3, 1) := by decide +kernel
theorem dX0_takeFrom_12 : decode cX0_takeFrom 12 = .ok (.iload_n 1, 1) := by decide +kernel
theorem dX0_takeFrom_13 : decode cX0_takeFrom 13 = .ok (.invokestatic 41, 3) := by decide +kernel
theorem dX0_takeFrom_16 : decode cX0_takeFrom 16 = .ok (.istore 4, 2) := by decide +kernel
theorem dX0_takeFrom_18 : decode cX0_takeFrom 18 = .ok (.iload_n 1, 1) := by decide +kernel
theorem dX0_takeFrom_19 : decode cX0_takeFrom 19 = .ok (.invokestatic 44, 3) := by decide +kernel
theorem dX0_takeFrom_22 : decode cX0_takeFrom 22 = .ok (.istore 5, 2) := by decide +kernel
theorem dX0_takeFrom_24 : decode cX0_takeFrom 24 = .ok (.iload 5, 2) := by decide +kernel
theorem dX0_takeFrom_26 : decode cX0_takeFrom 26 = .ok (.istore 6, 2) := by decide +kernel
theorem dX0_takeFrom_28 : decode cX0_takeFrom 28 = .ok (.iload 6, 2) := by decide +kernel
theorem dX0_takeFrom_30 : decode cX0_takeFrom 30 = .ok (.iconst 3, 1) := by decide +kernel
theorem dX0_takeFrom_31 : decode cX0_takeFrom 31 = .ok (.if_icmp .ge 28, 3) := by decide +kernel
theorem dX0_takeFrom_34 : decode cX0_takeFrom 34 = .ok (.aload_n 0, 1) := by decide +kernel
theorem dX0_takeFrom_35 : decode cX0_takeFrom 35 = .ok (.iload_n 3, 1) := by decide +kernel
theorem dX0_takeFrom_36 : decode cX0_takeFrom 36 = .ok (.iload 4, 2) := by decide +kernel
theorem dX0_takeFrom_38 : decode cX0_takeFrom 38 = .ok (.iload 6, 2) := by decide +kernel
theorem dX0_takeFrom_40 : decode cX0_takeFrom 40 = .ok (.iconst 1, 1) := by decide +kernel
theorem dX0_takeFrom_41 : decode cX0_takeFrom 41 = .ok (.iadd, 1) := by decide +kernel
theorem dX0_takeFrom_42 : decode cX0_takeFrom 42 = .ok (.iload 6, 2) := by decide +kernel
theorem dX0_takeFrom_44 : decode cX0_takeFrom 44 = .ok (.iconst 1, 1) := by decide +kernel
theorem dX0_takeFrom_45 : decode cX0_takeFrom 45 = .ok (.iadd, 1) := by decide +kernel
theorem dX0_takeFrom_46 : decode cX0_takeFrom 46 = .ok (.iload_n 2, 1) := by decide +kernel
theorem dX0_takeFrom_47 : decode cX0_takeFrom 47 = .ok (.invokevirtual 47, 3) := by decide +kernel
theorem dX0_takeFrom_50 : decode cX0_takeFrom 50 = .ok (.ifCond .eq 9, 3) := by decide +kernel
theorem dX0_takeFrom_53 : decode cX0_takeFrom 53 = .ok (.iinc 6 1, 3) := by decide +kernel
theorem dX0_takeFrom_56 : decode cX0_takeFrom 56 = .ok (.goto (-28), 3) := by decide +kernel
theorem dX0_takeFrom_59 : decode cX0_takeFrom 59 = .ok (.iload 4, 2) := by decide +kernel
theorem dX0_takeFrom_61 : decode cX0_takeFrom 61 = .ok (.istore 7, 2) := by decide +kernel
theorem dX0_takeFrom_63 : decode cX0_takeFrom 63 = .ok (.iload 7, 2) := by decide +kernel
theorem dX0_takeFrom_65 : decode cX0_takeFrom 65 = .ok (.bipush 6, 2) := by decide +kernel
theorem dX0_takeFrom_67 : decode cX0_takeFrom 67 = .ok (.if_icmp .ge 26, 3) := by decide +kernel
theorem dX0_takeFrom_70 : decode cX0_takeFrom 70 = .ok (.aload_n 0, 1) := by decide +kernel
theorem dX0_takeFrom_71 : decode cX0_takeFrom 71 = .ok (.iload_n 3, 1) := by decide +kernel
theorem dX0_takeFrom_72 : decode cX0_takeFrom 72 = .ok (.iload 7, 2) := by decide +kernel
theorem dX0_takeFrom_74 : decode cX0_takeFrom 74 = .ok (.iconst 1, 1) := by decide +kernel
theorem dX0_takeFrom_75 : decode cX0_takeFrom 75 = .ok (.iadd, 1) := by decide +kernel
theorem dX0_takeFrom_76 : decode cX0_takeFrom 76 = .ok (.iload 5, 2) := by decide +kernel
theorem dX0_takeFrom_78 : decode cX0_takeFrom 78 = .ok (.iload 6, 2) := by decide +kernel
theorem dX0_takeFrom_80 : decode cX0_takeFrom 80 = .ok (.iload_n 2, 1) := by decide +kernel
theorem dX0_takeFrom_81 : decode cX0_takeFrom 81 = .ok (.invokevirtual 47, 3) := by decide +kernel
theorem dX0_takeFrom_84 : decode cX0_takeFrom 84 = .ok (.ifCond .eq 9, 3) := by decide +kernel
theorem dX0_takeFrom_87 : decode cX0_takeFrom 87 = .ok (.iinc 7 1, 3) := by decide +kernel
theorem dX0_takeFrom_90 : decode cX0_takeFrom 90 = .ok (.goto (-27), 3) := by decide +kernel
theorem dX0_takeFrom_93 : decode cX0_takeFrom 93 = .ok (.iload_n 3, 1) := by decide +kernel
theorem dX0_takeFrom_94 : decode cX0_takeFrom 94 = .ok (.istore 8, 2) := by decide +kernel
theorem dX0_takeFrom_96 : decode cX0_takeFrom 96 = .ok (.iload 8, 2) := by decide +kernel
theorem dX0_takeFrom_98 : decode cX0_takeFrom 98 = .ok (.bipush 7, 2) := by decide +kernel
theorem dX0_takeFrom_100 : decode cX0_takeFrom 100 = .ok (.if_icmp .ge 29, 3) := by decide +kernel
theorem dX0_takeFrom_103 : decode cX0_takeFrom 103 = .ok (.aload_n 0, 1) := by decide +kernel
theorem dX0_takeFrom_104 : decode cX0_takeFrom 104 = .ok (.iload 8, 2) := by decide +kernel
theorem dX0_takeFrom_106 : decode cX0_takeFrom 106 = .ok (.iconst 1, 1) := by decide +kernel
theorem dX0_takeFrom_107 : decode cX0_takeFrom 107 = .ok (.iadd, 1) := by decide +kernel
theorem dX0_takeFrom_108 : decode cX0_takeFrom 108 = .ok (.iload 4, 2) := by decide +kernel
theorem dX0_takeFrom_110 : decode cX0_takeFrom 110 = .ok (.iload 7, 2) := by decide +kernel
theorem dX0_takeFrom_112 : decode cX0_takeFrom 112 = .ok (.iload 5, 2) := by decide +kernel
theorem dX0_takeFrom_114 : decode cX0_takeFrom 114 = .ok (.iload 6, 2) := by decide +kernel
theorem dX0_takeFrom_116 : decode cX0_takeFrom 116 = .ok (.iload_n 2, 1) := by decide +kernel
theorem dX0_takeFrom_117 : decode cX0_takeFrom 117 = .ok (.invokevirtual 51, 3) := by decide +kernel
theorem dX0_takeFrom_120 : decode cX0_takeFrom 120 = .ok (.ifCond .eq 9, 3) := by decide +kernel
theorem dX0_takeFrom_123 : decode cX0_takeFrom 123 = .ok (.iinc 8 1, 3) := by decide +kernel
theorem dX0_takeFrom_126 : decode cX0_takeFrom 126 = .ok (.goto (-30), 3) := by decide +kernel
theorem dX0_takeFrom_129 : decode cX0_takeFrom 129 = .ok (.aload_n 0, 1) := by decide +kernel
theorem dX0_takeFrom_130 : decode cX0_takeFrom 130 = .ok (.ldc 55, 2) := by decide +kernel
theorem dX0_takeFrom_132 : decode cX0_takeFrom 132 = .ok (.iload_n 3, 1) := by decide +kernel
theorem dX0_takeFrom_133 : decode cX0_takeFrom 133 = .ok (.imul, 1) := by decide +kernel
theorem dX0_takeFrom_134 : decode cX0_takeFrom 134 = .ok (.sipush 10000, 3) := by decide +kernel
theorem dX0_takeFrom_137 : decode cX0_takeFrom 137 = .ok (.iload 8, 2) := by decide +kernel
theorem dX0_takeFrom_139 : decode cX0_takeFrom 139 = .ok (.imul, 1) := by decide +kernel
theorem dX0_takeFrom_140 : decode cX0_takeFrom 140 = .ok (.iadd, 1) := by decide +kernel
theorem dX0_takeFrom_141 : decode cX0_takeFrom 141 = .ok (.sipush 1000, 3) := by decide +kernel
theorem dX0_takeFrom_144 : decode cX0_takeFrom 144 = .ok (.iload 4, 2) := by decide +kernel
theorem dX0_takeFrom_146 : decode cX0_takeFrom 146 = .ok (.imul, 1) := by decide +kernel
theorem dX0_takeFrom_147 : decode cX0_takeFrom 147 = .ok (.iadd, 1) := by decide +kernel
theorem dX0_takeFrom_148 : decode cX0_takeFrom 148 = .ok (.bipush 100, 2) := by decide +kernel
theorem dX0_takeFrom_150 : decode cX0_takeFrom 150 = .ok (.iload 7, 2) := by decide +kernel
theorem dX0_takeFrom_152 : decode cX0_takeFrom 152 = .ok (.imul, 1) := by decide +kernel
theorem dX0_takeFrom_153 : decode cX0_takeFrom 153 = .ok (.iadd, 1) := by decide +kernel
theorem dX0_takeFrom_154 : decode cX0_takeFrom 154 = .ok (.bipush 10, 2) := by decide +kernel
theorem dX0_takeFrom_156 : decode cX0_takeFrom 156 = .ok (.iload 5, 2) := by decide +kernel
theorem dX0_takeFrom_158 : decode cX0_takeFrom 158 = .ok (.imul, 1) := by decide +kernel
theorem dX0_takeFrom_159 : decode cX0_takeFrom 159 = .ok (.iadd, 1) := by decide +kernel
theorem dX0_takeFrom_160 : decode cX0_takeFrom 160 = .ok (.iload 6, 2) := by decide +kernel
theorem dX0_takeFrom_162 : decode cX0_takeFrom 162 = .ok (.iadd, 1) := by decide +kernel
theorem dX0_takeFrom_163 : decode cX0_takeFrom 163 = .ok (.iload_n 2, 1) := by decide +kernel
theorem dX0_takeFrom_164 : decode cX0_takeFrom 164 = .ok (.invokevirtual 56, 3) := by decide +kernel
theorem dX0_takeFrom_167 : decode cX0_takeFrom 167 = .ok (.return_, 1) := by decide +kernel
theorem dX0_hoursAlike_0 : decode cX0_hoursAlike 0 = .ok (.iload_n 3, 1) := by decide +kernel
theorem dX0_hoursAlike_1 : decode cX0_hoursAlike 1 = .ok (.istore 6, 2) := by decide +kernel
theorem dX0_hoursAlike_3 : decode cX0_hoursAlike 3 = .ok (.iload 6, 2) := by decide +kernel
theorem dX0_hoursAlike_5 : decode cX0_hoursAlike 5 = .ok (.iload 4, 2) := by decide +kernel
theorem dX0_hoursAlike_7 : decode cX0_hoursAlike 7 = .ok (.if_icmp .gt 40, 3) := by decide +kernel
theorem dX0_hoursAlike_10 : decode cX0_hoursAlike 10 = .ok (.iload_n 1, 1) := by decide +kernel
theorem dX0_hoursAlike_11 : decode cX0_hoursAlike 11 = .ok (.iload_n 2, 1) := by decide +kernel
theorem dX0_hoursAlike_12 : decode cX0_hoursAlike 12 = .ok (.iload 6, 2) := by decide +kernel
theorem dX0_hoursAlike_14 : decode cX0_hoursAlike 14 = .ok (.invokestatic 60, 3) := by decide +kernel
theorem dX0_hoursAlike_17 : decode cX0_hoursAlike 17 = .ok (.istore 7, 2) := by decide +kernel
theorem dX0_hoursAlike_19 : decode cX0_hoursAlike 19 = .ok (.iload 7, 2) := by decide +kernel
theorem dX0_hoursAlike_21 : decode cX0_hoursAlike 21 = .ok (.invokestatic 64, 3) := by decide +kernel
theorem dX0_hoursAlike_24 : decode cX0_hoursAlike 24 = .ok (.ifCond .eq 15, 3) := by decide +kernel
theorem dX0_hoursAlike_27 : decode cX0_hoursAlike 27 = .ok (.aload_n 0, 1) := by decide +kernel
theorem dX0_hoursAlike_28 : decode cX0_hoursAlike 28 = .ok (.getfield 9, 3) := by decide +kernel
theorem dX0_hoursAlike_31 : decode cX0_hoursAlike 31 = .ok (.iload 7, 2) := by decide +kernel
theorem dX0_hoursAlike_33 : decode cX0_hoursAlike 33 = .ok (.iaload, 1) := by decide +kernel
theorem dX0_hoursAlike_34 : decode cX0_hoursAlike 34 = .ok (.iload 5, 2) := by decide +kernel
theorem dX0_hoursAlike_36 : decode cX0_hoursAlike 36 = .ok (.if_icmp .eq 5, 3) := by decide +kernel
theorem dX0_hoursAlike_39 : decode cX0_hoursAlike 39 = .ok (.iconst 0, 1) := by decide +kernel
theorem dX0_hoursAlike_40 : decode cX0_hoursAlike 40 = .ok (.ireturn, 1) := by decide +kernel
theorem dX0_hoursAlike_41 : decode cX0_hoursAlike 41 = .ok (.iinc 6 1, 3) := by decide +kernel
theorem dX0_hoursAlike_44 : decode cX0_hoursAlike 44 = .ok (.goto (-41), 3) := by decide +kernel
theorem dX0_hoursAlike_47 : decode cX0_hoursAlike 47 = .ok (.iconst 1, 1) := by decide +kernel
theorem dX0_hoursAlike_48 : decode cX0_hoursAlike 48 = .ok (.ireturn, 1) := by decide +kernel
theorem dX0_daysAlike_0 : decode cX0_daysAlike 0 = .ok (.iload_n 2, 1) := by decide +kernel
theorem dX0_daysAlike_1 : decode cX0_daysAlike 1 = .ok (.istore 7, 2) := by decide +kernel
theorem dX0_daysAlike_3 : decode cX0_daysAlike 3 = .ok (.iload 7, 2) := by decide +kernel
theorem dX0_daysAlike_5 : decode cX0_daysAlike 5 = .ok (.iload_n 3, 1) := by decide +kernel
theorem dX0_daysAlike_6 : decode cX0_daysAlike 6 = .ok (.if_icmp .gt 27, 3) := by decide +kernel
theorem dX0_daysAlike_9 : decode cX0_daysAlike 9 = .ok (.aload_n 0, 1) := by decide +kernel
theorem dX0_daysAlike_10 : decode cX0_daysAlike 10 = .ok (.iload_n 1, 1) := by decide +kernel
theorem dX0_daysAlike_11 : decode cX0_daysAlike 11 = .ok (.iload 7, 2) := by decide +kernel
theorem dX0_daysAlike_13 : decode cX0_daysAlike 13 = .ok (.iload 4, 2) := by decide +kernel
theorem dX0_daysAlike_15 : decode cX0_daysAlike 15 = .ok (.iload 5, 2) := by decide +kernel
theorem dX0_daysAlike_17 : decode cX0_daysAlike 17 = .ok (.iload 6, 2) := by decide +kernel
theorem dX0_daysAlike_19 : decode cX0_daysAlike 19 = .ok (.invokevirtual 47, 3) := by decide +kernel
theorem dX0_daysAlike_22 : decode cX0_daysAlike 22 = .ok (.ifCond .ne 5, 3) := by decide +kernel
theorem dX0_daysAlike_25 : decode cX0_daysAlike 25 = .ok (.iconst 0, 1) := by decide +kernel
theorem dX0_daysAlike_26 : decode cX0_daysAlike 26 = .ok (.ireturn, 1) := by decide +kernel
theorem dX0_daysAlike_27 : decode cX0_daysAlike 27 = .ok (.iinc 7 1, 3) := by decide +kernel
theorem dX0_daysAlike_30 : decode cX0_daysAlike 30 = .ok (.goto (-27), 3) := by decide +kernel
theorem dX0_daysAlike_33 : decode cX0_daysAlike 33 = .ok (.iconst 1, 1) := by decide +kernel
theorem dX0_daysAlike_34 : decode cX0_daysAlike 34 = .ok (.ireturn, 1) := by decide +kernel
theorem dX0_keep_0 : decode cX0_keep 0 = .ok (.aload_n 0, 1) := by decide +kernel
theorem dX0_keep_1 : decode cX0_keep 1 = .ok (.getfield 21, 3) := by decide +kernel
theorem dX0_keep_4 : decode cX0_keep 4 = .ok (.sipush 224, 3) := by decide +kernel
theorem dX0_keep_7 : decode cX0_keep 7 = .ok (.if_icmp .ge 33, 3) := by decide +kernel
theorem dX0_keep_10 : decode cX0_keep 10 = .ok (.aload_n 0, 1) := by decide +kernel
theorem dX0_keep_11 : decode cX0_keep 11 = .ok (.getfield 15, 3) := by decide +kernel
theorem dX0_keep_14 : decode cX0_keep 14 = .ok (.aload_n 0, 1) := by decide +kernel
theorem dX0_keep_15 : decode cX0_keep 15 = .ok (.getfield 21, 3) := by decide +kernel
theorem dX0_keep_18 : decode cX0_keep 18 = .ok (.iload_n 1, 1) := by decide +kernel
theorem dX0_keep_19 : decode cX0_keep 19 = .ok (.iastore, 1) := by decide +kernel
theorem dX0_keep_20 : decode cX0_keep 20 = .ok (.aload_n 0, 1) := by decide +kernel
theorem dX0_keep_21 : decode cX0_keep 21 = .ok (.getfield 18, 3) := by decide +kernel
theorem dX0_keep_24 : decode cX0_keep 24 = .ok (.aload_n 0, 1) := by decide +kernel
theorem dX0_keep_25 : decode cX0_keep 25 = .ok (.getfield 21, 3) := by decide +kernel
theorem dX0_keep_28 : decode cX0_keep 28 = .ok (.iload_n 2, 1) := by decide +kernel
theorem dX0_keep_29 : decode cX0_keep 29 = .ok (.iastore, 1) := by decide +kernel
theorem dX0_keep_30 : decode cX0_keep 30 = .ok (.aload_n 0, 1) := by decide +kernel
theorem dX0_keep_31 : decode cX0_keep 31 = .ok (.dup, 1) := by decide +kernel
theorem dX0_keep_32 : decode cX0_keep 32 = .ok (.getfield 21, 3) := by decide +kernel
theorem dX0_keep_35 : decode cX0_keep 35 = .ok (.iconst 1, 1) := by decide +kernel
theorem dX0_keep_36 : decode cX0_keep 36 = .ok (.iadd, 1) := by decide +kernel
theorem dX0_keep_37 : decode cX0_keep 37 = .ok (.putfield 21, 3) := by decide +kernel
theorem dX0_keep_40 : decode cX0_keep 40 = .ok (.iconst 0, 1) := by decide +kernel
theorem dX0_keep_41 : decode cX0_keep 41 = .ok (.istore_n 3, 1) := by decide +kernel
theorem dX0_keep_42 : decode cX0_keep 42 = .ok (.iload_n 3, 1) := by decide +kernel
theorem dX0_keep_43 : decode cX0_keep 43 = .ok (.sipush 224, 3) := by decide +kernel
theorem dX0_keep_46 : decode cX0_keep 46 = .ok (.if_icmp .ge 34, 3) := by decide +kernel
theorem dX0_keep_49 : decode cX0_keep 49 = .ok (.aload_n 0, 1) := by decide +kernel
theorem dX0_keep_50 : decode cX0_keep 50 = .ok (.getfield 9, 3) := by decide +kernel
theorem dX0_keep_53 : decode cX0_keep 53 = .ok (.iload_n 3, 1) := by decide +kernel
theorem dX0_keep_54 : decode cX0_keep 54 = .ok (.iaload, 1) := by decide +kernel
theorem dX0_keep_55 : decode cX0_keep 55 = .ok (.iload_n 2, 1) := by decide +kernel
theorem dX0_keep_56 : decode cX0_keep 56 = .ok (.if_icmp .ne 18, 3) := by decide +kernel
theorem dX0_keep_59 : decode cX0_keep 59 = .ok (.iload_n 3, 1) := by decide +kernel
theorem dX0_keep_60 : decode cX0_keep 60 = .ok (.iload_n 1, 1) := by decide +kernel
theorem dX0_keep_61 : decode cX0_keep 61 = .ok (.invokestatic 67, 3) := by decide +kernel
theorem dX0_keep_64 : decode cX0_keep 64 = .ok (.ifCond .eq 10, 3) := by decide +kernel
theorem dX0_keep_67 : decode cX0_keep 67 = .ok (.aload_n 0, 1) := by decide +kernel
theorem dX0_keep_68 : decode cX0_keep 68 = .ok (.getfield 9, 3) := by decide +kernel
theorem dX0_keep_71 : decode cX0_keep 71 = .ok (.iload_n 3, 1) := by decide +kernel
theorem dX0_keep_72 : decode cX0_keep 72 = .ok (.iconst (-1), 1) := by decide +kernel
theorem dX0_keep_73 : decode cX0_keep 73 = .ok (.iastore, 1) := by decide +kernel
theorem dX0_keep_74 : decode cX0_keep 74 = .ok (.iinc 3 1, 3) := by decide +kernel
theorem dX0_keep_77 : decode cX0_keep 77 = .ok (.goto (-35), 3) := by decide +kernel
theorem dX0_keep_80 : decode cX0_keep 80 = .ok (.return_, 1) := by decide +kernel
theorem dX1_init_0 : decode cX1_init 0 = .ok (.aload_n 0, 1) := by decide +kernel
theorem dX1_init_1 : decode cX1_init 1 = .ok (.invokespecial 3, 3) := by decide +kernel
theorem dX1_init_4 : decode cX1_init 4 = .ok (.aload_n 0, 1) := by decide +kernel
theorem dX1_init_5 : decode cX1_init 5 = .ok (.bipush 8, 2) := by decide +kernel
theorem dX1_init_7 : decode cX1_init 7 = .ok (.newarray .int, 2) := by decide +kernel
theorem dX1_init_9 : decode cX1_init 9 = .ok (.putfield 9, 3) := by decide +kernel
theorem dX1_init_12 : decode cX1_init 12 = .ok (.aload_n 0, 1) := by decide +kernel
theorem dX1_init_13 : decode cX1_init 13 = .ok (.bipush 8, 2) := by decide +kernel
theorem dX1_init_15 : decode cX1_init 15 = .ok (.newarray .int, 2) := by decide +kernel
theorem dX1_init_17 : decode cX1_init 17 = .ok (.putfield 15, 3) := by decide +kernel
theorem dX1_init_20 : decode cX1_init 20 = .ok (.aload_n 0, 1) := by decide +kernel
theorem dX1_init_21 : decode cX1_init 21 = .ok (.iconst 0, 1) := by decide +kernel
theorem dX1_init_22 : decode cX1_init 22 = .ok (.putfield 18, 3) := by decide +kernel
theorem dX1_init_25 : decode cX1_init 25 = .ok (.return_, 1) := by decide +kernel
theorem dX1_note_0 : decode cX1_note 0 = .ok (.aload_n 0, 1) := by decide +kernel
theorem dX1_note_1 : decode cX1_note 1 = .ok (.getfield 18, 3) := by decide +kernel
theorem dX1_note_4 : decode cX1_note 4 = .ok (.bipush 8, 2) := by decide +kernel
theorem dX1_note_6 : decode cX1_note 6 = .ok (.if_icmp .lt 6, 3) := by decide +kernel
theorem dX1_note_9 : decode cX1_note 9 = .ok (.bipush (-4), 2) := by decide +kernel
theorem dX1_note_11 : decode cX1_note 11 = .ok (.ireturn, 1) := by decide +kernel
theorem dX1_note_12 : decode cX1_note 12 = .ok (.aload_n 0, 1) := by decide +kernel
theorem dX1_note_13 : decode cX1_note 13 = .ok (.getfield 9, 3) := by decide +kernel
theorem dX1_note_16 : decode cX1_note 16 = .ok (.aload_n 0, 1) := by decide +kernel
theorem dX1_note_17 : decode cX1_note 17 = .ok (.getfield 18, 3) := by decide +kernel
theorem dX1_note_20 : decode cX1_note 20 = .ok (.iload_n 1, 1) := by decide +kernel
theorem dX1_note_21 : decode cX1_note 21 = .ok (.iastore, 1) := by decide +kernel
theorem dX1_note_22 : decode cX1_note 22 = .ok (.aload_n 0, 1) := by decide +kernel
theorem dX1_note_23 : decode cX1_note 23 = .ok (.getfield 15, 3) := by decide +kernel
theorem dX1_note_26 : decode cX1_note 26 = .ok (.aload_n 0, 1) := by decide +kernel
theorem dX1_note_27 : decode cX1_note 27 = .ok (.getfield 18, 3) := by decide +kernel
theorem dX1_note_30 : decode cX1_note 30 = .ok (.iload_n 2, 1) := by decide +kernel
theorem dX1_note_31 : decode cX1_note 31 = .ok (.iastore, 1) := by decide +kernel
theorem dX1_note_32 : decode cX1_note 32 = .ok (.aload_n 0, 1) := by decide +kernel
theorem dX1_note_33 : decode cX1_note 33 = .ok (.dup, 1) := by decide +kernel
theorem dX1_note_34 : decode cX1_note 34 = .ok (.getfield 18, 3) := by decide +kernel
theorem dX1_note_37 : decode cX1_note 37 = .ok (.iconst 1, 1) := by decide +kernel
theorem dX1_note_38 : decode cX1_note 38 = .ok (.iadd, 1) := by decide +kernel
theorem dX1_note_39 : decode cX1_note 39 = .ok (.putfield 18, 3) := by decide +kernel
theorem dX1_note_42 : decode cX1_note 42 = .ok (.aload_n 0, 1) := by decide +kernel
theorem dX1_note_43 : decode cX1_note 43 = .ok (.getfield 18, 3) := by decide +kernel
theorem dX1_note_46 : decode cX1_note 46 = .ok (.ireturn, 1) := by decide +kernel
theorem dX1_forget_0 : decode cX1_forget 0 = .ok (.aload_n 0, 1) := by decide +kernel
theorem dX1_forget_1 : decode cX1_forget 1 = .ok (.iconst 0, 1) := by decide +kernel
theorem dX1_forget_2 : decode cX1_forget 2 = .ok (.putfield 18, 3) := by decide +kernel
theorem dX1_forget_5 : decode cX1_forget 5 = .ok (.return_, 1) := by decide +kernel
theorem dX1_copyFrom_0 : decode cX1_copyFrom 0 = .ok (.aload_n 0, 1) := by decide +kernel
theorem dX1_copyFrom_1 : decode cX1_copyFrom 1 = .ok (.aload_n 1, 1) := by decide +kernel
theorem dX1_copyFrom_2 : decode cX1_copyFrom 2 = .ok (.getfield 18, 3) := by decide +kernel
theorem dX1_copyFrom_5 : decode cX1_copyFrom 5 = .ok (.putfield 18, 3) := by decide +kernel
theorem dX1_copyFrom_8 : decode cX1_copyFrom 8 = .ok (.iconst 0, 1) := by decide +kernel
theorem dX1_copyFrom_9 : decode cX1_copyFrom 9 = .ok (.istore_n 2, 1) := by decide +kernel
theorem dX1_copyFrom_10 : decode cX1_copyFrom 10 = .ok (.iload_n 2, 1) := by decide +kernel
theorem dX1_copyFrom_11 : decode cX1_copyFrom 11 = .ok (.aload_n 0, 1) := by decide +kernel
theorem dX1_copyFrom_12 : decode cX1_copyFrom 12 = .ok (.getfield 18, 3) := by decide +kernel
theorem dX1_copyFrom_15 : decode cX1_copyFrom 15 = .ok (.if_icmp .ge 33, 3) := by decide +kernel
theorem dX1_copyFrom_18 : decode cX1_copyFrom 18 = .ok (.aload_n 0, 1) := by decide +kernel
theorem dX1_copyFrom_19 : decode cX1_copyFrom 19 = .ok (.getfield 9, 3) := by decide +kernel
theorem dX1_copyFrom_22 : decode cX1_copyFrom 22 = .ok (.iload_n 2, 1) := by decide +kernel
theorem dX1_copyFrom_23 : decode cX1_copyFrom 23 = .ok (.aload_n 1, 1) := by decide +kernel
theorem dX1_copyFrom_24 : decode cX1_copyFrom 24 = .ok (.getfield 9, 3) := by decide +kernel
theorem dX1_copyFrom_27 : decode cX1_copyFrom 27 = .ok (.iload_n 2, 1) := by decide +kernel
theorem dX1_copyFrom_28 : decode cX1_copyFrom 28 = .ok (.iaload, 1) := by decide +kernel
theorem dX1_copyFrom_29 : decode cX1_copyFrom 29 = .ok (.iastore, 1) := by decide +kernel
theorem dX1_copyFrom_30 : decode cX1_copyFrom 30 = .ok (.aload_n 0, 1) := by decide +kernel
theorem dX1_copyFrom_31 : decode cX1_copyFrom 31 = .ok (.getfield 15, 3) := by decide +kernel
theorem dX1_copyFrom_34 : decode cX1_copyFrom 34 = .ok (.iload_n 2, 1) := by decide +kernel
theorem dX1_copyFrom_35 : decode cX1_copyFrom 35 = .ok (.aload_n 1, 1) := by decide +kernel
theorem dX1_copyFrom_36 : decode cX1_copyFrom 36 = .ok (.getfield 15, 3) := by decide +kernel
theorem dX1_copyFrom_39 : decode cX1_copyFrom 39 = .ok (.iload_n 2, 1) := by decide +kernel
theorem dX1_copyFrom_40 : decode cX1_copyFrom 40 = .ok (.iaload, 1) := by decide +kernel
theorem dX1_copyFrom_41 : decode cX1_copyFrom 41 = .ok (.iastore, 1) := by decide +kernel
theorem dX1_copyFrom_42 : decode cX1_copyFrom 42 = .ok (.iinc 2 1, 3) := by decide +kernel
theorem dX1_copyFrom_45 : decode cX1_copyFrom 45 = .ok (.goto (-35), 3) := by decide +kernel
theorem dX1_copyFrom_48 : decode cX1_copyFrom 48 = .ok (.return_, 1) := by decide +kernel
theorem dX2_init_0 : decode cX2_init 0 = .ok (.aload_n 0, 1) := by decide +kernel
theorem dX2_init_1 : decode cX2_init 1 = .ok (.invokespecial 3, 3) := by decide +kernel
theorem dX2_init_4 : decode cX2_init 4 = .ok (.aload_n 0, 1) := by decide +kernel
theorem dX2_init_5 : decode cX2_init 5 = .ok (.sipush 470, 3) := by decide +kernel
theorem dX2_init_8 : decode cX2_init 8 = .ok (.newarray .byte, 2) := by decide +kernel
theorem dX2_init_10 : decode cX2_init 10 = .ok (.putfield 9, 3) := by decide +kernel
theorem dX2_init_13 : decode cX2_init 13 = .ok (.aload_n 0, 1) := by decide +kernel
theorem dX2_init_14 : decode cX2_init 14 = .ok (.iconst 0, 1) := by decide +kernel
theorem dX2_init_15 : decode cX2_init 15 = .ok (.putfield 15, 3) := by decide +kernel
theorem dX2_init_18 : decode cX2_init 18 = .ok (.aload_n 0, 1) := by decide +kernel
theorem dX2_init_19 : decode cX2_init 19 = .ok (.aload_n 1, 1) := by decide +kernel
theorem dX2_init_20 : decode cX2_init 20 = .ok (.putfield 19, 3) := by decide +kernel
theorem dX2_init_23 : decode cX2_init 23 = .ok (.return_, 1) := by decide +kernel
theorem dX2_write_0 : decode cX2_write 0 = .ok (.aload_n 0, 1) := by decide +kernel
theorem dX2_write_1 : decode cX2_write 1 = .ok (.iconst 0, 1) := by decide +kernel
theorem dX2_write_2 : decode cX2_write 2 = .ok (.putfield 15, 3) := by decide +kernel
theorem dX2_write_5 : decode cX2_write 5 = .ok (.aload_n 0, 1) := by decide +kernel
theorem dX2_write_6 : decode cX2_write 6 = .ok (.iload_n 1, 1) := by decide +kernel
theorem dX2_write_7 : decode cX2_write 7 = .ok (.iconst 0, 1) := by decide +kernel
theorem dX2_write_8 : decode cX2_write 8 = .ok (.invokevirtual 23, 3) := by decide +kernel
theorem dX2_write_11 : decode cX2_write 11 = .ok (.aload_n 0, 1) := by decide +kernel
theorem dX2_write_12 : decode cX2_write 12 = .ok (.getfield 15, 3) := by decide +kernel
theorem dX2_write_15 : decode cX2_write 15 = .ok (.ireturn, 1) := by decide +kernel
theorem dX2_writeTerm_0 : decode cX2_writeTerm 0 = .ok (.aload_n 0, 1) := by decide +kernel
theorem dX2_writeTerm_1 : decode cX2_writeTerm 1 = .ok (.getfield 19, 3) := by decide +kernel
theorem dX2_writeTerm_4 : decode cX2_writeTerm 4 = .ok (.iload_n 1, 1) := by decide +kernel
theorem dX2_writeTerm_5 : decode cX2_writeTerm 5 = .ok (.invokevirtual 27, 3) := by decide +kernel
theorem dX2_writeTerm_8 : decode cX2_writeTerm 8 = .ok (.ifCond .eq 9, 3) := by decide +kernel
theorem dX2_writeTerm_11 : decode cX2_writeTerm 11 = .ok (.iload_n 2, 1) := by decide +kernel
theorem dX2_writeTerm_12 : decode cX2_writeTerm 12 = .ok (.bipush 24, 2) := by decide +kernel
theorem dX2_writeTerm_14 : decode cX2_writeTerm 14 = .ok (.if_icmp .lt 4, 3) := by decide +kernel
theorem dX2_writeTerm_17 : decode cX2_writeTerm 17 = .ok (.return_, 1) := by decide +kernel
theorem dX2_writeTerm_18 : decode cX2_writeTerm 18 = .ok (.aload_n 0, 1) := by decide +kernel
theorem dX2_writeTerm_19 : decode cX2_writeTerm 19 = .ok (.getfield 19, 3) := by decide +kernel
theorem dX2_writeTerm_22 : decode cX2_writeTerm 22 = .ok (.getfield 33, 3) := by decide +kernel
theorem dX2_writeTerm_25 : decode cX2_writeTerm 25 = .ok (.iload_n 1, 1) := by decide +kernel
theorem dX2_writeTerm_26 : decode cX2_writeTerm 26 = .ok (.iaload, 1) := by decide +kernel
theorem dX2_writeTerm_27 : decode cX2_writeTerm 27 = .ok (.istore_n 3, 1) := by decide +kernel
theorem dX2_writeTerm_28 : decode cX2_writeTerm 28 = .ok (.iload_n 3, 1) := by decide +kernel
theorem dX2_writeTerm_29 : decode cX2_writeTerm 29 = .ok (.ifCond .ne 17, 3) := by decide +kernel
theorem dX2_writeTerm_32 : decode cX2_writeTerm 32 = .ok (.aload_n 0, 1) := by decide +kernel
theorem dX2_writeTerm_33 : decode cX2_writeTerm 33 = .ok (.aload_n 0, 1) := by decide +kernel
theorem dX2_writeTerm_34 : decode cX2_writeTerm 34 = .ok (.getfield 19, 3) := by decide +kernel
theorem dX2_writeTerm_37 : decode cX2_writeTerm 37 = .ok (.getfield 37, 3) := by decide +kernel
theorem dX2_writeTerm_40 : decode cX2_writeTerm 40 = .ok (.iload_n 1, 1) := by decide +kernel
theorem dX2_writeTerm_41 : decode cX2_writeTerm 41 = .ok (.iaload, 1) := by decide +kernel
theorem dX2_writeTerm_42 : decode cX2_writeTerm 42 = .ok (.invokevirtual 40, 3) := by decide +kernel
theorem dX2_writeTerm_45 : decode cX2_writeTerm 45 = .ok (.return_, 1) := by decide +kernel
theorem dX2_writeTerm_46 : decode cX2_writeTerm 46 = .ok (.aload_n 0, 1) := by decide +kernel
theorem dX2_writeTerm_47 : decode cX2_writeTerm 47 = .ok (.aload_n 0, 1) := by decide +kernel
theorem dX2_writeTerm_48 : decode cX2_writeTerm 48 = .ok (.iload_n 3, 1) := by decide +kernel
theorem dX2_writeTerm_49 : decode cX2_writeTerm 49 = .ok (.invokevirtual 44, 3) := by decide +kernel
theorem dX2_writeTerm_52 : decode cX2_writeTerm 52 = .ok (.invokevirtual 48, 3) := by decide +kernel
theorem dX2_writeTerm_55 : decode cX2_writeTerm 55 = .ok (.iload_n 3, 1) := by decide +kernel
theorem dX2_writeTerm_56 : decode cX2_writeTerm 56 = .ok (.iconst 1, 1) := by decide +kernel
theorem dX2_writeTerm_57 : decode cX2_writeTerm 57 = .ok (.if_icmp .ne 4, 3) := by decide +kernel
theorem dX2_writeTerm_60 : decode cX2_writeTerm 60 = .ok (.return_, 1) := by decide +kernel
theorem dX2_writeTerm_61 : decode cX2_writeTerm 61 = .ok (.aload_n 0, 1) := by decide +kernel
theorem dX2_writeTerm_62 : decode cX2_writeTerm 62 = .ok (.iload_n 1, 1) := by decide +kernel
theorem dX2_writeTerm_63 : decode cX2_writeTerm 63 = .ok (.invokevirtual 51, 3) := by decide +kernel
theorem dX2_writeTerm_66 : decode cX2_writeTerm 66 = .ok (.aload_n 0, 1) := by decide +kernel
theorem dX2_writeTerm_67 : decode cX2_writeTerm 67 = .ok (.bipush 40, 2) := by decide +kernel
theorem dX2_writeTerm_69 : decode cX2_writeTerm 69 = .ok (.invokevirtual 48, 3) := by decide +kernel
theorem dX2_writeTerm_72 : decode cX2_writeTerm 72 = .ok (.aload_n 0, 1) := by decide +kernel
theorem dX2_writeTerm_73 : decode cX2_writeTerm 73 = .ok (.aload_n 0, 1) := by decide +kernel
theorem dX2_writeTerm_74 : decode cX2_writeTerm 74 = .ok (.getfield 19, 3) := by decide +kernel
theorem dX2_writeTerm_77 : decode cX2_writeTerm 77 = .ok (.getfield 54, 3) := by decide +kernel
theorem dX2_writeTerm_80 : decode cX2_writeTerm 80 = .ok (.iload_n 1, 1) := by decide +kernel
theorem dX2_writeTerm_81 : decode cX2_writeTerm 81 = .ok (.iaload, 1) := by decide +kernel
theorem dX2_writeTerm_82 : decode cX2_writeTerm 82 = .ok (.iload_n 2, 1) := by decide +kernel
theorem dX2_writeTerm_83 : decode cX2_writeTerm 83 = .ok (.iconst 1, 1) := by decide +kernel
theorem dX2_writeTerm_84 : decode cX2_writeTerm 84 = .ok (.iadd, 1) := by decide +kernel
theorem dX2_writeTerm_85 : decode cX2_writeTerm 85 = .ok (.invokevirtual 23, 3) := by decide +kernel
theorem dX2_writeTerm_88 : decode cX2_writeTerm 88 = .ok (.iload_n 3, 1) := by decide +kernel
theorem dX2_writeTerm_89 : decode cX2_writeTerm 89 = .ok (.invokestatic 57, 3) := by decide +kernel
theorem dX2_writeTerm_92 : decode cX2_writeTerm 92 = .ok (.ifCond .eq 25, 3) := by decide +kernel
theorem dX2_writeTerm_95 : decode cX2_writeTerm 95 = .ok (.aload_n 0, 1) := by decide +kernel
theorem dX2_writeTerm_96 : decode cX2_writeTerm 96 = .ok (.bipush 44, 2) := by decide +kernel
theorem dX2_writeTerm_98 : decode cX2_writeTerm 98 = .ok (.invokevirtual 48, 3) := by decide +kernel
theorem dX2_writeTerm_101 : decode cX2_writeTerm 101 = .ok (.aload_n 0, 1) := by decide +kernel
theorem dX2_writeTerm_102 : decode cX2_writeTerm 102 = .ok (.aload_n 0, 1) := by decide +kernel
theorem dX2_writeTerm_103 : decode cX2_writeTerm 103 = .ok (.getfield 19, 3) := by decide +kernel
theorem dX2_writeTerm_106 : decode cX2_writeTerm 106 = .ok (.getfield 60, 3) := by decide +kernel
theorem dX2_writeTerm_109 : decode cX2_writeTerm 109 = .ok (.iload_n 1, 1) := by decide +kernel
theorem dX2_writeTerm_110 : decode cX2_writeTerm 110 = .ok (.iaload, 1) := by decide +kernel
theorem dX2_writeTerm_111 : decode cX2_writeTerm 111 = .ok (.iload_n 2, 1) := by decide +kernel
theorem dX2_writeTerm_112 : decode cX2_writeTerm 112 = .ok (.iconst 1, 1) := by decide +kernel
theorem dX2_writeTerm_113 : decode cX2_writeTerm 113 = .ok (.iadd, 1) := by decide +kernel
theorem dX2_writeTerm_114 : decode cX2_writeTerm 114 = .ok (.invokevirtual 23, 3) := by decide +kernel
theorem dX2_writeTerm_117 : decode cX2_writeTerm 117 = .ok (.aload_n 0, 1) := by decide +kernel
theorem dX2_writeTerm_118 : decode cX2_writeTerm 118 = .ok (.bipush 41, 2) := by decide +kernel
theorem dX2_writeTerm_120 : decode cX2_writeTerm 120 = .ok (.invokevirtual 48, 3) := by decide +kernel
theorem dX2_writeTerm_123 : decode cX2_writeTerm 123 = .ok (.return_, 1) := by decide +kernel
theorem dX2_signOf_0 : decode cX2_signOf 0 = .ok (.iload_n 1, 1) := by decide +kernel
theorem dX2_signOf_1 : decode cX2_signOf 1 = .ok (.tableswitch 57 2 7 #[39, 45, 48, 51, 42, 54], 39) := by decide +kernel
theorem dX2_signOf_40 : decode cX2_signOf 40 = .ok (.bipush 63, 2) := by decide +kernel
theorem dX2_signOf_42 : decode cX2_signOf 42 = .ok (.ireturn, 1) := by decide +kernel
theorem dX2_signOf_43 : decode cX2_signOf 43 = .ok (.bipush 94, 2) := by decide +kernel
theorem dX2_signOf_45 : decode cX2_signOf 45 = .ok (.ireturn, 1) := by decide +kernel
theorem dX2_signOf_46 : decode cX2_signOf 46 = .ok (.bipush 47, 2) := by decide +kernel
theorem dX2_signOf_48 : decode cX2_signOf 48 = .ok (.ireturn, 1) := by decide +kernel
theorem dX2_signOf_49 : decode cX2_signOf 49 = .ok (.bipush 43, 2) := by decide +kernel
theorem dX2_signOf_51 : decode cX2_signOf 51 = .ok (.ireturn, 1) := by decide +kernel
theorem dX2_signOf_52 : decode cX2_signOf 52 = .ok (.bipush 60, 2) := by decide +kernel
theorem dX2_signOf_54 : decode cX2_signOf 54 = .ok (.ireturn, 1) := by decide +kernel
theorem dX2_signOf_55 : decode cX2_signOf 55 = .ok (.bipush 33, 2) := by decide +kernel
theorem dX2_signOf_57 : decode cX2_signOf 57 = .ok (.ireturn, 1) := by decide +kernel
theorem dX2_signOf_58 : decode cX2_signOf 58 = .ok (.bipush 45, 2) := by decide +kernel
theorem dX2_signOf_60 : decode cX2_signOf 60 = .ok (.ireturn, 1) := by decide +kernel
theorem dX2_writeHead_0 : decode cX2_writeHead 0 = .ok (.aload_n 0, 1) := by decide +kernel
theorem dX2_writeHead_1 : decode cX2_writeHead 1 = .ok (.getfield 19, 3) := by decide +kernel
theorem dX2_writeHead_4 : decode cX2_writeHead 4 = .ok (.getfield 63, 3) := by decide +kernel
theorem dX2_writeHead_7 : decode cX2_writeHead 7 = .ok (.iload_n 1, 1) := by decide +kernel
theorem dX2_writeHead_8 : decode cX2_writeHead 8 = .ok (.iaload, 1) := by decide +kernel
theorem dX2_writeHead_9 : decode cX2_writeHead 9 = .ok (.bipush (-5), 2) := by decide +kernel
theorem dX2_writeHead_11 : decode cX2_writeHead 11 = .ok (.if_icmp .ne 4, 3) := by decide +kernel
theorem dX2_writeHead_14 : decode cX2_writeHead 14 = .ok (.return_, 1) := by decide +kernel
theorem dX2_writeHead_15 : decode cX2_writeHead 15 = .ok (.iconst 0, 1) := by decide +kernel
theorem dX2_writeHead_16 : decode cX2_writeHead 16 = .ok (.istore_n 2, 1) := by decide +kernel
theorem dX2_writeHead_17 : decode cX2_writeHead 17 = .ok (.iload_n 2, 1) := by decide +kernel
theorem dX2_writeHead_18 : decode cX2_writeHead 18 = .ok (.bipush 6, 2) := by decide +kernel
theorem dX2_writeHead_20 : decode cX2_writeHead 20 = .ok (.if_icmp .ge 29, 3) := by decide +kernel
theorem dX2_writeHead_23 : decode cX2_writeHead 23 = .ok (.aload_n 0, 1) := by decide +kernel
theorem dX2_writeHead_24 : decode cX2_writeHead 24 = .ok (.bipush 48, 2) := by decide +kernel
theorem dX2_writeHead_26 : decode cX2_writeHead 26 = .ok (.aload_n 0, 1) := by decide +kernel
theorem dX2_writeHead_27 : decode cX2_writeHead 27 = .ok (.getfield 19, 3) := by decide +kernel
theorem dX2_writeHead_30 : decode cX2_writeHead 30 = .ok (.getfield 63, 3) := by decide +kernel
theorem dX2_writeHead_33 : decode cX2_writeHead 33 = .ok (.iload_n 1, 1) := by decide +kernel
theorem dX2_writeHead_34 : decode cX2_writeHead 34 = .ok (.iaload, 1) := by decide +kernel
theorem dX2_writeHead_35 : decode cX2_writeHead 35 = .ok (.iload_n 2, 1) := by decide +kernel
theorem dX2_writeHead_36 : decode cX2_writeHead 36 = .ok (.invokestatic 66, 3) := by decide +kernel
theorem dX2_writeHead_39 : decode cX2_writeHead 39 = .ok (.iadd, 1) := by decide +kernel
theorem dX2_writeHead_40 : decode cX2_writeHead 40 = .ok (.invokevirtual 48, 3) := by decide +kernel
theorem dX2_writeHead_43 : decode cX2_writeHead 43 = .ok (.iinc 2 1, 3) := by decide +kernel
theorem dX2_writeHead_46 : decode cX2_writeHead 46 = .ok (.goto (-29), 3) := by decide +kernel
theorem dX2_writeHead_49 : decode cX2_writeHead 49 = .ok (.aload_n 0, 1) := by decide +kernel
theorem dX2_writeHead_50 : decode cX2_writeHead 50 = .ok (.getfield 19, 3) := by decide +kernel
theorem dX2_writeHead_53 : decode cX2_writeHead 53 = .ok (.getfield 33, 3) := by decide +kernel
theorem dX2_writeHead_56 : decode cX2_writeHead 56 = .ok (.iload_n 1, 1) := by decide +kernel
theorem dX2_writeHead_57 : decode cX2_writeHead 57 = .ok (.iaload, 1) := by decide +kernel
theorem dX2_writeHead_58 : decode cX2_writeHead 58 = .ok (.bipush 6, 2) := by decide +kernel
theorem dX2_writeHead_60 : decode cX2_writeHead 60 = .ok (.if_icmp .ne 22, 3) := by decide +kernel
theorem dX2_writeHead_63 : decode cX2_writeHead 63 = .ok (.aload_n 0, 1) := by decide +kernel
theorem dX2_writeHead_64 : decode cX2_writeHead 64 = .ok (.bipush 58, 2) := by decide +kernel
theorem dX2_writeHead_66 : decode cX2_writeHead 66 = .ok (.invokevirtual 48, 3) := by decide +kernel
theorem dX2_writeHead_69 : decode cX2_writeHead 69 = .ok (.aload_n 0, 1) := by decide +kernel
theorem dX2_writeHead_70 : decode cX2_writeHead 70 = .ok (.aload_n 0, 1) := by decide +kernel
theorem dX2_writeHead_71 : decode cX2_writeHead 71 = .ok (.getfield 19, 3) := by decide +kernel
theorem dX2_writeHead_74 : decode cX2_writeHead 74 = .ok (.getfield 37, 3) := by decide +kernel
theorem dX2_writeHead_77 : decode cX2_writeHead 77 = .ok (.iload_n 1, 1) := by decide +kernel
theorem dX2_writeHead_78 : decode cX2_writeHead 78 = .ok (.iaload, 1) := by decide +kernel
theorem dX2_writeHead_79 : decode cX2_writeHead 79 = .ok (.invokevirtual 40, 3) := by decide +kernel
theorem dX2_writeHead_82 : decode cX2_writeHead 82 = .ok (.return_, 1) := by decide +kernel
theorem dX2_writeFee_0 : decode cX2_writeFee 0 = .ok (.iload_n 1, 1) := by decide +kernel
theorem dX2_writeFee_1 : decode cX2_writeFee 1 = .ok (.bipush 10, 2) := by decide +kernel
theorem dX2_writeFee_3 : decode cX2_writeFee 3 = .ok (.if_icmp .lt 14, 3) := by decide +kernel
theorem dX2_writeFee_6 : decode cX2_writeFee 6 = .ok (.aload_n 0, 1) := by decide +kernel
theorem dX2_writeFee_7 : decode cX2_writeFee 7 = .ok (.bipush 48, 2) := by decide +kernel
theorem dX2_writeFee_9 : decode cX2_writeFee 9 = .ok (.iload_n 1, 1) := by decide +kernel
theorem dX2_writeFee_10 : decode cX2_writeFee 10 = .ok (.bipush 10, 2) := by decide +kernel
theorem dX2_writeFee_12 : decode cX2_writeFee 12 = .ok (.idiv, 1) := by decide +kernel
theorem dX2_writeFee_13 : decode cX2_writeFee 13 = .ok (.iadd, 1) := by decide +kernel
theorem dX2_writeFee_14 : decode cX2_writeFee 14 = .ok (.invokevirtual 48, 3) := by decide +kernel
theorem dX2_writeFee_17 : decode cX2_writeFee 17 = .ok (.aload_n 0, 1) := by decide +kernel
theorem dX2_writeFee_18 : decode cX2_writeFee 18 = .ok (.bipush 48, 2) := by decide +kernel
theorem dX2_writeFee_20 : decode cX2_writeFee 20 = .ok (.iload_n 1, 1) := by decide +kernel
theorem dX2_writeFee_21 : decode cX2_writeFee 21 = .ok (.bipush 10, 2) := by decide +kernel
theorem dX2_writeFee_23 : decode cX2_writeFee 23 = .ok (.irem, 1) := by decide +kernel
theorem dX2_writeFee_24 : decode cX2_writeFee 24 = .ok (.iadd, 1) := by decide +kernel
theorem dX2_writeFee_25 : decode cX2_writeFee 25 = .ok (.invokevirtual 48, 3) := by decide +kernel
theorem dX2_writeFee_28 : decode cX2_writeFee 28 = .ok (.return_, 1) := by decide +kernel
theorem dX2_writeByte_0 : decode cX2_writeByte 0 = .ok (.aload_n 0, 1) := by decide +kernel
theorem dX2_writeByte_1 : decode cX2_writeByte 1 = .ok (.getfield 15, 3) := by decide +kernel
theorem dX2_writeByte_4 : decode cX2_writeByte 4 = .ok (.sipush 470, 3) := by decide +kernel
theorem dX2_writeByte_7 : decode cX2_writeByte 7 = .ok (.if_icmp .ge 24, 3) := by decide +kernel
theorem dX2_writeByte_10 : decode cX2_writeByte 10 = .ok (.aload_n 0, 1) := by decide +kernel
theorem dX2_writeByte_11 : decode cX2_writeByte 11 = .ok (.getfield 9, 3) := by decide +kernel
theorem dX2_writeByte_14 : decode cX2_writeByte 14 = .ok (.aload_n 0, 1) := by decide +kernel
theorem dX2_writeByte_15 : decode cX2_writeByte 15 = .ok (.getfield 15, 3) := by decide +kernel
theorem dX2_writeByte_18 : decode cX2_writeByte 18 = .ok (.iload_n 1, 1) := by decide +kernel
theorem dX2_writeByte_19 : decode cX2_writeByte 19 = .ok (.i2b, 1) := by decide +kernel
theorem dX2_writeByte_20 : decode cX2_writeByte 20 = .ok (.bastore, 1) := by decide +kernel
theorem dX2_writeByte_21 : decode cX2_writeByte 21 = .ok (.aload_n 0, 1) := by decide +kernel
theorem dX2_writeByte_22 : decode cX2_writeByte 22 = .ok (.dup, 1) := by decide +kernel
theorem dX2_writeByte_23 : decode cX2_writeByte 23 = .ok (.getfield 15, 3) := by decide +kernel
theorem dX2_writeByte_26 : decode cX2_writeByte 26 = .ok (.iconst 1, 1) := by decide +kernel
theorem dX2_writeByte_27 : decode cX2_writeByte 27 = .ok (.iadd, 1) := by decide +kernel
theorem dX2_writeByte_28 : decode cX2_writeByte 28 = .ok (.putfield 15, 3) := by decide +kernel
theorem dX2_writeByte_31 : decode cX2_writeByte 31 = .ok (.return_, 1) := by decide +kernel
theorem dX3_init_0 : decode cX3_init 0 = .ok (.aload_n 0, 1) := by decide +kernel
theorem dX3_init_1 : decode cX3_init 1 = .ok (.invokespecial 3, 3) := by decide +kernel
theorem dX3_init_4 : decode cX3_init 4 = .ok (.aload_n 0, 1) := by decide +kernel
theorem dX3_init_5 : decode cX3_init 5 = .ok (.iconst 4, 1) := by decide +kernel
theorem dX3_init_6 : decode cX3_init 6 = .ok (.bipush 70, 2) := by decide +kernel
theorem dX3_init_8 : decode cX3_init 8 = .ok (.multianewarray 9 2, 4) := by decide +kernel
theorem dX3_init_12 : decode cX3_init 12 = .ok (.putfield 11, 3) := by decide +kernel
theorem dX3_init_15 : decode cX3_init 15 = .ok (.aload_n 0, 1) := by decide +kernel
theorem dX3_init_16 : decode cX3_init 16 = .ok (.iconst 4, 1) := by decide +kernel
theorem dX3_init_17 : decode cX3_init 17 = .ok (.newarray .int, 2) := by decide +kernel
theorem dX3_init_19 : decode cX3_init 19 = .ok (.dup, 1) := by decide +kernel
theorem dX3_init_20 : decode cX3_init 20 = .ok (.iconst 0, 1) := by decide +kernel
theorem dX3_init_21 : decode cX3_init 21 = .ok (.iconst (-1), 1) := by decide +kernel
theorem dX3_init_22 : decode cX3_init 22 = .ok (.iastore, 1) := by decide +kernel
theorem dX3_init_23 : decode cX3_init 23 = .ok (.dup, 1) := by decide +kernel
theorem dX3_init_24 : decode cX3_init 24 = .ok (.iconst 1, 1) := by decide +kernel
theorem dX3_init_25 : decode cX3_init 25 = .ok (.iconst (-1), 1) := by decide +kernel
theorem dX3_init_26 : decode cX3_init 26 = .ok (.iastore, 1) := by decide +kernel
theorem dX3_init_27 : decode cX3_init 27 = .ok (.dup, 1) := by decide +kernel
theorem dX3_init_28 : decode cX3_init 28 = .ok (.iconst 2, 1) := by decide +kernel
theorem dX3_init_29 : decode cX3_init 29 = .ok (.iconst (-1), 1) := by decide +kernel
theorem dX3_init_30 : decode cX3_init 30 = .ok (.iastore, 1) := by decide +kernel
theorem dX3_init_31 : decode cX3_init 31 = .ok (.dup, 1) := by decide +kernel
theorem dX3_init_32 : decode cX3_init 32 = .ok (.iconst 3, 1) := by decide +kernel
theorem dX3_init_33 : decode cX3_init 33 = .ok (.iconst (-1), 1) := by decide +kernel
theorem dX3_init_34 : decode cX3_init 34 = .ok (.iastore, 1) := by decide +kernel
theorem dX3_init_35 : decode cX3_init 35 = .ok (.putfield 16, 3) := by decide +kernel
theorem dX3_init_38 : decode cX3_init 38 = .ok (.return_, 1) := by decide +kernel
theorem dX3_has_0 : decode cX3_has 0 = .ok (.iload_n 1, 1) := by decide +kernel
theorem dX3_has_1 : decode cX3_has 1 = .ok (.ifCond .lt 12, 3) := by decide +kernel
theorem dX3_has_4 : decode cX3_has 4 = .ok (.iload_n 1, 1) := by decide +kernel
theorem dX3_has_5 : decode cX3_has 5 = .ok (.iconst 4, 1) := by decide +kernel
theorem dX3_has_6 : decode cX3_has 6 = .ok (.if_icmp .ge 7, 3) := by decide +kernel
theorem dX3_has_9 : decode cX3_has 9 = .ok (.iconst 1, 1) := by decide +kernel
theorem dX3_has_10 : decode cX3_has 10 = .ok (.goto 4, 3) := by decide +kernel
theorem dX3_has_13 : decode cX3_has 13 = .ok (.iconst 0, 1) := by decide +kernel
theorem dX3_has_14 : decode cX3_has 14 = .ok (.ireturn, 1) := by decide +kernel
theorem dX3_holds_0 : decode cX3_holds 0 = .ok (.aload_n 0, 1) := by decide +kernel
theorem dX3_holds_1 : decode cX3_holds 1 = .ok (.iload_n 1, 1) := by decide +kernel
theorem dX3_holds_2 : decode cX3_holds 2 = .ok (.invokevirtual 20, 3) := by decide +kernel
theorem dX3_holds_5 : decode cX3_holds 5 = .ok (.ifCond .eq 17, 3) := by decide +kernel
theorem dX3_holds_8 : decode cX3_holds 8 = .ok (.aload_n 0, 1) := by decide +kernel
theorem dX3_holds_9 : decode cX3_holds 9 = .ok (.getfield 16, 3) := by decide +kernel
theorem dX3_holds_12 : decode cX3_holds 12 = .ok (.iload_n 1, 1) := by decide +kernel
theorem dX3_holds_13 : decode cX3_holds 13 = .ok (.iaload, 1) := by decide +kernel
theorem dX3_holds_14 : decode cX3_holds 14 = .ok (.iconst (-1), 1) := by decide +kernel
theorem dX3_holds_15 : decode cX3_holds 15 = .ok (.if_icmp .eq 7, 3) := by decide +kernel
theorem dX3_holds_18 : decode cX3_holds 18 = .ok (.iconst 1, 1) := by decide +kernel
theorem dX3_holds_19 : decode cX3_holds 19 = .ok (.goto 4, 3) := by decide +kernel
theorem dX3_holds_22 : decode cX3_holds 22 = .ok (.iconst 0, 1) := by decide +kernel
theorem dX3_holds_23 : decode cX3_holds 23 = .ok (.ireturn, 1) := by decide +kernel
theorem dX3_hasPlace_0 : decode cX3_hasPlace 0 = .ok (.aload_n 0, 1) := by decide +kernel
theorem dX3_hasPlace_1 : decode cX3_hasPlace 1 = .ok (.iload_n 1, 1) := by decide +kernel
theorem dX3_hasPlace_2 : decode cX3_hasPlace 2 = .ok (.invokevirtual 20, 3) := by decide +kernel
theorem dX3_hasPlace_5 : decode cX3_hasPlace 5 = .ok (.ifCond .eq 21, 3) := by decide +kernel
theorem dX3_hasPlace_8 : decode cX3_hasPlace 8 = .ok (.iload_n 2, 1) := by decide +kernel
theorem dX3_hasPlace_9 : decode cX3_hasPlace 9 = .ok (.ifCond .lt 17, 3) := by decide +kernel
theorem dX3_hasPlace_12 : decode cX3_hasPlace 12 = .ok (.iload_n 2, 1) := by decide +kernel
theorem dX3_hasPlace_13 : decode cX3_hasPlace 13 = .ok (.aload_n 0, 1) := by decide +kernel
theorem dX3_hasPlace_14 : decode cX3_hasPlace 14 = .ok (.getfield 16, 3) := by decide +kernel
theorem dX3_hasPlace_17 : decode cX3_hasPlace 17 = .ok (.iload_n 1, 1) := by decide +kernel
theorem dX3_hasPlace_18 : decode cX3_hasPlace 18 = .ok (.iaload, 1) := by decide +kernel
theorem dX3_hasPlace_19 : decode cX3_hasPlace 19 = .ok (.if_icmp .ge 7, 3) := by decide +kernel
theorem dX3_hasPlace_22 : decode cX3_hasPlace 22 = .ok (.iconst 1, 1) := by decide +kernel
theorem dX3_hasPlace_23 : decode cX3_hasPlace 23 = .ok (.goto 4, 3) := by decide +kernel
theorem dX3_hasPlace_26 : decode cX3_hasPlace 26 = .ok (.iconst 0, 1) := by decide +kernel
theorem dX3_hasPlace_27 : decode cX3_hasPlace 27 = .ok (.ireturn, 1) := by decide +kernel
theorem dX3_renew_0 : decode cX3_renew 0 = .ok (.aload_n 0, 1) := by decide +kernel
theorem dX3_renew_1 : decode cX3_renew 1 = .ok (.iload_n 1, 1) := by decide +kernel
theorem dX3_renew_2 : decode cX3_renew 2 = .ok (.invokevirtual 20, 3) := by decide +kernel
theorem dX3_renew_5 : decode cX3_renew 5 = .ok (.ifCond .eq 13, 3) := by decide +kernel
theorem dX3_renew_8 : decode cX3_renew 8 = .ok (.iload_n 2, 1) := by decide +kernel
theorem dX3_renew_9 : decode cX3_renew 9 = .ok (.ifCond .lt 9, 3) := by decide +kernel
theorem dX3_renew_12 : decode cX3_renew 12 = .ok (.iload_n 2, 1) := by decide +kernel
theorem dX3_renew_13 : decode cX3_renew 13 = .ok (.bipush 70, 2) := by decide +kernel
theorem dX3_renew_15 : decode cX3_renew 15 = .ok (.if_icmp .le 4, 3) := by decide +kernel
theorem dX3_renew_18 : decode cX3_renew 18 = .ok (.return_, 1) := by decide +kernel
theorem dX3_renew_19 : decode cX3_renew 19 = .ok (.aload_n 0, 1) := by decide +kernel
theorem dX3_renew_20 : decode cX3_renew 20 = .ok (.getfield 16, 3) := by decide +kernel
theorem dX3_renew_23 : decode cX3_renew 23 = .ok (.iload_n 1, 1) := by decide +kernel
theorem dX3_renew_24 : decode cX3_renew 24 = .ok (.iload_n 2, 1) := by decide +kernel
theorem dX3_renew_25 : decode cX3_renew 25 = .ok (.iastore, 1) := by decide +kernel
theorem dX3_renew_26 : decode cX3_renew 26 = .ok (.iconst 0, 1) := by decide +kernel
theorem dX3_renew_27 : decode cX3_renew 27 = .ok (.istore_n 3, 1) := by decide +kernel
theorem dX3_renew_28 : decode cX3_renew 28 = .ok (.iload_n 3, 1) := by decide +kernel
theorem dX3_renew_29 : decode cX3_renew 29 = .ok (.iload_n 2, 1) := by decide +kernel
theorem dX3_renew_30 : decode cX3_renew 30 = .ok (.if_icmp .ge 18, 3) := by decide +kernel
theorem dX3_renew_33 : decode cX3_renew 33 = .ok (.aload_n 0, 1) := by decide +kernel
theorem dX3_renew_34 : decode cX3_renew 34 = .ok (.getfield 11, 3) := by decide +kernel
theorem dX3_renew_37 : decode cX3_renew 37 = .ok (.iload_n 1, 1) := by decide +kernel
theorem dX3_renew_38 : decode cX3_renew 38 = .ok (.aaload, 1) := by decide +kernel
theorem dX3_renew_39 : decode cX3_renew 39 = .ok (.iload_n 3, 1) := by decide +kernel
theorem dX3_renew_40 : decode cX3_renew 40 = .ok (.iconst 0, 1) := by decide +kernel
theorem dX3_renew_41 : decode cX3_renew 41 = .ok (.iastore, 1) := by decide +kernel
theorem dX3_renew_42 : decode cX3_renew 42 = .ok (.iinc 3 1, 3) := by decide +kernel
theorem dX3_renew_45 : decode cX3_renew 45 = .ok (.goto (-17), 3) := by decide +kernel
theorem dX3_renew_48 : decode cX3_renew 48 = .ok (.return_, 1) := by decide +kernel
theorem dX3_store_0 : decode cX3_store 0 = .ok (.aload_n 0, 1) := by decide +kernel
theorem dX3_store_1 : decode cX3_store 1 = .ok (.iload_n 1, 1) := by decide +kernel
theorem dX3_store_2 : decode cX3_store 2 = .ok (.iload_n 2, 1) := by decide +kernel
theorem dX3_store_3 : decode cX3_store 3 = .ok (.invokevirtual 24, 3) := by decide +kernel
theorem dX3_store_6 : decode cX3_store 6 = .ok (.ifCond .eq 12, 3) := by decide +kernel
theorem dX3_store_9 : decode cX3_store 9 = .ok (.aload_n 0, 1) := by decide +kernel
theorem dX3_store_10 : decode cX3_store 10 = .ok (.getfield 11, 3) := by decide +kernel
theorem dX3_store_13 : decode cX3_store 13 = .ok (.iload_n 1, 1) := by decide +kernel
theorem dX3_store_14 : decode cX3_store 14 = .ok (.aaload, 1) := by decide +kernel
theorem dX3_store_15 : decode cX3_store 15 = .ok (.iload_n 2, 1) := by decide +kernel
theorem dX3_store_16 : decode cX3_store 16 = .ok (.iload_n 3, 1) := by decide +kernel
theorem dX3_store_17 : decode cX3_store 17 = .ok (.iastore, 1) := by decide +kernel
theorem dX3_store_18 : decode cX3_store 18 = .ok (.return_, 1) := by decide +kernel
theorem dX3_at_0 : decode cX3_at 0 = .ok (.aload_n 0, 1) := by decide +kernel
theorem dX3_at_1 : decode cX3_at 1 = .ok (.iload_n 1, 1) := by decide +kernel
theorem dX3_at_2 : decode cX3_at 2 = .ok (.iload_n 2, 1) := by decide +kernel
theorem dX3_at_3 : decode cX3_at 3 = .ok (.invokevirtual 24, 3) := by decide +kernel
theorem dX3_at_6 : decode cX3_at 6 = .ok (.ifCond .eq 14, 3) := by decide +kernel
theorem dX3_at_9 : decode cX3_at 9 = .ok (.aload_n 0, 1) := by decide +kernel
theorem dX3_at_10 : decode cX3_at 10 = .ok (.getfield 11, 3) := by decide +kernel
theorem dX3_at_13 : decode cX3_at 13 = .ok (.iload_n 1, 1) := by decide +kernel
theorem dX3_at_14 : decode cX3_at 14 = .ok (.aaload, 1) := by decide +kernel
theorem dX3_at_15 : decode cX3_at 15 = .ok (.iload_n 2, 1) := by decide +kernel
theorem dX3_at_16 : decode cX3_at 16 = .ok (.iaload, 1) := by decide +kernel
theorem dX3_at_17 : decode cX3_at 17 = .ok (.goto 4, 3) := by decide +kernel
theorem dX3_at_20 : decode cX3_at 20 = .ok (.iconst 0, 1) := by decide +kernel
theorem dX3_at_21 : decode cX3_at 21 = .ok (.ireturn, 1) := by decide +kernel
theorem dX3_partsOf_0 : decode cX3_partsOf 0 = .ok (.aload_n 0, 1) := by decide +kernel
theorem dX3_partsOf_1 : decode cX3_partsOf 1 = .ok (.iload_n 1, 1) := by decide +kernel
theorem dX3_partsOf_2 : decode cX3_partsOf 2 = .ok (.invokevirtual 20, 3) := by decide +kernel
theorem dX3_partsOf_5 : decode cX3_partsOf 5 = .ok (.ifCond .eq 20, 3) := by decide +kernel
theorem dX3_partsOf_8 : decode cX3_partsOf 8 = .ok (.aload_n 0, 1) := by decide +kernel
theorem dX3_partsOf_9 : decode cX3_partsOf 9 = .ok (.getfield 16, 3) := by decide +kernel
theorem dX3_partsOf_12 : decode cX3_partsOf 12 = .ok (.iload_n 1, 1) := by decide +kernel
theorem dX3_partsOf_13 : decode cX3_partsOf 13 = .ok (.iaload, 1) := by decide +kernel
theorem dX3_partsOf_14 : decode cX3_partsOf 14 = .ok (.bipush 7, 2) := by decide +kernel
theorem dX3_partsOf_16 : decode cX3_partsOf 16 = .ok (.iadd, 1) := by decide +kernel
theorem dX3_partsOf_17 : decode cX3_partsOf 17 = .ok (.iconst 1, 1) := by decide +kernel
theorem dX3_partsOf_18 : decode cX3_partsOf 18 = .ok (.isub, 1) := by decide +kernel
theorem dX3_partsOf_19 : decode cX3_partsOf 19 = .ok (.bipush 7, 2) := by decide +kernel
theorem dX3_partsOf_21 : decode cX3_partsOf 21 = .ok (.idiv, 1) := by decide +kernel
theorem dX3_partsOf_22 : decode cX3_partsOf 22 = .ok (.goto 4, 3) := by decide +kernel
theorem dX3_partsOf_25 : decode cX3_partsOf 25 = .ok (.iconst 0, 1) := by decide +kernel
theorem dX3_partsOf_26 : decode cX3_partsOf 26 = .ok (.ireturn, 1) := by decide +kernel
theorem dX3_flaw_0 : decode cX3_flaw 0 = .ok (.aload_n 0, 1) := by decide +kernel
theorem dX3_flaw_1 : decode cX3_flaw 1 = .ok (.iload_n 1, 1) := by decide +kernel
theorem dX3_flaw_2 : decode cX3_flaw 2 = .ok (.invokevirtual 28, 3) := by decide +kernel
theorem dX3_flaw_5 : decode cX3_flaw 5 = .ok (.istore_n 2, 1) := by decide +kernel
theorem dX3_flaw_6 : decode cX3_flaw 6 = .ok (.iconst 0, 1) := by decide +kernel
theorem dX3_flaw_7 : decode cX3_flaw 7 = .ok (.istore_n 3, 1) := by decide +kernel
theorem dX3_flaw_8 : decode cX3_flaw 8 = .ok (.iload_n 3, 1) := by decide +kernel
theorem dX3_flaw_9 : decode cX3_flaw 9 = .ok (.iload_n 2, 1) := by decide +kernel
theorem dX3_flaw_10 : decode cX3_flaw 10 = .ok (.bipush 7, 2) := by decide +kernel
theorem dX3_flaw_12 : decode cX3_flaw 12 = .ok (.imul, 1) := by decide +kernel
theorem dX3_flaw_13 : decode cX3_flaw 13 = .ok (.if_icmp .ge 40, 3) := by decide +kernel
theorem dX3_flaw_16 : decode cX3_flaw 16 = .ok (.aload_n 0, 1) := by decide +kernel
theorem dX3_flaw_17 : decode cX3_flaw 17 = .ok (.iload_n 1, 1) := by decide +kernel
theorem dX3_flaw_18 : decode cX3_flaw 18 = .ok (.iload_n 3, 1) := by decide +kernel
theorem dX3_flaw_19 : decode cX3_flaw 19 = .ok (.invokevirtual 24, 3) := by decide +kernel
theorem dX3_flaw_22 : decode cX3_flaw 22 = .ok (.ifCond .eq 12, 3) := by decide +kernel
theorem dX3_flaw_25 : decode cX3_flaw 25 = .ok (.aload_n 0, 1) := by decide +kernel
theorem dX3_flaw_26 : decode cX3_flaw 26 = .ok (.iload_n 1, 1) := by decide +kernel
theorem dX3_flaw_27 : decode cX3_flaw 27 = .ok (.iload_n 3, 1) := by decide +kernel
theorem dX3_flaw_28 : decode cX3_flaw 28 = .ok (.invokevirtual 32, 3) := by decide +kernel
theorem dX3_flaw_31 : decode cX3_flaw 31 = .ok (.ifCond .ne 16, 3) := by decide +kernel
theorem dX3_flaw_34 : decode cX3_flaw 34 = .ok (.iload_n 3, 1) := by decide +kernel
theorem dX3_flaw_35 : decode cX3_flaw 35 = .ok (.bipush 7, 2) := by decide +kernel
theorem dX3_flaw_37 : decode cX3_flaw 37 = .ok (.idiv, 1) := by decide +kernel
theorem dX3_flaw_38 : decode cX3_flaw 38 = .ok (.bipush 10, 2) := by decide +kernel
theorem dX3_flaw_40 : decode cX3_flaw 40 = .ok (.imul, 1) := by decide +kernel
theorem dX3_flaw_41 : decode cX3_flaw 41 = .ok (.iload_n 3, 1) := by decide +kernel
theorem dX3_flaw_42 : decode cX3_flaw 42 = .ok (.bipush 7, 2) := by decide +kernel
theorem dX3_flaw_44 : decode cX3_flaw 44 = .ok (.irem, 1) := by decide +kernel
theorem dX3_flaw_45 : decode cX3_flaw 45 = .ok (.iadd, 1) := by decide +kernel
theorem dX3_flaw_46 : decode cX3_flaw 46 = .ok (.ireturn, 1) := by decide +kernel
theorem dX3_flaw_47 : decode cX3_flaw 47 = .ok (.iinc 3 1, 3) := by decide +kernel
theorem dX3_flaw_50 : decode cX3_flaw 50 = .ok (.goto (-42), 3) := by decide +kernel
theorem dX3_flaw_53 : decode cX3_flaw 53 = .ok (.iconst (-1), 1) := by decide +kernel
theorem dX3_flaw_54 : decode cX3_flaw 54 = .ok (.ireturn, 1) := by decide +kernel
theorem dX3_numberCanBe_0 : decode cX3_numberCanBe 0 = .ok (.iload_n 2, 1) := by decide +kernel
theorem dX3_numberCanBe_1 : decode cX3_numberCanBe 1 = .ok (.bipush 7, 2) := by decide +kernel
theorem dX3_numberCanBe_3 : decode cX3_numberCanBe 3 = .ok (.irem, 1) := by decide +kernel
theorem dX3_numberCanBe_4 : decode cX3_numberCanBe 4 = .ok (.istore_n 3, 1) := by decide +kernel
theorem dX3_numberCanBe_5 : decode cX3_numberCanBe 5 = .ok (.aload_n 0, 1) := by decide +kernel
theorem dX3_numberCanBe_6 : decode cX3_numberCanBe 6 = .ok (.iload_n 1, 1) := by decide +kernel
theorem dX3_numberCanBe_7 : decode cX3_numberCanBe 7 = .ok (.iload_n 2, 1) := by decide +kernel
theorem dX3_numberCanBe_8 : decode cX3_numberCanBe 8 = .ok (.invokevirtual 35, 3) := by decide +kernel
theorem dX3_numberCanBe_11 : decode cX3_numberCanBe 11 = .ok (.istore 4, 2) := by decide +kernel
theorem dX3_numberCanBe_13 : decode cX3_numberCanBe 13 = .ok (.iload_n 3, 1) := by decide +kernel
theorem dX3_numberCanBe_14 : decode cX3_numberCanBe 14 = .ok (.bipush 6, 2) := by decide +kernel
theorem dX3_numberCanBe_16 : decode cX3_numberCanBe 16 = .ok (.if_icmp .ne 11, 3) := by decide +kernel
theorem dX3_numberCanBe_19 : decode cX3_numberCanBe 19 = .ok (.iload 4, 2) := by decide +kernel
theorem dX3_numberCanBe_21 : decode cX3_numberCanBe 21 = .ok (.invokestatic 39, 3) := by decide +kernel
theorem dX3_numberCanBe_24 : decode cX3_numberCanBe 24 = .ok (.goto 17, 3) := by decide +kernel
theorem dX3_numberCanBe_27 : decode cX3_numberCanBe 27 = .ok (.iload 4, 2) := by decide +kernel
theorem dX3_numberCanBe_29 : decode cX3_numberCanBe 29 = .ok (.iload_n 3, 1) := by decide +kernel
theorem dX3_numberCanBe_30 : decode cX3_numberCanBe 30 = .ok (.aload_n 0, 1) := by decide +kernel
theorem dX3_numberCanBe_31 : decode cX3_numberCanBe 31 = .ok (.iload_n 1, 1) := by decide +kernel
theorem dX3_numberCanBe_32 : decode cX3_numberCanBe 32 = .ok (.iload_n 2, 1) := by decide +kernel
theorem dX3_numberCanBe_33 : decode cX3_numberCanBe 33 = .ok (.iconst 1, 1) := by decide +kernel
theorem dX3_numberCanBe_34 : decode cX3_numberCanBe 34 = .ok (.isub, 1) := by decide +kernel
theorem dX3_numberCanBe_35 : decode cX3_numberCanBe 35 = .ok (.invokevirtual 35, 3) := by decide +kernel
theorem dX3_numberCanBe_38 : decode cX3_numberCanBe 38 = .ok (.invokestatic 42, 3) := by decide +kernel
theorem dX3_numberCanBe_41 : decode cX3_numberCanBe 41 = .ok (.ireturn, 1) := by decide +kernel
theorem dX3_answer_0 : decode cX3_answer 0 = .ok (.aload_n 0, 1) := by decide +kernel
theorem dX3_answer_1 : decode cX3_answer 1 = .ok (.iload_n 1, 1) := by decide +kernel
theorem dX3_answer_2 : decode cX3_answer 2 = .ok (.invokevirtual 28, 3) := by decide +kernel
theorem dX3_answer_5 : decode cX3_answer 5 = .ok (.istore_n 3, 1) := by decide +kernel
theorem dX3_answer_6 : decode cX3_answer 6 = .ok (.iconst 0, 1) := by decide +kernel
theorem dX3_answer_7 : decode cX3_answer 7 = .ok (.istore 4, 2) := by decide +kernel
theorem dX3_answer_9 : decode cX3_answer 9 = .ok (.iload 4, 2) := by decide +kernel
theorem dX3_answer_11 : decode cX3_answer 11 = .ok (.iload_n 3, 1) := by decide +kernel
theorem dX3_answer_12 : decode cX3_answer 12 = .ok (.if_icmp .ge 37, 3) := by decide +kernel
theorem dX3_answer_15 : decode cX3_answer 15 = .ok (.aload_n 0, 1) := by decide +kernel
theorem dX3_answer_16 : decode cX3_answer 16 = .ok (.iload_n 1, 1) := by decide +kernel
theorem dX3_answer_17 : decode cX3_answer 17 = .ok (.bipush 7, 2) := by decide +kernel
theorem dX3_answer_19 : decode cX3_answer 19 = .ok (.iload 4, 2) := by decide +kernel
theorem dX3_answer_21 : decode cX3_answer 21 = .ok (.imul, 1) := by decide +kernel
theorem dX3_answer_22 : decode cX3_answer 22 = .ok (.iload_n 2, 1) := by decide +kernel
theorem dX3_answer_23 : decode cX3_answer 23 = .ok (.invokevirtual 46, 3) := by decide +kernel
theorem dX3_answer_26 : decode cX3_answer 26 = .ok (.ifCond .eq 17, 3) := by decide +kernel
theorem dX3_answer_29 : decode cX3_answer 29 = .ok (.aload_n 0, 1) := by decide +kernel
theorem dX3_answer_30 : decode cX3_answer 30 = .ok (.iload_n 1, 1) := by decide +kernel
theorem dX3_answer_31 : decode cX3_answer 31 = .ok (.bipush 7, 2) := by decide +kernel
theorem dX3_answer_33 : decode cX3_answer 33 = .ok (.iload 4, 2) := by decide +kernel
theorem dX3_answer_35 : decode cX3_answer 35 = .ok (.imul, 1) := by decide +kernel
theorem dX3_answer_36 : decode cX3_answer 36 = .ok (.bipush 6, 2) := by decide +kernel
theorem dX3_answer_38 : decode cX3_answer 38 = .ok (.iadd, 1) := by decide +kernel
theorem dX3_answer_39 : decode cX3_answer 39 = .ok (.invokevirtual 35, 3) := by decide +kernel
theorem dX3_answer_42 : decode cX3_answer 42 = .ok (.ireturn, 1) := by decide +kernel
theorem dX3_answer_43 : decode cX3_answer 43 = .ok (.iinc 4 1, 3) := by decide +kernel
theorem dX3_answer_46 : decode cX3_answer 46 = .ok (.goto (-37), 3) := by decide +kernel
theorem dX3_answer_49 : decode cX3_answer 49 = .ok (.bipush (-5), 2) := by decide +kernel
theorem dX3_answer_51 : decode cX3_answer 51 = .ok (.ireturn, 1) := by decide +kernel
theorem dX3_isInPart_0 : decode cX3_isInPart 0 = .ok (.aload_n 0, 1) := by decide +kernel
theorem dX3_isInPart_1 : decode cX3_isInPart 1 = .ok (.iload_n 3, 1) := by decide +kernel
theorem dX3_isInPart_2 : decode cX3_isInPart 2 = .ok (.invokestatic 49, 3) := by decide +kernel
theorem dX3_isInPart_5 : decode cX3_isInPart 5 = .ok (.iload_n 1, 1) := by decide +kernel
theorem dX3_isInPart_6 : decode cX3_isInPart 6 = .ok (.iload_n 2, 1) := by decide +kernel
theorem dX3_isInPart_7 : decode cX3_isInPart 7 = .ok (.invokevirtual 52, 3) := by decide +kernel
theorem dX3_isInPart_10 : decode cX3_isInPart 10 = .ok (.ifCond .eq 37, 3) := by decide +kernel
theorem dX3_isInPart_13 : decode cX3_isInPart 13 = .ok (.aload_n 0, 1) := by decide +kernel
theorem dX3_isInPart_14 : decode cX3_isInPart 14 = .ok (.iload_n 3, 1) := by decide +kernel
theorem dX3_isInPart_15 : decode cX3_isInPart 15 = .ok (.invokestatic 55, 3) := by decide +kernel
theorem dX3_isInPart_18 : decode cX3_isInPart 18 = .ok (.iload_n 1, 1) := by decide +kernel
theorem dX3_isInPart_19 : decode cX3_isInPart 19 = .ok (.iload_n 2, 1) := by decide +kernel
theorem dX3_isInPart_20 : decode cX3_isInPart 20 = .ok (.iconst 2, 1) := by decide +kernel
theorem dX3_isInPart_21 : decode cX3_isInPart 21 = .ok (.iadd, 1) := by decide +kernel
theorem dX3_isInPart_22 : decode cX3_isInPart 22 = .ok (.invokevirtual 52, 3) := by decide +kernel
theorem dX3_isInPart_25 : decode cX3_isInPart 25 = .ok (.ifCond .eq 22, 3) := by decide +kernel
theorem dX3_isInPart_28 : decode cX3_isInPart 28 = .ok (.aload_n 0, 1) := by decide +kernel
theorem dX3_isInPart_29 : decode cX3_isInPart 29 = .ok (.iload_n 3, 1) := by decide +kernel
theorem dX3_isInPart_30 : decode cX3_isInPart 30 = .ok (.invokestatic 58, 3) := by decide +kernel
theorem dX3_isInPart_33 : decode cX3_isInPart 33 = .ok (.iload_n 1, 1) := by decide +kernel
theorem dX3_isInPart_34 : decode cX3_isInPart 34 = .ok (.iload_n 2, 1) := by decide +kernel
theorem dX3_isInPart_35 : decode cX3_isInPart 35 = .ok (.iconst 4, 1) := by decide +kernel
theorem dX3_isInPart_36 : decode cX3_isInPart 36 = .ok (.iadd, 1) := by decide +kernel
theorem dX3_isInPart_37 : decode cX3_isInPart 37 = .ok (.invokevirtual 52, 3) := by decide +kernel
theorem dX3_isInPart_40 : decode cX3_isInPart 40 = .ok (.ifCond .eq 7, 3) := by decide +kernel
theorem dX3_isInPart_43 : decode cX3_isInPart 43 = .ok (.iconst 1, 1) := by decide +kernel
theorem dX3_isInPart_44 : decode cX3_isInPart 44 = .ok (.goto 4, 3) := by decide +kernel
theorem dX3_isInPart_47 : decode cX3_isInPart 47 = .ok (.iconst 0, 1) := by decide +kernel
theorem dX3_isInPart_48 : decode cX3_isInPart 48 = .ok (.ireturn, 1) := by decide +kernel
theorem dX3_isWithin_0 : decode cX3_isWithin 0 = .ok (.iload_n 1, 1) := by decide +kernel
theorem dX3_isWithin_1 : decode cX3_isWithin 1 = .ok (.aload_n 0, 1) := by decide +kernel
theorem dX3_isWithin_2 : decode cX3_isWithin 2 = .ok (.iload_n 2, 1) := by decide +kernel
theorem dX3_isWithin_3 : decode cX3_isWithin 3 = .ok (.iload_n 3, 1) := by decide +kernel
theorem dX3_isWithin_4 : decode cX3_isWithin 4 = .ok (.invokevirtual 35, 3) := by decide +kernel
theorem dX3_isWithin_7 : decode cX3_isWithin 7 = .ok (.if_icmp .lt 19, 3) := by decide +kernel
theorem dX3_isWithin_10 : decode cX3_isWithin 10 = .ok (.iload_n 1, 1) := by decide +kernel
theorem dX3_isWithin_11 : decode cX3_isWithin 11 = .ok (.aload_n 0, 1) := by decide +kernel
theorem dX3_isWithin_12 : decode cX3_isWithin 12 = .ok (.iload_n 2, 1) := by decide +kernel
theorem dX3_isWithin_13 : decode cX3_isWithin 13 = .ok (.iload_n 3, 1) := by decide +kernel
theorem dX3_isWithin_14 : decode cX3_isWithin 14 = .ok (.iconst 1, 1) := by decide +kernel
theorem dX3_isWithin_15 : decode cX3_isWithin 15 = .ok (.iadd, 1) := by decide +kernel
theorem dX3_isWithin_16 : decode cX3_isWithin 16 = .ok (.invokevirtual 35, 3) := by decide +kernel
theorem dX3_isWithin_19 : decode cX3_isWithin 19 = .ok (.if_icmp .gt 7, 3) := by decide +kernel
theorem dX3_isWithin_22 : decode cX3_isWithin 22 = .ok (.iconst 1, 1) := by decide +kernel
theorem dX3_isWithin_23 : decode cX3_isWithin 23 = .ok (.goto 4, 3) := by decide +kernel
theorem dX3_isWithin_26 : decode cX3_isWithin 26 = .ok (.iconst 0, 1) := by decide +kernel
theorem dX3_isWithin_27 : decode cX3_isWithin 27 = .ok (.ireturn, 1) := by decide +kernel
theorem dX4_init_0 : decode cX4_init 0 = .ok (.aload_n 0, 1) := by decide +kernel
theorem dX4_init_1 : decode cX4_init 1 = .ok (.invokespecial 3, 3) := by decide +kernel
theorem dX4_init_4 : decode cX4_init 4 = .ok (.aload_n 0, 1) := by decide +kernel
theorem dX4_init_5 : decode cX4_init 5 = .ok (.bipush 60, 2) := by decide +kernel
theorem dX4_init_7 : decode cX4_init 7 = .ok (.newarray .int, 2) := by decide +kernel
theorem dX4_init_9 : decode cX4_init 9 = .ok (.putfield 9, 3) := by decide +kernel
theorem dX4_init_12 : decode cX4_init 12 = .ok (.aload_n 0, 1) := by decide +kernel
theorem dX4_init_13 : decode cX4_init 13 = .ok (.iconst 0, 1) := by decide +kernel
theorem dX4_init_14 : decode cX4_init 14 = .ok (.putfield 15, 3) := by decide +kernel
theorem dX4_init_17 : decode cX4_init 17 = .ok (.aload_n 0, 1) := by decide +kernel
theorem dX4_init_18 : decode cX4_init 18 = .ok (.bipush 7, 2) := by decide +kernel
theorem dX4_init_20 : decode cX4_init 20 = .ok (.newarray .int, 2) := by decide +kernel
theorem dX4_init_22 : decode cX4_init 22 = .ok (.putfield 19, 3) := by decide +kernel
theorem dX4_init_25 : decode cX4_init 25 = .ok (.aload_n 0, 1) := by decide +kernel
theorem dX4_init_26 : decode cX4_init 26 = .ok (.iconst 0, 1) := by decide +kernel
theorem dX4_init_27 : decode cX4_init 27 = .ok (.putfield 22, 3) := by decide +kernel
theorem dX4_init_30 : decode cX4_init 30 = .ok (.aload_n 0, 1) := by decide +kernel
theorem dX4_init_31 : decode cX4_init 31 = .ok (.iconst 0, 1) := by decide +kernel
theorem dX4_init_32 : decode cX4_init 32 = .ok (.putfield 25, 3) := by decide +kernel
theorem dX4_init_35 : decode cX4_init 35 = .ok (.aload_n 0, 1) := by decide +kernel
theorem dX4_init_36 : decode cX4_init 36 = .ok (.iconst 0, 1) := by decide +kernel
theorem dX4_init_37 : decode cX4_init 37 = .ok (.putfield 28, 3) := by decide +kernel
theorem dX4_init_40 : decode cX4_init 40 = .ok (.aload_n 0, 1) := by decide +kernel
theorem dX4_init_41 : decode cX4_init 41 = .ok (.iconst (-1), 1) := by decide +kernel
theorem dX4_init_42 : decode cX4_init 42 = .ok (.putfield 31, 3) := by decide +kernel
theorem dX4_init_45 : decode cX4_init 45 = .ok (.aload_n 0, 1) := by decide +kernel
theorem dX4_init_46 : decode cX4_init 46 = .ok (.iconst 0, 1) := by decide +kernel
theorem dX4_init_47 : decode cX4_init 47 = .ok (.putfield 34, 3) := by decide +kernel
theorem dX4_init_50 : decode cX4_init 50 = .ok (.aload_n 0, 1) := by decide +kernel
theorem dX4_init_51 : decode cX4_init 51 = .ok (.bipush 7, 2) := by decide +kernel
theorem dX4_init_53 : decode cX4_init 53 = .ok (.newarray .int, 2) := by decide +kernel
theorem dX4_init_55 : decode cX4_init 55 = .ok (.putfield 38, 3) := by decide +kernel
theorem dX4_init_58 : decode cX4_init 58 = .ok (.aload_n 0, 1) := by decide +kernel
theorem dX4_init_59 : decode cX4_init 59 = .ok (.iconst 0, 1) := by decide +kernel
theorem dX4_init_60 : decode cX4_init 60 = .ok (.putfield 41, 3) := by decide +kernel
theorem dX4_init_63 : decode cX4_init 63 = .ok (.aload_n 0, 1) := by decide +kernel
theorem dX4_init_64 : decode cX4_init 64 = .ok (.aload_n 1, 1) := by decide +kernel
theorem dX4_init_65 : decode cX4_init 65 = .ok (.putfield 44, 3) := by decide +kernel
theorem dX4_init_68 : decode cX4_init 68 = .ok (.return_, 1) := by decide +kernel
theorem dX4_append_0 : decode cX4_append 0 = .ok (.aload_n 0, 1) := by decide +kernel
theorem dX4_append_1 : decode cX4_append 1 = .ok (.getfield 15, 3) := by decide +kernel
theorem dX4_append_4 : decode cX4_append 4 = .ok (.bipush 60, 2) := by decide +kernel
theorem dX4_append_6 : decode cX4_append 6 = .ok (.if_icmp .lt 6, 3) := by decide +kernel
theorem dX4_append_9 : decode cX4_append 9 = .ok (.bipush (-4), 2) := by decide +kernel
theorem dX4_append_11 : decode cX4_append 11 = .ok (.ireturn, 1) := by decide +kernel
theorem dX4_append_12 : decode cX4_append 12 = .ok (.aload_n 0, 1) := by decide +kernel
theorem dX4_append_13 : decode cX4_append 13 = .ok (.getfield 9, 3) := by decide +kernel
theorem dX4_append_16 : decode cX4_append 16 = .ok (.aload_n 0, 1) := by decide +kernel
theorem dX4_append_17 : decode cX4_append 17 = .ok (.getfield 15, 3) := by decide +kernel
theorem dX4_append_20 : decode cX4_append 20 = .ok (.iload_n 1, 1) := by decide +kernel
theorem dX4_append_21 : decode cX4_append 21 = .ok (.iastore, 1) := by decide +kernel
theorem dX4_append_22 : decode cX4_append 22 = .ok (.aload_n 0, 1) := by decide +kernel
theorem dX4_append_23 : decode cX4_append 23 = .ok (.dup, 1) := by decide +kernel
theorem dX4_append_24 : decode cX4_append 24 = .ok (.getfield 15, 3) := by decide +kernel
theorem dX4_append_27 : decode cX4_append 27 = .ok (.iconst 1, 1) := by decide +kernel
theorem dX4_append_28 : decode cX4_append 28 = .ok (.iadd, 1) := by decide +kernel
theorem dX4_append_29 : decode cX4_append 29 = .ok (.putfield 15, 3) := by decide +kernel
theorem dX4_append_32 : decode cX4_append 32 = .ok (.aload_n 0, 1) := by decide +kernel
theorem dX4_append_33 : decode cX4_append 33 = .ok (.getfield 15, 3) := by decide +kernel
theorem dX4_append_36 : decode cX4_append 36 = .ok (.ireturn, 1) := by decide +kernel
theorem dX4_wipe_0 : decode cX4_wipe 0 = .ok (.aload_n 0, 1) := by decide +kernel
theorem dX4_wipe_1 : decode cX4_wipe 1 = .ok (.getfield 15, 3) := by decide +kernel
theorem dX4_wipe_4 : decode cX4_wipe 4 = .ok (.istore_n 1, 1) := by decide +kernel
theorem dX4_wipe_5 : decode cX4_wipe 5 = .ok (.aload_n 0, 1) := by decide +kernel
theorem dX4_wipe_6 : decode cX4_wipe 6 = .ok (.iconst 0, 1) := by decide +kernel
theorem dX4_wipe_7 : decode cX4_wipe 7 = .ok (.putfield 15, 3) := by decide +kernel
theorem dX4_wipe_10 : decode cX4_wipe 10 = .ok (.iload_n 1, 1) := by decide +kernel
theorem dX4_wipe_11 : decode cX4_wipe 11 = .ok (.ireturn, 1) := by decide +kernel
theorem dX4_readAll_0 : decode cX4_readAll 0 = .ok (.aload_n 0, 1) := by decide +kernel
theorem dX4_readAll_1 : decode cX4_readAll 1 = .ok (.iconst 0, 1) := by decide +kernel
theorem dX4_readAll_2 : decode cX4_readAll 2 = .ok (.putfield 25, 3) := by decide +kernel
theorem dX4_readAll_5 : decode cX4_readAll 5 = .ok (.aload_n 0, 1) := by decide +kernel
theorem dX4_readAll_6 : decode cX4_readAll 6 = .ok (.aload_n 0, 1) := by decide +kernel
theorem dX4_readAll_7 : decode cX4_readAll 7 = .ok (.getfield 44, 3) := by decide +kernel
theorem dX4_readAll_10 : decode cX4_readAll 10 = .ok (.getfield 48, 3) := by decide +kernel
theorem dX4_readAll_13 : decode cX4_readAll 13 = .ok (.putfield 28, 3) := by decide +kernel
theorem dX4_readAll_16 : decode cX4_readAll 16 = .ok (.aload_n 0, 1) := by decide +kernel
theorem dX4_readAll_17 : decode cX4_readAll 17 = .ok (.iconst (-1), 1) := by decide +kernel
theorem dX4_readAll_18 : decode cX4_readAll 18 = .ok (.putfield 31, 3) := by decide +kernel
theorem dX4_readAll_21 : decode cX4_readAll 21 = .ok (.aload_n 0, 1) := by decide +kernel
theorem dX4_readAll_22 : decode cX4_readAll 22 = .ok (.iconst 0, 1) := by decide +kernel
theorem dX4_readAll_23 : decode cX4_readAll 23 = .ok (.putfield 34, 3) := by decide +kernel
theorem dX4_readAll_26 : decode cX4_readAll 26 = .ok (.aload_n 0, 1) := by decide +kernel
theorem dX4_readAll_27 : decode cX4_readAll 27 = .ok (.iconst 0, 1) := by decide +kernel
theorem dX4_readAll_28 : decode cX4_readAll 28 = .ok (.putfield 41, 3) := by decide +kernel
theorem dX4_readAll_31 : decode cX4_readAll 31 = .ok (.aload_n 0, 1) := by decide +kernel
theorem dX4_readAll_32 : decode cX4_readAll 32 = .ok (.iconst 0, 1) := by decide +kernel
theorem dX4_readAll_33 : decode cX4_readAll 33 = .ok (.invokevirtual 53, 3) := by decide +kernel
theorem dX4_readAll_36 : decode cX4_readAll 36 = .ok (.istore_n 1, 1) := by decide +kernel
theorem dX4_readAll_37 : decode cX4_readAll 37 = .ok (.aload_n 0, 1) := by decide +kernel
theorem dX4_readAll_38 : decode cX4_readAll 38 = .ok (.getfield 31, 3) := by decide +kernel
theorem dX4_readAll_41 : decode cX4_readAll 41 = .ok (.iconst (-1), 1) := by decide +kernel
theorem dX4_readAll_42 : decode cX4_readAll 42 = .ok (.if_icmp .ne 22, 3) := by decide +kernel
theorem dX4_readAll_45 : decode cX4_readAll 45 = .ok (.aload_n 0, 1) := by decide +kernel
theorem dX4_readAll_46 : decode cX4_readAll 46 = .ok (.getfield 25, 3) := by decide +kernel
theorem dX4_readAll_49 : decode cX4_readAll 49 = .ok (.aload_n 0, 1) := by decide +kernel
theorem dX4_readAll_50 : decode cX4_readAll 50 = .ok (.getfield 15, 3) := by decide +kernel
theorem dX4_readAll_53 : decode cX4_readAll 53 = .ok (.if_icmp .ge 11, 3) := by decide +kernel
theorem dX4_readAll_56 : decode cX4_readAll 56 = .ok (.aload_n 0, 1) := by decide +kernel
theorem dX4_readAll_57 : decode cX4_readAll 57 = .ok (.aload_n 0, 1) := by decide +kernel
theorem dX4_readAll_58 : decode cX4_readAll 58 = .ok (.getfield 25, 3) := by decide +kernel
theorem dX4_readAll_61 : decode cX4_readAll 61 = .ok (.invokevirtual 57, 3) := by decide +kernel
theorem dX4_readAll_64 : decode cX4_readAll 64 = .ok (.aload_n 0, 1) := by decide +kernel
theorem dX4_readAll_65 : decode cX4_readAll 65 = .ok (.iconst 0, 1) := by decide +kernel
theorem dX4_readAll_66 : decode cX4_readAll 66 = .ok (.putfield 15, 3) := by decide +kernel
theorem dX4_readAll_69 : decode cX4_readAll 69 = .ok (.aload_n 0, 1) := by decide +kernel
theorem dX4_readAll_70 : decode cX4_readAll 70 = .ok (.getfield 31, 3) := by decide +kernel
theorem dX4_readAll_73 : decode cX4_readAll 73 = .ok (.iconst (-1), 1) := by decide +kernel
theorem dX4_readAll_74 : decode cX4_readAll 74 = .ok (.if_icmp .ne 12, 3) := by decide +kernel
theorem dX4_readAll_77 : decode cX4_readAll 77 = .ok (.aload_n 0, 1) := by decide +kernel
theorem dX4_readAll_78 : decode cX4_readAll 78 = .ok (.getfield 34, 3) := by decide +kernel
theorem dX4_readAll_81 : decode cX4_readAll 81 = .ok (.ifCond .ne 5, 3) := by decide +kernel
theorem dX4_readAll_84 : decode cX4_readAll 84 = .ok (.iload_n 1, 1) := by decide +kernel
theorem dX4_readAll_85 : decode cX4_readAll 85 = .ok (.ireturn, 1) := by decide +kernel
theorem dX4_readAll_86 : decode cX4_readAll 86 = .ok (.aload_n 0, 1) := by decide +kernel
theorem dX4_readAll_87 : decode cX4_readAll 87 = .ok (.getfield 44, 3) := by decide +kernel
theorem dX4_readAll_90 : decode cX4_readAll 90 = .ok (.aload_n 0, 1) := by decide +kernel
theorem dX4_readAll_91 : decode cX4_readAll 91 = .ok (.getfield 28, 3) := by decide +kernel
theorem dX4_readAll_94 : decode cX4_readAll 94 = .ok (.invokevirtual 61, 3) := by decide +kernel
theorem dX4_readAll_97 : decode cX4_readAll 97 = .ok (.aload_n 0, 1) := by decide +kernel
theorem dX4_readAll_98 : decode cX4_readAll 98 = .ok (.getfield 31, 3) := by decide +kernel
theorem dX4_readAll_101 : decode cX4_readAll 101 = .ok (.iconst (-1), 1) := by decide +kernel
theorem dX4_readAll_102 : decode cX4_readAll 102 = .ok (.if_icmp .ne 8, 3) := by decide +kernel
theorem dX4_readAll_105 : decode cX4_readAll 105 = .ok (.bipush (-4), 2) := by decide +kernel
theorem dX4_readAll_107 : decode cX4_readAll 107 = .ok (.goto 10, 3) := by decide +kernel
theorem dX4_readAll_110 : decode cX4_readAll 110 = .ok (.bipush (-100), 2) := by decide +kernel
theorem dX4_readAll_112 : decode cX4_readAll 112 = .ok (.aload_n 0, 1) := by decide +kernel
theorem dX4_readAll_113 : decode cX4_readAll 113 = .ok (.getfield 31, 3) := by decide +kernel
theorem dX4_readAll_116 : decode cX4_readAll 116 = .ok (.isub, 1) := by decide +kernel
theorem dX4_readAll_117 : decode cX4_readAll 117 = .ok (.ireturn, 1) := by decide +kernel
theorem dX4_here_0 : decode cX4_here 0 = .ok (.aload_n 0, 1) := by decide +kernel
theorem dX4_here_1 : decode cX4_here 1 = .ok (.getfield 25, 3) := by decide +kernel
theorem dX4_here_4 : decode cX4_here 4 = .ok (.ifCond .lt 26, 3) := by decide +kernel
theorem dX4_here_7 : decode cX4_here 7 = .ok (.aload_n 0, 1) := by decide +kernel
theorem dX4_here_8 : decode cX4_here 8 = .ok (.getfield 25, 3) := by decide +kernel
theorem dX4_here_11 : decode cX4_here 11 = .ok (.aload_n 0, 1) := by decide +kernel
theorem dX4_here_12 : decode cX4_here 12 = .ok (.getfield 15, 3) := by decide +kernel
theorem dX4_here_15 : decode cX4_here 15 = .ok (.if_icmp .ge 15, 3) := by decide +kernel
theorem dX4_here_18 : decode cX4_here 18 = .ok (.aload_n 0, 1) := by decide +kernel
theorem dX4_here_19 : decode cX4_here 19 = .ok (.getfield 9, 3) := by decide +kernel
theorem dX4_here_22 : decode cX4_here 22 = .ok (.aload_n 0, 1) := by decide +kernel
theorem dX4_here_23 : decode cX4_here 23 = .ok (.getfield 25, 3) := by decide +kernel
theorem dX4_here_26 : decode cX4_here 26 = .ok (.iaload, 1) := by decide +kernel
theorem dX4_here_27 : decode cX4_here 27 = .ok (.goto 4, 3) := by decide +kernel
theorem dX4_here_30 : decode cX4_here 30 = .ok (.iconst 0, 1) := by decide +kernel
theorem dX4_here_31 : decode cX4_here 31 = .ok (.ireturn, 1) := by decide +kernel
theorem dX4_isFigure_0 : decode cX4_isFigure 0 = .ok (.iload_n 1, 1) := by decide +kernel
theorem dX4_isFigure_1 : decode cX4_isFigure 1 = .ok (.bipush 48, 2) := by decide +kernel
theorem dX4_isFigure_3 : decode cX4_isFigure 3 = .ok (.if_icmp .lt 13, 3) := by decide +kernel
theorem dX4_isFigure_6 : decode cX4_isFigure 6 = .ok (.iload_n 1, 1) := by decide +kernel
theorem dX4_isFigure_7 : decode cX4_isFigure 7 = .ok (.bipush 57, 2) := by decide +kernel
theorem dX4_isFigure_9 : decode cX4_isFigure 9 = .ok (.if_icmp .gt 7, 3) := by decide +kernel
theorem dX4_isFigure_12 : decode cX4_isFigure 12 = .ok (.iconst 1, 1) := by decide +kernel
theorem dX4_isFigure_13 : decode cX4_isFigure 13 = .ok (.goto 4, 3) := by decide +kernel
theorem dX4_isFigure_16 : decode cX4_isFigure 16 = .ok (.iconst 0, 1) := by decide +kernel
theorem dX4_isFigure_17 : decode cX4_isFigure 17 = .ok (.ireturn, 1) := by decide +kernel
theorem dX4_fail_0 : decode cX4_fail 0 = .ok (.aload_n 0, 1) := by decide +kernel
theorem dX4_fail_1 : decode cX4_fail 1 = .ok (.getfield 31, 3) := by decide +kernel
theorem dX4_fail_4 : decode cX4_fail 4 = .ok (.iconst (-1), 1) := by decide +kernel
theorem dX4_fail_5 : decode cX4_fail 5 = .ok (.if_icmp .eq 4, 3) := by decide +kernel
theorem dX4_fail_8 : decode cX4_fail 8 = .ok (.return_, 1) := by decide +kernel
theorem dX4_fail_9 : decode cX4_fail 9 = .ok (.aload_n 0, 1) := by decide +kernel
theorem dX4_fail_10 : decode cX4_fail 10 = .ok (.iload_n 1, 1) := by decide +kernel
theorem dX4_fail_11 : decode cX4_fail 11 = .ok (.putfield 31, 3) := by decide +kernel
theorem dX4_fail_14 : decode cX4_fail 14 = .ok (.aload_n 0, 1) := by decide +kernel
theorem dX4_fail_15 : decode cX4_fail 15 = .ok (.iconst 0, 1) := by decide +kernel
theorem dX4_fail_16 : decode cX4_fail 16 = .ok (.putfield 22, 3) := by decide +kernel
theorem dX4_fail_19 : decode cX4_fail 19 = .ok (.aload_n 0, 1) := by decide +kernel
theorem dX4_fail_20 : decode cX4_fail 20 = .ok (.getfield 41, 3) := by decide +kernel
theorem dX4_fail_23 : decode cX4_fail 23 = .ok (.iconst 1, 1) := by decide +kernel
theorem dX4_fail_24 : decode cX4_fail 24 = .ok (.isub, 1) := by decide +kernel
theorem dX4_fail_25 : decode cX4_fail 25 = .ok (.istore_n 2, 1) := by decide +kernel
theorem dX4_fail_26 : decode cX4_fail 26 = .ok (.iload_n 2, 1) := by decide +kernel
theorem dX4_fail_27 : decode cX4_fail 27 = .ok (.ifCond .lt 34, 3) := by decide +kernel
theorem dX4_fail_30 : decode cX4_fail 30 = .ok (.aload_n 0, 1) := by decide +kernel
theorem dX4_fail_31 : decode cX4_fail 31 = .ok (.getfield 19, 3) := by decide +kernel
theorem dX4_fail_34 : decode cX4_fail 34 = .ok (.aload_n 0, 1) := by decide +kernel
theorem dX4_fail_35 : decode cX4_fail 35 = .ok (.getfield 22, 3) := by decide +kernel
theorem dX4_fail_38 : decode cX4_fail 38 = .ok (.aload_n 0, 1) := by decide +kernel
theorem dX4_fail_39 : decode cX4_fail 39 = .ok (.getfield 38, 3) := by decide +kernel
theorem dX4_fail_42 : decode cX4_fail 42 = .ok (.iload_n 2, 1) := by decide +kernel
theorem dX4_fail_43 : decode cX4_fail 43 = .ok (.iaload, 1) := by decide +kernel
theorem dX4_fail_44 : decode cX4_fail 44 = .ok (.iastore, 1) := by decide +kernel
theorem dX4_fail_45 : decode cX4_fail 45 = .ok (.aload_n 0, 1) := by decide +kernel
theorem dX4_fail_46 : decode cX4_fail 46 = .ok (.dup, 1) := by decide +kernel
theorem dX4_fail_47 : decode cX4_fail 47 = .ok (.getfield 22, 3) := by decide +kernel
theorem dX4_fail_50 : decode cX4_fail 50 = .ok (.iconst 1, 1) := by decide +kernel
theorem dX4_fail_51 : decode cX4_fail 51 = .ok (.iadd, 1) := by decide +kernel
theorem dX4_fail_52 : decode cX4_fail 52 = .ok (.putfield 22, 3) := by decide +kernel
theorem dX4_fail_55 : decode cX4_fail 55 = .ok (.iinc 2 (-1), 3) := by decide +kernel
theorem dX4_fail_58 : decode cX4_fail 58 = .ok (.goto (-32), 3) := by decide +kernel
theorem dX4_fail_61 : decode cX4_fail 61 = .ok (.return_, 1) := by decide +kernel
theorem dX4_goOver_0 : decode cX4_goOver 0 = .ok (.aload_n 0, 1) := by decide +kernel
theorem dX4_goOver_1 : decode cX4_goOver 1 = .ok (.getfield 31, 3) := by decide +kernel
theorem dX4_goOver_4 : decode cX4_goOver 4 = .ok (.iconst (-1), 1) := by decide +kernel
theorem dX4_goOver_5 : decode cX4_goOver 5 = .ok (.if_icmp .ne 19, 3) := by decide +kernel
theorem dX4_goOver_8 : decode cX4_goOver 8 = .ok (.aload_n 0, 1) := by decide +kernel
theorem dX4_goOver_9 : decode cX4_goOver 9 = .ok (.invokevirtual 64, 3) := by decide +kernel
theorem dX4_goOver_12 : decode cX4_goOver 12 = .ok (.iload_n 1, 1) := by decide +kernel
theorem dX4_goOver_13 : decode cX4_goOver 13 = .ok (.if_icmp .eq 11, 3) := by decide +kernel
theorem dX4_goOver_16 : decode cX4_goOver 16 = .ok (.aload_n 0, 1) := by decide +kernel
theorem dX4_goOver_17 : decode cX4_goOver 17 = .ok (.aload_n 0, 1) := by decide +kernel
theorem dX4_goOver_18 : decode cX4_goOver 18 = .ok (.getfield 25, 3) := by decide +kernel
theorem dX4_goOver_21 : decode cX4_goOver 21 = .ok (.invokevirtual 57, 3) := by decide +kernel
theorem dX4_goOver_24 : decode cX4_goOver 24 = .ok (.aload_n 0, 1) := by decide +kernel
theorem dX4_goOver_25 : decode cX4_goOver 25 = .ok (.getfield 31, 3) := by decide +kernel
theorem dX4_goOver_28 : decode cX4_goOver 28 = .ok (.iconst (-1), 1) := by decide +kernel
theorem dX4_goOver_29 : decode cX4_goOver 29 = .ok (.if_icmp .eq 5, 3) := by decide +kernel
theorem dX4_goOver_32 : decode cX4_goOver 32 = .ok (.iconst 0, 1) := by decide +kernel
theorem dX4_goOver_33 : decode cX4_goOver 33 = .ok (.ireturn, 1) := by decide +kernel
theorem dX4_goOver_34 : decode cX4_goOver 34 = .ok (.aload_n 0, 1) := by decide +kernel
theorem dX4_goOver_35 : decode cX4_goOver 35 = .ok (.dup, 1) := by decide +kernel
theorem dX4_goOver_36 : decode cX4_goOver 36 = .ok (.getfield 25, 3) := by decide +kernel
theorem dX4_goOver_39 : decode cX4_goOver 39 = .ok (.iconst 1, 1) := by decide +kernel
theorem dX4_goOver_40 : decode cX4_goOver 40 = .ok (.iadd, 1) := by decide +kernel
theorem dX4_goOver_41 : decode cX4_goOver 41 = .ok (.putfield 25, 3) := by decide +kernel
theorem dX4_goOver_44 : decode cX4_goOver 44 = .ok (.iconst 1, 1) := by decide +kernel
theorem dX4_goOver_45 : decode cX4_goOver 45 = .ok (.ireturn, 1) := by decide +kernel
theorem dX4_readTerm_0 : decode cX4_readTerm 0 = .ok (.aload_n 0, 1) := by decide +kernel
theorem dX4_readTerm_1 : decode cX4_readTerm 1 = .ok (.invokevirtual 64, 3) := by decide +kernel
theorem dX4_readTerm_4 : decode cX4_readTerm 4 = .ok (.istore_n 2, 1) := by decide +kernel
theorem dX4_readTerm_5 : decode cX4_readTerm 5 = .ok (.aload_n 0, 1) := by decide +kernel
theorem dX4_readTerm_6 : decode cX4_readTerm 6 = .ok (.iload_n 2, 1) := by decide +kernel
theorem dX4_readTerm_7 : decode cX4_readTerm 7 = .ok (.invokevirtual 68, 3) := by decide +kernel
theorem dX4_readTerm_10 : decode cX4_readTerm 10 = .ok (.ifCond .eq 19, 3) := by decide +kernel
theorem dX4_readTerm_13 : decode cX4_readTerm 13 = .ok (.aload_n 0, 1) := by decide +kernel
theorem dX4_readTerm_14 : decode cX4_readTerm 14 = .ok (.iconst 0, 1) := by decide +kernel
theorem dX4_readTerm_15 : decode cX4_readTerm 15 = .ok (.aload_n 0, 1) := by decide +kernel
theorem dX4_readTerm_16 : decode cX4_readTerm 16 = .ok (.invokevirtual 72, 3) := by decide +kernel
theorem dX4_readTerm_19 : decode cX4_readTerm 19 = .ok (.bipush (-5), 2) := by decide +kernel
theorem dX4_readTerm_21 : decode cX4_readTerm 21 = .ok (.bipush (-5), 2) := by decide +kernel
theorem dX4_readTerm_23 : decode cX4_readTerm 23 = .ok (.bipush (-5), 2) := by decide +kernel
theorem dX4_readTerm_25 : decode cX4_readTerm 25 = .ok (.invokevirtual 75, 3) := by decide +kernel
theorem dX4_readTerm_28 : decode cX4_readTerm 28 = .ok (.ireturn, 1) := by decide +kernel
theorem dX4_readTerm_29 : decode cX4_readTerm 29 = .ok (.iload_n 2, 1) := by decide +kernel
theorem dX4_readTerm_30 : decode cX4_readTerm 30 = .ok (.bipush 45, 2) := by decide +kernel
theorem dX4_readTerm_32 : decode cX4_readTerm 32 = .ok (.if_icmp .ne 27, 3) := by decide +kernel
theorem dX4_readTerm_35 : decode cX4_readTerm 35 = .ok (.aload_n 0, 1) := by decide +kernel
theorem dX4_readTerm_36 : decode cX4_readTerm 36 = .ok (.dup, 1) := by decide +kernel
theorem dX4_readTerm_37 : decode cX4_readTerm 37 = .ok (.getfield 25, 3) := by decide +kernel
theorem dX4_readTerm_40 : decode cX4_readTerm 40 = .ok (.iconst 1, 1) := by decide +kernel
theorem dX4_readTerm_41 : decode cX4_readTerm 41 = .ok (.iadd, 1) := by decide +kernel
theorem dX4_readTerm_42 : decode cX4_readTerm 42 = .ok (.putfield 25, 3) := by decide +kernel
theorem dX4_readTerm_45 : decode cX4_readTerm 45 = .ok (.aload_n 0, 1) := by decide +kernel
theorem dX4_readTerm_46 : decode cX4_readTerm 46 = .ok (.iconst 1, 1) := by decide +kernel
theorem dX4_readTerm_47 : decode cX4_readTerm 47 = .ok (.bipush (-5), 2) := by decide +kernel
theorem dX4_readTerm_49 : decode cX4_readTerm 49 = .ok (.bipush (-5), 2) := by decide +kernel
theorem dX4_readTerm_51 : decode cX4_readTerm 51 = .ok (.bipush (-5), 2) := by decide +kernel
theorem dX4_readTerm_53 : decode cX4_readTerm 53 = .ok (.bipush (-5), 2) := by decide +kernel
theorem dX4_readTerm_55 : decode cX4_readTerm 55 = .ok (.invokevirtual 75, 3) := by decide +kernel
theorem dX4_readTerm_58 : decode cX4_readTerm 58 = .ok (.ireturn, 1) := by decide +kernel
theorem dX4_readTerm_59 : decode cX4_readTerm 59 = .ok (.aload_n 0, 1) := by decide +kernel
theorem dX4_readTerm_60 : decode cX4_readTerm 60 = .ok (.iload_n 2, 1) := by decide +kernel
theorem dX4_readTerm_61 : decode cX4_readTerm 61 = .ok (.invokevirtual 79, 3) := by decide +kernel
theorem dX4_readTerm_64 : decode cX4_readTerm 64 = .ok (.istore_n 3, 1) := by decide +kernel
theorem dX4_readTerm_65 : decode cX4_readTerm 65 = .ok (.iload_n 3, 1) := by decide +kernel
theorem dX4_readTerm_66 : decode cX4_readTerm 66 = .ok (.iconst (-1), 1) := by decide +kernel
theorem dX4_readTerm_67 : decode cX4_readTerm 67 = .ok (.if_icmp .eq 12, 3) := by decide +kernel
theorem dX4_readTerm_70 : decode cX4_readTerm 70 = .ok (.aload_n 0, 1) := by decide +kernel
theorem dX4_readTerm_71 : decode cX4_readTerm 71 = .ok (.getfield 41, 3) := by decide +kernel
theorem dX4_readTerm_74 : decode cX4_readTerm 74 = .ok (.bipush 6, 2) := by decide +kernel
theorem dX4_readTerm_76 : decode cX4_readTerm 76 = .ok (.if_icmp .le 13, 3) := by decide +kernel
theorem dX4_readTerm_79 : decode cX4_readTerm 79 = .ok (.aload_n 0, 1) := by decide +kernel
theorem dX4_readTerm_80 : decode cX4_readTerm 80 = .ok (.aload_n 0, 1) := by decide +kernel
theorem dX4_readTerm_81 : decode cX4_readTerm 81 = .ok (.getfield 25, 3) := by decide +kernel
theorem dX4_readTerm_84 : decode cX4_readTerm 84 = .ok (.invokevirtual 57, 3) := by decide +kernel
theorem dX4_readTerm_87 : decode cX4_readTerm 87 = .ok (.iconst (-1), 1) := by decide +kernel
theorem dX4_readTerm_88 : decode cX4_readTerm 88 = .ok (.ireturn, 1) := by decide +kernel
theorem dX4_readTerm_89 : decode cX4_readTerm 89 = .ok (.aload_n 0, 1) := by decide +kernel
theorem dX4_readTerm_90 : decode cX4_readTerm 90 = .ok (.getfield 38, 3) := by decide +kernel
theorem dX4_readTerm_93 : decode cX4_readTerm 93 = .ok (.aload_n 0, 1) := by decide +kernel
theorem dX4_readTerm_94 : decode cX4_readTerm 94 = .ok (.getfield 41, 3) := by decide +kernel
theorem dX4_readTerm_97 : decode cX4_readTerm 97 = .ok (.aload_n 0, 1) := by decide +kernel
theorem dX4_readTerm_98 : decode cX4_readTerm 98 = .ok (.getfield 25, 3) := by decide +kernel
theorem dX4_readTerm_101 : decode cX4_readTerm 101 = .ok (.iastore, 1) := by decide +kernel
theorem dX4_readTerm_102 : decode cX4_readTerm 102 = .ok (.aload_n 0, 1) := by decide +kernel
theorem dX4_readTerm_103 : decode cX4_readTerm 103 = .ok (.dup, 1) := by decide +kernel
theorem dX4_readTerm_104 : decode cX4_readTerm 104 = .ok (.getfield 41, 3) := by decide +kernel
theorem dX4_readTerm_107 : decode cX4_readTerm 107 = .ok (.iconst 1, 1) := by decide +kernel
theorem dX4_readTerm_108 : decode cX4_readTerm 108 = .ok (.iadd, 1) := by decide +kernel
theorem dX4_readTerm_109 : decode cX4_readTerm 109 = .ok (.putfield 41, 3) := by decide +kernel
theorem dX4_readTerm_112 : decode cX4_readTerm 112 = .ok (.aload_n 0, 1) := by decide +kernel
theorem dX4_readTerm_113 : decode cX4_readTerm 113 = .ok (.dup, 1) := by decide +kernel
theorem dX4_readTerm_114 : decode cX4_readTerm 114 = .ok (.getfield 25, 3) := by decide +kernel
theorem dX4_readTerm_117 : decode cX4_readTerm 117 = .ok (.iconst 1, 1) := by decide +kernel
theorem dX4_readTerm_118 : decode cX4_readTerm 118 = .ok (.iadd, 1) := by decide +kernel
theorem dX4_readTerm_119 : decode cX4_readTerm 119 = .ok (.putfield 25, 3) := by decide +kernel
theorem dX4_readTerm_122 : decode cX4_readTerm 122 = .ok (.iload_n 3, 1) := by decide +kernel
theorem dX4_readTerm_123 : decode cX4_readTerm 123 = .ok (.bipush 8, 2) := by decide +kernel
theorem dX4_readTerm_125 : decode cX4_readTerm 125 = .ok (.if_icmp .ne 10, 3) := by decide +kernel
theorem dX4_readTerm_128 : decode cX4_readTerm 128 = .ok (.aload_n 0, 1) := by decide +kernel
theorem dX4_readTerm_129 : decode cX4_readTerm 129 = .ok (.invokevirtual 82, 3) := by decide +kernel
theorem dX4_readTerm_132 : decode cX4_readTerm 132 = .ok (.goto 9, 3) := by decide +kernel
theorem dX4_readTerm_135 : decode cX4_readTerm 135 = .ok (.aload_n 0, 1) := by decide +kernel
theorem dX4_readTerm_136 : decode cX4_readTerm 136 = .ok (.iload_n 3, 1) := by decide +kernel
theorem dX4_readTerm_137 : decode cX4_readTerm 137 = .ok (.iload_n 1, 1) := by decide +kernel
theorem dX4_readTerm_138 : decode cX4_readTerm 138 = .ok (.invokevirtual 85, 3) := by decide +kernel
theorem dX4_readTerm_141 : decode cX4_readTerm 141 = .ok (.istore 4, 2) := by decide +kernel
theorem dX4_readTerm_143 : decode cX4_readTerm 143 = .ok (.aload_n 0, 1) := by decide +kernel
theorem dX4_readTerm_144 : decode cX4_readTerm 144 = .ok (.getfield 31, 3) := by decide +kernel
theorem dX4_readTerm_147 : decode cX4_readTerm 147 = .ok (.iconst (-1), 1) := by decide +kernel
theorem dX4_readTerm_148 : decode cX4_readTerm 148 = .ok (.if_icmp .ne 13, 3) := by decide +kernel
theorem dX4_readTerm_151 : decode cX4_readTerm 151 = .ok (.aload_n 0, 1) := by decide +kernel
theorem dX4_readTerm_152 : decode cX4_readTerm 152 = .ok (.dup, 1) := by decide +kernel
theorem dX4_readTerm_153 : decode cX4_readTerm 153 = .ok (.getfield 41, 3) := by decide +kernel
theorem dX4_readTerm_156 : decode cX4_readTerm 156 = .ok (.iconst 1, 1) := by decide +kernel
theorem dX4_readTerm_157 : decode cX4_readTerm 157 = .ok (.isub, 1) := by decide +kernel
theorem dX4_readTerm_158 : decode cX4_readTerm 158 = .ok (.putfield 41, 3) := by decide +kernel
theorem dX4_readTerm_161 : decode cX4_readTerm 161 = .ok (.iload 4, 2) := by decide +kernel
theorem dX4_readTerm_163 : decode cX4_readTerm 163 = .ok (.ireturn, 1) := by decide +kernel
theorem dX4_kindBySign_0 : decode cX4_kindBySign 0 = .ok (.iload_n 1, 1) := by decide +kernel
theorem dX4_kindBySign_1 : decode cX4_kindBySign 1 = .ok (.lookupswitch 84 #[(33, 81), (35, 67), (43, 77), (47, 75), (60, 79), (63, 70), (94, 72)], 67) := by decide +kernel
theorem dX4_kindBySign_68 : decode cX4_kindBySign 68 = .ok (.bipush 8, 2) := by decide +kernel
theorem dX4_kindBySign_70 : decode cX4_kindBySign 70 = .ok (.ireturn, 1) := by decide +kernel
theorem dX4_kindBySign_71 : decode cX4_kindBySign 71 = .ok (.iconst 2, 1) := by decide +kernel
theorem dX4_kindBySign_72 : decode cX4_kindBySign 72 = .ok (.ireturn, 1) := by decide +kernel
theorem dX4_kindBySign_73 : decode cX4_kindBySign 73 = .ok (.bipush 6, 2) := by decide +kernel
theorem dX4_kindBySign_75 : decode cX4_kindBySign 75 = .ok (.ireturn, 1) := by decide +kernel
theorem dX4_kindBySign_76 : decode cX4_kindBySign 76 = .ok (.iconst 3, 1) := by decide +kernel
theorem dX4_kindBySign_77 : decode cX4_kindBySign 77 = .ok (.ireturn, 1) := by decide +kernel
theorem dX4_kindBySign_78 : decode cX4_kindBySign 78 = .ok (.iconst 4, 1) := by decide +kernel
theorem dX4_kindBySign_79 : decode cX4_kindBySign 79 = .ok (.ireturn, 1) := by decide +kernel
theorem dX4_kindBySign_80 : decode cX4_kindBySign 80 = .ok (.iconst 5, 1) := by decide +kernel
theorem dX4_kindBySign_81 : decode cX4_kindBySign 81 = .ok (.ireturn, 1) := by decide +kernel
theorem dX4_kindBySign_82 : decode cX4_kindBySign 82 = .ok (.bipush 7, 2) := by decide +kernel
theorem dX4_kindBySign_84 : decode cX4_kindBySign 84 = .ok (.ireturn, 1) := by decide +kernel
theorem dX4_kindBySign_85 : decode cX4_kindBySign 85 = .ok (.iconst (-1), 1) := by decide +kernel
theorem dX4_kindBySign_86 : decode cX4_kindBySign 86 = .ok (.ireturn, 1) := by decide +kernel
theorem dX4_readNamed_0 : decode cX4_readNamed 0 = .ok (.aload_n 0, 1) := by decide +kernel
theorem dX4_readNamed_1 : decode cX4_readNamed 1 = .ok (.getfield 25, 3) := by decide +kernel
theorem dX4_readNamed_4 : decode cX4_readNamed 4 = .ok (.istore_n 1, 1) := by decide +kernel
theorem dX4_readNamed_5 : decode cX4_readNamed 5 = .ok (.aload_n 0, 1) := by decide +kernel
theorem dX4_readNamed_6 : decode cX4_readNamed 6 = .ok (.invokevirtual 72, 3) := by decide +kernel
theorem dX4_readNamed_9 : decode cX4_readNamed 9 = .ok (.istore_n 2, 1) := by decide +kernel
theorem dX4_readNamed_10 : decode cX4_readNamed 10 = .ok (.aload_n 0, 1) := by decide +kernel
theorem dX4_readNamed_11 : decode cX4_readNamed 11 = .ok (.getfield 31, 3) := by decide +kernel
theorem dX4_readNamed_14 : decode cX4_readNamed 14 = .ok (.iconst (-1), 1) := by decide +kernel
theorem dX4_readNamed_15 : decode cX4_readNamed 15 = .ok (.if_icmp .ne 16, 3) := by decide +kernel
theorem dX4_readNamed_18 : decode cX4_readNamed 18 = .ok (.iload_n 2, 1) := by decide +kernel
theorem dX4_readNamed_19 : decode cX4_readNamed 19 = .ok (.aload_n 0, 1) := by decide +kernel
theorem dX4_readNamed_20 : decode cX4_readNamed 20 = .ok (.getfield 28, 3) := by decide +kernel
theorem dX4_readNamed_23 : decode cX4_readNamed 23 = .ok (.if_icmp .lt 8, 3) := by decide +kernel
theorem dX4_readNamed_26 : decode cX4_readNamed 26 = .ok (.aload_n 0, 1) := by decide +kernel
theorem dX4_readNamed_27 : decode cX4_readNamed 27 = .ok (.iload_n 1, 1) := by decide +kernel
theorem dX4_readNamed_28 : decode cX4_readNamed 28 = .ok (.invokevirtual 57, 3) := by decide +kernel
theorem dX4_readNamed_31 : decode cX4_readNamed 31 = .ok (.aload_n 0, 1) := by decide +kernel
theorem dX4_readNamed_32 : decode cX4_readNamed 32 = .ok (.getfield 31, 3) := by decide +kernel
theorem dX4_readNamed_35 : decode cX4_readNamed 35 = .ok (.iconst (-1), 1) := by decide +kernel
theorem dX4_readNamed_36 : decode cX4_readNamed 36 = .ok (.if_icmp .ne 7, 3) := by decide +kernel
theorem dX4_readNamed_39 : decode cX4_readNamed 39 = .ok (.iload_n 2, 1) := by decide +kernel
theorem dX4_readNamed_40 : decode cX4_readNamed 40 = .ok (.goto 4, 3) := by decide +kernel
theorem dX4_readNamed_43 : decode cX4_readNamed 43 = .ok (.iconst (-1), 1) := by decide +kernel
theorem dX4_readNamed_44 : decode cX4_readNamed 44 = .ok (.ireturn, 1) := by decide +kernel
theorem dX4_readComposed_0 : decode cX4_readComposed 0 = .ok (.iload_n 1, 1) := by decide +kernel
theorem dX4_readComposed_1 : decode cX4_readComposed 1 = .ok (.iconst 2, 1) := by decide +kernel
theorem dX4_readComposed_2 : decode cX4_readComposed 2 = .ok (.if_icmp .eq 9, 3) := by decide +kernel
theorem dX4_readComposed_5 : decode cX4_readComposed 5 = .ok (.iload_n 1, 1) := by decide +kernel
theorem dX4_readComposed_6 : decode cX4_readComposed 6 = .ok (.bipush 6, 2) := by decide +kernel
theorem dX4_readComposed_8 : decode cX4_readComposed 8 = .ok (.if_icmp .ne 7, 3) := by decide +kernel
theorem dX4_readComposed_11 : decode cX4_readComposed 11 = .ok (.iconst 1, 1) := by decide +kernel
theorem dX4_readComposed_12 : decode cX4_readComposed 12 = .ok (.goto 4, 3) := by decide +kernel
theorem dX4_readComposed_15 : decode cX4_readComposed 15 = .ok (.iconst 0, 1) := by decide +kernel
theorem dX4_readComposed_16 : decode cX4_readComposed 16 = .ok (.istore_n 3, 1) := by decide +kernel
theorem dX4_readComposed_17 : decode cX4_readComposed 17 = .ok (.iload_n 3, 1) := by decide +kernel
theorem dX4_readComposed_18 : decode cX4_readComposed 18 = .ok (.ifCond .eq 10, 3) := by decide +kernel
theorem dX4_readComposed_21 : decode cX4_readComposed 21 = .ok (.aload_n 0, 1) := by decide +kernel
theorem dX4_readComposed_22 : decode cX4_readComposed 22 = .ok (.invokevirtual 89, 3) := by decide +kernel
theorem dX4_readComposed_25 : decode cX4_readComposed 25 = .ok (.goto 5, 3) := by decide +kernel
theorem dX4_readComposed_28 : decode cX4_readComposed 28 = .ok (.bipush (-5), 2) := by decide +kernel
theorem dX4_readComposed_30 : decode cX4_readComposed 30 = .ok (.istore 4, 2) := by decide +kernel
theorem dX4_readComposed_32 : decode cX4_readComposed 32 = .ok (.iload_n 1, 1) := by decide +kernel
theorem dX4_readComposed_33 : decode cX4_readComposed 33 = .ok (.bipush 6, 2) := by decide +kernel
theorem dX4_readComposed_35 : decode cX4_readComposed 35 = .ok (.if_icmp .ne 19, 3) := by decide +kernel
theorem dX4_readComposed_38 : decode cX4_readComposed 38 = .ok (.aload_n 0, 1) := by decide +kernel
theorem dX4_readComposed_39 : decode cX4_readComposed 39 = .ok (.bipush 58, 2) := by decide +kernel
theorem dX4_readComposed_41 : decode cX4_readComposed 41 = .ok (.invokevirtual 92, 3) := by decide +kernel
theorem dX4_readComposed_44 : decode cX4_readComposed 44 = .ok (.ifCond .eq 10, 3) := by decide +kernel
theorem dX4_readComposed_47 : decode cX4_readComposed 47 = .ok (.aload_n 0, 1) := by decide +kernel
theorem dX4_readComposed_48 : decode cX4_readComposed 48 = .ok (.invokevirtual 72, 3) := by decide +kernel
theorem dX4_readComposed_51 : decode cX4_readComposed 51 = .ok (.goto 5, 3) := by decide +kernel
theorem dX4_readComposed_54 : decode cX4_readComposed 54 = .ok (.bipush (-5), 2) := by decide +kernel
theorem dX4_readComposed_56 : decode cX4_readComposed 56 = .ok (.istore 5, 2) := by decide +kernel
theorem dX4_readComposed_58 : decode cX4_readComposed 58 = .ok (.iload_n 2, 1) := by decide +kernel
theorem dX4_readComposed_59 : decode cX4_readComposed 59 = .ok (.bipush 6, 2) := by decide +kernel
theorem dX4_readComposed_61 : decode cX4_readComposed 61 = .ok (.if_icmp .lt 11, 3) := by decide +kernel
theorem dX4_readComposed_64 : decode cX4_readComposed 64 = .ok (.aload_n 0, 1) := by decide +kernel
theorem dX4_readComposed_65 : decode cX4_readComposed 65 = .ok (.aload_n 0, 1) := by decide +kernel
theorem dX4_readComposed_66 : decode cX4_readComposed 66 = .ok (.getfield 25, 3) := by decide +kernel
theorem dX4_readComposed_69 : decode cX4_readComposed 69 = .ok (.invokevirtual 57, 3) := by decide +kernel
theorem dX4_readComposed_72 : decode cX4_readComposed 72 = .ok (.aload_n 0, 1) := by decide +kernel
theorem dX4_readComposed_73 : decode cX4_readComposed 73 = .ok (.bipush 40, 2) := by decide +kernel
theorem dX4_readComposed_75 : decode cX4_readComposed 75 = .ok (.invokevirtual 92, 3) := by decide +kernel
theorem dX4_readComposed_78 : decode cX4_readComposed 78 = .ok (.ifCond .ne 5, 3) := by decide +kernel
theorem dX4_readComposed_81 : decode cX4_readComposed 81 = .ok (.iconst (-1), 1) := by decide +kernel
theorem dX4_readComposed_82 : decode cX4_readComposed 82 = .ok (.ireturn, 1) := by decide +kernel
theorem dX4_readComposed_83 : decode cX4_readComposed 83 = .ok (.aload_n 0, 1) := by decide +kernel
theorem dX4_readComposed_84 : decode cX4_readComposed 84 = .ok (.iload_n 2, 1) := by decide +kernel
theorem dX4_readComposed_85 : decode cX4_readComposed 85 = .ok (.iconst 1, 1) := by decide +kernel
theorem dX4_readComposed_86 : decode cX4_readComposed 86 = .ok (.iadd, 1) := by decide +kernel
theorem dX4_readComposed_87 : decode cX4_readComposed 87 = .ok (.invokevirtual 53, 3) := by decide +kernel
theorem dX4_readComposed_90 : decode cX4_readComposed 90 = .ok (.istore 6, 2) := by decide +kernel
theorem dX4_readComposed_92 : decode cX4_readComposed 92 = .ok (.bipush (-5), 2) := by decide +kernel
theorem dX4_readComposed_94 : decode cX4_readComposed 94 = .ok (.istore 7, 2) := by decide +kernel
theorem dX4_readComposed_96 : decode cX4_readComposed 96 = .ok (.iload_n 3, 1) := by decide +kernel
theorem dX4_readComposed_97 : decode cX4_readComposed 97 = .ok (.ifCond .ne 23, 3) := by decide +kernel
theorem dX4_readComposed_100 : decode cX4_readComposed 100 = .ok (.aload_n 0, 1) := by decide +kernel
theorem dX4_readComposed_101 : decode cX4_readComposed 101 = .ok (.bipush 44, 2) := by decide +kernel
theorem dX4_readComposed_103 : decode cX4_readComposed 103 = .ok (.invokevirtual 92, 3) := by decide +kernel
theorem dX4_readComposed_106 : decode cX4_readComposed 106 = .ok (.ifCond .ne 5, 3) := by decide +kernel
theorem dX4_readComposed_109 : decode cX4_readComposed 109 = .ok (.iconst (-1), 1) := by decide +kernel
theorem dX4_readComposed_110 : decode cX4_readComposed 110 = .ok (.ireturn, 1) := by decide +kernel
theorem dX4_readComposed_111 : decode cX4_readComposed 111 = .ok (.aload_n 0, 1) := by decide +kernel
theorem dX4_readComposed_112 : decode cX4_readComposed 112 = .ok (.iload_n 2, 1) := by decide +kernel
theorem dX4_readComposed_113 : decode cX4_readComposed 113 = .ok (.iconst 1, 1) := by decide +kernel
theorem dX4_readComposed_114 : decode cX4_readComposed 114 = .ok (.iadd, 1) := by decide +kernel
theorem dX4_readComposed_115 : decode cX4_readComposed 115 = .ok (.invokevirtual 53, 3) := by decide +kernel
theorem dX4_readComposed_118 : decode cX4_readComposed 118 = .ok (.istore 7, 2) := by decide +kernel
theorem dX4_readComposed_120 : decode cX4_readComposed 120 = .ok (.aload_n 0, 1) := by decide +kernel
theorem dX4_readComposed_121 : decode cX4_readComposed 121 = .ok (.bipush 41, 2) := by decide +kernel
theorem dX4_readComposed_123 : decode cX4_readComposed 123 = .ok (.invokevirtual 92, 3) := by decide +kernel
theorem dX4_readComposed_126 : decode cX4_readComposed 126 = .ok (.ifCond .eq 19, 3) := by decide +kernel
theorem dX4_readComposed_129 : decode cX4_readComposed 129 = .ok (.aload_n 0, 1) := by decide +kernel
theorem dX4_readComposed_130 : decode cX4_readComposed 130 = .ok (.iload_n 1, 1) := by decide +kernel
theorem dX4_readComposed_131 : decode cX4_readComposed 131 = .ok (.iload 5, 2) := by decide +kernel
theorem dX4_readComposed_133 : decode cX4_readComposed 133 = .ok (.iload 4, 2) := by decide +kernel
theorem dX4_readComposed_135 : decode cX4_readComposed 135 = .ok (.iload 6, 2) := by decide +kernel
theorem dX4_readComposed_137 : decode cX4_readComposed 137 = .ok (.iload 7, 2) := by decide +kernel
theorem dX4_readComposed_139 : decode cX4_readComposed 139 = .ok (.invokevirtual 75, 3) := by decide +kernel
theorem dX4_readComposed_142 : decode cX4_readComposed 142 = .ok (.goto 4, 3) := by decide +kernel
theorem dX4_readComposed_145 : decode cX4_readComposed 145 = .ok (.iconst (-1), 1) := by decide +kernel
theorem dX4_readComposed_146 : decode cX4_readComposed 146 = .ok (.ireturn, 1) := by decide +kernel
theorem dX4_readBox_0 : decode cX4_readBox 0 = .ok (.iconst 0, 1) := by decide +kernel
theorem dX4_readBox_1 : decode cX4_readBox 1 = .ok (.istore_n 1, 1) := by decide +kernel
theorem dX4_readBox_2 : decode cX4_readBox 2 = .ok (.iconst 0, 1) := by decide +kernel
theorem dX4_readBox_3 : decode cX4_readBox 3 = .ok (.istore_n 2, 1) := by decide +kernel
theorem dX4_readBox_4 : decode cX4_readBox 4 = .ok (.iconst 0, 1) := by decide +kernel
theorem dX4_readBox_5 : decode cX4_readBox 5 = .ok (.istore_n 3, 1) := by decide +kernel
theorem dX4_readBox_6 : decode cX4_readBox 6 = .ok (.iload_n 3, 1) := by decide +kernel
theorem dX4_readBox_7 : decode cX4_readBox 7 = .ok (.bipush 6, 2) := by decide +kernel
theorem dX4_readBox_9 : decode cX4_readBox 9 = .ok (.if_icmp .ge 68, 3) := by decide +kernel
theorem dX4_readBox_12 : decode cX4_readBox 12 = .ok (.aload_n 0, 1) := by decide +kernel
theorem dX4_readBox_13 : decode cX4_readBox 13 = .ok (.getfield 31, 3) := by decide +kernel
theorem dX4_readBox_16 : decode cX4_readBox 16 = .ok (.iconst (-1), 1) := by decide +kernel
theorem dX4_readBox_17 : decode cX4_readBox 17 = .ok (.if_icmp .ne 60, 3) := by decide +kernel
theorem dX4_readBox_20 : decode cX4_readBox 20 = .ok (.aload_n 0, 1) := by decide +kernel
theorem dX4_readBox_21 : decode cX4_readBox 21 = .ok (.invokevirtual 64, 3) := by decide +kernel
theorem dX4_readBox_24 : decode cX4_readBox 24 = .ok (.bipush 48, 2) := by decide +kernel
theorem dX4_readBox_26 : decode cX4_readBox 26 = .ok (.isub, 1) := by decide +kernel
theorem dX4_readBox_27 : decode cX4_readBox 27 = .ok (.istore 4, 2) := by decide +kernel
theorem dX4_readBox_29 : decode cX4_readBox 29 = .ok (.iload 4, 2) := by decide +kernel
theorem dX4_readBox_31 : decode cX4_readBox 31 = .ok (.iload_n 3, 1) := by decide +kernel
theorem dX4_readBox_32 : decode cX4_readBox 32 = .ok (.iload_n 2, 1) := by decide +kernel
theorem dX4_readBox_33 : decode cX4_readBox 33 = .ok (.invokestatic 95, 3) := by decide +kernel
theorem dX4_readBox_36 : decode cX4_readBox 36 = .ok (.ifCond .eq 16, 3) := by decide +kernel
theorem dX4_readBox_39 : decode cX4_readBox 39 = .ok (.aload_n 0, 1) := by decide +kernel
theorem dX4_readBox_40 : decode cX4_readBox 40 = .ok (.dup, 1) := by decide +kernel
theorem dX4_readBox_41 : decode cX4_readBox 41 = .ok (.getfield 25, 3) := by decide +kernel
theorem dX4_readBox_44 : decode cX4_readBox 44 = .ok (.iconst 1, 1) := by decide +kernel
theorem dX4_readBox_45 : decode cX4_readBox 45 = .ok (.iadd, 1) := by decide +kernel
theorem dX4_readBox_46 : decode cX4_readBox 46 = .ok (.putfield 25, 3) := by decide +kernel
theorem dX4_readBox_49 : decode cX4_readBox 49 = .ok (.goto 11, 3) := by decide +kernel
theorem dX4_readBox_52 : decode cX4_readBox 52 = .ok (.aload_n 0, 1) := by decide +kernel
theorem dX4_readBox_53 : decode cX4_readBox 53 = .ok (.aload_n 0, 1) := by decide +kernel
theorem dX4_readBox_54 : decode cX4_readBox 54 = .ok (.getfield 25, 3) := by decide +kernel
theorem dX4_readBox_57 : decode cX4_readBox 57 = .ok (.invokevirtual 57, 3) := by decide +kernel
theorem dX4_readBox_60 : decode cX4_readBox 60 = .ok (.bipush 10, 2) := by decide +kernel
theorem dX4_readBox_62 : decode cX4_readBox 62 = .ok (.iload_n 1, 1) := by decide +kernel
theorem dX4_readBox_63 : decode cX4_readBox 63 = .ok (.imul, 1) := by decide +kernel
theorem dX4_readBox_64 : decode cX4_readBox 64 = .ok (.iload 4, 2) := by decide +kernel
theorem dX4_readBox_66 : decode cX4_readBox 66 = .ok (.iadd, 1) := by decide +kernel
theorem dX4_readBox_67 : decode cX4_readBox 67 = .ok (.istore_n 1, 1) := by decide +kernel
theorem dX4_readBox_68 : decode cX4_readBox 68 = .ok (.iload 4, 2) := by decide +kernel
theorem dX4_readBox_70 : decode cX4_readBox 70 = .ok (.istore_n 2, 1) := by decide +kernel
theorem dX4_readBox_71 : decode cX4_readBox 71 = .ok (.iinc 3 1, 3) := by decide +kernel
theorem dX4_readBox_74 : decode cX4_readBox 74 = .ok (.goto (-68), 3) := by decide +kernel
theorem dX4_readBox_77 : decode cX4_readBox 77 = .ok (.iload_n 1, 1) := by decide +kernel
theorem dX4_readBox_78 : decode cX4_readBox 78 = .ok (.ireturn, 1) := by decide +kernel
theorem dX4_readNumber_0 : decode cX4_readNumber 0 = .ok (.aload_n 0, 1) := by decide +kernel
theorem dX4_readNumber_1 : decode cX4_readNumber 1 = .ok (.aload_n 0, 1) := by decide +kernel
theorem dX4_readNumber_2 : decode cX4_readNumber 2 = .ok (.invokevirtual 64, 3) := by decide +kernel
theorem dX4_readNumber_5 : decode cX4_readNumber 5 = .ok (.invokevirtual 68, 3) := by decide +kernel
theorem dX4_readNumber_8 : decode cX4_readNumber 8 = .ok (.ifCond .ne 13, 3) := by decide +kernel
theorem dX4_readNumber_11 : decode cX4_readNumber 11 = .ok (.aload_n 0, 1) := by decide +kernel
theorem dX4_readNumber_12 : decode cX4_readNumber 12 = .ok (.aload_n 0, 1) := by decide +kernel
theorem dX4_readNumber_13 : decode cX4_readNumber 13 = .ok (.getfield 25, 3) := by decide +kernel
theorem dX4_readNumber_16 : decode cX4_readNumber 16 = .ok (.invokevirtual 57, 3) := by decide +kernel
theorem dX4_readNumber_19 : decode cX4_readNumber 19 = .ok (.iconst (-1), 1) := by decide +kernel
theorem dX4_readNumber_20 : decode cX4_readNumber 20 = .ok (.ireturn, 1) := by decide +kernel
theorem dX4_readNumber_21 : decode cX4_readNumber 21 = .ok (.aload_n 0, 1) := by decide +kernel
theorem dX4_readNumber_22 : decode cX4_readNumber 22 = .ok (.invokevirtual 64, 3) := by decide +kernel
theorem dX4_readNumber_25 : decode cX4_readNumber 25 = .ok (.bipush 48, 2) := by decide +kernel
theorem dX4_readNumber_27 : decode cX4_readNumber 27 = .ok (.isub, 1) := by decide +kernel
theorem dX4_readNumber_28 : decode cX4_readNumber 28 = .ok (.istore_n 1, 1) := by decide +kernel
theorem dX4_readNumber_29 : decode cX4_readNumber 29 = .ok (.aload_n 0, 1) := by decide +kernel
theorem dX4_readNumber_30 : decode cX4_readNumber 30 = .ok (.dup, 1) := by decide +kernel
theorem dX4_readNumber_31 : decode cX4_readNumber 31 = .ok (.getfield 25, 3) := by decide +kernel
theorem dX4_readNumber_34 : decode cX4_readNumber 34 = .ok (.iconst 1, 1) := by decide +kernel
theorem dX4_readNumber_35 : decode cX4_readNumber 35 = .ok (.iadd, 1) := by decide +kernel
theorem dX4_readNumber_36 : decode cX4_readNumber 36 = .ok (.putfield 25, 3) := by decide +kernel
theorem dX4_readNumber_39 : decode cX4_readNumber 39 = .ok (.aload_n 0, 1) := by decide +kernel
theorem dX4_readNumber_40 : decode cX4_readNumber 40 = .ok (.aload_n 0, 1) := by decide +kernel
theorem dX4_readNumber_41 : decode cX4_readNumber 41 = .ok (.invokevirtual 64, 3) := by decide +kernel
theorem dX4_readNumber_44 : decode cX4_readNumber 44 = .ok (.invokevirtual 68, 3) := by decide +kernel
theorem dX4_readNumber_47 : decode cX4_readNumber 47 = .ok (.ifCond .eq 26, 3) := by decide +kernel
theorem dX4_readNumber_50 : decode cX4_readNumber 50 = .ok (.bipush 10, 2) := by decide +kernel
theorem dX4_readNumber_52 : decode cX4_readNumber 52 = .ok (.iload_n 1, 1) := by decide +kernel
theorem dX4_readNumber_53 : decode cX4_readNumber 53 = .ok (.imul, 1) := by decide +kernel
theorem dX4_readNumber_54 : decode cX4_readNumber 54 = .ok (.aload_n 0, 1) := by decide +kernel
theorem dX4_readNumber_55 : decode cX4_readNumber 55 = .ok (.invokevirtual 64, 3) := by decide +kernel
theorem dX4_readNumber_58 : decode cX4_readNumber 58 = .ok (.iadd, 1) := by decide +kernel
theorem dX4_readNumber_59 : decode cX4_readNumber 59 = .ok (.bipush 48, 2) := by decide +kernel
theorem dX4_readNumber_61 : decode cX4_readNumber 61 = .ok (.isub, 1) := by decide +kernel
theorem dX4_readNumber_62 : decode cX4_readNumber 62 = .ok (.istore_n 1, 1) := by decide +kernel
theorem dX4_readNumber_63 : decode cX4_readNumber 63 = .ok (.aload_n 0, 1) := by decide +kernel
theorem dX4_readNumber_64 : decode cX4_readNumber 64 = .ok (.dup, 1) := by decide +kernel
theorem dX4_readNumber_65 : decode cX4_readNumber 65 = .ok (.getfield 25, 3) := by decide +kernel
theorem dX4_readNumber_68 : decode cX4_readNumber 68 = .ok (.iconst 1, 1) := by decide +kernel
theorem dX4_readNumber_69 : decode cX4_readNumber 69 = .ok (.iadd, 1) := by decide +kernel
theorem dX4_readNumber_70 : decode cX4_readNumber 70 = .ok (.putfield 25, 3) := by decide +kernel
theorem dX4_readNumber_73 : decode cX4_readNumber 73 = .ok (.iload_n 1, 1) := by decide +kernel
theorem dX4_readNumber_74 : decode cX4_readNumber 74 = .ok (.ireturn, 1) := by decide +kernel
theorem dX4_take_0 : decode cX4_take 0 = .ok (.aload_n 0, 1) := by decide +kernel
theorem dX4_take_1 : decode cX4_take 1 = .ok (.getfield 34, 3) := by decide +kernel
theorem dX4_take_4 : decode cX4_take 4 = .ok (.ifCond .eq 8, 3) := by decide +kernel
theorem dX4_take_7 : decode cX4_take 7 = .ok (.bipush (-4), 2) := by decide +kernel
theorem dX4_take_9 : decode cX4_take 9 = .ok (.goto 17, 3) := by decide +kernel
theorem dX4_take_12 : decode cX4_take 12 = .ok (.aload_n 0, 1) := by decide +kernel
theorem dX4_take_13 : decode cX4_take 13 = .ok (.getfield 44, 3) := by decide +kernel
theorem dX4_take_16 : decode cX4_take 16 = .ok (.iload_n 1, 1) := by decide +kernel
theorem dX4_take_17 : decode cX4_take 17 = .ok (.iload_n 2, 1) := by decide +kernel
theorem dX4_take_18 : decode cX4_take 18 = .ok (.iload_n 3, 1) := by decide +kernel
theorem dX4_take_19 : decode cX4_take 19 = .ok (.iload 4, 2) := by decide +kernel
theorem dX4_take_21 : decode cX4_take 21 = .ok (.iload 5, 2) := by decide +kernel
theorem dX4_take_23 : decode cX4_take 23 = .ok (.invokevirtual 99, 3) := by decide +kernel
theorem dX4_take_26 : decode cX4_take 26 = .ok (.istore 6, 2) := by decide +kernel
theorem dX4_take_28 : decode cX4_take 28 = .ok (.iload 6, 2) := by decide +kernel
theorem dX4_take_30 : decode cX4_take 30 = .ok (.bipush (-4), 2) := by decide +kernel
theorem dX4_take_32 : decode cX4_take 32 = .ok (.if_icmp .ne 8, 3) := by decide +kernel
theorem dX4_take_35 : decode cX4_take 35 = .ok (.aload_n 0, 1) := by decide +kernel
theorem dX4_take_36 : decode cX4_take 36 = .ok (.iconst 1, 1) := by decide +kernel
theorem dX4_take_37 : decode cX4_take 37 = .ok (.putfield 34, 3) := by decide +kernel
theorem dX4_take_40 : decode cX4_take 40 = .ok (.iload 6, 2) := by decide +kernel
theorem dX4_take_42 : decode cX4_take 42 = .ok (.ireturn, 1) := by decide +kernel
theorem dX5_init_0 : decode cX5_init 0 = .ok (.aload_n 0, 1) := by decide +kernel
theorem dX5_init_1 : decode cX5_init 1 = .ok (.invokespecial 3, 3) := by decide +kernel
theorem dX5_init_4 : decode cX5_init 4 = .ok (.aload_n 0, 1) := by decide +kernel
theorem dX5_init_5 : decode cX5_init 5 = .ok (.bipush 24, 2) := by decide +kernel
theorem dX5_init_7 : decode cX5_init 7 = .ok (.newarray .int, 2) := by decide +kernel
theorem dX5_init_9 : decode cX5_init 9 = .ok (.putfield 9, 3) := by decide +kernel
theorem dX5_init_12 : decode cX5_init 12 = .ok (.aload_n 0, 1) := by decide +kernel
theorem dX5_init_13 : decode cX5_init 13 = .ok (.bipush 24, 2) := by decide +kernel
theorem dX5_init_15 : decode cX5_init 15 = .ok (.newarray .int, 2) := by decide +kernel
theorem dX5_init_17 : decode cX5_init 17 = .ok (.putfield 15, 3) := by decide +kernel
theorem dX5_init_20 : decode cX5_init 20 = .ok (.aload_n 0, 1) := by decide +kernel
theorem dX5_init_21 : decode cX5_init 21 = .ok (.bipush 24, 2) := by decide +kernel
theorem dX5_init_23 : decode cX5_init 23 = .ok (.newarray .int, 2) := by decide +kernel
theorem dX5_init_25 : decode cX5_init 25 = .ok (.putfield 18, 3) := by decide +kernel
theorem dX5_init_28 : decode cX5_init 28 = .ok (.aload_n 0, 1) := by decide +kernel
theorem dX5_init_29 : decode cX5_init 29 = .ok (.bipush 24, 2) := by decide +kernel
theorem dX5_init_31 : decode cX5_init 31 = .ok (.newarray .int, 2) := by decide +kernel
theorem dX5_init_33 : decode cX5_init 33 = .ok (.putfield 21, 3) := by decide +kernel
theorem dX5_init_36 : decode cX5_init 36 = .ok (.aload_n 0, 1) := by decide +kernel
theorem dX5_init_37 : decode cX5_init 37 = .ok (.bipush 24, 2) := by decide +kernel
theorem dX5_init_39 : decode cX5_init 39 = .ok (.newarray .int, 2) := by decide +kernel
theorem dX5_init_41 : decode cX5_init 41 = .ok (.putfield 24, 3) := by decide +kernel
theorem dX5_init_44 : decode cX5_init 44 = .ok (.aload_n 0, 1) := by decide +kernel
theorem dX5_init_45 : decode cX5_init 45 = .ok (.bipush 24, 2) := by decide +kernel
theorem dX5_init_47 : decode cX5_init 47 = .ok (.newarray .int, 2) := by decide +kernel
theorem dX5_init_49 : decode cX5_init 49 = .ok (.putfield 27, 3) := by decide +kernel
theorem dX5_init_52 : decode cX5_init 52 = .ok (.aload_n 0, 1) := by decide +kernel
theorem dX5_init_53 : decode cX5_init 53 = .ok (.bipush 24, 2) := by decide +kernel
theorem dX5_init_55 : decode cX5_init 55 = .ok (.newarray .int, 2) := by decide +kernel
theorem dX5_init_57 : decode cX5_init 57 = .ok (.putfield 30, 3) := by decide +kernel
theorem dX5_init_60 : decode cX5_init 60 = .ok (.aload_n 0, 1) := by decide +kernel
theorem dX5_init_61 : decode cX5_init 61 = .ok (.iconst 0, 1) := by decide +kernel
theorem dX5_init_62 : decode cX5_init 62 = .ok (.putfield 33, 3) := by decide +kernel
theorem dX5_init_65 : decode cX5_init 65 = .ok (.return_, 1) := by decide +kernel
theorem dX5_has_0 : decode cX5_has 0 = .ok (.iload_n 1, 1) := by decide +kernel
theorem dX5_has_1 : decode cX5_has 1 = .ok (.ifCond .lt 15, 3) := by decide +kernel
theorem dX5_has_4 : decode cX5_has 4 = .ok (.iload_n 1, 1) := by decide +kernel
theorem dX5_has_5 : decode cX5_has 5 = .ok (.aload_n 0, 1) := by decide +kernel
theorem dX5_has_6 : decode cX5_has 6 = .ok (.getfield 33, 3) := by decide +kernel
theorem dX5_has_9 : decode cX5_has 9 = .ok (.if_icmp .ge 7, 3) := by decide +kernel
theorem dX5_has_12 : decode cX5_has 12 = .ok (.iconst 1, 1) := by decide +kernel
theorem dX5_has_13 : decode cX5_has 13 = .ok (.goto 4, 3) := by decide +kernel
theorem dX5_has_16 : decode cX5_has 16 = .ok (.iconst 0, 1) := by decide +kernel
theorem dX5_has_17 : decode cX5_has 17 = .ok (.ireturn, 1) := by decide +kernel
theorem dX5_add_0 : decode cX5_add 0 = .ok (.iconst 1, 1) := by decide +kernel
theorem dX5_add_1 : decode cX5_add 1 = .ok (.aload_n 0, 1) := by decide +kernel
theorem dX5_add_2 : decode cX5_add 2 = .ok (.iload 4, 2) := by decide +kernel
theorem dX5_add_4 : decode cX5_add 4 = .ok (.invokevirtual 37, 3) := by decide +kernel
theorem dX5_add_7 : decode cX5_add 7 = .ok (.iadd, 1) := by decide +kernel
theorem dX5_add_8 : decode cX5_add 8 = .ok (.aload_n 0, 1) := by decide +kernel
theorem dX5_add_9 : decode cX5_add 9 = .ok (.iload 5, 2) := by decide +kernel
theorem dX5_add_11 : decode cX5_add 11 = .ok (.invokevirtual 37, 3) := by decide +kernel
theorem dX5_add_14 : decode cX5_add 14 = .ok (.iadd, 1) := by decide +kernel
theorem dX5_add_15 : decode cX5_add 15 = .ok (.istore 6, 2) := by decide +kernel
theorem dX5_add_17 : decode cX5_add 17 = .ok (.aload_n 0, 1) := by decide +kernel
theorem dX5_add_18 : decode cX5_add 18 = .ok (.getfield 33, 3) := by decide +kernel
theorem dX5_add_21 : decode cX5_add 21 = .ok (.bipush 24, 2) := by decide +kernel
theorem dX5_add_23 : decode cX5_add 23 = .ok (.if_icmp .ge 10, 3) := by decide +kernel
theorem dX5_add_26 : decode cX5_add 26 = .ok (.iload 6, 2) := by decide +kernel
theorem dX5_add_28 : decode cX5_add 28 = .ok (.bipush 40, 2) := by decide +kernel
theorem dX5_add_30 : decode cX5_add 30 = .ok (.if_icmp .le 6, 3) := by decide +kernel
theorem dX5_add_33 : decode cX5_add 33 = .ok (.bipush (-4), 2) := by decide +kernel
theorem dX5_add_35 : decode cX5_add 35 = .ok (.ireturn, 1) := by decide +kernel
theorem dX5_add_36 : decode cX5_add 36 = .ok (.aload_n 0, 1) := by decide +kernel
theorem dX5_add_37 : decode cX5_add 37 = .ok (.getfield 9, 3) := by decide +kernel
theorem dX5_add_40 : decode cX5_add 40 = .ok (.aload_n 0, 1) := by decide +kernel
theorem dX5_add_41 : decode cX5_add 41 = .ok (.getfield 33, 3) := by decide +kernel
theorem dX5_add_44 : decode cX5_add 44 = .ok (.iload_n 1, 1) := by decide +kernel
theorem dX5_add_45 : decode cX5_add 45 = .ok (.iastore, 1) := by decide +kernel
theorem dX5_add_46 : decode cX5_add 46 = .ok (.aload_n 0, 1) := by decide +kernel
theorem dX5_add_47 : decode cX5_add 47 = .ok (.getfield 15, 3) := by decide +kernel
theorem dX5_add_50 : decode cX5_add 50 = .ok (.aload_n 0, 1) := by decide +kernel
theorem dX5_add_51 : decode cX5_add 51 = .ok (.getfield 33, 3) := by decide +kernel
theorem dX5_add_54 : decode cX5_add 54 = .ok (.iload_n 2, 1) := by decide +kernel
theorem dX5_add_55 : decode cX5_add 55 = .ok (.iastore, 1) := by decide +kernel
theorem dX5_add_56 : decode cX5_add 56 = .ok (.aload_n 0, 1) := by decide +kernel
theorem dX5_add_57 : decode cX5_add 57 = .ok (.getfield 18, 3) := by decide +kernel
theorem dX5_add_60 : decode cX5_add 60 = .ok (.aload_n 0, 1) := by decide +kernel
theorem dX5_add_61 : decode cX5_add 61 = .ok (.getfield 33, 3) := by decide +kernel
theorem dX5_add_64 : decode cX5_add 64 = .ok (.iload_n 3, 1) := by decide +kernel
theorem dX5_add_65 : decode cX5_add 65 = .ok (.iastore, 1) := by decide +kernel
theorem dX5_add_66 : decode cX5_add 66 = .ok (.aload_n 0, 1) := by decide +kernel
theorem dX5_add_67 : decode cX5_add 67 = .ok (.getfield 21, 3) := by decide +kernel
theorem dX5_add_70 : decode cX5_add 70 = .ok (.aload_n 0, 1) := by decide +kernel
theorem dX5_add_71 : decode cX5_add 71 = .ok (.getfield 33, 3) := by decide +kernel
theorem dX5_add_74 : decode cX5_add 74 = .ok (.iload 4, 2) := by decide +kernel
theorem dX5_add_76 : decode cX5_add 76 = .ok (.iastore, 1) := by decide +kernel
theorem dX5_add_77 : decode cX5_add 77 = .ok (.aload_n 0, 1) := by decide +kernel
theorem dX5_add_78 : decode cX5_add 78 = .ok (.getfield 24, 3) := by decide +kernel
theorem dX5_add_81 : decode cX5_add 81 = .ok (.aload_n 0, 1) := by decide +kernel
theorem dX5_add_82 : decode cX5_add 82 = .ok (.getfield 33, 3) := by decide +kernel
theorem dX5_add_85 : decode cX5_add 85 = .ok (.iload 5, 2) := by decide +kernel
theorem dX5_add_87 : decode cX5_add 87 = .ok (.iastore, 1) := by decide +kernel
theorem dX5_add_88 : decode cX5_add 88 = .ok (.aload_n 0, 1) := by decide +kernel
theorem dX5_add_89 : decode cX5_add 89 = .ok (.getfield 27, 3) := by decide +kernel
theorem dX5_add_92 : decode cX5_add 92 = .ok (.aload_n 0, 1) := by decide +kernel
theorem dX5_add_93 : decode cX5_add 93 = .ok (.getfield 33, 3) := by decide +kernel
theorem dX5_add_96 : decode cX5_add 96 = .ok (.iload 6, 2) := by decide +kernel
theorem dX5_add_98 : decode cX5_add 98 = .ok (.iastore, 1) := by decide +kernel
theorem dX5_add_99 : decode cX5_add 99 = .ok (.aload_n 0, 1) := by decide +kernel
theorem dX5_add_100 : decode cX5_add 100 = .ok (.getfield 30, 3) := by decide +kernel
theorem dX5_add_103 : decode cX5_add 103 = .ok (.aload_n 0, 1) := by decide +kernel
theorem dX5_add_104 : decode cX5_add 104 = .ok (.getfield 33, 3) := by decide +kernel
theorem dX5_add_107 : decode cX5_add 107 = .ok (.iconst 1, 1) := by decide +kernel
theorem dX5_add_108 : decode cX5_add 108 = .ok (.aload_n 0, 1) := by decide +kernel
theorem dX5_add_109 : decode cX5_add 109 = .ok (.iload 4, 2) := by decide +kernel
theorem dX5_add_111 : decode cX5_add 111 = .ok (.invokevirtual 41, 3) := by decide +kernel
theorem dX5_add_114 : decode cX5_add 114 = .ok (.aload_n 0, 1) := by decide +kernel
theorem dX5_add_115 : decode cX5_add 115 = .ok (.iload 5, 2) := by decide +kernel
theorem dX5_add_117 : decode cX5_add 117 = .ok (.invokevirtual 41, 3) := by decide +kernel
theorem dX5_add_120 : decode cX5_add 120 = .ok (.invokestatic 44, 3) := by decide +kernel
theorem dX5_add_123 : decode cX5_add 123 = .ok (.iadd, 1) := by decide +kernel
theorem dX5_add_124 : decode cX5_add 124 = .ok (.iastore, 1) := by decide +kernel
theorem dX5_add_125 : decode cX5_add 125 = .ok (.aload_n 0, 1) := by decide +kernel
theorem dX5_add_126 : decode cX5_add 126 = .ok (.dup, 1) := by decide +kernel
theorem dX5_add_127 : decode cX5_add 127 = .ok (.getfield 33, 3) := by decide +kernel
theorem dX5_add_130 : decode cX5_add 130 = .ok (.iconst 1, 1) := by decide +kernel
theorem dX5_add_131 : decode cX5_add 131 = .ok (.iadd, 1) := by decide +kernel
theorem dX5_add_132 : decode cX5_add 132 = .ok (.putfield 33, 3) := by decide +kernel
theorem dX5_add_135 : decode cX5_add 135 = .ok (.aload_n 0, 1) := by decide +kernel
theorem dX5_add_136 : decode cX5_add 136 = .ok (.getfield 33, 3) := by decide +kernel
theorem dX5_add_139 : decode cX5_add 139 = .ok (.iconst 1, 1) := by decide +kernel
theorem dX5_add_140 : decode cX5_add 140 = .ok (.isub, 1) := by decide +kernel
theorem dX5_add_141 : decode cX5_add 141 = .ok (.ireturn, 1) := by decide +kernel
theorem dX5_sizeOf_0 : decode cX5_sizeOf 0 = .ok (.aload_n 0, 1) := by decide +kernel
theorem dX5_sizeOf_1 : decode cX5_sizeOf 1 = .ok (.iload_n 1, 1) := by decide +kernel
theorem dX5_sizeOf_2 : decode cX5_sizeOf 2 = .ok (.invokevirtual 50, 3) := by decide +kernel
theorem dX5_sizeOf_5 : decode cX5_sizeOf 5 = .ok (.ifCond .eq 12, 3) := by decide +kernel
theorem dX5_sizeOf_8 : decode cX5_sizeOf 8 = .ok (.aload_n 0, 1) := by decide +kernel
theorem dX5_sizeOf_9 : decode cX5_sizeOf 9 = .ok (.getfield 27, 3) := by decide +kernel
theorem dX5_sizeOf_12 : decode cX5_sizeOf 12 = .ok (.iload_n 1, 1) := by decide +kernel
theorem dX5_sizeOf_13 : decode cX5_sizeOf 13 = .ok (.iaload, 1) := by decide +kernel
theorem dX5_sizeOf_14 : decode cX5_sizeOf 14 = .ok (.goto 4, 3) := by decide +kernel
theorem dX5_sizeOf_17 : decode cX5_sizeOf 17 = .ok (.iconst 0, 1) := by decide +kernel
theorem dX5_sizeOf_18 : decode cX5_sizeOf 18 = .ok (.ireturn, 1) := by decide +kernel
theorem dX5_depthOf_0 : decode cX5_depthOf 0 = .ok (.aload_n 0, 1) := by decide +kernel
theorem dX5_depthOf_1 : decode cX5_depthOf 1 = .ok (.iload_n 1, 1) := by decide +kernel
theorem dX5_depthOf_2 : decode cX5_depthOf 2 = .ok (.invokevirtual 50, 3) := by decide +kernel
theorem dX5_depthOf_5 : decode cX5_depthOf 5 = .ok (.ifCond .eq 12, 3) := by decide +kernel
theorem dX5_depthOf_8 : decode cX5_depthOf 8 = .ok (.aload_n 0, 1) := by decide +kernel
theorem dX5_depthOf_9 : decode cX5_depthOf 9 = .ok (.getfield 30, 3) := by decide +kernel
theorem dX5_depthOf_12 : decode cX5_depthOf 12 = .ok (.iload_n 1, 1) := by decide +kernel
theorem dX5_depthOf_13 : decode cX5_depthOf 13 = .ok (.iaload, 1) := by decide +kernel
theorem dX5_depthOf_14 : decode cX5_depthOf 14 = .ok (.goto 4, 3) := by decide +kernel
theorem dX5_depthOf_17 : decode cX5_depthOf 17 = .ok (.iconst (-1), 1) := by decide +kernel
theorem dX5_depthOf_18 : decode cX5_depthOf 18 = .ok (.ireturn, 1) := by decide +kernel
theorem dX5_cutTo_0 : decode cX5_cutTo 0 = .ok (.iload_n 1, 1) := by decide +kernel
theorem dX5_cutTo_1 : decode cX5_cutTo 1 = .ok (.ifCond .lt 16, 3) := by decide +kernel
theorem dX5_cutTo_4 : decode cX5_cutTo 4 = .ok (.iload_n 1, 1) := by decide +kernel
theorem dX5_cutTo_5 : decode cX5_cutTo 5 = .ok (.aload_n 0, 1) := by decide +kernel
theorem dX5_cutTo_6 : decode cX5_cutTo 6 = .ok (.getfield 33, 3) := by decide +kernel
theorem dX5_cutTo_9 : decode cX5_cutTo 9 = .ok (.if_icmp .ge 8, 3) := by decide +kernel
theorem dX5_cutTo_12 : decode cX5_cutTo 12 = .ok (.aload_n 0, 1) := by decide +kernel
theorem dX5_cutTo_13 : decode cX5_cutTo 13 = .ok (.iload_n 1, 1) := by decide +kernel
theorem dX5_cutTo_14 : decode cX5_cutTo 14 = .ok (.putfield 33, 3) := by decide +kernel
theorem dX5_cutTo_17 : decode cX5_cutTo 17 = .ok (.return_, 1) := by decide +kernel
theorem dX5_countOf_0 : decode cX5_countOf 0 = .ok (.iconst 0, 1) := by decide +kernel
theorem dX5_countOf_1 : decode cX5_countOf 1 = .ok (.istore_n 2, 1) := by decide +kernel
theorem dX5_countOf_2 : decode cX5_countOf 2 = .ok (.iconst 0, 1) := by decide +kernel
theorem dX5_countOf_3 : decode cX5_countOf 3 = .ok (.istore_n 3, 1) := by decide +kernel
theorem dX5_countOf_4 : decode cX5_countOf 4 = .ok (.iload_n 3, 1) := by decide +kernel
theorem dX5_countOf_5 : decode cX5_countOf 5 = .ok (.aload_n 0, 1) := by decide +kernel
theorem dX5_countOf_6 : decode cX5_countOf 6 = .ok (.getfield 33, 3) := by decide +kernel
theorem dX5_countOf_9 : decode cX5_countOf 9 = .ok (.if_icmp .ge 22, 3) := by decide +kernel
theorem dX5_countOf_12 : decode cX5_countOf 12 = .ok (.aload_n 0, 1) := by decide +kernel
theorem dX5_countOf_13 : decode cX5_countOf 13 = .ok (.getfield 9, 3) := by decide +kernel
theorem dX5_countOf_16 : decode cX5_countOf 16 = .ok (.iload_n 3, 1) := by decide +kernel
theorem dX5_countOf_17 : decode cX5_countOf 17 = .ok (.iaload, 1) := by decide +kernel
theorem dX5_countOf_18 : decode cX5_countOf 18 = .ok (.iload_n 1, 1) := by decide +kernel
theorem dX5_countOf_19 : decode cX5_countOf 19 = .ok (.if_icmp .ne 6, 3) := by decide +kernel
theorem dX5_countOf_22 : decode cX5_countOf 22 = .ok (.iinc 2 1, 3) := by decide +kernel
theorem dX5_countOf_25 : decode cX5_countOf 25 = .ok (.iinc 3 1, 3) := by decide +kernel
theorem dX5_countOf_28 : decode cX5_countOf 28 = .ok (.goto (-24), 3) := by decide +kernel
theorem dX5_countOf_31 : decode cX5_countOf 31 = .ok (.iload_n 2, 1) := by decide +kernel
theorem dX5_countOf_32 : decode cX5_countOf 32 = .ok (.ireturn, 1) := by decide +kernel
theorem dX5_greatestSize_0 : decode cX5_greatestSize 0 = .ok (.iconst 0, 1) := by decide +kernel
theorem dX5_greatestSize_1 : decode cX5_greatestSize 1 = .ok (.istore_n 1, 1) := by decide +kernel
theorem dX5_greatestSize_2 : decode cX5_greatestSize 2 = .ok (.iconst 0, 1) := by decide +kernel
theorem dX5_greatestSize_3 : decode cX5_greatestSize 3 = .ok (.istore_n 2, 1) := by decide +kernel
theorem dX5_greatestSize_4 : decode cX5_greatestSize 4 = .ok (.iload_n 2, 1) := by decide +kernel
theorem dX5_greatestSize_5 : decode cX5_greatestSize 5 = .ok (.aload_n 0, 1) := by decide +kernel
theorem dX5_greatestSize_6 : decode cX5_greatestSize 6 = .ok (.getfield 33, 3) := by decide +kernel
theorem dX5_greatestSize_9 : decode cX5_greatestSize 9 = .ok (.if_icmp .ge 20, 3) := by decide +kernel
theorem dX5_greatestSize_12 : decode cX5_greatestSize 12 = .ok (.iload_n 1, 1) := by decide +kernel
theorem dX5_greatestSize_13 : decode cX5_greatestSize 13 = .ok (.aload_n 0, 1) := by decide +kernel
theorem dX5_greatestSize_14 : decode cX5_greatestSize 14 = .ok (.getfield 27, 3) := by decide +kernel
theorem dX5_greatestSize_17 : decode cX5_greatestSize 17 = .ok (.iload_n 2, 1) := by decide +kernel
theorem dX5_greatestSize_18 : decode cX5_greatestSize 18 = .ok (.iaload, 1) := by decide +kernel
theorem dX5_greatestSize_19 : decode cX5_greatestSize 19 = .ok (.invokestatic 44, 3) := by decide +kernel
theorem dX5_greatestSize_22 : decode cX5_greatestSize 22 = .ok (.istore_n 1, 1) := by decide +kernel
theorem dX5_greatestSize_23 : decode cX5_greatestSize 23 = .ok (.iinc 2 1, 3) := by decide +kernel
theorem dX5_greatestSize_26 : decode cX5_greatestSize 26 = .ok (.goto (-22), 3) := by decide +kernel
theorem dX5_greatestSize_29 : decode cX5_greatestSize 29 = .ok (.iload_n 1, 1) := by decide +kernel
theorem dX5_greatestSize_30 : decode cX5_greatestSize 30 = .ok (.ireturn, 1) := by decide +kernel
theorem dX5_copyFrom_0 : decode cX5_copyFrom 0 = .ok (.aload_n 0, 1) := by decide +kernel
theorem dX5_copyFrom_1 : decode cX5_copyFrom 1 = .ok (.aload_n 1, 1) := by decide +kernel
theorem dX5_copyFrom_2 : decode cX5_copyFrom 2 = .ok (.getfield 33, 3) := by decide +kernel
theorem dX5_copyFrom_5 : decode cX5_copyFrom 5 = .ok (.putfield 33, 3) := by decide +kernel
theorem dX5_copyFrom_8 : decode cX5_copyFrom 8 = .ok (.iconst 0, 1) := by decide +kernel
theorem dX5_copyFrom_9 : decode cX5_copyFrom 9 = .ok (.istore_n 2, 1) := by decide +kernel
theorem dX5_copyFrom_10 : decode cX5_copyFrom 10 = .ok (.iload_n 2, 1) := by decide +kernel
theorem dX5_copyFrom_11 : decode cX5_copyFrom 11 = .ok (.aload_n 0, 1) := by decide +kernel
theorem dX5_copyFrom_12 : decode cX5_copyFrom 12 = .ok (.getfield 33, 3) := by decide +kernel
theorem dX5_copyFrom_15 : decode cX5_copyFrom 15 = .ok (.if_icmp .ge 93, 3) := by decide +kernel
theorem dX5_copyFrom_18 : decode cX5_copyFrom 18 = .ok (.aload_n 0, 1) := by decide +kernel
theorem dX5_copyFrom_19 : decode cX5_copyFrom 19 = .ok (.getfield 9, 3) := by decide +kernel
theorem dX5_copyFrom_22 : decode cX5_copyFrom 22 = .ok (.iload_n 2, 1) := by decide +kernel
theorem dX5_copyFrom_23 : decode cX5_copyFrom 23 = .ok (.aload_n 1, 1) := by decide +kernel
theorem dX5_copyFrom_24 : decode cX5_copyFrom 24 = .ok (.getfield 9, 3) := by decide +kernel
theorem dX5_copyFrom_27 : decode cX5_copyFrom 27 = .ok (.iload_n 2, 1) := by decide +kernel
theorem dX5_copyFrom_28 : decode cX5_copyFrom 28 = .ok (.iaload, 1) := by decide +kernel
theorem dX5_copyFrom_29 : decode cX5_copyFrom 29 = .ok (.iastore, 1) := by decide +kernel
theorem dX5_copyFrom_30 : decode cX5_copyFrom 30 = .ok (.aload_n 0, 1) := by decide +kernel
theorem dX5_copyFrom_31 : decode cX5_copyFrom 31 = .ok (.getfield 15, 3) := by decide +kernel
theorem dX5_copyFrom_34 : decode cX5_copyFrom 34 = .ok (.iload_n 2, 1) := by decide +kernel
theorem dX5_copyFrom_35 : decode cX5_copyFrom 35 = .ok (.aload_n 1, 1) := by decide +kernel
theorem dX5_copyFrom_36 : decode cX5_copyFrom 36 = .ok (.getfield 15, 3) := by decide +kernel
theorem dX5_copyFrom_39 : decode cX5_copyFrom 39 = .ok (.iload_n 2, 1) := by decide +kernel
theorem dX5_copyFrom_40 : decode cX5_copyFrom 40 = .ok (.iaload, 1) := by decide +kernel
theorem dX5_copyFrom_41 : decode cX5_copyFrom 41 = .ok (.iastore, 1) := by decide +kernel
theorem dX5_copyFrom_42 : decode cX5_copyFrom 42 = .ok (.aload_n 0, 1) := by decide +kernel
theorem dX5_copyFrom_43 : decode cX5_copyFrom 43 = .ok (.getfield 18, 3) := by decide +kernel
theorem dX5_copyFrom_46 : decode cX5_copyFrom 46 = .ok (.iload_n 2, 1) := by decide +kernel
theorem dX5_copyFrom_47 : decode cX5_copyFrom 47 = .ok (.aload_n 1, 1) := by decide +kernel
theorem dX5_copyFrom_48 : decode cX5_copyFrom 48 = .ok (.getfield 18, 3) := by decide +kernel
theorem dX5_copyFrom_51 : decode cX5_copyFrom 51 = .ok (.iload_n 2, 1) := by decide +kernel
theorem dX5_copyFrom_52 : decode cX5_copyFrom 52 = .ok (.iaload, 1) := by decide +kernel
theorem dX5_copyFrom_53 : decode cX5_copyFrom 53 = .ok (.iastore, 1) := by decide +kernel
theorem dX5_copyFrom_54 : decode cX5_copyFrom 54 = .ok (.aload_n 0, 1) := by decide +kernel
theorem dX5_copyFrom_55 : decode cX5_copyFrom 55 = .ok (.getfield 21, 3) := by decide +kernel
theorem dX5_copyFrom_58 : decode cX5_copyFrom 58 = .ok (.iload_n 2, 1) := by decide +kernel
theorem dX5_copyFrom_59 : decode cX5_copyFrom 59 = .ok (.aload_n 1, 1) := by decide +kernel
theorem dX5_copyFrom_60 : decode cX5_copyFrom 60 = .ok (.getfield 21, 3) := by decide +kernel
theorem dX5_copyFrom_63 : decode cX5_copyFrom 63 = .ok (.iload_n 2, 1) := by decide +kernel
theorem dX5_copyFrom_64 : decode cX5_copyFrom 64 = .ok (.iaload, 1) := by decide +kernel
theorem dX5_copyFrom_65 : decode cX5_copyFrom 65 = .ok (.iastore, 1) := by decide +kernel
theorem dX5_copyFrom_66 : decode cX5_copyFrom 66 = .ok (.aload_n 0, 1) := by decide +kernel
theorem dX5_copyFrom_67 : decode cX5_copyFrom 67 = .ok (.getfield 24, 3) := by decide +kernel
theorem dX5_copyFrom_70 : decode cX5_copyFrom 70 = .ok (.iload_n 2, 1) := by decide +kernel
theorem dX5_copyFrom_71 : decode cX5_copyFrom 71 = .ok (.aload_n 1, 1) := by decide +kernel
theorem dX5_copyFrom_72 : decode cX5_copyFrom 72 = .ok (.getfield 24, 3) := by decide +kernel
theorem dX5_copyFrom_75 : decode cX5_copyFrom 75 = .ok (.iload_n 2, 1) := by decide +kernel
theorem dX5_copyFrom_76 : decode cX5_copyFrom 76 = .ok (.iaload, 1) := by decide +kernel
theorem dX5_copyFrom_77 : decode cX5_copyFrom 77 = .ok (.iastore, 1) := by decide +kernel
theorem dX5_copyFrom_78 : decode cX5_copyFrom 78 = .ok (.aload_n 0, 1) := by decide +kernel
theorem dX5_copyFrom_79 : decode cX5_copyFrom 79 = .ok (.getfield 27, 3) := by decide +kernel
theorem dX5_copyFrom_82 : decode cX5_copyFrom 82 = .ok (.iload_n 2, 1) := by decide +kernel
theorem dX5_copyFrom_83 : decode cX5_copyFrom 83 = .ok (.aload_n 1, 1) := by decide +kernel
theorem dX5_copyFrom_84 : decode cX5_copyFrom 84 = .ok (.getfield 27, 3) := by decide +kernel
theorem dX5_copyFrom_87 : decode cX5_copyFrom 87 = .ok (.iload_n 2, 1) := by decide +kernel
theorem dX5_copyFrom_88 : decode cX5_copyFrom 88 = .ok (.iaload, 1) := by decide +kernel
theorem dX5_copyFrom_89 : decode cX5_copyFrom 89 = .ok (.iastore, 1) := by decide +kernel
theorem dX5_copyFrom_90 : decode cX5_copyFrom 90 = .ok (.aload_n 0, 1) := by decide +kernel
theorem dX5_copyFrom_91 : decode cX5_copyFrom 91 = .ok (.getfield 30, 3) := by decide +kernel
theorem dX5_copyFrom_94 : decode cX5_copyFrom 94 = .ok (.iload_n 2, 1) := by decide +kernel
theorem dX5_copyFrom_95 : decode cX5_copyFrom 95 = .ok (.aload_n 1, 1) := by decide +kernel
theorem dX5_copyFrom_96 : decode cX5_copyFrom 96 = .ok (.getfield 30, 3) := by decide +kernel
theorem dX5_copyFrom_99 : decode cX5_copyFrom 99 = .ok (.iload_n 2, 1) := by decide +kernel
theorem dX5_copyFrom_100 : decode cX5_copyFrom 100 = .ok (.iaload, 1) := by decide +kernel
theorem dX5_copyFrom_101 : decode cX5_copyFrom 101 = .ok (.iastore, 1) := by decide +kernel
theorem dX5_copyFrom_102 : decode cX5_copyFrom 102 = .ok (.iinc 2 1, 3) := by decide +kernel
theorem dX5_copyFrom_105 : decode cX5_copyFrom 105 = .ok (.goto (-95), 3) := by decide +kernel
end
section
theorem dX5_copyFrom_108 : decode cX5_copyFrom 108 = .ok (.return_, 1) := by decide +kernel
theorem dX6_init_0 : decode cX6_init 0 = .ok (.aload_n 0, 1) := by decide +kernel
theorem dX6_init_1 : decode cX6_init 1 = .ok (.invokespecial 3, 3) := by decide +kernel
theorem dX6_init_4 : decode cX6_init 4 = .ok (.aload_n 0, 1) := by decide +kernel
theorem dX6_init_5 : decode cX6_init 5 = .ok (.bipush 40, 2) := by decide +kernel
theorem dX6_init_7 : decode cX6_init 7 = .ok (.newarray .int, 2) := by decide +kernel
theorem dX6_init_9 : decode cX6_init 9 = .ok (.putfield 9, 3) := by decide +kernel
theorem dX6_init_12 : decode cX6_init 12 = .ok (.aload_n 0, 1) := by decide +kernel
theorem dX6_init_13 : decode cX6_init 13 = .ok (.bipush 40, 2) := by decide +kernel
theorem dX6_init_15 : decode cX6_init 15 = .ok (.newarray .int, 2) := by decide +kernel
theorem dX6_init_17 : decode cX6_init 17 = .ok (.putfield 15, 3) := by decide +kernel
theorem dX6_init_20 : decode cX6_init 20 = .ok (.aload_n 0, 1) := by decide +kernel
theorem dX6_init_21 : decode cX6_init 21 = .ok (.bipush 40, 2) := by decide +kernel
theorem dX6_init_23 : decode cX6_init 23 = .ok (.newarray .int, 2) := by decide +kernel
theorem dX6_init_25 : decode cX6_init 25 = .ok (.putfield 18, 3) := by decide +kernel
theorem dX6_init_28 : decode cX6_init 28 = .ok (.aload_n 0, 1) := by decide +kernel
theorem dX6_init_29 : decode cX6_init 29 = .ok (.iconst 0, 1) := by decide +kernel
theorem dX6_init_30 : decode cX6_init 30 = .ok (.putfield 21, 3) := by decide +kernel
theorem dX6_init_33 : decode cX6_init 33 = .ok (.aload_n 0, 1) := by decide +kernel
theorem dX6_init_34 : decode cX6_init 34 = .ok (.iconst (-1), 1) := by decide +kernel
theorem dX6_init_35 : decode cX6_init 35 = .ok (.putfield 25, 3) := by decide +kernel
theorem dX6_init_38 : decode cX6_init 38 = .ok (.aload_n 0, 1) := by decide +kernel
theorem dX6_init_39 : decode cX6_init 39 = .ok (.iconst (-1), 1) := by decide +kernel
theorem dX6_init_40 : decode cX6_init 40 = .ok (.putfield 28, 3) := by decide +kernel
theorem dX6_init_43 : decode cX6_init 43 = .ok (.aload_n 0, 1) := by decide +kernel
theorem dX6_init_44 : decode cX6_init 44 = .ok (.bipush (-5), 2) := by decide +kernel
theorem dX6_init_46 : decode cX6_init 46 = .ok (.putfield 31, 3) := by decide +kernel
theorem dX6_init_49 : decode cX6_init 49 = .ok (.aload_n 0, 1) := by decide +kernel
theorem dX6_init_50 : decode cX6_init 50 = .ok (.aload_n 1, 1) := by decide +kernel
theorem dX6_init_51 : decode cX6_init 51 = .ok (.putfield 34, 3) := by decide +kernel
theorem dX6_init_54 : decode cX6_init 54 = .ok (.return_, 1) := by decide +kernel
theorem dX6_unfold_0 : decode cX6_unfold 0 = .ok (.aload_n 0, 1) := by decide +kernel
theorem dX6_unfold_1 : decode cX6_unfold 1 = .ok (.aload_n 0, 1) := by decide +kernel
theorem dX6_unfold_2 : decode cX6_unfold 2 = .ok (.getfield 34, 3) := by decide +kernel
theorem dX6_unfold_5 : decode cX6_unfold 5 = .ok (.iload_n 1, 1) := by decide +kernel
theorem dX6_unfold_6 : decode cX6_unfold 6 = .ok (.invokevirtual 38, 3) := by decide +kernel
theorem dX6_unfold_9 : decode cX6_unfold 9 = .ok (.bipush 40, 2) := by decide +kernel
theorem dX6_unfold_11 : decode cX6_unfold 11 = .ok (.invokestatic 44, 3) := by decide +kernel
theorem dX6_unfold_14 : decode cX6_unfold 14 = .ok (.putfield 21, 3) := by decide +kernel
theorem dX6_unfold_17 : decode cX6_unfold 17 = .ok (.aload_n 0, 1) := by decide +kernel
theorem dX6_unfold_18 : decode cX6_unfold 18 = .ok (.iconst (-1), 1) := by decide +kernel
theorem dX6_unfold_19 : decode cX6_unfold 19 = .ok (.putfield 25, 3) := by decide +kernel
theorem dX6_unfold_22 : decode cX6_unfold 22 = .ok (.aload_n 0, 1) := by decide +kernel
theorem dX6_unfold_23 : decode cX6_unfold 23 = .ok (.iconst (-1), 1) := by decide +kernel
theorem dX6_unfold_24 : decode cX6_unfold 24 = .ok (.putfield 28, 3) := by decide +kernel
theorem dX6_unfold_27 : decode cX6_unfold 27 = .ok (.aload_n 0, 1) := by decide +kernel
theorem dX6_unfold_28 : decode cX6_unfold 28 = .ok (.iconst 0, 1) := by decide +kernel
theorem dX6_unfold_29 : decode cX6_unfold 29 = .ok (.iload_n 1, 1) := by decide +kernel
theorem dX6_unfold_30 : decode cX6_unfold 30 = .ok (.invokevirtual 50, 3) := by decide +kernel
theorem dX6_unfold_33 : decode cX6_unfold 33 = .ok (.iconst 0, 1) := by decide +kernel
theorem dX6_unfold_34 : decode cX6_unfold 34 = .ok (.istore_n 2, 1) := by decide +kernel
theorem dX6_unfold_35 : decode cX6_unfold 35 = .ok (.iload_n 2, 1) := by decide +kernel
theorem dX6_unfold_36 : decode cX6_unfold 36 = .ok (.aload_n 0, 1) := by decide +kernel
theorem dX6_unfold_37 : decode cX6_unfold 37 = .ok (.getfield 21, 3) := by decide +kernel
theorem dX6_unfold_40 : decode cX6_unfold 40 = .ok (.if_icmp .ge 110, 3) := by decide +kernel
theorem dX6_unfold_43 : decode cX6_unfold 43 = .ok (.aload_n 0, 1) := by decide +kernel
theorem dX6_unfold_44 : decode cX6_unfold 44 = .ok (.getfield 9, 3) := by decide +kernel
theorem dX6_unfold_47 : decode cX6_unfold 47 = .ok (.iload_n 2, 1) := by decide +kernel
theorem dX6_unfold_48 : decode cX6_unfold 48 = .ok (.iaload, 1) := by decide +kernel
theorem dX6_unfold_49 : decode cX6_unfold 49 = .ok (.istore_n 3, 1) := by decide +kernel
theorem dX6_unfold_50 : decode cX6_unfold 50 = .ok (.aload_n 0, 1) := by decide +kernel
theorem dX6_unfold_51 : decode cX6_unfold 51 = .ok (.getfield 34, 3) := by decide +kernel
theorem dX6_unfold_54 : decode cX6_unfold 54 = .ok (.iload_n 3, 1) := by decide +kernel
theorem dX6_unfold_55 : decode cX6_unfold 55 = .ok (.invokevirtual 54, 3) := by decide +kernel
theorem dX6_unfold_58 : decode cX6_unfold 58 = .ok (.ifCond .eq 15, 3) := by decide +kernel
theorem dX6_unfold_61 : decode cX6_unfold 61 = .ok (.aload_n 0, 1) := by decide +kernel
theorem dX6_unfold_62 : decode cX6_unfold 62 = .ok (.getfield 34, 3) := by decide +kernel
theorem dX6_unfold_65 : decode cX6_unfold 65 = .ok (.getfield 58, 3) := by decide +kernel
theorem dX6_unfold_68 : decode cX6_unfold 68 = .ok (.iload_n 3, 1) := by decide +kernel
theorem dX6_unfold_69 : decode cX6_unfold 69 = .ok (.iaload, 1) := by decide +kernel
theorem dX6_unfold_70 : decode cX6_unfold 70 = .ok (.goto 5, 3) := by decide +kernel
theorem dX6_unfold_73 : decode cX6_unfold 73 = .ok (.bipush (-5), 2) := by decide +kernel
theorem dX6_unfold_75 : decode cX6_unfold 75 = .ok (.istore 4, 2) := by decide +kernel
theorem dX6_unfold_77 : decode cX6_unfold 77 = .ok (.aload_n 0, 1) := by decide +kernel
theorem dX6_unfold_78 : decode cX6_unfold 78 = .ok (.getfield 34, 3) := by decide +kernel
theorem dX6_unfold_81 : decode cX6_unfold 81 = .ok (.iload_n 3, 1) := by decide +kernel
theorem dX6_unfold_82 : decode cX6_unfold 82 = .ok (.invokevirtual 54, 3) := by decide +kernel
theorem dX6_unfold_85 : decode cX6_unfold 85 = .ok (.ifCond .eq 15, 3) := by decide +kernel
theorem dX6_unfold_88 : decode cX6_unfold 88 = .ok (.aload_n 0, 1) := by decide +kernel
theorem dX6_unfold_89 : decode cX6_unfold 89 = .ok (.getfield 34, 3) := by decide +kernel
theorem dX6_unfold_92 : decode cX6_unfold 92 = .ok (.getfield 61, 3) := by decide +kernel
theorem dX6_unfold_95 : decode cX6_unfold 95 = .ok (.iload_n 3, 1) := by decide +kernel
theorem dX6_unfold_96 : decode cX6_unfold 96 = .ok (.iaload, 1) := by decide +kernel
theorem dX6_unfold_97 : decode cX6_unfold 97 = .ok (.goto 5, 3) := by decide +kernel
theorem dX6_unfold_100 : decode cX6_unfold 100 = .ok (.bipush (-5), 2) := by decide +kernel
theorem dX6_unfold_102 : decode cX6_unfold 102 = .ok (.istore 5, 2) := by decide +kernel
theorem dX6_unfold_104 : decode cX6_unfold 104 = .ok (.aload_n 0, 1) := by decide +kernel
theorem dX6_unfold_105 : decode cX6_unfold 105 = .ok (.getfield 15, 3) := by decide +kernel
theorem dX6_unfold_108 : decode cX6_unfold 108 = .ok (.iload_n 2, 1) := by decide +kernel
theorem dX6_unfold_109 : decode cX6_unfold 109 = .ok (.iload_n 2, 1) := by decide +kernel
theorem dX6_unfold_110 : decode cX6_unfold 110 = .ok (.iconst 1, 1) := by decide +kernel
theorem dX6_unfold_111 : decode cX6_unfold 111 = .ok (.iadd, 1) := by decide +kernel
theorem dX6_unfold_112 : decode cX6_unfold 112 = .ok (.aload_n 0, 1) := by decide +kernel
theorem dX6_unfold_113 : decode cX6_unfold 113 = .ok (.getfield 34, 3) := by decide +kernel
theorem dX6_unfold_116 : decode cX6_unfold 116 = .ok (.iload 4, 2) := by decide +kernel
theorem dX6_unfold_118 : decode cX6_unfold 118 = .ok (.invokevirtual 38, 3) := by decide +kernel
theorem dX6_unfold_121 : decode cX6_unfold 121 = .ok (.iadd, 1) := by decide +kernel
theorem dX6_unfold_122 : decode cX6_unfold 122 = .ok (.iastore, 1) := by decide +kernel
theorem dX6_unfold_123 : decode cX6_unfold 123 = .ok (.aload_n 0, 1) := by decide +kernel
theorem dX6_unfold_124 : decode cX6_unfold 124 = .ok (.iload_n 2, 1) := by decide +kernel
theorem dX6_unfold_125 : decode cX6_unfold 125 = .ok (.iconst 1, 1) := by decide +kernel
theorem dX6_unfold_126 : decode cX6_unfold 126 = .ok (.iadd, 1) := by decide +kernel
theorem dX6_unfold_127 : decode cX6_unfold 127 = .ok (.iload 4, 2) := by decide +kernel
theorem dX6_unfold_129 : decode cX6_unfold 129 = .ok (.invokevirtual 50, 3) := by decide +kernel
theorem dX6_unfold_132 : decode cX6_unfold 132 = .ok (.aload_n 0, 1) := by decide +kernel
theorem dX6_unfold_133 : decode cX6_unfold 133 = .ok (.aload_n 0, 1) := by decide +kernel
theorem dX6_unfold_134 : decode cX6_unfold 134 = .ok (.getfield 15, 3) := by decide +kernel
theorem dX6_unfold_137 : decode cX6_unfold 137 = .ok (.iload_n 2, 1) := by decide +kernel
theorem dX6_unfold_138 : decode cX6_unfold 138 = .ok (.iaload, 1) := by decide +kernel
theorem dX6_unfold_139 : decode cX6_unfold 139 = .ok (.iload 5, 2) := by decide +kernel
theorem dX6_unfold_141 : decode cX6_unfold 141 = .ok (.invokevirtual 50, 3) := by decide +kernel
theorem dX6_unfold_144 : decode cX6_unfold 144 = .ok (.iinc 2 1, 3) := by decide +kernel
theorem dX6_unfold_147 : decode cX6_unfold 147 = .ok (.goto (-112), 3) := by decide +kernel
theorem dX6_unfold_150 : decode cX6_unfold 150 = .ok (.return_, 1) := by decide +kernel
theorem dX6_setPlace_0 : decode cX6_setPlace 0 = .ok (.iload_n 1, 1) := by decide +kernel
theorem dX6_setPlace_1 : decode cX6_setPlace 1 = .ok (.aload_n 0, 1) := by decide +kernel
theorem dX6_setPlace_2 : decode cX6_setPlace 2 = .ok (.getfield 21, 3) := by decide +kernel
theorem dX6_setPlace_5 : decode cX6_setPlace 5 = .ok (.if_icmp .ge 21, 3) := by decide +kernel
theorem dX6_setPlace_8 : decode cX6_setPlace 8 = .ok (.aload_n 0, 1) := by decide +kernel
theorem dX6_setPlace_9 : decode cX6_setPlace 9 = .ok (.getfield 34, 3) := by decide +kernel
theorem dX6_setPlace_12 : decode cX6_setPlace 12 = .ok (.iload_n 2, 1) := by decide +kernel
theorem dX6_setPlace_13 : decode cX6_setPlace 13 = .ok (.invokevirtual 54, 3) := by decide +kernel
theorem dX6_setPlace_16 : decode cX6_setPlace 16 = .ok (.ifCond .eq 10, 3) := by decide +kernel
theorem dX6_setPlace_19 : decode cX6_setPlace 19 = .ok (.aload_n 0, 1) := by decide +kernel
theorem dX6_setPlace_20 : decode cX6_setPlace 20 = .ok (.getfield 9, 3) := by decide +kernel
theorem dX6_setPlace_23 : decode cX6_setPlace 23 = .ok (.iload_n 1, 1) := by decide +kernel
theorem dX6_setPlace_24 : decode cX6_setPlace 24 = .ok (.iload_n 2, 1) := by decide +kernel
theorem dX6_setPlace_25 : decode cX6_setPlace 25 = .ok (.iastore, 1) := by decide +kernel
theorem dX6_setPlace_26 : decode cX6_setPlace 26 = .ok (.return_, 1) := by decide +kernel
theorem dX6_silence_0 : decode cX6_silence 0 = .ok (.aload_n 0, 1) := by decide +kernel
theorem dX6_silence_1 : decode cX6_silence 1 = .ok (.iload_n 1, 1) := by decide +kernel
theorem dX6_silence_2 : decode cX6_silence 2 = .ok (.putfield 25, 3) := by decide +kernel
theorem dX6_silence_5 : decode cX6_silence 5 = .ok (.return_, 1) := by decide +kernel
theorem dX6_suppose_0 : decode cX6_suppose 0 = .ok (.aload_n 0, 1) := by decide +kernel
theorem dX6_suppose_1 : decode cX6_suppose 1 = .ok (.iload_n 1, 1) := by decide +kernel
theorem dX6_suppose_2 : decode cX6_suppose 2 = .ok (.putfield 28, 3) := by decide +kernel
theorem dX6_suppose_5 : decode cX6_suppose 5 = .ok (.aload_n 0, 1) := by decide +kernel
theorem dX6_suppose_6 : decode cX6_suppose 6 = .ok (.iload_n 2, 1) := by decide +kernel
theorem dX6_suppose_7 : decode cX6_suppose 7 = .ok (.putfield 31, 3) := by decide +kernel
theorem dX6_suppose_10 : decode cX6_suppose 10 = .ok (.return_, 1) := by decide +kernel
theorem dX6_answer_0 : decode cX6_answer 0 = .ok (.aload_n 0, 1) := by decide +kernel
theorem dX6_answer_1 : decode cX6_answer 1 = .ok (.getfield 21, 3) := by decide +kernel
theorem dX6_answer_4 : decode cX6_answer 4 = .ok (.iconst 1, 1) := by decide +kernel
theorem dX6_answer_5 : decode cX6_answer 5 = .ok (.isub, 1) := by decide +kernel
theorem dX6_answer_6 : decode cX6_answer 6 = .ok (.istore_n 2, 1) := by decide +kernel
theorem dX6_answer_7 : decode cX6_answer 7 = .ok (.iload_n 2, 1) := by decide +kernel
theorem dX6_answer_8 : decode cX6_answer 8 = .ok (.ifCond .lt 34, 3) := by decide +kernel
theorem dX6_answer_11 : decode cX6_answer 11 = .ok (.aload_n 0, 1) := by decide +kernel
theorem dX6_answer_12 : decode cX6_answer 12 = .ok (.getfield 18, 3) := by decide +kernel
theorem dX6_answer_15 : decode cX6_answer 15 = .ok (.iload_n 2, 1) := by decide +kernel
theorem dX6_answer_16 : decode cX6_answer 16 = .ok (.iload_n 2, 1) := by decide +kernel
theorem dX6_answer_17 : decode cX6_answer 17 = .ok (.aload_n 0, 1) := by decide +kernel
theorem dX6_answer_18 : decode cX6_answer 18 = .ok (.getfield 25, 3) := by decide +kernel
theorem dX6_answer_21 : decode cX6_answer 21 = .ok (.if_icmp .ne 8, 3) := by decide +kernel
theorem dX6_answer_24 : decode cX6_answer 24 = .ok (.bipush (-5), 2) := by decide +kernel
theorem dX6_answer_26 : decode cX6_answer 26 = .ok (.goto 9, 3) := by decide +kernel
theorem dX6_answer_29 : decode cX6_answer 29 = .ok (.aload_n 0, 1) := by decide +kernel
theorem dX6_answer_30 : decode cX6_answer 30 = .ok (.iload_n 2, 1) := by decide +kernel
theorem dX6_answer_31 : decode cX6_answer 31 = .ok (.iload_n 1, 1) := by decide +kernel
theorem dX6_answer_32 : decode cX6_answer 32 = .ok (.invokevirtual 64, 3) := by decide +kernel
theorem dX6_answer_35 : decode cX6_answer 35 = .ok (.iastore, 1) := by decide +kernel
theorem dX6_answer_36 : decode cX6_answer 36 = .ok (.iinc 2 (-1), 3) := by decide +kernel
theorem dX6_answer_39 : decode cX6_answer 39 = .ok (.goto (-32), 3) := by decide +kernel
theorem dX6_answer_42 : decode cX6_answer 42 = .ok (.aload_n 0, 1) := by decide +kernel
theorem dX6_answer_43 : decode cX6_answer 43 = .ok (.iconst 0, 1) := by decide +kernel
theorem dX6_answer_44 : decode cX6_answer 44 = .ok (.invokevirtual 67, 3) := by decide +kernel
theorem dX6_answer_47 : decode cX6_answer 47 = .ok (.ireturn, 1) := by decide +kernel
theorem dX6_saidAt_0 : decode cX6_saidAt 0 = .ok (.iload_n 1, 1) := by decide +kernel
theorem dX6_saidAt_1 : decode cX6_saidAt 1 = .ok (.ifCond .lt 20, 3) := by decide +kernel
theorem dX6_saidAt_4 : decode cX6_saidAt 4 = .ok (.iload_n 1, 1) := by decide +kernel
theorem dX6_saidAt_5 : decode cX6_saidAt 5 = .ok (.aload_n 0, 1) := by decide +kernel
theorem dX6_saidAt_6 : decode cX6_saidAt 6 = .ok (.getfield 21, 3) := by decide +kernel
theorem dX6_saidAt_9 : decode cX6_saidAt 9 = .ok (.if_icmp .ge 12, 3) := by decide +kernel
theorem dX6_saidAt_12 : decode cX6_saidAt 12 = .ok (.aload_n 0, 1) := by decide +kernel
theorem dX6_saidAt_13 : decode cX6_saidAt 13 = .ok (.getfield 18, 3) := by decide +kernel
theorem dX6_saidAt_16 : decode cX6_saidAt 16 = .ok (.iload_n 1, 1) := by decide +kernel
theorem dX6_saidAt_17 : decode cX6_saidAt 17 = .ok (.iaload, 1) := by decide +kernel
theorem dX6_saidAt_18 : decode cX6_saidAt 18 = .ok (.goto 5, 3) := by decide +kernel
theorem dX6_saidAt_21 : decode cX6_saidAt 21 = .ok (.bipush (-5), 2) := by decide +kernel
theorem dX6_saidAt_23 : decode cX6_saidAt 23 = .ok (.ireturn, 1) := by decide +kernel
theorem dX6_termAt_0 : decode cX6_termAt 0 = .ok (.iload_n 1, 1) := by decide +kernel
theorem dX6_termAt_1 : decode cX6_termAt 1 = .ok (.ifCond .lt 20, 3) := by decide +kernel
theorem dX6_termAt_4 : decode cX6_termAt 4 = .ok (.iload_n 1, 1) := by decide +kernel
theorem dX6_termAt_5 : decode cX6_termAt 5 = .ok (.aload_n 0, 1) := by decide +kernel
theorem dX6_termAt_6 : decode cX6_termAt 6 = .ok (.getfield 21, 3) := by decide +kernel
theorem dX6_termAt_9 : decode cX6_termAt 9 = .ok (.if_icmp .ge 12, 3) := by decide +kernel
theorem dX6_termAt_12 : decode cX6_termAt 12 = .ok (.aload_n 0, 1) := by decide +kernel
theorem dX6_termAt_13 : decode cX6_termAt 13 = .ok (.getfield 9, 3) := by decide +kernel
theorem dX6_termAt_16 : decode cX6_termAt 16 = .ok (.iload_n 1, 1) := by decide +kernel
theorem dX6_termAt_17 : decode cX6_termAt 17 = .ok (.iaload, 1) := by decide +kernel
theorem dX6_termAt_18 : decode cX6_termAt 18 = .ok (.goto 4, 3) := by decide +kernel
theorem dX6_termAt_21 : decode cX6_termAt 21 = .ok (.iconst (-1), 1) := by decide +kernel
theorem dX6_termAt_22 : decode cX6_termAt 22 = .ok (.ireturn, 1) := by decide +kernel
theorem dX6_answerAt_0 : decode cX6_answerAt 0 = .ok (.aload_n 0, 1) := by decide +kernel
theorem dX6_answerAt_1 : decode cX6_answerAt 1 = .ok (.iload_n 1, 1) := by decide +kernel
theorem dX6_answerAt_2 : decode cX6_answerAt 2 = .ok (.invokevirtual 70, 3) := by decide +kernel
theorem dX6_answerAt_5 : decode cX6_answerAt 5 = .ok (.istore_n 3, 1) := by decide +kernel
theorem dX6_answerAt_6 : decode cX6_answerAt 6 = .ok (.aload_n 0, 1) := by decide +kernel
theorem dX6_answerAt_7 : decode cX6_answerAt 7 = .ok (.getfield 34, 3) := by decide +kernel
theorem dX6_answerAt_10 : decode cX6_answerAt 10 = .ok (.iload_n 3, 1) := by decide +kernel
theorem dX6_answerAt_11 : decode cX6_answerAt 11 = .ok (.invokevirtual 54, 3) := by decide +kernel
theorem dX6_answerAt_14 : decode cX6_answerAt 14 = .ok (.ifCond .ne 6, 3) := by decide +kernel
theorem dX6_answerAt_17 : decode cX6_answerAt 17 = .ok (.bipush (-5), 2) := by decide +kernel
theorem dX6_answerAt_19 : decode cX6_answerAt 19 = .ok (.ireturn, 1) := by decide +kernel
theorem dX6_answerAt_20 : decode cX6_answerAt 20 = .ok (.aload_n 0, 1) := by decide +kernel
theorem dX6_answerAt_21 : decode cX6_answerAt 21 = .ok (.iload_n 1, 1) := by decide +kernel
theorem dX6_answerAt_22 : decode cX6_answerAt 22 = .ok (.iconst 1, 1) := by decide +kernel
theorem dX6_answerAt_23 : decode cX6_answerAt 23 = .ok (.iadd, 1) := by decide +kernel
theorem dX6_answerAt_24 : decode cX6_answerAt 24 = .ok (.invokevirtual 67, 3) := by decide +kernel
theorem dX6_answerAt_27 : decode cX6_answerAt 27 = .ok (.istore 4, 2) := by decide +kernel
theorem dX6_answerAt_29 : decode cX6_answerAt 29 = .ok (.aload_n 0, 1) := by decide +kernel
theorem dX6_answerAt_30 : decode cX6_answerAt 30 = .ok (.aload_n 0, 1) := by decide +kernel
theorem dX6_answerAt_31 : decode cX6_answerAt 31 = .ok (.getfield 15, 3) := by decide +kernel
theorem dX6_answerAt_34 : decode cX6_answerAt 34 = .ok (.iload_n 1, 1) := by decide +kernel
theorem dX6_answerAt_35 : decode cX6_answerAt 35 = .ok (.iaload, 1) := by decide +kernel
theorem dX6_answerAt_36 : decode cX6_answerAt 36 = .ok (.invokevirtual 67, 3) := by decide +kernel
theorem dX6_answerAt_39 : decode cX6_answerAt 39 = .ok (.istore 5, 2) := by decide +kernel
theorem dX6_answerAt_41 : decode cX6_answerAt 41 = .ok (.aload_n 0, 1) := by decide +kernel
theorem dX6_answerAt_42 : decode cX6_answerAt 42 = .ok (.getfield 34, 3) := by decide +kernel
theorem dX6_answerAt_45 : decode cX6_answerAt 45 = .ok (.getfield 73, 3) := by decide +kernel
theorem dX6_answerAt_48 : decode cX6_answerAt 48 = .ok (.iload_n 3, 1) := by decide +kernel
theorem dX6_answerAt_49 : decode cX6_answerAt 49 = .ok (.iaload, 1) := by decide +kernel
theorem dX6_answerAt_50 : decode cX6_answerAt 50 = .ok (.tableswitch 201 0 7 #[46, 201, 71, 104, 134, 169, 95, 119], 46) := by decide +kernel
theorem dX6_answerAt_96 : decode cX6_answerAt 96 = .ok (.iload_n 3, 1) := by decide +kernel
theorem dX6_answerAt_97 : decode cX6_answerAt 97 = .ok (.aload_n 0, 1) := by decide +kernel
theorem dX6_answerAt_98 : decode cX6_answerAt 98 = .ok (.getfield 28, 3) := by decide +kernel
theorem dX6_answerAt_101 : decode cX6_answerAt 101 = .ok (.if_icmp .ne 10, 3) := by decide +kernel
theorem dX6_answerAt_104 : decode cX6_answerAt 104 = .ok (.aload_n 0, 1) := by decide +kernel
theorem dX6_answerAt_105 : decode cX6_answerAt 105 = .ok (.getfield 31, 3) := by decide +kernel
theorem dX6_answerAt_108 : decode cX6_answerAt 108 = .ok (.goto 12, 3) := by decide +kernel
theorem dX6_answerAt_111 : decode cX6_answerAt 111 = .ok (.aload_n 0, 1) := by decide +kernel
theorem dX6_answerAt_112 : decode cX6_answerAt 112 = .ok (.getfield 34, 3) := by decide +kernel
theorem dX6_answerAt_115 : decode cX6_answerAt 115 = .ok (.getfield 76, 3) := by decide +kernel
theorem dX6_answerAt_118 : decode cX6_answerAt 118 = .ok (.iload_n 3, 1) := by decide +kernel
theorem dX6_answerAt_119 : decode cX6_answerAt 119 = .ok (.iaload, 1) := by decide +kernel
theorem dX6_answerAt_120 : decode cX6_answerAt 120 = .ok (.ireturn, 1) := by decide +kernel
theorem dX6_answerAt_121 : decode cX6_answerAt 121 = .ok (.iload_n 2, 1) := by decide +kernel
theorem dX6_answerAt_122 : decode cX6_answerAt 122 = .ok (.aload_n 0, 1) := by decide +kernel
theorem dX6_answerAt_123 : decode cX6_answerAt 123 = .ok (.getfield 34, 3) := by decide +kernel
theorem dX6_answerAt_126 : decode cX6_answerAt 126 = .ok (.getfield 79, 3) := by decide +kernel
theorem dX6_answerAt_129 : decode cX6_answerAt 129 = .ok (.iload_n 3, 1) := by decide +kernel
theorem dX6_answerAt_130 : decode cX6_answerAt 130 = .ok (.iaload, 1) := by decide +kernel
theorem dX6_answerAt_131 : decode cX6_answerAt 131 = .ok (.invokestatic 82, 3) := by decide +kernel
theorem dX6_answerAt_134 : decode cX6_answerAt 134 = .ok (.ifCond .eq 8, 3) := by decide +kernel
theorem dX6_answerAt_137 : decode cX6_answerAt 137 = .ok (.iload 4, 2) := by decide +kernel
theorem dX6_answerAt_139 : decode cX6_answerAt 139 = .ok (.goto 5, 3) := by decide +kernel
theorem dX6_answerAt_142 : decode cX6_answerAt 142 = .ok (.bipush (-5), 2) := by decide +kernel
theorem dX6_answerAt_144 : decode cX6_answerAt 144 = .ok (.ireturn, 1) := by decide +kernel
theorem dX6_answerAt_145 : decode cX6_answerAt 145 = .ok (.aload_n 0, 1) := by decide +kernel
theorem dX6_answerAt_146 : decode cX6_answerAt 146 = .ok (.iload 4, 2) := by decide +kernel
theorem dX6_answerAt_148 : decode cX6_answerAt 148 = .ok (.iload_n 3, 1) := by decide +kernel
theorem dX6_answerAt_149 : decode cX6_answerAt 149 = .ok (.iload_n 2, 1) := by decide +kernel
theorem dX6_answerAt_150 : decode cX6_answerAt 150 = .ok (.invokevirtual 86, 3) := by decide +kernel
theorem dX6_answerAt_153 : decode cX6_answerAt 153 = .ok (.ireturn, 1) := by decide +kernel
theorem dX6_answerAt_154 : decode cX6_answerAt 154 = .ok (.iload 4, 2) := by decide +kernel
theorem dX6_answerAt_156 : decode cX6_answerAt 156 = .ok (.bipush (-5), 2) := by decide +kernel
theorem dX6_answerAt_158 : decode cX6_answerAt 158 = .ok (.if_icmp .ne 8, 3) := by decide +kernel
theorem dX6_answerAt_161 : decode cX6_answerAt 161 = .ok (.iload 5, 2) := by decide +kernel
theorem dX6_answerAt_163 : decode cX6_answerAt 163 = .ok (.goto 5, 3) := by decide +kernel
theorem dX6_answerAt_166 : decode cX6_answerAt 166 = .ok (.iload 4, 2) := by decide +kernel
theorem dX6_answerAt_168 : decode cX6_answerAt 168 = .ok (.ireturn, 1) := by decide +kernel
theorem dX6_answerAt_169 : decode cX6_answerAt 169 = .ok (.iload 5, 2) := by decide +kernel
theorem dX6_answerAt_171 : decode cX6_answerAt 171 = .ok (.bipush (-5), 2) := by decide +kernel
theorem dX6_answerAt_173 : decode cX6_answerAt 173 = .ok (.if_icmp .ne 8, 3) := by decide +kernel
theorem dX6_answerAt_176 : decode cX6_answerAt 176 = .ok (.iload 4, 2) := by decide +kernel
theorem dX6_answerAt_178 : decode cX6_answerAt 178 = .ok (.goto 5, 3) := by decide +kernel
theorem dX6_answerAt_181 : decode cX6_answerAt 181 = .ok (.bipush (-5), 2) := by decide +kernel
theorem dX6_answerAt_183 : decode cX6_answerAt 183 = .ok (.ireturn, 1) := by decide +kernel
theorem dX6_answerAt_184 : decode cX6_answerAt 184 = .ok (.iload 4, 2) := by decide +kernel
theorem dX6_answerAt_186 : decode cX6_answerAt 186 = .ok (.bipush (-5), 2) := by decide +kernel
theorem dX6_answerAt_188 : decode cX6_answerAt 188 = .ok (.if_icmp .ne 8, 3) := by decide +kernel
theorem dX6_answerAt_191 : decode cX6_answerAt 191 = .ok (.iload 5, 2) := by decide +kernel
theorem dX6_answerAt_193 : decode cX6_answerAt 193 = .ok (.goto 25, 3) := by decide +kernel
theorem dX6_answerAt_196 : decode cX6_answerAt 196 = .ok (.iload 5, 2) := by decide +kernel
theorem dX6_answerAt_198 : decode cX6_answerAt 198 = .ok (.bipush (-5), 2) := by decide +kernel
theorem dX6_answerAt_200 : decode cX6_answerAt 200 = .ok (.if_icmp .ne 8, 3) := by decide +kernel
theorem dX6_answerAt_203 : decode cX6_answerAt 203 = .ok (.iload 4, 2) := by decide +kernel
theorem dX6_answerAt_205 : decode cX6_answerAt 205 = .ok (.goto 13, 3) := by decide +kernel
theorem dX6_answerAt_208 : decode cX6_answerAt 208 = .ok (.iload 4, 2) := by decide +kernel
theorem dX6_answerAt_210 : decode cX6_answerAt 210 = .ok (.iload 5, 2) := by decide +kernel
theorem dX6_answerAt_212 : decode cX6_answerAt 212 = .ok (.iadd, 1) := by decide +kernel
theorem dX6_answerAt_213 : decode cX6_answerAt 213 = .ok (.bipush 99, 2) := by decide +kernel
theorem dX6_answerAt_215 : decode cX6_answerAt 215 = .ok (.invokestatic 44, 3) := by decide +kernel
theorem dX6_answerAt_218 : decode cX6_answerAt 218 = .ok (.ireturn, 1) := by decide +kernel
theorem dX6_answerAt_219 : decode cX6_answerAt 219 = .ok (.iload 4, 2) := by decide +kernel
theorem dX6_answerAt_221 : decode cX6_answerAt 221 = .ok (.bipush (-5), 2) := by decide +kernel
theorem dX6_answerAt_223 : decode cX6_answerAt 223 = .ok (.if_icmp .ne 8, 3) := by decide +kernel
theorem dX6_answerAt_226 : decode cX6_answerAt 226 = .ok (.iload 5, 2) := by decide +kernel
theorem dX6_answerAt_228 : decode cX6_answerAt 228 = .ok (.goto 22, 3) := by decide +kernel
theorem dX6_answerAt_231 : decode cX6_answerAt 231 = .ok (.iload 5, 2) := by decide +kernel
theorem dX6_answerAt_233 : decode cX6_answerAt 233 = .ok (.bipush (-5), 2) := by decide +kernel
theorem dX6_answerAt_235 : decode cX6_answerAt 235 = .ok (.if_icmp .ne 8, 3) := by decide +kernel
theorem dX6_answerAt_238 : decode cX6_answerAt 238 = .ok (.iload 4, 2) := by decide +kernel
theorem dX6_answerAt_240 : decode cX6_answerAt 240 = .ok (.goto 10, 3) := by decide +kernel
theorem dX6_answerAt_243 : decode cX6_answerAt 243 = .ok (.iload 4, 2) := by decide +kernel
theorem dX6_answerAt_245 : decode cX6_answerAt 245 = .ok (.iload 5, 2) := by decide +kernel
theorem dX6_answerAt_247 : decode cX6_answerAt 247 = .ok (.invokestatic 44, 3) := by decide +kernel
theorem dX6_answerAt_250 : decode cX6_answerAt 250 = .ok (.ireturn, 1) := by decide +kernel
theorem dX6_answerAt_251 : decode cX6_answerAt 251 = .ok (.bipush (-5), 2) := by decide +kernel
theorem dX6_answerAt_253 : decode cX6_answerAt 253 = .ok (.ireturn, 1) := by decide +kernel
theorem dX6_capped_0 : decode cX6_capped 0 = .ok (.iload_n 1, 1) := by decide +kernel
theorem dX6_capped_1 : decode cX6_capped 1 = .ok (.bipush (-5), 2) := by decide +kernel
theorem dX6_capped_3 : decode cX6_capped 3 = .ok (.if_icmp .eq 19, 3) := by decide +kernel
theorem dX6_capped_6 : decode cX6_capped 6 = .ok (.iload_n 3, 1) := by decide +kernel
theorem dX6_capped_7 : decode cX6_capped 7 = .ok (.aload_n 0, 1) := by decide +kernel
theorem dX6_capped_8 : decode cX6_capped 8 = .ok (.getfield 34, 3) := by decide +kernel
theorem dX6_capped_11 : decode cX6_capped 11 = .ok (.getfield 79, 3) := by decide +kernel
theorem dX6_capped_14 : decode cX6_capped 14 = .ok (.iload_n 2, 1) := by decide +kernel
theorem dX6_capped_15 : decode cX6_capped 15 = .ok (.iaload, 1) := by decide +kernel
theorem dX6_capped_16 : decode cX6_capped 16 = .ok (.invokestatic 82, 3) := by decide +kernel
theorem dX6_capped_19 : decode cX6_capped 19 = .ok (.ifCond .ne 5, 3) := by decide +kernel
theorem dX6_capped_22 : decode cX6_capped 22 = .ok (.iload_n 1, 1) := by decide +kernel
theorem dX6_capped_23 : decode cX6_capped 23 = .ok (.ireturn, 1) := by decide +kernel
theorem dX6_capped_24 : decode cX6_capped 24 = .ok (.iload_n 1, 1) := by decide +kernel
theorem dX6_capped_25 : decode cX6_capped 25 = .ok (.aload_n 0, 1) := by decide +kernel
theorem dX6_capped_26 : decode cX6_capped 26 = .ok (.getfield 34, 3) := by decide +kernel
theorem dX6_capped_29 : decode cX6_capped 29 = .ok (.getfield 76, 3) := by decide +kernel
theorem dX6_capped_32 : decode cX6_capped 32 = .ok (.iload_n 2, 1) := by decide +kernel
theorem dX6_capped_33 : decode cX6_capped 33 = .ok (.iaload, 1) := by decide +kernel
theorem dX6_capped_34 : decode cX6_capped 34 = .ok (.invokestatic 44, 3) := by decide +kernel
theorem dX6_capped_37 : decode cX6_capped 37 = .ok (.ireturn, 1) := by decide +kernel
theorem dX6_ruleCount_0 : decode cX6_ruleCount 0 = .ok (.iconst 0, 1) := by decide +kernel
theorem dX6_ruleCount_1 : decode cX6_ruleCount 1 = .ok (.istore_n 1, 1) := by decide +kernel
theorem dX6_ruleCount_2 : decode cX6_ruleCount 2 = .ok (.iconst 0, 1) := by decide +kernel
theorem dX6_ruleCount_3 : decode cX6_ruleCount 3 = .ok (.istore_n 2, 1) := by decide +kernel
theorem dX6_ruleCount_4 : decode cX6_ruleCount 4 = .ok (.iload_n 2, 1) := by decide +kernel
theorem dX6_ruleCount_5 : decode cX6_ruleCount 5 = .ok (.aload_n 0, 1) := by decide +kernel
theorem dX6_ruleCount_6 : decode cX6_ruleCount 6 = .ok (.getfield 21, 3) := by decide +kernel
theorem dX6_ruleCount_9 : decode cX6_ruleCount 9 = .ok (.if_icmp .ge 20, 3) := by decide +kernel
theorem dX6_ruleCount_12 : decode cX6_ruleCount 12 = .ok (.aload_n 0, 1) := by decide +kernel
theorem dX6_ruleCount_13 : decode cX6_ruleCount 13 = .ok (.iload_n 2, 1) := by decide +kernel
theorem dX6_ruleCount_14 : decode cX6_ruleCount 14 = .ok (.invokevirtual 90, 3) := by decide +kernel
theorem dX6_ruleCount_17 : decode cX6_ruleCount 17 = .ok (.ifCond .eq 6, 3) := by decide +kernel
theorem dX6_ruleCount_20 : decode cX6_ruleCount 20 = .ok (.iinc 1 1, 3) := by decide +kernel
theorem dX6_ruleCount_23 : decode cX6_ruleCount 23 = .ok (.iinc 2 1, 3) := by decide +kernel
theorem dX6_ruleCount_26 : decode cX6_ruleCount 26 = .ok (.goto (-22), 3) := by decide +kernel
theorem dX6_ruleCount_29 : decode cX6_ruleCount 29 = .ok (.iload_n 1, 1) := by decide +kernel
theorem dX6_ruleCount_30 : decode cX6_ruleCount 30 = .ok (.ireturn, 1) := by decide +kernel
theorem dX6_placeOfRule_0 : decode cX6_placeOfRule 0 = .ok (.iconst 0, 1) := by decide +kernel
theorem dX6_placeOfRule_1 : decode cX6_placeOfRule 1 = .ok (.istore_n 2, 1) := by decide +kernel
theorem dX6_placeOfRule_2 : decode cX6_placeOfRule 2 = .ok (.iconst 0, 1) := by decide +kernel
theorem dX6_placeOfRule_3 : decode cX6_placeOfRule 3 = .ok (.istore_n 3, 1) := by decide +kernel
theorem dX6_placeOfRule_4 : decode cX6_placeOfRule 4 = .ok (.iload_n 3, 1) := by decide +kernel
theorem dX6_placeOfRule_5 : decode cX6_placeOfRule 5 = .ok (.aload_n 0, 1) := by decide +kernel
theorem dX6_placeOfRule_6 : decode cX6_placeOfRule 6 = .ok (.getfield 21, 3) := by decide +kernel
theorem dX6_placeOfRule_9 : decode cX6_placeOfRule 9 = .ok (.if_icmp .ge 27, 3) := by decide +kernel
theorem dX6_placeOfRule_12 : decode cX6_placeOfRule 12 = .ok (.aload_n 0, 1) := by decide +kernel
theorem dX6_placeOfRule_13 : decode cX6_placeOfRule 13 = .ok (.iload_n 3, 1) := by decide +kernel
theorem dX6_placeOfRule_14 : decode cX6_placeOfRule 14 = .ok (.invokevirtual 90, 3) := by decide +kernel
theorem dX6_placeOfRule_17 : decode cX6_placeOfRule 17 = .ok (.ifCond .eq 13, 3) := by decide +kernel
theorem dX6_placeOfRule_20 : decode cX6_placeOfRule 20 = .ok (.iload_n 2, 1) := by decide +kernel
theorem dX6_placeOfRule_21 : decode cX6_placeOfRule 21 = .ok (.iload_n 1, 1) := by decide +kernel
theorem dX6_placeOfRule_22 : decode cX6_placeOfRule 22 = .ok (.if_icmp .ne 5, 3) := by decide +kernel
theorem dX6_placeOfRule_25 : decode cX6_placeOfRule 25 = .ok (.iload_n 3, 1) := by decide +kernel
theorem dX6_placeOfRule_26 : decode cX6_placeOfRule 26 = .ok (.ireturn, 1) := by decide +kernel
theorem dX6_placeOfRule_27 : decode cX6_placeOfRule 27 = .ok (.iinc 2 1, 3) := by decide +kernel
theorem dX6_placeOfRule_30 : decode cX6_placeOfRule 30 = .ok (.iinc 3 1, 3) := by decide +kernel
theorem dX6_placeOfRule_33 : decode cX6_placeOfRule 33 = .ok (.goto (-29), 3) := by decide +kernel
theorem dX6_placeOfRule_36 : decode cX6_placeOfRule 36 = .ok (.iconst (-1), 1) := by decide +kernel
theorem dX6_placeOfRule_37 : decode cX6_placeOfRule 37 = .ok (.ireturn, 1) := by decide +kernel
theorem dX6_isRule_0 : decode cX6_isRule 0 = .ok (.aload_n 0, 1) := by decide +kernel
theorem dX6_isRule_1 : decode cX6_isRule 1 = .ok (.iload_n 1, 1) := by decide +kernel
theorem dX6_isRule_2 : decode cX6_isRule 2 = .ok (.invokevirtual 70, 3) := by decide +kernel
theorem dX6_isRule_5 : decode cX6_isRule 5 = .ok (.istore_n 2, 1) := by decide +kernel
theorem dX6_isRule_6 : decode cX6_isRule 6 = .ok (.aload_n 0, 1) := by decide +kernel
theorem dX6_isRule_7 : decode cX6_isRule 7 = .ok (.getfield 34, 3) := by decide +kernel
theorem dX6_isRule_10 : decode cX6_isRule 10 = .ok (.iload_n 2, 1) := by decide +kernel
theorem dX6_isRule_11 : decode cX6_isRule 11 = .ok (.invokevirtual 54, 3) := by decide +kernel
theorem dX6_isRule_14 : decode cX6_isRule 14 = .ok (.ifCond .eq 20, 3) := by decide +kernel
theorem dX6_isRule_17 : decode cX6_isRule 17 = .ok (.aload_n 0, 1) := by decide +kernel
theorem dX6_isRule_18 : decode cX6_isRule 18 = .ok (.getfield 34, 3) := by decide +kernel
theorem dX6_isRule_21 : decode cX6_isRule 21 = .ok (.getfield 73, 3) := by decide +kernel
theorem dX6_isRule_24 : decode cX6_isRule 24 = .ok (.iload_n 2, 1) := by decide +kernel
theorem dX6_isRule_25 : decode cX6_isRule 25 = .ok (.iaload, 1) := by decide +kernel
theorem dX6_isRule_26 : decode cX6_isRule 26 = .ok (.iconst 2, 1) := by decide +kernel
theorem dX6_isRule_27 : decode cX6_isRule 27 = .ok (.if_icmp .ne 7, 3) := by decide +kernel
theorem dX6_isRule_30 : decode cX6_isRule 30 = .ok (.iconst 1, 1) := by decide +kernel
theorem dX6_isRule_31 : decode cX6_isRule 31 = .ok (.goto 4, 3) := by decide +kernel
theorem dX6_isRule_34 : decode cX6_isRule 34 = .ok (.iconst 0, 1) := by decide +kernel
theorem dX6_isRule_35 : decode cX6_isRule 35 = .ok (.ireturn, 1) := by decide +kernel
theorem dX7_init_0 : decode cX7_init 0 = .ok (.aload_n 0, 1) := by decide +kernel
theorem dX7_init_1 : decode cX7_init 1 = .ok (.invokespecial 3, 3) := by decide +kernel
theorem dX7_init_4 : decode cX7_init 4 = .ok (.aload_n 0, 1) := by decide +kernel
theorem dX7_init_5 : decode cX7_init 5 = .ok (.new 9, 3) := by decide +kernel
theorem dX7_init_8 : decode cX7_init 8 = .ok (.dup, 1) := by decide +kernel
theorem dX7_init_9 : decode cX7_init 9 = .ok (.invokespecial 11, 3) := by decide +kernel
theorem dX7_init_12 : decode cX7_init 12 = .ok (.putfield 12, 3) := by decide +kernel
theorem dX7_init_15 : decode cX7_init 15 = .ok (.aload_n 0, 1) := by decide +kernel
theorem dX7_init_16 : decode cX7_init 16 = .ok (.new 18, 3) := by decide +kernel
theorem dX7_init_19 : decode cX7_init 19 = .ok (.dup, 1) := by decide +kernel
theorem dX7_init_20 : decode cX7_init 20 = .ok (.invokespecial 20, 3) := by decide +kernel
theorem dX7_init_23 : decode cX7_init 23 = .ok (.putfield 21, 3) := by decide +kernel
theorem dX7_init_26 : decode cX7_init 26 = .ok (.aload_n 0, 1) := by decide +kernel
theorem dX7_init_27 : decode cX7_init 27 = .ok (.new 9, 3) := by decide +kernel
theorem dX7_init_30 : decode cX7_init 30 = .ok (.dup, 1) := by decide +kernel
theorem dX7_init_31 : decode cX7_init 31 = .ok (.invokespecial 11, 3) := by decide +kernel
theorem dX7_init_34 : decode cX7_init 34 = .ok (.putfield 25, 3) := by decide +kernel
theorem dX7_init_37 : decode cX7_init 37 = .ok (.aload_n 0, 1) := by decide +kernel
theorem dX7_init_38 : decode cX7_init 38 = .ok (.new 18, 3) := by decide +kernel
theorem dX7_init_41 : decode cX7_init 41 = .ok (.dup, 1) := by decide +kernel
theorem dX7_init_42 : decode cX7_init 42 = .ok (.invokespecial 20, 3) := by decide +kernel
theorem dX7_init_45 : decode cX7_init 45 = .ok (.putfield 28, 3) := by decide +kernel
theorem dX7_init_48 : decode cX7_init 48 = .ok (.aload_n 0, 1) := by decide +kernel
theorem dX7_init_49 : decode cX7_init 49 = .ok (.iconst 0, 1) := by decide +kernel
theorem dX7_init_50 : decode cX7_init 50 = .ok (.putfield 31, 3) := by decide +kernel
theorem dX7_init_53 : decode cX7_init 53 = .ok (.aload_n 0, 1) := by decide +kernel
theorem dX7_init_54 : decode cX7_init 54 = .ok (.new 35, 3) := by decide +kernel
theorem dX7_init_57 : decode cX7_init 57 = .ok (.dup, 1) := by decide +kernel
theorem dX7_init_58 : decode cX7_init 58 = .ok (.aload_n 0, 1) := by decide +kernel
theorem dX7_init_59 : decode cX7_init 59 = .ok (.getfield 12, 3) := by decide +kernel
theorem dX7_init_62 : decode cX7_init 62 = .ok (.invokespecial 37, 3) := by decide +kernel
theorem dX7_init_65 : decode cX7_init 65 = .ok (.putfield 40, 3) := by decide +kernel
theorem dX7_init_68 : decode cX7_init 68 = .ok (.aload_n 0, 1) := by decide +kernel
theorem dX7_init_69 : decode cX7_init 69 = .ok (.new 44, 3) := by decide +kernel
theorem dX7_init_72 : decode cX7_init 72 = .ok (.dup, 1) := by decide +kernel
theorem dX7_init_73 : decode cX7_init 73 = .ok (.invokespecial 46, 3) := by decide +kernel
theorem dX7_init_76 : decode cX7_init 76 = .ok (.putfield 47, 3) := by decide +kernel
theorem dX7_init_79 : decode cX7_init 79 = .ok (.aload_n 0, 1) := by decide +kernel
theorem dX7_init_80 : decode cX7_init 80 = .ok (.new 51, 3) := by decide +kernel
theorem dX7_init_83 : decode cX7_init 83 = .ok (.dup, 1) := by decide +kernel
theorem dX7_init_84 : decode cX7_init 84 = .ok (.aload_n 0, 1) := by decide +kernel
theorem dX7_init_85 : decode cX7_init 85 = .ok (.getfield 12, 3) := by decide +kernel
theorem dX7_init_88 : decode cX7_init 88 = .ok (.invokespecial 53, 3) := by decide +kernel
theorem dX7_init_91 : decode cX7_init 91 = .ok (.putfield 54, 3) := by decide +kernel
theorem dX7_init_94 : decode cX7_init 94 = .ok (.aload_n 0, 1) := by decide +kernel
theorem dX7_init_95 : decode cX7_init 95 = .ok (.new 58, 3) := by decide +kernel
theorem dX7_init_98 : decode cX7_init 98 = .ok (.dup, 1) := by decide +kernel
theorem dX7_init_99 : decode cX7_init 99 = .ok (.aload_n 0, 1) := by decide +kernel
theorem dX7_init_100 : decode cX7_init 100 = .ok (.getfield 12, 3) := by decide +kernel
theorem dX7_init_103 : decode cX7_init 103 = .ok (.invokespecial 60, 3) := by decide +kernel
theorem dX7_init_106 : decode cX7_init 106 = .ok (.putfield 61, 3) := by decide +kernel
theorem dX7_init_109 : decode cX7_init 109 = .ok (.aload_n 0, 1) := by decide +kernel
theorem dX7_init_110 : decode cX7_init 110 = .ok (.new 65, 3) := by decide +kernel
theorem dX7_init_113 : decode cX7_init 113 = .ok (.dup, 1) := by decide +kernel
theorem dX7_init_114 : decode cX7_init 114 = .ok (.invokespecial 67, 3) := by decide +kernel
theorem dX7_init_117 : decode cX7_init 117 = .ok (.putfield 68, 3) := by decide +kernel
theorem dX7_init_120 : decode cX7_init 120 = .ok (.return_, 1) := by decide +kernel
theorem dX7_flat_0 : decode cX7_flat 0 = .ok (.iload_n 1, 1) := by decide +kernel
theorem dX7_flat_1 : decode cX7_flat 1 = .ok (.invokestatic 72, 3) := by decide +kernel
theorem dX7_flat_4 : decode cX7_flat 4 = .ok (.ifCond .ne 6, 3) := by decide +kernel
theorem dX7_flat_7 : decode cX7_flat 7 = .ok (.bipush (-2), 2) := by decide +kernel
theorem dX7_flat_9 : decode cX7_flat 9 = .ok (.ireturn, 1) := by decide +kernel
theorem dX7_flat_10 : decode cX7_flat 10 = .ok (.aload_n 0, 1) := by decide +kernel
theorem dX7_flat_11 : decode cX7_flat 11 = .ok (.getfield 12, 3) := by decide +kernel
theorem dX7_flat_14 : decode cX7_flat 14 = .ok (.iconst 0, 1) := by decide +kernel
theorem dX7_flat_15 : decode cX7_flat 15 = .ok (.iload_n 1, 1) := by decide +kernel
theorem dX7_flat_16 : decode cX7_flat 16 = .ok (.bipush (-5), 2) := by decide +kernel
theorem dX7_flat_18 : decode cX7_flat 18 = .ok (.bipush (-5), 2) := by decide +kernel
theorem dX7_flat_20 : decode cX7_flat 20 = .ok (.bipush (-5), 2) := by decide +kernel
theorem dX7_flat_22 : decode cX7_flat 22 = .ok (.invokevirtual 76, 3) := by decide +kernel
theorem dX7_flat_25 : decode cX7_flat 25 = .ok (.ireturn, 1) := by decide +kernel
theorem dX7_empty_0 : decode cX7_empty 0 = .ok (.aload_n 0, 1) := by decide +kernel
theorem dX7_empty_1 : decode cX7_empty 1 = .ok (.getfield 12, 3) := by decide +kernel
theorem dX7_empty_4 : decode cX7_empty 4 = .ok (.iconst 1, 1) := by decide +kernel
theorem dX7_empty_5 : decode cX7_empty 5 = .ok (.bipush (-5), 2) := by decide +kernel
theorem dX7_empty_7 : decode cX7_empty 7 = .ok (.bipush (-5), 2) := by decide +kernel
theorem dX7_empty_9 : decode cX7_empty 9 = .ok (.bipush (-5), 2) := by decide +kernel
theorem dX7_empty_11 : decode cX7_empty 11 = .ok (.bipush (-5), 2) := by decide +kernel
theorem dX7_empty_13 : decode cX7_empty 13 = .ok (.invokevirtual 76, 3) := by decide +kernel
theorem dX7_empty_16 : decode cX7_empty 16 = .ok (.ireturn, 1) := by decide +kernel
theorem dX7_when_0 : decode cX7_when 0 = .ok (.aload_n 0, 1) := by decide +kernel
theorem dX7_when_1 : decode cX7_when 1 = .ok (.getfield 12, 3) := by decide +kernel
theorem dX7_when_4 : decode cX7_when 4 = .ok (.iload_n 1, 1) := by decide +kernel
theorem dX7_when_5 : decode cX7_when 5 = .ok (.invokevirtual 80, 3) := by decide +kernel
theorem dX7_when_8 : decode cX7_when 8 = .ok (.ifCond .ne 5, 3) := by decide +kernel
theorem dX7_when_11 : decode cX7_when 11 = .ok (.iconst (-1), 1) := by decide +kernel
theorem dX7_when_12 : decode cX7_when 12 = .ok (.ireturn, 1) := by decide +kernel
theorem dX7_when_13 : decode cX7_when 13 = .ok (.iload_n 2, 1) := by decide +kernel
theorem dX7_when_14 : decode cX7_when 14 = .ok (.invokestatic 83, 3) := by decide +kernel
theorem dX7_when_17 : decode cX7_when 17 = .ok (.ifCond .ne 6, 3) := by decide +kernel
theorem dX7_when_20 : decode cX7_when 20 = .ok (.bipush (-2), 2) := by decide +kernel
theorem dX7_when_22 : decode cX7_when 22 = .ok (.ireturn, 1) := by decide +kernel
theorem dX7_when_23 : decode cX7_when 23 = .ok (.aload_n 0, 1) := by decide +kernel
theorem dX7_when_24 : decode cX7_when 24 = .ok (.getfield 12, 3) := by decide +kernel
theorem dX7_when_27 : decode cX7_when 27 = .ok (.iconst 2, 1) := by decide +kernel
theorem dX7_when_28 : decode cX7_when 28 = .ok (.bipush (-5), 2) := by decide +kernel
theorem dX7_when_30 : decode cX7_when 30 = .ok (.iload_n 2, 1) := by decide +kernel
theorem dX7_when_31 : decode cX7_when 31 = .ok (.iload_n 1, 1) := by decide +kernel
theorem dX7_when_32 : decode cX7_when 32 = .ok (.bipush (-5), 2) := by decide +kernel
theorem dX7_when_34 : decode cX7_when 34 = .ok (.invokevirtual 76, 3) := by decide +kernel
theorem dX7_when_37 : decode cX7_when 37 = .ok (.ireturn, 1) := by decide +kernel
theorem dX7_cap_0 : decode cX7_cap 0 = .ok (.aload_n 0, 1) := by decide +kernel
theorem dX7_cap_1 : decode cX7_cap 1 = .ok (.getfield 12, 3) := by decide +kernel
theorem dX7_cap_4 : decode cX7_cap 4 = .ok (.iload_n 1, 1) := by decide +kernel
theorem dX7_cap_5 : decode cX7_cap 5 = .ok (.invokevirtual 80, 3) := by decide +kernel
theorem dX7_cap_8 : decode cX7_cap 8 = .ok (.ifCond .ne 5, 3) := by decide +kernel
theorem dX7_cap_11 : decode cX7_cap 11 = .ok (.iconst (-1), 1) := by decide +kernel
theorem dX7_cap_12 : decode cX7_cap 12 = .ok (.ireturn, 1) := by decide +kernel
theorem dX7_cap_13 : decode cX7_cap 13 = .ok (.iload_n 2, 1) := by decide +kernel
theorem dX7_cap_14 : decode cX7_cap 14 = .ok (.invokestatic 83, 3) := by decide +kernel
theorem dX7_cap_17 : decode cX7_cap 17 = .ok (.ifCond .eq 10, 3) := by decide +kernel
theorem dX7_cap_20 : decode cX7_cap 20 = .ok (.iload_n 3, 1) := by decide +kernel
theorem dX7_cap_21 : decode cX7_cap 21 = .ok (.invokestatic 72, 3) := by decide +kernel
theorem dX7_cap_24 : decode cX7_cap 24 = .ok (.ifCond .ne 6, 3) := by decide +kernel
theorem dX7_cap_27 : decode cX7_cap 27 = .ok (.bipush (-2), 2) := by decide +kernel
theorem dX7_cap_29 : decode cX7_cap 29 = .ok (.ireturn, 1) := by decide +kernel
theorem dX7_cap_30 : decode cX7_cap 30 = .ok (.aload_n 0, 1) := by decide +kernel
theorem dX7_cap_31 : decode cX7_cap 31 = .ok (.getfield 12, 3) := by decide +kernel
theorem dX7_cap_34 : decode cX7_cap 34 = .ok (.bipush 6, 2) := by decide +kernel
theorem dX7_cap_36 : decode cX7_cap 36 = .ok (.iload_n 3, 1) := by decide +kernel
theorem dX7_cap_37 : decode cX7_cap 37 = .ok (.iload_n 2, 1) := by decide +kernel
theorem dX7_cap_38 : decode cX7_cap 38 = .ok (.iload_n 1, 1) := by decide +kernel
theorem dX7_cap_39 : decode cX7_cap 39 = .ok (.bipush (-5), 2) := by decide +kernel
theorem dX7_cap_41 : decode cX7_cap 41 = .ok (.invokevirtual 76, 3) := by decide +kernel
theorem dX7_cap_44 : decode cX7_cap 44 = .ok (.ireturn, 1) := by decide +kernel
theorem dX7_two_0 : decode cX7_two 0 = .ok (.iload_n 1, 1) := by decide +kernel
theorem dX7_two_1 : decode cX7_two 1 = .ok (.invokestatic 86, 3) := by decide +kernel
theorem dX7_two_4 : decode cX7_two 4 = .ok (.ifCond .eq 25, 3) := by decide +kernel
theorem dX7_two_7 : decode cX7_two 7 = .ok (.aload_n 0, 1) := by decide +kernel
theorem dX7_two_8 : decode cX7_two 8 = .ok (.getfield 12, 3) := by decide +kernel
theorem dX7_two_11 : decode cX7_two 11 = .ok (.iload_n 2, 1) := by decide +kernel
theorem dX7_two_12 : decode cX7_two 12 = .ok (.invokevirtual 80, 3) := by decide +kernel
theorem dX7_two_15 : decode cX7_two 15 = .ok (.ifCond .eq 14, 3) := by decide +kernel
theorem dX7_two_18 : decode cX7_two 18 = .ok (.aload_n 0, 1) := by decide +kernel
theorem dX7_two_19 : decode cX7_two 19 = .ok (.getfield 12, 3) := by decide +kernel
theorem dX7_two_22 : decode cX7_two 22 = .ok (.iload_n 3, 1) := by decide +kernel
theorem dX7_two_23 : decode cX7_two 23 = .ok (.invokevirtual 80, 3) := by decide +kernel
theorem dX7_two_26 : decode cX7_two 26 = .ok (.ifCond .ne 5, 3) := by decide +kernel
theorem dX7_two_29 : decode cX7_two 29 = .ok (.iconst (-1), 1) := by decide +kernel
theorem dX7_two_30 : decode cX7_two 30 = .ok (.ireturn, 1) := by decide +kernel
theorem dX7_two_31 : decode cX7_two 31 = .ok (.aload_n 0, 1) := by decide +kernel
theorem dX7_two_32 : decode cX7_two 32 = .ok (.getfield 12, 3) := by decide +kernel
theorem dX7_two_35 : decode cX7_two 35 = .ok (.iload_n 1, 1) := by decide +kernel
theorem dX7_two_36 : decode cX7_two 36 = .ok (.bipush (-5), 2) := by decide +kernel
theorem dX7_two_38 : decode cX7_two 38 = .ok (.bipush (-5), 2) := by decide +kernel
theorem dX7_two_40 : decode cX7_two 40 = .ok (.iload_n 2, 1) := by decide +kernel
theorem dX7_two_41 : decode cX7_two 41 = .ok (.iload_n 3, 1) := by decide +kernel
theorem dX7_two_42 : decode cX7_two 42 = .ok (.invokevirtual 76, 3) := by decide +kernel
theorem dX7_two_45 : decode cX7_two 45 = .ok (.ireturn, 1) := by decide +kernel
theorem dX7_drop_0 : decode cX7_drop 0 = .ok (.aload_n 0, 1) := by decide +kernel
theorem dX7_drop_1 : decode cX7_drop 1 = .ok (.getfield 12, 3) := by decide +kernel
theorem dX7_drop_4 : decode cX7_drop 4 = .ok (.getfield 89, 3) := by decide +kernel
theorem dX7_drop_7 : decode cX7_drop 7 = .ok (.ifCond .ne 6, 3) := by decide +kernel
theorem dX7_drop_10 : decode cX7_drop 10 = .ok (.bipush (-3), 2) := by decide +kernel
theorem dX7_drop_12 : decode cX7_drop 12 = .ok (.ireturn, 1) := by decide +kernel
theorem dX7_drop_13 : decode cX7_drop 13 = .ok (.aload_n 0, 1) := by decide +kernel
theorem dX7_drop_14 : decode cX7_drop 14 = .ok (.getfield 12, 3) := by decide +kernel
theorem dX7_drop_17 : decode cX7_drop 17 = .ok (.aload_n 0, 1) := by decide +kernel
theorem dX7_drop_18 : decode cX7_drop 18 = .ok (.getfield 12, 3) := by decide +kernel
theorem dX7_drop_21 : decode cX7_drop 21 = .ok (.getfield 89, 3) := by decide +kernel
theorem dX7_drop_24 : decode cX7_drop 24 = .ok (.iconst 1, 1) := by decide +kernel
theorem dX7_drop_25 : decode cX7_drop 25 = .ok (.isub, 1) := by decide +kernel
theorem dX7_drop_26 : decode cX7_drop 26 = .ok (.invokevirtual 93, 3) := by decide +kernel
theorem dX7_drop_29 : decode cX7_drop 29 = .ok (.aload_n 0, 1) := by decide +kernel
theorem dX7_drop_30 : decode cX7_drop 30 = .ok (.getfield 12, 3) := by decide +kernel
theorem dX7_drop_33 : decode cX7_drop 33 = .ok (.getfield 89, 3) := by decide +kernel
theorem dX7_drop_36 : decode cX7_drop 36 = .ok (.ireturn, 1) := by decide +kernel
theorem dX7_feed_0 : decode cX7_feed 0 = .ok (.iload_n 1, 1) := by decide +kernel
theorem dX7_feed_1 : decode cX7_feed 1 = .ok (.iconst 1, 1) := by decide +kernel
theorem dX7_feed_2 : decode cX7_feed 2 = .ok (.if_icmp .lt 9, 3) := by decide +kernel
theorem dX7_feed_5 : decode cX7_feed 5 = .ok (.iload_n 1, 1) := by decide +kernel
theorem dX7_feed_6 : decode cX7_feed 6 = .ok (.bipush 127, 2) := by decide +kernel
theorem dX7_feed_8 : decode cX7_feed 8 = .ok (.if_icmp .le 6, 3) := by decide +kernel
theorem dX7_feed_11 : decode cX7_feed 11 = .ok (.bipush (-2), 2) := by decide +kernel
theorem dX7_feed_13 : decode cX7_feed 13 = .ok (.ireturn, 1) := by decide +kernel
theorem dX7_feed_14 : decode cX7_feed 14 = .ok (.aload_n 0, 1) := by decide +kernel
theorem dX7_feed_15 : decode cX7_feed 15 = .ok (.getfield 54, 3) := by decide +kernel
theorem dX7_feed_18 : decode cX7_feed 18 = .ok (.iload_n 1, 1) := by decide +kernel
theorem dX7_feed_19 : decode cX7_feed 19 = .ok (.invokevirtual 97, 3) := by decide +kernel
theorem dX7_feed_22 : decode cX7_feed 22 = .ok (.ireturn, 1) := by decide +kernel
theorem dX7_clear_0 : decode cX7_clear 0 = .ok (.aload_n 0, 1) := by decide +kernel
theorem dX7_clear_1 : decode cX7_clear 1 = .ok (.getfield 54, 3) := by decide +kernel
theorem dX7_clear_4 : decode cX7_clear 4 = .ok (.invokevirtual 101, 3) := by decide +kernel
theorem dX7_clear_7 : decode cX7_clear 7 = .ok (.ireturn, 1) := by decide +kernel
theorem dX7_read_0 : decode cX7_read 0 = .ok (.aload_n 0, 1) := by decide +kernel
theorem dX7_read_1 : decode cX7_read 1 = .ok (.getfield 54, 3) := by decide +kernel
theorem dX7_read_4 : decode cX7_read 4 = .ok (.invokevirtual 105, 3) := by decide +kernel
theorem dX7_read_7 : decode cX7_read 7 = .ok (.ireturn, 1) := by decide +kernel
theorem dX7_way_0 : decode cX7_way 0 = .ok (.iload_n 1, 1) := by decide +kernel
theorem dX7_way_1 : decode cX7_way 1 = .ok (.iconst (-1), 1) := by decide +kernel
theorem dX7_way_2 : decode cX7_way 2 = .ok (.if_icmp .ne 11, 3) := by decide +kernel
theorem dX7_way_5 : decode cX7_way 5 = .ok (.aload_n 0, 1) := by decide +kernel
theorem dX7_way_6 : decode cX7_way 6 = .ok (.getfield 54, 3) := by decide +kernel
theorem dX7_way_9 : decode cX7_way 9 = .ok (.getfield 108, 3) := by decide +kernel
theorem dX7_way_12 : decode cX7_way 12 = .ok (.ireturn, 1) := by decide +kernel
theorem dX7_way_13 : decode cX7_way 13 = .ok (.iload_n 1, 1) := by decide +kernel
theorem dX7_way_14 : decode cX7_way 14 = .ok (.ifCond .lt 26, 3) := by decide +kernel
theorem dX7_way_17 : decode cX7_way 17 = .ok (.iload_n 1, 1) := by decide +kernel
theorem dX7_way_18 : decode cX7_way 18 = .ok (.aload_n 0, 1) := by decide +kernel
theorem dX7_way_19 : decode cX7_way 19 = .ok (.getfield 54, 3) := by decide +kernel
theorem dX7_way_22 : decode cX7_way 22 = .ok (.getfield 108, 3) := by decide +kernel
theorem dX7_way_25 : decode cX7_way 25 = .ok (.if_icmp .ge 15, 3) := by decide +kernel
theorem dX7_way_28 : decode cX7_way 28 = .ok (.aload_n 0, 1) := by decide +kernel
theorem dX7_way_29 : decode cX7_way 29 = .ok (.getfield 54, 3) := by decide +kernel
theorem dX7_way_32 : decode cX7_way 32 = .ok (.getfield 111, 3) := by decide +kernel
theorem dX7_way_35 : decode cX7_way 35 = .ok (.iload_n 1, 1) := by decide +kernel
theorem dX7_way_36 : decode cX7_way 36 = .ok (.iaload, 1) := by decide +kernel
theorem dX7_way_37 : decode cX7_way 37 = .ok (.goto 4, 3) := by decide +kernel
theorem dX7_way_40 : decode cX7_way 40 = .ok (.iconst (-1), 1) := by decide +kernel
theorem dX7_way_41 : decode cX7_way 41 = .ok (.ireturn, 1) := by decide +kernel
theorem dX7_of_0 : decode cX7_of 0 = .ok (.aload_n 0, 1) := by decide +kernel
theorem dX7_of_1 : decode cX7_of 1 = .ok (.getfield 12, 3) := by decide +kernel
theorem dX7_of_4 : decode cX7_of 4 = .ok (.iload_n 1, 1) := by decide +kernel
theorem dX7_of_5 : decode cX7_of 5 = .ok (.invokevirtual 80, 3) := by decide +kernel
theorem dX7_of_8 : decode cX7_of 8 = .ok (.ifCond .ne 5, 3) := by decide +kernel
theorem dX7_of_11 : decode cX7_of 11 = .ok (.iconst (-1), 1) := by decide +kernel
theorem dX7_of_12 : decode cX7_of 12 = .ok (.ireturn, 1) := by decide +kernel
theorem dX7_of_13 : decode cX7_of 13 = .ok (.iload_n 2, 1) := by decide +kernel
theorem dX7_of_14 : decode cX7_of 14 = .ok (.tableswitch 112 0 6 #[42, 52, 62, 72, 82, 92, 102], 42) := by decide +kernel
theorem dX7_of_56 : decode cX7_of 56 = .ok (.aload_n 0, 1) := by decide +kernel
theorem dX7_of_57 : decode cX7_of 57 = .ok (.getfield 12, 3) := by decide +kernel
theorem dX7_of_60 : decode cX7_of 60 = .ok (.getfield 115, 3) := by decide +kernel
theorem dX7_of_63 : decode cX7_of 63 = .ok (.iload_n 1, 1) := by decide +kernel
theorem dX7_of_64 : decode cX7_of 64 = .ok (.iaload, 1) := by decide +kernel
theorem dX7_of_65 : decode cX7_of 65 = .ok (.ireturn, 1) := by decide +kernel
theorem dX7_of_66 : decode cX7_of 66 = .ok (.aload_n 0, 1) := by decide +kernel
theorem dX7_of_67 : decode cX7_of 67 = .ok (.getfield 12, 3) := by decide +kernel
theorem dX7_of_70 : decode cX7_of 70 = .ok (.getfield 118, 3) := by decide +kernel
theorem dX7_of_73 : decode cX7_of 73 = .ok (.iload_n 1, 1) := by decide +kernel
theorem dX7_of_74 : decode cX7_of 74 = .ok (.iaload, 1) := by decide +kernel
theorem dX7_of_75 : decode cX7_of 75 = .ok (.ireturn, 1) := by decide +kernel
theorem dX7_of_76 : decode cX7_of 76 = .ok (.aload_n 0, 1) := by decide +kernel
theorem dX7_of_77 : decode cX7_of 77 = .ok (.getfield 12, 3) := by decide +kernel
theorem dX7_of_80 : decode cX7_of 80 = .ok (.getfield 121, 3) := by decide +kernel
theorem dX7_of_83 : decode cX7_of 83 = .ok (.iload_n 1, 1) := by decide +kernel
theorem dX7_of_84 : decode cX7_of 84 = .ok (.iaload, 1) := by decide +kernel
theorem dX7_of_85 : decode cX7_of 85 = .ok (.ireturn, 1) := by decide +kernel
theorem dX7_of_86 : decode cX7_of 86 = .ok (.aload_n 0, 1) := by decide +kernel
theorem dX7_of_87 : decode cX7_of 87 = .ok (.getfield 12, 3) := by decide +kernel
theorem dX7_of_90 : decode cX7_of 90 = .ok (.getfield 124, 3) := by decide +kernel
theorem dX7_of_93 : decode cX7_of 93 = .ok (.iload_n 1, 1) := by decide +kernel
theorem dX7_of_94 : decode cX7_of 94 = .ok (.iaload, 1) := by decide +kernel
theorem dX7_of_95 : decode cX7_of 95 = .ok (.ireturn, 1) := by decide +kernel
theorem dX7_of_96 : decode cX7_of 96 = .ok (.aload_n 0, 1) := by decide +kernel
theorem dX7_of_97 : decode cX7_of 97 = .ok (.getfield 12, 3) := by decide +kernel
theorem dX7_of_100 : decode cX7_of 100 = .ok (.getfield 127, 3) := by decide +kernel
theorem dX7_of_103 : decode cX7_of 103 = .ok (.iload_n 1, 1) := by decide +kernel
theorem dX7_of_104 : decode cX7_of 104 = .ok (.iaload, 1) := by decide +kernel
theorem dX7_of_105 : decode cX7_of 105 = .ok (.ireturn, 1) := by decide +kernel
theorem dX7_of_106 : decode cX7_of 106 = .ok (.aload_n 0, 1) := by decide +kernel
theorem dX7_of_107 : decode cX7_of 107 = .ok (.getfield 12, 3) := by decide +kernel
theorem dX7_of_110 : decode cX7_of 110 = .ok (.getfield 130, 3) := by decide +kernel
theorem dX7_of_113 : decode cX7_of 113 = .ok (.iload_n 1, 1) := by decide +kernel
theorem dX7_of_114 : decode cX7_of 114 = .ok (.iaload, 1) := by decide +kernel
theorem dX7_of_115 : decode cX7_of 115 = .ok (.ireturn, 1) := by decide +kernel
theorem dX7_of_116 : decode cX7_of 116 = .ok (.aload_n 0, 1) := by decide +kernel
theorem dX7_of_117 : decode cX7_of 117 = .ok (.getfield 12, 3) := by decide +kernel
theorem dX7_of_120 : decode cX7_of 120 = .ok (.getfield 133, 3) := by decide +kernel
theorem dX7_of_123 : decode cX7_of 123 = .ok (.iload_n 1, 1) := by decide +kernel
theorem dX7_of_124 : decode cX7_of 124 = .ok (.iaload, 1) := by decide +kernel
theorem dX7_of_125 : decode cX7_of 125 = .ok (.ireturn, 1) := by decide +kernel
theorem dX7_of_126 : decode cX7_of 126 = .ok (.iconst (-1), 1) := by decide +kernel
theorem dX7_of_127 : decode cX7_of 127 = .ok (.ireturn, 1) := by decide +kernel
theorem dX7_taken_0 : decode cX7_taken 0 = .ok (.aload_n 0, 1) := by decide +kernel
theorem dX7_taken_1 : decode cX7_taken 1 = .ok (.getfield 12, 3) := by decide +kernel
theorem dX7_taken_4 : decode cX7_taken 4 = .ok (.iload_n 1, 1) := by decide +kernel
theorem dX7_taken_5 : decode cX7_taken 5 = .ok (.invokevirtual 80, 3) := by decide +kernel
theorem dX7_taken_8 : decode cX7_taken 8 = .ok (.ifCond .eq 13, 3) := by decide +kernel
theorem dX7_taken_11 : decode cX7_taken 11 = .ok (.iload_n 2, 1) := by decide +kernel
theorem dX7_taken_12 : decode cX7_taken 12 = .ok (.ifCond .lt 9, 3) := by decide +kernel
theorem dX7_taken_15 : decode cX7_taken 15 = .ok (.iload_n 2, 1) := by decide +kernel
theorem dX7_taken_16 : decode cX7_taken 16 = .ok (.bipush 8, 2) := by decide +kernel
theorem dX7_taken_18 : decode cX7_taken 18 = .ok (.if_icmp .lt 5, 3) := by decide +kernel
theorem dX7_taken_21 : decode cX7_taken 21 = .ok (.iconst (-1), 1) := by decide +kernel
theorem dX7_taken_22 : decode cX7_taken 22 = .ok (.ireturn, 1) := by decide +kernel
theorem dX7_taken_23 : decode cX7_taken 23 = .ok (.aload_n 0, 1) := by decide +kernel
theorem dX7_taken_24 : decode cX7_taken 24 = .ok (.getfield 12, 3) := by decide +kernel
theorem dX7_taken_27 : decode cX7_taken 27 = .ok (.getfield 115, 3) := by decide +kernel
theorem dX7_taken_30 : decode cX7_taken 30 = .ok (.iload_n 1, 1) := by decide +kernel
theorem dX7_taken_31 : decode cX7_taken 31 = .ok (.iaload, 1) := by decide +kernel
theorem dX7_taken_32 : decode cX7_taken 32 = .ok (.istore_n 3, 1) := by decide +kernel
theorem dX7_taken_33 : decode cX7_taken 33 = .ok (.iload_n 3, 1) := by decide +kernel
theorem dX7_taken_34 : decode cX7_taken 34 = .ok (.iload_n 2, 1) := by decide +kernel
theorem dX7_taken_35 : decode cX7_taken 35 = .ok (.if_icmp .eq 11, 3) := by decide +kernel
theorem dX7_taken_38 : decode cX7_taken 38 = .ok (.iload_n 3, 1) := by decide +kernel
theorem dX7_taken_39 : decode cX7_taken 39 = .ok (.invokestatic 136, 3) := by decide +kernel
theorem dX7_taken_42 : decode cX7_taken 42 = .ok (.iload_n 2, 1) := by decide +kernel
theorem dX7_taken_43 : decode cX7_taken 43 = .ok (.if_icmp .ne 15, 3) := by decide +kernel
theorem dX7_taken_46 : decode cX7_taken 46 = .ok (.aload_n 0, 1) := by decide +kernel
theorem dX7_taken_47 : decode cX7_taken 47 = .ok (.getfield 12, 3) := by decide +kernel
theorem dX7_taken_50 : decode cX7_taken 50 = .ok (.getfield 127, 3) := by decide +kernel
theorem dX7_taken_53 : decode cX7_taken 53 = .ok (.iload_n 1, 1) := by decide +kernel
theorem dX7_taken_54 : decode cX7_taken 54 = .ok (.iaload, 1) := by decide +kernel
theorem dX7_taken_55 : decode cX7_taken 55 = .ok (.goto 5, 3) := by decide +kernel
theorem dX7_taken_58 : decode cX7_taken 58 = .ok (.bipush (-12), 2) := by decide +kernel
theorem dX7_taken_60 : decode cX7_taken 60 = .ok (.ireturn, 1) := by decide +kernel
theorem dX7_spell_0 : decode cX7_spell 0 = .ok (.aload_n 0, 1) := by decide +kernel
theorem dX7_spell_1 : decode cX7_spell 1 = .ok (.getfield 12, 3) := by decide +kernel
theorem dX7_spell_4 : decode cX7_spell 4 = .ok (.iload_n 1, 1) := by decide +kernel
theorem dX7_spell_5 : decode cX7_spell 5 = .ok (.invokevirtual 80, 3) := by decide +kernel
theorem dX7_spell_8 : decode cX7_spell 8 = .ok (.ifCond .ne 5, 3) := by decide +kernel
theorem dX7_spell_11 : decode cX7_spell 11 = .ok (.iconst (-1), 1) := by decide +kernel
theorem dX7_spell_12 : decode cX7_spell 12 = .ok (.ireturn, 1) := by decide +kernel
theorem dX7_spell_13 : decode cX7_spell 13 = .ok (.aload_n 0, 1) := by decide +kernel
theorem dX7_spell_14 : decode cX7_spell 14 = .ok (.getfield 61, 3) := by decide +kernel
theorem dX7_spell_17 : decode cX7_spell 17 = .ok (.iload_n 1, 1) := by decide +kernel
theorem dX7_spell_18 : decode cX7_spell 18 = .ok (.invokevirtual 139, 3) := by decide +kernel
theorem dX7_spell_21 : decode cX7_spell 21 = .ok (.ireturn, 1) := by decide +kernel
theorem dX7_paper_0 : decode cX7_paper 0 = .ok (.iload_n 1, 1) := by decide +kernel
theorem dX7_paper_1 : decode cX7_paper 1 = .ok (.ifCond .lt 26, 3) := by decide +kernel
theorem dX7_paper_4 : decode cX7_paper 4 = .ok (.iload_n 1, 1) := by decide +kernel
theorem dX7_paper_5 : decode cX7_paper 5 = .ok (.aload_n 0, 1) := by decide +kernel
theorem dX7_paper_6 : decode cX7_paper 6 = .ok (.getfield 61, 3) := by decide +kernel
theorem dX7_paper_9 : decode cX7_paper 9 = .ok (.getfield 142, 3) := by decide +kernel
theorem dX7_paper_12 : decode cX7_paper 12 = .ok (.if_icmp .ge 15, 3) := by decide +kernel
theorem dX7_paper_15 : decode cX7_paper 15 = .ok (.aload_n 0, 1) := by decide +kernel
theorem dX7_paper_16 : decode cX7_paper 16 = .ok (.getfield 61, 3) := by decide +kernel
theorem dX7_paper_19 : decode cX7_paper 19 = .ok (.getfield 145, 3) := by decide +kernel
theorem dX7_paper_22 : decode cX7_paper 22 = .ok (.iload_n 1, 1) := by decide +kernel
theorem dX7_paper_23 : decode cX7_paper 23 = .ok (.baload, 1) := by decide +kernel
theorem dX7_paper_24 : decode cX7_paper 24 = .ok (.goto 4, 3) := by decide +kernel
theorem dX7_paper_27 : decode cX7_paper 27 = .ok (.iconst (-1), 1) := by decide +kernel
theorem dX7_paper_28 : decode cX7_paper 28 = .ok (.ireturn, 1) := by decide +kernel
theorem dX7_says_0 : decode cX7_says 0 = .ok (.aload_n 0, 1) := by decide +kernel
theorem dX7_says_1 : decode cX7_says 1 = .ok (.getfield 12, 3) := by decide +kernel
theorem dX7_says_4 : decode cX7_says 4 = .ok (.iload_n 1, 1) := by decide +kernel
theorem dX7_says_5 : decode cX7_says 5 = .ok (.invokevirtual 80, 3) := by decide +kernel
theorem dX7_says_8 : decode cX7_says 8 = .ok (.ifCond .eq 10, 3) := by decide +kernel
theorem dX7_says_11 : decode cX7_says 11 = .ok (.iload_n 2, 1) := by decide +kernel
theorem dX7_says_12 : decode cX7_says 12 = .ok (.invokestatic 149, 3) := by decide +kernel
theorem dX7_says_15 : decode cX7_says 15 = .ok (.ifCond .ne 5, 3) := by decide +kernel
theorem dX7_says_18 : decode cX7_says 18 = .ok (.iconst (-1), 1) := by decide +kernel
theorem dX7_says_19 : decode cX7_says 19 = .ok (.ireturn, 1) := by decide +kernel
theorem dX7_says_20 : decode cX7_says 20 = .ok (.aload_n 0, 1) := by decide +kernel
theorem dX7_says_21 : decode cX7_says 21 = .ok (.getfield 40, 3) := by decide +kernel
theorem dX7_says_24 : decode cX7_says 24 = .ok (.iload_n 1, 1) := by decide +kernel
theorem dX7_says_25 : decode cX7_says 25 = .ok (.invokevirtual 152, 3) := by decide +kernel
theorem dX7_says_28 : decode cX7_says 28 = .ok (.aload_n 0, 1) := by decide +kernel
theorem dX7_says_29 : decode cX7_says 29 = .ok (.getfield 40, 3) := by decide +kernel
theorem dX7_says_32 : decode cX7_says 32 = .ok (.iload_n 2, 1) := by decide +kernel
theorem dX7_says_33 : decode cX7_says 33 = .ok (.invokevirtual 155, 3) := by decide +kernel
theorem dX7_says_36 : decode cX7_says 36 = .ok (.ireturn, 1) := by decide +kernel
theorem dX7_sum_0 : decode cX7_sum 0 = .ok (.aload_n 0, 1) := by decide +kernel
theorem dX7_sum_1 : decode cX7_sum 1 = .ok (.getfield 12, 3) := by decide +kernel
theorem dX7_sum_4 : decode cX7_sum 4 = .ok (.iload_n 1, 1) := by decide +kernel
theorem dX7_sum_5 : decode cX7_sum 5 = .ok (.invokevirtual 80, 3) := by decide +kernel
theorem dX7_sum_8 : decode cX7_sum 8 = .ok (.ifCond .eq 12, 3) := by decide +kernel
theorem dX7_sum_11 : decode cX7_sum 11 = .ok (.iload_n 2, 1) := by decide +kernel
theorem dX7_sum_12 : decode cX7_sum 12 = .ok (.ifCond .lt 8, 3) := by decide +kernel
theorem dX7_sum_15 : decode cX7_sum 15 = .ok (.iload_n 2, 1) := by decide +kernel
theorem dX7_sum_16 : decode cX7_sum 16 = .ok (.iconst 1, 1) := by decide +kernel
theorem dX7_sum_17 : decode cX7_sum 17 = .ok (.if_icmp .le 5, 3) := by decide +kernel
theorem dX7_sum_20 : decode cX7_sum 20 = .ok (.iconst (-1), 1) := by decide +kernel
theorem dX7_sum_21 : decode cX7_sum 21 = .ok (.ireturn, 1) := by decide +kernel
theorem dX7_sum_22 : decode cX7_sum 22 = .ok (.iload_n 2, 1) := by decide +kernel
theorem dX7_sum_23 : decode cX7_sum 23 = .ok (.ifCond .ne 11, 3) := by decide +kernel
theorem dX7_sum_26 : decode cX7_sum 26 = .ok (.aload_n 0, 1) := by decide +kernel
theorem dX7_sum_27 : decode cX7_sum 27 = .ok (.iload_n 1, 1) := by decide +kernel
theorem dX7_sum_28 : decode cX7_sum 28 = .ok (.invokevirtual 158, 3) := by decide +kernel
theorem dX7_sum_31 : decode cX7_sum 31 = .ok (.goto 8, 3) := by decide +kernel
theorem dX7_sum_34 : decode cX7_sum 34 = .ok (.aload_n 0, 1) := by decide +kernel
theorem dX7_sum_35 : decode cX7_sum 35 = .ok (.iload_n 1, 1) := by decide +kernel
theorem dX7_sum_36 : decode cX7_sum 36 = .ok (.invokevirtual 161, 3) := by decide +kernel
theorem dX7_sum_39 : decode cX7_sum 39 = .ok (.ireturn, 1) := by decide +kernel
theorem dX7_odds_0 : decode cX7_odds 0 = .ok (.aload_n 0, 1) := by decide +kernel
theorem dX7_odds_1 : decode cX7_odds 1 = .ok (.getfield 12, 3) := by decide +kernel
theorem dX7_odds_4 : decode cX7_odds 4 = .ok (.iload_n 1, 1) := by decide +kernel
theorem dX7_odds_5 : decode cX7_odds 5 = .ok (.invokevirtual 80, 3) := by decide +kernel
theorem dX7_odds_8 : decode cX7_odds 8 = .ok (.ifCond .eq 12, 3) := by decide +kernel
theorem dX7_odds_11 : decode cX7_odds 11 = .ok (.iload_n 2, 1) := by decide +kernel
theorem dX7_odds_12 : decode cX7_odds 12 = .ok (.ifCond .lt 8, 3) := by decide +kernel
theorem dX7_odds_15 : decode cX7_odds 15 = .ok (.iload_n 2, 1) := by decide +kernel
theorem dX7_odds_16 : decode cX7_odds 16 = .ok (.iconst 1, 1) := by decide +kernel
theorem dX7_odds_17 : decode cX7_odds 17 = .ok (.if_icmp .le 7, 3) := by decide +kernel
theorem dX7_odds_20 : decode cX7_odds 20 = .ok (.ldc2_w 164, 3) := by decide +kernel
theorem dX7_odds_23 : decode cX7_odds 23 = .ok (.lreturn, 1) := by decide +kernel
theorem dX7_odds_24 : decode cX7_odds 24 = .ok (.aload_n 0, 1) := by decide +kernel
theorem dX7_odds_25 : decode cX7_odds 25 = .ok (.iload_n 1, 1) := by decide +kernel
theorem dX7_odds_26 : decode cX7_odds 26 = .ok (.invokevirtual 161, 3) := by decide +kernel
theorem dX7_odds_29 : decode cX7_odds 29 = .ok (.istore_n 3, 1) := by decide +kernel
theorem dX7_odds_30 : decode cX7_odds 30 = .ok (.iload_n 3, 1) := by decide +kernel
theorem dX7_odds_31 : decode cX7_odds 31 = .ok (.invokestatic 166, 3) := by decide +kernel
theorem dX7_odds_34 : decode cX7_odds 34 = .ok (.istore 4, 2) := by decide +kernel
theorem dX7_odds_36 : decode cX7_odds 36 = .ok (.iload_n 2, 1) := by decide +kernel
theorem dX7_odds_37 : decode cX7_odds 37 = .ok (.ifCond .ne 11, 3) := by decide +kernel
theorem dX7_odds_40 : decode cX7_odds 40 = .ok (.iload_n 3, 1) := by decide +kernel
theorem dX7_odds_41 : decode cX7_odds 41 = .ok (.iload 4, 2) := by decide +kernel
theorem dX7_odds_43 : decode cX7_odds 43 = .ok (.idiv, 1) := by decide +kernel
theorem dX7_odds_44 : decode cX7_odds 44 = .ok (.i2l, 1) := by decide +kernel
theorem dX7_odds_45 : decode cX7_odds 45 = .ok (.goto 10, 3) := by decide +kernel
theorem dX7_odds_48 : decode cX7_odds 48 = .ok (.sipush 224, 3) := by decide +kernel
theorem dX7_odds_51 : decode cX7_odds 51 = .ok (.iload 4, 2) := by decide +kernel
theorem dX7_odds_53 : decode cX7_odds 53 = .ok (.idiv, 1) := by decide +kernel
theorem dX7_odds_54 : decode cX7_odds 54 = .ok (.i2l, 1) := by decide +kernel
theorem dX7_odds_55 : decode cX7_odds 55 = .ok (.lreturn, 1) := by decide +kernel
theorem dX7_part_0 : decode cX7_part 0 = .ok (.aload_n 0, 1) := by decide +kernel
theorem dX7_part_1 : decode cX7_part 1 = .ok (.getfield 12, 3) := by decide +kernel
theorem dX7_part_4 : decode cX7_part 4 = .ok (.iload_n 1, 1) := by decide +kernel
theorem dX7_part_5 : decode cX7_part 5 = .ok (.invokevirtual 80, 3) := by decide +kernel
theorem dX7_part_8 : decode cX7_part 8 = .ok (.ifCond .ne 5, 3) := by decide +kernel
theorem dX7_part_11 : decode cX7_part 11 = .ok (.iconst (-1), 1) := by decide +kernel
theorem dX7_part_12 : decode cX7_part 12 = .ok (.ireturn, 1) := by decide +kernel
theorem dX7_part_13 : decode cX7_part 13 = .ok (.aload_n 0, 1) := by decide +kernel
theorem dX7_part_14 : decode cX7_part 14 = .ok (.iload_n 1, 1) := by decide +kernel
theorem dX7_part_15 : decode cX7_part 15 = .ok (.invokevirtual 169, 3) := by decide +kernel
theorem dX7_part_18 : decode cX7_part 18 = .ok (.iload_n 3, 1) := by decide +kernel
theorem dX7_part_19 : decode cX7_part 19 = .ok (.bipush 6, 2) := by decide +kernel
theorem dX7_part_21 : decode cX7_part 21 = .ok (.if_icmp .ne 24, 3) := by decide +kernel
theorem dX7_part_24 : decode cX7_part 24 = .ok (.aload_n 0, 1) := by decide +kernel
theorem dX7_part_25 : decode cX7_part 25 = .ok (.getfield 47, 3) := by decide +kernel
theorem dX7_part_28 : decode cX7_part 28 = .ok (.iload_n 2, 1) := by decide +kernel
theorem dX7_part_29 : decode cX7_part 29 = .ok (.invokevirtual 172, 3) := by decide +kernel
theorem dX7_part_32 : decode cX7_part 32 = .ok (.ifCond .eq 13, 3) := by decide +kernel
theorem dX7_part_35 : decode cX7_part 35 = .ok (.aload_n 0, 1) := by decide +kernel
theorem dX7_part_36 : decode cX7_part 36 = .ok (.getfield 47, 3) := by decide +kernel
theorem dX7_part_39 : decode cX7_part 39 = .ok (.getfield 173, 3) := by decide +kernel
theorem dX7_part_42 : decode cX7_part 42 = .ok (.iload_n 2, 1) := by decide +kernel
theorem dX7_part_43 : decode cX7_part 43 = .ok (.iaload, 1) := by decide +kernel
theorem dX7_part_44 : decode cX7_part 44 = .ok (.ireturn, 1) := by decide +kernel
theorem dX7_part_45 : decode cX7_part 45 = .ok (.aload_n 0, 1) := by decide +kernel
theorem dX7_part_46 : decode cX7_part 46 = .ok (.getfield 47, 3) := by decide +kernel
theorem dX7_part_49 : decode cX7_part 49 = .ok (.iload_n 2, 1) := by decide +kernel
theorem dX7_part_50 : decode cX7_part 50 = .ok (.iload_n 3, 1) := by decide +kernel
theorem dX7_part_51 : decode cX7_part 51 = .ok (.invokevirtual 176, 3) := by decide +kernel
theorem dX7_part_54 : decode cX7_part 54 = .ok (.ireturn, 1) := by decide +kernel
theorem dX7_gap_0 : decode cX7_gap 0 = .ok (.aload_n 0, 1) := by decide +kernel
theorem dX7_gap_1 : decode cX7_gap 1 = .ok (.getfield 12, 3) := by decide +kernel
theorem dX7_gap_4 : decode cX7_gap 4 = .ok (.iload_n 1, 1) := by decide +kernel
theorem dX7_gap_5 : decode cX7_gap 5 = .ok (.invokevirtual 80, 3) := by decide +kernel
theorem dX7_gap_8 : decode cX7_gap 8 = .ok (.ifCond .ne 5, 3) := by decide +kernel
theorem dX7_gap_11 : decode cX7_gap 11 = .ok (.iconst (-1), 1) := by decide +kernel
theorem dX7_gap_12 : decode cX7_gap 12 = .ok (.ireturn, 1) := by decide +kernel
theorem dX7_gap_13 : decode cX7_gap 13 = .ok (.aload_n 0, 1) := by decide +kernel
theorem dX7_gap_14 : decode cX7_gap 14 = .ok (.iload_n 1, 1) := by decide +kernel
theorem dX7_gap_15 : decode cX7_gap 15 = .ok (.invokevirtual 180, 3) := by decide +kernel
theorem dX7_gap_18 : decode cX7_gap 18 = .ok (.aload_n 0, 1) := by decide +kernel
theorem dX7_gap_19 : decode cX7_gap 19 = .ok (.getfield 47, 3) := by decide +kernel
theorem dX7_gap_22 : decode cX7_gap 22 = .ok (.iload_n 2, 1) := by decide +kernel
theorem dX7_gap_23 : decode cX7_gap 23 = .ok (.iload_n 3, 1) := by decide +kernel
theorem dX7_gap_24 : decode cX7_gap 24 = .ok (.invokevirtual 176, 3) := by decide +kernel
theorem dX7_gap_27 : decode cX7_gap 27 = .ok (.ireturn, 1) := by decide +kernel
theorem dX7_diff_0 : decode cX7_diff 0 = .ok (.aload_n 0, 1) := by decide +kernel
theorem dX7_diff_1 : decode cX7_diff 1 = .ok (.getfield 12, 3) := by decide +kernel
theorem dX7_diff_4 : decode cX7_diff 4 = .ok (.iload_n 1, 1) := by decide +kernel
theorem dX7_diff_5 : decode cX7_diff 5 = .ok (.invokevirtual 80, 3) := by decide +kernel
theorem dX7_diff_8 : decode cX7_diff 8 = .ok (.ifCond .eq 14, 3) := by decide +kernel
theorem dX7_diff_11 : decode cX7_diff 11 = .ok (.aload_n 0, 1) := by decide +kernel
theorem dX7_diff_12 : decode cX7_diff 12 = .ok (.getfield 12, 3) := by decide +kernel
theorem dX7_diff_15 : decode cX7_diff 15 = .ok (.iload_n 2, 1) := by decide +kernel
theorem dX7_diff_16 : decode cX7_diff 16 = .ok (.invokevirtual 80, 3) := by decide +kernel
theorem dX7_diff_19 : decode cX7_diff 19 = .ok (.ifCond .ne 5, 3) := by decide +kernel
theorem dX7_diff_22 : decode cX7_diff 22 = .ok (.iconst (-1), 1) := by decide +kernel
theorem dX7_diff_23 : decode cX7_diff 23 = .ok (.ireturn, 1) := by decide +kernel
theorem dX7_diff_24 : decode cX7_diff 24 = .ok (.aload_n 0, 1) := by decide +kernel
theorem dX7_diff_25 : decode cX7_diff 25 = .ok (.iload_n 1, 1) := by decide +kernel
theorem dX7_diff_26 : decode cX7_diff 26 = .ok (.iload_n 2, 1) := by decide +kernel
theorem dX7_diff_27 : decode cX7_diff 27 = .ok (.invokevirtual 183, 3) := by decide +kernel
theorem dX7_diff_30 : decode cX7_diff 30 = .ok (.iload 4, 2) := by decide +kernel
theorem dX7_diff_32 : decode cX7_diff 32 = .ok (.bipush 6, 2) := by decide +kernel
theorem dX7_diff_34 : decode cX7_diff 34 = .ok (.if_icmp .ne 27, 3) := by decide +kernel
theorem dX7_diff_37 : decode cX7_diff 37 = .ok (.aload_n 0, 1) := by decide +kernel
theorem dX7_diff_38 : decode cX7_diff 38 = .ok (.getfield 47, 3) := by decide +kernel
theorem dX7_diff_41 : decode cX7_diff 41 = .ok (.iload_n 3, 1) := by decide +kernel
theorem dX7_diff_42 : decode cX7_diff 42 = .ok (.invokevirtual 172, 3) := by decide +kernel
theorem dX7_diff_45 : decode cX7_diff 45 = .ok (.ifCond .eq 16, 3) := by decide +kernel
theorem dX7_diff_48 : decode cX7_diff 48 = .ok (.aload_n 0, 1) := by decide +kernel
theorem dX7_diff_49 : decode cX7_diff 49 = .ok (.getfield 47, 3) := by decide +kernel
theorem dX7_diff_52 : decode cX7_diff 52 = .ok (.getfield 173, 3) := by decide +kernel
theorem dX7_diff_55 : decode cX7_diff 55 = .ok (.iload_n 3, 1) := by decide +kernel
theorem dX7_diff_56 : decode cX7_diff 56 = .ok (.iaload, 1) := by decide +kernel
theorem dX7_diff_57 : decode cX7_diff 57 = .ok (.invokestatic 187, 3) := by decide +kernel
theorem dX7_diff_60 : decode cX7_diff 60 = .ok (.ireturn, 1) := by decide +kernel
theorem dX7_diff_61 : decode cX7_diff 61 = .ok (.iload 4, 2) := by decide +kernel
theorem dX7_diff_63 : decode cX7_diff 63 = .ok (.bipush 7, 2) := by decide +kernel
theorem dX7_diff_65 : decode cX7_diff 65 = .ok (.if_icmp .ne 27, 3) := by decide +kernel
theorem dX7_diff_68 : decode cX7_diff 68 = .ok (.aload_n 0, 1) := by decide +kernel
theorem dX7_diff_69 : decode cX7_diff 69 = .ok (.getfield 47, 3) := by decide +kernel
theorem dX7_diff_72 : decode cX7_diff 72 = .ok (.iload_n 3, 1) := by decide +kernel
theorem dX7_diff_73 : decode cX7_diff 73 = .ok (.invokevirtual 172, 3) := by decide +kernel
theorem dX7_diff_76 : decode cX7_diff 76 = .ok (.ifCond .eq 16, 3) := by decide +kernel
theorem dX7_diff_79 : decode cX7_diff 79 = .ok (.aload_n 0, 1) := by decide +kernel
theorem dX7_diff_80 : decode cX7_diff 80 = .ok (.getfield 47, 3) := by decide +kernel
theorem dX7_diff_83 : decode cX7_diff 83 = .ok (.getfield 173, 3) := by decide +kernel
theorem dX7_diff_86 : decode cX7_diff 86 = .ok (.iload_n 3, 1) := by decide +kernel
theorem dX7_diff_87 : decode cX7_diff 87 = .ok (.iaload, 1) := by decide +kernel
theorem dX7_diff_88 : decode cX7_diff 88 = .ok (.invokestatic 190, 3) := by decide +kernel
theorem dX7_diff_91 : decode cX7_diff 91 = .ok (.ireturn, 1) := by decide +kernel
theorem dX7_diff_92 : decode cX7_diff 92 = .ok (.aload_n 0, 1) := by decide +kernel
theorem dX7_diff_93 : decode cX7_diff 93 = .ok (.getfield 47, 3) := by decide +kernel
theorem dX7_diff_96 : decode cX7_diff 96 = .ok (.iload_n 3, 1) := by decide +kernel
theorem dX7_diff_97 : decode cX7_diff 97 = .ok (.iload 4, 2) := by decide +kernel
theorem dX7_diff_99 : decode cX7_diff 99 = .ok (.invokevirtual 176, 3) := by decide +kernel
theorem dX7_diff_102 : decode cX7_diff 102 = .ok (.ireturn, 1) := by decide +kernel
theorem dX7_rule_0 : decode cX7_rule 0 = .ok (.aload_n 0, 1) := by decide +kernel
theorem dX7_rule_1 : decode cX7_rule 1 = .ok (.getfield 12, 3) := by decide +kernel
theorem dX7_rule_4 : decode cX7_rule 4 = .ok (.iload_n 1, 1) := by decide +kernel
theorem dX7_rule_5 : decode cX7_rule 5 = .ok (.invokevirtual 80, 3) := by decide +kernel
theorem dX7_rule_8 : decode cX7_rule 8 = .ok (.ifCond .ne 5, 3) := by decide +kernel
theorem dX7_rule_11 : decode cX7_rule 11 = .ok (.iconst (-1), 1) := by decide +kernel
theorem dX7_rule_12 : decode cX7_rule 12 = .ok (.ireturn, 1) := by decide +kernel
theorem dX7_rule_13 : decode cX7_rule 13 = .ok (.aload_n 0, 1) := by decide +kernel
theorem dX7_rule_14 : decode cX7_rule 14 = .ok (.getfield 40, 3) := by decide +kernel
theorem dX7_rule_17 : decode cX7_rule 17 = .ok (.iload_n 1, 1) := by decide +kernel
theorem dX7_rule_18 : decode cX7_rule 18 = .ok (.invokevirtual 152, 3) := by decide +kernel
theorem dX7_rule_21 : decode cX7_rule 21 = .ok (.iload_n 2, 1) := by decide +kernel
theorem dX7_rule_22 : decode cX7_rule 22 = .ok (.iconst (-1), 1) := by decide +kernel
theorem dX7_rule_23 : decode cX7_rule 23 = .ok (.if_icmp .ne 11, 3) := by decide +kernel
theorem dX7_rule_26 : decode cX7_rule 26 = .ok (.aload_n 0, 1) := by decide +kernel
theorem dX7_rule_27 : decode cX7_rule 27 = .ok (.getfield 40, 3) := by decide +kernel
theorem dX7_rule_30 : decode cX7_rule 30 = .ok (.invokevirtual 193, 3) := by decide +kernel
theorem dX7_rule_33 : decode cX7_rule 33 = .ok (.ireturn, 1) := by decide +kernel
theorem dX7_rule_34 : decode cX7_rule 34 = .ok (.aload_n 0, 1) := by decide +kernel
theorem dX7_rule_35 : decode cX7_rule 35 = .ok (.getfield 40, 3) := by decide +kernel
theorem dX7_rule_38 : decode cX7_rule 38 = .ok (.iload_n 2, 1) := by decide +kernel
theorem dX7_rule_39 : decode cX7_rule 39 = .ok (.invokevirtual 196, 3) := by decide +kernel
theorem dX7_rule_42 : decode cX7_rule 42 = .ok (.istore_n 3, 1) := by decide +kernel
theorem dX7_rule_43 : decode cX7_rule 43 = .ok (.aload_n 0, 1) := by decide +kernel
theorem dX7_rule_44 : decode cX7_rule 44 = .ok (.getfield 40, 3) := by decide +kernel
theorem dX7_rule_47 : decode cX7_rule 47 = .ok (.iload_n 3, 1) := by decide +kernel
theorem dX7_rule_48 : decode cX7_rule 48 = .ok (.invokevirtual 199, 3) := by decide +kernel
theorem dX7_rule_51 : decode cX7_rule 51 = .ok (.ireturn, 1) := by decide +kernel
theorem dX7_idle_0 : decode cX7_idle 0 = .ok (.aload_n 0, 1) := by decide +kernel
theorem dX7_idle_1 : decode cX7_idle 1 = .ok (.getfield 12, 3) := by decide +kernel
theorem dX7_idle_4 : decode cX7_idle 4 = .ok (.iload_n 1, 1) := by decide +kernel
theorem dX7_idle_5 : decode cX7_idle 5 = .ok (.invokevirtual 80, 3) := by decide +kernel
theorem dX7_idle_8 : decode cX7_idle 8 = .ok (.ifCond .ne 5, 3) := by decide +kernel
theorem dX7_idle_11 : decode cX7_idle 11 = .ok (.iconst (-1), 1) := by decide +kernel
theorem dX7_idle_12 : decode cX7_idle 12 = .ok (.ireturn, 1) := by decide +kernel
theorem dX7_idle_13 : decode cX7_idle 13 = .ok (.aload_n 0, 1) := by decide +kernel
theorem dX7_idle_14 : decode cX7_idle 14 = .ok (.getfield 40, 3) := by decide +kernel
theorem dX7_idle_17 : decode cX7_idle 17 = .ok (.iload_n 1, 1) := by decide +kernel
theorem dX7_idle_18 : decode cX7_idle 18 = .ok (.invokevirtual 152, 3) := by decide +kernel
theorem dX7_idle_21 : decode cX7_idle 21 = .ok (.aload_n 0, 1) := by decide +kernel
theorem dX7_idle_22 : decode cX7_idle 22 = .ok (.getfield 40, 3) := by decide +kernel
theorem dX7_idle_25 : decode cX7_idle 25 = .ok (.iload_n 2, 1) := by decide +kernel
theorem dX7_idle_26 : decode cX7_idle 26 = .ok (.invokevirtual 196, 3) := by decide +kernel
theorem dX7_idle_29 : decode cX7_idle 29 = .ok (.istore_n 3, 1) := by decide +kernel
theorem dX7_idle_30 : decode cX7_idle 30 = .ok (.iload_n 3, 1) := by decide +kernel
theorem dX7_idle_31 : decode cX7_idle 31 = .ok (.iconst (-1), 1) := by decide +kernel
theorem dX7_idle_32 : decode cX7_idle 32 = .ok (.if_icmp .ne 5, 3) := by decide +kernel
theorem dX7_idle_35 : decode cX7_idle 35 = .ok (.iconst (-1), 1) := by decide +kernel
theorem dX7_idle_36 : decode cX7_idle 36 = .ok (.ireturn, 1) := by decide +kernel
theorem dX7_idle_37 : decode cX7_idle 37 = .ok (.aload_n 0, 1) := by decide +kernel
theorem dX7_idle_38 : decode cX7_idle 38 = .ok (.iload_n 3, 1) := by decide +kernel
theorem dX7_idle_39 : decode cX7_idle 39 = .ok (.invokevirtual 202, 3) := by decide +kernel
theorem dX7_idle_42 : decode cX7_idle 42 = .ok (.ifCond .eq 7, 3) := by decide +kernel
theorem dX7_idle_45 : decode cX7_idle 45 = .ok (.iconst 1, 1) := by decide +kernel
theorem dX7_idle_46 : decode cX7_idle 46 = .ok (.goto 4, 3) := by decide +kernel
theorem dX7_idle_49 : decode cX7_idle 49 = .ok (.iconst 0, 1) := by decide +kernel
theorem dX7_idle_50 : decode cX7_idle 50 = .ok (.ireturn, 1) := by decide +kernel
theorem dX7_overlap_0 : decode cX7_overlap 0 = .ok (.aload_n 0, 1) := by decide +kernel
theorem dX7_overlap_1 : decode cX7_overlap 1 = .ok (.getfield 12, 3) := by decide +kernel
theorem dX7_overlap_4 : decode cX7_overlap 4 = .ok (.iload_n 1, 1) := by decide +kernel
theorem dX7_overlap_5 : decode cX7_overlap 5 = .ok (.invokevirtual 80, 3) := by decide +kernel
theorem dX7_overlap_8 : decode cX7_overlap 8 = .ok (.ifCond .eq 14, 3) := by decide +kernel
theorem dX7_overlap_11 : decode cX7_overlap 11 = .ok (.aload_n 0, 1) := by decide +kernel
theorem dX7_overlap_12 : decode cX7_overlap 12 = .ok (.getfield 12, 3) := by decide +kernel
theorem dX7_overlap_15 : decode cX7_overlap 15 = .ok (.iload_n 2, 1) := by decide +kernel
theorem dX7_overlap_16 : decode cX7_overlap 16 = .ok (.invokevirtual 80, 3) := by decide +kernel
theorem dX7_overlap_19 : decode cX7_overlap 19 = .ok (.ifCond .ne 5, 3) := by decide +kernel
theorem dX7_overlap_22 : decode cX7_overlap 22 = .ok (.iconst (-1), 1) := by decide +kernel
theorem dX7_overlap_23 : decode cX7_overlap 23 = .ok (.ireturn, 1) := by decide +kernel
theorem dX7_overlap_24 : decode cX7_overlap 24 = .ok (.aload_n 0, 1) := by decide +kernel
theorem dX7_overlap_25 : decode cX7_overlap 25 = .ok (.getfield 12, 3) := by decide +kernel
theorem dX7_overlap_28 : decode cX7_overlap 28 = .ok (.getfield 133, 3) := by decide +kernel
theorem dX7_overlap_31 : decode cX7_overlap 31 = .ok (.iload_n 1, 1) := by decide +kernel
theorem dX7_overlap_32 : decode cX7_overlap 32 = .ok (.iaload, 1) := by decide +kernel
theorem dX7_overlap_33 : decode cX7_overlap 33 = .ok (.istore_n 3, 1) := by decide +kernel
theorem dX7_overlap_34 : decode cX7_overlap 34 = .ok (.aload_n 0, 1) := by decide +kernel
theorem dX7_overlap_35 : decode cX7_overlap 35 = .ok (.getfield 12, 3) := by decide +kernel
theorem dX7_overlap_38 : decode cX7_overlap 38 = .ok (.getfield 133, 3) := by decide +kernel
theorem dX7_overlap_41 : decode cX7_overlap 41 = .ok (.iload_n 2, 1) := by decide +kernel
theorem dX7_overlap_42 : decode cX7_overlap 42 = .ok (.iaload, 1) := by decide +kernel
theorem dX7_overlap_43 : decode cX7_overlap 43 = .ok (.istore 4, 2) := by decide +kernel
theorem dX7_overlap_45 : decode cX7_overlap 45 = .ok (.iload_n 3, 1) := by decide +kernel
theorem dX7_overlap_46 : decode cX7_overlap 46 = .ok (.bipush (-5), 2) := by decide +kernel
theorem dX7_overlap_48 : decode cX7_overlap 48 = .ok (.if_icmp .eq 10, 3) := by decide +kernel
theorem dX7_overlap_51 : decode cX7_overlap 51 = .ok (.iload 4, 2) := by decide +kernel
theorem dX7_overlap_53 : decode cX7_overlap 53 = .ok (.bipush (-5), 2) := by decide +kernel
theorem dX7_overlap_55 : decode cX7_overlap 55 = .ok (.if_icmp .ne 6, 3) := by decide +kernel
theorem dX7_overlap_58 : decode cX7_overlap 58 = .ok (.bipush (-5), 2) := by decide +kernel
theorem dX7_overlap_60 : decode cX7_overlap 60 = .ok (.ireturn, 1) := by decide +kernel
theorem dX7_overlap_61 : decode cX7_overlap 61 = .ok (.iload_n 3, 1) := by decide +kernel
theorem dX7_overlap_62 : decode cX7_overlap 62 = .ok (.iload 4, 2) := by decide +kernel
theorem dX7_overlap_64 : decode cX7_overlap 64 = .ok (.iconst 0, 1) := by decide +kernel
theorem dX7_overlap_65 : decode cX7_overlap 65 = .ok (.invokestatic 205, 3) := by decide +kernel
theorem dX7_overlap_68 : decode cX7_overlap 68 = .ok (.iload_n 3, 1) := by decide +kernel
theorem dX7_overlap_69 : decode cX7_overlap 69 = .ok (.iload 4, 2) := by decide +kernel
theorem dX7_overlap_71 : decode cX7_overlap 71 = .ok (.iconst 2, 1) := by decide +kernel
theorem dX7_overlap_72 : decode cX7_overlap 72 = .ok (.invokestatic 205, 3) := by decide +kernel
theorem dX7_overlap_75 : decode cX7_overlap 75 = .ok (.imul, 1) := by decide +kernel
theorem dX7_overlap_76 : decode cX7_overlap 76 = .ok (.iload_n 3, 1) := by decide +kernel
theorem dX7_overlap_77 : decode cX7_overlap 77 = .ok (.iload 4, 2) := by decide +kernel
theorem dX7_overlap_79 : decode cX7_overlap 79 = .ok (.iconst 4, 1) := by decide +kernel
theorem dX7_overlap_80 : decode cX7_overlap 80 = .ok (.invokestatic 205, 3) := by decide +kernel
theorem dX7_overlap_83 : decode cX7_overlap 83 = .ok (.imul, 1) := by decide +kernel
theorem dX7_overlap_84 : decode cX7_overlap 84 = .ok (.ireturn, 1) := by decide +kernel
theorem dX7_would_0 : decode cX7_would 0 = .ok (.aload_n 0, 1) := by decide +kernel
theorem dX7_would_1 : decode cX7_would 1 = .ok (.iload_n 1, 1) := by decide +kernel
theorem dX7_would_2 : decode cX7_would 2 = .ok (.invokevirtual 209, 3) := by decide +kernel
theorem dX7_would_5 : decode cX7_would 5 = .ok (.ifCond .eq 22, 3) := by decide +kernel
theorem dX7_would_8 : decode cX7_would 8 = .ok (.aload_n 0, 1) := by decide +kernel
theorem dX7_would_9 : decode cX7_would 9 = .ok (.getfield 12, 3) := by decide +kernel
theorem dX7_would_12 : decode cX7_would 12 = .ok (.iload_n 3, 1) := by decide +kernel
theorem dX7_would_13 : decode cX7_would 13 = .ok (.invokevirtual 80, 3) := by decide +kernel
theorem dX7_would_16 : decode cX7_would 16 = .ok (.ifCond .eq 11, 3) := by decide +kernel
theorem dX7_would_19 : decode cX7_would 19 = .ok (.iload 4, 2) := by decide +kernel
theorem dX7_would_21 : decode cX7_would 21 = .ok (.invokestatic 149, 3) := by decide +kernel
theorem dX7_would_24 : decode cX7_would 24 = .ok (.ifCond .ne 5, 3) := by decide +kernel
theorem dX7_would_27 : decode cX7_would 27 = .ok (.iconst (-1), 1) := by decide +kernel
theorem dX7_would_28 : decode cX7_would 28 = .ok (.ireturn, 1) := by decide +kernel
theorem dX7_would_29 : decode cX7_would 29 = .ok (.iload_n 2, 1) := by decide +kernel
theorem dX7_would_30 : decode cX7_would 30 = .ok (.invokestatic 72, 3) := by decide +kernel
theorem dX7_would_33 : decode cX7_would 33 = .ok (.ifCond .ne 6, 3) := by decide +kernel
theorem dX7_would_36 : decode cX7_would 36 = .ok (.bipush (-2), 2) := by decide +kernel
theorem dX7_would_38 : decode cX7_would 38 = .ok (.ireturn, 1) := by decide +kernel
theorem dX7_would_39 : decode cX7_would 39 = .ok (.aload_n 0, 1) := by decide +kernel
theorem dX7_would_40 : decode cX7_would 40 = .ok (.getfield 40, 3) := by decide +kernel
theorem dX7_would_43 : decode cX7_would 43 = .ok (.iload_n 3, 1) := by decide +kernel
theorem dX7_would_44 : decode cX7_would 44 = .ok (.invokevirtual 152, 3) := by decide +kernel
theorem dX7_would_47 : decode cX7_would 47 = .ok (.aload_n 0, 1) := by decide +kernel
theorem dX7_would_48 : decode cX7_would 48 = .ok (.getfield 40, 3) := by decide +kernel
theorem dX7_would_51 : decode cX7_would 51 = .ok (.iload_n 1, 1) := by decide +kernel
theorem dX7_would_52 : decode cX7_would 52 = .ok (.iload_n 2, 1) := by decide +kernel
theorem dX7_would_53 : decode cX7_would 53 = .ok (.invokevirtual 212, 3) := by decide +kernel
theorem dX7_would_56 : decode cX7_would 56 = .ok (.aload_n 0, 1) := by decide +kernel
theorem dX7_would_57 : decode cX7_would 57 = .ok (.getfield 40, 3) := by decide +kernel
theorem dX7_would_60 : decode cX7_would 60 = .ok (.iload 4, 2) := by decide +kernel
theorem dX7_would_62 : decode cX7_would 62 = .ok (.invokevirtual 155, 3) := by decide +kernel
theorem dX7_would_65 : decode cX7_would 65 = .ok (.ireturn, 1) := by decide +kernel
theorem dX7_paid_0 : decode cX7_paid 0 = .ok (.iload_n 1, 1) := by decide +kernel
theorem dX7_paid_1 : decode cX7_paid 1 = .ok (.iconst (-1), 1) := by decide +kernel
theorem dX7_paid_2 : decode cX7_paid 2 = .ok (.if_icmp .ne 12, 3) := by decide +kernel
theorem dX7_paid_5 : decode cX7_paid 5 = .ok (.aload_n 0, 1) := by decide +kernel
theorem dX7_paid_6 : decode cX7_paid 6 = .ok (.getfield 21, 3) := by decide +kernel
theorem dX7_paid_9 : decode cX7_paid 9 = .ok (.invokevirtual 215, 3) := by decide +kernel
theorem dX7_paid_12 : decode cX7_paid 12 = .ok (.iconst 0, 1) := by decide +kernel
theorem dX7_paid_13 : decode cX7_paid 13 = .ok (.ireturn, 1) := by decide +kernel
theorem dX7_paid_14 : decode cX7_paid 14 = .ok (.iload_n 1, 1) := by decide +kernel
theorem dX7_paid_15 : decode cX7_paid 15 = .ok (.invokestatic 149, 3) := by decide +kernel
theorem dX7_paid_18 : decode cX7_paid 18 = .ok (.ifCond .ne 5, 3) := by decide +kernel
theorem dX7_paid_21 : decode cX7_paid 21 = .ok (.iconst (-1), 1) := by decide +kernel
theorem dX7_paid_22 : decode cX7_paid 22 = .ok (.ireturn, 1) := by decide +kernel
theorem dX7_paid_23 : decode cX7_paid 23 = .ok (.iload_n 2, 1) := by decide +kernel
theorem dX7_paid_24 : decode cX7_paid 24 = .ok (.iconst (-1), 1) := by decide +kernel
theorem dX7_paid_25 : decode cX7_paid 25 = .ok (.if_icmp .eq 13, 3) := by decide +kernel
theorem dX7_paid_28 : decode cX7_paid 28 = .ok (.iload_n 2, 1) := by decide +kernel
theorem dX7_paid_29 : decode cX7_paid 29 = .ok (.invokestatic 72, 3) := by decide +kernel
theorem dX7_paid_32 : decode cX7_paid 32 = .ok (.ifCond .ne 6, 3) := by decide +kernel
theorem dX7_paid_35 : decode cX7_paid 35 = .ok (.bipush (-2), 2) := by decide +kernel
theorem dX7_paid_37 : decode cX7_paid 37 = .ok (.ireturn, 1) := by decide +kernel
theorem dX7_paid_38 : decode cX7_paid 38 = .ok (.aload_n 0, 1) := by decide +kernel
theorem dX7_paid_39 : decode cX7_paid 39 = .ok (.getfield 21, 3) := by decide +kernel
theorem dX7_paid_42 : decode cX7_paid 42 = .ok (.iload_n 1, 1) := by decide +kernel
theorem dX7_paid_43 : decode cX7_paid 43 = .ok (.iload_n 2, 1) := by decide +kernel
theorem dX7_paid_44 : decode cX7_paid 44 = .ok (.iconst (-1), 1) := by decide +kernel
theorem dX7_paid_45 : decode cX7_paid 45 = .ok (.if_icmp .ne 8, 3) := by decide +kernel
theorem dX7_paid_48 : decode cX7_paid 48 = .ok (.bipush (-5), 2) := by decide +kernel
theorem dX7_paid_50 : decode cX7_paid 50 = .ok (.goto 4, 3) := by decide +kernel
theorem dX7_paid_53 : decode cX7_paid 53 = .ok (.iload_n 2, 1) := by decide +kernel
theorem dX7_paid_54 : decode cX7_paid 54 = .ok (.invokevirtual 218, 3) := by decide +kernel
theorem dX7_paid_57 : decode cX7_paid 57 = .ok (.ireturn, 1) := by decide +kernel
theorem dX7_fits_0 : decode cX7_fits 0 = .ok (.aload_n 0, 1) := by decide +kernel
theorem dX7_fits_1 : decode cX7_fits 1 = .ok (.iload_n 1, 1) := by decide +kernel
theorem dX7_fits_2 : decode cX7_fits 2 = .ok (.invokevirtual 209, 3) := by decide +kernel
theorem dX7_fits_5 : decode cX7_fits 5 = .ok (.ifCond .eq 23, 3) := by decide +kernel
theorem dX7_fits_8 : decode cX7_fits 8 = .ok (.aload_n 0, 1) := by decide +kernel
theorem dX7_fits_9 : decode cX7_fits 9 = .ok (.getfield 12, 3) := by decide +kernel
theorem dX7_fits_12 : decode cX7_fits 12 = .ok (.iload_n 2, 1) := by decide +kernel
theorem dX7_fits_13 : decode cX7_fits 13 = .ok (.invokevirtual 80, 3) := by decide +kernel
theorem dX7_fits_16 : decode cX7_fits 16 = .ok (.ifCond .eq 12, 3) := by decide +kernel
theorem dX7_fits_19 : decode cX7_fits 19 = .ok (.iload_n 3, 1) := by decide +kernel
theorem dX7_fits_20 : decode cX7_fits 20 = .ok (.ifCond .lt 8, 3) := by decide +kernel
theorem dX7_fits_23 : decode cX7_fits 23 = .ok (.iload_n 3, 1) := by decide +kernel
theorem dX7_fits_24 : decode cX7_fits 24 = .ok (.iconst 1, 1) := by decide +kernel
theorem dX7_fits_25 : decode cX7_fits 25 = .ok (.if_icmp .le 5, 3) := by decide +kernel
theorem dX7_fits_28 : decode cX7_fits 28 = .ok (.iconst (-1), 1) := by decide +kernel
theorem dX7_fits_29 : decode cX7_fits 29 = .ok (.ireturn, 1) := by decide +kernel
theorem dX7_fits_30 : decode cX7_fits 30 = .ok (.aload_n 0, 1) := by decide +kernel
theorem dX7_fits_31 : decode cX7_fits 31 = .ok (.getfield 40, 3) := by decide +kernel
theorem dX7_fits_34 : decode cX7_fits 34 = .ok (.iload_n 2, 1) := by decide +kernel
theorem dX7_fits_35 : decode cX7_fits 35 = .ok (.invokevirtual 152, 3) := by decide +kernel
theorem dX7_fits_38 : decode cX7_fits 38 = .ok (.iconst 0, 1) := by decide +kernel
theorem dX7_fits_39 : decode cX7_fits 39 = .ok (.istore 4, 2) := by decide +kernel
theorem dX7_fits_41 : decode cX7_fits 41 = .ok (.bipush (-5), 2) := by decide +kernel
theorem dX7_fits_43 : decode cX7_fits 43 = .ok (.istore 5, 2) := by decide +kernel
theorem dX7_fits_45 : decode cX7_fits 45 = .ok (.bipush 99, 2) := by decide +kernel
theorem dX7_fits_47 : decode cX7_fits 47 = .ok (.istore 6, 2) := by decide +kernel
theorem dX7_fits_49 : decode cX7_fits 49 = .ok (.iload 6, 2) := by decide +kernel
theorem dX7_fits_51 : decode cX7_fits 51 = .ok (.ifCond .lt 33, 3) := by decide +kernel
theorem dX7_fits_54 : decode cX7_fits 54 = .ok (.aload_n 0, 1) := by decide +kernel
theorem dX7_fits_55 : decode cX7_fits 55 = .ok (.getfield 40, 3) := by decide +kernel
theorem dX7_fits_58 : decode cX7_fits 58 = .ok (.iload_n 1, 1) := by decide +kernel
theorem dX7_fits_59 : decode cX7_fits 59 = .ok (.iload 6, 2) := by decide +kernel
theorem dX7_fits_61 : decode cX7_fits 61 = .ok (.invokevirtual 212, 3) := by decide +kernel
theorem dX7_fits_64 : decode cX7_fits 64 = .ok (.aload_n 0, 1) := by decide +kernel
theorem dX7_fits_65 : decode cX7_fits 65 = .ok (.invokevirtual 221, 3) := by decide +kernel
theorem dX7_fits_68 : decode cX7_fits 68 = .ok (.ifCond .eq 10, 3) := by decide +kernel
theorem dX7_fits_71 : decode cX7_fits 71 = .ok (.iinc 4 1, 3) := by decide +kernel
theorem dX7_fits_74 : decode cX7_fits 74 = .ok (.iload 6, 2) := by decide +kernel
theorem dX7_fits_76 : decode cX7_fits 76 = .ok (.istore 5, 2) := by decide +kernel
theorem dX7_fits_78 : decode cX7_fits 78 = .ok (.iinc 6 (-1), 3) := by decide +kernel
theorem dX7_fits_81 : decode cX7_fits 81 = .ok (.goto (-32), 3) := by decide +kernel
theorem dX7_fits_84 : decode cX7_fits 84 = .ok (.iload_n 3, 1) := by decide +kernel
theorem dX7_fits_85 : decode cX7_fits 85 = .ok (.ifCond .ne 8, 3) := by decide +kernel
theorem dX7_fits_88 : decode cX7_fits 88 = .ok (.iload 4, 2) := by decide +kernel
theorem dX7_fits_90 : decode cX7_fits 90 = .ok (.goto 5, 3) := by decide +kernel
theorem dX7_fits_93 : decode cX7_fits 93 = .ok (.iload 5, 2) := by decide +kernel
theorem dX7_fits_95 : decode cX7_fits 95 = .ok (.ireturn, 1) := by decide +kernel
theorem dX7_till_0 : decode cX7_till 0 = .ok (.aload_n 0, 1) := by decide +kernel
theorem dX7_till_1 : decode cX7_till 1 = .ok (.getfield 12, 3) := by decide +kernel
theorem dX7_till_4 : decode cX7_till 4 = .ok (.iload_n 1, 1) := by decide +kernel
theorem dX7_till_5 : decode cX7_till 5 = .ok (.invokevirtual 80, 3) := by decide +kernel
theorem dX7_till_8 : decode cX7_till 8 = .ok (.ifCond .eq 14, 3) := by decide +kernel
theorem dX7_till_11 : decode cX7_till 11 = .ok (.iload 4, 2) := by decide +kernel
theorem dX7_till_13 : decode cX7_till 13 = .ok (.ifCond .lt 9, 3) := by decide +kernel
theorem dX7_till_16 : decode cX7_till 16 = .ok (.iload 4, 2) := by decide +kernel
theorem dX7_till_18 : decode cX7_till 18 = .ok (.iconst 2, 1) := by decide +kernel
theorem dX7_till_19 : decode cX7_till 19 = .ok (.if_icmp .le 5, 3) := by decide +kernel
theorem dX7_till_22 : decode cX7_till 22 = .ok (.iconst (-1), 1) := by decide +kernel
theorem dX7_till_23 : decode cX7_till 23 = .ok (.ireturn, 1) := by decide +kernel
theorem dX7_till_24 : decode cX7_till 24 = .ok (.iload_n 3, 1) := by decide +kernel
theorem dX7_till_25 : decode cX7_till 25 = .ok (.iconst 1, 1) := by decide +kernel
theorem dX7_till_26 : decode cX7_till 26 = .ok (.if_icmp .lt 9, 3) := by decide +kernel
theorem dX7_till_29 : decode cX7_till 29 = .ok (.iload_n 3, 1) := by decide +kernel
theorem dX7_till_30 : decode cX7_till 30 = .ok (.bipush 40, 2) := by decide +kernel
theorem dX7_till_32 : decode cX7_till 32 = .ok (.if_icmp .le 6, 3) := by decide +kernel
theorem dX7_till_35 : decode cX7_till 35 = .ok (.bipush (-2), 2) := by decide +kernel
theorem dX7_till_37 : decode cX7_till 37 = .ok (.ireturn, 1) := by decide +kernel
theorem dX7_till_38 : decode cX7_till 38 = .ok (.aload_n 0, 1) := by decide +kernel
theorem dX7_till_39 : decode cX7_till 39 = .ok (.getfield 40, 3) := by decide +kernel
theorem dX7_till_42 : decode cX7_till 42 = .ok (.iload_n 1, 1) := by decide +kernel
theorem dX7_till_43 : decode cX7_till 43 = .ok (.invokevirtual 152, 3) := by decide +kernel
theorem dX7_till_46 : decode cX7_till 46 = .ok (.iload_n 2, 1) := by decide +kernel
theorem dX7_till_47 : decode cX7_till 47 = .ok (.istore 5, 2) := by decide +kernel
theorem dX7_till_49 : decode cX7_till 49 = .ok (.iconst 0, 1) := by decide +kernel
theorem dX7_till_50 : decode cX7_till 50 = .ok (.istore 6, 2) := by decide +kernel
theorem dX7_till_52 : decode cX7_till 52 = .ok (.iconst 0, 1) := by decide +kernel
theorem dX7_till_53 : decode cX7_till 53 = .ok (.istore 7, 2) := by decide +kernel
theorem dX7_till_55 : decode cX7_till 55 = .ok (.bipush (-5), 2) := by decide +kernel
theorem dX7_till_57 : decode cX7_till 57 = .ok (.istore 8, 2) := by decide +kernel
theorem dX7_till_59 : decode cX7_till 59 = .ok (.iconst 0, 1) := by decide +kernel
theorem dX7_till_60 : decode cX7_till 60 = .ok (.istore 9, 2) := by decide +kernel
theorem dX7_till_62 : decode cX7_till 62 = .ok (.iload 9, 2) := by decide +kernel
theorem dX7_till_64 : decode cX7_till 64 = .ok (.iload_n 3, 1) := by decide +kernel
theorem dX7_till_65 : decode cX7_till 65 = .ok (.if_icmp .ge 70, 3) := by decide +kernel
theorem dX7_till_68 : decode cX7_till 68 = .ok (.iload 5, 2) := by decide +kernel
theorem dX7_till_70 : decode cX7_till 70 = .ok (.ldc 225, 2) := by decide +kernel
theorem dX7_till_72 : decode cX7_till 72 = .ok (.imul, 1) := by decide +kernel
theorem dX7_till_73 : decode cX7_till 73 = .ok (.ldc 226, 2) := by decide +kernel
theorem dX7_till_75 : decode cX7_till 75 = .ok (.iadd, 1) := by decide +kernel
theorem dX7_till_76 : decode cX7_till 76 = .ok (.istore 5, 2) := by decide +kernel
theorem dX7_till_78 : decode cX7_till 78 = .ok (.aload_n 0, 1) := by decide +kernel
theorem dX7_till_79 : decode cX7_till 79 = .ok (.getfield 40, 3) := by decide +kernel
theorem dX7_till_82 : decode cX7_till 82 = .ok (.iload 5, 2) := by decide +kernel
theorem dX7_till_84 : decode cX7_till 84 = .ok (.ldc 229, 2) := by decide +kernel
theorem dX7_till_86 : decode cX7_till 86 = .ok (.iand, 1) := by decide +kernel
theorem dX7_till_87 : decode cX7_till 87 = .ok (.sipush 256, 3) := by decide +kernel
theorem dX7_till_90 : decode cX7_till 90 = .ok (.idiv, 1) := by decide +kernel
theorem dX7_till_91 : decode cX7_till 91 = .ok (.sipush 224, 3) := by decide +kernel
theorem dX7_till_94 : decode cX7_till 94 = .ok (.irem, 1) := by decide +kernel
theorem dX7_till_95 : decode cX7_till 95 = .ok (.invokevirtual 155, 3) := by decide +kernel
theorem dX7_till_98 : decode cX7_till 98 = .ok (.istore 10, 2) := by decide +kernel
theorem dX7_till_100 : decode cX7_till 100 = .ok (.iload 10, 2) := by decide +kernel
theorem dX7_till_102 : decode cX7_till 102 = .ok (.bipush (-5), 2) := by decide +kernel
theorem dX7_till_104 : decode cX7_till 104 = .ok (.if_icmp .ne 9, 3) := by decide +kernel
theorem dX7_till_107 : decode cX7_till 107 = .ok (.iinc 7 1, 3) := by decide +kernel
theorem dX7_till_110 : decode cX7_till 110 = .ok (.goto 19, 3) := by decide +kernel
theorem dX7_till_113 : decode cX7_till 113 = .ok (.iload 6, 2) := by decide +kernel
theorem dX7_till_115 : decode cX7_till 115 = .ok (.iload 10, 2) := by decide +kernel
theorem dX7_till_117 : decode cX7_till 117 = .ok (.iadd, 1) := by decide +kernel
theorem dX7_till_118 : decode cX7_till 118 = .ok (.istore 6, 2) := by decide +kernel
theorem dX7_till_120 : decode cX7_till 120 = .ok (.iload 8, 2) := by decide +kernel
theorem dX7_till_122 : decode cX7_till 122 = .ok (.iload 10, 2) := by decide +kernel
theorem dX7_till_124 : decode cX7_till 124 = .ok (.invokestatic 230, 3) := by decide +kernel
theorem dX7_till_127 : decode cX7_till 127 = .ok (.istore 8, 2) := by decide +kernel
theorem dX7_till_129 : decode cX7_till 129 = .ok (.iinc 9 1, 3) := by decide +kernel
theorem dX7_till_132 : decode cX7_till 132 = .ok (.goto (-70), 3) := by decide +kernel
theorem dX7_till_135 : decode cX7_till 135 = .ok (.iload 4, 2) := by decide +kernel
theorem dX7_till_137 : decode cX7_till 137 = .ok (.ifCond .ne 8, 3) := by decide +kernel
theorem dX7_till_140 : decode cX7_till 140 = .ok (.iload 6, 2) := by decide +kernel
theorem dX7_till_142 : decode cX7_till 142 = .ok (.goto 16, 3) := by decide +kernel
theorem dX7_till_145 : decode cX7_till 145 = .ok (.iload 4, 2) := by decide +kernel
theorem dX7_till_147 : decode cX7_till 147 = .ok (.iconst 1, 1) := by decide +kernel
theorem dX7_till_148 : decode cX7_till 148 = .ok (.if_icmp .ne 8, 3) := by decide +kernel
theorem dX7_till_151 : decode cX7_till 151 = .ok (.iload 7, 2) := by decide +kernel
theorem dX7_till_153 : decode cX7_till 153 = .ok (.goto 5, 3) := by decide +kernel
theorem dX7_till_156 : decode cX7_till 156 = .ok (.iload 8, 2) := by decide +kernel
theorem dX7_till_158 : decode cX7_till 158 = .ok (.ireturn, 1) := by decide +kernel
theorem dX7_rack_0 : decode cX7_rack 0 = .ok (.aload_n 0, 1) := by decide +kernel
theorem dX7_rack_1 : decode cX7_rack 1 = .ok (.getfield 68, 3) := by decide +kernel
theorem dX7_rack_4 : decode cX7_rack 4 = .ok (.iload_n 1, 1) := by decide +kernel
theorem dX7_rack_5 : decode cX7_rack 5 = .ok (.invokevirtual 235, 3) := by decide +kernel
theorem dX7_rack_8 : decode cX7_rack 8 = .ok (.ifCond .ne 5, 3) := by decide +kernel
theorem dX7_rack_11 : decode cX7_rack 11 = .ok (.iconst (-1), 1) := by decide +kernel
theorem dX7_rack_12 : decode cX7_rack 12 = .ok (.ireturn, 1) := by decide +kernel
theorem dX7_rack_13 : decode cX7_rack 13 = .ok (.iload_n 2, 1) := by decide +kernel
theorem dX7_rack_14 : decode cX7_rack 14 = .ok (.bipush 70, 2) := by decide +kernel
theorem dX7_rack_16 : decode cX7_rack 16 = .ok (.if_icmp .le 6, 3) := by decide +kernel
theorem dX7_rack_19 : decode cX7_rack 19 = .ok (.bipush (-2), 2) := by decide +kernel
theorem dX7_rack_21 : decode cX7_rack 21 = .ok (.ireturn, 1) := by decide +kernel
theorem dX7_rack_22 : decode cX7_rack 22 = .ok (.iload_n 2, 1) := by decide +kernel
theorem dX7_rack_23 : decode cX7_rack 23 = .ok (.ifCond .ge 6, 3) := by decide +kernel
theorem dX7_rack_26 : decode cX7_rack 26 = .ok (.bipush (-14), 2) := by decide +kernel
theorem dX7_rack_28 : decode cX7_rack 28 = .ok (.ireturn, 1) := by decide +kernel
theorem dX7_rack_29 : decode cX7_rack 29 = .ok (.aload_n 0, 1) := by decide +kernel
theorem dX7_rack_30 : decode cX7_rack 30 = .ok (.getfield 68, 3) := by decide +kernel
theorem dX7_rack_33 : decode cX7_rack 33 = .ok (.iload_n 1, 1) := by decide +kernel
theorem dX7_rack_34 : decode cX7_rack 34 = .ok (.iload_n 2, 1) := by decide +kernel
theorem dX7_rack_35 : decode cX7_rack 35 = .ok (.invokevirtual 236, 3) := by decide +kernel
theorem dX7_rack_38 : decode cX7_rack 38 = .ok (.iconst 1, 1) := by decide +kernel
theorem dX7_rack_39 : decode cX7_rack 39 = .ok (.ireturn, 1) := by decide +kernel
theorem dX7_put_0 : decode cX7_put 0 = .ok (.aload_n 0, 1) := by decide +kernel
theorem dX7_put_1 : decode cX7_put 1 = .ok (.getfield 68, 3) := by decide +kernel
theorem dX7_put_4 : decode cX7_put 4 = .ok (.iload_n 1, 1) := by decide +kernel
theorem dX7_put_5 : decode cX7_put 5 = .ok (.invokevirtual 235, 3) := by decide +kernel
theorem dX7_put_8 : decode cX7_put 8 = .ok (.ifCond .ne 5, 3) := by decide +kernel
theorem dX7_put_11 : decode cX7_put 11 = .ok (.iconst (-1), 1) := by decide +kernel
theorem dX7_put_12 : decode cX7_put 12 = .ok (.ireturn, 1) := by decide +kernel
theorem dX7_put_13 : decode cX7_put 13 = .ok (.aload_n 0, 1) := by decide +kernel
theorem dX7_put_14 : decode cX7_put 14 = .ok (.getfield 68, 3) := by decide +kernel
theorem dX7_put_17 : decode cX7_put 17 = .ok (.iload_n 1, 1) := by decide +kernel
theorem dX7_put_18 : decode cX7_put 18 = .ok (.invokevirtual 239, 3) := by decide +kernel
theorem dX7_put_21 : decode cX7_put 21 = .ok (.ifCond .ne 6, 3) := by decide +kernel
theorem dX7_put_24 : decode cX7_put 24 = .ok (.bipush (-11), 2) := by decide +kernel
theorem dX7_put_26 : decode cX7_put 26 = .ok (.ireturn, 1) := by decide +kernel
theorem dX7_put_27 : decode cX7_put 27 = .ok (.aload_n 0, 1) := by decide +kernel
theorem dX7_put_28 : decode cX7_put 28 = .ok (.getfield 68, 3) := by decide +kernel
theorem dX7_put_31 : decode cX7_put 31 = .ok (.iload_n 1, 1) := by decide +kernel
theorem dX7_put_32 : decode cX7_put 32 = .ok (.iload_n 2, 1) := by decide +kernel
theorem dX7_put_33 : decode cX7_put 33 = .ok (.invokevirtual 242, 3) := by decide +kernel
theorem dX7_put_36 : decode cX7_put 36 = .ok (.ifCond .ne 6, 3) := by decide +kernel
theorem dX7_put_39 : decode cX7_put 39 = .ok (.bipush (-13), 2) := by decide +kernel
theorem dX7_put_41 : decode cX7_put 41 = .ok (.ireturn, 1) := by decide +kernel
theorem dX7_put_42 : decode cX7_put 42 = .ok (.aload_n 0, 1) := by decide +kernel
theorem dX7_put_43 : decode cX7_put 43 = .ok (.getfield 68, 3) := by decide +kernel
theorem dX7_put_46 : decode cX7_put 46 = .ok (.iload_n 1, 1) := by decide +kernel
theorem dX7_put_47 : decode cX7_put 47 = .ok (.iload_n 2, 1) := by decide +kernel
theorem dX7_put_48 : decode cX7_put 48 = .ok (.iload_n 3, 1) := by decide +kernel
theorem dX7_put_49 : decode cX7_put 49 = .ok (.invokevirtual 246, 3) := by decide +kernel
theorem dX7_put_52 : decode cX7_put 52 = .ok (.iconst 1, 1) := by decide +kernel
theorem dX7_put_53 : decode cX7_put 53 = .ok (.ireturn, 1) := by decide +kernel
theorem dX7_get_0 : decode cX7_get 0 = .ok (.aload_n 0, 1) := by decide +kernel
theorem dX7_get_1 : decode cX7_get 1 = .ok (.getfield 68, 3) := by decide +kernel
theorem dX7_get_4 : decode cX7_get 4 = .ok (.iload_n 1, 1) := by decide +kernel
theorem dX7_get_5 : decode cX7_get 5 = .ok (.iload_n 2, 1) := by decide +kernel
theorem dX7_get_6 : decode cX7_get 6 = .ok (.invokevirtual 242, 3) := by decide +kernel
theorem dX7_get_9 : decode cX7_get 9 = .ok (.ifCond .eq 16, 3) := by decide +kernel
theorem dX7_get_12 : decode cX7_get 12 = .ok (.aload_n 0, 1) := by decide +kernel
theorem dX7_get_13 : decode cX7_get 13 = .ok (.getfield 68, 3) := by decide +kernel
theorem dX7_get_16 : decode cX7_get 16 = .ok (.iload_n 1, 1) := by decide +kernel
theorem dX7_get_17 : decode cX7_get 17 = .ok (.iload_n 2, 1) := by decide +kernel
theorem dX7_get_18 : decode cX7_get 18 = .ok (.invokevirtual 250, 3) := by decide +kernel
theorem dX7_get_21 : decode cX7_get 21 = .ok (.i2l, 1) := by decide +kernel
theorem dX7_get_22 : decode cX7_get 22 = .ok (.goto 6, 3) := by decide +kernel
theorem dX7_get_25 : decode cX7_get 25 = .ok (.ldc2_w 164, 3) := by decide +kernel
theorem dX7_get_28 : decode cX7_get 28 = .ok (.lreturn, 1) := by decide +kernel
theorem dX7_lay_0 : decode cX7_lay 0 = .ok (.aload_n 0, 1) := by decide +kernel
theorem dX7_lay_1 : decode cX7_lay 1 = .ok (.getfield 12, 3) := by decide +kernel
theorem dX7_lay_4 : decode cX7_lay 4 = .ok (.iload_n 1, 1) := by decide +kernel
theorem dX7_lay_5 : decode cX7_lay 5 = .ok (.invokevirtual 80, 3) := by decide +kernel
theorem dX7_lay_8 : decode cX7_lay 8 = .ok (.ifCond .eq 14, 3) := by decide +kernel
theorem dX7_lay_11 : decode cX7_lay 11 = .ok (.aload_n 0, 1) := by decide +kernel
theorem dX7_lay_12 : decode cX7_lay 12 = .ok (.getfield 68, 3) := by decide +kernel
theorem dX7_lay_15 : decode cX7_lay 15 = .ok (.iload_n 2, 1) := by decide +kernel
theorem dX7_lay_16 : decode cX7_lay 16 = .ok (.invokevirtual 235, 3) := by decide +kernel
theorem dX7_lay_19 : decode cX7_lay 19 = .ok (.ifCond .ne 5, 3) := by decide +kernel
theorem dX7_lay_22 : decode cX7_lay 22 = .ok (.iconst (-1), 1) := by decide +kernel
theorem dX7_lay_23 : decode cX7_lay 23 = .ok (.ireturn, 1) := by decide +kernel
theorem dX7_lay_24 : decode cX7_lay 24 = .ok (.aload_n 0, 1) := by decide +kernel
theorem dX7_lay_25 : decode cX7_lay 25 = .ok (.getfield 68, 3) := by decide +kernel
theorem dX7_lay_28 : decode cX7_lay 28 = .ok (.iload_n 2, 1) := by decide +kernel
theorem dX7_lay_29 : decode cX7_lay 29 = .ok (.invokevirtual 239, 3) := by decide +kernel
theorem dX7_lay_32 : decode cX7_lay 32 = .ok (.ifCond .ne 6, 3) := by decide +kernel
theorem dX7_lay_35 : decode cX7_lay 35 = .ok (.bipush (-11), 2) := by decide +kernel
theorem dX7_lay_37 : decode cX7_lay 37 = .ok (.ireturn, 1) := by decide +kernel
theorem dX7_lay_38 : decode cX7_lay 38 = .ok (.aload_n 0, 1) := by decide +kernel
theorem dX7_lay_39 : decode cX7_lay 39 = .ok (.iload_n 1, 1) := by decide +kernel
theorem dX7_lay_40 : decode cX7_lay 40 = .ok (.invokevirtual 169, 3) := by decide +kernel
theorem dX7_lay_43 : decode cX7_lay 43 = .ok (.bipush 7, 2) := by decide +kernel
theorem dX7_lay_45 : decode cX7_lay 45 = .ok (.aload_n 0, 1) := by decide +kernel
theorem dX7_lay_46 : decode cX7_lay 46 = .ok (.getfield 47, 3) := by decide +kernel
theorem dX7_lay_49 : decode cX7_lay 49 = .ok (.getfield 253, 3) := by decide +kernel
theorem dX7_lay_52 : decode cX7_lay 52 = .ok (.imul, 1) := by decide +kernel
theorem dX7_lay_53 : decode cX7_lay 53 = .ok (.istore 4, 2) := by decide +kernel
theorem dX7_lay_55 : decode cX7_lay 55 = .ok (.iconst 0, 1) := by decide +kernel
theorem dX7_lay_56 : decode cX7_lay 56 = .ok (.istore 5, 2) := by decide +kernel
theorem dX7_lay_58 : decode cX7_lay 58 = .ok (.iload 5, 2) := by decide +kernel
theorem dX7_lay_60 : decode cX7_lay 60 = .ok (.iload 4, 2) := by decide +kernel
theorem dX7_lay_62 : decode cX7_lay 62 = .ok (.if_icmp .ge 53, 3) := by decide +kernel
theorem dX7_lay_65 : decode cX7_lay 65 = .ok (.aload_n 0, 1) := by decide +kernel
theorem dX7_lay_66 : decode cX7_lay 66 = .ok (.getfield 68, 3) := by decide +kernel
theorem dX7_lay_69 : decode cX7_lay 69 = .ok (.iload_n 2, 1) := by decide +kernel
theorem dX7_lay_70 : decode cX7_lay 70 = .ok (.iload_n 3, 1) := by decide +kernel
theorem dX7_lay_71 : decode cX7_lay 71 = .ok (.iload 5, 2) := by decide +kernel
theorem dX7_lay_73 : decode cX7_lay 73 = .ok (.iadd, 1) := by decide +kernel
theorem dX7_lay_74 : decode cX7_lay 74 = .ok (.invokevirtual 242, 3) := by decide +kernel
theorem dX7_lay_77 : decode cX7_lay 77 = .ok (.ifCond .ne 6, 3) := by decide +kernel
theorem dX7_lay_80 : decode cX7_lay 80 = .ok (.bipush (-13), 2) := by decide +kernel
theorem dX7_lay_82 : decode cX7_lay 82 = .ok (.ireturn, 1) := by decide +kernel
theorem dX7_lay_83 : decode cX7_lay 83 = .ok (.aload_n 0, 1) := by decide +kernel
theorem dX7_lay_84 : decode cX7_lay 84 = .ok (.getfield 68, 3) := by decide +kernel
theorem dX7_lay_87 : decode cX7_lay 87 = .ok (.iload_n 2, 1) := by decide +kernel
theorem dX7_lay_88 : decode cX7_lay 88 = .ok (.iload_n 3, 1) := by decide +kernel
theorem dX7_lay_89 : decode cX7_lay 89 = .ok (.iload 5, 2) := by decide +kernel
theorem dX7_lay_91 : decode cX7_lay 91 = .ok (.iadd, 1) := by decide +kernel
theorem dX7_lay_92 : decode cX7_lay 92 = .ok (.aload_n 0, 1) := by decide +kernel
theorem dX7_lay_93 : decode cX7_lay 93 = .ok (.iload 5, 2) := by decide +kernel
theorem dX7_lay_95 : decode cX7_lay 95 = .ok (.bipush 7, 2) := by decide +kernel
theorem dX7_lay_97 : decode cX7_lay 97 = .ok (.idiv, 1) := by decide +kernel
theorem dX7_lay_98 : decode cX7_lay 98 = .ok (.iload 5, 2) := by decide +kernel
theorem dX7_lay_100 : decode cX7_lay 100 = .ok (.bipush 7, 2) := by decide +kernel
theorem dX7_lay_102 : decode cX7_lay 102 = .ok (.irem, 1) := by decide +kernel
theorem dX7_lay_103 : decode cX7_lay 103 = .ok (.invokevirtual 254, 3) := by decide +kernel
theorem dX7_lay_106 : decode cX7_lay 106 = .ok (.invokevirtual 246, 3) := by decide +kernel
theorem dX7_lay_109 : decode cX7_lay 109 = .ok (.iinc 5 1, 3) := by decide +kernel
theorem dX7_lay_112 : decode cX7_lay 112 = .ok (.goto (-54), 3) := by decide +kernel
theorem dX7_lay_115 : decode cX7_lay 115 = .ok (.iload 4, 2) := by decide +kernel
theorem dX7_lay_117 : decode cX7_lay 117 = .ok (.ireturn, 1) := by decide +kernel
theorem dX7_judge_0 : decode cX7_judge 0 = .ok (.aload_n 0, 1) := by decide +kernel
theorem dX7_judge_1 : decode cX7_judge 1 = .ok (.getfield 68, 3) := by decide +kernel
theorem dX7_judge_4 : decode cX7_judge 4 = .ok (.iload_n 1, 1) := by decide +kernel
theorem dX7_judge_5 : decode cX7_judge 5 = .ok (.invokevirtual 235, 3) := by decide +kernel
theorem dX7_judge_8 : decode cX7_judge 8 = .ok (.ifCond .eq 14, 3) := by decide +kernel
theorem dX7_judge_11 : decode cX7_judge 11 = .ok (.aload_n 0, 1) := by decide +kernel
theorem dX7_judge_12 : decode cX7_judge 12 = .ok (.getfield 12, 3) := by decide +kernel
theorem dX7_judge_15 : decode cX7_judge 15 = .ok (.iload_n 2, 1) := by decide +kernel
theorem dX7_judge_16 : decode cX7_judge 16 = .ok (.invokevirtual 80, 3) := by decide +kernel
theorem dX7_judge_19 : decode cX7_judge 19 = .ok (.ifCond .ne 5, 3) := by decide +kernel
theorem dX7_judge_22 : decode cX7_judge 22 = .ok (.iconst (-1), 1) := by decide +kernel
theorem dX7_judge_23 : decode cX7_judge 23 = .ok (.ireturn, 1) := by decide +kernel
theorem dX7_judge_24 : decode cX7_judge 24 = .ok (.aload_n 0, 1) := by decide +kernel
theorem dX7_judge_25 : decode cX7_judge 25 = .ok (.getfield 68, 3) := by decide +kernel
theorem dX7_judge_28 : decode cX7_judge 28 = .ok (.iload_n 1, 1) := by decide +kernel
theorem dX7_judge_29 : decode cX7_judge 29 = .ok (.invokevirtual 239, 3) := by decide +kernel
theorem dX7_judge_32 : decode cX7_judge 32 = .ok (.ifCond .ne 6, 3) := by decide +kernel
theorem dX7_judge_35 : decode cX7_judge 35 = .ok (.bipush (-11), 2) := by decide +kernel
theorem dX7_judge_37 : decode cX7_judge 37 = .ok (.ireturn, 1) := by decide +kernel
theorem dX7_judge_38 : decode cX7_judge 38 = .ok (.aload_n 0, 1) := by decide +kernel
theorem dX7_judge_39 : decode cX7_judge 39 = .ok (.getfield 68, 3) := by decide +kernel
theorem dX7_judge_42 : decode cX7_judge 42 = .ok (.iload_n 1, 1) := by decide +kernel
theorem dX7_judge_43 : decode cX7_judge 43 = .ok (.invokevirtual 257, 3) := by decide +kernel
theorem dX7_judge_46 : decode cX7_judge 46 = .ok (.istore_n 3, 1) := by decide +kernel
theorem dX7_judge_47 : decode cX7_judge 47 = .ok (.iload_n 3, 1) := by decide +kernel
theorem dX7_judge_48 : decode cX7_judge 48 = .ok (.iconst (-1), 1) := by decide +kernel
theorem dX7_judge_49 : decode cX7_judge 49 = .ok (.if_icmp .eq 5, 3) := by decide +kernel
theorem dX7_judge_52 : decode cX7_judge 52 = .ok (.iload_n 3, 1) := by decide +kernel
theorem dX7_judge_53 : decode cX7_judge 53 = .ok (.ireturn, 1) := by decide +kernel
theorem dX7_judge_54 : decode cX7_judge 54 = .ok (.aload_n 0, 1) := by decide +kernel
theorem dX7_judge_55 : decode cX7_judge 55 = .ok (.getfield 40, 3) := by decide +kernel
theorem dX7_judge_58 : decode cX7_judge 58 = .ok (.iload_n 2, 1) := by decide +kernel
theorem dX7_judge_59 : decode cX7_judge 59 = .ok (.invokevirtual 152, 3) := by decide +kernel
theorem dX7_judge_62 : decode cX7_judge 62 = .ok (.iconst 0, 1) := by decide +kernel
theorem dX7_judge_63 : decode cX7_judge 63 = .ok (.istore 4, 2) := by decide +kernel
theorem dX7_judge_65 : decode cX7_judge 65 = .ok (.iload 4, 2) := by decide +kernel
theorem dX7_judge_67 : decode cX7_judge 67 = .ok (.sipush 224, 3) := by decide +kernel
theorem dX7_judge_70 : decode cX7_judge 70 = .ok (.if_icmp .ge 38, 3) := by decide +kernel
theorem dX7_judge_73 : decode cX7_judge 73 = .ok (.aload_n 0, 1) := by decide +kernel
theorem dX7_judge_74 : decode cX7_judge 74 = .ok (.getfield 68, 3) := by decide +kernel
theorem dX7_judge_77 : decode cX7_judge 77 = .ok (.iload_n 1, 1) := by decide +kernel
theorem dX7_judge_78 : decode cX7_judge 78 = .ok (.iload 4, 2) := by decide +kernel
theorem dX7_judge_80 : decode cX7_judge 80 = .ok (.invokevirtual 260, 3) := by decide +kernel
theorem dX7_judge_83 : decode cX7_judge 83 = .ok (.aload_n 0, 1) := by decide +kernel
theorem dX7_judge_84 : decode cX7_judge 84 = .ok (.getfield 40, 3) := by decide +kernel
theorem dX7_judge_87 : decode cX7_judge 87 = .ok (.iload 4, 2) := by decide +kernel
theorem dX7_judge_89 : decode cX7_judge 89 = .ok (.invokevirtual 155, 3) := by decide +kernel
theorem dX7_judge_92 : decode cX7_judge 92 = .ok (.if_icmp .eq 10, 3) := by decide +kernel
theorem dX7_judge_95 : decode cX7_judge 95 = .ok (.sipush 500, 3) := by decide +kernel
theorem dX7_judge_98 : decode cX7_judge 98 = .ok (.iload 4, 2) := by decide +kernel
theorem dX7_judge_100 : decode cX7_judge 100 = .ok (.iadd, 1) := by decide +kernel
theorem dX7_judge_101 : decode cX7_judge 101 = .ok (.ireturn, 1) := by decide +kernel
theorem dX7_judge_102 : decode cX7_judge 102 = .ok (.iinc 4 1, 3) := by decide +kernel
theorem dX7_judge_105 : decode cX7_judge 105 = .ok (.goto (-40), 3) := by decide +kernel
theorem dX7_judge_108 : decode cX7_judge 108 = .ok (.bipush (-5), 2) := by decide +kernel
theorem dX7_judge_110 : decode cX7_judge 110 = .ok (.ireturn, 1) := by decide +kernel
theorem dX7_image_0 : decode cX7_image 0 = .ok (.aload_n 0, 1) := by decide +kernel
theorem dX7_image_1 : decode cX7_image 1 = .ok (.getfield 25, 3) := by decide +kernel
theorem dX7_image_4 : decode cX7_image 4 = .ok (.aload_n 0, 1) := by decide +kernel
theorem dX7_image_5 : decode cX7_image 5 = .ok (.getfield 12, 3) := by decide +kernel
theorem dX7_image_8 : decode cX7_image 8 = .ok (.invokevirtual 262, 3) := by decide +kernel
theorem dX7_image_11 : decode cX7_image 11 = .ok (.aload_n 0, 1) := by decide +kernel
theorem dX7_image_12 : decode cX7_image 12 = .ok (.getfield 28, 3) := by decide +kernel
theorem dX7_image_15 : decode cX7_image 15 = .ok (.aload_n 0, 1) := by decide +kernel
theorem dX7_image_16 : decode cX7_image 16 = .ok (.getfield 21, 3) := by decide +kernel
theorem dX7_image_19 : decode cX7_image 19 = .ok (.invokevirtual 265, 3) := by decide +kernel
theorem dX7_image_22 : decode cX7_image 22 = .ok (.aload_n 0, 1) := by decide +kernel
theorem dX7_image_23 : decode cX7_image 23 = .ok (.iconst 1, 1) := by decide +kernel
theorem dX7_image_24 : decode cX7_image 24 = .ok (.putfield 31, 3) := by decide +kernel
theorem dX7_image_27 : decode cX7_image 27 = .ok (.aload_n 0, 1) := by decide +kernel
theorem dX7_image_28 : decode cX7_image 28 = .ok (.getfield 12, 3) := by decide +kernel
theorem dX7_image_31 : decode cX7_image 31 = .ok (.getfield 89, 3) := by decide +kernel
theorem dX7_image_34 : decode cX7_image 34 = .ok (.ireturn, 1) := by decide +kernel
theorem dX7_undo_0 : decode cX7_undo 0 = .ok (.aload_n 0, 1) := by decide +kernel
theorem dX7_undo_1 : decode cX7_undo 1 = .ok (.getfield 31, 3) := by decide +kernel
theorem dX7_undo_4 : decode cX7_undo 4 = .ok (.ifCond .ne 6, 3) := by decide +kernel
theorem dX7_undo_7 : decode cX7_undo 7 = .ok (.bipush (-3), 2) := by decide +kernel
theorem dX7_undo_9 : decode cX7_undo 9 = .ok (.ireturn, 1) := by decide +kernel
theorem dX7_undo_10 : decode cX7_undo 10 = .ok (.aload_n 0, 1) := by decide +kernel
theorem dX7_undo_11 : decode cX7_undo 11 = .ok (.getfield 12, 3) := by decide +kernel
theorem dX7_undo_14 : decode cX7_undo 14 = .ok (.aload_n 0, 1) := by decide +kernel
theorem dX7_undo_15 : decode cX7_undo 15 = .ok (.getfield 25, 3) := by decide +kernel
theorem dX7_undo_18 : decode cX7_undo 18 = .ok (.invokevirtual 262, 3) := by decide +kernel
theorem dX7_undo_21 : decode cX7_undo 21 = .ok (.aload_n 0, 1) := by decide +kernel
theorem dX7_undo_22 : decode cX7_undo 22 = .ok (.getfield 21, 3) := by decide +kernel
theorem dX7_undo_25 : decode cX7_undo 25 = .ok (.aload_n 0, 1) := by decide +kernel
theorem dX7_undo_26 : decode cX7_undo 26 = .ok (.getfield 28, 3) := by decide +kernel
theorem dX7_undo_29 : decode cX7_undo 29 = .ok (.invokevirtual 265, 3) := by decide +kernel
theorem dX7_undo_32 : decode cX7_undo 32 = .ok (.aload_n 0, 1) := by decide +kernel
theorem dX7_undo_33 : decode cX7_undo 33 = .ok (.getfield 12, 3) := by decide +kernel
theorem dX7_undo_36 : decode cX7_undo 36 = .ok (.getfield 89, 3) := by decide +kernel
theorem dX7_undo_39 : decode cX7_undo 39 = .ok (.ireturn, 1) := by decide +kernel
theorem dX7_count_0 : decode cX7_count 0 = .ok (.iload_n 1, 1) := by decide +kernel
theorem dX7_count_1 : decode cX7_count 1 = .ok (.tableswitch 88 0 5 #[39, 47, 55, 63, 71, 80], 39) := by decide +kernel
theorem dX7_count_40 : decode cX7_count 40 = .ok (.aload_n 0, 1) := by decide +kernel
theorem dX7_count_41 : decode cX7_count 41 = .ok (.getfield 12, 3) := by decide +kernel
theorem dX7_count_44 : decode cX7_count 44 = .ok (.getfield 89, 3) := by decide +kernel
theorem dX7_count_47 : decode cX7_count 47 = .ok (.ireturn, 1) := by decide +kernel
theorem dX7_count_48 : decode cX7_count 48 = .ok (.aload_n 0, 1) := by decide +kernel
theorem dX7_count_49 : decode cX7_count 49 = .ok (.getfield 21, 3) := by decide +kernel
theorem dX7_count_52 : decode cX7_count 52 = .ok (.getfield 268, 3) := by decide +kernel
theorem dX7_count_55 : decode cX7_count 55 = .ok (.ireturn, 1) := by decide +kernel
theorem dX7_count_56 : decode cX7_count 56 = .ok (.aload_n 0, 1) := by decide +kernel
theorem dX7_count_57 : decode cX7_count 57 = .ok (.getfield 54, 3) := by decide +kernel
theorem dX7_count_60 : decode cX7_count 60 = .ok (.getfield 269, 3) := by decide +kernel
theorem dX7_count_63 : decode cX7_count 63 = .ok (.ireturn, 1) := by decide +kernel
theorem dX7_count_64 : decode cX7_count 64 = .ok (.aload_n 0, 1) := by decide +kernel
theorem dX7_count_65 : decode cX7_count 65 = .ok (.getfield 61, 3) := by decide +kernel
theorem dX7_count_68 : decode cX7_count 68 = .ok (.getfield 142, 3) := by decide +kernel
theorem dX7_count_71 : decode cX7_count 71 = .ok (.ireturn, 1) := by decide +kernel
theorem dX7_count_72 : decode cX7_count 72 = .ok (.aload_n 0, 1) := by decide +kernel
theorem dX7_count_73 : decode cX7_count 73 = .ok (.getfield 12, 3) := by decide +kernel
theorem dX7_count_76 : decode cX7_count 76 = .ok (.iconst 2, 1) := by decide +kernel
theorem dX7_count_77 : decode cX7_count 77 = .ok (.invokevirtual 270, 3) := by decide +kernel
theorem dX7_count_80 : decode cX7_count 80 = .ok (.ireturn, 1) := by decide +kernel
theorem dX7_count_81 : decode cX7_count 81 = .ok (.aload_n 0, 1) := by decide +kernel
theorem dX7_count_82 : decode cX7_count 82 = .ok (.getfield 12, 3) := by decide +kernel
theorem dX7_count_85 : decode cX7_count 85 = .ok (.invokevirtual 273, 3) := by decide +kernel
theorem dX7_count_88 : decode cX7_count 88 = .ok (.ireturn, 1) := by decide +kernel
theorem dX7_count_89 : decode cX7_count 89 = .ok (.bipush (-2), 2) := by decide +kernel
theorem dX7_count_91 : decode cX7_count 91 = .ok (.ireturn, 1) := by decide +kernel
theorem dX7_isCase_0 : decode cX7_isCase 0 = .ok (.iload_n 0, 1) := by decide +kernel
theorem dX7_isCase_1 : decode cX7_isCase 1 = .ok (.ifCond .lt 14, 3) := by decide +kernel
theorem dX7_isCase_4 : decode cX7_isCase 4 = .ok (.iload_n 0, 1) := by decide +kernel
theorem dX7_isCase_5 : decode cX7_isCase 5 = .ok (.sipush 224, 3) := by decide +kernel
theorem dX7_isCase_8 : decode cX7_isCase 8 = .ok (.if_icmp .ge 7, 3) := by decide +kernel
theorem dX7_isCase_11 : decode cX7_isCase 11 = .ok (.iconst 1, 1) := by decide +kernel
theorem dX7_isCase_12 : decode cX7_isCase 12 = .ok (.goto 4, 3) := by decide +kernel
theorem dX7_isCase_15 : decode cX7_isCase 15 = .ok (.iconst 0, 1) := by decide +kernel
theorem dX7_isCase_16 : decode cX7_isCase 16 = .ok (.ireturn, 1) := by decide +kernel
theorem dX7_isFee_0 : decode cX7_isFee 0 = .ok (.iload_n 0, 1) := by decide +kernel
theorem dX7_isFee_1 : decode cX7_isFee 1 = .ok (.ifCond .lt 13, 3) := by decide +kernel
theorem dX7_isFee_4 : decode cX7_isFee 4 = .ok (.iload_n 0, 1) := by decide +kernel
theorem dX7_isFee_5 : decode cX7_isFee 5 = .ok (.bipush 99, 2) := by decide +kernel
theorem dX7_isFee_7 : decode cX7_isFee 7 = .ok (.if_icmp .gt 7, 3) := by decide +kernel
theorem dX7_isFee_10 : decode cX7_isFee 10 = .ok (.iconst 1, 1) := by decide +kernel
theorem dX7_isFee_11 : decode cX7_isFee 11 = .ok (.goto 4, 3) := by decide +kernel
theorem dX7_isFee_14 : decode cX7_isFee 14 = .ok (.iconst 0, 1) := by decide +kernel
theorem dX7_isFee_15 : decode cX7_isFee 15 = .ok (.ireturn, 1) := by decide +kernel
theorem dX7_isOfTwo_0 : decode cX7_isOfTwo 0 = .ok (.iload_n 0, 1) := by decide +kernel
theorem dX7_isOfTwo_1 : decode cX7_isOfTwo 1 = .ok (.iconst 3, 1) := by decide +kernel
theorem dX7_isOfTwo_2 : decode cX7_isOfTwo 2 = .ok (.if_icmp .eq 19, 3) := by decide +kernel
theorem dX7_isOfTwo_5 : decode cX7_isOfTwo 5 = .ok (.iload_n 0, 1) := by decide +kernel
theorem dX7_isOfTwo_6 : decode cX7_isOfTwo 6 = .ok (.iconst 4, 1) := by decide +kernel
theorem dX7_isOfTwo_7 : decode cX7_isOfTwo 7 = .ok (.if_icmp .eq 14, 3) := by decide +kernel
theorem dX7_isOfTwo_10 : decode cX7_isOfTwo 10 = .ok (.iload_n 0, 1) := by decide +kernel
theorem dX7_isOfTwo_11 : decode cX7_isOfTwo 11 = .ok (.iconst 5, 1) := by decide +kernel
theorem dX7_isOfTwo_12 : decode cX7_isOfTwo 12 = .ok (.if_icmp .eq 9, 3) := by decide +kernel
theorem dX7_isOfTwo_15 : decode cX7_isOfTwo 15 = .ok (.iload_n 0, 1) := by decide +kernel
theorem dX7_isOfTwo_16 : decode cX7_isOfTwo 16 = .ok (.bipush 7, 2) := by decide +kernel
theorem dX7_isOfTwo_18 : decode cX7_isOfTwo 18 = .ok (.if_icmp .ne 7, 3) := by decide +kernel
theorem dX7_isOfTwo_21 : decode cX7_isOfTwo 21 = .ok (.iconst 1, 1) := by decide +kernel
theorem dX7_isOfTwo_22 : decode cX7_isOfTwo 22 = .ok (.goto 4, 3) := by decide +kernel
theorem dX7_isOfTwo_25 : decode cX7_isOfTwo 25 = .ok (.iconst 0, 1) := by decide +kernel
theorem dX7_isOfTwo_26 : decode cX7_isOfTwo 26 = .ok (.ireturn, 1) := by decide +kernel
theorem dX7_kindAbove_0 : decode cX7_kindAbove 0 = .ok (.iload_n 0, 1) := by decide +kernel
theorem dX7_kindAbove_1 : decode cX7_kindAbove 1 = .ok (.bipush 6, 2) := by decide +kernel
theorem dX7_kindAbove_3 : decode cX7_kindAbove 3 = .ok (.if_icmp .ne 7, 3) := by decide +kernel
theorem dX7_kindAbove_6 : decode cX7_kindAbove 6 = .ok (.iconst 2, 1) := by decide +kernel
theorem dX7_kindAbove_7 : decode cX7_kindAbove 7 = .ok (.goto 14, 3) := by decide +kernel
theorem dX7_kindAbove_10 : decode cX7_kindAbove 10 = .ok (.iload_n 0, 1) := by decide +kernel
theorem dX7_kindAbove_11 : decode cX7_kindAbove 11 = .ok (.bipush 7, 2) := by decide +kernel
theorem dX7_kindAbove_13 : decode cX7_kindAbove 13 = .ok (.if_icmp .ne 7, 3) := by decide +kernel
theorem dX7_kindAbove_16 : decode cX7_kindAbove 16 = .ok (.iconst 3, 1) := by decide +kernel
theorem dX7_kindAbove_17 : decode cX7_kindAbove 17 = .ok (.goto 4, 3) := by decide +kernel
theorem dX7_kindAbove_20 : decode cX7_kindAbove 20 = .ok (.iconst (-1), 1) := by decide +kernel
theorem dX7_kindAbove_21 : decode cX7_kindAbove 21 = .ok (.ireturn, 1) := by decide +kernel
theorem dX7_isFlat_0 : decode cX7_isFlat 0 = .ok (.aload_n 0, 1) := by decide +kernel
theorem dX7_isFlat_1 : decode cX7_isFlat 1 = .ok (.getfield 12, 3) := by decide +kernel
theorem dX7_isFlat_4 : decode cX7_isFlat 4 = .ok (.iload_n 1, 1) := by decide +kernel
theorem dX7_isFlat_5 : decode cX7_isFlat 5 = .ok (.invokevirtual 80, 3) := by decide +kernel
theorem dX7_isFlat_8 : decode cX7_isFlat 8 = .ok (.ifCond .eq 19, 3) := by decide +kernel
theorem dX7_isFlat_11 : decode cX7_isFlat 11 = .ok (.aload_n 0, 1) := by decide +kernel
theorem dX7_isFlat_12 : decode cX7_isFlat 12 = .ok (.getfield 12, 3) := by decide +kernel
theorem dX7_isFlat_15 : decode cX7_isFlat 15 = .ok (.getfield 115, 3) := by decide +kernel
theorem dX7_isFlat_18 : decode cX7_isFlat 18 = .ok (.iload_n 1, 1) := by decide +kernel
theorem dX7_isFlat_19 : decode cX7_isFlat 19 = .ok (.iaload, 1) := by decide +kernel
theorem dX7_isFlat_20 : decode cX7_isFlat 20 = .ok (.ifCond .ne 7, 3) := by decide +kernel
theorem dX7_isFlat_23 : decode cX7_isFlat 23 = .ok (.iconst 1, 1) := by decide +kernel
theorem dX7_isFlat_24 : decode cX7_isFlat 24 = .ok (.goto 4, 3) := by decide +kernel
theorem dX7_isFlat_27 : decode cX7_isFlat 27 = .ok (.iconst 0, 1) := by decide +kernel
theorem dX7_isFlat_28 : decode cX7_isFlat 28 = .ok (.ireturn, 1) := by decide +kernel
theorem dX7_caseOf_0 : decode cX7_caseOf 0 = .ok (.bipush 28, 2) := by decide +kernel
theorem dX7_caseOf_2 : decode cX7_caseOf 2 = .ok (.iload_n 0, 1) := by decide +kernel
theorem dX7_caseOf_3 : decode cX7_caseOf 3 = .ok (.imul, 1) := by decide +kernel
theorem dX7_caseOf_4 : decode cX7_caseOf 4 = .ok (.iconst 4, 1) := by decide +kernel
theorem dX7_caseOf_5 : decode cX7_caseOf 5 = .ok (.iload_n 1, 1) := by decide +kernel
theorem dX7_caseOf_6 : decode cX7_caseOf 6 = .ok (.imul, 1) := by decide +kernel
theorem dX7_caseOf_7 : decode cX7_caseOf 7 = .ok (.iadd, 1) := by decide +kernel
theorem dX7_caseOf_8 : decode cX7_caseOf 8 = .ok (.iload_n 2, 1) := by decide +kernel
theorem dX7_caseOf_9 : decode cX7_caseOf 9 = .ok (.iadd, 1) := by decide +kernel
theorem dX7_caseOf_10 : decode cX7_caseOf 10 = .ok (.ireturn, 1) := by decide +kernel
theorem dX7_ageOf_0 : decode cX7_ageOf 0 = .ok (.iload_n 0, 1) := by decide +kernel
theorem dX7_ageOf_1 : decode cX7_ageOf 1 = .ok (.bipush 28, 2) := by decide +kernel
theorem dX7_ageOf_3 : decode cX7_ageOf 3 = .ok (.idiv, 1) := by decide +kernel
theorem dX7_ageOf_4 : decode cX7_ageOf 4 = .ok (.ireturn, 1) := by decide +kernel
theorem dX7_dayOf_0 : decode cX7_dayOf 0 = .ok (.iload_n 0, 1) := by decide +kernel
theorem dX7_dayOf_1 : decode cX7_dayOf 1 = .ok (.iconst 4, 1) := by decide +kernel
theorem dX7_dayOf_2 : decode cX7_dayOf 2 = .ok (.idiv, 1) := by decide +kernel
theorem dX7_dayOf_3 : decode cX7_dayOf 3 = .ok (.bipush 7, 2) := by decide +kernel
theorem dX7_dayOf_5 : decode cX7_dayOf 5 = .ok (.irem, 1) := by decide +kernel
theorem dX7_dayOf_6 : decode cX7_dayOf 6 = .ok (.ireturn, 1) := by decide +kernel
theorem dX7_hourOf_0 : decode cX7_hourOf 0 = .ok (.iload_n 0, 1) := by decide +kernel
theorem dX7_hourOf_1 : decode cX7_hourOf 1 = .ok (.iconst 4, 1) := by decide +kernel
theorem dX7_hourOf_2 : decode cX7_hourOf 2 = .ok (.irem, 1) := by decide +kernel
theorem dX7_hourOf_3 : decode cX7_hourOf 3 = .ok (.ireturn, 1) := by decide +kernel
theorem dX7_figure_0 : decode cX7_figure 0 = .ok (.iload_n 0, 1) := by decide +kernel
theorem dX7_figure_1 : decode cX7_figure 1 = .ok (.istore_n 2, 1) := by decide +kernel
theorem dX7_figure_2 : decode cX7_figure 2 = .ok (.iload_n 1, 1) := by decide +kernel
theorem dX7_figure_3 : decode cX7_figure 3 = .ok (.istore_n 3, 1) := by decide +kernel
theorem dX7_figure_4 : decode cX7_figure 4 = .ok (.iload_n 3, 1) := by decide +kernel
theorem dX7_figure_5 : decode cX7_figure 5 = .ok (.iconst 5, 1) := by decide +kernel
theorem dX7_figure_6 : decode cX7_figure 6 = .ok (.if_icmp .ge 14, 3) := by decide +kernel
theorem dX7_figure_9 : decode cX7_figure 9 = .ok (.iload_n 2, 1) := by decide +kernel
theorem dX7_figure_10 : decode cX7_figure 10 = .ok (.bipush 10, 2) := by decide +kernel
theorem dX7_figure_12 : decode cX7_figure 12 = .ok (.idiv, 1) := by decide +kernel
theorem dX7_figure_13 : decode cX7_figure 13 = .ok (.istore_n 2, 1) := by decide +kernel
theorem dX7_figure_14 : decode cX7_figure 14 = .ok (.iinc 3 1, 3) := by decide +kernel
theorem dX7_figure_17 : decode cX7_figure 17 = .ok (.goto (-13), 3) := by decide +kernel
theorem dX7_figure_20 : decode cX7_figure 20 = .ok (.iload_n 2, 1) := by decide +kernel
theorem dX7_figure_21 : decode cX7_figure 21 = .ok (.bipush 10, 2) := by decide +kernel
theorem dX7_figure_23 : decode cX7_figure 23 = .ok (.irem, 1) := by decide +kernel
theorem dX7_figure_24 : decode cX7_figure 24 = .ok (.ireturn, 1) := by decide +kernel
theorem dX7_canBe_0 : decode cX7_canBe 0 = .ok (.iload_n 1, 1) := by decide +kernel
theorem dX7_canBe_1 : decode cX7_canBe 1 = .ok (.iconst 2, 1) := by decide +kernel
theorem dX7_canBe_2 : decode cX7_canBe 2 = .ok (.if_icmp .ge 8, 3) := by decide +kernel
theorem dX7_canBe_5 : decode cX7_canBe 5 = .ok (.bipush 7, 2) := by decide +kernel
theorem dX7_canBe_7 : decode cX7_canBe 7 = .ok (.goto 14, 3) := by decide +kernel
theorem dX7_canBe_10 : decode cX7_canBe 10 = .ok (.iload_n 1, 1) := by decide +kernel
theorem dX7_canBe_11 : decode cX7_canBe 11 = .ok (.iconst 4, 1) := by decide +kernel
theorem dX7_canBe_12 : decode cX7_canBe 12 = .ok (.if_icmp .ge 8, 3) := by decide +kernel
theorem dX7_canBe_15 : decode cX7_canBe 15 = .ok (.bipush 6, 2) := by decide +kernel
theorem dX7_canBe_17 : decode cX7_canBe 17 = .ok (.goto 4, 3) := by decide +kernel
theorem dX7_canBe_20 : decode cX7_canBe 20 = .ok (.iconst 3, 1) := by decide +kernel
theorem dX7_canBe_21 : decode cX7_canBe 21 = .ok (.istore_n 3, 1) := by decide +kernel
theorem dX7_canBe_22 : decode cX7_canBe 22 = .ok (.iload_n 1, 1) := by decide +kernel
theorem dX7_canBe_23 : decode cX7_canBe 23 = .ok (.iconst 2, 1) := by decide +kernel
theorem dX7_canBe_24 : decode cX7_canBe 24 = .ok (.irem, 1) := by decide +kernel
theorem dX7_canBe_25 : decode cX7_canBe 25 = .ok (.ifCond .ne 7, 3) := by decide +kernel
theorem dX7_canBe_28 : decode cX7_canBe 28 = .ok (.iconst 0, 1) := by decide +kernel
theorem dX7_canBe_29 : decode cX7_canBe 29 = .ok (.goto 4, 3) := by decide +kernel
theorem dX7_canBe_32 : decode cX7_canBe 32 = .ok (.iload_n 2, 1) := by decide +kernel
theorem dX7_canBe_33 : decode cX7_canBe 33 = .ok (.istore 4, 2) := by decide +kernel
theorem dX7_canBe_35 : decode cX7_canBe 35 = .ok (.iload_n 0, 1) := by decide +kernel
theorem dX7_canBe_36 : decode cX7_canBe 36 = .ok (.iload 4, 2) := by decide +kernel
theorem dX7_canBe_38 : decode cX7_canBe 38 = .ok (.if_icmp .lt 12, 3) := by decide +kernel
theorem dX7_canBe_41 : decode cX7_canBe 41 = .ok (.iload_n 0, 1) := by decide +kernel
theorem dX7_canBe_42 : decode cX7_canBe 42 = .ok (.iload_n 3, 1) := by decide +kernel
theorem dX7_canBe_43 : decode cX7_canBe 43 = .ok (.if_icmp .gt 7, 3) := by decide +kernel
theorem dX7_canBe_46 : decode cX7_canBe 46 = .ok (.iconst 1, 1) := by decide +kernel
theorem dX7_canBe_47 : decode cX7_canBe 47 = .ok (.goto 4, 3) := by decide +kernel
theorem dX7_canBe_50 : decode cX7_canBe 50 = .ok (.iconst 0, 1) := by decide +kernel
theorem dX7_canBe_51 : decode cX7_canBe 51 = .ok (.ireturn, 1) := by decide +kernel
theorem dX7_isBox_0 : decode cX7_isBox 0 = .ok (.iload_n 0, 1) := by decide +kernel
theorem dX7_isBox_1 : decode cX7_isBox 1 = .ok (.ifCond .lt 10, 3) := by decide +kernel
theorem dX7_isBox_4 : decode cX7_isBox 4 = .ok (.iload_n 0, 1) := by decide +kernel
theorem dX7_isBox_5 : decode cX7_isBox 5 = .ok (.ldc_w 276, 3) := by decide +kernel
theorem dX7_isBox_8 : decode cX7_isBox 8 = .ok (.if_icmp .le 5, 3) := by decide +kernel
theorem dX7_isBox_11 : decode cX7_isBox 11 = .ok (.iconst 0, 1) := by decide +kernel
theorem dX7_isBox_12 : decode cX7_isBox 12 = .ok (.ireturn, 1) := by decide +kernel
theorem dX7_isBox_13 : decode cX7_isBox 13 = .ok (.iconst 0, 1) := by decide +kernel
theorem dX7_isBox_14 : decode cX7_isBox 14 = .ok (.istore_n 1, 1) := by decide +kernel
theorem dX7_isBox_15 : decode cX7_isBox 15 = .ok (.iconst 0, 1) := by decide +kernel
theorem dX7_isBox_16 : decode cX7_isBox 16 = .ok (.istore_n 2, 1) := by decide +kernel
theorem dX7_isBox_17 : decode cX7_isBox 17 = .ok (.iload_n 2, 1) := by decide +kernel
theorem dX7_isBox_18 : decode cX7_isBox 18 = .ok (.bipush 6, 2) := by decide +kernel
theorem dX7_isBox_20 : decode cX7_isBox 20 = .ok (.if_icmp .ge 28, 3) := by decide +kernel
theorem dX7_isBox_23 : decode cX7_isBox 23 = .ok (.iload_n 0, 1) := by decide +kernel
theorem dX7_isBox_24 : decode cX7_isBox 24 = .ok (.iload_n 2, 1) := by decide +kernel
theorem dX7_isBox_25 : decode cX7_isBox 25 = .ok (.invokestatic 277, 3) := by decide +kernel
theorem dX7_isBox_28 : decode cX7_isBox 28 = .ok (.istore_n 3, 1) := by decide +kernel
theorem dX7_isBox_29 : decode cX7_isBox 29 = .ok (.iload_n 3, 1) := by decide +kernel
theorem dX7_isBox_30 : decode cX7_isBox 30 = .ok (.iload_n 2, 1) := by decide +kernel
theorem dX7_isBox_31 : decode cX7_isBox 31 = .ok (.iload_n 1, 1) := by decide +kernel
theorem dX7_isBox_32 : decode cX7_isBox 32 = .ok (.invokestatic 280, 3) := by decide +kernel
theorem dX7_isBox_35 : decode cX7_isBox 35 = .ok (.ifCond .ne 5, 3) := by decide +kernel
theorem dX7_isBox_38 : decode cX7_isBox 38 = .ok (.iconst 0, 1) := by decide +kernel
theorem dX7_isBox_39 : decode cX7_isBox 39 = .ok (.ireturn, 1) := by decide +kernel
theorem dX7_isBox_40 : decode cX7_isBox 40 = .ok (.iload_n 3, 1) := by decide +kernel
theorem dX7_isBox_41 : decode cX7_isBox 41 = .ok (.istore_n 1, 1) := by decide +kernel
theorem dX7_isBox_42 : decode cX7_isBox 42 = .ok (.iinc 2 1, 3) := by decide +kernel
theorem dX7_isBox_45 : decode cX7_isBox 45 = .ok (.goto (-28), 3) := by decide +kernel
theorem dX7_isBox_48 : decode cX7_isBox 48 = .ok (.iconst 1, 1) := by decide +kernel
theorem dX7_isBox_49 : decode cX7_isBox 49 = .ok (.ireturn, 1) := by decide +kernel
theorem dX7_isInBox_0 : decode cX7_isInBox 0 = .ok (.iload_n 0, 1) := by decide +kernel
theorem dX7_isInBox_1 : decode cX7_isInBox 1 = .ok (.invokestatic 284, 3) := by decide +kernel
theorem dX7_isInBox_4 : decode cX7_isInBox 4 = .ok (.istore_n 2, 1) := by decide +kernel
theorem dX7_isInBox_5 : decode cX7_isInBox 5 = .ok (.iload_n 0, 1) := by decide +kernel
theorem dX7_isInBox_6 : decode cX7_isInBox 6 = .ok (.invokestatic 287, 3) := by decide +kernel
theorem dX7_isInBox_9 : decode cX7_isInBox 9 = .ok (.istore_n 3, 1) := by decide +kernel
theorem dX7_isInBox_10 : decode cX7_isInBox 10 = .ok (.iload_n 0, 1) := by decide +kernel
theorem dX7_isInBox_11 : decode cX7_isInBox 11 = .ok (.invokestatic 290, 3) := by decide +kernel
theorem dX7_isInBox_14 : decode cX7_isInBox 14 = .ok (.istore 4, 2) := by decide +kernel
theorem dX7_isInBox_16 : decode cX7_isInBox 16 = .ok (.iload_n 2, 1) := by decide +kernel
theorem dX7_isInBox_17 : decode cX7_isInBox 17 = .ok (.iload_n 1, 1) := by decide +kernel
theorem dX7_isInBox_18 : decode cX7_isInBox 18 = .ok (.ldc_w 293, 3) := by decide +kernel
theorem dX7_isInBox_21 : decode cX7_isInBox 21 = .ok (.idiv, 1) := by decide +kernel
theorem dX7_isInBox_22 : decode cX7_isInBox 22 = .ok (.if_icmp .lt 63, 3) := by decide +kernel
theorem dX7_isInBox_25 : decode cX7_isInBox 25 = .ok (.iload_n 2, 1) := by decide +kernel
theorem dX7_isInBox_26 : decode cX7_isInBox 26 = .ok (.iload_n 1, 1) := by decide +kernel
theorem dX7_isInBox_27 : decode cX7_isInBox 27 = .ok (.sipush 10000, 3) := by decide +kernel
end
section
theorem dX7_isInBox_30 : decode cX7_isInBox 30 = .ok (.idiv, 1) := by decide +kernel
theorem dX7_isInBox_31 : decode cX7_isInBox 31 = .ok (.bipush 10, 2) := by decide +kernel
theorem dX7_isInBox_33 : decode cX7_isInBox 33 = .ok (.irem, 1) := by decide +kernel
theorem dX7_isInBox_34 : decode cX7_isInBox 34 = .ok (.if_icmp .gt 51, 3) := by decide +kernel
theorem dX7_isInBox_37 : decode cX7_isInBox 37 = .ok (.iload_n 3, 1) := by decide +kernel
theorem dX7_isInBox_38 : decode cX7_isInBox 38 = .ok (.iload_n 1, 1) := by decide +kernel
theorem dX7_isInBox_39 : decode cX7_isInBox 39 = .ok (.sipush 1000, 3) := by decide +kernel
theorem dX7_isInBox_42 : decode cX7_isInBox 42 = .ok (.idiv, 1) := by decide +kernel
theorem dX7_isInBox_43 : decode cX7_isInBox 43 = .ok (.bipush 10, 2) := by decide +kernel
theorem dX7_isInBox_45 : decode cX7_isInBox 45 = .ok (.irem, 1) := by decide +kernel
theorem dX7_isInBox_46 : decode cX7_isInBox 46 = .ok (.if_icmp .lt 39, 3) := by decide +kernel
theorem dX7_isInBox_49 : decode cX7_isInBox 49 = .ok (.iload_n 3, 1) := by decide +kernel
theorem dX7_isInBox_50 : decode cX7_isInBox 50 = .ok (.iload_n 1, 1) := by decide +kernel
theorem dX7_isInBox_51 : decode cX7_isInBox 51 = .ok (.bipush 100, 2) := by decide +kernel
theorem dX7_isInBox_53 : decode cX7_isInBox 53 = .ok (.idiv, 1) := by decide +kernel
theorem dX7_isInBox_54 : decode cX7_isInBox 54 = .ok (.bipush 10, 2) := by decide +kernel
theorem dX7_isInBox_56 : decode cX7_isInBox 56 = .ok (.irem, 1) := by decide +kernel
theorem dX7_isInBox_57 : decode cX7_isInBox 57 = .ok (.if_icmp .gt 28, 3) := by decide +kernel
theorem dX7_isInBox_60 : decode cX7_isInBox 60 = .ok (.iload 4, 2) := by decide +kernel
theorem dX7_isInBox_62 : decode cX7_isInBox 62 = .ok (.iload_n 1, 1) := by decide +kernel
theorem dX7_isInBox_63 : decode cX7_isInBox 63 = .ok (.bipush 10, 2) := by decide +kernel
theorem dX7_isInBox_65 : decode cX7_isInBox 65 = .ok (.idiv, 1) := by decide +kernel
theorem dX7_isInBox_66 : decode cX7_isInBox 66 = .ok (.bipush 10, 2) := by decide +kernel
theorem dX7_isInBox_68 : decode cX7_isInBox 68 = .ok (.irem, 1) := by decide +kernel
theorem dX7_isInBox_69 : decode cX7_isInBox 69 = .ok (.if_icmp .lt 16, 3) := by decide +kernel
theorem dX7_isInBox_72 : decode cX7_isInBox 72 = .ok (.iload 4, 2) := by decide +kernel
theorem dX7_isInBox_74 : decode cX7_isInBox 74 = .ok (.iload_n 1, 1) := by decide +kernel
theorem dX7_isInBox_75 : decode cX7_isInBox 75 = .ok (.bipush 10, 2) := by decide +kernel
theorem dX7_isInBox_77 : decode cX7_isInBox 77 = .ok (.irem, 1) := by decide +kernel
theorem dX7_isInBox_78 : decode cX7_isInBox 78 = .ok (.if_icmp .gt 7, 3) := by decide +kernel
theorem dX7_isInBox_81 : decode cX7_isInBox 81 = .ok (.iconst 1, 1) := by decide +kernel
theorem dX7_isInBox_82 : decode cX7_isInBox 82 = .ok (.goto 4, 3) := by decide +kernel
theorem dX7_isInBox_85 : decode cX7_isInBox 85 = .ok (.iconst 0, 1) := by decide +kernel
theorem dX7_isInBox_86 : decode cX7_isInBox 86 = .ok (.ireturn, 1) := by decide +kernel
theorem dX7_sharedSide_0 : decode cX7_sharedSide 0 = .ok (.iload_n 0, 1) := by decide +kernel
theorem dX7_sharedSide_1 : decode cX7_sharedSide 1 = .ok (.iload_n 2, 1) := by decide +kernel
theorem dX7_sharedSide_2 : decode cX7_sharedSide 2 = .ok (.invokestatic 277, 3) := by decide +kernel
theorem dX7_sharedSide_5 : decode cX7_sharedSide 5 = .ok (.iload_n 1, 1) := by decide +kernel
theorem dX7_sharedSide_6 : decode cX7_sharedSide 6 = .ok (.iload_n 2, 1) := by decide +kernel
theorem dX7_sharedSide_7 : decode cX7_sharedSide 7 = .ok (.invokestatic 277, 3) := by decide +kernel
theorem dX7_sharedSide_10 : decode cX7_sharedSide 10 = .ok (.invokestatic 230, 3) := by decide +kernel
theorem dX7_sharedSide_13 : decode cX7_sharedSide 13 = .ok (.istore_n 3, 1) := by decide +kernel
theorem dX7_sharedSide_14 : decode cX7_sharedSide 14 = .ok (.iload_n 0, 1) := by decide +kernel
theorem dX7_sharedSide_15 : decode cX7_sharedSide 15 = .ok (.iload_n 2, 1) := by decide +kernel
theorem dX7_sharedSide_16 : decode cX7_sharedSide 16 = .ok (.iconst 1, 1) := by decide +kernel
theorem dX7_sharedSide_17 : decode cX7_sharedSide 17 = .ok (.iadd, 1) := by decide +kernel
theorem dX7_sharedSide_18 : decode cX7_sharedSide 18 = .ok (.invokestatic 277, 3) := by decide +kernel
theorem dX7_sharedSide_21 : decode cX7_sharedSide 21 = .ok (.iload_n 1, 1) := by decide +kernel
theorem dX7_sharedSide_22 : decode cX7_sharedSide 22 = .ok (.iload_n 2, 1) := by decide +kernel
theorem dX7_sharedSide_23 : decode cX7_sharedSide 23 = .ok (.iconst 1, 1) := by decide +kernel
theorem dX7_sharedSide_24 : decode cX7_sharedSide 24 = .ok (.iadd, 1) := by decide +kernel
theorem dX7_sharedSide_25 : decode cX7_sharedSide 25 = .ok (.invokestatic 277, 3) := by decide +kernel
theorem dX7_sharedSide_28 : decode cX7_sharedSide 28 = .ok (.invokestatic 294, 3) := by decide +kernel
theorem dX7_sharedSide_31 : decode cX7_sharedSide 31 = .ok (.istore 4, 2) := by decide +kernel
theorem dX7_sharedSide_33 : decode cX7_sharedSide 33 = .ok (.iconst 0, 1) := by decide +kernel
theorem dX7_sharedSide_34 : decode cX7_sharedSide 34 = .ok (.iload 4, 2) := by decide +kernel
theorem dX7_sharedSide_36 : decode cX7_sharedSide 36 = .ok (.iload_n 3, 1) := by decide +kernel
theorem dX7_sharedSide_37 : decode cX7_sharedSide 37 = .ok (.isub, 1) := by decide +kernel
theorem dX7_sharedSide_38 : decode cX7_sharedSide 38 = .ok (.iconst 1, 1) := by decide +kernel
theorem dX7_sharedSide_39 : decode cX7_sharedSide 39 = .ok (.iadd, 1) := by decide +kernel
theorem dX7_sharedSide_40 : decode cX7_sharedSide 40 = .ok (.invokestatic 230, 3) := by decide +kernel
theorem dX7_sharedSide_43 : decode cX7_sharedSide 43 = .ok (.ireturn, 1) := by decide +kernel
theorem dX7_earned_0 : decode cX7_earned 0 = .ok (.aload_n 0, 1) := by decide +kernel
theorem dX7_earned_1 : decode cX7_earned 1 = .ok (.getfield 40, 3) := by decide +kernel
theorem dX7_earned_4 : decode cX7_earned 4 = .ok (.iload_n 1, 1) := by decide +kernel
theorem dX7_earned_5 : decode cX7_earned 5 = .ok (.invokevirtual 152, 3) := by decide +kernel
theorem dX7_earned_8 : decode cX7_earned 8 = .ok (.iconst 0, 1) := by decide +kernel
theorem dX7_earned_9 : decode cX7_earned 9 = .ok (.istore_n 2, 1) := by decide +kernel
theorem dX7_earned_10 : decode cX7_earned 10 = .ok (.iconst 0, 1) := by decide +kernel
theorem dX7_earned_11 : decode cX7_earned 11 = .ok (.istore_n 3, 1) := by decide +kernel
theorem dX7_earned_12 : decode cX7_earned 12 = .ok (.iload_n 3, 1) := by decide +kernel
theorem dX7_earned_13 : decode cX7_earned 13 = .ok (.sipush 224, 3) := by decide +kernel
theorem dX7_earned_16 : decode cX7_earned 16 = .ok (.if_icmp .ge 24, 3) := by decide +kernel
theorem dX7_earned_19 : decode cX7_earned 19 = .ok (.iload_n 2, 1) := by decide +kernel
theorem dX7_earned_20 : decode cX7_earned 20 = .ok (.iconst 0, 1) := by decide +kernel
theorem dX7_earned_21 : decode cX7_earned 21 = .ok (.aload_n 0, 1) := by decide +kernel
theorem dX7_earned_22 : decode cX7_earned 22 = .ok (.getfield 40, 3) := by decide +kernel
theorem dX7_earned_25 : decode cX7_earned 25 = .ok (.iload_n 3, 1) := by decide +kernel
theorem dX7_earned_26 : decode cX7_earned 26 = .ok (.invokevirtual 155, 3) := by decide +kernel
theorem dX7_earned_29 : decode cX7_earned 29 = .ok (.invokestatic 230, 3) := by decide +kernel
theorem dX7_earned_32 : decode cX7_earned 32 = .ok (.iadd, 1) := by decide +kernel
theorem dX7_earned_33 : decode cX7_earned 33 = .ok (.istore_n 2, 1) := by decide +kernel
theorem dX7_earned_34 : decode cX7_earned 34 = .ok (.iinc 3 1, 3) := by decide +kernel
theorem dX7_earned_37 : decode cX7_earned 37 = .ok (.goto (-25), 3) := by decide +kernel
theorem dX7_earned_40 : decode cX7_earned 40 = .ok (.iload_n 2, 1) := by decide +kernel
theorem dX7_earned_41 : decode cX7_earned 41 = .ok (.ireturn, 1) := by decide +kernel
theorem dX7_covered_0 : decode cX7_covered 0 = .ok (.aload_n 0, 1) := by decide +kernel
theorem dX7_covered_1 : decode cX7_covered 1 = .ok (.getfield 40, 3) := by decide +kernel
theorem dX7_covered_4 : decode cX7_covered 4 = .ok (.iload_n 1, 1) := by decide +kernel
theorem dX7_covered_5 : decode cX7_covered 5 = .ok (.invokevirtual 152, 3) := by decide +kernel
theorem dX7_covered_8 : decode cX7_covered 8 = .ok (.iconst 0, 1) := by decide +kernel
theorem dX7_covered_9 : decode cX7_covered 9 = .ok (.istore_n 2, 1) := by decide +kernel
theorem dX7_covered_10 : decode cX7_covered 10 = .ok (.iconst 0, 1) := by decide +kernel
theorem dX7_covered_11 : decode cX7_covered 11 = .ok (.istore_n 3, 1) := by decide +kernel
theorem dX7_covered_12 : decode cX7_covered 12 = .ok (.iload_n 3, 1) := by decide +kernel
theorem dX7_covered_13 : decode cX7_covered 13 = .ok (.sipush 224, 3) := by decide +kernel
theorem dX7_covered_16 : decode cX7_covered 16 = .ok (.if_icmp .ge 25, 3) := by decide +kernel
theorem dX7_covered_19 : decode cX7_covered 19 = .ok (.aload_n 0, 1) := by decide +kernel
theorem dX7_covered_20 : decode cX7_covered 20 = .ok (.getfield 40, 3) := by decide +kernel
theorem dX7_covered_23 : decode cX7_covered 23 = .ok (.iload_n 3, 1) := by decide +kernel
theorem dX7_covered_24 : decode cX7_covered 24 = .ok (.invokevirtual 155, 3) := by decide +kernel
theorem dX7_covered_27 : decode cX7_covered 27 = .ok (.bipush (-5), 2) := by decide +kernel
theorem dX7_covered_29 : decode cX7_covered 29 = .ok (.if_icmp .eq 6, 3) := by decide +kernel
theorem dX7_covered_32 : decode cX7_covered 32 = .ok (.iinc 2 1, 3) := by decide +kernel
theorem dX7_covered_35 : decode cX7_covered 35 = .ok (.iinc 3 1, 3) := by decide +kernel
theorem dX7_covered_38 : decode cX7_covered 38 = .ok (.goto (-26), 3) := by decide +kernel
theorem dX7_covered_41 : decode cX7_covered 41 = .ok (.iload_n 2, 1) := by decide +kernel
theorem dX7_covered_42 : decode cX7_covered 42 = .ok (.ireturn, 1) := by decide +kernel
theorem dX7_commonDivisor_0 : decode cX7_commonDivisor 0 = .ok (.sipush 224, 3) := by decide +kernel
theorem dX7_commonDivisor_3 : decode cX7_commonDivisor 3 = .ok (.istore_n 1, 1) := by decide +kernel
theorem dX7_commonDivisor_4 : decode cX7_commonDivisor 4 = .ok (.iload_n 1, 1) := by decide +kernel
theorem dX7_commonDivisor_5 : decode cX7_commonDivisor 5 = .ok (.iconst 1, 1) := by decide +kernel
theorem dX7_commonDivisor_6 : decode cX7_commonDivisor 6 = .ok (.if_icmp .le 25, 3) := by decide +kernel
theorem dX7_commonDivisor_9 : decode cX7_commonDivisor 9 = .ok (.iload_n 0, 1) := by decide +kernel
theorem dX7_commonDivisor_10 : decode cX7_commonDivisor 10 = .ok (.iload_n 1, 1) := by decide +kernel
theorem dX7_commonDivisor_11 : decode cX7_commonDivisor 11 = .ok (.irem, 1) := by decide +kernel
theorem dX7_commonDivisor_12 : decode cX7_commonDivisor 12 = .ok (.ifCond .ne 13, 3) := by decide +kernel
theorem dX7_commonDivisor_15 : decode cX7_commonDivisor 15 = .ok (.sipush 224, 3) := by decide +kernel
theorem dX7_commonDivisor_18 : decode cX7_commonDivisor 18 = .ok (.iload_n 1, 1) := by decide +kernel
theorem dX7_commonDivisor_19 : decode cX7_commonDivisor 19 = .ok (.irem, 1) := by decide +kernel
theorem dX7_commonDivisor_20 : decode cX7_commonDivisor 20 = .ok (.ifCond .ne 5, 3) := by decide +kernel
theorem dX7_commonDivisor_23 : decode cX7_commonDivisor 23 = .ok (.iload_n 1, 1) := by decide +kernel
theorem dX7_commonDivisor_24 : decode cX7_commonDivisor 24 = .ok (.ireturn, 1) := by decide +kernel
theorem dX7_commonDivisor_25 : decode cX7_commonDivisor 25 = .ok (.iinc 1 (-1), 3) := by decide +kernel
theorem dX7_commonDivisor_28 : decode cX7_commonDivisor 28 = .ok (.goto (-24), 3) := by decide +kernel
theorem dX7_commonDivisor_31 : decode cX7_commonDivisor 31 = .ok (.iconst 1, 1) := by decide +kernel
theorem dX7_commonDivisor_32 : decode cX7_commonDivisor 32 = .ok (.ireturn, 1) := by decide +kernel
theorem dX7_isIdle_0 : decode cX7_isIdle 0 = .ok (.iconst 0, 1) := by decide +kernel
theorem dX7_isIdle_1 : decode cX7_isIdle 1 = .ok (.istore_n 2, 1) := by decide +kernel
theorem dX7_isIdle_2 : decode cX7_isIdle 2 = .ok (.iload_n 2, 1) := by decide +kernel
theorem dX7_isIdle_3 : decode cX7_isIdle 3 = .ok (.sipush 224, 3) := by decide +kernel
theorem dX7_isIdle_6 : decode cX7_isIdle 6 = .ok (.if_icmp .ge 48, 3) := by decide +kernel
theorem dX7_isIdle_9 : decode cX7_isIdle 9 = .ok (.aload_n 0, 1) := by decide +kernel
theorem dX7_isIdle_10 : decode cX7_isIdle 10 = .ok (.getfield 40, 3) := by decide +kernel
theorem dX7_isIdle_13 : decode cX7_isIdle 13 = .ok (.iconst (-1), 1) := by decide +kernel
theorem dX7_isIdle_14 : decode cX7_isIdle 14 = .ok (.invokevirtual 297, 3) := by decide +kernel
theorem dX7_isIdle_17 : decode cX7_isIdle 17 = .ok (.aload_n 0, 1) := by decide +kernel
theorem dX7_isIdle_18 : decode cX7_isIdle 18 = .ok (.getfield 40, 3) := by decide +kernel
theorem dX7_isIdle_21 : decode cX7_isIdle 21 = .ok (.iload_n 2, 1) := by decide +kernel
theorem dX7_isIdle_22 : decode cX7_isIdle 22 = .ok (.invokevirtual 155, 3) := by decide +kernel
theorem dX7_isIdle_25 : decode cX7_isIdle 25 = .ok (.istore_n 3, 1) := by decide +kernel
theorem dX7_isIdle_26 : decode cX7_isIdle 26 = .ok (.aload_n 0, 1) := by decide +kernel
theorem dX7_isIdle_27 : decode cX7_isIdle 27 = .ok (.getfield 40, 3) := by decide +kernel
theorem dX7_isIdle_30 : decode cX7_isIdle 30 = .ok (.iload_n 1, 1) := by decide +kernel
theorem dX7_isIdle_31 : decode cX7_isIdle 31 = .ok (.invokevirtual 297, 3) := by decide +kernel
theorem dX7_isIdle_34 : decode cX7_isIdle 34 = .ok (.aload_n 0, 1) := by decide +kernel
theorem dX7_isIdle_35 : decode cX7_isIdle 35 = .ok (.getfield 40, 3) := by decide +kernel
theorem dX7_isIdle_38 : decode cX7_isIdle 38 = .ok (.iload_n 2, 1) := by decide +kernel
theorem dX7_isIdle_39 : decode cX7_isIdle 39 = .ok (.invokevirtual 155, 3) := by decide +kernel
theorem dX7_isIdle_42 : decode cX7_isIdle 42 = .ok (.iload_n 3, 1) := by decide +kernel
theorem dX7_isIdle_43 : decode cX7_isIdle 43 = .ok (.if_icmp .eq 5, 3) := by decide +kernel
theorem dX7_isIdle_46 : decode cX7_isIdle 46 = .ok (.iconst 0, 1) := by decide +kernel
theorem dX7_isIdle_47 : decode cX7_isIdle 47 = .ok (.ireturn, 1) := by decide +kernel
theorem dX7_isIdle_48 : decode cX7_isIdle 48 = .ok (.iinc 2 1, 3) := by decide +kernel
theorem dX7_isIdle_51 : decode cX7_isIdle 51 = .ok (.goto (-49), 3) := by decide +kernel
theorem dX7_isIdle_54 : decode cX7_isIdle 54 = .ok (.iconst 1, 1) := by decide +kernel
theorem dX7_isIdle_55 : decode cX7_isIdle 55 = .ok (.ireturn, 1) := by decide +kernel
theorem dX7_saysWhatWasPaid_0 : decode cX7_saysWhatWasPaid 0 = .ok (.iconst 0, 1) := by decide +kernel
theorem dX7_saysWhatWasPaid_1 : decode cX7_saysWhatWasPaid 1 = .ok (.istore_n 1, 1) := by decide +kernel
theorem dX7_saysWhatWasPaid_2 : decode cX7_saysWhatWasPaid 2 = .ok (.iload_n 1, 1) := by decide +kernel
theorem dX7_saysWhatWasPaid_3 : decode cX7_saysWhatWasPaid 3 = .ok (.aload_n 0, 1) := by decide +kernel
theorem dX7_saysWhatWasPaid_4 : decode cX7_saysWhatWasPaid 4 = .ok (.getfield 21, 3) := by decide +kernel
theorem dX7_saysWhatWasPaid_7 : decode cX7_saysWhatWasPaid 7 = .ok (.getfield 268, 3) := by decide +kernel
theorem dX7_saysWhatWasPaid_10 : decode cX7_saysWhatWasPaid 10 = .ok (.if_icmp .ge 39, 3) := by decide +kernel
theorem dX7_saysWhatWasPaid_13 : decode cX7_saysWhatWasPaid 13 = .ok (.aload_n 0, 1) := by decide +kernel
theorem dX7_saysWhatWasPaid_14 : decode cX7_saysWhatWasPaid 14 = .ok (.getfield 40, 3) := by decide +kernel
theorem dX7_saysWhatWasPaid_17 : decode cX7_saysWhatWasPaid 17 = .ok (.aload_n 0, 1) := by decide +kernel
theorem dX7_saysWhatWasPaid_18 : decode cX7_saysWhatWasPaid 18 = .ok (.getfield 21, 3) := by decide +kernel
theorem dX7_saysWhatWasPaid_21 : decode cX7_saysWhatWasPaid 21 = .ok (.getfield 300, 3) := by decide +kernel
theorem dX7_saysWhatWasPaid_24 : decode cX7_saysWhatWasPaid 24 = .ok (.iload_n 1, 1) := by decide +kernel
theorem dX7_saysWhatWasPaid_25 : decode cX7_saysWhatWasPaid 25 = .ok (.iaload, 1) := by decide +kernel
theorem dX7_saysWhatWasPaid_26 : decode cX7_saysWhatWasPaid 26 = .ok (.invokevirtual 155, 3) := by decide +kernel
theorem dX7_saysWhatWasPaid_29 : decode cX7_saysWhatWasPaid 29 = .ok (.aload_n 0, 1) := by decide +kernel
theorem dX7_saysWhatWasPaid_30 : decode cX7_saysWhatWasPaid 30 = .ok (.getfield 21, 3) := by decide +kernel
theorem dX7_saysWhatWasPaid_33 : decode cX7_saysWhatWasPaid 33 = .ok (.getfield 301, 3) := by decide +kernel
theorem dX7_saysWhatWasPaid_36 : decode cX7_saysWhatWasPaid 36 = .ok (.iload_n 1, 1) := by decide +kernel
theorem dX7_saysWhatWasPaid_37 : decode cX7_saysWhatWasPaid 37 = .ok (.iaload, 1) := by decide +kernel
theorem dX7_saysWhatWasPaid_38 : decode cX7_saysWhatWasPaid 38 = .ok (.if_icmp .eq 5, 3) := by decide +kernel
theorem dX7_saysWhatWasPaid_41 : decode cX7_saysWhatWasPaid 41 = .ok (.iconst 0, 1) := by decide +kernel
theorem dX7_saysWhatWasPaid_42 : decode cX7_saysWhatWasPaid 42 = .ok (.ireturn, 1) := by decide +kernel
theorem dX7_saysWhatWasPaid_43 : decode cX7_saysWhatWasPaid 43 = .ok (.iinc 1 1, 3) := by decide +kernel
theorem dX7_saysWhatWasPaid_46 : decode cX7_saysWhatWasPaid 46 = .ok (.goto (-44), 3) := by decide +kernel
theorem dX7_saysWhatWasPaid_49 : decode cX7_saysWhatWasPaid 49 = .ok (.iconst 1, 1) := by decide +kernel
theorem dX7_saysWhatWasPaid_50 : decode cX7_saysWhatWasPaid 50 = .ok (.ireturn, 1) := by decide +kernel
theorem dX7_boxFees_0 : decode cX7_boxFees 0 = .ok (.aload_n 0, 1) := by decide +kernel
theorem dX7_boxFees_1 : decode cX7_boxFees 1 = .ok (.getfield 40, 3) := by decide +kernel
theorem dX7_boxFees_4 : decode cX7_boxFees 4 = .ok (.iload_n 1, 1) := by decide +kernel
theorem dX7_boxFees_5 : decode cX7_boxFees 5 = .ok (.invokevirtual 152, 3) := by decide +kernel
theorem dX7_boxFees_8 : decode cX7_boxFees 8 = .ok (.iconst 0, 1) := by decide +kernel
theorem dX7_boxFees_9 : decode cX7_boxFees 9 = .ok (.istore_n 2, 1) := by decide +kernel
theorem dX7_boxFees_10 : decode cX7_boxFees 10 = .ok (.iload_n 2, 1) := by decide +kernel
theorem dX7_boxFees_11 : decode cX7_boxFees 11 = .ok (.sipush 224, 3) := by decide +kernel
theorem dX7_boxFees_14 : decode cX7_boxFees 14 = .ok (.if_icmp .ge 38, 3) := by decide +kernel
theorem dX7_boxFees_17 : decode cX7_boxFees 17 = .ok (.aload_n 0, 1) := by decide +kernel
theorem dX7_boxFees_18 : decode cX7_boxFees 18 = .ok (.getfield 40, 3) := by decide +kernel
theorem dX7_boxFees_21 : decode cX7_boxFees 21 = .ok (.iload_n 2, 1) := by decide +kernel
theorem dX7_boxFees_22 : decode cX7_boxFees 22 = .ok (.invokevirtual 155, 3) := by decide +kernel
theorem dX7_boxFees_25 : decode cX7_boxFees 25 = .ok (.istore_n 3, 1) := by decide +kernel
theorem dX7_boxFees_26 : decode cX7_boxFees 26 = .ok (.aload_n 0, 1) := by decide +kernel
theorem dX7_boxFees_27 : decode cX7_boxFees 27 = .ok (.getfield 47, 3) := by decide +kernel
theorem dX7_boxFees_30 : decode cX7_boxFees 30 = .ok (.getfield 302, 3) := by decide +kernel
theorem dX7_boxFees_33 : decode cX7_boxFees 33 = .ok (.iload_n 2, 1) := by decide +kernel
theorem dX7_boxFees_34 : decode cX7_boxFees 34 = .ok (.iload_n 3, 1) := by decide +kernel
theorem dX7_boxFees_35 : decode cX7_boxFees 35 = .ok (.bipush (-5), 2) := by decide +kernel
theorem dX7_boxFees_37 : decode cX7_boxFees 37 = .ok (.if_icmp .ne 7, 3) := by decide +kernel
theorem dX7_boxFees_40 : decode cX7_boxFees 40 = .ok (.iconst (-1), 1) := by decide +kernel
theorem dX7_boxFees_41 : decode cX7_boxFees 41 = .ok (.goto 4, 3) := by decide +kernel
theorem dX7_boxFees_44 : decode cX7_boxFees 44 = .ok (.iload_n 3, 1) := by decide +kernel
theorem dX7_boxFees_45 : decode cX7_boxFees 45 = .ok (.iastore, 1) := by decide +kernel
theorem dX7_boxFees_46 : decode cX7_boxFees 46 = .ok (.iinc 2 1, 3) := by decide +kernel
theorem dX7_boxFees_49 : decode cX7_boxFees 49 = .ok (.goto (-39), 3) := by decide +kernel
theorem dX7_boxFees_52 : decode cX7_boxFees 52 = .ok (.aload_n 0, 1) := by decide +kernel
theorem dX7_boxFees_53 : decode cX7_boxFees 53 = .ok (.getfield 47, 3) := by decide +kernel
theorem dX7_boxFees_56 : decode cX7_boxFees 56 = .ok (.invokevirtual 305, 3) := by decide +kernel
theorem dX7_boxFees_59 : decode cX7_boxFees 59 = .ok (.return_, 1) := by decide +kernel
theorem dX7_boxGaps_0 : decode cX7_boxGaps 0 = .ok (.aload_n 0, 1) := by decide +kernel
theorem dX7_boxGaps_1 : decode cX7_boxGaps 1 = .ok (.getfield 40, 3) := by decide +kernel
theorem dX7_boxGaps_4 : decode cX7_boxGaps 4 = .ok (.iload_n 1, 1) := by decide +kernel
theorem dX7_boxGaps_5 : decode cX7_boxGaps 5 = .ok (.invokevirtual 152, 3) := by decide +kernel
theorem dX7_boxGaps_8 : decode cX7_boxGaps 8 = .ok (.iconst 0, 1) := by decide +kernel
theorem dX7_boxGaps_9 : decode cX7_boxGaps 9 = .ok (.istore_n 2, 1) := by decide +kernel
theorem dX7_boxGaps_10 : decode cX7_boxGaps 10 = .ok (.iload_n 2, 1) := by decide +kernel
theorem dX7_boxGaps_11 : decode cX7_boxGaps 11 = .ok (.sipush 224, 3) := by decide +kernel
theorem dX7_boxGaps_14 : decode cX7_boxGaps 14 = .ok (.if_icmp .ge 36, 3) := by decide +kernel
theorem dX7_boxGaps_17 : decode cX7_boxGaps 17 = .ok (.aload_n 0, 1) := by decide +kernel
theorem dX7_boxGaps_18 : decode cX7_boxGaps 18 = .ok (.getfield 47, 3) := by decide +kernel
theorem dX7_boxGaps_21 : decode cX7_boxGaps 21 = .ok (.getfield 302, 3) := by decide +kernel
theorem dX7_boxGaps_24 : decode cX7_boxGaps 24 = .ok (.iload_n 2, 1) := by decide +kernel
theorem dX7_boxGaps_25 : decode cX7_boxGaps 25 = .ok (.aload_n 0, 1) := by decide +kernel
theorem dX7_boxGaps_26 : decode cX7_boxGaps 26 = .ok (.getfield 40, 3) := by decide +kernel
theorem dX7_boxGaps_29 : decode cX7_boxGaps 29 = .ok (.iload_n 2, 1) := by decide +kernel
theorem dX7_boxGaps_30 : decode cX7_boxGaps 30 = .ok (.invokevirtual 155, 3) := by decide +kernel
theorem dX7_boxGaps_33 : decode cX7_boxGaps 33 = .ok (.bipush (-5), 2) := by decide +kernel
theorem dX7_boxGaps_35 : decode cX7_boxGaps 35 = .ok (.if_icmp .ne 7, 3) := by decide +kernel
theorem dX7_boxGaps_38 : decode cX7_boxGaps 38 = .ok (.iconst 0, 1) := by decide +kernel
theorem dX7_boxGaps_39 : decode cX7_boxGaps 39 = .ok (.goto 4, 3) := by decide +kernel
theorem dX7_boxGaps_42 : decode cX7_boxGaps 42 = .ok (.iconst (-1), 1) := by decide +kernel
theorem dX7_boxGaps_43 : decode cX7_boxGaps 43 = .ok (.iastore, 1) := by decide +kernel
theorem dX7_boxGaps_44 : decode cX7_boxGaps 44 = .ok (.iinc 2 1, 3) := by decide +kernel
theorem dX7_boxGaps_47 : decode cX7_boxGaps 47 = .ok (.goto (-37), 3) := by decide +kernel
theorem dX7_boxGaps_50 : decode cX7_boxGaps 50 = .ok (.aload_n 0, 1) := by decide +kernel
theorem dX7_boxGaps_51 : decode cX7_boxGaps 51 = .ok (.getfield 47, 3) := by decide +kernel
theorem dX7_boxGaps_54 : decode cX7_boxGaps 54 = .ok (.invokevirtual 305, 3) := by decide +kernel
theorem dX7_boxGaps_57 : decode cX7_boxGaps 57 = .ok (.return_, 1) := by decide +kernel
theorem dX7_boxDiffs_0 : decode cX7_boxDiffs 0 = .ok (.aload_n 0, 1) := by decide +kernel
theorem dX7_boxDiffs_1 : decode cX7_boxDiffs 1 = .ok (.getfield 40, 3) := by decide +kernel
theorem dX7_boxDiffs_4 : decode cX7_boxDiffs 4 = .ok (.iload_n 1, 1) := by decide +kernel
theorem dX7_boxDiffs_5 : decode cX7_boxDiffs 5 = .ok (.invokevirtual 152, 3) := by decide +kernel
theorem dX7_boxDiffs_8 : decode cX7_boxDiffs 8 = .ok (.iconst 0, 1) := by decide +kernel
theorem dX7_boxDiffs_9 : decode cX7_boxDiffs 9 = .ok (.istore_n 3, 1) := by decide +kernel
theorem dX7_boxDiffs_10 : decode cX7_boxDiffs 10 = .ok (.iload_n 3, 1) := by decide +kernel
theorem dX7_boxDiffs_11 : decode cX7_boxDiffs 11 = .ok (.sipush 224, 3) := by decide +kernel
theorem dX7_boxDiffs_14 : decode cX7_boxDiffs 14 = .ok (.if_icmp .ge 26, 3) := by decide +kernel
theorem dX7_boxDiffs_17 : decode cX7_boxDiffs 17 = .ok (.aload_n 0, 1) := by decide +kernel
theorem dX7_boxDiffs_18 : decode cX7_boxDiffs 18 = .ok (.getfield 47, 3) := by decide +kernel
theorem dX7_boxDiffs_21 : decode cX7_boxDiffs 21 = .ok (.getfield 302, 3) := by decide +kernel
theorem dX7_boxDiffs_24 : decode cX7_boxDiffs 24 = .ok (.iload_n 3, 1) := by decide +kernel
theorem dX7_boxDiffs_25 : decode cX7_boxDiffs 25 = .ok (.aload_n 0, 1) := by decide +kernel
theorem dX7_boxDiffs_26 : decode cX7_boxDiffs 26 = .ok (.getfield 40, 3) := by decide +kernel
theorem dX7_boxDiffs_29 : decode cX7_boxDiffs 29 = .ok (.iload_n 3, 1) := by decide +kernel
theorem dX7_boxDiffs_30 : decode cX7_boxDiffs 30 = .ok (.invokevirtual 155, 3) := by decide +kernel
theorem dX7_boxDiffs_33 : decode cX7_boxDiffs 33 = .ok (.iastore, 1) := by decide +kernel
theorem dX7_boxDiffs_34 : decode cX7_boxDiffs 34 = .ok (.iinc 3 1, 3) := by decide +kernel
theorem dX7_boxDiffs_37 : decode cX7_boxDiffs 37 = .ok (.goto (-27), 3) := by decide +kernel
theorem dX7_boxDiffs_40 : decode cX7_boxDiffs 40 = .ok (.aload_n 0, 1) := by decide +kernel
theorem dX7_boxDiffs_41 : decode cX7_boxDiffs 41 = .ok (.getfield 40, 3) := by decide +kernel
theorem dX7_boxDiffs_44 : decode cX7_boxDiffs 44 = .ok (.iload_n 2, 1) := by decide +kernel
theorem dX7_boxDiffs_45 : decode cX7_boxDiffs 45 = .ok (.invokevirtual 152, 3) := by decide +kernel
theorem dX7_boxDiffs_48 : decode cX7_boxDiffs 48 = .ok (.iconst 0, 1) := by decide +kernel
theorem dX7_boxDiffs_49 : decode cX7_boxDiffs 49 = .ok (.istore_n 3, 1) := by decide +kernel
theorem dX7_boxDiffs_50 : decode cX7_boxDiffs 50 = .ok (.iload_n 3, 1) := by decide +kernel
theorem dX7_boxDiffs_51 : decode cX7_boxDiffs 51 = .ok (.sipush 224, 3) := by decide +kernel
theorem dX7_boxDiffs_54 : decode cX7_boxDiffs 54 = .ok (.if_icmp .ge 57, 3) := by decide +kernel
theorem dX7_boxDiffs_57 : decode cX7_boxDiffs 57 = .ok (.aload_n 0, 1) := by decide +kernel
theorem dX7_boxDiffs_58 : decode cX7_boxDiffs 58 = .ok (.getfield 47, 3) := by decide +kernel
theorem dX7_boxDiffs_61 : decode cX7_boxDiffs 61 = .ok (.getfield 302, 3) := by decide +kernel
theorem dX7_boxDiffs_64 : decode cX7_boxDiffs 64 = .ok (.iload_n 3, 1) := by decide +kernel
theorem dX7_boxDiffs_65 : decode cX7_boxDiffs 65 = .ok (.iaload, 1) := by decide +kernel
theorem dX7_boxDiffs_66 : decode cX7_boxDiffs 66 = .ok (.istore 4, 2) := by decide +kernel
theorem dX7_boxDiffs_68 : decode cX7_boxDiffs 68 = .ok (.aload_n 0, 1) := by decide +kernel
theorem dX7_boxDiffs_69 : decode cX7_boxDiffs 69 = .ok (.getfield 40, 3) := by decide +kernel
theorem dX7_boxDiffs_72 : decode cX7_boxDiffs 72 = .ok (.iload_n 3, 1) := by decide +kernel
theorem dX7_boxDiffs_73 : decode cX7_boxDiffs 73 = .ok (.invokevirtual 155, 3) := by decide +kernel
theorem dX7_boxDiffs_76 : decode cX7_boxDiffs 76 = .ok (.istore 5, 2) := by decide +kernel
theorem dX7_boxDiffs_78 : decode cX7_boxDiffs 78 = .ok (.aload_n 0, 1) := by decide +kernel
theorem dX7_boxDiffs_79 : decode cX7_boxDiffs 79 = .ok (.getfield 47, 3) := by decide +kernel
theorem dX7_boxDiffs_82 : decode cX7_boxDiffs 82 = .ok (.getfield 302, 3) := by decide +kernel
theorem dX7_boxDiffs_85 : decode cX7_boxDiffs 85 = .ok (.iload_n 3, 1) := by decide +kernel
theorem dX7_boxDiffs_86 : decode cX7_boxDiffs 86 = .ok (.iload 4, 2) := by decide +kernel
theorem dX7_boxDiffs_88 : decode cX7_boxDiffs 88 = .ok (.iload 5, 2) := by decide +kernel
theorem dX7_boxDiffs_90 : decode cX7_boxDiffs 90 = .ok (.if_icmp .ne 7, 3) := by decide +kernel
theorem dX7_boxDiffs_93 : decode cX7_boxDiffs 93 = .ok (.iconst (-1), 1) := by decide +kernel
theorem dX7_boxDiffs_94 : decode cX7_boxDiffs 94 = .ok (.goto 10, 3) := by decide +kernel
theorem dX7_boxDiffs_97 : decode cX7_boxDiffs 97 = .ok (.iload 4, 2) := by decide +kernel
theorem dX7_boxDiffs_99 : decode cX7_boxDiffs 99 = .ok (.iload 5, 2) := by decide +kernel
theorem dX7_boxDiffs_101 : decode cX7_boxDiffs 101 = .ok (.invokestatic 308, 3) := by decide +kernel
theorem dX7_boxDiffs_104 : decode cX7_boxDiffs 104 = .ok (.iastore, 1) := by decide +kernel
theorem dX7_boxDiffs_105 : decode cX7_boxDiffs 105 = .ok (.iinc 3 1, 3) := by decide +kernel
theorem dX7_boxDiffs_108 : decode cX7_boxDiffs 108 = .ok (.goto (-58), 3) := by decide +kernel
theorem dX7_boxDiffs_111 : decode cX7_boxDiffs 111 = .ok (.aload_n 0, 1) := by decide +kernel
theorem dX7_boxDiffs_112 : decode cX7_boxDiffs 112 = .ok (.getfield 47, 3) := by decide +kernel
theorem dX7_boxDiffs_115 : decode cX7_boxDiffs 115 = .ok (.invokevirtual 305, 3) := by decide +kernel
theorem dX7_boxDiffs_118 : decode cX7_boxDiffs 118 = .ok (.return_, 1) := by decide +kernel
theorem dX7_pair_0 : decode cX7_pair 0 = .ok (.iload_n 0, 1) := by decide +kernel
theorem dX7_pair_1 : decode cX7_pair 1 = .ok (.bipush (-5), 2) := by decide +kernel
theorem dX7_pair_3 : decode cX7_pair 3 = .ok (.isub, 1) := by decide +kernel
theorem dX7_pair_4 : decode cX7_pair 4 = .ok (.sipush 1000, 3) := by decide +kernel
theorem dX7_pair_7 : decode cX7_pair 7 = .ok (.imul, 1) := by decide +kernel
theorem dX7_pair_8 : decode cX7_pair 8 = .ok (.iload_n 1, 1) := by decide +kernel
theorem dX7_pair_9 : decode cX7_pair 9 = .ok (.bipush (-5), 2) := by decide +kernel
theorem dX7_pair_11 : decode cX7_pair 11 = .ok (.isub, 1) := by decide +kernel
theorem dX7_pair_12 : decode cX7_pair 12 = .ok (.iadd, 1) := by decide +kernel
theorem dX7_pair_13 : decode cX7_pair 13 = .ok (.ireturn, 1) := by decide +kernel
theorem dX7_firstOfPair_0 : decode cX7_firstOfPair 0 = .ok (.iload_n 0, 1) := by decide +kernel
theorem dX7_firstOfPair_1 : decode cX7_firstOfPair 1 = .ok (.sipush 1000, 3) := by decide +kernel
theorem dX7_firstOfPair_4 : decode cX7_firstOfPair 4 = .ok (.idiv, 1) := by decide +kernel
theorem dX7_firstOfPair_5 : decode cX7_firstOfPair 5 = .ok (.bipush (-5), 2) := by decide +kernel
theorem dX7_firstOfPair_7 : decode cX7_firstOfPair 7 = .ok (.iadd, 1) := by decide +kernel
theorem dX7_firstOfPair_8 : decode cX7_firstOfPair 8 = .ok (.ireturn, 1) := by decide +kernel
theorem dX7_secondOfPair_0 : decode cX7_secondOfPair 0 = .ok (.iload_n 0, 1) := by decide +kernel
theorem dX7_secondOfPair_1 : decode cX7_secondOfPair 1 = .ok (.sipush 1000, 3) := by decide +kernel
theorem dX7_secondOfPair_4 : decode cX7_secondOfPair 4 = .ok (.irem, 1) := by decide +kernel
theorem dX7_secondOfPair_5 : decode cX7_secondOfPair 5 = .ok (.bipush (-5), 2) := by decide +kernel
theorem dX7_secondOfPair_7 : decode cX7_secondOfPair 7 = .ok (.iadd, 1) := by decide +kernel
theorem dX7_secondOfPair_8 : decode cX7_secondOfPair 8 = .ok (.ireturn, 1) := by decide +kernel
theorem dX7_partNumber_0 : decode cX7_partNumber 0 = .ok (.aload_n 0, 1) := by decide +kernel
theorem dX7_partNumber_1 : decode cX7_partNumber 1 = .ok (.getfield 47, 3) := by decide +kernel
theorem dX7_partNumber_4 : decode cX7_partNumber 4 = .ok (.iload_n 1, 1) := by decide +kernel
theorem dX7_partNumber_5 : decode cX7_partNumber 5 = .ok (.invokevirtual 172, 3) := by decide +kernel
theorem dX7_partNumber_8 : decode cX7_partNumber 8 = .ok (.ifCond .ne 5, 3) := by decide +kernel
theorem dX7_partNumber_11 : decode cX7_partNumber 11 = .ok (.iconst (-1), 1) := by decide +kernel
theorem dX7_partNumber_12 : decode cX7_partNumber 12 = .ok (.ireturn, 1) := by decide +kernel
theorem dX7_partNumber_13 : decode cX7_partNumber 13 = .ok (.iload_n 2, 1) := by decide +kernel
theorem dX7_partNumber_14 : decode cX7_partNumber 14 = .ok (.bipush 6, 2) := by decide +kernel
theorem dX7_partNumber_16 : decode cX7_partNumber 16 = .ok (.if_icmp .ne 15, 3) := by decide +kernel
theorem dX7_partNumber_19 : decode cX7_partNumber 19 = .ok (.aload_n 0, 1) := by decide +kernel
theorem dX7_partNumber_20 : decode cX7_partNumber 20 = .ok (.getfield 47, 3) := by decide +kernel
theorem dX7_partNumber_23 : decode cX7_partNumber 23 = .ok (.getfield 173, 3) := by decide +kernel
theorem dX7_partNumber_26 : decode cX7_partNumber 26 = .ok (.iload_n 1, 1) := by decide +kernel
theorem dX7_partNumber_27 : decode cX7_partNumber 27 = .ok (.iaload, 1) := by decide +kernel
theorem dX7_partNumber_28 : decode cX7_partNumber 28 = .ok (.goto 16, 3) := by decide +kernel
theorem dX7_partNumber_31 : decode cX7_partNumber 31 = .ok (.aload_n 0, 1) := by decide +kernel
theorem dX7_partNumber_32 : decode cX7_partNumber 32 = .ok (.getfield 47, 3) := by decide +kernel
theorem dX7_partNumber_35 : decode cX7_partNumber 35 = .ok (.getfield 311, 3) := by decide +kernel
theorem dX7_partNumber_38 : decode cX7_partNumber 38 = .ok (.iload_n 1, 1) := by decide +kernel
theorem dX7_partNumber_39 : decode cX7_partNumber 39 = .ok (.iaload, 1) := by decide +kernel
theorem dX7_partNumber_40 : decode cX7_partNumber 40 = .ok (.iload_n 2, 1) := by decide +kernel
theorem dX7_partNumber_41 : decode cX7_partNumber 41 = .ok (.invokestatic 277, 3) := by decide +kernel
theorem dX7_partNumber_44 : decode cX7_partNumber 44 = .ok (.ireturn, 1) := by decide +kernel
theorem dX8_init_0 : decode cX8_init 0 = .ok (.aload_n 0, 1) := by decide +kernel
theorem dX8_init_1 : decode cX8_init 1 = .ok (.invokespecial 3, 3) := by decide +kernel
theorem dX8_init_4 : decode cX8_init 4 = .ok (.aload_n 0, 1) := by decide +kernel
theorem dX8_init_5 : decode cX8_init 5 = .ok (.bipush 96, 2) := by decide +kernel
theorem dX8_init_7 : decode cX8_init 7 = .ok (.newarray .int, 2) := by decide +kernel
theorem dX8_init_9 : decode cX8_init 9 = .ok (.putfield 9, 3) := by decide +kernel
theorem dX8_init_12 : decode cX8_init 12 = .ok (.aload_n 0, 1) := by decide +kernel
theorem dX8_init_13 : decode cX8_init 13 = .ok (.bipush 96, 2) := by decide +kernel
theorem dX8_init_15 : decode cX8_init 15 = .ok (.newarray .int, 2) := by decide +kernel
theorem dX8_init_17 : decode cX8_init 17 = .ok (.putfield 15, 3) := by decide +kernel
theorem dX8_init_20 : decode cX8_init 20 = .ok (.aload_n 0, 1) := by decide +kernel
theorem dX8_init_21 : decode cX8_init 21 = .ok (.bipush 96, 2) := by decide +kernel
theorem dX8_init_23 : decode cX8_init 23 = .ok (.newarray .int, 2) := by decide +kernel
theorem dX8_init_25 : decode cX8_init 25 = .ok (.putfield 18, 3) := by decide +kernel
theorem dX8_init_28 : decode cX8_init 28 = .ok (.aload_n 0, 1) := by decide +kernel
theorem dX8_init_29 : decode cX8_init 29 = .ok (.bipush 96, 2) := by decide +kernel
theorem dX8_init_31 : decode cX8_init 31 = .ok (.newarray .int, 2) := by decide +kernel
theorem dX8_init_33 : decode cX8_init 33 = .ok (.putfield 21, 3) := by decide +kernel
theorem dX8_init_36 : decode cX8_init 36 = .ok (.aload_n 0, 1) := by decide +kernel
theorem dX8_init_37 : decode cX8_init 37 = .ok (.bipush 96, 2) := by decide +kernel
theorem dX8_init_39 : decode cX8_init 39 = .ok (.newarray .int, 2) := by decide +kernel
theorem dX8_init_41 : decode cX8_init 41 = .ok (.putfield 24, 3) := by decide +kernel
theorem dX8_init_44 : decode cX8_init 44 = .ok (.aload_n 0, 1) := by decide +kernel
theorem dX8_init_45 : decode cX8_init 45 = .ok (.bipush 96, 2) := by decide +kernel
theorem dX8_init_47 : decode cX8_init 47 = .ok (.newarray .int, 2) := by decide +kernel
theorem dX8_init_49 : decode cX8_init 49 = .ok (.putfield 27, 3) := by decide +kernel
theorem dX8_init_52 : decode cX8_init 52 = .ok (.aload_n 0, 1) := by decide +kernel
theorem dX8_init_53 : decode cX8_init 53 = .ok (.bipush 96, 2) := by decide +kernel
theorem dX8_init_55 : decode cX8_init 55 = .ok (.newarray .int, 2) := by decide +kernel
theorem dX8_init_57 : decode cX8_init 57 = .ok (.putfield 30, 3) := by decide +kernel
theorem dX8_init_60 : decode cX8_init 60 = .ok (.aload_n 0, 1) := by decide +kernel
theorem dX8_init_61 : decode cX8_init 61 = .ok (.bipush 8, 2) := by decide +kernel
theorem dX8_init_63 : decode cX8_init 63 = .ok (.newarray .int, 2) := by decide +kernel
theorem dX8_init_65 : decode cX8_init 65 = .ok (.putfield 33, 3) := by decide +kernel
theorem dX8_init_68 : decode cX8_init 68 = .ok (.aload_n 0, 1) := by decide +kernel
theorem dX8_init_69 : decode cX8_init 69 = .ok (.bipush 8, 2) := by decide +kernel
theorem dX8_init_71 : decode cX8_init 71 = .ok (.newarray .int, 2) := by decide +kernel
theorem dX8_init_73 : decode cX8_init 73 = .ok (.putfield 36, 3) := by decide +kernel
theorem dX8_init_76 : decode cX8_init 76 = .ok (.aload_n 0, 1) := by decide +kernel
theorem dX8_init_77 : decode cX8_init 77 = .ok (.sipush 224, 3) := by decide +kernel
theorem dX8_init_80 : decode cX8_init 80 = .ok (.newarray .int, 2) := by decide +kernel
theorem dX8_init_82 : decode cX8_init 82 = .ok (.putfield 39, 3) := by decide +kernel
theorem dX8_init_85 : decode cX8_init 85 = .ok (.aload_n 0, 1) := by decide +kernel
theorem dX8_init_86 : decode cX8_init 86 = .ok (.sipush 224, 3) := by decide +kernel
theorem dX8_init_89 : decode cX8_init 89 = .ok (.newarray .int, 2) := by decide +kernel
theorem dX8_init_91 : decode cX8_init 91 = .ok (.putfield 42, 3) := by decide +kernel
theorem dX8_init_94 : decode cX8_init 94 = .ok (.aload_n 0, 1) := by decide +kernel
theorem dX8_init_95 : decode cX8_init 95 = .ok (.sipush 224, 3) := by decide +kernel
theorem dX8_init_98 : decode cX8_init 98 = .ok (.newarray .boolean, 2) := by decide +kernel
theorem dX8_init_100 : decode cX8_init 100 = .ok (.putfield 45, 3) := by decide +kernel
theorem dX8_init_103 : decode cX8_init 103 = .ok (.aload_n 0, 1) := by decide +kernel
theorem dX8_init_104 : decode cX8_init 104 = .ok (.sipush 1792, 3) := by decide +kernel
theorem dX8_init_107 : decode cX8_init 107 = .ok (.newarray .int, 2) := by decide +kernel
theorem dX8_init_109 : decode cX8_init 109 = .ok (.putfield 49, 3) := by decide +kernel
theorem dX8_init_112 : decode cX8_init 112 = .ok (.aload_n 0, 1) := by decide +kernel
theorem dX8_init_113 : decode cX8_init 113 = .ok (.iconst (-1), 1) := by decide +kernel
theorem dX8_init_114 : decode cX8_init 114 = .ok (.putfield 52, 3) := by decide +kernel
theorem dX8_init_117 : decode cX8_init 117 = .ok (.aload_n 0, 1) := by decide +kernel
theorem dX8_init_118 : decode cX8_init 118 = .ok (.bipush 60, 2) := by decide +kernel
theorem dX8_init_120 : decode cX8_init 120 = .ok (.newarray .int, 2) := by decide +kernel
theorem dX8_init_122 : decode cX8_init 122 = .ok (.putfield 56, 3) := by decide +kernel
theorem dX8_init_125 : decode cX8_init 125 = .ok (.aload_n 0, 1) := by decide +kernel
theorem dX8_init_126 : decode cX8_init 126 = .ok (.bipush 9, 2) := by decide +kernel
theorem dX8_init_128 : decode cX8_init 128 = .ok (.newarray .int, 2) := by decide +kernel
theorem dX8_init_130 : decode cX8_init 130 = .ok (.putfield 59, 3) := by decide +kernel
theorem dX8_init_133 : decode cX8_init 133 = .ok (.aload_n 0, 1) := by decide +kernel
theorem dX8_init_134 : decode cX8_init 134 = .ok (.bipush 9, 2) := by decide +kernel
theorem dX8_init_136 : decode cX8_init 136 = .ok (.newarray .int, 2) := by decide +kernel
theorem dX8_init_138 : decode cX8_init 138 = .ok (.putfield 62, 3) := by decide +kernel
theorem dX8_init_141 : decode cX8_init 141 = .ok (.aload_n 0, 1) := by decide +kernel
theorem dX8_init_142 : decode cX8_init 142 = .ok (.sipush 700, 3) := by decide +kernel
theorem dX8_init_145 : decode cX8_init 145 = .ok (.newarray .int, 2) := by decide +kernel
theorem dX8_init_147 : decode cX8_init 147 = .ok (.putfield 65, 3) := by decide +kernel
theorem dX8_init_150 : decode cX8_init 150 = .ok (.aload_n 0, 1) := by decide +kernel
theorem dX8_init_151 : decode cX8_init 151 = .ok (.sipush 184, 3) := by decide +kernel
theorem dX8_init_154 : decode cX8_init 154 = .ok (.newarray .int, 2) := by decide +kernel
theorem dX8_init_156 : decode cX8_init 156 = .ok (.putfield 68, 3) := by decide +kernel
theorem dX8_init_159 : decode cX8_init 159 = .ok (.aload_n 0, 1) := by decide +kernel
theorem dX8_init_160 : decode cX8_init 160 = .ok (.iconst 4, 1) := by decide +kernel
theorem dX8_init_161 : decode cX8_init 161 = .ok (.newarray .int, 2) := by decide +kernel
theorem dX8_init_163 : decode cX8_init 163 = .ok (.putfield 71, 3) := by decide +kernel
theorem dX8_init_166 : decode cX8_init 166 = .ok (.aload_n 0, 1) := by decide +kernel
theorem dX8_init_167 : decode cX8_init 167 = .ok (.sipush 280, 3) := by decide +kernel
theorem dX8_init_170 : decode cX8_init 170 = .ok (.newarray .int, 2) := by decide +kernel
theorem dX8_init_172 : decode cX8_init 172 = .ok (.putfield 74, 3) := by decide +kernel
theorem dX8_init_175 : decode cX8_init 175 = .ok (.return_, 1) := by decide +kernel
theorem dX8_within_0 : decode cX8_within 0 = .ok (.iload_n 0, 1) := by decide +kernel
theorem dX8_within_1 : decode cX8_within 1 = .ok (.iload_n 1, 1) := by decide +kernel
theorem dX8_within_2 : decode cX8_within 2 = .ok (.if_icmp .lt 12, 3) := by decide +kernel
theorem dX8_within_5 : decode cX8_within 5 = .ok (.iload_n 0, 1) := by decide +kernel
theorem dX8_within_6 : decode cX8_within 6 = .ok (.iload_n 2, 1) := by decide +kernel
theorem dX8_within_7 : decode cX8_within 7 = .ok (.if_icmp .gt 7, 3) := by decide +kernel
theorem dX8_within_10 : decode cX8_within 10 = .ok (.iconst 1, 1) := by decide +kernel
theorem dX8_within_11 : decode cX8_within 11 = .ok (.goto 4, 3) := by decide +kernel
theorem dX8_within_14 : decode cX8_within 14 = .ok (.iconst 0, 1) := by decide +kernel
theorem dX8_within_15 : decode cX8_within 15 = .ok (.ireturn, 1) := by decide +kernel
theorem dX8_isTerm_0 : decode cX8_isTerm 0 = .ok (.iload_n 1, 1) := by decide +kernel
theorem dX8_isTerm_1 : decode cX8_isTerm 1 = .ok (.iconst 0, 1) := by decide +kernel
theorem dX8_isTerm_2 : decode cX8_isTerm 2 = .ok (.aload_n 0, 1) := by decide +kernel
theorem dX8_isTerm_3 : decode cX8_isTerm 3 = .ok (.getfield 77, 3) := by decide +kernel
theorem dX8_isTerm_6 : decode cX8_isTerm 6 = .ok (.iconst 1, 1) := by decide +kernel
theorem dX8_isTerm_7 : decode cX8_isTerm 7 = .ok (.isub, 1) := by decide +kernel
theorem dX8_isTerm_8 : decode cX8_isTerm 8 = .ok (.invokestatic 80, 3) := by decide +kernel
theorem dX8_isTerm_11 : decode cX8_isTerm 11 = .ok (.ireturn, 1) := by decide +kernel
theorem dX8_isCase_0 : decode cX8_isCase 0 = .ok (.iload_n 0, 1) := by decide +kernel
theorem dX8_isCase_1 : decode cX8_isCase 1 = .ok (.iconst 0, 1) := by decide +kernel
theorem dX8_isCase_2 : decode cX8_isCase 2 = .ok (.sipush 223, 3) := by decide +kernel
theorem dX8_isCase_5 : decode cX8_isCase 5 = .ok (.invokestatic 80, 3) := by decide +kernel
theorem dX8_isCase_8 : decode cX8_isCase 8 = .ok (.ireturn, 1) := by decide +kernel
theorem dX8_figure_0 : decode cX8_figure 0 = .ok (.iload_n 0, 1) := by decide +kernel
theorem dX8_figure_1 : decode cX8_figure 1 = .ok (.istore_n 2, 1) := by decide +kernel
theorem dX8_figure_2 : decode cX8_figure 2 = .ok (.iconst 5, 1) := by decide +kernel
theorem dX8_figure_3 : decode cX8_figure 3 = .ok (.istore_n 3, 1) := by decide +kernel
theorem dX8_figure_4 : decode cX8_figure 4 = .ok (.iload_n 3, 1) := by decide +kernel
theorem dX8_figure_5 : decode cX8_figure 5 = .ok (.iload_n 1, 1) := by decide +kernel
theorem dX8_figure_6 : decode cX8_figure 6 = .ok (.if_icmp .le 14, 3) := by decide +kernel
theorem dX8_figure_9 : decode cX8_figure 9 = .ok (.iload_n 2, 1) := by decide +kernel
theorem dX8_figure_10 : decode cX8_figure 10 = .ok (.bipush 10, 2) := by decide +kernel
theorem dX8_figure_12 : decode cX8_figure 12 = .ok (.idiv, 1) := by decide +kernel
theorem dX8_figure_13 : decode cX8_figure 13 = .ok (.istore_n 2, 1) := by decide +kernel
theorem dX8_figure_14 : decode cX8_figure 14 = .ok (.iinc 3 (-1), 3) := by decide +kernel
theorem dX8_figure_17 : decode cX8_figure 17 = .ok (.goto (-13), 3) := by decide +kernel
theorem dX8_figure_20 : decode cX8_figure 20 = .ok (.iload_n 2, 1) := by decide +kernel
theorem dX8_figure_21 : decode cX8_figure 21 = .ok (.bipush 10, 2) := by decide +kernel
theorem dX8_figure_23 : decode cX8_figure 23 = .ok (.irem, 1) := by decide +kernel
theorem dX8_figure_24 : decode cX8_figure 24 = .ok (.ireturn, 1) := by decide +kernel
theorem dX8_most_0 : decode cX8_most 0 = .ok (.iload_n 0, 1) := by decide +kernel
theorem dX8_most_1 : decode cX8_most 1 = .ok (.iconst 2, 1) := by decide +kernel
theorem dX8_most_2 : decode cX8_most 2 = .ok (.if_icmp .ge 8, 3) := by decide +kernel
theorem dX8_most_5 : decode cX8_most 5 = .ok (.bipush 7, 2) := by decide +kernel
theorem dX8_most_7 : decode cX8_most 7 = .ok (.goto 14, 3) := by decide +kernel
theorem dX8_most_10 : decode cX8_most 10 = .ok (.iload_n 0, 1) := by decide +kernel
theorem dX8_most_11 : decode cX8_most 11 = .ok (.iconst 4, 1) := by decide +kernel
theorem dX8_most_12 : decode cX8_most 12 = .ok (.if_icmp .ge 8, 3) := by decide +kernel
theorem dX8_most_15 : decode cX8_most 15 = .ok (.bipush 6, 2) := by decide +kernel
theorem dX8_most_17 : decode cX8_most 17 = .ok (.goto 4, 3) := by decide +kernel
theorem dX8_most_20 : decode cX8_most 20 = .ok (.iconst 3, 1) := by decide +kernel
theorem dX8_most_21 : decode cX8_most 21 = .ok (.ireturn, 1) := by decide +kernel
theorem dX8_isBox_0 : decode cX8_isBox 0 = .ok (.iload_n 0, 1) := by decide +kernel
theorem dX8_isBox_1 : decode cX8_isBox 1 = .ok (.iconst 0, 1) := by decide +kernel
theorem dX8_isBox_2 : decode cX8_isBox 2 = .ok (.ldc 84, 2) := by decide +kernel
theorem dX8_isBox_4 : decode cX8_isBox 4 = .ok (.invokestatic 80, 3) := by decide +kernel
theorem dX8_isBox_7 : decode cX8_isBox 7 = .ok (.ifCond .ne 5, 3) := by decide +kernel
theorem dX8_isBox_10 : decode cX8_isBox 10 = .ok (.iconst 0, 1) := by decide +kernel
theorem dX8_isBox_11 : decode cX8_isBox 11 = .ok (.ireturn, 1) := by decide +kernel
theorem dX8_isBox_12 : decode cX8_isBox 12 = .ok (.iconst 0, 1) := by decide +kernel
theorem dX8_isBox_13 : decode cX8_isBox 13 = .ok (.istore_n 1, 1) := by decide +kernel
theorem dX8_isBox_14 : decode cX8_isBox 14 = .ok (.iload_n 1, 1) := by decide +kernel
theorem dX8_isBox_15 : decode cX8_isBox 15 = .ok (.bipush 6, 2) := by decide +kernel
theorem dX8_isBox_17 : decode cX8_isBox 17 = .ok (.if_icmp .ge 45, 3) := by decide +kernel
theorem dX8_isBox_20 : decode cX8_isBox 20 = .ok (.iload_n 0, 1) := by decide +kernel
theorem dX8_isBox_21 : decode cX8_isBox 21 = .ok (.iload_n 1, 1) := by decide +kernel
theorem dX8_isBox_22 : decode cX8_isBox 22 = .ok (.invokestatic 85, 3) := by decide +kernel
theorem dX8_isBox_25 : decode cX8_isBox 25 = .ok (.iload_n 1, 1) := by decide +kernel
theorem dX8_isBox_26 : decode cX8_isBox 26 = .ok (.invokestatic 89, 3) := by decide +kernel
theorem dX8_isBox_29 : decode cX8_isBox 29 = .ok (.if_icmp .gt 25, 3) := by decide +kernel
theorem dX8_isBox_32 : decode cX8_isBox 32 = .ok (.iload_n 1, 1) := by decide +kernel
theorem dX8_isBox_33 : decode cX8_isBox 33 = .ok (.iconst 2, 1) := by decide +kernel
theorem dX8_isBox_34 : decode cX8_isBox 34 = .ok (.irem, 1) := by decide +kernel
theorem dX8_isBox_35 : decode cX8_isBox 35 = .ok (.iconst 1, 1) := by decide +kernel
theorem dX8_isBox_36 : decode cX8_isBox 36 = .ok (.if_icmp .ne 20, 3) := by decide +kernel
theorem dX8_isBox_39 : decode cX8_isBox 39 = .ok (.iload_n 0, 1) := by decide +kernel
theorem dX8_isBox_40 : decode cX8_isBox 40 = .ok (.iload_n 1, 1) := by decide +kernel
theorem dX8_isBox_41 : decode cX8_isBox 41 = .ok (.invokestatic 85, 3) := by decide +kernel
theorem dX8_isBox_44 : decode cX8_isBox 44 = .ok (.iload_n 0, 1) := by decide +kernel
theorem dX8_isBox_45 : decode cX8_isBox 45 = .ok (.iload_n 1, 1) := by decide +kernel
theorem dX8_isBox_46 : decode cX8_isBox 46 = .ok (.iconst 1, 1) := by decide +kernel
theorem dX8_isBox_47 : decode cX8_isBox 47 = .ok (.isub, 1) := by decide +kernel
theorem dX8_isBox_48 : decode cX8_isBox 48 = .ok (.invokestatic 85, 3) := by decide +kernel
theorem dX8_isBox_51 : decode cX8_isBox 51 = .ok (.if_icmp .ge 5, 3) := by decide +kernel
theorem dX8_isBox_54 : decode cX8_isBox 54 = .ok (.iconst 0, 1) := by decide +kernel
theorem dX8_isBox_55 : decode cX8_isBox 55 = .ok (.ireturn, 1) := by decide +kernel
theorem dX8_isBox_56 : decode cX8_isBox 56 = .ok (.iinc 1 1, 3) := by decide +kernel
theorem dX8_isBox_59 : decode cX8_isBox 59 = .ok (.goto (-45), 3) := by decide +kernel
theorem dX8_isBox_62 : decode cX8_isBox 62 = .ok (.iconst 1, 1) := by decide +kernel
theorem dX8_isBox_63 : decode cX8_isBox 63 = .ok (.ireturn, 1) := by decide +kernel
theorem dX8_part_0 : decode cX8_part 0 = .ok (.iload_n 1, 1) := by decide +kernel
theorem dX8_part_1 : decode cX8_part 1 = .ok (.ifCond .ne 10, 3) := by decide +kernel
theorem dX8_part_4 : decode cX8_part 4 = .ok (.iload_n 0, 1) := by decide +kernel
theorem dX8_part_5 : decode cX8_part 5 = .ok (.bipush 28, 2) := by decide +kernel
theorem dX8_part_7 : decode cX8_part 7 = .ok (.idiv, 1) := by decide +kernel
theorem dX8_part_8 : decode cX8_part 8 = .ok (.goto 20, 3) := by decide +kernel
theorem dX8_part_11 : decode cX8_part 11 = .ok (.iload_n 1, 1) := by decide +kernel
theorem dX8_part_12 : decode cX8_part 12 = .ok (.iconst 1, 1) := by decide +kernel
theorem dX8_part_13 : decode cX8_part 13 = .ok (.if_icmp .ne 12, 3) := by decide +kernel
theorem dX8_part_16 : decode cX8_part 16 = .ok (.iload_n 0, 1) := by decide +kernel
theorem dX8_part_17 : decode cX8_part 17 = .ok (.iconst 4, 1) := by decide +kernel
theorem dX8_part_18 : decode cX8_part 18 = .ok (.idiv, 1) := by decide +kernel
theorem dX8_part_19 : decode cX8_part 19 = .ok (.bipush 7, 2) := by decide +kernel
theorem dX8_part_21 : decode cX8_part 21 = .ok (.irem, 1) := by decide +kernel
theorem dX8_part_22 : decode cX8_part 22 = .ok (.goto 6, 3) := by decide +kernel
theorem dX8_part_25 : decode cX8_part 25 = .ok (.iload_n 0, 1) := by decide +kernel
theorem dX8_part_26 : decode cX8_part 26 = .ok (.iconst 4, 1) := by decide +kernel
theorem dX8_part_27 : decode cX8_part 27 = .ok (.irem, 1) := by decide +kernel
theorem dX8_part_28 : decode cX8_part 28 = .ok (.ireturn, 1) := by decide +kernel
theorem dX8_isIn_0 : decode cX8_isIn 0 = .ok (.iconst 0, 1) := by decide +kernel
theorem dX8_isIn_1 : decode cX8_isIn 1 = .ok (.istore_n 2, 1) := by decide +kernel
theorem dX8_isIn_2 : decode cX8_isIn 2 = .ok (.iload_n 2, 1) := by decide +kernel
theorem dX8_isIn_3 : decode cX8_isIn 3 = .ok (.iconst 3, 1) := by decide +kernel
theorem dX8_isIn_4 : decode cX8_isIn 4 = .ok (.if_icmp .ge 38, 3) := by decide +kernel
theorem dX8_isIn_7 : decode cX8_isIn 7 = .ok (.iload_n 0, 1) := by decide +kernel
theorem dX8_isIn_8 : decode cX8_isIn 8 = .ok (.iload_n 2, 1) := by decide +kernel
theorem dX8_isIn_9 : decode cX8_isIn 9 = .ok (.invokestatic 93, 3) := by decide +kernel
theorem dX8_isIn_12 : decode cX8_isIn 12 = .ok (.iload_n 1, 1) := by decide +kernel
theorem dX8_isIn_13 : decode cX8_isIn 13 = .ok (.iconst 2, 1) := by decide +kernel
theorem dX8_isIn_14 : decode cX8_isIn 14 = .ok (.iload_n 2, 1) := by decide +kernel
theorem dX8_isIn_15 : decode cX8_isIn 15 = .ok (.imul, 1) := by decide +kernel
theorem dX8_isIn_16 : decode cX8_isIn 16 = .ok (.invokestatic 85, 3) := by decide +kernel
theorem dX8_isIn_19 : decode cX8_isIn 19 = .ok (.iload_n 1, 1) := by decide +kernel
theorem dX8_isIn_20 : decode cX8_isIn 20 = .ok (.iconst 2, 1) := by decide +kernel
theorem dX8_isIn_21 : decode cX8_isIn 21 = .ok (.iload_n 2, 1) := by decide +kernel
theorem dX8_isIn_22 : decode cX8_isIn 22 = .ok (.imul, 1) := by decide +kernel
theorem dX8_isIn_23 : decode cX8_isIn 23 = .ok (.iconst 1, 1) := by decide +kernel
theorem dX8_isIn_24 : decode cX8_isIn 24 = .ok (.iadd, 1) := by decide +kernel
theorem dX8_isIn_25 : decode cX8_isIn 25 = .ok (.invokestatic 85, 3) := by decide +kernel
theorem dX8_isIn_28 : decode cX8_isIn 28 = .ok (.invokestatic 80, 3) := by decide +kernel
theorem dX8_isIn_31 : decode cX8_isIn 31 = .ok (.ifCond .ne 5, 3) := by decide +kernel
theorem dX8_isIn_34 : decode cX8_isIn 34 = .ok (.iconst 0, 1) := by decide +kernel
theorem dX8_isIn_35 : decode cX8_isIn 35 = .ok (.ireturn, 1) := by decide +kernel
theorem dX8_isIn_36 : decode cX8_isIn 36 = .ok (.iinc 2 1, 3) := by decide +kernel
theorem dX8_isIn_39 : decode cX8_isIn 39 = .ok (.goto (-37), 3) := by decide +kernel
theorem dX8_isIn_42 : decode cX8_isIn 42 = .ok (.iconst 1, 1) := by decide +kernel
theorem dX8_isIn_43 : decode cX8_isIn 43 = .ok (.ireturn, 1) := by decide +kernel
theorem dX8_ofTwo_0 : decode cX8_ofTwo 0 = .ok (.iload_n 0, 1) := by decide +kernel
theorem dX8_ofTwo_1 : decode cX8_ofTwo 1 = .ok (.iconst 2, 1) := by decide +kernel
theorem dX8_ofTwo_2 : decode cX8_ofTwo 2 = .ok (.if_icmp .le 13, 3) := by decide +kernel
theorem dX8_ofTwo_5 : decode cX8_ofTwo 5 = .ok (.iload_n 0, 1) := by decide +kernel
theorem dX8_ofTwo_6 : decode cX8_ofTwo 6 = .ok (.bipush 6, 2) := by decide +kernel
theorem dX8_ofTwo_8 : decode cX8_ofTwo 8 = .ok (.if_icmp .eq 7, 3) := by decide +kernel
theorem dX8_ofTwo_11 : decode cX8_ofTwo 11 = .ok (.iconst 1, 1) := by decide +kernel
theorem dX8_ofTwo_12 : decode cX8_ofTwo 12 = .ok (.goto 4, 3) := by decide +kernel
theorem dX8_ofTwo_15 : decode cX8_ofTwo 15 = .ok (.iconst 0, 1) := by decide +kernel
theorem dX8_ofTwo_16 : decode cX8_ofTwo 16 = .ok (.ireturn, 1) := by decide +kernel
theorem dX8_ofOne_0 : decode cX8_ofOne 0 = .ok (.iload_n 0, 1) := by decide +kernel
theorem dX8_ofOne_1 : decode cX8_ofOne 1 = .ok (.iconst 2, 1) := by decide +kernel
theorem dX8_ofOne_2 : decode cX8_ofOne 2 = .ok (.if_icmp .eq 9, 3) := by decide +kernel
theorem dX8_ofOne_5 : decode cX8_ofOne 5 = .ok (.iload_n 0, 1) := by decide +kernel
theorem dX8_ofOne_6 : decode cX8_ofOne 6 = .ok (.bipush 6, 2) := by decide +kernel
theorem dX8_ofOne_8 : decode cX8_ofOne 8 = .ok (.if_icmp .ne 7, 3) := by decide +kernel
theorem dX8_ofOne_11 : decode cX8_ofOne 11 = .ok (.iconst 1, 1) := by decide +kernel
theorem dX8_ofOne_12 : decode cX8_ofOne 12 = .ok (.goto 4, 3) := by decide +kernel
theorem dX8_ofOne_15 : decode cX8_ofOne 15 = .ok (.iconst 0, 1) := by decide +kernel
theorem dX8_ofOne_16 : decode cX8_ofOne 16 = .ok (.ireturn, 1) := by decide +kernel
theorem dX8_lays_0 : decode cX8_lays 0 = .ok (.aload_n 0, 1) := by decide +kernel
theorem dX8_lays_1 : decode cX8_lays 1 = .ok (.getfield 9, 3) := by decide +kernel
theorem dX8_lays_4 : decode cX8_lays 4 = .ok (.iload_n 1, 1) := by decide +kernel
theorem dX8_lays_5 : decode cX8_lays 5 = .ok (.iload_n 2, 1) := by decide +kernel
theorem dX8_lays_6 : decode cX8_lays 6 = .ok (.iastore, 1) := by decide +kernel
theorem dX8_lays_7 : decode cX8_lays 7 = .ok (.aload_n 0, 1) := by decide +kernel
theorem dX8_lays_8 : decode cX8_lays 8 = .ok (.getfield 15, 3) := by decide +kernel
theorem dX8_lays_11 : decode cX8_lays 11 = .ok (.iload_n 1, 1) := by decide +kernel
theorem dX8_lays_12 : decode cX8_lays 12 = .ok (.iload_n 3, 1) := by decide +kernel
theorem dX8_lays_13 : decode cX8_lays 13 = .ok (.iastore, 1) := by decide +kernel
theorem dX8_lays_14 : decode cX8_lays 14 = .ok (.aload_n 0, 1) := by decide +kernel
theorem dX8_lays_15 : decode cX8_lays 15 = .ok (.getfield 18, 3) := by decide +kernel
theorem dX8_lays_18 : decode cX8_lays 18 = .ok (.iload_n 1, 1) := by decide +kernel
theorem dX8_lays_19 : decode cX8_lays 19 = .ok (.iload 4, 2) := by decide +kernel
theorem dX8_lays_21 : decode cX8_lays 21 = .ok (.iastore, 1) := by decide +kernel
theorem dX8_lays_22 : decode cX8_lays 22 = .ok (.aload_n 0, 1) := by decide +kernel
theorem dX8_lays_23 : decode cX8_lays 23 = .ok (.getfield 21, 3) := by decide +kernel
theorem dX8_lays_26 : decode cX8_lays 26 = .ok (.iload_n 1, 1) := by decide +kernel
theorem dX8_lays_27 : decode cX8_lays 27 = .ok (.iload 5, 2) := by decide +kernel
theorem dX8_lays_29 : decode cX8_lays 29 = .ok (.iastore, 1) := by decide +kernel
theorem dX8_lays_30 : decode cX8_lays 30 = .ok (.aload_n 0, 1) := by decide +kernel
theorem dX8_lays_31 : decode cX8_lays 31 = .ok (.getfield 24, 3) := by decide +kernel
theorem dX8_lays_34 : decode cX8_lays 34 = .ok (.iload_n 1, 1) := by decide +kernel
theorem dX8_lays_35 : decode cX8_lays 35 = .ok (.iload 6, 2) := by decide +kernel
theorem dX8_lays_37 : decode cX8_lays 37 = .ok (.iastore, 1) := by decide +kernel
theorem dX8_lays_38 : decode cX8_lays 38 = .ok (.aload_n 0, 1) := by decide +kernel
theorem dX8_lays_39 : decode cX8_lays 39 = .ok (.getfield 27, 3) := by decide +kernel
theorem dX8_lays_42 : decode cX8_lays 42 = .ok (.iload_n 1, 1) := by decide +kernel
theorem dX8_lays_43 : decode cX8_lays 43 = .ok (.iconst 1, 1) := by decide +kernel
theorem dX8_lays_44 : decode cX8_lays 44 = .ok (.iload 4, 2) := by decide +kernel
theorem dX8_lays_46 : decode cX8_lays 46 = .ok (.ifCond .lt 13, 3) := by decide +kernel
theorem dX8_lays_49 : decode cX8_lays 49 = .ok (.aload_n 0, 1) := by decide +kernel
theorem dX8_lays_50 : decode cX8_lays 50 = .ok (.getfield 27, 3) := by decide +kernel
theorem dX8_lays_53 : decode cX8_lays 53 = .ok (.iload 4, 2) := by decide +kernel
theorem dX8_lays_55 : decode cX8_lays 55 = .ok (.iaload, 1) := by decide +kernel
theorem dX8_lays_56 : decode cX8_lays 56 = .ok (.goto 4, 3) := by decide +kernel
theorem dX8_lays_59 : decode cX8_lays 59 = .ok (.iconst 0, 1) := by decide +kernel
theorem dX8_lays_60 : decode cX8_lays 60 = .ok (.iadd, 1) := by decide +kernel
theorem dX8_lays_61 : decode cX8_lays 61 = .ok (.iload 5, 2) := by decide +kernel
theorem dX8_lays_63 : decode cX8_lays 63 = .ok (.ifCond .lt 13, 3) := by decide +kernel
theorem dX8_lays_66 : decode cX8_lays 66 = .ok (.aload_n 0, 1) := by decide +kernel
theorem dX8_lays_67 : decode cX8_lays 67 = .ok (.getfield 27, 3) := by decide +kernel
theorem dX8_lays_70 : decode cX8_lays 70 = .ok (.iload 5, 2) := by decide +kernel
theorem dX8_lays_72 : decode cX8_lays 72 = .ok (.iaload, 1) := by decide +kernel
theorem dX8_lays_73 : decode cX8_lays 73 = .ok (.goto 4, 3) := by decide +kernel
theorem dX8_lays_76 : decode cX8_lays 76 = .ok (.iconst 0, 1) := by decide +kernel
theorem dX8_lays_77 : decode cX8_lays 77 = .ok (.iadd, 1) := by decide +kernel
theorem dX8_lays_78 : decode cX8_lays 78 = .ok (.iastore, 1) := by decide +kernel
theorem dX8_lays_79 : decode cX8_lays 79 = .ok (.iload 4, 2) := by decide +kernel
theorem dX8_lays_81 : decode cX8_lays 81 = .ok (.ifCond .lt 13, 3) := by decide +kernel
theorem dX8_lays_84 : decode cX8_lays 84 = .ok (.aload_n 0, 1) := by decide +kernel
theorem dX8_lays_85 : decode cX8_lays 85 = .ok (.getfield 30, 3) := by decide +kernel
theorem dX8_lays_88 : decode cX8_lays 88 = .ok (.iload 4, 2) := by decide +kernel
theorem dX8_lays_90 : decode cX8_lays 90 = .ok (.iaload, 1) := by decide +kernel
theorem dX8_lays_91 : decode cX8_lays 91 = .ok (.goto 4, 3) := by decide +kernel
theorem dX8_lays_94 : decode cX8_lays 94 = .ok (.iconst (-1), 1) := by decide +kernel
theorem dX8_lays_95 : decode cX8_lays 95 = .ok (.iload 5, 2) := by decide +kernel
theorem dX8_lays_97 : decode cX8_lays 97 = .ok (.ifCond .lt 13, 3) := by decide +kernel
theorem dX8_lays_100 : decode cX8_lays 100 = .ok (.aload_n 0, 1) := by decide +kernel
theorem dX8_lays_101 : decode cX8_lays 101 = .ok (.getfield 30, 3) := by decide +kernel
theorem dX8_lays_104 : decode cX8_lays 104 = .ok (.iload 5, 2) := by decide +kernel
theorem dX8_lays_106 : decode cX8_lays 106 = .ok (.iaload, 1) := by decide +kernel
theorem dX8_lays_107 : decode cX8_lays 107 = .ok (.goto 4, 3) := by decide +kernel
theorem dX8_lays_110 : decode cX8_lays 110 = .ok (.iconst (-1), 1) := by decide +kernel
theorem dX8_lays_111 : decode cX8_lays 111 = .ok (.invokestatic 96, 3) := by decide +kernel
theorem dX8_lays_114 : decode cX8_lays 114 = .ok (.istore 7, 2) := by decide +kernel
theorem dX8_lays_116 : decode cX8_lays 116 = .ok (.aload_n 0, 1) := by decide +kernel
theorem dX8_lays_117 : decode cX8_lays 117 = .ok (.getfield 30, 3) := by decide +kernel
theorem dX8_lays_120 : decode cX8_lays 120 = .ok (.iload_n 1, 1) := by decide +kernel
theorem dX8_lays_121 : decode cX8_lays 121 = .ok (.iload 7, 2) := by decide +kernel
theorem dX8_lays_123 : decode cX8_lays 123 = .ok (.iconst 1, 1) := by decide +kernel
theorem dX8_lays_124 : decode cX8_lays 124 = .ok (.iadd, 1) := by decide +kernel
theorem dX8_lays_125 : decode cX8_lays 125 = .ok (.iastore, 1) := by decide +kernel
theorem dX8_lays_126 : decode cX8_lays 126 = .ok (.return_, 1) := by decide +kernel
theorem dX8_adds_0 : decode cX8_adds 0 = .ok (.aload_n 0, 1) := by decide +kernel
theorem dX8_adds_1 : decode cX8_adds 1 = .ok (.getfield 77, 3) := by decide +kernel
theorem dX8_adds_4 : decode cX8_adds 4 = .ok (.bipush 24, 2) := by decide +kernel
theorem dX8_adds_6 : decode cX8_adds 6 = .ok (.if_icmp .ne 6, 3) := by decide +kernel
theorem dX8_adds_9 : decode cX8_adds 9 = .ok (.bipush (-4), 2) := by decide +kernel
theorem dX8_adds_11 : decode cX8_adds 11 = .ok (.ireturn, 1) := by decide +kernel
theorem dX8_adds_12 : decode cX8_adds 12 = .ok (.aload_n 0, 1) := by decide +kernel
theorem dX8_adds_13 : decode cX8_adds 13 = .ok (.aload_n 0, 1) := by decide +kernel
theorem dX8_adds_14 : decode cX8_adds 14 = .ok (.getfield 77, 3) := by decide +kernel
theorem dX8_adds_17 : decode cX8_adds 17 = .ok (.iload_n 1, 1) := by decide +kernel
theorem dX8_adds_18 : decode cX8_adds 18 = .ok (.iload_n 2, 1) := by decide +kernel
theorem dX8_adds_19 : decode cX8_adds 19 = .ok (.iload_n 3, 1) := by decide +kernel
theorem dX8_adds_20 : decode cX8_adds 20 = .ok (.iload 4, 2) := by decide +kernel
theorem dX8_adds_22 : decode cX8_adds 22 = .ok (.iload 5, 2) := by decide +kernel
theorem dX8_adds_24 : decode cX8_adds 24 = .ok (.invokevirtual 101, 3) := by decide +kernel
theorem dX8_adds_27 : decode cX8_adds 27 = .ok (.aload_n 0, 1) := by decide +kernel
theorem dX8_adds_28 : decode cX8_adds 28 = .ok (.getfield 27, 3) := by decide +kernel
theorem dX8_adds_31 : decode cX8_adds 31 = .ok (.aload_n 0, 1) := by decide +kernel
theorem dX8_adds_32 : decode cX8_adds 32 = .ok (.getfield 77, 3) := by decide +kernel
theorem dX8_adds_35 : decode cX8_adds 35 = .ok (.iaload, 1) := by decide +kernel
theorem dX8_adds_36 : decode cX8_adds 36 = .ok (.bipush 40, 2) := by decide +kernel
theorem dX8_adds_38 : decode cX8_adds 38 = .ok (.if_icmp .le 8, 3) := by decide +kernel
theorem dX8_adds_41 : decode cX8_adds 41 = .ok (.bipush (-4), 2) := by decide +kernel
theorem dX8_adds_43 : decode cX8_adds 43 = .ok (.goto 14, 3) := by decide +kernel
theorem dX8_adds_46 : decode cX8_adds 46 = .ok (.aload_n 0, 1) := by decide +kernel
theorem dX8_adds_47 : decode cX8_adds 47 = .ok (.dup, 1) := by decide +kernel
theorem dX8_adds_48 : decode cX8_adds 48 = .ok (.getfield 77, 3) := by decide +kernel
theorem dX8_adds_51 : decode cX8_adds 51 = .ok (.dup_x1, 1) := by decide +kernel
theorem dX8_adds_52 : decode cX8_adds 52 = .ok (.iconst 1, 1) := by decide +kernel
theorem dX8_adds_53 : decode cX8_adds 53 = .ok (.iadd, 1) := by decide +kernel
theorem dX8_adds_54 : decode cX8_adds 54 = .ok (.putfield 77, 3) := by decide +kernel
theorem dX8_adds_57 : decode cX8_adds 57 = .ok (.ireturn, 1) := by decide +kernel
theorem dX8_flat_0 : decode cX8_flat 0 = .ok (.iload_n 1, 1) := by decide +kernel
theorem dX8_flat_1 : decode cX8_flat 1 = .ok (.iconst 0, 1) := by decide +kernel
theorem dX8_flat_2 : decode cX8_flat 2 = .ok (.bipush 99, 2) := by decide +kernel
theorem dX8_flat_4 : decode cX8_flat 4 = .ok (.invokestatic 80, 3) := by decide +kernel
theorem dX8_flat_7 : decode cX8_flat 7 = .ok (.ifCond .eq 18, 3) := by decide +kernel
theorem dX8_flat_10 : decode cX8_flat 10 = .ok (.aload_n 0, 1) := by decide +kernel
theorem dX8_flat_11 : decode cX8_flat 11 = .ok (.iconst 0, 1) := by decide +kernel
theorem dX8_flat_12 : decode cX8_flat 12 = .ok (.iload_n 1, 1) := by decide +kernel
theorem dX8_flat_13 : decode cX8_flat 13 = .ok (.bipush (-5), 2) := by decide +kernel
theorem dX8_flat_15 : decode cX8_flat 15 = .ok (.bipush (-5), 2) := by decide +kernel
theorem dX8_flat_17 : decode cX8_flat 17 = .ok (.bipush (-5), 2) := by decide +kernel
theorem dX8_flat_19 : decode cX8_flat 19 = .ok (.invokevirtual 105, 3) := by decide +kernel
theorem dX8_flat_22 : decode cX8_flat 22 = .ok (.goto 5, 3) := by decide +kernel
theorem dX8_flat_25 : decode cX8_flat 25 = .ok (.bipush (-2), 2) := by decide +kernel
theorem dX8_flat_27 : decode cX8_flat 27 = .ok (.ireturn, 1) := by decide +kernel
theorem dX8_empty_0 : decode cX8_empty 0 = .ok (.aload_n 0, 1) := by decide +kernel
theorem dX8_empty_1 : decode cX8_empty 1 = .ok (.iconst 1, 1) := by decide +kernel
theorem dX8_empty_2 : decode cX8_empty 2 = .ok (.bipush (-5), 2) := by decide +kernel
theorem dX8_empty_4 : decode cX8_empty 4 = .ok (.bipush (-5), 2) := by decide +kernel
theorem dX8_empty_6 : decode cX8_empty 6 = .ok (.bipush (-5), 2) := by decide +kernel
theorem dX8_empty_8 : decode cX8_empty 8 = .ok (.bipush (-5), 2) := by decide +kernel
theorem dX8_empty_10 : decode cX8_empty 10 = .ok (.invokevirtual 105, 3) := by decide +kernel
theorem dX8_empty_13 : decode cX8_empty 13 = .ok (.ireturn, 1) := by decide +kernel
theorem dX8_when_0 : decode cX8_when 0 = .ok (.aload_n 0, 1) := by decide +kernel
theorem dX8_when_1 : decode cX8_when 1 = .ok (.iload_n 1, 1) := by decide +kernel
theorem dX8_when_2 : decode cX8_when 2 = .ok (.invokevirtual 109, 3) := by decide +kernel
theorem dX8_when_5 : decode cX8_when 5 = .ok (.ifCond .ne 5, 3) := by decide +kernel
theorem dX8_when_8 : decode cX8_when 8 = .ok (.iconst (-1), 1) := by decide +kernel
theorem dX8_when_9 : decode cX8_when 9 = .ok (.ireturn, 1) := by decide +kernel
theorem dX8_when_10 : decode cX8_when 10 = .ok (.iload_n 2, 1) := by decide +kernel
theorem dX8_when_11 : decode cX8_when 11 = .ok (.invokestatic 113, 3) := by decide +kernel
theorem dX8_when_14 : decode cX8_when 14 = .ok (.ifCond .eq 17, 3) := by decide +kernel
theorem dX8_when_17 : decode cX8_when 17 = .ok (.aload_n 0, 1) := by decide +kernel
theorem dX8_when_18 : decode cX8_when 18 = .ok (.iconst 2, 1) := by decide +kernel
theorem dX8_when_19 : decode cX8_when 19 = .ok (.bipush (-5), 2) := by decide +kernel
theorem dX8_when_21 : decode cX8_when 21 = .ok (.iload_n 1, 1) := by decide +kernel
theorem dX8_when_22 : decode cX8_when 22 = .ok (.bipush (-5), 2) := by decide +kernel
theorem dX8_when_24 : decode cX8_when 24 = .ok (.iload_n 2, 1) := by decide +kernel
theorem dX8_when_25 : decode cX8_when 25 = .ok (.invokevirtual 105, 3) := by decide +kernel
theorem dX8_when_28 : decode cX8_when 28 = .ok (.goto 5, 3) := by decide +kernel
theorem dX8_when_31 : decode cX8_when 31 = .ok (.bipush (-2), 2) := by decide +kernel
theorem dX8_when_33 : decode cX8_when 33 = .ok (.ireturn, 1) := by decide +kernel
theorem dX8_cap_0 : decode cX8_cap 0 = .ok (.aload_n 0, 1) := by decide +kernel
theorem dX8_cap_1 : decode cX8_cap 1 = .ok (.iload_n 1, 1) := by decide +kernel
theorem dX8_cap_2 : decode cX8_cap 2 = .ok (.invokevirtual 109, 3) := by decide +kernel
theorem dX8_cap_5 : decode cX8_cap 5 = .ok (.ifCond .ne 5, 3) := by decide +kernel
theorem dX8_cap_8 : decode cX8_cap 8 = .ok (.iconst (-1), 1) := by decide +kernel
theorem dX8_cap_9 : decode cX8_cap 9 = .ok (.ireturn, 1) := by decide +kernel
theorem dX8_cap_10 : decode cX8_cap 10 = .ok (.iload_n 2, 1) := by decide +kernel
theorem dX8_cap_11 : decode cX8_cap 11 = .ok (.invokestatic 113, 3) := by decide +kernel
theorem dX8_cap_14 : decode cX8_cap 14 = .ok (.ifCond .eq 27, 3) := by decide +kernel
theorem dX8_cap_17 : decode cX8_cap 17 = .ok (.iload_n 3, 1) := by decide +kernel
theorem dX8_cap_18 : decode cX8_cap 18 = .ok (.iconst 0, 1) := by decide +kernel
theorem dX8_cap_19 : decode cX8_cap 19 = .ok (.bipush 99, 2) := by decide +kernel
theorem dX8_cap_21 : decode cX8_cap 21 = .ok (.invokestatic 80, 3) := by decide +kernel
theorem dX8_cap_24 : decode cX8_cap 24 = .ok (.ifCond .eq 17, 3) := by decide +kernel
theorem dX8_cap_27 : decode cX8_cap 27 = .ok (.aload_n 0, 1) := by decide +kernel
theorem dX8_cap_28 : decode cX8_cap 28 = .ok (.bipush 6, 2) := by decide +kernel
theorem dX8_cap_30 : decode cX8_cap 30 = .ok (.iload_n 3, 1) := by decide +kernel
theorem dX8_cap_31 : decode cX8_cap 31 = .ok (.iload_n 1, 1) := by decide +kernel
theorem dX8_cap_32 : decode cX8_cap 32 = .ok (.bipush (-5), 2) := by decide +kernel
theorem dX8_cap_34 : decode cX8_cap 34 = .ok (.iload_n 2, 1) := by decide +kernel
theorem dX8_cap_35 : decode cX8_cap 35 = .ok (.invokevirtual 105, 3) := by decide +kernel
theorem dX8_cap_38 : decode cX8_cap 38 = .ok (.goto 5, 3) := by decide +kernel
theorem dX8_cap_41 : decode cX8_cap 41 = .ok (.bipush (-2), 2) := by decide +kernel
theorem dX8_cap_43 : decode cX8_cap 43 = .ok (.ireturn, 1) := by decide +kernel
theorem dX8_two_0 : decode cX8_two 0 = .ok (.iload_n 1, 1) := by decide +kernel
theorem dX8_two_1 : decode cX8_two 1 = .ok (.iconst 0, 1) := by decide +kernel
theorem dX8_two_2 : decode cX8_two 2 = .ok (.bipush 7, 2) := by decide +kernel
theorem dX8_two_4 : decode cX8_two 4 = .ok (.invokestatic 80, 3) := by decide +kernel
theorem dX8_two_7 : decode cX8_two 7 = .ok (.ifCond .eq 26, 3) := by decide +kernel
theorem dX8_two_10 : decode cX8_two 10 = .ok (.iload_n 1, 1) := by decide +kernel
theorem dX8_two_11 : decode cX8_two 11 = .ok (.invokestatic 116, 3) := by decide +kernel
theorem dX8_two_14 : decode cX8_two 14 = .ok (.ifCond .eq 19, 3) := by decide +kernel
theorem dX8_two_17 : decode cX8_two 17 = .ok (.aload_n 0, 1) := by decide +kernel
theorem dX8_two_18 : decode cX8_two 18 = .ok (.iload_n 2, 1) := by decide +kernel
theorem dX8_two_19 : decode cX8_two 19 = .ok (.invokevirtual 109, 3) := by decide +kernel
theorem dX8_two_22 : decode cX8_two 22 = .ok (.ifCond .eq 11, 3) := by decide +kernel
theorem dX8_two_25 : decode cX8_two 25 = .ok (.aload_n 0, 1) := by decide +kernel
theorem dX8_two_26 : decode cX8_two 26 = .ok (.iload_n 3, 1) := by decide +kernel
theorem dX8_two_27 : decode cX8_two 27 = .ok (.invokevirtual 109, 3) := by decide +kernel
theorem dX8_two_30 : decode cX8_two 30 = .ok (.ifCond .ne 5, 3) := by decide +kernel
theorem dX8_two_33 : decode cX8_two 33 = .ok (.iconst (-1), 1) := by decide +kernel
theorem dX8_two_34 : decode cX8_two 34 = .ok (.ireturn, 1) := by decide +kernel
theorem dX8_two_35 : decode cX8_two 35 = .ok (.aload_n 0, 1) := by decide +kernel
theorem dX8_two_36 : decode cX8_two 36 = .ok (.iload_n 1, 1) := by decide +kernel
theorem dX8_two_37 : decode cX8_two 37 = .ok (.bipush (-5), 2) := by decide +kernel
theorem dX8_two_39 : decode cX8_two 39 = .ok (.iload_n 2, 1) := by decide +kernel
theorem dX8_two_40 : decode cX8_two 40 = .ok (.iload_n 3, 1) := by decide +kernel
theorem dX8_two_41 : decode cX8_two 41 = .ok (.bipush (-5), 2) := by decide +kernel
theorem dX8_two_43 : decode cX8_two 43 = .ok (.invokevirtual 105, 3) := by decide +kernel
theorem dX8_two_46 : decode cX8_two 46 = .ok (.ireturn, 1) := by decide +kernel
theorem dX8_drop_0 : decode cX8_drop 0 = .ok (.aload_n 0, 1) := by decide +kernel
theorem dX8_drop_1 : decode cX8_drop 1 = .ok (.getfield 77, 3) := by decide +kernel
theorem dX8_drop_4 : decode cX8_drop 4 = .ok (.ifCond .ne 6, 3) := by decide +kernel
theorem dX8_drop_7 : decode cX8_drop 7 = .ok (.bipush (-3), 2) := by decide +kernel
theorem dX8_drop_9 : decode cX8_drop 9 = .ok (.ireturn, 1) := by decide +kernel
theorem dX8_drop_10 : decode cX8_drop 10 = .ok (.aload_n 0, 1) := by decide +kernel
theorem dX8_drop_11 : decode cX8_drop 11 = .ok (.dup, 1) := by decide +kernel
theorem dX8_drop_12 : decode cX8_drop 12 = .ok (.getfield 77, 3) := by decide +kernel
theorem dX8_drop_15 : decode cX8_drop 15 = .ok (.iconst 1, 1) := by decide +kernel
theorem dX8_drop_16 : decode cX8_drop 16 = .ok (.isub, 1) := by decide +kernel
theorem dX8_drop_17 : decode cX8_drop 17 = .ok (.putfield 77, 3) := by decide +kernel
theorem dX8_drop_20 : decode cX8_drop 20 = .ok (.aload_n 0, 1) := by decide +kernel
theorem dX8_drop_21 : decode cX8_drop 21 = .ok (.getfield 77, 3) := by decide +kernel
theorem dX8_drop_24 : decode cX8_drop 24 = .ok (.ireturn, 1) := by decide +kernel
theorem dX8_feed_0 : decode cX8_feed 0 = .ok (.iload_n 1, 1) := by decide +kernel
theorem dX8_feed_1 : decode cX8_feed 1 = .ok (.iconst 1, 1) := by decide +kernel
theorem dX8_feed_2 : decode cX8_feed 2 = .ok (.bipush 127, 2) := by decide +kernel
theorem dX8_feed_4 : decode cX8_feed 4 = .ok (.invokestatic 80, 3) := by decide +kernel
theorem dX8_feed_7 : decode cX8_feed 7 = .ok (.ifCond .ne 6, 3) := by decide +kernel
theorem dX8_feed_10 : decode cX8_feed 10 = .ok (.bipush (-2), 2) := by decide +kernel
theorem dX8_feed_12 : decode cX8_feed 12 = .ok (.ireturn, 1) := by decide +kernel
theorem dX8_feed_13 : decode cX8_feed 13 = .ok (.aload_n 0, 1) := by decide +kernel
theorem dX8_feed_14 : decode cX8_feed 14 = .ok (.getfield 119, 3) := by decide +kernel
theorem dX8_feed_17 : decode cX8_feed 17 = .ok (.bipush 60, 2) := by decide +kernel
theorem dX8_feed_19 : decode cX8_feed 19 = .ok (.if_icmp .ne 6, 3) := by decide +kernel
theorem dX8_feed_22 : decode cX8_feed 22 = .ok (.bipush (-4), 2) := by decide +kernel
theorem dX8_feed_24 : decode cX8_feed 24 = .ok (.ireturn, 1) := by decide +kernel
theorem dX8_feed_25 : decode cX8_feed 25 = .ok (.aload_n 0, 1) := by decide +kernel
theorem dX8_feed_26 : decode cX8_feed 26 = .ok (.getfield 56, 3) := by decide +kernel
theorem dX8_feed_29 : decode cX8_feed 29 = .ok (.aload_n 0, 1) := by decide +kernel
theorem dX8_feed_30 : decode cX8_feed 30 = .ok (.dup, 1) := by decide +kernel
theorem dX8_feed_31 : decode cX8_feed 31 = .ok (.getfield 119, 3) := by decide +kernel
theorem dX8_feed_34 : decode cX8_feed 34 = .ok (.dup_x1, 1) := by decide +kernel
theorem dX8_feed_35 : decode cX8_feed 35 = .ok (.iconst 1, 1) := by decide +kernel
theorem dX8_feed_36 : decode cX8_feed 36 = .ok (.iadd, 1) := by decide +kernel
theorem dX8_feed_37 : decode cX8_feed 37 = .ok (.putfield 119, 3) := by decide +kernel
theorem dX8_feed_40 : decode cX8_feed 40 = .ok (.iload_n 1, 1) := by decide +kernel
theorem dX8_feed_41 : decode cX8_feed 41 = .ok (.iastore, 1) := by decide +kernel
theorem dX8_feed_42 : decode cX8_feed 42 = .ok (.aload_n 0, 1) := by decide +kernel
theorem dX8_feed_43 : decode cX8_feed 43 = .ok (.getfield 119, 3) := by decide +kernel
theorem dX8_feed_46 : decode cX8_feed 46 = .ok (.ireturn, 1) := by decide +kernel
theorem dX8_clear_0 : decode cX8_clear 0 = .ok (.aload_n 0, 1) := by decide +kernel
theorem dX8_clear_1 : decode cX8_clear 1 = .ok (.getfield 119, 3) := by decide +kernel
theorem dX8_clear_4 : decode cX8_clear 4 = .ok (.istore_n 1, 1) := by decide +kernel
theorem dX8_clear_5 : decode cX8_clear 5 = .ok (.aload_n 0, 1) := by decide +kernel
theorem dX8_clear_6 : decode cX8_clear 6 = .ok (.iconst 0, 1) := by decide +kernel
theorem dX8_clear_7 : decode cX8_clear 7 = .ok (.putfield 119, 3) := by decide +kernel
theorem dX8_clear_10 : decode cX8_clear 10 = .ok (.iload_n 1, 1) := by decide +kernel
theorem dX8_clear_11 : decode cX8_clear 11 = .ok (.ireturn, 1) := by decide +kernel
theorem dX8_next_0 : decode cX8_next 0 = .ok (.aload_n 0, 1) := by decide +kernel
theorem dX8_next_1 : decode cX8_next 1 = .ok (.getfield 122, 3) := by decide +kernel
theorem dX8_next_4 : decode cX8_next 4 = .ok (.aload_n 0, 1) := by decide +kernel
theorem dX8_next_5 : decode cX8_next 5 = .ok (.getfield 119, 3) := by decide +kernel
theorem dX8_next_8 : decode cX8_next 8 = .ok (.if_icmp .ge 15, 3) := by decide +kernel
theorem dX8_next_11 : decode cX8_next 11 = .ok (.aload_n 0, 1) := by decide +kernel
theorem dX8_next_12 : decode cX8_next 12 = .ok (.getfield 56, 3) := by decide +kernel
theorem dX8_next_15 : decode cX8_next 15 = .ok (.aload_n 0, 1) := by decide +kernel
theorem dX8_next_16 : decode cX8_next 16 = .ok (.getfield 122, 3) := by decide +kernel
theorem dX8_next_19 : decode cX8_next 19 = .ok (.iaload, 1) := by decide +kernel
theorem dX8_next_20 : decode cX8_next 20 = .ok (.goto 4, 3) := by decide +kernel
theorem dX8_next_23 : decode cX8_next 23 = .ok (.iconst 0, 1) := by decide +kernel
theorem dX8_next_24 : decode cX8_next 24 = .ok (.ireturn, 1) := by decide +kernel
theorem dX8_is_0 : decode cX8_is 0 = .ok (.aload_n 0, 1) := by decide +kernel
theorem dX8_is_1 : decode cX8_is 1 = .ok (.invokevirtual 125, 3) := by decide +kernel
theorem dX8_is_4 : decode cX8_is 4 = .ok (.iload_n 1, 1) := by decide +kernel
theorem dX8_is_5 : decode cX8_is 5 = .ok (.if_icmp .eq 12, 3) := by decide +kernel
theorem dX8_is_8 : decode cX8_is 8 = .ok (.aload_n 0, 1) := by decide +kernel
theorem dX8_is_9 : decode cX8_is 9 = .ok (.aload_n 0, 1) := by decide +kernel
theorem dX8_is_10 : decode cX8_is 10 = .ok (.getfield 122, 3) := by decide +kernel
theorem dX8_is_13 : decode cX8_is 13 = .ok (.invokevirtual 129, 3) := by decide +kernel
theorem dX8_is_16 : decode cX8_is 16 = .ok (.ireturn, 1) := by decide +kernel
theorem dX8_is_17 : decode cX8_is 17 = .ok (.aload_n 0, 1) := by decide +kernel
theorem dX8_is_18 : decode cX8_is 18 = .ok (.dup, 1) := by decide +kernel
theorem dX8_is_19 : decode cX8_is 19 = .ok (.getfield 122, 3) := by decide +kernel
theorem dX8_is_22 : decode cX8_is 22 = .ok (.iconst 1, 1) := by decide +kernel
theorem dX8_is_23 : decode cX8_is 23 = .ok (.iadd, 1) := by decide +kernel
theorem dX8_is_24 : decode cX8_is 24 = .ok (.putfield 122, 3) := by decide +kernel
theorem dX8_is_27 : decode cX8_is 27 = .ok (.iconst 1, 1) := by decide +kernel
theorem dX8_is_28 : decode cX8_is 28 = .ok (.ireturn, 1) := by decide +kernel
theorem dX8_wrong_0 : decode cX8_wrong 0 = .ok (.aload_n 0, 1) := by decide +kernel
theorem dX8_wrong_1 : decode cX8_wrong 1 = .ok (.iload_n 1, 1) := by decide +kernel
theorem dX8_wrong_2 : decode cX8_wrong 2 = .ok (.putfield 132, 3) := by decide +kernel
theorem dX8_wrong_5 : decode cX8_wrong 5 = .ok (.iconst 0, 1) := by decide +kernel
theorem dX8_wrong_6 : decode cX8_wrong 6 = .ok (.ireturn, 1) := by decide +kernel
theorem dX8_isFigure_0 : decode cX8_isFigure 0 = .ok (.aload_n 0, 1) := by decide +kernel
theorem dX8_isFigure_1 : decode cX8_isFigure 1 = .ok (.invokevirtual 125, 3) := by decide +kernel
theorem dX8_isFigure_4 : decode cX8_isFigure 4 = .ok (.bipush 48, 2) := by decide +kernel
theorem dX8_isFigure_6 : decode cX8_isFigure 6 = .ok (.bipush 57, 2) := by decide +kernel
theorem dX8_isFigure_8 : decode cX8_isFigure 8 = .ok (.invokestatic 80, 3) := by decide +kernel
theorem dX8_isFigure_11 : decode cX8_isFigure 11 = .ok (.ireturn, 1) := by decide +kernel
theorem dX8_number_0 : decode cX8_number 0 = .ok (.aload_n 0, 1) := by decide +kernel
theorem dX8_number_1 : decode cX8_number 1 = .ok (.invokevirtual 135, 3) := by decide +kernel
theorem dX8_number_4 : decode cX8_number 4 = .ok (.ifCond .ne 13, 3) := by decide +kernel
theorem dX8_number_7 : decode cX8_number 7 = .ok (.aload_n 0, 1) := by decide +kernel
theorem dX8_number_8 : decode cX8_number 8 = .ok (.aload_n 0, 1) := by decide +kernel
theorem dX8_number_9 : decode cX8_number 9 = .ok (.getfield 122, 3) := by decide +kernel
theorem dX8_number_12 : decode cX8_number 12 = .ok (.putfield 132, 3) := by decide +kernel
theorem dX8_number_15 : decode cX8_number 15 = .ok (.iconst (-1), 1) := by decide +kernel
theorem dX8_number_16 : decode cX8_number 16 = .ok (.ireturn, 1) := by decide +kernel
theorem dX8_number_17 : decode cX8_number 17 = .ok (.aload_n 0, 1) := by decide +kernel
theorem dX8_number_18 : decode cX8_number 18 = .ok (.invokevirtual 125, 3) := by decide +kernel
theorem dX8_number_21 : decode cX8_number 21 = .ok (.bipush 48, 2) := by decide +kernel
theorem dX8_number_23 : decode cX8_number 23 = .ok (.isub, 1) := by decide +kernel
theorem dX8_number_24 : decode cX8_number 24 = .ok (.istore_n 1, 1) := by decide +kernel
theorem dX8_number_25 : decode cX8_number 25 = .ok (.aload_n 0, 1) := by decide +kernel
theorem dX8_number_26 : decode cX8_number 26 = .ok (.dup, 1) := by decide +kernel
theorem dX8_number_27 : decode cX8_number 27 = .ok (.getfield 122, 3) := by decide +kernel
theorem dX8_number_30 : decode cX8_number 30 = .ok (.iconst 1, 1) := by decide +kernel
theorem dX8_number_31 : decode cX8_number 31 = .ok (.iadd, 1) := by decide +kernel
theorem dX8_number_32 : decode cX8_number 32 = .ok (.putfield 122, 3) := by decide +kernel
theorem dX8_number_35 : decode cX8_number 35 = .ok (.aload_n 0, 1) := by decide +kernel
theorem dX8_number_36 : decode cX8_number 36 = .ok (.invokevirtual 135, 3) := by decide +kernel
theorem dX8_number_39 : decode cX8_number 39 = .ok (.ifCond .ne 5, 3) := by decide +kernel
theorem dX8_number_42 : decode cX8_number 42 = .ok (.iload_n 1, 1) := by decide +kernel
theorem dX8_number_43 : decode cX8_number 43 = .ok (.ireturn, 1) := by decide +kernel
theorem dX8_number_44 : decode cX8_number 44 = .ok (.bipush 10, 2) := by decide +kernel
theorem dX8_number_46 : decode cX8_number 46 = .ok (.iload_n 1, 1) := by decide +kernel
theorem dX8_number_47 : decode cX8_number 47 = .ok (.imul, 1) := by decide +kernel
theorem dX8_number_48 : decode cX8_number 48 = .ok (.aload_n 0, 1) := by decide +kernel
theorem dX8_number_49 : decode cX8_number 49 = .ok (.invokevirtual 125, 3) := by decide +kernel
theorem dX8_number_52 : decode cX8_number 52 = .ok (.iadd, 1) := by decide +kernel
theorem dX8_number_53 : decode cX8_number 53 = .ok (.bipush 48, 2) := by decide +kernel
theorem dX8_number_55 : decode cX8_number 55 = .ok (.isub, 1) := by decide +kernel
theorem dX8_number_56 : decode cX8_number 56 = .ok (.istore_n 1, 1) := by decide +kernel
theorem dX8_number_57 : decode cX8_number 57 = .ok (.aload_n 0, 1) := by decide +kernel
theorem dX8_number_58 : decode cX8_number 58 = .ok (.dup, 1) := by decide +kernel
theorem dX8_number_59 : decode cX8_number 59 = .ok (.getfield 122, 3) := by decide +kernel
theorem dX8_number_62 : decode cX8_number 62 = .ok (.iconst 1, 1) := by decide +kernel
theorem dX8_number_63 : decode cX8_number 63 = .ok (.iadd, 1) := by decide +kernel
theorem dX8_number_64 : decode cX8_number 64 = .ok (.putfield 122, 3) := by decide +kernel
theorem dX8_number_67 : decode cX8_number 67 = .ok (.iload_n 1, 1) := by decide +kernel
theorem dX8_number_68 : decode cX8_number 68 = .ok (.ireturn, 1) := by decide +kernel
theorem dX8_ends_0 : decode cX8_ends 0 = .ok (.iload_n 1, 1) := by decide +kernel
theorem dX8_ends_1 : decode cX8_ends 1 = .ok (.ifCond .lt 10, 3) := by decide +kernel
theorem dX8_ends_4 : decode cX8_ends 4 = .ok (.aload_n 0, 1) := by decide +kernel
theorem dX8_ends_5 : decode cX8_ends 5 = .ok (.invokevirtual 135, 3) := by decide +kernel
theorem dX8_ends_8 : decode cX8_ends 8 = .ok (.ifCond .ne 5, 3) := by decide +kernel
theorem dX8_ends_11 : decode cX8_ends 11 = .ok (.iload_n 1, 1) := by decide +kernel
theorem dX8_ends_12 : decode cX8_ends 12 = .ok (.ireturn, 1) := by decide +kernel
theorem dX8_ends_13 : decode cX8_ends 13 = .ok (.aload_n 0, 1) := by decide +kernel
theorem dX8_ends_14 : decode cX8_ends 14 = .ok (.aload_n 0, 1) := by decide +kernel
theorem dX8_ends_15 : decode cX8_ends 15 = .ok (.getfield 122, 3) := by decide +kernel
theorem dX8_ends_18 : decode cX8_ends 18 = .ok (.putfield 132, 3) := by decide +kernel
theorem dX8_ends_21 : decode cX8_ends 21 = .ok (.iconst (-1), 1) := by decide +kernel
theorem dX8_ends_22 : decode cX8_ends 22 = .ok (.ireturn, 1) := by decide +kernel
theorem dX8_boxThere_0 : decode cX8_boxThere 0 = .ok (.iconst 0, 1) := by decide +kernel
theorem dX8_boxThere_1 : decode cX8_boxThere 1 = .ok (.istore_n 1, 1) := by decide +kernel
theorem dX8_boxThere_2 : decode cX8_boxThere 2 = .ok (.iconst 0, 1) := by decide +kernel
theorem dX8_boxThere_3 : decode cX8_boxThere 3 = .ok (.istore_n 2, 1) := by decide +kernel
theorem dX8_boxThere_4 : decode cX8_boxThere 4 = .ok (.iconst 0, 1) := by decide +kernel
theorem dX8_boxThere_5 : decode cX8_boxThere 5 = .ok (.istore_n 3, 1) := by decide +kernel
theorem dX8_boxThere_6 : decode cX8_boxThere 6 = .ok (.iload_n 3, 1) := by decide +kernel
theorem dX8_boxThere_7 : decode cX8_boxThere 7 = .ok (.bipush 6, 2) := by decide +kernel
theorem dX8_boxThere_9 : decode cX8_boxThere 9 = .ok (.if_icmp .ge 78, 3) := by decide +kernel
theorem dX8_boxThere_12 : decode cX8_boxThere 12 = .ok (.aload_n 0, 1) := by decide +kernel
theorem dX8_boxThere_13 : decode cX8_boxThere 13 = .ok (.invokevirtual 125, 3) := by decide +kernel
theorem dX8_boxThere_16 : decode cX8_boxThere 16 = .ok (.bipush 48, 2) := by decide +kernel
theorem dX8_boxThere_18 : decode cX8_boxThere 18 = .ok (.isub, 1) := by decide +kernel
theorem dX8_boxThere_19 : decode cX8_boxThere 19 = .ok (.istore 4, 2) := by decide +kernel
theorem dX8_boxThere_21 : decode cX8_boxThere 21 = .ok (.aload_n 0, 1) := by decide +kernel
theorem dX8_boxThere_22 : decode cX8_boxThere 22 = .ok (.invokevirtual 135, 3) := by decide +kernel
theorem dX8_boxThere_25 : decode cX8_boxThere 25 = .ok (.ifCond .eq 25, 3) := by decide +kernel
theorem dX8_boxThere_28 : decode cX8_boxThere 28 = .ok (.iload 4, 2) := by decide +kernel
theorem dX8_boxThere_30 : decode cX8_boxThere 30 = .ok (.iload_n 3, 1) := by decide +kernel
theorem dX8_boxThere_31 : decode cX8_boxThere 31 = .ok (.invokestatic 89, 3) := by decide +kernel
theorem dX8_boxThere_34 : decode cX8_boxThere 34 = .ok (.if_icmp .gt 16, 3) := by decide +kernel
theorem dX8_boxThere_37 : decode cX8_boxThere 37 = .ok (.iload_n 3, 1) := by decide +kernel
theorem dX8_boxThere_38 : decode cX8_boxThere 38 = .ok (.iconst 2, 1) := by decide +kernel
theorem dX8_boxThere_39 : decode cX8_boxThere 39 = .ok (.irem, 1) := by decide +kernel
theorem dX8_boxThere_40 : decode cX8_boxThere 40 = .ok (.iconst 1, 1) := by decide +kernel
theorem dX8_boxThere_41 : decode cX8_boxThere 41 = .ok (.if_icmp .ne 19, 3) := by decide +kernel
theorem dX8_boxThere_44 : decode cX8_boxThere 44 = .ok (.iload 4, 2) := by decide +kernel
theorem dX8_boxThere_46 : decode cX8_boxThere 46 = .ok (.iload_n 2, 1) := by decide +kernel
theorem dX8_boxThere_47 : decode cX8_boxThere 47 = .ok (.if_icmp .ge 13, 3) := by decide +kernel
theorem dX8_boxThere_50 : decode cX8_boxThere 50 = .ok (.aload_n 0, 1) := by decide +kernel
theorem dX8_boxThere_51 : decode cX8_boxThere 51 = .ok (.aload_n 0, 1) := by decide +kernel
theorem dX8_boxThere_52 : decode cX8_boxThere 52 = .ok (.getfield 122, 3) := by decide +kernel
theorem dX8_boxThere_55 : decode cX8_boxThere 55 = .ok (.putfield 132, 3) := by decide +kernel
theorem dX8_boxThere_58 : decode cX8_boxThere 58 = .ok (.iconst (-1), 1) := by decide +kernel
theorem dX8_boxThere_59 : decode cX8_boxThere 59 = .ok (.ireturn, 1) := by decide +kernel
theorem dX8_boxThere_60 : decode cX8_boxThere 60 = .ok (.iload 4, 2) := by decide +kernel
theorem dX8_boxThere_62 : decode cX8_boxThere 62 = .ok (.istore_n 2, 1) := by decide +kernel
theorem dX8_boxThere_63 : decode cX8_boxThere 63 = .ok (.bipush 10, 2) := by decide +kernel
theorem dX8_boxThere_65 : decode cX8_boxThere 65 = .ok (.iload_n 1, 1) := by decide +kernel
theorem dX8_boxThere_66 : decode cX8_boxThere 66 = .ok (.imul, 1) := by decide +kernel
theorem dX8_boxThere_67 : decode cX8_boxThere 67 = .ok (.iload 4, 2) := by decide +kernel
theorem dX8_boxThere_69 : decode cX8_boxThere 69 = .ok (.iadd, 1) := by decide +kernel
theorem dX8_boxThere_70 : decode cX8_boxThere 70 = .ok (.istore_n 1, 1) := by decide +kernel
theorem dX8_boxThere_71 : decode cX8_boxThere 71 = .ok (.aload_n 0, 1) := by decide +kernel
theorem dX8_boxThere_72 : decode cX8_boxThere 72 = .ok (.dup, 1) := by decide +kernel
theorem dX8_boxThere_73 : decode cX8_boxThere 73 = .ok (.getfield 122, 3) := by decide +kernel
theorem dX8_boxThere_76 : decode cX8_boxThere 76 = .ok (.iconst 1, 1) := by decide +kernel
theorem dX8_boxThere_77 : decode cX8_boxThere 77 = .ok (.iadd, 1) := by decide +kernel
theorem dX8_boxThere_78 : decode cX8_boxThere 78 = .ok (.putfield 122, 3) := by decide +kernel
theorem dX8_boxThere_81 : decode cX8_boxThere 81 = .ok (.iinc 3 1, 3) := by decide +kernel
theorem dX8_boxThere_84 : decode cX8_boxThere 84 = .ok (.goto (-78), 3) := by decide +kernel
theorem dX8_boxThere_87 : decode cX8_boxThere 87 = .ok (.iload_n 1, 1) := by decide +kernel
theorem dX8_boxThere_88 : decode cX8_boxThere 88 = .ok (.ireturn, 1) := by decide +kernel
theorem dX8_makes_0 : decode cX8_makes 0 = .ok (.aload_n 0, 1) := by decide +kernel
theorem dX8_makes_1 : decode cX8_makes 1 = .ok (.aload_n 0, 1) := by decide +kernel
theorem dX8_makes_2 : decode cX8_makes 2 = .ok (.getfield 77, 3) := by decide +kernel
theorem dX8_makes_5 : decode cX8_makes 5 = .ok (.aload_n 0, 1) := by decide +kernel
theorem dX8_makes_6 : decode cX8_makes 6 = .ok (.getfield 139, 3) := by decide +kernel
theorem dX8_makes_9 : decode cX8_makes 9 = .ok (.iadd, 1) := by decide +kernel
theorem dX8_makes_10 : decode cX8_makes 10 = .ok (.iload_n 1, 1) := by decide +kernel
theorem dX8_makes_11 : decode cX8_makes 11 = .ok (.iload_n 2, 1) := by decide +kernel
theorem dX8_makes_12 : decode cX8_makes 12 = .ok (.iload_n 3, 1) := by decide +kernel
theorem dX8_makes_13 : decode cX8_makes 13 = .ok (.iload 4, 2) := by decide +kernel
theorem dX8_makes_15 : decode cX8_makes 15 = .ok (.iload 5, 2) := by decide +kernel
theorem dX8_makes_17 : decode cX8_makes 17 = .ok (.invokevirtual 101, 3) := by decide +kernel
theorem dX8_makes_20 : decode cX8_makes 20 = .ok (.aload_n 0, 1) := by decide +kernel
theorem dX8_makes_21 : decode cX8_makes 21 = .ok (.dup, 1) := by decide +kernel
theorem dX8_makes_22 : decode cX8_makes 22 = .ok (.getfield 139, 3) := by decide +kernel
theorem dX8_makes_25 : decode cX8_makes 25 = .ok (.iconst 1, 1) := by decide +kernel
theorem dX8_makes_26 : decode cX8_makes 26 = .ok (.iadd, 1) := by decide +kernel
theorem dX8_makes_27 : decode cX8_makes 27 = .ok (.putfield 139, 3) := by decide +kernel
theorem dX8_makes_30 : decode cX8_makes 30 = .ok (.aload_n 0, 1) := by decide +kernel
theorem dX8_makes_31 : decode cX8_makes 31 = .ok (.getfield 77, 3) := by decide +kernel
theorem dX8_makes_34 : decode cX8_makes 34 = .ok (.aload_n 0, 1) := by decide +kernel
theorem dX8_makes_35 : decode cX8_makes 35 = .ok (.getfield 139, 3) := by decide +kernel
theorem dX8_makes_38 : decode cX8_makes 38 = .ok (.iadd, 1) := by decide +kernel
theorem dX8_makes_39 : decode cX8_makes 39 = .ok (.iconst 1, 1) := by decide +kernel
theorem dX8_makes_40 : decode cX8_makes 40 = .ok (.isub, 1) := by decide +kernel
theorem dX8_makes_41 : decode cX8_makes 41 = .ok (.ireturn, 1) := by decide +kernel
theorem dX8_kindOf_0 : decode cX8_kindOf 0 = .ok (.iload_n 0, 1) := by decide +kernel
theorem dX8_kindOf_1 : decode cX8_kindOf 1 = .ok (.lookupswitch 73 #[(33, 70), (43, 66), (47, 64), (60, 68), (63, 59), (94, 61)], 59) := by decide +kernel
theorem dX8_kindOf_60 : decode cX8_kindOf 60 = .ok (.iconst 2, 1) := by decide +kernel
theorem dX8_kindOf_61 : decode cX8_kindOf 61 = .ok (.ireturn, 1) := by decide +kernel
theorem dX8_kindOf_62 : decode cX8_kindOf 62 = .ok (.bipush 6, 2) := by decide +kernel
theorem dX8_kindOf_64 : decode cX8_kindOf 64 = .ok (.ireturn, 1) := by decide +kernel
theorem dX8_kindOf_65 : decode cX8_kindOf 65 = .ok (.iconst 3, 1) := by decide +kernel
theorem dX8_kindOf_66 : decode cX8_kindOf 66 = .ok (.ireturn, 1) := by decide +kernel
theorem dX8_kindOf_67 : decode cX8_kindOf 67 = .ok (.iconst 4, 1) := by decide +kernel
theorem dX8_kindOf_68 : decode cX8_kindOf 68 = .ok (.ireturn, 1) := by decide +kernel
theorem dX8_kindOf_69 : decode cX8_kindOf 69 = .ok (.iconst 5, 1) := by decide +kernel
theorem dX8_kindOf_70 : decode cX8_kindOf 70 = .ok (.ireturn, 1) := by decide +kernel
theorem dX8_kindOf_71 : decode cX8_kindOf 71 = .ok (.bipush 7, 2) := by decide +kernel
theorem dX8_kindOf_73 : decode cX8_kindOf 73 = .ok (.ireturn, 1) := by decide +kernel
theorem dX8_kindOf_74 : decode cX8_kindOf 74 = .ok (.iconst (-1), 1) := by decide +kernel
theorem dX8_kindOf_75 : decode cX8_kindOf 75 = .ok (.ireturn, 1) := by decide +kernel
theorem dX8_term_0 : decode cX8_term 0 = .ok (.aload_n 0, 1) := by decide +kernel
theorem dX8_term_1 : decode cX8_term 1 = .ok (.invokevirtual 135, 3) := by decide +kernel
theorem dX8_term_4 : decode cX8_term 4 = .ok (.ifCond .eq 33, 3) := by decide +kernel
theorem dX8_term_7 : decode cX8_term 7 = .ok (.aload_n 0, 1) := by decide +kernel
theorem dX8_term_8 : decode cX8_term 8 = .ok (.aload_n 0, 1) := by decide +kernel
theorem dX8_term_9 : decode cX8_term 9 = .ok (.invokevirtual 142, 3) := by decide +kernel
theorem dX8_term_12 : decode cX8_term 12 = .ok (.invokevirtual 145, 3) := by decide +kernel
theorem dX8_term_15 : decode cX8_term 15 = .ok (.istore_n 2, 1) := by decide +kernel
theorem dX8_term_16 : decode cX8_term 16 = .ok (.iload_n 2, 1) := by decide +kernel
theorem dX8_term_17 : decode cX8_term 17 = .ok (.ifCond .ge 7, 3) := by decide +kernel
theorem dX8_term_20 : decode cX8_term 20 = .ok (.iconst (-1), 1) := by decide +kernel
theorem dX8_term_21 : decode cX8_term 21 = .ok (.goto 15, 3) := by decide +kernel
theorem dX8_term_24 : decode cX8_term 24 = .ok (.aload_n 0, 1) := by decide +kernel
theorem dX8_term_25 : decode cX8_term 25 = .ok (.iconst 0, 1) := by decide +kernel
theorem dX8_term_26 : decode cX8_term 26 = .ok (.iload_n 2, 1) := by decide +kernel
theorem dX8_term_27 : decode cX8_term 27 = .ok (.bipush (-5), 2) := by decide +kernel
theorem dX8_term_29 : decode cX8_term 29 = .ok (.bipush (-5), 2) := by decide +kernel
theorem dX8_term_31 : decode cX8_term 31 = .ok (.bipush (-5), 2) := by decide +kernel
theorem dX8_term_33 : decode cX8_term 33 = .ok (.invokevirtual 148, 3) := by decide +kernel
theorem dX8_term_36 : decode cX8_term 36 = .ok (.ireturn, 1) := by decide +kernel
theorem dX8_term_37 : decode cX8_term 37 = .ok (.aload_n 0, 1) := by decide +kernel
theorem dX8_term_38 : decode cX8_term 38 = .ok (.invokevirtual 125, 3) := by decide +kernel
theorem dX8_term_41 : decode cX8_term 41 = .ok (.bipush 45, 2) := by decide +kernel
theorem dX8_term_43 : decode cX8_term 43 = .ok (.if_icmp .ne 27, 3) := by decide +kernel
theorem dX8_term_46 : decode cX8_term 46 = .ok (.aload_n 0, 1) := by decide +kernel
theorem dX8_term_47 : decode cX8_term 47 = .ok (.dup, 1) := by decide +kernel
theorem dX8_term_48 : decode cX8_term 48 = .ok (.getfield 122, 3) := by decide +kernel
theorem dX8_term_51 : decode cX8_term 51 = .ok (.iconst 1, 1) := by decide +kernel
theorem dX8_term_52 : decode cX8_term 52 = .ok (.iadd, 1) := by decide +kernel
theorem dX8_term_53 : decode cX8_term 53 = .ok (.putfield 122, 3) := by decide +kernel
theorem dX8_term_56 : decode cX8_term 56 = .ok (.aload_n 0, 1) := by decide +kernel
theorem dX8_term_57 : decode cX8_term 57 = .ok (.iconst 1, 1) := by decide +kernel
theorem dX8_term_58 : decode cX8_term 58 = .ok (.bipush (-5), 2) := by decide +kernel
theorem dX8_term_60 : decode cX8_term 60 = .ok (.bipush (-5), 2) := by decide +kernel
theorem dX8_term_62 : decode cX8_term 62 = .ok (.bipush (-5), 2) := by decide +kernel
theorem dX8_term_64 : decode cX8_term 64 = .ok (.bipush (-5), 2) := by decide +kernel
theorem dX8_term_66 : decode cX8_term 66 = .ok (.invokevirtual 148, 3) := by decide +kernel
theorem dX8_term_69 : decode cX8_term 69 = .ok (.ireturn, 1) := by decide +kernel
theorem dX8_term_70 : decode cX8_term 70 = .ok (.aload_n 0, 1) := by decide +kernel
theorem dX8_term_71 : decode cX8_term 71 = .ok (.invokevirtual 125, 3) := by decide +kernel
theorem dX8_term_74 : decode cX8_term 74 = .ok (.bipush 35, 2) := by decide +kernel
theorem dX8_term_76 : decode cX8_term 76 = .ok (.if_icmp .ne 80, 3) := by decide +kernel
theorem dX8_term_79 : decode cX8_term 79 = .ok (.aload_n 0, 1) := by decide +kernel
theorem dX8_term_80 : decode cX8_term 80 = .ok (.getfield 59, 3) := by decide +kernel
theorem dX8_term_83 : decode cX8_term 83 = .ok (.aload_n 0, 1) := by decide +kernel
theorem dX8_term_84 : decode cX8_term 84 = .ok (.dup, 1) := by decide +kernel
theorem dX8_term_85 : decode cX8_term 85 = .ok (.getfield 151, 3) := by decide +kernel
theorem dX8_term_88 : decode cX8_term 88 = .ok (.dup_x1, 1) := by decide +kernel
theorem dX8_term_89 : decode cX8_term 89 = .ok (.iconst 1, 1) := by decide +kernel
theorem dX8_term_90 : decode cX8_term 90 = .ok (.iadd, 1) := by decide +kernel
theorem dX8_term_91 : decode cX8_term 91 = .ok (.putfield 151, 3) := by decide +kernel
theorem dX8_term_94 : decode cX8_term 94 = .ok (.aload_n 0, 1) := by decide +kernel
theorem dX8_term_95 : decode cX8_term 95 = .ok (.getfield 122, 3) := by decide +kernel
theorem dX8_term_98 : decode cX8_term 98 = .ok (.iastore, 1) := by decide +kernel
theorem dX8_term_99 : decode cX8_term 99 = .ok (.aload_n 0, 1) := by decide +kernel
theorem dX8_term_100 : decode cX8_term 100 = .ok (.dup, 1) := by decide +kernel
theorem dX8_term_101 : decode cX8_term 101 = .ok (.getfield 122, 3) := by decide +kernel
theorem dX8_term_104 : decode cX8_term 104 = .ok (.iconst 1, 1) := by decide +kernel
theorem dX8_term_105 : decode cX8_term 105 = .ok (.iadd, 1) := by decide +kernel
theorem dX8_term_106 : decode cX8_term 106 = .ok (.putfield 122, 3) := by decide +kernel
theorem dX8_term_109 : decode cX8_term 109 = .ok (.aload_n 0, 1) := by decide +kernel
theorem dX8_term_110 : decode cX8_term 110 = .ok (.getfield 122, 3) := by decide +kernel
theorem dX8_term_113 : decode cX8_term 113 = .ok (.istore_n 2, 1) := by decide +kernel
theorem dX8_term_114 : decode cX8_term 114 = .ok (.aload_n 0, 1) := by decide +kernel
theorem dX8_term_115 : decode cX8_term 115 = .ok (.invokevirtual 142, 3) := by decide +kernel
theorem dX8_term_118 : decode cX8_term 118 = .ok (.istore_n 3, 1) := by decide +kernel
theorem dX8_term_119 : decode cX8_term 119 = .ok (.iload_n 3, 1) := by decide +kernel
theorem dX8_term_120 : decode cX8_term 120 = .ok (.ifCond .ge 5, 3) := by decide +kernel
theorem dX8_term_123 : decode cX8_term 123 = .ok (.iconst (-1), 1) := by decide +kernel
theorem dX8_term_124 : decode cX8_term 124 = .ok (.ireturn, 1) := by decide +kernel
theorem dX8_term_125 : decode cX8_term 125 = .ok (.aload_n 0, 1) := by decide +kernel
theorem dX8_term_126 : decode cX8_term 126 = .ok (.iload_n 3, 1) := by decide +kernel
theorem dX8_term_127 : decode cX8_term 127 = .ok (.invokevirtual 109, 3) := by decide +kernel
theorem dX8_term_130 : decode cX8_term 130 = .ok (.ifCond .ne 10, 3) := by decide +kernel
theorem dX8_term_133 : decode cX8_term 133 = .ok (.aload_n 0, 1) := by decide +kernel
theorem dX8_term_134 : decode cX8_term 134 = .ok (.iload_n 2, 1) := by decide +kernel
theorem dX8_term_135 : decode cX8_term 135 = .ok (.putfield 132, 3) := by decide +kernel
theorem dX8_term_138 : decode cX8_term 138 = .ok (.iconst (-1), 1) := by decide +kernel
theorem dX8_term_139 : decode cX8_term 139 = .ok (.ireturn, 1) := by decide +kernel
theorem dX8_term_140 : decode cX8_term 140 = .ok (.aload_n 0, 1) := by decide +kernel
theorem dX8_term_141 : decode cX8_term 141 = .ok (.dup, 1) := by decide +kernel
theorem dX8_term_142 : decode cX8_term 142 = .ok (.getfield 151, 3) := by decide +kernel
theorem dX8_term_145 : decode cX8_term 145 = .ok (.iconst 1, 1) := by decide +kernel
theorem dX8_term_146 : decode cX8_term 146 = .ok (.isub, 1) := by decide +kernel
theorem dX8_term_147 : decode cX8_term 147 = .ok (.putfield 151, 3) := by decide +kernel
theorem dX8_term_150 : decode cX8_term 150 = .ok (.aload_n 0, 1) := by decide +kernel
theorem dX8_term_151 : decode cX8_term 151 = .ok (.iload_n 3, 1) := by decide +kernel
theorem dX8_term_152 : decode cX8_term 152 = .ok (.invokevirtual 145, 3) := by decide +kernel
theorem dX8_term_155 : decode cX8_term 155 = .ok (.ireturn, 1) := by decide +kernel
theorem dX8_term_156 : decode cX8_term 156 = .ok (.aload_n 0, 1) := by decide +kernel
theorem dX8_term_157 : decode cX8_term 157 = .ok (.invokevirtual 125, 3) := by decide +kernel
theorem dX8_term_160 : decode cX8_term 160 = .ok (.invokestatic 154, 3) := by decide +kernel
theorem dX8_term_163 : decode cX8_term 163 = .ok (.istore_n 2, 1) := by decide +kernel
theorem dX8_term_164 : decode cX8_term 164 = .ok (.iload_n 2, 1) := by decide +kernel
theorem dX8_term_165 : decode cX8_term 165 = .ok (.ifCond .ge 13, 3) := by decide +kernel
theorem dX8_term_168 : decode cX8_term 168 = .ok (.aload_n 0, 1) := by decide +kernel
theorem dX8_term_169 : decode cX8_term 169 = .ok (.aload_n 0, 1) := by decide +kernel
theorem dX8_term_170 : decode cX8_term 170 = .ok (.getfield 122, 3) := by decide +kernel
theorem dX8_term_173 : decode cX8_term 173 = .ok (.putfield 132, 3) := by decide +kernel
theorem dX8_term_176 : decode cX8_term 176 = .ok (.iconst (-1), 1) := by decide +kernel
theorem dX8_term_177 : decode cX8_term 177 = .ok (.ireturn, 1) := by decide +kernel
theorem dX8_term_178 : decode cX8_term 178 = .ok (.aload_n 0, 1) := by decide +kernel
theorem dX8_term_179 : decode cX8_term 179 = .ok (.getfield 59, 3) := by decide +kernel
theorem dX8_term_182 : decode cX8_term 182 = .ok (.aload_n 0, 1) := by decide +kernel
theorem dX8_term_183 : decode cX8_term 183 = .ok (.dup, 1) := by decide +kernel
theorem dX8_term_184 : decode cX8_term 184 = .ok (.getfield 151, 3) := by decide +kernel
theorem dX8_term_187 : decode cX8_term 187 = .ok (.dup_x1, 1) := by decide +kernel
theorem dX8_term_188 : decode cX8_term 188 = .ok (.iconst 1, 1) := by decide +kernel
theorem dX8_term_189 : decode cX8_term 189 = .ok (.iadd, 1) := by decide +kernel
theorem dX8_term_190 : decode cX8_term 190 = .ok (.putfield 151, 3) := by decide +kernel
theorem dX8_term_193 : decode cX8_term 193 = .ok (.aload_n 0, 1) := by decide +kernel
theorem dX8_term_194 : decode cX8_term 194 = .ok (.getfield 122, 3) := by decide +kernel
theorem dX8_term_197 : decode cX8_term 197 = .ok (.iastore, 1) := by decide +kernel
theorem dX8_term_198 : decode cX8_term 198 = .ok (.aload_n 0, 1) := by decide +kernel
theorem dX8_term_199 : decode cX8_term 199 = .ok (.dup, 1) := by decide +kernel
theorem dX8_term_200 : decode cX8_term 200 = .ok (.getfield 122, 3) := by decide +kernel
theorem dX8_term_203 : decode cX8_term 203 = .ok (.iconst 1, 1) := by decide +kernel
theorem dX8_term_204 : decode cX8_term 204 = .ok (.iadd, 1) := by decide +kernel
theorem dX8_term_205 : decode cX8_term 205 = .ok (.putfield 122, 3) := by decide +kernel
theorem dX8_term_208 : decode cX8_term 208 = .ok (.iload_n 2, 1) := by decide +kernel
theorem dX8_term_209 : decode cX8_term 209 = .ok (.invokestatic 157, 3) := by decide +kernel
theorem dX8_term_212 : decode cX8_term 212 = .ok (.ifCond .eq 10, 3) := by decide +kernel
theorem dX8_term_215 : decode cX8_term 215 = .ok (.aload_n 0, 1) := by decide +kernel
theorem dX8_term_216 : decode cX8_term 216 = .ok (.invokevirtual 160, 3) := by decide +kernel
theorem dX8_term_219 : decode cX8_term 219 = .ok (.goto 5, 3) := by decide +kernel
theorem dX8_term_222 : decode cX8_term 222 = .ok (.bipush (-5), 2) := by decide +kernel
theorem dX8_term_224 : decode cX8_term 224 = .ok (.istore_n 3, 1) := by decide +kernel
theorem dX8_term_225 : decode cX8_term 225 = .ok (.iload_n 3, 1) := by decide +kernel
theorem dX8_term_226 : decode cX8_term 226 = .ok (.iconst (-1), 1) := by decide +kernel
theorem dX8_term_227 : decode cX8_term 227 = .ok (.if_icmp .ne 5, 3) := by decide +kernel
theorem dX8_term_230 : decode cX8_term 230 = .ok (.iconst (-1), 1) := by decide +kernel
theorem dX8_term_231 : decode cX8_term 231 = .ok (.ireturn, 1) := by decide +kernel
theorem dX8_term_232 : decode cX8_term 232 = .ok (.bipush (-5), 2) := by decide +kernel
theorem dX8_term_234 : decode cX8_term 234 = .ok (.istore 4, 2) := by decide +kernel
theorem dX8_term_236 : decode cX8_term 236 = .ok (.iload_n 2, 1) := by decide +kernel
theorem dX8_term_237 : decode cX8_term 237 = .ok (.bipush 6, 2) := by decide +kernel
theorem dX8_term_239 : decode cX8_term 239 = .ok (.if_icmp .ne 31, 3) := by decide +kernel
theorem dX8_term_242 : decode cX8_term 242 = .ok (.aload_n 0, 1) := by decide +kernel
theorem dX8_term_243 : decode cX8_term 243 = .ok (.bipush 58, 2) := by decide +kernel
theorem dX8_term_245 : decode cX8_term 245 = .ok (.invokevirtual 163, 3) := by decide +kernel
theorem dX8_term_248 : decode cX8_term 248 = .ok (.ifCond .ne 5, 3) := by decide +kernel
theorem dX8_term_251 : decode cX8_term 251 = .ok (.iconst (-1), 1) := by decide +kernel
theorem dX8_term_252 : decode cX8_term 252 = .ok (.ireturn, 1) := by decide +kernel
theorem dX8_term_253 : decode cX8_term 253 = .ok (.aload_n 0, 1) := by decide +kernel
theorem dX8_term_254 : decode cX8_term 254 = .ok (.aload_n 0, 1) := by decide +kernel
theorem dX8_term_255 : decode cX8_term 255 = .ok (.invokevirtual 142, 3) := by decide +kernel
theorem dX8_term_258 : decode cX8_term 258 = .ok (.invokevirtual 145, 3) := by decide +kernel
theorem dX8_term_261 : decode cX8_term 261 = .ok (.istore 4, 2) := by decide +kernel
theorem dX8_term_263 : decode cX8_term 263 = .ok (.iload 4, 2) := by decide +kernel
theorem dX8_term_265 : decode cX8_term 265 = .ok (.ifCond .ge 5, 3) := by decide +kernel
theorem dX8_term_268 : decode cX8_term 268 = .ok (.iconst (-1), 1) := by decide +kernel
theorem dX8_term_269 : decode cX8_term 269 = .ok (.ireturn, 1) := by decide +kernel
theorem dX8_term_270 : decode cX8_term 270 = .ok (.iload_n 1, 1) := by decide +kernel
theorem dX8_term_271 : decode cX8_term 271 = .ok (.bipush 6, 2) := by decide +kernel
theorem dX8_term_273 : decode cX8_term 273 = .ok (.if_icmp .ne 22, 3) := by decide +kernel
theorem dX8_term_276 : decode cX8_term 276 = .ok (.aload_n 0, 1) := by decide +kernel
theorem dX8_term_277 : decode cX8_term 277 = .ok (.invokevirtual 125, 3) := by decide +kernel
theorem dX8_term_280 : decode cX8_term 280 = .ok (.bipush 40, 2) := by decide +kernel
theorem dX8_term_282 : decode cX8_term 282 = .ok (.if_icmp .ne 13, 3) := by decide +kernel
theorem dX8_term_285 : decode cX8_term 285 = .ok (.aload_n 0, 1) := by decide +kernel
theorem dX8_term_286 : decode cX8_term 286 = .ok (.aload_n 0, 1) := by decide +kernel
theorem dX8_term_287 : decode cX8_term 287 = .ok (.getfield 122, 3) := by decide +kernel
theorem dX8_term_290 : decode cX8_term 290 = .ok (.putfield 132, 3) := by decide +kernel
theorem dX8_term_293 : decode cX8_term 293 = .ok (.iconst (-1), 1) := by decide +kernel
theorem dX8_term_294 : decode cX8_term 294 = .ok (.ireturn, 1) := by decide +kernel
theorem dX8_term_295 : decode cX8_term 295 = .ok (.aload_n 0, 1) := by decide +kernel
theorem dX8_term_296 : decode cX8_term 296 = .ok (.bipush 40, 2) := by decide +kernel
theorem dX8_term_298 : decode cX8_term 298 = .ok (.invokevirtual 163, 3) := by decide +kernel
theorem dX8_term_301 : decode cX8_term 301 = .ok (.ifCond .ne 5, 3) := by decide +kernel
theorem dX8_term_304 : decode cX8_term 304 = .ok (.iconst (-1), 1) := by decide +kernel
theorem dX8_term_305 : decode cX8_term 305 = .ok (.ireturn, 1) := by decide +kernel
theorem dX8_term_306 : decode cX8_term 306 = .ok (.aload_n 0, 1) := by decide +kernel
theorem dX8_term_307 : decode cX8_term 307 = .ok (.iload_n 1, 1) := by decide +kernel
theorem dX8_term_308 : decode cX8_term 308 = .ok (.iconst 1, 1) := by decide +kernel
theorem dX8_term_309 : decode cX8_term 309 = .ok (.iadd, 1) := by decide +kernel
theorem dX8_term_310 : decode cX8_term 310 = .ok (.invokevirtual 166, 3) := by decide +kernel
theorem dX8_term_313 : decode cX8_term 313 = .ok (.istore 5, 2) := by decide +kernel
theorem dX8_term_315 : decode cX8_term 315 = .ok (.iload 5, 2) := by decide +kernel
theorem dX8_term_317 : decode cX8_term 317 = .ok (.ifCond .ge 5, 3) := by decide +kernel
theorem dX8_term_320 : decode cX8_term 320 = .ok (.iconst (-1), 1) := by decide +kernel
theorem dX8_term_321 : decode cX8_term 321 = .ok (.ireturn, 1) := by decide +kernel
theorem dX8_term_322 : decode cX8_term 322 = .ok (.bipush (-5), 2) := by decide +kernel
theorem dX8_term_324 : decode cX8_term 324 = .ok (.istore 6, 2) := by decide +kernel
theorem dX8_term_326 : decode cX8_term 326 = .ok (.iload_n 2, 1) := by decide +kernel
theorem dX8_term_327 : decode cX8_term 327 = .ok (.invokestatic 116, 3) := by decide +kernel
theorem dX8_term_330 : decode cX8_term 330 = .ok (.ifCond .eq 30, 3) := by decide +kernel
theorem dX8_term_333 : decode cX8_term 333 = .ok (.aload_n 0, 1) := by decide +kernel
theorem dX8_term_334 : decode cX8_term 334 = .ok (.bipush 44, 2) := by decide +kernel
theorem dX8_term_336 : decode cX8_term 336 = .ok (.invokevirtual 163, 3) := by decide +kernel
theorem dX8_term_339 : decode cX8_term 339 = .ok (.ifCond .ne 5, 3) := by decide +kernel
theorem dX8_term_342 : decode cX8_term 342 = .ok (.iconst (-1), 1) := by decide +kernel
theorem dX8_term_343 : decode cX8_term 343 = .ok (.ireturn, 1) := by decide +kernel
theorem dX8_term_344 : decode cX8_term 344 = .ok (.aload_n 0, 1) := by decide +kernel
theorem dX8_term_345 : decode cX8_term 345 = .ok (.iload_n 1, 1) := by decide +kernel
theorem dX8_term_346 : decode cX8_term 346 = .ok (.iconst 1, 1) := by decide +kernel
theorem dX8_term_347 : decode cX8_term 347 = .ok (.iadd, 1) := by decide +kernel
theorem dX8_term_348 : decode cX8_term 348 = .ok (.invokevirtual 166, 3) := by decide +kernel
theorem dX8_term_351 : decode cX8_term 351 = .ok (.istore 6, 2) := by decide +kernel
theorem dX8_term_353 : decode cX8_term 353 = .ok (.iload 6, 2) := by decide +kernel
theorem dX8_term_355 : decode cX8_term 355 = .ok (.ifCond .ge 5, 3) := by decide +kernel
theorem dX8_term_358 : decode cX8_term 358 = .ok (.iconst (-1), 1) := by decide +kernel
theorem dX8_term_359 : decode cX8_term 359 = .ok (.ireturn, 1) := by decide +kernel
theorem dX8_term_360 : decode cX8_term 360 = .ok (.aload_n 0, 1) := by decide +kernel
theorem dX8_term_361 : decode cX8_term 361 = .ok (.bipush 41, 2) := by decide +kernel
theorem dX8_term_363 : decode cX8_term 363 = .ok (.invokevirtual 163, 3) := by decide +kernel
theorem dX8_term_366 : decode cX8_term 366 = .ok (.ifCond .ne 5, 3) := by decide +kernel
theorem dX8_term_369 : decode cX8_term 369 = .ok (.iconst (-1), 1) := by decide +kernel
theorem dX8_term_370 : decode cX8_term 370 = .ok (.ireturn, 1) := by decide +kernel
theorem dX8_term_371 : decode cX8_term 371 = .ok (.aload_n 0, 1) := by decide +kernel
theorem dX8_term_372 : decode cX8_term 372 = .ok (.dup, 1) := by decide +kernel
theorem dX8_term_373 : decode cX8_term 373 = .ok (.getfield 151, 3) := by decide +kernel
theorem dX8_term_376 : decode cX8_term 376 = .ok (.iconst 1, 1) := by decide +kernel
theorem dX8_term_377 : decode cX8_term 377 = .ok (.isub, 1) := by decide +kernel
theorem dX8_term_378 : decode cX8_term 378 = .ok (.putfield 151, 3) := by decide +kernel
theorem dX8_term_381 : decode cX8_term 381 = .ok (.aload_n 0, 1) := by decide +kernel
theorem dX8_term_382 : decode cX8_term 382 = .ok (.iload_n 2, 1) := by decide +kernel
theorem dX8_term_383 : decode cX8_term 383 = .ok (.iload 4, 2) := by decide +kernel
theorem dX8_term_385 : decode cX8_term 385 = .ok (.iload 5, 2) := by decide +kernel
theorem dX8_term_387 : decode cX8_term 387 = .ok (.iload 6, 2) := by decide +kernel
theorem dX8_term_389 : decode cX8_term 389 = .ok (.iload_n 3, 1) := by decide +kernel
theorem dX8_term_390 : decode cX8_term 390 = .ok (.invokevirtual 148, 3) := by decide +kernel
theorem dX8_term_393 : decode cX8_term 393 = .ok (.ireturn, 1) := by decide +kernel
theorem dX8_read_0 : decode cX8_read 0 = .ok (.aload_n 0, 1) := by decide +kernel
theorem dX8_read_1 : decode cX8_read 1 = .ok (.iconst 0, 1) := by decide +kernel
theorem dX8_read_2 : decode cX8_read 2 = .ok (.putfield 122, 3) := by decide +kernel
theorem dX8_read_5 : decode cX8_read 5 = .ok (.aload_n 0, 1) := by decide +kernel
theorem dX8_read_6 : decode cX8_read 6 = .ok (.iconst 0, 1) := by decide +kernel
theorem dX8_read_7 : decode cX8_read 7 = .ok (.putfield 139, 3) := by decide +kernel
theorem dX8_read_10 : decode cX8_read 10 = .ok (.aload_n 0, 1) := by decide +kernel
theorem dX8_read_11 : decode cX8_read 11 = .ok (.iconst 0, 1) := by decide +kernel
theorem dX8_read_12 : decode cX8_read 12 = .ok (.putfield 151, 3) := by decide +kernel
theorem dX8_read_15 : decode cX8_read 15 = .ok (.aload_n 0, 1) := by decide +kernel
theorem dX8_read_16 : decode cX8_read 16 = .ok (.iconst 0, 1) := by decide +kernel
theorem dX8_read_17 : decode cX8_read 17 = .ok (.invokevirtual 166, 3) := by decide +kernel
theorem dX8_read_20 : decode cX8_read 20 = .ok (.istore_n 1, 1) := by decide +kernel
theorem dX8_read_21 : decode cX8_read 21 = .ok (.iload_n 1, 1) := by decide +kernel
theorem dX8_read_22 : decode cX8_read 22 = .ok (.ifCond .lt 24, 3) := by decide +kernel
theorem dX8_read_25 : decode cX8_read 25 = .ok (.aload_n 0, 1) := by decide +kernel
theorem dX8_read_26 : decode cX8_read 26 = .ok (.getfield 122, 3) := by decide +kernel
theorem dX8_read_29 : decode cX8_read 29 = .ok (.aload_n 0, 1) := by decide +kernel
theorem dX8_read_30 : decode cX8_read 30 = .ok (.getfield 119, 3) := by decide +kernel
theorem dX8_read_33 : decode cX8_read 33 = .ok (.if_icmp .ge 13, 3) := by decide +kernel
theorem dX8_read_36 : decode cX8_read 36 = .ok (.aload_n 0, 1) := by decide +kernel
theorem dX8_read_37 : decode cX8_read 37 = .ok (.aload_n 0, 1) := by decide +kernel
theorem dX8_read_38 : decode cX8_read 38 = .ok (.getfield 122, 3) := by decide +kernel
theorem dX8_read_41 : decode cX8_read 41 = .ok (.putfield 132, 3) := by decide +kernel
theorem dX8_read_44 : decode cX8_read 44 = .ok (.iconst (-1), 1) := by decide +kernel
theorem dX8_read_45 : decode cX8_read 45 = .ok (.istore_n 1, 1) := by decide +kernel
theorem dX8_read_46 : decode cX8_read 46 = .ok (.aload_n 0, 1) := by decide +kernel
theorem dX8_read_47 : decode cX8_read 47 = .ok (.iconst 0, 1) := by decide +kernel
theorem dX8_read_48 : decode cX8_read 48 = .ok (.putfield 119, 3) := by decide +kernel
theorem dX8_read_51 : decode cX8_read 51 = .ok (.iload_n 1, 1) := by decide +kernel
theorem dX8_read_52 : decode cX8_read 52 = .ok (.ifCond .ge 54, 3) := by decide +kernel
theorem dX8_read_55 : decode cX8_read 55 = .ok (.aload_n 0, 1) := by decide +kernel
theorem dX8_read_56 : decode cX8_read 56 = .ok (.aload_n 0, 1) := by decide +kernel
theorem dX8_read_57 : decode cX8_read 57 = .ok (.getfield 151, 3) := by decide +kernel
theorem dX8_read_60 : decode cX8_read 60 = .ok (.putfield 169, 3) := by decide +kernel
theorem dX8_read_63 : decode cX8_read 63 = .ok (.iconst 0, 1) := by decide +kernel
theorem dX8_read_64 : decode cX8_read 64 = .ok (.istore_n 2, 1) := by decide +kernel
theorem dX8_read_65 : decode cX8_read 65 = .ok (.iload_n 2, 1) := by decide +kernel
theorem dX8_read_66 : decode cX8_read 66 = .ok (.aload_n 0, 1) := by decide +kernel
theorem dX8_read_67 : decode cX8_read 67 = .ok (.getfield 151, 3) := by decide +kernel
theorem dX8_read_70 : decode cX8_read 70 = .ok (.if_icmp .ge 28, 3) := by decide +kernel
theorem dX8_read_73 : decode cX8_read 73 = .ok (.aload_n 0, 1) := by decide +kernel
theorem dX8_read_74 : decode cX8_read 74 = .ok (.getfield 62, 3) := by decide +kernel
theorem dX8_read_77 : decode cX8_read 77 = .ok (.iload_n 2, 1) := by decide +kernel
theorem dX8_read_78 : decode cX8_read 78 = .ok (.aload_n 0, 1) := by decide +kernel
theorem dX8_read_79 : decode cX8_read 79 = .ok (.getfield 59, 3) := by decide +kernel
theorem dX8_read_82 : decode cX8_read 82 = .ok (.aload_n 0, 1) := by decide +kernel
theorem dX8_read_83 : decode cX8_read 83 = .ok (.getfield 151, 3) := by decide +kernel
theorem dX8_read_86 : decode cX8_read 86 = .ok (.iconst 1, 1) := by decide +kernel
theorem dX8_read_87 : decode cX8_read 87 = .ok (.isub, 1) := by decide +kernel
theorem dX8_read_88 : decode cX8_read 88 = .ok (.iload_n 2, 1) := by decide +kernel
theorem dX8_read_89 : decode cX8_read 89 = .ok (.isub, 1) := by decide +kernel
theorem dX8_read_90 : decode cX8_read 90 = .ok (.iaload, 1) := by decide +kernel
theorem dX8_read_91 : decode cX8_read 91 = .ok (.iastore, 1) := by decide +kernel
theorem dX8_read_92 : decode cX8_read 92 = .ok (.iinc 2 1, 3) := by decide +kernel
theorem dX8_read_95 : decode cX8_read 95 = .ok (.goto (-30), 3) := by decide +kernel
theorem dX8_read_98 : decode cX8_read 98 = .ok (.bipush (-100), 2) := by decide +kernel
theorem dX8_read_100 : decode cX8_read 100 = .ok (.aload_n 0, 1) := by decide +kernel
theorem dX8_read_101 : decode cX8_read 101 = .ok (.getfield 132, 3) := by decide +kernel
theorem dX8_read_104 : decode cX8_read 104 = .ok (.isub, 1) := by decide +kernel
theorem dX8_read_105 : decode cX8_read 105 = .ok (.ireturn, 1) := by decide +kernel
theorem dX8_read_106 : decode cX8_read 106 = .ok (.aload_n 0, 1) := by decide +kernel
theorem dX8_read_107 : decode cX8_read 107 = .ok (.getfield 77, 3) := by decide +kernel
theorem dX8_read_110 : decode cX8_read 110 = .ok (.aload_n 0, 1) := by decide +kernel
theorem dX8_read_111 : decode cX8_read 111 = .ok (.getfield 139, 3) := by decide +kernel
theorem dX8_read_114 : decode cX8_read 114 = .ok (.iadd, 1) := by decide +kernel
theorem dX8_read_115 : decode cX8_read 115 = .ok (.bipush 24, 2) := by decide +kernel
theorem dX8_read_117 : decode cX8_read 117 = .ok (.if_icmp .gt 7, 3) := by decide +kernel
theorem dX8_read_120 : decode cX8_read 120 = .ok (.iconst 1, 1) := by decide +kernel
theorem dX8_read_121 : decode cX8_read 121 = .ok (.goto 4, 3) := by decide +kernel
theorem dX8_read_124 : decode cX8_read 124 = .ok (.iconst 0, 1) := by decide +kernel
theorem dX8_read_125 : decode cX8_read 125 = .ok (.istore_n 2, 1) := by decide +kernel
theorem dX8_read_126 : decode cX8_read 126 = .ok (.iconst 0, 1) := by decide +kernel
theorem dX8_read_127 : decode cX8_read 127 = .ok (.istore_n 3, 1) := by decide +kernel
theorem dX8_read_128 : decode cX8_read 128 = .ok (.iload_n 3, 1) := by decide +kernel
theorem dX8_read_129 : decode cX8_read 129 = .ok (.aload_n 0, 1) := by decide +kernel
theorem dX8_read_130 : decode cX8_read 130 = .ok (.getfield 139, 3) := by decide +kernel
theorem dX8_read_133 : decode cX8_read 133 = .ok (.if_icmp .ge 27, 3) := by decide +kernel
theorem dX8_read_136 : decode cX8_read 136 = .ok (.aload_n 0, 1) := by decide +kernel
theorem dX8_read_137 : decode cX8_read 137 = .ok (.getfield 27, 3) := by decide +kernel
theorem dX8_read_140 : decode cX8_read 140 = .ok (.aload_n 0, 1) := by decide +kernel
theorem dX8_read_141 : decode cX8_read 141 = .ok (.getfield 77, 3) := by decide +kernel
theorem dX8_read_144 : decode cX8_read 144 = .ok (.iload_n 3, 1) := by decide +kernel
theorem dX8_read_145 : decode cX8_read 145 = .ok (.iadd, 1) := by decide +kernel
theorem dX8_read_146 : decode cX8_read 146 = .ok (.iaload, 1) := by decide +kernel
theorem dX8_read_147 : decode cX8_read 147 = .ok (.bipush 40, 2) := by decide +kernel
theorem dX8_read_149 : decode cX8_read 149 = .ok (.if_icmp .le 5, 3) := by decide +kernel
theorem dX8_read_152 : decode cX8_read 152 = .ok (.iconst 0, 1) := by decide +kernel
theorem dX8_read_153 : decode cX8_read 153 = .ok (.istore_n 2, 1) := by decide +kernel
theorem dX8_read_154 : decode cX8_read 154 = .ok (.iinc 3 1, 3) := by decide +kernel
theorem dX8_read_157 : decode cX8_read 157 = .ok (.goto (-29), 3) := by decide +kernel
theorem dX8_read_160 : decode cX8_read 160 = .ok (.iload_n 2, 1) := by decide +kernel
theorem dX8_read_161 : decode cX8_read 161 = .ok (.ifCond .ne 6, 3) := by decide +kernel
theorem dX8_read_164 : decode cX8_read 164 = .ok (.bipush (-4), 2) := by decide +kernel
theorem dX8_read_166 : decode cX8_read 166 = .ok (.ireturn, 1) := by decide +kernel
theorem dX8_read_167 : decode cX8_read 167 = .ok (.aload_n 0, 1) := by decide +kernel
theorem dX8_read_168 : decode cX8_read 168 = .ok (.dup, 1) := by decide +kernel
theorem dX8_read_169 : decode cX8_read 169 = .ok (.getfield 77, 3) := by decide +kernel
theorem dX8_read_172 : decode cX8_read 172 = .ok (.aload_n 0, 1) := by decide +kernel
theorem dX8_read_173 : decode cX8_read 173 = .ok (.getfield 139, 3) := by decide +kernel
theorem dX8_read_176 : decode cX8_read 176 = .ok (.iadd, 1) := by decide +kernel
theorem dX8_read_177 : decode cX8_read 177 = .ok (.putfield 77, 3) := by decide +kernel
theorem dX8_read_180 : decode cX8_read 180 = .ok (.iload_n 1, 1) := by decide +kernel
theorem dX8_read_181 : decode cX8_read 181 = .ok (.ireturn, 1) := by decide +kernel
theorem dX8_way_0 : decode cX8_way 0 = .ok (.iload_n 1, 1) := by decide +kernel
theorem dX8_way_1 : decode cX8_way 1 = .ok (.iconst (-1), 1) := by decide +kernel
theorem dX8_way_2 : decode cX8_way 2 = .ok (.if_icmp .ne 8, 3) := by decide +kernel
theorem dX8_way_5 : decode cX8_way 5 = .ok (.aload_n 0, 1) := by decide +kernel
theorem dX8_way_6 : decode cX8_way 6 = .ok (.getfield 169, 3) := by decide +kernel
theorem dX8_way_9 : decode cX8_way 9 = .ok (.ireturn, 1) := by decide +kernel
theorem dX8_way_10 : decode cX8_way 10 = .ok (.iload_n 1, 1) := by decide +kernel
theorem dX8_way_11 : decode cX8_way 11 = .ok (.iconst 0, 1) := by decide +kernel
theorem dX8_way_12 : decode cX8_way 12 = .ok (.aload_n 0, 1) := by decide +kernel
theorem dX8_way_13 : decode cX8_way 13 = .ok (.getfield 169, 3) := by decide +kernel
theorem dX8_way_16 : decode cX8_way 16 = .ok (.iconst 1, 1) := by decide +kernel
theorem dX8_way_17 : decode cX8_way 17 = .ok (.isub, 1) := by decide +kernel
theorem dX8_way_18 : decode cX8_way 18 = .ok (.invokestatic 80, 3) := by decide +kernel
theorem dX8_way_21 : decode cX8_way 21 = .ok (.ifCond .eq 12, 3) := by decide +kernel
theorem dX8_way_24 : decode cX8_way 24 = .ok (.aload_n 0, 1) := by decide +kernel
theorem dX8_way_25 : decode cX8_way 25 = .ok (.getfield 62, 3) := by decide +kernel
theorem dX8_way_28 : decode cX8_way 28 = .ok (.iload_n 1, 1) := by decide +kernel
theorem dX8_way_29 : decode cX8_way 29 = .ok (.iaload, 1) := by decide +kernel
theorem dX8_way_30 : decode cX8_way 30 = .ok (.goto 4, 3) := by decide +kernel
theorem dX8_way_33 : decode cX8_way 33 = .ok (.iconst (-1), 1) := by decide +kernel
theorem dX8_way_34 : decode cX8_way 34 = .ok (.ireturn, 1) := by decide +kernel
theorem dX8_of_0 : decode cX8_of 0 = .ok (.aload_n 0, 1) := by decide +kernel
theorem dX8_of_1 : decode cX8_of 1 = .ok (.iload_n 1, 1) := by decide +kernel
theorem dX8_of_2 : decode cX8_of 2 = .ok (.invokevirtual 109, 3) := by decide +kernel
theorem dX8_of_5 : decode cX8_of 5 = .ok (.ifCond .ne 5, 3) := by decide +kernel
theorem dX8_of_8 : decode cX8_of 8 = .ok (.iconst (-1), 1) := by decide +kernel
theorem dX8_of_9 : decode cX8_of 9 = .ok (.ireturn, 1) := by decide +kernel
theorem dX8_of_10 : decode cX8_of 10 = .ok (.iload_n 2, 1) := by decide +kernel
theorem dX8_of_11 : decode cX8_of 11 = .ok (.tableswitch 90 0 6 #[41, 48, 55, 62, 69, 76, 83], 41) := by decide +kernel
theorem dX8_of_52 : decode cX8_of 52 = .ok (.aload_n 0, 1) := by decide +kernel
theorem dX8_of_53 : decode cX8_of 53 = .ok (.getfield 9, 3) := by decide +kernel
theorem dX8_of_56 : decode cX8_of 56 = .ok (.iload_n 1, 1) := by decide +kernel
theorem dX8_of_57 : decode cX8_of 57 = .ok (.iaload, 1) := by decide +kernel
theorem dX8_of_58 : decode cX8_of 58 = .ok (.ireturn, 1) := by decide +kernel
theorem dX8_of_59 : decode cX8_of 59 = .ok (.aload_n 0, 1) := by decide +kernel
theorem dX8_of_60 : decode cX8_of 60 = .ok (.getfield 15, 3) := by decide +kernel
theorem dX8_of_63 : decode cX8_of 63 = .ok (.iload_n 1, 1) := by decide +kernel
theorem dX8_of_64 : decode cX8_of 64 = .ok (.iaload, 1) := by decide +kernel
theorem dX8_of_65 : decode cX8_of 65 = .ok (.ireturn, 1) := by decide +kernel
theorem dX8_of_66 : decode cX8_of 66 = .ok (.aload_n 0, 1) := by decide +kernel
theorem dX8_of_67 : decode cX8_of 67 = .ok (.getfield 18, 3) := by decide +kernel
theorem dX8_of_70 : decode cX8_of 70 = .ok (.iload_n 1, 1) := by decide +kernel
theorem dX8_of_71 : decode cX8_of 71 = .ok (.iaload, 1) := by decide +kernel
theorem dX8_of_72 : decode cX8_of 72 = .ok (.ireturn, 1) := by decide +kernel
theorem dX8_of_73 : decode cX8_of 73 = .ok (.aload_n 0, 1) := by decide +kernel
theorem dX8_of_74 : decode cX8_of 74 = .ok (.getfield 21, 3) := by decide +kernel
theorem dX8_of_77 : decode cX8_of 77 = .ok (.iload_n 1, 1) := by decide +kernel
theorem dX8_of_78 : decode cX8_of 78 = .ok (.iaload, 1) := by decide +kernel
theorem dX8_of_79 : decode cX8_of 79 = .ok (.ireturn, 1) := by decide +kernel
theorem dX8_of_80 : decode cX8_of 80 = .ok (.aload_n 0, 1) := by decide +kernel
theorem dX8_of_81 : decode cX8_of 81 = .ok (.getfield 27, 3) := by decide +kernel
theorem dX8_of_84 : decode cX8_of 84 = .ok (.iload_n 1, 1) := by decide +kernel
theorem dX8_of_85 : decode cX8_of 85 = .ok (.iaload, 1) := by decide +kernel
theorem dX8_of_86 : decode cX8_of 86 = .ok (.ireturn, 1) := by decide +kernel
theorem dX8_of_87 : decode cX8_of 87 = .ok (.aload_n 0, 1) := by decide +kernel
theorem dX8_of_88 : decode cX8_of 88 = .ok (.getfield 30, 3) := by decide +kernel
theorem dX8_of_91 : decode cX8_of 91 = .ok (.iload_n 1, 1) := by decide +kernel
theorem dX8_of_92 : decode cX8_of 92 = .ok (.iaload, 1) := by decide +kernel
theorem dX8_of_93 : decode cX8_of 93 = .ok (.ireturn, 1) := by decide +kernel
theorem dX8_of_94 : decode cX8_of 94 = .ok (.aload_n 0, 1) := by decide +kernel
theorem dX8_of_95 : decode cX8_of 95 = .ok (.getfield 24, 3) := by decide +kernel
theorem dX8_of_98 : decode cX8_of 98 = .ok (.iload_n 1, 1) := by decide +kernel
theorem dX8_of_99 : decode cX8_of 99 = .ok (.iaload, 1) := by decide +kernel
theorem dX8_of_100 : decode cX8_of 100 = .ok (.ireturn, 1) := by decide +kernel
theorem dX8_of_101 : decode cX8_of 101 = .ok (.iconst (-1), 1) := by decide +kernel
theorem dX8_of_102 : decode cX8_of 102 = .ok (.ireturn, 1) := by decide +kernel
theorem dX8_taken_0 : decode cX8_taken 0 = .ok (.aload_n 0, 1) := by decide +kernel
theorem dX8_taken_1 : decode cX8_taken 1 = .ok (.iload_n 1, 1) := by decide +kernel
theorem dX8_taken_2 : decode cX8_taken 2 = .ok (.invokevirtual 109, 3) := by decide +kernel
theorem dX8_taken_5 : decode cX8_taken 5 = .ok (.ifCond .eq 13, 3) := by decide +kernel
theorem dX8_taken_8 : decode cX8_taken 8 = .ok (.iload_n 2, 1) := by decide +kernel
theorem dX8_taken_9 : decode cX8_taken 9 = .ok (.iconst 0, 1) := by decide +kernel
theorem dX8_taken_10 : decode cX8_taken 10 = .ok (.bipush 7, 2) := by decide +kernel
theorem dX8_taken_12 : decode cX8_taken 12 = .ok (.invokestatic 80, 3) := by decide +kernel
theorem dX8_taken_15 : decode cX8_taken 15 = .ok (.ifCond .ne 5, 3) := by decide +kernel
theorem dX8_taken_18 : decode cX8_taken 18 = .ok (.iconst (-1), 1) := by decide +kernel
theorem dX8_taken_19 : decode cX8_taken 19 = .ok (.ireturn, 1) := by decide +kernel
theorem dX8_taken_20 : decode cX8_taken 20 = .ok (.aload_n 0, 1) := by decide +kernel
theorem dX8_taken_21 : decode cX8_taken 21 = .ok (.getfield 9, 3) := by decide +kernel
theorem dX8_taken_24 : decode cX8_taken 24 = .ok (.iload_n 1, 1) := by decide +kernel
theorem dX8_taken_25 : decode cX8_taken 25 = .ok (.iaload, 1) := by decide +kernel
theorem dX8_taken_26 : decode cX8_taken 26 = .ok (.iload_n 2, 1) := by decide +kernel
theorem dX8_taken_27 : decode cX8_taken 27 = .ok (.if_icmp .eq 35, 3) := by decide +kernel
theorem dX8_taken_30 : decode cX8_taken 30 = .ok (.iload_n 2, 1) := by decide +kernel
theorem dX8_taken_31 : decode cX8_taken 31 = .ok (.iconst 2, 1) := by decide +kernel
theorem dX8_taken_32 : decode cX8_taken 32 = .ok (.if_icmp .ne 14, 3) := by decide +kernel
theorem dX8_taken_35 : decode cX8_taken 35 = .ok (.aload_n 0, 1) := by decide +kernel
theorem dX8_taken_36 : decode cX8_taken 36 = .ok (.getfield 9, 3) := by decide +kernel
theorem dX8_taken_39 : decode cX8_taken 39 = .ok (.iload_n 1, 1) := by decide +kernel
theorem dX8_taken_40 : decode cX8_taken 40 = .ok (.iaload, 1) := by decide +kernel
theorem dX8_taken_41 : decode cX8_taken 41 = .ok (.bipush 6, 2) := by decide +kernel
theorem dX8_taken_43 : decode cX8_taken 43 = .ok (.if_icmp .eq 19, 3) := by decide +kernel
theorem dX8_taken_46 : decode cX8_taken 46 = .ok (.iload_n 2, 1) := by decide +kernel
theorem dX8_taken_47 : decode cX8_taken 47 = .ok (.iconst 3, 1) := by decide +kernel
theorem dX8_taken_48 : decode cX8_taken 48 = .ok (.if_icmp .ne 18, 3) := by decide +kernel
theorem dX8_taken_51 : decode cX8_taken 51 = .ok (.aload_n 0, 1) := by decide +kernel
theorem dX8_taken_52 : decode cX8_taken 52 = .ok (.getfield 9, 3) := by decide +kernel
theorem dX8_taken_55 : decode cX8_taken 55 = .ok (.iload_n 1, 1) := by decide +kernel
theorem dX8_taken_56 : decode cX8_taken 56 = .ok (.iaload, 1) := by decide +kernel
theorem dX8_taken_57 : decode cX8_taken 57 = .ok (.bipush 7, 2) := by decide +kernel
theorem dX8_taken_59 : decode cX8_taken 59 = .ok (.if_icmp .ne 7, 3) := by decide +kernel
theorem dX8_taken_62 : decode cX8_taken 62 = .ok (.iconst 1, 1) := by decide +kernel
theorem dX8_taken_63 : decode cX8_taken 63 = .ok (.goto 4, 3) := by decide +kernel
theorem dX8_taken_66 : decode cX8_taken 66 = .ok (.iconst 0, 1) := by decide +kernel
theorem dX8_taken_67 : decode cX8_taken 67 = .ok (.istore_n 3, 1) := by decide +kernel
theorem dX8_taken_68 : decode cX8_taken 68 = .ok (.iload_n 3, 1) := by decide +kernel
theorem dX8_taken_69 : decode cX8_taken 69 = .ok (.ifCond .eq 12, 3) := by decide +kernel
theorem dX8_taken_72 : decode cX8_taken 72 = .ok (.aload_n 0, 1) := by decide +kernel
theorem dX8_taken_73 : decode cX8_taken 73 = .ok (.getfield 27, 3) := by decide +kernel
theorem dX8_taken_76 : decode cX8_taken 76 = .ok (.iload_n 1, 1) := by decide +kernel
theorem dX8_taken_77 : decode cX8_taken 77 = .ok (.iaload, 1) := by decide +kernel
theorem dX8_taken_78 : decode cX8_taken 78 = .ok (.goto 5, 3) := by decide +kernel
theorem dX8_taken_81 : decode cX8_taken 81 = .ok (.bipush (-12), 2) := by decide +kernel
theorem dX8_taken_83 : decode cX8_taken 83 = .ok (.ireturn, 1) := by decide +kernel
theorem dX8_writes_0 : decode cX8_writes 0 = .ok (.aload_n 0, 1) := by decide +kernel
theorem dX8_writes_1 : decode cX8_writes 1 = .ok (.getfield 65, 3) := by decide +kernel
theorem dX8_writes_4 : decode cX8_writes 4 = .ok (.aload_n 0, 1) := by decide +kernel
theorem dX8_writes_5 : decode cX8_writes 5 = .ok (.dup, 1) := by decide +kernel
theorem dX8_writes_6 : decode cX8_writes 6 = .ok (.getfield 172, 3) := by decide +kernel
theorem dX8_writes_9 : decode cX8_writes 9 = .ok (.dup_x1, 1) := by decide +kernel
theorem dX8_writes_10 : decode cX8_writes 10 = .ok (.iconst 1, 1) := by decide +kernel
theorem dX8_writes_11 : decode cX8_writes 11 = .ok (.iadd, 1) := by decide +kernel
theorem dX8_writes_12 : decode cX8_writes 12 = .ok (.putfield 172, 3) := by decide +kernel
theorem dX8_writes_15 : decode cX8_writes 15 = .ok (.iload_n 1, 1) := by decide +kernel
theorem dX8_writes_16 : decode cX8_writes 16 = .ok (.iastore, 1) := by decide +kernel
theorem dX8_writes_17 : decode cX8_writes 17 = .ok (.return_, 1) := by decide +kernel
theorem dX8_writesNumber_0 : decode cX8_writesNumber 0 = .ok (.iload_n 1, 1) := by decide +kernel
theorem dX8_writesNumber_1 : decode cX8_writesNumber 1 = .ok (.bipush 9, 2) := by decide +kernel
theorem dX8_writesNumber_3 : decode cX8_writesNumber 3 = .ok (.if_icmp .le 14, 3) := by decide +kernel
theorem dX8_writesNumber_6 : decode cX8_writesNumber 6 = .ok (.aload_n 0, 1) := by decide +kernel
theorem dX8_writesNumber_7 : decode cX8_writesNumber 7 = .ok (.bipush 48, 2) := by decide +kernel
theorem dX8_writesNumber_9 : decode cX8_writesNumber 9 = .ok (.iload_n 1, 1) := by decide +kernel
theorem dX8_writesNumber_10 : decode cX8_writesNumber 10 = .ok (.bipush 10, 2) := by decide +kernel
theorem dX8_writesNumber_12 : decode cX8_writesNumber 12 = .ok (.idiv, 1) := by decide +kernel
theorem dX8_writesNumber_13 : decode cX8_writesNumber 13 = .ok (.iadd, 1) := by decide +kernel
theorem dX8_writesNumber_14 : decode cX8_writesNumber 14 = .ok (.invokevirtual 175, 3) := by decide +kernel
theorem dX8_writesNumber_17 : decode cX8_writesNumber 17 = .ok (.aload_n 0, 1) := by decide +kernel
theorem dX8_writesNumber_18 : decode cX8_writesNumber 18 = .ok (.bipush 48, 2) := by decide +kernel
theorem dX8_writesNumber_20 : decode cX8_writesNumber 20 = .ok (.iload_n 1, 1) := by decide +kernel
theorem dX8_writesNumber_21 : decode cX8_writesNumber 21 = .ok (.bipush 10, 2) := by decide +kernel
theorem dX8_writesNumber_23 : decode cX8_writesNumber 23 = .ok (.irem, 1) := by decide +kernel
theorem dX8_writesNumber_24 : decode cX8_writesNumber 24 = .ok (.iadd, 1) := by decide +kernel
theorem dX8_writesNumber_25 : decode cX8_writesNumber 25 = .ok (.invokevirtual 175, 3) := by decide +kernel
theorem dX8_writesNumber_28 : decode cX8_writesNumber 28 = .ok (.return_, 1) := by decide +kernel
theorem dX8_letterOf_0 : decode cX8_letterOf 0 = .ok (.iload_n 0, 1) := by decide +kernel
theorem dX8_letterOf_1 : decode cX8_letterOf 1 = .ok (.tableswitch 50 2 6 #[35, 41, 44, 47, 38], 35) := by decide +kernel
theorem dX8_letterOf_36 : decode cX8_letterOf 36 = .ok (.bipush 63, 2) := by decide +kernel
theorem dX8_letterOf_38 : decode cX8_letterOf 38 = .ok (.ireturn, 1) := by decide +kernel
theorem dX8_letterOf_39 : decode cX8_letterOf 39 = .ok (.bipush 94, 2) := by decide +kernel
theorem dX8_letterOf_41 : decode cX8_letterOf 41 = .ok (.ireturn, 1) := by decide +kernel
theorem dX8_letterOf_42 : decode cX8_letterOf 42 = .ok (.bipush 47, 2) := by decide +kernel
theorem dX8_letterOf_44 : decode cX8_letterOf 44 = .ok (.ireturn, 1) := by decide +kernel
theorem dX8_letterOf_45 : decode cX8_letterOf 45 = .ok (.bipush 43, 2) := by decide +kernel
theorem dX8_letterOf_47 : decode cX8_letterOf 47 = .ok (.ireturn, 1) := by decide +kernel
theorem dX8_letterOf_48 : decode cX8_letterOf 48 = .ok (.bipush 60, 2) := by decide +kernel
theorem dX8_letterOf_50 : decode cX8_letterOf 50 = .ok (.ireturn, 1) := by decide +kernel
theorem dX8_letterOf_51 : decode cX8_letterOf 51 = .ok (.bipush 33, 2) := by decide +kernel
theorem dX8_letterOf_53 : decode cX8_letterOf 53 = .ok (.ireturn, 1) := by decide +kernel
theorem dX8_spells_0 : decode cX8_spells 0 = .ok (.aload_n 0, 1) := by decide +kernel
theorem dX8_spells_1 : decode cX8_spells 1 = .ok (.getfield 9, 3) := by decide +kernel
theorem dX8_spells_4 : decode cX8_spells 4 = .ok (.iload_n 1, 1) := by decide +kernel
theorem dX8_spells_5 : decode cX8_spells 5 = .ok (.iaload, 1) := by decide +kernel
theorem dX8_spells_6 : decode cX8_spells 6 = .ok (.istore_n 2, 1) := by decide +kernel
theorem dX8_spells_7 : decode cX8_spells 7 = .ok (.iload_n 2, 1) := by decide +kernel
theorem dX8_spells_8 : decode cX8_spells 8 = .ok (.ifCond .ne 14, 3) := by decide +kernel
theorem dX8_spells_11 : decode cX8_spells 11 = .ok (.aload_n 0, 1) := by decide +kernel
theorem dX8_spells_12 : decode cX8_spells 12 = .ok (.aload_n 0, 1) := by decide +kernel
theorem dX8_spells_13 : decode cX8_spells 13 = .ok (.getfield 15, 3) := by decide +kernel
theorem dX8_spells_16 : decode cX8_spells 16 = .ok (.iload_n 1, 1) := by decide +kernel
theorem dX8_spells_17 : decode cX8_spells 17 = .ok (.iaload, 1) := by decide +kernel
theorem dX8_spells_18 : decode cX8_spells 18 = .ok (.invokevirtual 179, 3) := by decide +kernel
theorem dX8_spells_21 : decode cX8_spells 21 = .ok (.return_, 1) := by decide +kernel
theorem dX8_spells_22 : decode cX8_spells 22 = .ok (.iload_n 2, 1) := by decide +kernel
theorem dX8_spells_23 : decode cX8_spells 23 = .ok (.iconst 1, 1) := by decide +kernel
theorem dX8_spells_24 : decode cX8_spells 24 = .ok (.if_icmp .ne 10, 3) := by decide +kernel
theorem dX8_spells_27 : decode cX8_spells 27 = .ok (.aload_n 0, 1) := by decide +kernel
theorem dX8_spells_28 : decode cX8_spells 28 = .ok (.bipush 45, 2) := by decide +kernel
theorem dX8_spells_30 : decode cX8_spells 30 = .ok (.invokevirtual 175, 3) := by decide +kernel
theorem dX8_spells_33 : decode cX8_spells 33 = .ok (.return_, 1) := by decide +kernel
theorem dX8_spells_34 : decode cX8_spells 34 = .ok (.aload_n 0, 1) := by decide +kernel
theorem dX8_spells_35 : decode cX8_spells 35 = .ok (.iload_n 2, 1) := by decide +kernel
theorem dX8_spells_36 : decode cX8_spells 36 = .ok (.invokestatic 182, 3) := by decide +kernel
theorem dX8_spells_39 : decode cX8_spells 39 = .ok (.invokevirtual 175, 3) := by decide +kernel
theorem dX8_spells_42 : decode cX8_spells 42 = .ok (.iconst 0, 1) := by decide +kernel
theorem dX8_spells_43 : decode cX8_spells 43 = .ok (.istore_n 3, 1) := by decide +kernel
theorem dX8_spells_44 : decode cX8_spells 44 = .ok (.iload_n 3, 1) := by decide +kernel
theorem dX8_spells_45 : decode cX8_spells 45 = .ok (.bipush 6, 2) := by decide +kernel
theorem dX8_spells_47 : decode cX8_spells 47 = .ok (.if_icmp .ge 33, 3) := by decide +kernel
theorem dX8_spells_50 : decode cX8_spells 50 = .ok (.iload_n 2, 1) := by decide +kernel
theorem dX8_spells_51 : decode cX8_spells 51 = .ok (.invokestatic 157, 3) := by decide +kernel
theorem dX8_spells_54 : decode cX8_spells 54 = .ok (.ifCond .eq 26, 3) := by decide +kernel
theorem dX8_spells_57 : decode cX8_spells 57 = .ok (.aload_n 0, 1) := by decide +kernel
theorem dX8_spells_58 : decode cX8_spells 58 = .ok (.bipush 48, 2) := by decide +kernel
theorem dX8_spells_60 : decode cX8_spells 60 = .ok (.aload_n 0, 1) := by decide +kernel
theorem dX8_spells_61 : decode cX8_spells 61 = .ok (.getfield 24, 3) := by decide +kernel
theorem dX8_spells_64 : decode cX8_spells 64 = .ok (.iload_n 1, 1) := by decide +kernel
theorem dX8_spells_65 : decode cX8_spells 65 = .ok (.iaload, 1) := by decide +kernel
theorem dX8_spells_66 : decode cX8_spells 66 = .ok (.iload_n 3, 1) := by decide +kernel
theorem dX8_spells_67 : decode cX8_spells 67 = .ok (.invokestatic 85, 3) := by decide +kernel
theorem dX8_spells_70 : decode cX8_spells 70 = .ok (.iadd, 1) := by decide +kernel
theorem dX8_spells_71 : decode cX8_spells 71 = .ok (.invokevirtual 175, 3) := by decide +kernel
theorem dX8_spells_74 : decode cX8_spells 74 = .ok (.iinc 3 1, 3) := by decide +kernel
theorem dX8_spells_77 : decode cX8_spells 77 = .ok (.goto (-33), 3) := by decide +kernel
theorem dX8_spells_80 : decode cX8_spells 80 = .ok (.iload_n 2, 1) := by decide +kernel
theorem dX8_spells_81 : decode cX8_spells 81 = .ok (.bipush 6, 2) := by decide +kernel
theorem dX8_spells_83 : decode cX8_spells 83 = .ok (.if_icmp .ne 19, 3) := by decide +kernel
theorem dX8_spells_86 : decode cX8_spells 86 = .ok (.aload_n 0, 1) := by decide +kernel
theorem dX8_spells_87 : decode cX8_spells 87 = .ok (.bipush 58, 2) := by decide +kernel
theorem dX8_spells_89 : decode cX8_spells 89 = .ok (.invokevirtual 175, 3) := by decide +kernel
theorem dX8_spells_92 : decode cX8_spells 92 = .ok (.aload_n 0, 1) := by decide +kernel
theorem dX8_spells_93 : decode cX8_spells 93 = .ok (.aload_n 0, 1) := by decide +kernel
theorem dX8_spells_94 : decode cX8_spells 94 = .ok (.getfield 15, 3) := by decide +kernel
theorem dX8_spells_97 : decode cX8_spells 97 = .ok (.iload_n 1, 1) := by decide +kernel
theorem dX8_spells_98 : decode cX8_spells 98 = .ok (.iaload, 1) := by decide +kernel
theorem dX8_spells_99 : decode cX8_spells 99 = .ok (.invokevirtual 179, 3) := by decide +kernel
theorem dX8_spells_102 : decode cX8_spells 102 = .ok (.aload_n 0, 1) := by decide +kernel
theorem dX8_spells_103 : decode cX8_spells 103 = .ok (.bipush 40, 2) := by decide +kernel
theorem dX8_spells_105 : decode cX8_spells 105 = .ok (.invokevirtual 175, 3) := by decide +kernel
theorem dX8_spells_108 : decode cX8_spells 108 = .ok (.aload_n 0, 1) := by decide +kernel
theorem dX8_spells_109 : decode cX8_spells 109 = .ok (.aload_n 0, 1) := by decide +kernel
theorem dX8_spells_110 : decode cX8_spells 110 = .ok (.getfield 18, 3) := by decide +kernel
theorem dX8_spells_113 : decode cX8_spells 113 = .ok (.iload_n 1, 1) := by decide +kernel
theorem dX8_spells_114 : decode cX8_spells 114 = .ok (.iaload, 1) := by decide +kernel
theorem dX8_spells_115 : decode cX8_spells 115 = .ok (.invokevirtual 185, 3) := by decide +kernel
theorem dX8_spells_118 : decode cX8_spells 118 = .ok (.iload_n 2, 1) := by decide +kernel
theorem dX8_spells_119 : decode cX8_spells 119 = .ok (.invokestatic 116, 3) := by decide +kernel
theorem dX8_spells_122 : decode cX8_spells 122 = .ok (.ifCond .eq 19, 3) := by decide +kernel
theorem dX8_spells_125 : decode cX8_spells 125 = .ok (.aload_n 0, 1) := by decide +kernel
theorem dX8_spells_126 : decode cX8_spells 126 = .ok (.bipush 44, 2) := by decide +kernel
theorem dX8_spells_128 : decode cX8_spells 128 = .ok (.invokevirtual 175, 3) := by decide +kernel
theorem dX8_spells_131 : decode cX8_spells 131 = .ok (.aload_n 0, 1) := by decide +kernel
theorem dX8_spells_132 : decode cX8_spells 132 = .ok (.aload_n 0, 1) := by decide +kernel
theorem dX8_spells_133 : decode cX8_spells 133 = .ok (.getfield 21, 3) := by decide +kernel
theorem dX8_spells_136 : decode cX8_spells 136 = .ok (.iload_n 1, 1) := by decide +kernel
theorem dX8_spells_137 : decode cX8_spells 137 = .ok (.iaload, 1) := by decide +kernel
theorem dX8_spells_138 : decode cX8_spells 138 = .ok (.invokevirtual 185, 3) := by decide +kernel
theorem dX8_spells_141 : decode cX8_spells 141 = .ok (.aload_n 0, 1) := by decide +kernel
theorem dX8_spells_142 : decode cX8_spells 142 = .ok (.bipush 41, 2) := by decide +kernel
theorem dX8_spells_144 : decode cX8_spells 144 = .ok (.invokevirtual 175, 3) := by decide +kernel
theorem dX8_spells_147 : decode cX8_spells 147 = .ok (.return_, 1) := by decide +kernel
theorem dX8_spell_0 : decode cX8_spell 0 = .ok (.aload_n 0, 1) := by decide +kernel
theorem dX8_spell_1 : decode cX8_spell 1 = .ok (.iload_n 1, 1) := by decide +kernel
theorem dX8_spell_2 : decode cX8_spell 2 = .ok (.invokevirtual 109, 3) := by decide +kernel
theorem dX8_spell_5 : decode cX8_spell 5 = .ok (.ifCond .ne 5, 3) := by decide +kernel
end
section
theorem dX8_spell_8 : decode cX8_spell 8 = .ok (.iconst (-1), 1) := by decide +kernel
theorem dX8_spell_9 : decode cX8_spell 9 = .ok (.ireturn, 1) := by decide +kernel
theorem dX8_spell_10 : decode cX8_spell 10 = .ok (.aload_n 0, 1) := by decide +kernel
theorem dX8_spell_11 : decode cX8_spell 11 = .ok (.iconst 0, 1) := by decide +kernel
theorem dX8_spell_12 : decode cX8_spell 12 = .ok (.putfield 172, 3) := by decide +kernel
theorem dX8_spell_15 : decode cX8_spell 15 = .ok (.aload_n 0, 1) := by decide +kernel
theorem dX8_spell_16 : decode cX8_spell 16 = .ok (.iload_n 1, 1) := by decide +kernel
theorem dX8_spell_17 : decode cX8_spell 17 = .ok (.invokevirtual 185, 3) := by decide +kernel
theorem dX8_spell_20 : decode cX8_spell 20 = .ok (.aload_n 0, 1) := by decide +kernel
theorem dX8_spell_21 : decode cX8_spell 21 = .ok (.getfield 172, 3) := by decide +kernel
theorem dX8_spell_24 : decode cX8_spell 24 = .ok (.ireturn, 1) := by decide +kernel
theorem dX8_paper_0 : decode cX8_paper 0 = .ok (.iload_n 1, 1) := by decide +kernel
theorem dX8_paper_1 : decode cX8_paper 1 = .ok (.iconst 0, 1) := by decide +kernel
theorem dX8_paper_2 : decode cX8_paper 2 = .ok (.aload_n 0, 1) := by decide +kernel
theorem dX8_paper_3 : decode cX8_paper 3 = .ok (.getfield 172, 3) := by decide +kernel
theorem dX8_paper_6 : decode cX8_paper 6 = .ok (.iconst 1, 1) := by decide +kernel
theorem dX8_paper_7 : decode cX8_paper 7 = .ok (.isub, 1) := by decide +kernel
theorem dX8_paper_8 : decode cX8_paper 8 = .ok (.invokestatic 80, 3) := by decide +kernel
theorem dX8_paper_11 : decode cX8_paper 11 = .ok (.ifCond .eq 12, 3) := by decide +kernel
theorem dX8_paper_14 : decode cX8_paper 14 = .ok (.aload_n 0, 1) := by decide +kernel
theorem dX8_paper_15 : decode cX8_paper 15 = .ok (.getfield 65, 3) := by decide +kernel
theorem dX8_paper_18 : decode cX8_paper 18 = .ok (.iload_n 1, 1) := by decide +kernel
theorem dX8_paper_19 : decode cX8_paper 19 = .ok (.iaload, 1) := by decide +kernel
theorem dX8_paper_20 : decode cX8_paper 20 = .ok (.goto 4, 3) := by decide +kernel
theorem dX8_paper_23 : decode cX8_paper 23 = .ok (.iconst (-1), 1) := by decide +kernel
theorem dX8_paper_24 : decode cX8_paper 24 = .ok (.ireturn, 1) := by decide +kernel
theorem dX8_said_0 : decode cX8_said 0 = .ok (.aload_n 0, 1) := by decide +kernel
theorem dX8_said_1 : decode cX8_said 1 = .ok (.getfield 9, 3) := by decide +kernel
theorem dX8_said_4 : decode cX8_said 4 = .ok (.iload_n 1, 1) := by decide +kernel
theorem dX8_said_5 : decode cX8_said 5 = .ok (.iaload, 1) := by decide +kernel
theorem dX8_said_6 : decode cX8_said 6 = .ok (.istore_n 3, 1) := by decide +kernel
theorem dX8_said_7 : decode cX8_said 7 = .ok (.iload_n 3, 1) := by decide +kernel
theorem dX8_said_8 : decode cX8_said 8 = .ok (.iconst 2, 1) := by decide +kernel
theorem dX8_said_9 : decode cX8_said 9 = .ok (.if_icmp .ne 62, 3) := by decide +kernel
theorem dX8_said_12 : decode cX8_said 12 = .ok (.aload_n 0, 1) := by decide +kernel
theorem dX8_said_13 : decode cX8_said 13 = .ok (.getfield 188, 3) := by decide +kernel
theorem dX8_said_16 : decode cX8_said 16 = .ok (.istore 4, 2) := by decide +kernel
theorem dX8_said_18 : decode cX8_said 18 = .ok (.aload_n 0, 1) := by decide +kernel
theorem dX8_said_19 : decode cX8_said 19 = .ok (.dup, 1) := by decide +kernel
theorem dX8_said_20 : decode cX8_said 20 = .ok (.getfield 188, 3) := by decide +kernel
theorem dX8_said_23 : decode cX8_said 23 = .ok (.iconst 1, 1) := by decide +kernel
theorem dX8_said_24 : decode cX8_said 24 = .ok (.iadd, 1) := by decide +kernel
theorem dX8_said_25 : decode cX8_said 25 = .ok (.putfield 188, 3) := by decide +kernel
theorem dX8_said_28 : decode cX8_said 28 = .ok (.aload_n 0, 1) := by decide +kernel
theorem dX8_said_29 : decode cX8_said 29 = .ok (.aload_n 0, 1) := by decide +kernel
theorem dX8_said_30 : decode cX8_said 30 = .ok (.getfield 18, 3) := by decide +kernel
theorem dX8_said_33 : decode cX8_said 33 = .ok (.iload_n 1, 1) := by decide +kernel
theorem dX8_said_34 : decode cX8_said 34 = .ok (.iaload, 1) := by decide +kernel
theorem dX8_said_35 : decode cX8_said 35 = .ok (.iload_n 2, 1) := by decide +kernel
theorem dX8_said_36 : decode cX8_said 36 = .ok (.invokevirtual 191, 3) := by decide +kernel
theorem dX8_said_39 : decode cX8_said 39 = .ok (.istore 5, 2) := by decide +kernel
theorem dX8_said_41 : decode cX8_said 41 = .ok (.iload 4, 2) := by decide +kernel
theorem dX8_said_43 : decode cX8_said 43 = .ok (.aload_n 0, 1) := by decide +kernel
theorem dX8_said_44 : decode cX8_said 44 = .ok (.getfield 194, 3) := by decide +kernel
theorem dX8_said_47 : decode cX8_said 47 = .ok (.if_icmp .eq 16, 3) := by decide +kernel
theorem dX8_said_50 : decode cX8_said 50 = .ok (.iload_n 2, 1) := by decide +kernel
theorem dX8_said_51 : decode cX8_said 51 = .ok (.aload_n 0, 1) := by decide +kernel
theorem dX8_said_52 : decode cX8_said 52 = .ok (.getfield 24, 3) := by decide +kernel
theorem dX8_said_55 : decode cX8_said 55 = .ok (.iload_n 1, 1) := by decide +kernel
theorem dX8_said_56 : decode cX8_said 56 = .ok (.iaload, 1) := by decide +kernel
theorem dX8_said_57 : decode cX8_said 57 = .ok (.invokestatic 197, 3) := by decide +kernel
theorem dX8_said_60 : decode cX8_said 60 = .ok (.ifCond .ne 8, 3) := by decide +kernel
theorem dX8_said_63 : decode cX8_said 63 = .ok (.bipush (-5), 2) := by decide +kernel
theorem dX8_said_65 : decode cX8_said 65 = .ok (.goto 5, 3) := by decide +kernel
theorem dX8_said_68 : decode cX8_said 68 = .ok (.iload 5, 2) := by decide +kernel
theorem dX8_said_70 : decode cX8_said 70 = .ok (.ireturn, 1) := by decide +kernel
theorem dX8_said_71 : decode cX8_said 71 = .ok (.iload_n 3, 1) := by decide +kernel
theorem dX8_said_72 : decode cX8_said 72 = .ok (.ifCond .ne 25, 3) := by decide +kernel
theorem dX8_said_75 : decode cX8_said 75 = .ok (.iload_n 1, 1) := by decide +kernel
theorem dX8_said_76 : decode cX8_said 76 = .ok (.aload_n 0, 1) := by decide +kernel
theorem dX8_said_77 : decode cX8_said 77 = .ok (.getfield 52, 3) := by decide +kernel
theorem dX8_said_80 : decode cX8_said 80 = .ok (.if_icmp .ne 10, 3) := by decide +kernel
theorem dX8_said_83 : decode cX8_said 83 = .ok (.aload_n 0, 1) := by decide +kernel
theorem dX8_said_84 : decode cX8_said 84 = .ok (.getfield 201, 3) := by decide +kernel
theorem dX8_said_87 : decode cX8_said 87 = .ok (.goto 9, 3) := by decide +kernel
theorem dX8_said_90 : decode cX8_said 90 = .ok (.aload_n 0, 1) := by decide +kernel
theorem dX8_said_91 : decode cX8_said 91 = .ok (.getfield 15, 3) := by decide +kernel
theorem dX8_said_94 : decode cX8_said 94 = .ok (.iload_n 1, 1) := by decide +kernel
theorem dX8_said_95 : decode cX8_said 95 = .ok (.iaload, 1) := by decide +kernel
theorem dX8_said_96 : decode cX8_said 96 = .ok (.ireturn, 1) := by decide +kernel
theorem dX8_said_97 : decode cX8_said 97 = .ok (.iload_n 3, 1) := by decide +kernel
theorem dX8_said_98 : decode cX8_said 98 = .ok (.iconst 1, 1) := by decide +kernel
theorem dX8_said_99 : decode cX8_said 99 = .ok (.if_icmp .ne 6, 3) := by decide +kernel
theorem dX8_said_102 : decode cX8_said 102 = .ok (.bipush (-5), 2) := by decide +kernel
theorem dX8_said_104 : decode cX8_said 104 = .ok (.ireturn, 1) := by decide +kernel
theorem dX8_said_105 : decode cX8_said 105 = .ok (.aload_n 0, 1) := by decide +kernel
theorem dX8_said_106 : decode cX8_said 106 = .ok (.aload_n 0, 1) := by decide +kernel
theorem dX8_said_107 : decode cX8_said 107 = .ok (.getfield 18, 3) := by decide +kernel
theorem dX8_said_110 : decode cX8_said 110 = .ok (.iload_n 1, 1) := by decide +kernel
theorem dX8_said_111 : decode cX8_said 111 = .ok (.iaload, 1) := by decide +kernel
theorem dX8_said_112 : decode cX8_said 112 = .ok (.iload_n 2, 1) := by decide +kernel
theorem dX8_said_113 : decode cX8_said 113 = .ok (.invokevirtual 191, 3) := by decide +kernel
theorem dX8_said_116 : decode cX8_said 116 = .ok (.istore 4, 2) := by decide +kernel
theorem dX8_said_118 : decode cX8_said 118 = .ok (.iload_n 3, 1) := by decide +kernel
theorem dX8_said_119 : decode cX8_said 119 = .ok (.bipush 6, 2) := by decide +kernel
theorem dX8_said_121 : decode cX8_said 121 = .ok (.if_icmp .ne 39, 3) := by decide +kernel
theorem dX8_said_124 : decode cX8_said 124 = .ok (.iload 4, 2) := by decide +kernel
theorem dX8_said_126 : decode cX8_said 126 = .ok (.aload_n 0, 1) := by decide +kernel
theorem dX8_said_127 : decode cX8_said 127 = .ok (.getfield 15, 3) := by decide +kernel
theorem dX8_said_130 : decode cX8_said 130 = .ok (.iload_n 1, 1) := by decide +kernel
theorem dX8_said_131 : decode cX8_said 131 = .ok (.iaload, 1) := by decide +kernel
theorem dX8_said_132 : decode cX8_said 132 = .ok (.if_icmp .le 25, 3) := by decide +kernel
theorem dX8_said_135 : decode cX8_said 135 = .ok (.iload_n 2, 1) := by decide +kernel
theorem dX8_said_136 : decode cX8_said 136 = .ok (.aload_n 0, 1) := by decide +kernel
theorem dX8_said_137 : decode cX8_said 137 = .ok (.getfield 24, 3) := by decide +kernel
theorem dX8_said_140 : decode cX8_said 140 = .ok (.iload_n 1, 1) := by decide +kernel
theorem dX8_said_141 : decode cX8_said 141 = .ok (.iaload, 1) := by decide +kernel
theorem dX8_said_142 : decode cX8_said 142 = .ok (.invokestatic 197, 3) := by decide +kernel
theorem dX8_said_145 : decode cX8_said 145 = .ok (.ifCond .eq 12, 3) := by decide +kernel
theorem dX8_said_148 : decode cX8_said 148 = .ok (.aload_n 0, 1) := by decide +kernel
theorem dX8_said_149 : decode cX8_said 149 = .ok (.getfield 15, 3) := by decide +kernel
theorem dX8_said_152 : decode cX8_said 152 = .ok (.iload_n 1, 1) := by decide +kernel
theorem dX8_said_153 : decode cX8_said 153 = .ok (.iaload, 1) := by decide +kernel
theorem dX8_said_154 : decode cX8_said 154 = .ok (.goto 5, 3) := by decide +kernel
theorem dX8_said_157 : decode cX8_said 157 = .ok (.iload 4, 2) := by decide +kernel
theorem dX8_said_159 : decode cX8_said 159 = .ok (.ireturn, 1) := by decide +kernel
theorem dX8_said_160 : decode cX8_said 160 = .ok (.aload_n 0, 1) := by decide +kernel
theorem dX8_said_161 : decode cX8_said 161 = .ok (.aload_n 0, 1) := by decide +kernel
theorem dX8_said_162 : decode cX8_said 162 = .ok (.getfield 21, 3) := by decide +kernel
theorem dX8_said_165 : decode cX8_said 165 = .ok (.iload_n 1, 1) := by decide +kernel
theorem dX8_said_166 : decode cX8_said 166 = .ok (.iaload, 1) := by decide +kernel
theorem dX8_said_167 : decode cX8_said 167 = .ok (.iload_n 2, 1) := by decide +kernel
theorem dX8_said_168 : decode cX8_said 168 = .ok (.invokevirtual 191, 3) := by decide +kernel
theorem dX8_said_171 : decode cX8_said 171 = .ok (.istore 5, 2) := by decide +kernel
theorem dX8_said_173 : decode cX8_said 173 = .ok (.iload_n 3, 1) := by decide +kernel
theorem dX8_said_174 : decode cX8_said 174 = .ok (.iconst 3, 1) := by decide +kernel
theorem dX8_said_175 : decode cX8_said 175 = .ok (.if_icmp .ne 18, 3) := by decide +kernel
theorem dX8_said_178 : decode cX8_said 178 = .ok (.iload 4, 2) := by decide +kernel
theorem dX8_said_180 : decode cX8_said 180 = .ok (.bipush (-5), 2) := by decide +kernel
theorem dX8_said_182 : decode cX8_said 182 = .ok (.if_icmp .ne 8, 3) := by decide +kernel
theorem dX8_said_185 : decode cX8_said 185 = .ok (.iload 5, 2) := by decide +kernel
theorem dX8_said_187 : decode cX8_said 187 = .ok (.goto 5, 3) := by decide +kernel
theorem dX8_said_190 : decode cX8_said 190 = .ok (.iload 4, 2) := by decide +kernel
theorem dX8_said_192 : decode cX8_said 192 = .ok (.ireturn, 1) := by decide +kernel
theorem dX8_said_193 : decode cX8_said 193 = .ok (.iload_n 3, 1) := by decide +kernel
theorem dX8_said_194 : decode cX8_said 194 = .ok (.bipush 7, 2) := by decide +kernel
theorem dX8_said_196 : decode cX8_said 196 = .ok (.if_icmp .ne 18, 3) := by decide +kernel
theorem dX8_said_199 : decode cX8_said 199 = .ok (.iload 5, 2) := by decide +kernel
theorem dX8_said_201 : decode cX8_said 201 = .ok (.bipush (-5), 2) := by decide +kernel
theorem dX8_said_203 : decode cX8_said 203 = .ok (.if_icmp .ne 8, 3) := by decide +kernel
theorem dX8_said_206 : decode cX8_said 206 = .ok (.iload 4, 2) := by decide +kernel
theorem dX8_said_208 : decode cX8_said 208 = .ok (.goto 5, 3) := by decide +kernel
theorem dX8_said_211 : decode cX8_said 211 = .ok (.bipush (-5), 2) := by decide +kernel
theorem dX8_said_213 : decode cX8_said 213 = .ok (.ireturn, 1) := by decide +kernel
theorem dX8_said_214 : decode cX8_said 214 = .ok (.iload 4, 2) := by decide +kernel
theorem dX8_said_216 : decode cX8_said 216 = .ok (.bipush (-5), 2) := by decide +kernel
theorem dX8_said_218 : decode cX8_said 218 = .ok (.if_icmp .eq 10, 3) := by decide +kernel
theorem dX8_said_221 : decode cX8_said 221 = .ok (.iload 5, 2) := by decide +kernel
theorem dX8_said_223 : decode cX8_said 223 = .ok (.bipush (-5), 2) := by decide +kernel
theorem dX8_said_225 : decode cX8_said 225 = .ok (.if_icmp .ne 18, 3) := by decide +kernel
theorem dX8_said_228 : decode cX8_said 228 = .ok (.iload 4, 2) := by decide +kernel
theorem dX8_said_230 : decode cX8_said 230 = .ok (.bipush (-5), 2) := by decide +kernel
theorem dX8_said_232 : decode cX8_said 232 = .ok (.if_icmp .ne 8, 3) := by decide +kernel
theorem dX8_said_235 : decode cX8_said 235 = .ok (.iload 5, 2) := by decide +kernel
theorem dX8_said_237 : decode cX8_said 237 = .ok (.goto 5, 3) := by decide +kernel
theorem dX8_said_240 : decode cX8_said 240 = .ok (.iload 4, 2) := by decide +kernel
theorem dX8_said_242 : decode cX8_said 242 = .ok (.ireturn, 1) := by decide +kernel
theorem dX8_said_243 : decode cX8_said 243 = .ok (.iload_n 3, 1) := by decide +kernel
theorem dX8_said_244 : decode cX8_said 244 = .ok (.iconst 4, 1) := by decide +kernel
theorem dX8_said_245 : decode cX8_said 245 = .ok (.if_icmp .ne 16, 3) := by decide +kernel
theorem dX8_said_248 : decode cX8_said 248 = .ok (.bipush 99, 2) := by decide +kernel
theorem dX8_said_250 : decode cX8_said 250 = .ok (.iload 4, 2) := by decide +kernel
theorem dX8_said_252 : decode cX8_said 252 = .ok (.iload 5, 2) := by decide +kernel
theorem dX8_said_254 : decode cX8_said 254 = .ok (.iadd, 1) := by decide +kernel
theorem dX8_said_255 : decode cX8_said 255 = .ok (.invokestatic 204, 3) := by decide +kernel
theorem dX8_said_258 : decode cX8_said 258 = .ok (.goto 10, 3) := by decide +kernel
theorem dX8_said_261 : decode cX8_said 261 = .ok (.iload 4, 2) := by decide +kernel
theorem dX8_said_263 : decode cX8_said 263 = .ok (.iload 5, 2) := by decide +kernel
theorem dX8_said_265 : decode cX8_said 265 = .ok (.invokestatic 204, 3) := by decide +kernel
theorem dX8_said_268 : decode cX8_said 268 = .ok (.ireturn, 1) := by decide +kernel
theorem dX8_sayOf_0 : decode cX8_sayOf 0 = .ok (.aload_n 0, 1) := by decide +kernel
theorem dX8_sayOf_1 : decode cX8_sayOf 1 = .ok (.iconst 0, 1) := by decide +kernel
theorem dX8_sayOf_2 : decode cX8_sayOf 2 = .ok (.putfield 188, 3) := by decide +kernel
theorem dX8_sayOf_5 : decode cX8_sayOf 5 = .ok (.aload_n 0, 1) := by decide +kernel
theorem dX8_sayOf_6 : decode cX8_sayOf 6 = .ok (.iload_n 1, 1) := by decide +kernel
theorem dX8_sayOf_7 : decode cX8_sayOf 7 = .ok (.iload_n 2, 1) := by decide +kernel
theorem dX8_sayOf_8 : decode cX8_sayOf 8 = .ok (.invokevirtual 191, 3) := by decide +kernel
theorem dX8_sayOf_11 : decode cX8_sayOf 11 = .ok (.ireturn, 1) := by decide +kernel
theorem dX8_tells_0 : decode cX8_tells 0 = .ok (.iconst 0, 1) := by decide +kernel
theorem dX8_tells_1 : decode cX8_tells 1 = .ok (.istore_n 3, 1) := by decide +kernel
theorem dX8_tells_2 : decode cX8_tells 2 = .ok (.iload_n 3, 1) := by decide +kernel
theorem dX8_tells_3 : decode cX8_tells 3 = .ok (.sipush 224, 3) := by decide +kernel
theorem dX8_tells_6 : decode cX8_tells 6 = .ok (.if_icmp .ge 18, 3) := by decide +kernel
theorem dX8_tells_9 : decode cX8_tells 9 = .ok (.aload_n 2, 1) := by decide +kernel
theorem dX8_tells_10 : decode cX8_tells 10 = .ok (.iload_n 3, 1) := by decide +kernel
theorem dX8_tells_11 : decode cX8_tells 11 = .ok (.aload_n 0, 1) := by decide +kernel
theorem dX8_tells_12 : decode cX8_tells 12 = .ok (.iload_n 1, 1) := by decide +kernel
theorem dX8_tells_13 : decode cX8_tells 13 = .ok (.iload_n 3, 1) := by decide +kernel
theorem dX8_tells_14 : decode cX8_tells 14 = .ok (.invokevirtual 207, 3) := by decide +kernel
theorem dX8_tells_17 : decode cX8_tells 17 = .ok (.iastore, 1) := by decide +kernel
theorem dX8_tells_18 : decode cX8_tells 18 = .ok (.iinc 3 1, 3) := by decide +kernel
theorem dX8_tells_21 : decode cX8_tells 21 = .ok (.goto (-19), 3) := by decide +kernel
theorem dX8_tells_24 : decode cX8_tells 24 = .ok (.return_, 1) := by decide +kernel
theorem dX8_says_0 : decode cX8_says 0 = .ok (.aload_n 0, 1) := by decide +kernel
theorem dX8_says_1 : decode cX8_says 1 = .ok (.iconst (-1), 1) := by decide +kernel
theorem dX8_says_2 : decode cX8_says 2 = .ok (.putfield 194, 3) := by decide +kernel
theorem dX8_says_5 : decode cX8_says 5 = .ok (.aload_n 0, 1) := by decide +kernel
theorem dX8_says_6 : decode cX8_says 6 = .ok (.iload_n 1, 1) := by decide +kernel
theorem dX8_says_7 : decode cX8_says 7 = .ok (.invokevirtual 109, 3) := by decide +kernel
theorem dX8_says_10 : decode cX8_says 10 = .ok (.ifCond .eq 19, 3) := by decide +kernel
theorem dX8_says_13 : decode cX8_says 13 = .ok (.iload_n 2, 1) := by decide +kernel
theorem dX8_says_14 : decode cX8_says 14 = .ok (.invokestatic 210, 3) := by decide +kernel
theorem dX8_says_17 : decode cX8_says 17 = .ok (.ifCond .eq 12, 3) := by decide +kernel
theorem dX8_says_20 : decode cX8_says 20 = .ok (.aload_n 0, 1) := by decide +kernel
theorem dX8_says_21 : decode cX8_says 21 = .ok (.iload_n 1, 1) := by decide +kernel
theorem dX8_says_22 : decode cX8_says 22 = .ok (.iload_n 2, 1) := by decide +kernel
theorem dX8_says_23 : decode cX8_says 23 = .ok (.invokevirtual 207, 3) := by decide +kernel
theorem dX8_says_26 : decode cX8_says 26 = .ok (.goto 4, 3) := by decide +kernel
theorem dX8_says_29 : decode cX8_says 29 = .ok (.iconst (-1), 1) := by decide +kernel
theorem dX8_says_30 : decode cX8_says 30 = .ok (.ireturn, 1) := by decide +kernel
theorem dX8_sum_0 : decode cX8_sum 0 = .ok (.aload_n 0, 1) := by decide +kernel
theorem dX8_sum_1 : decode cX8_sum 1 = .ok (.iload_n 1, 1) := by decide +kernel
theorem dX8_sum_2 : decode cX8_sum 2 = .ok (.invokevirtual 109, 3) := by decide +kernel
theorem dX8_sum_5 : decode cX8_sum 5 = .ok (.ifCond .eq 12, 3) := by decide +kernel
theorem dX8_sum_8 : decode cX8_sum 8 = .ok (.iload_n 2, 1) := by decide +kernel
theorem dX8_sum_9 : decode cX8_sum 9 = .ok (.iconst 0, 1) := by decide +kernel
theorem dX8_sum_10 : decode cX8_sum 10 = .ok (.iconst 1, 1) := by decide +kernel
theorem dX8_sum_11 : decode cX8_sum 11 = .ok (.invokestatic 80, 3) := by decide +kernel
theorem dX8_sum_14 : decode cX8_sum 14 = .ok (.ifCond .ne 5, 3) := by decide +kernel
theorem dX8_sum_17 : decode cX8_sum 17 = .ok (.iconst (-1), 1) := by decide +kernel
theorem dX8_sum_18 : decode cX8_sum 18 = .ok (.ireturn, 1) := by decide +kernel
theorem dX8_sum_19 : decode cX8_sum 19 = .ok (.aload_n 0, 1) := by decide +kernel
theorem dX8_sum_20 : decode cX8_sum 20 = .ok (.iconst (-1), 1) := by decide +kernel
theorem dX8_sum_21 : decode cX8_sum 21 = .ok (.putfield 194, 3) := by decide +kernel
theorem dX8_sum_24 : decode cX8_sum 24 = .ok (.aload_n 0, 1) := by decide +kernel
theorem dX8_sum_25 : decode cX8_sum 25 = .ok (.iload_n 1, 1) := by decide +kernel
theorem dX8_sum_26 : decode cX8_sum 26 = .ok (.aload_n 0, 1) := by decide +kernel
theorem dX8_sum_27 : decode cX8_sum 27 = .ok (.getfield 39, 3) := by decide +kernel
theorem dX8_sum_30 : decode cX8_sum 30 = .ok (.invokevirtual 213, 3) := by decide +kernel
theorem dX8_sum_33 : decode cX8_sum 33 = .ok (.iconst 0, 1) := by decide +kernel
theorem dX8_sum_34 : decode cX8_sum 34 = .ok (.istore_n 3, 1) := by decide +kernel
theorem dX8_sum_35 : decode cX8_sum 35 = .ok (.iconst 0, 1) := by decide +kernel
theorem dX8_sum_36 : decode cX8_sum 36 = .ok (.istore 4, 2) := by decide +kernel
theorem dX8_sum_38 : decode cX8_sum 38 = .ok (.iload 4, 2) := by decide +kernel
theorem dX8_sum_40 : decode cX8_sum 40 = .ok (.sipush 224, 3) := by decide +kernel
theorem dX8_sum_43 : decode cX8_sum 43 = .ok (.if_icmp .ge 39, 3) := by decide +kernel
theorem dX8_sum_46 : decode cX8_sum 46 = .ok (.aload_n 0, 1) := by decide +kernel
theorem dX8_sum_47 : decode cX8_sum 47 = .ok (.getfield 39, 3) := by decide +kernel
theorem dX8_sum_50 : decode cX8_sum 50 = .ok (.iload 4, 2) := by decide +kernel
theorem dX8_sum_52 : decode cX8_sum 52 = .ok (.iaload, 1) := by decide +kernel
theorem dX8_sum_53 : decode cX8_sum 53 = .ok (.bipush (-5), 2) := by decide +kernel
theorem dX8_sum_55 : decode cX8_sum 55 = .ok (.if_icmp .eq 21, 3) := by decide +kernel
theorem dX8_sum_58 : decode cX8_sum 58 = .ok (.iload_n 3, 1) := by decide +kernel
theorem dX8_sum_59 : decode cX8_sum 59 = .ok (.iload_n 2, 1) := by decide +kernel
theorem dX8_sum_60 : decode cX8_sum 60 = .ok (.ifCond .ne 13, 3) := by decide +kernel
theorem dX8_sum_63 : decode cX8_sum 63 = .ok (.aload_n 0, 1) := by decide +kernel
theorem dX8_sum_64 : decode cX8_sum 64 = .ok (.getfield 39, 3) := by decide +kernel
theorem dX8_sum_67 : decode cX8_sum 67 = .ok (.iload 4, 2) := by decide +kernel
theorem dX8_sum_69 : decode cX8_sum 69 = .ok (.iaload, 1) := by decide +kernel
theorem dX8_sum_70 : decode cX8_sum 70 = .ok (.goto 4, 3) := by decide +kernel
theorem dX8_sum_73 : decode cX8_sum 73 = .ok (.iconst 1, 1) := by decide +kernel
theorem dX8_sum_74 : decode cX8_sum 74 = .ok (.iadd, 1) := by decide +kernel
theorem dX8_sum_75 : decode cX8_sum 75 = .ok (.istore_n 3, 1) := by decide +kernel
theorem dX8_sum_76 : decode cX8_sum 76 = .ok (.iinc 4 1, 3) := by decide +kernel
theorem dX8_sum_79 : decode cX8_sum 79 = .ok (.goto (-41), 3) := by decide +kernel
theorem dX8_sum_82 : decode cX8_sum 82 = .ok (.iload_n 3, 1) := by decide +kernel
theorem dX8_sum_83 : decode cX8_sum 83 = .ok (.ireturn, 1) := by decide +kernel
theorem dX8_odds_0 : decode cX8_odds 0 = .ok (.aload_n 0, 1) := by decide +kernel
theorem dX8_odds_1 : decode cX8_odds 1 = .ok (.iload_n 1, 1) := by decide +kernel
theorem dX8_odds_2 : decode cX8_odds 2 = .ok (.invokevirtual 109, 3) := by decide +kernel
theorem dX8_odds_5 : decode cX8_odds 5 = .ok (.ifCond .eq 12, 3) := by decide +kernel
theorem dX8_odds_8 : decode cX8_odds 8 = .ok (.iload_n 2, 1) := by decide +kernel
theorem dX8_odds_9 : decode cX8_odds 9 = .ok (.iconst 0, 1) := by decide +kernel
theorem dX8_odds_10 : decode cX8_odds 10 = .ok (.iconst 1, 1) := by decide +kernel
theorem dX8_odds_11 : decode cX8_odds 11 = .ok (.invokestatic 80, 3) := by decide +kernel
theorem dX8_odds_14 : decode cX8_odds 14 = .ok (.ifCond .ne 7, 3) := by decide +kernel
theorem dX8_odds_17 : decode cX8_odds 17 = .ok (.ldc2_w 217, 3) := by decide +kernel
theorem dX8_odds_20 : decode cX8_odds 20 = .ok (.lreturn, 1) := by decide +kernel
theorem dX8_odds_21 : decode cX8_odds 21 = .ok (.aload_n 0, 1) := by decide +kernel
theorem dX8_odds_22 : decode cX8_odds 22 = .ok (.iload_n 1, 1) := by decide +kernel
theorem dX8_odds_23 : decode cX8_odds 23 = .ok (.iconst 1, 1) := by decide +kernel
theorem dX8_odds_24 : decode cX8_odds 24 = .ok (.invokevirtual 219, 3) := by decide +kernel
theorem dX8_odds_27 : decode cX8_odds 27 = .ok (.istore_n 3, 1) := by decide +kernel
theorem dX8_odds_28 : decode cX8_odds 28 = .ok (.iload_n 3, 1) := by decide +kernel
theorem dX8_odds_29 : decode cX8_odds 29 = .ok (.istore 4, 2) := by decide +kernel
theorem dX8_odds_31 : decode cX8_odds 31 = .ok (.sipush 224, 3) := by decide +kernel
theorem dX8_odds_34 : decode cX8_odds 34 = .ok (.istore 5, 2) := by decide +kernel
theorem dX8_odds_36 : decode cX8_odds 36 = .ok (.iload 5, 2) := by decide +kernel
theorem dX8_odds_38 : decode cX8_odds 38 = .ok (.ifCond .eq 21, 3) := by decide +kernel
theorem dX8_odds_41 : decode cX8_odds 41 = .ok (.iload 4, 2) := by decide +kernel
theorem dX8_odds_43 : decode cX8_odds 43 = .ok (.iload 5, 2) := by decide +kernel
theorem dX8_odds_45 : decode cX8_odds 45 = .ok (.irem, 1) := by decide +kernel
theorem dX8_odds_46 : decode cX8_odds 46 = .ok (.istore 6, 2) := by decide +kernel
theorem dX8_odds_48 : decode cX8_odds 48 = .ok (.iload 5, 2) := by decide +kernel
theorem dX8_odds_50 : decode cX8_odds 50 = .ok (.istore 4, 2) := by decide +kernel
theorem dX8_odds_52 : decode cX8_odds 52 = .ok (.iload 6, 2) := by decide +kernel
theorem dX8_odds_54 : decode cX8_odds 54 = .ok (.istore 5, 2) := by decide +kernel
theorem dX8_odds_56 : decode cX8_odds 56 = .ok (.goto (-20), 3) := by decide +kernel
theorem dX8_odds_59 : decode cX8_odds 59 = .ok (.iload_n 2, 1) := by decide +kernel
theorem dX8_odds_60 : decode cX8_odds 60 = .ok (.ifCond .ne 11, 3) := by decide +kernel
theorem dX8_odds_63 : decode cX8_odds 63 = .ok (.iload_n 3, 1) := by decide +kernel
theorem dX8_odds_64 : decode cX8_odds 64 = .ok (.iload 4, 2) := by decide +kernel
theorem dX8_odds_66 : decode cX8_odds 66 = .ok (.idiv, 1) := by decide +kernel
theorem dX8_odds_67 : decode cX8_odds 67 = .ok (.i2l, 1) := by decide +kernel
theorem dX8_odds_68 : decode cX8_odds 68 = .ok (.goto 10, 3) := by decide +kernel
theorem dX8_odds_71 : decode cX8_odds 71 = .ok (.sipush 224, 3) := by decide +kernel
theorem dX8_odds_74 : decode cX8_odds 74 = .ok (.iload 4, 2) := by decide +kernel
theorem dX8_odds_76 : decode cX8_odds 76 = .ok (.idiv, 1) := by decide +kernel
theorem dX8_odds_77 : decode cX8_odds 77 = .ok (.i2l, 1) := by decide +kernel
theorem dX8_odds_78 : decode cX8_odds 78 = .ok (.lreturn, 1) := by decide +kernel
theorem dX8_goesWith_0 : decode cX8_goesWith 0 = .ok (.aload_n 0, 1) := by decide +kernel
theorem dX8_goesWith_1 : decode cX8_goesWith 1 = .ok (.getfield 45, 3) := by decide +kernel
theorem dX8_goesWith_4 : decode cX8_goesWith 4 = .ok (.iload_n 1, 1) := by decide +kernel
theorem dX8_goesWith_5 : decode cX8_goesWith 5 = .ok (.baload, 1) := by decide +kernel
theorem dX8_goesWith_6 : decode cX8_goesWith 6 = .ok (.ifCond .ne 37, 3) := by decide +kernel
theorem dX8_goesWith_9 : decode cX8_goesWith 9 = .ok (.aload_n 0, 1) := by decide +kernel
theorem dX8_goesWith_10 : decode cX8_goesWith 10 = .ok (.getfield 39, 3) := by decide +kernel
theorem dX8_goesWith_13 : decode cX8_goesWith 13 = .ok (.iload_n 1, 1) := by decide +kernel
theorem dX8_goesWith_14 : decode cX8_goesWith 14 = .ok (.iaload, 1) := by decide +kernel
theorem dX8_goesWith_15 : decode cX8_goesWith 15 = .ok (.aload_n 0, 1) := by decide +kernel
theorem dX8_goesWith_16 : decode cX8_goesWith 16 = .ok (.getfield 39, 3) := by decide +kernel
theorem dX8_goesWith_19 : decode cX8_goesWith 19 = .ok (.iload_n 2, 1) := by decide +kernel
theorem dX8_goesWith_20 : decode cX8_goesWith 20 = .ok (.iaload, 1) := by decide +kernel
theorem dX8_goesWith_21 : decode cX8_goesWith 21 = .ok (.if_icmp .ne 22, 3) := by decide +kernel
theorem dX8_goesWith_24 : decode cX8_goesWith 24 = .ok (.aload_n 0, 1) := by decide +kernel
theorem dX8_goesWith_25 : decode cX8_goesWith 25 = .ok (.getfield 42, 3) := by decide +kernel
theorem dX8_goesWith_28 : decode cX8_goesWith 28 = .ok (.iload_n 1, 1) := by decide +kernel
theorem dX8_goesWith_29 : decode cX8_goesWith 29 = .ok (.iaload, 1) := by decide +kernel
theorem dX8_goesWith_30 : decode cX8_goesWith 30 = .ok (.aload_n 0, 1) := by decide +kernel
theorem dX8_goesWith_31 : decode cX8_goesWith 31 = .ok (.getfield 42, 3) := by decide +kernel
theorem dX8_goesWith_34 : decode cX8_goesWith 34 = .ok (.iload_n 2, 1) := by decide +kernel
theorem dX8_goesWith_35 : decode cX8_goesWith 35 = .ok (.iaload, 1) := by decide +kernel
theorem dX8_goesWith_36 : decode cX8_goesWith 36 = .ok (.if_icmp .ne 7, 3) := by decide +kernel
theorem dX8_goesWith_39 : decode cX8_goesWith 39 = .ok (.iconst 1, 1) := by decide +kernel
theorem dX8_goesWith_40 : decode cX8_goesWith 40 = .ok (.goto 4, 3) := by decide +kernel
theorem dX8_goesWith_43 : decode cX8_goesWith 43 = .ok (.iconst 0, 1) := by decide +kernel
theorem dX8_goesWith_44 : decode cX8_goesWith 44 = .ok (.ireturn, 1) := by decide +kernel
theorem dX8_all_0 : decode cX8_all 0 = .ok (.iload_n 1, 1) := by decide +kernel
theorem dX8_all_1 : decode cX8_all 1 = .ok (.istore 8, 2) := by decide +kernel
theorem dX8_all_3 : decode cX8_all 3 = .ok (.iload 8, 2) := by decide +kernel
theorem dX8_all_5 : decode cX8_all 5 = .ok (.iload_n 2, 1) := by decide +kernel
theorem dX8_all_6 : decode cX8_all 6 = .ok (.if_icmp .gt 66, 3) := by decide +kernel
theorem dX8_all_9 : decode cX8_all 9 = .ok (.iload_n 3, 1) := by decide +kernel
theorem dX8_all_10 : decode cX8_all 10 = .ok (.istore 9, 2) := by decide +kernel
theorem dX8_all_12 : decode cX8_all 12 = .ok (.iload 9, 2) := by decide +kernel
theorem dX8_all_14 : decode cX8_all 14 = .ok (.iload 4, 2) := by decide +kernel
theorem dX8_all_16 : decode cX8_all 16 = .ok (.if_icmp .gt 50, 3) := by decide +kernel
theorem dX8_all_19 : decode cX8_all 19 = .ok (.iload 5, 2) := by decide +kernel
theorem dX8_all_21 : decode cX8_all 21 = .ok (.istore 10, 2) := by decide +kernel
theorem dX8_all_23 : decode cX8_all 23 = .ok (.iload 10, 2) := by decide +kernel
theorem dX8_all_25 : decode cX8_all 25 = .ok (.iload 6, 2) := by decide +kernel
theorem dX8_all_27 : decode cX8_all 27 = .ok (.if_icmp .gt 33, 3) := by decide +kernel
theorem dX8_all_30 : decode cX8_all 30 = .ok (.aload_n 0, 1) := by decide +kernel
theorem dX8_all_31 : decode cX8_all 31 = .ok (.bipush 28, 2) := by decide +kernel
theorem dX8_all_33 : decode cX8_all 33 = .ok (.iload 8, 2) := by decide +kernel
theorem dX8_all_35 : decode cX8_all 35 = .ok (.imul, 1) := by decide +kernel
theorem dX8_all_36 : decode cX8_all 36 = .ok (.iconst 4, 1) := by decide +kernel
theorem dX8_all_37 : decode cX8_all 37 = .ok (.iload 9, 2) := by decide +kernel
theorem dX8_all_39 : decode cX8_all 39 = .ok (.imul, 1) := by decide +kernel
theorem dX8_all_40 : decode cX8_all 40 = .ok (.iadd, 1) := by decide +kernel
theorem dX8_all_41 : decode cX8_all 41 = .ok (.iload 10, 2) := by decide +kernel
theorem dX8_all_43 : decode cX8_all 43 = .ok (.iadd, 1) := by decide +kernel
theorem dX8_all_44 : decode cX8_all 44 = .ok (.iload 7, 2) := by decide +kernel
theorem dX8_all_46 : decode cX8_all 46 = .ok (.invokevirtual 222, 3) := by decide +kernel
theorem dX8_all_49 : decode cX8_all 49 = .ok (.ifCond .ne 5, 3) := by decide +kernel
theorem dX8_all_52 : decode cX8_all 52 = .ok (.iconst 0, 1) := by decide +kernel
theorem dX8_all_53 : decode cX8_all 53 = .ok (.ireturn, 1) := by decide +kernel
theorem dX8_all_54 : decode cX8_all 54 = .ok (.iinc 10 1, 3) := by decide +kernel
theorem dX8_all_57 : decode cX8_all 57 = .ok (.goto (-34), 3) := by decide +kernel
theorem dX8_all_60 : decode cX8_all 60 = .ok (.iinc 9 1, 3) := by decide +kernel
theorem dX8_all_63 : decode cX8_all 63 = .ok (.goto (-51), 3) := by decide +kernel
theorem dX8_all_66 : decode cX8_all 66 = .ok (.iinc 8 1, 3) := by decide +kernel
theorem dX8_all_69 : decode cX8_all 69 = .ok (.goto (-66), 3) := by decide +kernel
theorem dX8_all_72 : decode cX8_all 72 = .ok (.iconst 1, 1) := by decide +kernel
theorem dX8_all_73 : decode cX8_all 73 = .ok (.ireturn, 1) := by decide +kernel
theorem dX8_packs_0 : decode cX8_packs 0 = .ok (.aload_n 0, 1) := by decide +kernel
theorem dX8_packs_1 : decode cX8_packs 1 = .ok (.iconst 0, 1) := by decide +kernel
theorem dX8_packs_2 : decode cX8_packs 2 = .ok (.putfield 225, 3) := by decide +kernel
theorem dX8_packs_5 : decode cX8_packs 5 = .ok (.iconst 0, 1) := by decide +kernel
theorem dX8_packs_6 : decode cX8_packs 6 = .ok (.istore_n 1, 1) := by decide +kernel
theorem dX8_packs_7 : decode cX8_packs 7 = .ok (.iload_n 1, 1) := by decide +kernel
theorem dX8_packs_8 : decode cX8_packs 8 = .ok (.sipush 224, 3) := by decide +kernel
theorem dX8_packs_11 : decode cX8_packs 11 = .ok (.if_icmp .ge 334, 3) := by decide +kernel
theorem dX8_packs_14 : decode cX8_packs 14 = .ok (.aload_n 0, 1) := by decide +kernel
theorem dX8_packs_15 : decode cX8_packs 15 = .ok (.getfield 45, 3) := by decide +kernel
theorem dX8_packs_18 : decode cX8_packs 18 = .ok (.iload_n 1, 1) := by decide +kernel
theorem dX8_packs_19 : decode cX8_packs 19 = .ok (.baload, 1) := by decide +kernel
theorem dX8_packs_20 : decode cX8_packs 20 = .ok (.ifCond .eq 6, 3) := by decide +kernel
theorem dX8_packs_23 : decode cX8_packs 23 = .ok (.goto 316, 3) := by decide +kernel
theorem dX8_packs_26 : decode cX8_packs 26 = .ok (.iload_n 1, 1) := by decide +kernel
theorem dX8_packs_27 : decode cX8_packs 27 = .ok (.iconst 0, 1) := by decide +kernel
theorem dX8_packs_28 : decode cX8_packs 28 = .ok (.invokestatic 93, 3) := by decide +kernel
theorem dX8_packs_31 : decode cX8_packs 31 = .ok (.istore_n 2, 1) := by decide +kernel
theorem dX8_packs_32 : decode cX8_packs 32 = .ok (.iload_n 1, 1) := by decide +kernel
theorem dX8_packs_33 : decode cX8_packs 33 = .ok (.iconst 1, 1) := by decide +kernel
theorem dX8_packs_34 : decode cX8_packs 34 = .ok (.invokestatic 93, 3) := by decide +kernel
theorem dX8_packs_37 : decode cX8_packs 37 = .ok (.istore_n 3, 1) := by decide +kernel
theorem dX8_packs_38 : decode cX8_packs 38 = .ok (.iload_n 1, 1) := by decide +kernel
theorem dX8_packs_39 : decode cX8_packs 39 = .ok (.iconst 2, 1) := by decide +kernel
theorem dX8_packs_40 : decode cX8_packs 40 = .ok (.invokestatic 93, 3) := by decide +kernel
theorem dX8_packs_43 : decode cX8_packs 43 = .ok (.istore 4, 2) := by decide +kernel
theorem dX8_packs_45 : decode cX8_packs 45 = .ok (.iload_n 2, 1) := by decide +kernel
theorem dX8_packs_46 : decode cX8_packs 46 = .ok (.istore 5, 2) := by decide +kernel
theorem dX8_packs_48 : decode cX8_packs 48 = .ok (.iload_n 3, 1) := by decide +kernel
theorem dX8_packs_49 : decode cX8_packs 49 = .ok (.istore 6, 2) := by decide +kernel
theorem dX8_packs_51 : decode cX8_packs 51 = .ok (.iload 4, 2) := by decide +kernel
theorem dX8_packs_53 : decode cX8_packs 53 = .ok (.istore 7, 2) := by decide +kernel
theorem dX8_packs_55 : decode cX8_packs 55 = .ok (.iload 7, 2) := by decide +kernel
theorem dX8_packs_57 : decode cX8_packs 57 = .ok (.iconst 3, 1) := by decide +kernel
theorem dX8_packs_58 : decode cX8_packs 58 = .ok (.if_icmp .ge 29, 3) := by decide +kernel
theorem dX8_packs_61 : decode cX8_packs 61 = .ok (.aload_n 0, 1) := by decide +kernel
theorem dX8_packs_62 : decode cX8_packs 62 = .ok (.iload_n 2, 1) := by decide +kernel
theorem dX8_packs_63 : decode cX8_packs 63 = .ok (.iload_n 2, 1) := by decide +kernel
theorem dX8_packs_64 : decode cX8_packs 64 = .ok (.iload_n 3, 1) := by decide +kernel
theorem dX8_packs_65 : decode cX8_packs 65 = .ok (.iload_n 3, 1) := by decide +kernel
theorem dX8_packs_66 : decode cX8_packs 66 = .ok (.iload 7, 2) := by decide +kernel
theorem dX8_packs_68 : decode cX8_packs 68 = .ok (.iconst 1, 1) := by decide +kernel
theorem dX8_packs_69 : decode cX8_packs 69 = .ok (.iadd, 1) := by decide +kernel
theorem dX8_packs_70 : decode cX8_packs 70 = .ok (.iload 7, 2) := by decide +kernel
theorem dX8_packs_72 : decode cX8_packs 72 = .ok (.iconst 1, 1) := by decide +kernel
theorem dX8_packs_73 : decode cX8_packs 73 = .ok (.iadd, 1) := by decide +kernel
theorem dX8_packs_74 : decode cX8_packs 74 = .ok (.iload_n 1, 1) := by decide +kernel
theorem dX8_packs_75 : decode cX8_packs 75 = .ok (.invokevirtual 228, 3) := by decide +kernel
theorem dX8_packs_78 : decode cX8_packs 78 = .ok (.ifCond .eq 9, 3) := by decide +kernel
theorem dX8_packs_81 : decode cX8_packs 81 = .ok (.iinc 7 1, 3) := by decide +kernel
theorem dX8_packs_84 : decode cX8_packs 84 = .ok (.goto (-29), 3) := by decide +kernel
theorem dX8_packs_87 : decode cX8_packs 87 = .ok (.iload 6, 2) := by decide +kernel
theorem dX8_packs_89 : decode cX8_packs 89 = .ok (.bipush 6, 2) := by decide +kernel
theorem dX8_packs_91 : decode cX8_packs 91 = .ok (.if_icmp .ge 31, 3) := by decide +kernel
theorem dX8_packs_94 : decode cX8_packs 94 = .ok (.aload_n 0, 1) := by decide +kernel
theorem dX8_packs_95 : decode cX8_packs 95 = .ok (.iload_n 2, 1) := by decide +kernel
theorem dX8_packs_96 : decode cX8_packs 96 = .ok (.iload_n 2, 1) := by decide +kernel
theorem dX8_packs_97 : decode cX8_packs 97 = .ok (.iload 6, 2) := by decide +kernel
theorem dX8_packs_99 : decode cX8_packs 99 = .ok (.iconst 1, 1) := by decide +kernel
theorem dX8_packs_100 : decode cX8_packs 100 = .ok (.iadd, 1) := by decide +kernel
theorem dX8_packs_101 : decode cX8_packs 101 = .ok (.iload 6, 2) := by decide +kernel
theorem dX8_packs_103 : decode cX8_packs 103 = .ok (.iconst 1, 1) := by decide +kernel
theorem dX8_packs_104 : decode cX8_packs 104 = .ok (.iadd, 1) := by decide +kernel
theorem dX8_packs_105 : decode cX8_packs 105 = .ok (.iload 4, 2) := by decide +kernel
theorem dX8_packs_107 : decode cX8_packs 107 = .ok (.iload 7, 2) := by decide +kernel
theorem dX8_packs_109 : decode cX8_packs 109 = .ok (.iload_n 1, 1) := by decide +kernel
theorem dX8_packs_110 : decode cX8_packs 110 = .ok (.invokevirtual 228, 3) := by decide +kernel
theorem dX8_packs_113 : decode cX8_packs 113 = .ok (.ifCond .eq 9, 3) := by decide +kernel
theorem dX8_packs_116 : decode cX8_packs 116 = .ok (.iinc 6 1, 3) := by decide +kernel
theorem dX8_packs_119 : decode cX8_packs 119 = .ok (.goto (-32), 3) := by decide +kernel
theorem dX8_packs_122 : decode cX8_packs 122 = .ok (.iload 5, 2) := by decide +kernel
theorem dX8_packs_124 : decode cX8_packs 124 = .ok (.bipush 7, 2) := by decide +kernel
theorem dX8_packs_126 : decode cX8_packs 126 = .ok (.if_icmp .ge 32, 3) := by decide +kernel
theorem dX8_packs_129 : decode cX8_packs 129 = .ok (.aload_n 0, 1) := by decide +kernel
theorem dX8_packs_130 : decode cX8_packs 130 = .ok (.iload 5, 2) := by decide +kernel
theorem dX8_packs_132 : decode cX8_packs 132 = .ok (.iconst 1, 1) := by decide +kernel
theorem dX8_packs_133 : decode cX8_packs 133 = .ok (.iadd, 1) := by decide +kernel
theorem dX8_packs_134 : decode cX8_packs 134 = .ok (.iload 5, 2) := by decide +kernel
theorem dX8_packs_136 : decode cX8_packs 136 = .ok (.iconst 1, 1) := by decide +kernel
theorem dX8_packs_137 : decode cX8_packs 137 = .ok (.iadd, 1) := by decide +kernel
theorem dX8_packs_138 : decode cX8_packs 138 = .ok (.iload_n 3, 1) := by decide +kernel
theorem dX8_packs_139 : decode cX8_packs 139 = .ok (.iload 6, 2) := by decide +kernel
theorem dX8_packs_141 : decode cX8_packs 141 = .ok (.iload 4, 2) := by decide +kernel
theorem dX8_packs_143 : decode cX8_packs 143 = .ok (.iload 7, 2) := by decide +kernel
theorem dX8_packs_145 : decode cX8_packs 145 = .ok (.iload_n 1, 1) := by decide +kernel
theorem dX8_packs_146 : decode cX8_packs 146 = .ok (.invokevirtual 228, 3) := by decide +kernel
theorem dX8_packs_149 : decode cX8_packs 149 = .ok (.ifCond .eq 9, 3) := by decide +kernel
theorem dX8_packs_152 : decode cX8_packs 152 = .ok (.iinc 5 1, 3) := by decide +kernel
theorem dX8_packs_155 : decode cX8_packs 155 = .ok (.goto (-33), 3) := by decide +kernel
theorem dX8_packs_158 : decode cX8_packs 158 = .ok (.bipush 8, 2) := by decide +kernel
theorem dX8_packs_160 : decode cX8_packs 160 = .ok (.aload_n 0, 1) := by decide +kernel
theorem dX8_packs_161 : decode cX8_packs 161 = .ok (.getfield 225, 3) := by decide +kernel
theorem dX8_packs_164 : decode cX8_packs 164 = .ok (.imul, 1) := by decide +kernel
theorem dX8_packs_165 : decode cX8_packs 165 = .ok (.istore 8, 2) := by decide +kernel
theorem dX8_packs_167 : decode cX8_packs 167 = .ok (.aload_n 0, 1) := by decide +kernel
theorem dX8_packs_168 : decode cX8_packs 168 = .ok (.getfield 49, 3) := by decide +kernel
theorem dX8_packs_171 : decode cX8_packs 171 = .ok (.iload 8, 2) := by decide +kernel
theorem dX8_packs_173 : decode cX8_packs 173 = .ok (.iload_n 2, 1) := by decide +kernel
theorem dX8_packs_174 : decode cX8_packs 174 = .ok (.iastore, 1) := by decide +kernel
theorem dX8_packs_175 : decode cX8_packs 175 = .ok (.aload_n 0, 1) := by decide +kernel
theorem dX8_packs_176 : decode cX8_packs 176 = .ok (.getfield 49, 3) := by decide +kernel
theorem dX8_packs_179 : decode cX8_packs 179 = .ok (.iload 8, 2) := by decide +kernel
theorem dX8_packs_181 : decode cX8_packs 181 = .ok (.iconst 1, 1) := by decide +kernel
theorem dX8_packs_182 : decode cX8_packs 182 = .ok (.iadd, 1) := by decide +kernel
theorem dX8_packs_183 : decode cX8_packs 183 = .ok (.iload 5, 2) := by decide +kernel
theorem dX8_packs_185 : decode cX8_packs 185 = .ok (.iastore, 1) := by decide +kernel
theorem dX8_packs_186 : decode cX8_packs 186 = .ok (.aload_n 0, 1) := by decide +kernel
theorem dX8_packs_187 : decode cX8_packs 187 = .ok (.getfield 49, 3) := by decide +kernel
theorem dX8_packs_190 : decode cX8_packs 190 = .ok (.iload 8, 2) := by decide +kernel
theorem dX8_packs_192 : decode cX8_packs 192 = .ok (.iconst 2, 1) := by decide +kernel
theorem dX8_packs_193 : decode cX8_packs 193 = .ok (.iadd, 1) := by decide +kernel
theorem dX8_packs_194 : decode cX8_packs 194 = .ok (.iload_n 3, 1) := by decide +kernel
theorem dX8_packs_195 : decode cX8_packs 195 = .ok (.iastore, 1) := by decide +kernel
theorem dX8_packs_196 : decode cX8_packs 196 = .ok (.aload_n 0, 1) := by decide +kernel
theorem dX8_packs_197 : decode cX8_packs 197 = .ok (.getfield 49, 3) := by decide +kernel
theorem dX8_packs_200 : decode cX8_packs 200 = .ok (.iload 8, 2) := by decide +kernel
theorem dX8_packs_202 : decode cX8_packs 202 = .ok (.iconst 3, 1) := by decide +kernel
theorem dX8_packs_203 : decode cX8_packs 203 = .ok (.iadd, 1) := by decide +kernel
theorem dX8_packs_204 : decode cX8_packs 204 = .ok (.iload 6, 2) := by decide +kernel
theorem dX8_packs_206 : decode cX8_packs 206 = .ok (.iastore, 1) := by decide +kernel
theorem dX8_packs_207 : decode cX8_packs 207 = .ok (.aload_n 0, 1) := by decide +kernel
theorem dX8_packs_208 : decode cX8_packs 208 = .ok (.getfield 49, 3) := by decide +kernel
theorem dX8_packs_211 : decode cX8_packs 211 = .ok (.iload 8, 2) := by decide +kernel
theorem dX8_packs_213 : decode cX8_packs 213 = .ok (.iconst 4, 1) := by decide +kernel
theorem dX8_packs_214 : decode cX8_packs 214 = .ok (.iadd, 1) := by decide +kernel
theorem dX8_packs_215 : decode cX8_packs 215 = .ok (.iload 4, 2) := by decide +kernel
theorem dX8_packs_217 : decode cX8_packs 217 = .ok (.iastore, 1) := by decide +kernel
theorem dX8_packs_218 : decode cX8_packs 218 = .ok (.aload_n 0, 1) := by decide +kernel
theorem dX8_packs_219 : decode cX8_packs 219 = .ok (.getfield 49, 3) := by decide +kernel
theorem dX8_packs_222 : decode cX8_packs 222 = .ok (.iload 8, 2) := by decide +kernel
theorem dX8_packs_224 : decode cX8_packs 224 = .ok (.iconst 5, 1) := by decide +kernel
theorem dX8_packs_225 : decode cX8_packs 225 = .ok (.iadd, 1) := by decide +kernel
theorem dX8_packs_226 : decode cX8_packs 226 = .ok (.iload 7, 2) := by decide +kernel
theorem dX8_packs_228 : decode cX8_packs 228 = .ok (.iastore, 1) := by decide +kernel
theorem dX8_packs_229 : decode cX8_packs 229 = .ok (.aload_n 0, 1) := by decide +kernel
theorem dX8_packs_230 : decode cX8_packs 230 = .ok (.getfield 49, 3) := by decide +kernel
theorem dX8_packs_233 : decode cX8_packs 233 = .ok (.iload 8, 2) := by decide +kernel
theorem dX8_packs_235 : decode cX8_packs 235 = .ok (.bipush 6, 2) := by decide +kernel
theorem dX8_packs_237 : decode cX8_packs 237 = .ok (.iadd, 1) := by decide +kernel
theorem dX8_packs_238 : decode cX8_packs 238 = .ok (.aload_n 0, 1) := by decide +kernel
theorem dX8_packs_239 : decode cX8_packs 239 = .ok (.getfield 39, 3) := by decide +kernel
theorem dX8_packs_242 : decode cX8_packs 242 = .ok (.iload_n 1, 1) := by decide +kernel
theorem dX8_packs_243 : decode cX8_packs 243 = .ok (.iaload, 1) := by decide +kernel
theorem dX8_packs_244 : decode cX8_packs 244 = .ok (.iastore, 1) := by decide +kernel
theorem dX8_packs_245 : decode cX8_packs 245 = .ok (.aload_n 0, 1) := by decide +kernel
theorem dX8_packs_246 : decode cX8_packs 246 = .ok (.getfield 49, 3) := by decide +kernel
theorem dX8_packs_249 : decode cX8_packs 249 = .ok (.iload 8, 2) := by decide +kernel
theorem dX8_packs_251 : decode cX8_packs 251 = .ok (.bipush 7, 2) := by decide +kernel
theorem dX8_packs_253 : decode cX8_packs 253 = .ok (.iadd, 1) := by decide +kernel
theorem dX8_packs_254 : decode cX8_packs 254 = .ok (.aload_n 0, 1) := by decide +kernel
theorem dX8_packs_255 : decode cX8_packs 255 = .ok (.getfield 42, 3) := by decide +kernel
theorem dX8_packs_258 : decode cX8_packs 258 = .ok (.iload_n 1, 1) := by decide +kernel
theorem dX8_packs_259 : decode cX8_packs 259 = .ok (.iaload, 1) := by decide +kernel
theorem dX8_packs_260 : decode cX8_packs 260 = .ok (.iastore, 1) := by decide +kernel
theorem dX8_packs_261 : decode cX8_packs 261 = .ok (.aload_n 0, 1) := by decide +kernel
theorem dX8_packs_262 : decode cX8_packs 262 = .ok (.dup, 1) := by decide +kernel
theorem dX8_packs_263 : decode cX8_packs 263 = .ok (.getfield 225, 3) := by decide +kernel
theorem dX8_packs_266 : decode cX8_packs 266 = .ok (.iconst 1, 1) := by decide +kernel
theorem dX8_packs_267 : decode cX8_packs 267 = .ok (.iadd, 1) := by decide +kernel
theorem dX8_packs_268 : decode cX8_packs 268 = .ok (.putfield 225, 3) := by decide +kernel
theorem dX8_packs_271 : decode cX8_packs 271 = .ok (.iload_n 2, 1) := by decide +kernel
theorem dX8_packs_272 : decode cX8_packs 272 = .ok (.istore 9, 2) := by decide +kernel
theorem dX8_packs_274 : decode cX8_packs 274 = .ok (.iload 9, 2) := by decide +kernel
theorem dX8_packs_276 : decode cX8_packs 276 = .ok (.iload 5, 2) := by decide +kernel
theorem dX8_packs_278 : decode cX8_packs 278 = .ok (.if_icmp .gt 61, 3) := by decide +kernel
theorem dX8_packs_281 : decode cX8_packs 281 = .ok (.iload_n 3, 1) := by decide +kernel
theorem dX8_packs_282 : decode cX8_packs 282 = .ok (.istore 10, 2) := by decide +kernel
theorem dX8_packs_284 : decode cX8_packs 284 = .ok (.iload 10, 2) := by decide +kernel
theorem dX8_packs_286 : decode cX8_packs 286 = .ok (.iload 6, 2) := by decide +kernel
theorem dX8_packs_288 : decode cX8_packs 288 = .ok (.if_icmp .gt 45, 3) := by decide +kernel
theorem dX8_packs_291 : decode cX8_packs 291 = .ok (.iload 4, 2) := by decide +kernel
theorem dX8_packs_293 : decode cX8_packs 293 = .ok (.istore 11, 2) := by decide +kernel
theorem dX8_packs_295 : decode cX8_packs 295 = .ok (.iload 11, 2) := by decide +kernel
theorem dX8_packs_297 : decode cX8_packs 297 = .ok (.iload 7, 2) := by decide +kernel
theorem dX8_packs_299 : decode cX8_packs 299 = .ok (.if_icmp .gt 28, 3) := by decide +kernel
theorem dX8_packs_302 : decode cX8_packs 302 = .ok (.aload_n 0, 1) := by decide +kernel
theorem dX8_packs_303 : decode cX8_packs 303 = .ok (.getfield 45, 3) := by decide +kernel
theorem dX8_packs_306 : decode cX8_packs 306 = .ok (.bipush 28, 2) := by decide +kernel
theorem dX8_packs_308 : decode cX8_packs 308 = .ok (.iload 9, 2) := by decide +kernel
theorem dX8_packs_310 : decode cX8_packs 310 = .ok (.imul, 1) := by decide +kernel
theorem dX8_packs_311 : decode cX8_packs 311 = .ok (.iconst 4, 1) := by decide +kernel
theorem dX8_packs_312 : decode cX8_packs 312 = .ok (.iload 10, 2) := by decide +kernel
theorem dX8_packs_314 : decode cX8_packs 314 = .ok (.imul, 1) := by decide +kernel
theorem dX8_packs_315 : decode cX8_packs 315 = .ok (.iadd, 1) := by decide +kernel
theorem dX8_packs_316 : decode cX8_packs 316 = .ok (.iload 11, 2) := by decide +kernel
theorem dX8_packs_318 : decode cX8_packs 318 = .ok (.iadd, 1) := by decide +kernel
theorem dX8_packs_319 : decode cX8_packs 319 = .ok (.iconst 1, 1) := by decide +kernel
theorem dX8_packs_320 : decode cX8_packs 320 = .ok (.bastore, 1) := by decide +kernel
theorem dX8_packs_321 : decode cX8_packs 321 = .ok (.iinc 11 1, 3) := by decide +kernel
theorem dX8_packs_324 : decode cX8_packs 324 = .ok (.goto (-29), 3) := by decide +kernel
theorem dX8_packs_327 : decode cX8_packs 327 = .ok (.iinc 10 1, 3) := by decide +kernel
theorem dX8_packs_330 : decode cX8_packs 330 = .ok (.goto (-46), 3) := by decide +kernel
theorem dX8_packs_333 : decode cX8_packs 333 = .ok (.iinc 9 1, 3) := by decide +kernel
theorem dX8_packs_336 : decode cX8_packs 336 = .ok (.goto (-62), 3) := by decide +kernel
theorem dX8_packs_339 : decode cX8_packs 339 = .ok (.iinc 1 1, 3) := by decide +kernel
theorem dX8_packs_342 : decode cX8_packs 342 = .ok (.goto (-335), 3) := by decide +kernel
theorem dX8_packs_345 : decode cX8_packs 345 = .ok (.return_, 1) := by decide +kernel
theorem dX8_finds_0 : decode cX8_finds 0 = .ok (.aload_n 0, 1) := by decide +kernel
theorem dX8_finds_1 : decode cX8_finds 1 = .ok (.iconst (-1), 1) := by decide +kernel
theorem dX8_finds_2 : decode cX8_finds 2 = .ok (.putfield 194, 3) := by decide +kernel
theorem dX8_finds_5 : decode cX8_finds 5 = .ok (.aload_n 0, 1) := by decide +kernel
theorem dX8_finds_6 : decode cX8_finds 6 = .ok (.iload_n 1, 1) := by decide +kernel
theorem dX8_finds_7 : decode cX8_finds 7 = .ok (.aload_n 0, 1) := by decide +kernel
theorem dX8_finds_8 : decode cX8_finds 8 = .ok (.getfield 39, 3) := by decide +kernel
theorem dX8_finds_11 : decode cX8_finds 11 = .ok (.invokevirtual 213, 3) := by decide +kernel
theorem dX8_finds_14 : decode cX8_finds 14 = .ok (.aload_n 0, 1) := by decide +kernel
theorem dX8_finds_15 : decode cX8_finds 15 = .ok (.iload_n 3, 1) := by decide +kernel
theorem dX8_finds_16 : decode cX8_finds 16 = .ok (.iconst 2, 1) := by decide +kernel
theorem dX8_finds_17 : decode cX8_finds 17 = .ok (.if_icmp .ne 7, 3) := by decide +kernel
theorem dX8_finds_20 : decode cX8_finds 20 = .ok (.iload_n 2, 1) := by decide +kernel
theorem dX8_finds_21 : decode cX8_finds 21 = .ok (.goto 4, 3) := by decide +kernel
theorem dX8_finds_24 : decode cX8_finds 24 = .ok (.iload_n 1, 1) := by decide +kernel
theorem dX8_finds_25 : decode cX8_finds 25 = .ok (.aload_n 0, 1) := by decide +kernel
theorem dX8_finds_26 : decode cX8_finds 26 = .ok (.getfield 42, 3) := by decide +kernel
theorem dX8_finds_29 : decode cX8_finds 29 = .ok (.invokevirtual 213, 3) := by decide +kernel
theorem dX8_finds_32 : decode cX8_finds 32 = .ok (.iconst 0, 1) := by decide +kernel
theorem dX8_finds_33 : decode cX8_finds 33 = .ok (.istore 4, 2) := by decide +kernel
theorem dX8_finds_35 : decode cX8_finds 35 = .ok (.iload 4, 2) := by decide +kernel
theorem dX8_finds_37 : decode cX8_finds 37 = .ok (.sipush 224, 3) := by decide +kernel
theorem dX8_finds_40 : decode cX8_finds 40 = .ok (.if_icmp .ge 80, 3) := by decide +kernel
theorem dX8_finds_43 : decode cX8_finds 43 = .ok (.aload_n 0, 1) := by decide +kernel
theorem dX8_finds_44 : decode cX8_finds 44 = .ok (.getfield 45, 3) := by decide +kernel
theorem dX8_finds_47 : decode cX8_finds 47 = .ok (.iload 4, 2) := by decide +kernel
theorem dX8_finds_49 : decode cX8_finds 49 = .ok (.iload_n 3, 1) := by decide +kernel
theorem dX8_finds_50 : decode cX8_finds 50 = .ok (.iconst 2, 1) := by decide +kernel
theorem dX8_finds_51 : decode cX8_finds 51 = .ok (.if_icmp .ne 28, 3) := by decide +kernel
theorem dX8_finds_54 : decode cX8_finds 54 = .ok (.aload_n 0, 1) := by decide +kernel
theorem dX8_finds_55 : decode cX8_finds 55 = .ok (.getfield 39, 3) := by decide +kernel
theorem dX8_finds_58 : decode cX8_finds 58 = .ok (.iload 4, 2) := by decide +kernel
theorem dX8_finds_60 : decode cX8_finds 60 = .ok (.iaload, 1) := by decide +kernel
theorem dX8_finds_61 : decode cX8_finds 61 = .ok (.aload_n 0, 1) := by decide +kernel
theorem dX8_finds_62 : decode cX8_finds 62 = .ok (.getfield 42, 3) := by decide +kernel
theorem dX8_finds_65 : decode cX8_finds 65 = .ok (.iload 4, 2) := by decide +kernel
theorem dX8_finds_67 : decode cX8_finds 67 = .ok (.iaload, 1) := by decide +kernel
theorem dX8_finds_68 : decode cX8_finds 68 = .ok (.if_icmp .ne 7, 3) := by decide +kernel
theorem dX8_finds_71 : decode cX8_finds 71 = .ok (.iconst 1, 1) := by decide +kernel
theorem dX8_finds_72 : decode cX8_finds 72 = .ok (.goto 41, 3) := by decide +kernel
theorem dX8_finds_75 : decode cX8_finds 75 = .ok (.iconst 0, 1) := by decide +kernel
theorem dX8_finds_76 : decode cX8_finds 76 = .ok (.goto 37, 3) := by decide +kernel
theorem dX8_finds_79 : decode cX8_finds 79 = .ok (.aload_n 0, 1) := by decide +kernel
theorem dX8_finds_80 : decode cX8_finds 80 = .ok (.getfield 39, 3) := by decide +kernel
theorem dX8_finds_83 : decode cX8_finds 83 = .ok (.iload 4, 2) := by decide +kernel
theorem dX8_finds_85 : decode cX8_finds 85 = .ok (.iaload, 1) := by decide +kernel
theorem dX8_finds_86 : decode cX8_finds 86 = .ok (.bipush (-5), 2) := by decide +kernel
theorem dX8_finds_88 : decode cX8_finds 88 = .ok (.if_icmp .ne 7, 3) := by decide +kernel
theorem dX8_finds_91 : decode cX8_finds 91 = .ok (.iconst 1, 1) := by decide +kernel
theorem dX8_finds_92 : decode cX8_finds 92 = .ok (.goto 4, 3) := by decide +kernel
theorem dX8_finds_95 : decode cX8_finds 95 = .ok (.iconst 0, 1) := by decide +kernel
theorem dX8_finds_96 : decode cX8_finds 96 = .ok (.iload_n 3, 1) := by decide +kernel
theorem dX8_finds_97 : decode cX8_finds 97 = .ok (.ifCond .ne 7, 3) := by decide +kernel
theorem dX8_finds_100 : decode cX8_finds 100 = .ok (.iconst 1, 1) := by decide +kernel
theorem dX8_finds_101 : decode cX8_finds 101 = .ok (.goto 4, 3) := by decide +kernel
theorem dX8_finds_104 : decode cX8_finds 104 = .ok (.iconst 0, 1) := by decide +kernel
theorem dX8_finds_105 : decode cX8_finds 105 = .ok (.if_icmp .ne 7, 3) := by decide +kernel
theorem dX8_finds_108 : decode cX8_finds 108 = .ok (.iconst 1, 1) := by decide +kernel
theorem dX8_finds_109 : decode cX8_finds 109 = .ok (.goto 4, 3) := by decide +kernel
theorem dX8_finds_112 : decode cX8_finds 112 = .ok (.iconst 0, 1) := by decide +kernel
theorem dX8_finds_113 : decode cX8_finds 113 = .ok (.bastore, 1) := by decide +kernel
theorem dX8_finds_114 : decode cX8_finds 114 = .ok (.iinc 4 1, 3) := by decide +kernel
theorem dX8_finds_117 : decode cX8_finds 117 = .ok (.goto (-82), 3) := by decide +kernel
theorem dX8_finds_120 : decode cX8_finds 120 = .ok (.aload_n 0, 1) := by decide +kernel
theorem dX8_finds_121 : decode cX8_finds 121 = .ok (.invokevirtual 232, 3) := by decide +kernel
theorem dX8_finds_124 : decode cX8_finds 124 = .ok (.return_, 1) := by decide +kernel
theorem dX8_found_0 : decode cX8_found 0 = .ok (.iload_n 1, 1) := by decide +kernel
theorem dX8_found_1 : decode cX8_found 1 = .ok (.iconst (-1), 1) := by decide +kernel
theorem dX8_found_2 : decode cX8_found 2 = .ok (.if_icmp .ne 8, 3) := by decide +kernel
theorem dX8_found_5 : decode cX8_found 5 = .ok (.aload_n 0, 1) := by decide +kernel
theorem dX8_found_6 : decode cX8_found 6 = .ok (.getfield 225, 3) := by decide +kernel
theorem dX8_found_9 : decode cX8_found 9 = .ok (.ireturn, 1) := by decide +kernel
theorem dX8_found_10 : decode cX8_found 10 = .ok (.iload_n 1, 1) := by decide +kernel
theorem dX8_found_11 : decode cX8_found 11 = .ok (.iconst 0, 1) := by decide +kernel
theorem dX8_found_12 : decode cX8_found 12 = .ok (.aload_n 0, 1) := by decide +kernel
theorem dX8_found_13 : decode cX8_found 13 = .ok (.getfield 225, 3) := by decide +kernel
theorem dX8_found_16 : decode cX8_found 16 = .ok (.iconst 1, 1) := by decide +kernel
theorem dX8_found_17 : decode cX8_found 17 = .ok (.isub, 1) := by decide +kernel
theorem dX8_found_18 : decode cX8_found 18 = .ok (.invokestatic 80, 3) := by decide +kernel
theorem dX8_found_21 : decode cX8_found 21 = .ok (.ifCond .eq 26, 3) := by decide +kernel
theorem dX8_found_24 : decode cX8_found 24 = .ok (.iload_n 2, 1) := by decide +kernel
theorem dX8_found_25 : decode cX8_found 25 = .ok (.iconst 0, 1) := by decide +kernel
theorem dX8_found_26 : decode cX8_found 26 = .ok (.iload_n 3, 1) := by decide +kernel
theorem dX8_found_27 : decode cX8_found 27 = .ok (.invokestatic 80, 3) := by decide +kernel
theorem dX8_found_30 : decode cX8_found 30 = .ok (.ifCond .eq 17, 3) := by decide +kernel
theorem dX8_found_33 : decode cX8_found 33 = .ok (.aload_n 0, 1) := by decide +kernel
theorem dX8_found_34 : decode cX8_found 34 = .ok (.getfield 49, 3) := by decide +kernel
theorem dX8_found_37 : decode cX8_found 37 = .ok (.bipush 8, 2) := by decide +kernel
theorem dX8_found_39 : decode cX8_found 39 = .ok (.iload_n 1, 1) := by decide +kernel
theorem dX8_found_40 : decode cX8_found 40 = .ok (.imul, 1) := by decide +kernel
theorem dX8_found_41 : decode cX8_found 41 = .ok (.iload_n 2, 1) := by decide +kernel
theorem dX8_found_42 : decode cX8_found 42 = .ok (.iadd, 1) := by decide +kernel
theorem dX8_found_43 : decode cX8_found 43 = .ok (.iaload, 1) := by decide +kernel
theorem dX8_found_44 : decode cX8_found 44 = .ok (.goto 4, 3) := by decide +kernel
theorem dX8_found_47 : decode cX8_found 47 = .ok (.iconst (-1), 1) := by decide +kernel
theorem dX8_found_48 : decode cX8_found 48 = .ok (.ireturn, 1) := by decide +kernel
theorem dX8_part__0 : decode cX8_part_ 0 = .ok (.aload_n 0, 1) := by decide +kernel
theorem dX8_part__1 : decode cX8_part_ 1 = .ok (.iload_n 1, 1) := by decide +kernel
theorem dX8_part__2 : decode cX8_part_ 2 = .ok (.invokevirtual 109, 3) := by decide +kernel
theorem dX8_part__5 : decode cX8_part_ 5 = .ok (.ifCond .ne 5, 3) := by decide +kernel
theorem dX8_part__8 : decode cX8_part_ 8 = .ok (.iconst (-1), 1) := by decide +kernel
theorem dX8_part__9 : decode cX8_part_ 9 = .ok (.ireturn, 1) := by decide +kernel
theorem dX8_part__10 : decode cX8_part_ 10 = .ok (.aload_n 0, 1) := by decide +kernel
theorem dX8_part__11 : decode cX8_part_ 11 = .ok (.iload_n 1, 1) := by decide +kernel
theorem dX8_part__12 : decode cX8_part_ 12 = .ok (.iload_n 1, 1) := by decide +kernel
theorem dX8_part__13 : decode cX8_part_ 13 = .ok (.iconst 0, 1) := by decide +kernel
theorem dX8_part__14 : decode cX8_part_ 14 = .ok (.invokevirtual 235, 3) := by decide +kernel
theorem dX8_part__17 : decode cX8_part_ 17 = .ok (.aload_n 0, 1) := by decide +kernel
theorem dX8_part__18 : decode cX8_part_ 18 = .ok (.iload_n 2, 1) := by decide +kernel
theorem dX8_part__19 : decode cX8_part_ 19 = .ok (.iload_n 3, 1) := by decide +kernel
theorem dX8_part__20 : decode cX8_part_ 20 = .ok (.bipush 6, 2) := by decide +kernel
theorem dX8_part__22 : decode cX8_part_ 22 = .ok (.invokevirtual 239, 3) := by decide +kernel
theorem dX8_part__25 : decode cX8_part_ 25 = .ok (.ireturn, 1) := by decide +kernel
theorem dX8_gap_0 : decode cX8_gap 0 = .ok (.aload_n 0, 1) := by decide +kernel
theorem dX8_gap_1 : decode cX8_gap 1 = .ok (.iload_n 1, 1) := by decide +kernel
theorem dX8_gap_2 : decode cX8_gap 2 = .ok (.invokevirtual 109, 3) := by decide +kernel
theorem dX8_gap_5 : decode cX8_gap 5 = .ok (.ifCond .ne 5, 3) := by decide +kernel
theorem dX8_gap_8 : decode cX8_gap 8 = .ok (.iconst (-1), 1) := by decide +kernel
theorem dX8_gap_9 : decode cX8_gap 9 = .ok (.ireturn, 1) := by decide +kernel
theorem dX8_gap_10 : decode cX8_gap 10 = .ok (.aload_n 0, 1) := by decide +kernel
theorem dX8_gap_11 : decode cX8_gap 11 = .ok (.iload_n 1, 1) := by decide +kernel
theorem dX8_gap_12 : decode cX8_gap 12 = .ok (.iload_n 1, 1) := by decide +kernel
theorem dX8_gap_13 : decode cX8_gap 13 = .ok (.iconst 1, 1) := by decide +kernel
theorem dX8_gap_14 : decode cX8_gap 14 = .ok (.invokevirtual 235, 3) := by decide +kernel
theorem dX8_gap_17 : decode cX8_gap 17 = .ok (.aload_n 0, 1) := by decide +kernel
theorem dX8_gap_18 : decode cX8_gap 18 = .ok (.iload_n 2, 1) := by decide +kernel
theorem dX8_gap_19 : decode cX8_gap 19 = .ok (.iload_n 3, 1) := by decide +kernel
theorem dX8_gap_20 : decode cX8_gap 20 = .ok (.iconst 5, 1) := by decide +kernel
theorem dX8_gap_21 : decode cX8_gap 21 = .ok (.invokevirtual 239, 3) := by decide +kernel
theorem dX8_gap_24 : decode cX8_gap 24 = .ok (.ireturn, 1) := by decide +kernel
theorem dX8_diff_0 : decode cX8_diff 0 = .ok (.aload_n 0, 1) := by decide +kernel
theorem dX8_diff_1 : decode cX8_diff 1 = .ok (.iload_n 1, 1) := by decide +kernel
theorem dX8_diff_2 : decode cX8_diff 2 = .ok (.invokevirtual 109, 3) := by decide +kernel
theorem dX8_diff_5 : decode cX8_diff 5 = .ok (.ifCond .eq 11, 3) := by decide +kernel
theorem dX8_diff_8 : decode cX8_diff 8 = .ok (.aload_n 0, 1) := by decide +kernel
theorem dX8_diff_9 : decode cX8_diff 9 = .ok (.iload_n 2, 1) := by decide +kernel
theorem dX8_diff_10 : decode cX8_diff 10 = .ok (.invokevirtual 109, 3) := by decide +kernel
theorem dX8_diff_13 : decode cX8_diff 13 = .ok (.ifCond .ne 5, 3) := by decide +kernel
theorem dX8_diff_16 : decode cX8_diff 16 = .ok (.iconst (-1), 1) := by decide +kernel
theorem dX8_diff_17 : decode cX8_diff 17 = .ok (.ireturn, 1) := by decide +kernel
theorem dX8_diff_18 : decode cX8_diff 18 = .ok (.aload_n 0, 1) := by decide +kernel
theorem dX8_diff_19 : decode cX8_diff 19 = .ok (.iload_n 1, 1) := by decide +kernel
theorem dX8_diff_20 : decode cX8_diff 20 = .ok (.iload_n 2, 1) := by decide +kernel
theorem dX8_diff_21 : decode cX8_diff 21 = .ok (.iconst 2, 1) := by decide +kernel
theorem dX8_diff_22 : decode cX8_diff 22 = .ok (.invokevirtual 235, 3) := by decide +kernel
theorem dX8_diff_25 : decode cX8_diff 25 = .ok (.aload_n 0, 1) := by decide +kernel
theorem dX8_diff_26 : decode cX8_diff 26 = .ok (.iload_n 3, 1) := by decide +kernel
theorem dX8_diff_27 : decode cX8_diff 27 = .ok (.iload 4, 2) := by decide +kernel
theorem dX8_diff_29 : decode cX8_diff 29 = .ok (.bipush 7, 2) := by decide +kernel
theorem dX8_diff_31 : decode cX8_diff 31 = .ok (.invokevirtual 239, 3) := by decide +kernel
theorem dX8_diff_34 : decode cX8_diff 34 = .ok (.ireturn, 1) := by decide +kernel
theorem dX8_meets_0 : decode cX8_meets 0 = .ok (.aload_n 0, 1) := by decide +kernel
theorem dX8_meets_1 : decode cX8_meets 1 = .ok (.getfield 9, 3) := by decide +kernel
theorem dX8_meets_4 : decode cX8_meets 4 = .ok (.iload_n 1, 1) := by decide +kernel
theorem dX8_meets_5 : decode cX8_meets 5 = .ok (.iaload, 1) := by decide +kernel
theorem dX8_meets_6 : decode cX8_meets 6 = .ok (.istore_n 2, 1) := by decide +kernel
theorem dX8_meets_7 : decode cX8_meets 7 = .ok (.iload_n 2, 1) := by decide +kernel
theorem dX8_meets_8 : decode cX8_meets 8 = .ok (.iconst 2, 1) := by decide +kernel
theorem dX8_meets_9 : decode cX8_meets 9 = .ok (.if_icmp .ne 29, 3) := by decide +kernel
theorem dX8_meets_12 : decode cX8_meets 12 = .ok (.aload_n 0, 1) := by decide +kernel
theorem dX8_meets_13 : decode cX8_meets 13 = .ok (.getfield 188, 3) := by decide +kernel
theorem dX8_meets_16 : decode cX8_meets 16 = .ok (.aload_n 0, 1) := by decide +kernel
theorem dX8_meets_17 : decode cX8_meets 17 = .ok (.getfield 194, 3) := by decide +kernel
theorem dX8_meets_20 : decode cX8_meets 20 = .ok (.if_icmp .ne 8, 3) := by decide +kernel
theorem dX8_meets_23 : decode cX8_meets 23 = .ok (.aload_n 0, 1) := by decide +kernel
theorem dX8_meets_24 : decode cX8_meets 24 = .ok (.iload_n 1, 1) := by decide +kernel
theorem dX8_meets_25 : decode cX8_meets 25 = .ok (.putfield 242, 3) := by decide +kernel
theorem dX8_meets_28 : decode cX8_meets 28 = .ok (.aload_n 0, 1) := by decide +kernel
theorem dX8_meets_29 : decode cX8_meets 29 = .ok (.dup, 1) := by decide +kernel
theorem dX8_meets_30 : decode cX8_meets 30 = .ok (.getfield 188, 3) := by decide +kernel
theorem dX8_meets_33 : decode cX8_meets 33 = .ok (.iconst 1, 1) := by decide +kernel
theorem dX8_meets_34 : decode cX8_meets 34 = .ok (.iadd, 1) := by decide +kernel
theorem dX8_meets_35 : decode cX8_meets 35 = .ok (.putfield 188, 3) := by decide +kernel
theorem dX8_meets_38 : decode cX8_meets 38 = .ok (.aload_n 0, 1) := by decide +kernel
theorem dX8_meets_39 : decode cX8_meets 39 = .ok (.getfield 18, 3) := by decide +kernel
theorem dX8_meets_42 : decode cX8_meets 42 = .ok (.iload_n 1, 1) := by decide +kernel
theorem dX8_meets_43 : decode cX8_meets 43 = .ok (.iaload, 1) := by decide +kernel
theorem dX8_meets_44 : decode cX8_meets 44 = .ok (.ifCond .lt 13, 3) := by decide +kernel
theorem dX8_meets_47 : decode cX8_meets 47 = .ok (.aload_n 0, 1) := by decide +kernel
theorem dX8_meets_48 : decode cX8_meets 48 = .ok (.aload_n 0, 1) := by decide +kernel
theorem dX8_meets_49 : decode cX8_meets 49 = .ok (.getfield 18, 3) := by decide +kernel
theorem dX8_meets_52 : decode cX8_meets 52 = .ok (.iload_n 1, 1) := by decide +kernel
theorem dX8_meets_53 : decode cX8_meets 53 = .ok (.iaload, 1) := by decide +kernel
theorem dX8_meets_54 : decode cX8_meets 54 = .ok (.invokevirtual 245, 3) := by decide +kernel
theorem dX8_meets_57 : decode cX8_meets 57 = .ok (.aload_n 0, 1) := by decide +kernel
theorem dX8_meets_58 : decode cX8_meets 58 = .ok (.getfield 21, 3) := by decide +kernel
theorem dX8_meets_61 : decode cX8_meets 61 = .ok (.iload_n 1, 1) := by decide +kernel
theorem dX8_meets_62 : decode cX8_meets 62 = .ok (.iaload, 1) := by decide +kernel
theorem dX8_meets_63 : decode cX8_meets 63 = .ok (.ifCond .lt 13, 3) := by decide +kernel
theorem dX8_meets_66 : decode cX8_meets 66 = .ok (.aload_n 0, 1) := by decide +kernel
theorem dX8_meets_67 : decode cX8_meets 67 = .ok (.aload_n 0, 1) := by decide +kernel
theorem dX8_meets_68 : decode cX8_meets 68 = .ok (.getfield 21, 3) := by decide +kernel
theorem dX8_meets_71 : decode cX8_meets 71 = .ok (.iload_n 1, 1) := by decide +kernel
theorem dX8_meets_72 : decode cX8_meets 72 = .ok (.iaload, 1) := by decide +kernel
theorem dX8_meets_73 : decode cX8_meets 73 = .ok (.invokevirtual 245, 3) := by decide +kernel
theorem dX8_meets_76 : decode cX8_meets 76 = .ok (.return_, 1) := by decide +kernel
theorem dX8_rule_0 : decode cX8_rule 0 = .ok (.aload_n 0, 1) := by decide +kernel
theorem dX8_rule_1 : decode cX8_rule 1 = .ok (.iload_n 1, 1) := by decide +kernel
theorem dX8_rule_2 : decode cX8_rule 2 = .ok (.invokevirtual 109, 3) := by decide +kernel
theorem dX8_rule_5 : decode cX8_rule 5 = .ok (.ifCond .ne 5, 3) := by decide +kernel
theorem dX8_rule_8 : decode cX8_rule 8 = .ok (.iconst (-1), 1) := by decide +kernel
theorem dX8_rule_9 : decode cX8_rule 9 = .ok (.ireturn, 1) := by decide +kernel
theorem dX8_rule_10 : decode cX8_rule 10 = .ok (.aload_n 0, 1) := by decide +kernel
theorem dX8_rule_11 : decode cX8_rule 11 = .ok (.iconst 0, 1) := by decide +kernel
theorem dX8_rule_12 : decode cX8_rule 12 = .ok (.putfield 188, 3) := by decide +kernel
theorem dX8_rule_15 : decode cX8_rule 15 = .ok (.aload_n 0, 1) := by decide +kernel
theorem dX8_rule_16 : decode cX8_rule 16 = .ok (.iload_n 2, 1) := by decide +kernel
theorem dX8_rule_17 : decode cX8_rule 17 = .ok (.putfield 194, 3) := by decide +kernel
theorem dX8_rule_20 : decode cX8_rule 20 = .ok (.aload_n 0, 1) := by decide +kernel
theorem dX8_rule_21 : decode cX8_rule 21 = .ok (.iconst (-1), 1) := by decide +kernel
theorem dX8_rule_22 : decode cX8_rule 22 = .ok (.putfield 242, 3) := by decide +kernel
theorem dX8_rule_25 : decode cX8_rule 25 = .ok (.aload_n 0, 1) := by decide +kernel
theorem dX8_rule_26 : decode cX8_rule 26 = .ok (.iload_n 1, 1) := by decide +kernel
theorem dX8_rule_27 : decode cX8_rule 27 = .ok (.invokevirtual 245, 3) := by decide +kernel
theorem dX8_rule_30 : decode cX8_rule 30 = .ok (.iload_n 2, 1) := by decide +kernel
theorem dX8_rule_31 : decode cX8_rule 31 = .ok (.iconst (-1), 1) := by decide +kernel
theorem dX8_rule_32 : decode cX8_rule 32 = .ok (.if_icmp .ne 10, 3) := by decide +kernel
theorem dX8_rule_35 : decode cX8_rule 35 = .ok (.aload_n 0, 1) := by decide +kernel
theorem dX8_rule_36 : decode cX8_rule 36 = .ok (.getfield 188, 3) := by decide +kernel
theorem dX8_rule_39 : decode cX8_rule 39 = .ok (.goto 7, 3) := by decide +kernel
theorem dX8_rule_42 : decode cX8_rule 42 = .ok (.aload_n 0, 1) := by decide +kernel
theorem dX8_rule_43 : decode cX8_rule 43 = .ok (.getfield 242, 3) := by decide +kernel
theorem dX8_rule_46 : decode cX8_rule 46 = .ok (.ireturn, 1) := by decide +kernel
theorem dX8_idle_0 : decode cX8_idle 0 = .ok (.iload_n 2, 1) := by decide +kernel
theorem dX8_idle_1 : decode cX8_idle 1 = .ok (.ifCond .lt 13, 3) := by decide +kernel
theorem dX8_idle_4 : decode cX8_idle 4 = .ok (.aload_n 0, 1) := by decide +kernel
theorem dX8_idle_5 : decode cX8_idle 5 = .ok (.iload_n 1, 1) := by decide +kernel
theorem dX8_idle_6 : decode cX8_idle 6 = .ok (.iload_n 2, 1) := by decide +kernel
theorem dX8_idle_7 : decode cX8_idle 7 = .ok (.invokevirtual 248, 3) := by decide +kernel
theorem dX8_idle_10 : decode cX8_idle 10 = .ok (.iconst (-1), 1) := by decide +kernel
theorem dX8_idle_11 : decode cX8_idle 11 = .ok (.if_icmp .ne 5, 3) := by decide +kernel
theorem dX8_idle_14 : decode cX8_idle 14 = .ok (.iconst (-1), 1) := by decide +kernel
theorem dX8_idle_15 : decode cX8_idle 15 = .ok (.ireturn, 1) := by decide +kernel
theorem dX8_idle_16 : decode cX8_idle 16 = .ok (.aload_n 0, 1) := by decide +kernel
theorem dX8_idle_17 : decode cX8_idle 17 = .ok (.iconst (-1), 1) := by decide +kernel
theorem dX8_idle_18 : decode cX8_idle 18 = .ok (.putfield 194, 3) := by decide +kernel
theorem dX8_idle_21 : decode cX8_idle 21 = .ok (.aload_n 0, 1) := by decide +kernel
theorem dX8_idle_22 : decode cX8_idle 22 = .ok (.iload_n 1, 1) := by decide +kernel
theorem dX8_idle_23 : decode cX8_idle 23 = .ok (.aload_n 0, 1) := by decide +kernel
theorem dX8_idle_24 : decode cX8_idle 24 = .ok (.getfield 39, 3) := by decide +kernel
theorem dX8_idle_27 : decode cX8_idle 27 = .ok (.invokevirtual 213, 3) := by decide +kernel
theorem dX8_idle_30 : decode cX8_idle 30 = .ok (.aload_n 0, 1) := by decide +kernel
theorem dX8_idle_31 : decode cX8_idle 31 = .ok (.iload_n 2, 1) := by decide +kernel
theorem dX8_idle_32 : decode cX8_idle 32 = .ok (.putfield 194, 3) := by decide +kernel
theorem dX8_idle_35 : decode cX8_idle 35 = .ok (.aload_n 0, 1) := by decide +kernel
theorem dX8_idle_36 : decode cX8_idle 36 = .ok (.iload_n 1, 1) := by decide +kernel
theorem dX8_idle_37 : decode cX8_idle 37 = .ok (.aload_n 0, 1) := by decide +kernel
theorem dX8_idle_38 : decode cX8_idle 38 = .ok (.getfield 42, 3) := by decide +kernel
theorem dX8_idle_41 : decode cX8_idle 41 = .ok (.invokevirtual 213, 3) := by decide +kernel
theorem dX8_idle_44 : decode cX8_idle 44 = .ok (.iconst 0, 1) := by decide +kernel
theorem dX8_idle_45 : decode cX8_idle 45 = .ok (.istore_n 3, 1) := by decide +kernel
theorem dX8_idle_46 : decode cX8_idle 46 = .ok (.iload_n 3, 1) := by decide +kernel
theorem dX8_idle_47 : decode cX8_idle 47 = .ok (.sipush 224, 3) := by decide +kernel
theorem dX8_idle_50 : decode cX8_idle 50 = .ok (.if_icmp .ge 26, 3) := by decide +kernel
theorem dX8_idle_53 : decode cX8_idle 53 = .ok (.aload_n 0, 1) := by decide +kernel
theorem dX8_idle_54 : decode cX8_idle 54 = .ok (.getfield 39, 3) := by decide +kernel
theorem dX8_idle_57 : decode cX8_idle 57 = .ok (.iload_n 3, 1) := by decide +kernel
theorem dX8_idle_58 : decode cX8_idle 58 = .ok (.iaload, 1) := by decide +kernel
theorem dX8_idle_59 : decode cX8_idle 59 = .ok (.aload_n 0, 1) := by decide +kernel
theorem dX8_idle_60 : decode cX8_idle 60 = .ok (.getfield 42, 3) := by decide +kernel
theorem dX8_idle_63 : decode cX8_idle 63 = .ok (.iload_n 3, 1) := by decide +kernel
theorem dX8_idle_64 : decode cX8_idle 64 = .ok (.iaload, 1) := by decide +kernel
theorem dX8_idle_65 : decode cX8_idle 65 = .ok (.if_icmp .eq 5, 3) := by decide +kernel
theorem dX8_idle_68 : decode cX8_idle 68 = .ok (.iconst 0, 1) := by decide +kernel
theorem dX8_idle_69 : decode cX8_idle 69 = .ok (.ireturn, 1) := by decide +kernel
theorem dX8_idle_70 : decode cX8_idle 70 = .ok (.iinc 3 1, 3) := by decide +kernel
theorem dX8_idle_73 : decode cX8_idle 73 = .ok (.goto (-27), 3) := by decide +kernel
theorem dX8_idle_76 : decode cX8_idle 76 = .ok (.iconst 1, 1) := by decide +kernel
theorem dX8_idle_77 : decode cX8_idle 77 = .ok (.ireturn, 1) := by decide +kernel
theorem dX8_overlap_0 : decode cX8_overlap 0 = .ok (.aload_n 0, 1) := by decide +kernel
theorem dX8_overlap_1 : decode cX8_overlap 1 = .ok (.iload_n 1, 1) := by decide +kernel
theorem dX8_overlap_2 : decode cX8_overlap 2 = .ok (.invokevirtual 109, 3) := by decide +kernel
theorem dX8_overlap_5 : decode cX8_overlap 5 = .ok (.ifCond .eq 11, 3) := by decide +kernel
theorem dX8_overlap_8 : decode cX8_overlap 8 = .ok (.aload_n 0, 1) := by decide +kernel
theorem dX8_overlap_9 : decode cX8_overlap 9 = .ok (.iload_n 2, 1) := by decide +kernel
theorem dX8_overlap_10 : decode cX8_overlap 10 = .ok (.invokevirtual 109, 3) := by decide +kernel
theorem dX8_overlap_13 : decode cX8_overlap 13 = .ok (.ifCond .ne 5, 3) := by decide +kernel
theorem dX8_overlap_16 : decode cX8_overlap 16 = .ok (.iconst (-1), 1) := by decide +kernel
theorem dX8_overlap_17 : decode cX8_overlap 17 = .ok (.ireturn, 1) := by decide +kernel
theorem dX8_overlap_18 : decode cX8_overlap 18 = .ok (.aload_n 0, 1) := by decide +kernel
theorem dX8_overlap_19 : decode cX8_overlap 19 = .ok (.getfield 24, 3) := by decide +kernel
theorem dX8_overlap_22 : decode cX8_overlap 22 = .ok (.iload_n 1, 1) := by decide +kernel
theorem dX8_overlap_23 : decode cX8_overlap 23 = .ok (.iaload, 1) := by decide +kernel
theorem dX8_overlap_24 : decode cX8_overlap 24 = .ok (.bipush (-5), 2) := by decide +kernel
theorem dX8_overlap_26 : decode cX8_overlap 26 = .ok (.if_icmp .eq 14, 3) := by decide +kernel
theorem dX8_overlap_29 : decode cX8_overlap 29 = .ok (.aload_n 0, 1) := by decide +kernel
theorem dX8_overlap_30 : decode cX8_overlap 30 = .ok (.getfield 24, 3) := by decide +kernel
theorem dX8_overlap_33 : decode cX8_overlap 33 = .ok (.iload_n 2, 1) := by decide +kernel
theorem dX8_overlap_34 : decode cX8_overlap 34 = .ok (.iaload, 1) := by decide +kernel
theorem dX8_overlap_35 : decode cX8_overlap 35 = .ok (.bipush (-5), 2) := by decide +kernel
theorem dX8_overlap_37 : decode cX8_overlap 37 = .ok (.if_icmp .ne 6, 3) := by decide +kernel
theorem dX8_overlap_40 : decode cX8_overlap 40 = .ok (.bipush (-5), 2) := by decide +kernel
theorem dX8_overlap_42 : decode cX8_overlap 42 = .ok (.ireturn, 1) := by decide +kernel
theorem dX8_overlap_43 : decode cX8_overlap 43 = .ok (.iconst 0, 1) := by decide +kernel
theorem dX8_overlap_44 : decode cX8_overlap 44 = .ok (.istore_n 3, 1) := by decide +kernel
theorem dX8_overlap_45 : decode cX8_overlap 45 = .ok (.iconst 0, 1) := by decide +kernel
theorem dX8_overlap_46 : decode cX8_overlap 46 = .ok (.istore 4, 2) := by decide +kernel
theorem dX8_overlap_48 : decode cX8_overlap 48 = .ok (.iload 4, 2) := by decide +kernel
theorem dX8_overlap_50 : decode cX8_overlap 50 = .ok (.sipush 224, 3) := by decide +kernel
theorem dX8_overlap_53 : decode cX8_overlap 53 = .ok (.if_icmp .ge 40, 3) := by decide +kernel
theorem dX8_overlap_56 : decode cX8_overlap 56 = .ok (.iload 4, 2) := by decide +kernel
theorem dX8_overlap_58 : decode cX8_overlap 58 = .ok (.aload_n 0, 1) := by decide +kernel
theorem dX8_overlap_59 : decode cX8_overlap 59 = .ok (.getfield 24, 3) := by decide +kernel
theorem dX8_overlap_62 : decode cX8_overlap 62 = .ok (.iload_n 1, 1) := by decide +kernel
theorem dX8_overlap_63 : decode cX8_overlap 63 = .ok (.iaload, 1) := by decide +kernel
theorem dX8_overlap_64 : decode cX8_overlap 64 = .ok (.invokestatic 197, 3) := by decide +kernel
theorem dX8_overlap_67 : decode cX8_overlap 67 = .ok (.ifCond .eq 20, 3) := by decide +kernel
theorem dX8_overlap_70 : decode cX8_overlap 70 = .ok (.iload 4, 2) := by decide +kernel
theorem dX8_overlap_72 : decode cX8_overlap 72 = .ok (.aload_n 0, 1) := by decide +kernel
theorem dX8_overlap_73 : decode cX8_overlap 73 = .ok (.getfield 24, 3) := by decide +kernel
theorem dX8_overlap_76 : decode cX8_overlap 76 = .ok (.iload_n 2, 1) := by decide +kernel
theorem dX8_overlap_77 : decode cX8_overlap 77 = .ok (.iaload, 1) := by decide +kernel
theorem dX8_overlap_78 : decode cX8_overlap 78 = .ok (.invokestatic 197, 3) := by decide +kernel
theorem dX8_overlap_81 : decode cX8_overlap 81 = .ok (.ifCond .eq 6, 3) := by decide +kernel
theorem dX8_overlap_84 : decode cX8_overlap 84 = .ok (.iinc 3 1, 3) := by decide +kernel
theorem dX8_overlap_87 : decode cX8_overlap 87 = .ok (.iinc 4 1, 3) := by decide +kernel
theorem dX8_overlap_90 : decode cX8_overlap 90 = .ok (.goto (-42), 3) := by decide +kernel
theorem dX8_overlap_93 : decode cX8_overlap 93 = .ok (.iload_n 3, 1) := by decide +kernel
theorem dX8_overlap_94 : decode cX8_overlap 94 = .ok (.ireturn, 1) := by decide +kernel
theorem dX8_isFlat_0 : decode cX8_isFlat 0 = .ok (.aload_n 0, 1) := by decide +kernel
theorem dX8_isFlat_1 : decode cX8_isFlat 1 = .ok (.iload_n 1, 1) := by decide +kernel
theorem dX8_isFlat_2 : decode cX8_isFlat 2 = .ok (.invokevirtual 109, 3) := by decide +kernel
theorem dX8_isFlat_5 : decode cX8_isFlat 5 = .ok (.ifCond .eq 16, 3) := by decide +kernel
theorem dX8_isFlat_8 : decode cX8_isFlat 8 = .ok (.aload_n 0, 1) := by decide +kernel
theorem dX8_isFlat_9 : decode cX8_isFlat 9 = .ok (.getfield 9, 3) := by decide +kernel
theorem dX8_isFlat_12 : decode cX8_isFlat 12 = .ok (.iload_n 1, 1) := by decide +kernel
theorem dX8_isFlat_13 : decode cX8_isFlat 13 = .ok (.iaload, 1) := by decide +kernel
theorem dX8_isFlat_14 : decode cX8_isFlat 14 = .ok (.ifCond .ne 7, 3) := by decide +kernel
theorem dX8_isFlat_17 : decode cX8_isFlat 17 = .ok (.iconst 1, 1) := by decide +kernel
theorem dX8_isFlat_18 : decode cX8_isFlat 18 = .ok (.goto 4, 3) := by decide +kernel
theorem dX8_isFlat_21 : decode cX8_isFlat 21 = .ok (.iconst 0, 1) := by decide +kernel
theorem dX8_isFlat_22 : decode cX8_isFlat 22 = .ok (.ireturn, 1) := by decide +kernel
theorem dX8_wouldSay_0 : decode cX8_wouldSay 0 = .ok (.aload_n 0, 1) := by decide +kernel
theorem dX8_wouldSay_1 : decode cX8_wouldSay 1 = .ok (.iconst (-1), 1) := by decide +kernel
theorem dX8_wouldSay_2 : decode cX8_wouldSay 2 = .ok (.putfield 194, 3) := by decide +kernel
theorem dX8_wouldSay_5 : decode cX8_wouldSay 5 = .ok (.aload_n 0, 1) := by decide +kernel
theorem dX8_wouldSay_6 : decode cX8_wouldSay 6 = .ok (.iload_n 1, 1) := by decide +kernel
theorem dX8_wouldSay_7 : decode cX8_wouldSay 7 = .ok (.putfield 52, 3) := by decide +kernel
theorem dX8_wouldSay_10 : decode cX8_wouldSay 10 = .ok (.aload_n 0, 1) := by decide +kernel
theorem dX8_wouldSay_11 : decode cX8_wouldSay 11 = .ok (.iload_n 2, 1) := by decide +kernel
theorem dX8_wouldSay_12 : decode cX8_wouldSay 12 = .ok (.putfield 201, 3) := by decide +kernel
theorem dX8_wouldSay_15 : decode cX8_wouldSay 15 = .ok (.aload_n 0, 1) := by decide +kernel
theorem dX8_wouldSay_16 : decode cX8_wouldSay 16 = .ok (.iload_n 3, 1) := by decide +kernel
theorem dX8_wouldSay_17 : decode cX8_wouldSay 17 = .ok (.iload 4, 2) := by decide +kernel
theorem dX8_wouldSay_19 : decode cX8_wouldSay 19 = .ok (.invokevirtual 207, 3) := by decide +kernel
theorem dX8_wouldSay_22 : decode cX8_wouldSay 22 = .ok (.istore 5, 2) := by decide +kernel
theorem dX8_wouldSay_24 : decode cX8_wouldSay 24 = .ok (.aload_n 0, 1) := by decide +kernel
theorem dX8_wouldSay_25 : decode cX8_wouldSay 25 = .ok (.iconst (-1), 1) := by decide +kernel
theorem dX8_wouldSay_26 : decode cX8_wouldSay 26 = .ok (.putfield 52, 3) := by decide +kernel
theorem dX8_wouldSay_29 : decode cX8_wouldSay 29 = .ok (.iload 5, 2) := by decide +kernel
theorem dX8_wouldSay_31 : decode cX8_wouldSay 31 = .ok (.ireturn, 1) := by decide +kernel
theorem dX8_would_0 : decode cX8_would 0 = .ok (.aload_n 0, 1) := by decide +kernel
theorem dX8_would_1 : decode cX8_would 1 = .ok (.iload_n 1, 1) := by decide +kernel
theorem dX8_would_2 : decode cX8_would 2 = .ok (.invokevirtual 251, 3) := by decide +kernel
theorem dX8_would_5 : decode cX8_would 5 = .ok (.ifCond .eq 19, 3) := by decide +kernel
theorem dX8_would_8 : decode cX8_would 8 = .ok (.aload_n 0, 1) := by decide +kernel
theorem dX8_would_9 : decode cX8_would 9 = .ok (.iload_n 3, 1) := by decide +kernel
theorem dX8_would_10 : decode cX8_would 10 = .ok (.invokevirtual 109, 3) := by decide +kernel
theorem dX8_would_13 : decode cX8_would 13 = .ok (.ifCond .eq 11, 3) := by decide +kernel
theorem dX8_would_16 : decode cX8_would 16 = .ok (.iload 4, 2) := by decide +kernel
theorem dX8_would_18 : decode cX8_would 18 = .ok (.invokestatic 210, 3) := by decide +kernel
theorem dX8_would_21 : decode cX8_would 21 = .ok (.ifCond .ne 5, 3) := by decide +kernel
theorem dX8_would_24 : decode cX8_would 24 = .ok (.iconst (-1), 1) := by decide +kernel
theorem dX8_would_25 : decode cX8_would 25 = .ok (.ireturn, 1) := by decide +kernel
theorem dX8_would_26 : decode cX8_would 26 = .ok (.iload_n 2, 1) := by decide +kernel
theorem dX8_would_27 : decode cX8_would 27 = .ok (.iconst 0, 1) := by decide +kernel
theorem dX8_would_28 : decode cX8_would 28 = .ok (.bipush 99, 2) := by decide +kernel
theorem dX8_would_30 : decode cX8_would 30 = .ok (.invokestatic 80, 3) := by decide +kernel
theorem dX8_would_33 : decode cX8_would 33 = .ok (.ifCond .eq 15, 3) := by decide +kernel
theorem dX8_would_36 : decode cX8_would 36 = .ok (.aload_n 0, 1) := by decide +kernel
theorem dX8_would_37 : decode cX8_would 37 = .ok (.iload_n 1, 1) := by decide +kernel
theorem dX8_would_38 : decode cX8_would 38 = .ok (.iload_n 2, 1) := by decide +kernel
theorem dX8_would_39 : decode cX8_would 39 = .ok (.iload_n 3, 1) := by decide +kernel
theorem dX8_would_40 : decode cX8_would 40 = .ok (.iload 4, 2) := by decide +kernel
theorem dX8_would_42 : decode cX8_would 42 = .ok (.invokevirtual 254, 3) := by decide +kernel
theorem dX8_would_45 : decode cX8_would 45 = .ok (.goto 5, 3) := by decide +kernel
theorem dX8_would_48 : decode cX8_would 48 = .ok (.bipush (-2), 2) := by decide +kernel
theorem dX8_would_50 : decode cX8_would 50 = .ok (.ireturn, 1) := by decide +kernel
theorem dX8_paid_0 : decode cX8_paid 0 = .ok (.iload_n 1, 1) := by decide +kernel
theorem dX8_paid_1 : decode cX8_paid 1 = .ok (.iconst (-1), 1) := by decide +kernel
theorem dX8_paid_2 : decode cX8_paid 2 = .ok (.if_icmp .ne 10, 3) := by decide +kernel
theorem dX8_paid_5 : decode cX8_paid 5 = .ok (.aload_n 0, 1) := by decide +kernel
theorem dX8_paid_6 : decode cX8_paid 6 = .ok (.iconst 0, 1) := by decide +kernel
theorem dX8_paid_7 : decode cX8_paid 7 = .ok (.putfield 258, 3) := by decide +kernel
theorem dX8_paid_10 : decode cX8_paid 10 = .ok (.iconst 0, 1) := by decide +kernel
theorem dX8_paid_11 : decode cX8_paid 11 = .ok (.ireturn, 1) := by decide +kernel
theorem dX8_paid_12 : decode cX8_paid 12 = .ok (.iload_n 1, 1) := by decide +kernel
theorem dX8_paid_13 : decode cX8_paid 13 = .ok (.invokestatic 210, 3) := by decide +kernel
theorem dX8_paid_16 : decode cX8_paid 16 = .ok (.ifCond .ne 5, 3) := by decide +kernel
theorem dX8_paid_19 : decode cX8_paid 19 = .ok (.iconst (-1), 1) := by decide +kernel
theorem dX8_paid_20 : decode cX8_paid 20 = .ok (.ireturn, 1) := by decide +kernel
theorem dX8_paid_21 : decode cX8_paid 21 = .ok (.iload_n 2, 1) := by decide +kernel
theorem dX8_paid_22 : decode cX8_paid 22 = .ok (.iconst (-1), 1) := by decide +kernel
theorem dX8_paid_23 : decode cX8_paid 23 = .ok (.bipush 99, 2) := by decide +kernel
theorem dX8_paid_25 : decode cX8_paid 25 = .ok (.invokestatic 80, 3) := by decide +kernel
theorem dX8_paid_28 : decode cX8_paid 28 = .ok (.ifCond .ne 6, 3) := by decide +kernel
theorem dX8_paid_31 : decode cX8_paid 31 = .ok (.bipush (-2), 2) := by decide +kernel
theorem dX8_paid_33 : decode cX8_paid 33 = .ok (.ireturn, 1) := by decide +kernel
theorem dX8_paid_34 : decode cX8_paid 34 = .ok (.aload_n 0, 1) := by decide +kernel
theorem dX8_paid_35 : decode cX8_paid 35 = .ok (.getfield 258, 3) := by decide +kernel
theorem dX8_paid_38 : decode cX8_paid 38 = .ok (.bipush 8, 2) := by decide +kernel
theorem dX8_paid_40 : decode cX8_paid 40 = .ok (.if_icmp .ne 6, 3) := by decide +kernel
theorem dX8_paid_43 : decode cX8_paid 43 = .ok (.bipush (-4), 2) := by decide +kernel
theorem dX8_paid_45 : decode cX8_paid 45 = .ok (.ireturn, 1) := by decide +kernel
theorem dX8_paid_46 : decode cX8_paid 46 = .ok (.aload_n 0, 1) := by decide +kernel
theorem dX8_paid_47 : decode cX8_paid 47 = .ok (.getfield 33, 3) := by decide +kernel
theorem dX8_paid_50 : decode cX8_paid 50 = .ok (.aload_n 0, 1) := by decide +kernel
theorem dX8_paid_51 : decode cX8_paid 51 = .ok (.getfield 258, 3) := by decide +kernel
theorem dX8_paid_54 : decode cX8_paid 54 = .ok (.iload_n 1, 1) := by decide +kernel
theorem dX8_paid_55 : decode cX8_paid 55 = .ok (.iastore, 1) := by decide +kernel
theorem dX8_paid_56 : decode cX8_paid 56 = .ok (.aload_n 0, 1) := by decide +kernel
theorem dX8_paid_57 : decode cX8_paid 57 = .ok (.getfield 36, 3) := by decide +kernel
theorem dX8_paid_60 : decode cX8_paid 60 = .ok (.aload_n 0, 1) := by decide +kernel
theorem dX8_paid_61 : decode cX8_paid 61 = .ok (.getfield 258, 3) := by decide +kernel
theorem dX8_paid_64 : decode cX8_paid 64 = .ok (.iload_n 2, 1) := by decide +kernel
theorem dX8_paid_65 : decode cX8_paid 65 = .ok (.iastore, 1) := by decide +kernel
theorem dX8_paid_66 : decode cX8_paid 66 = .ok (.aload_n 0, 1) := by decide +kernel
theorem dX8_paid_67 : decode cX8_paid 67 = .ok (.dup, 1) := by decide +kernel
theorem dX8_paid_68 : decode cX8_paid 68 = .ok (.getfield 258, 3) := by decide +kernel
theorem dX8_paid_71 : decode cX8_paid 71 = .ok (.iconst 1, 1) := by decide +kernel
theorem dX8_paid_72 : decode cX8_paid 72 = .ok (.iadd, 1) := by decide +kernel
theorem dX8_paid_73 : decode cX8_paid 73 = .ok (.putfield 258, 3) := by decide +kernel
theorem dX8_paid_76 : decode cX8_paid 76 = .ok (.aload_n 0, 1) := by decide +kernel
theorem dX8_paid_77 : decode cX8_paid 77 = .ok (.getfield 258, 3) := by decide +kernel
theorem dX8_paid_80 : decode cX8_paid 80 = .ok (.ireturn, 1) := by decide +kernel
theorem dX8_fits_0 : decode cX8_fits 0 = .ok (.aload_n 0, 1) := by decide +kernel
theorem dX8_fits_1 : decode cX8_fits 1 = .ok (.iload_n 1, 1) := by decide +kernel
theorem dX8_fits_2 : decode cX8_fits 2 = .ok (.invokevirtual 251, 3) := by decide +kernel
theorem dX8_fits_5 : decode cX8_fits 5 = .ok (.ifCond .eq 20, 3) := by decide +kernel
theorem dX8_fits_8 : decode cX8_fits 8 = .ok (.aload_n 0, 1) := by decide +kernel
theorem dX8_fits_9 : decode cX8_fits 9 = .ok (.iload_n 2, 1) := by decide +kernel
theorem dX8_fits_10 : decode cX8_fits 10 = .ok (.invokevirtual 109, 3) := by decide +kernel
theorem dX8_fits_13 : decode cX8_fits 13 = .ok (.ifCond .eq 12, 3) := by decide +kernel
theorem dX8_fits_16 : decode cX8_fits 16 = .ok (.iload_n 3, 1) := by decide +kernel
theorem dX8_fits_17 : decode cX8_fits 17 = .ok (.iconst 0, 1) := by decide +kernel
theorem dX8_fits_18 : decode cX8_fits 18 = .ok (.iconst 1, 1) := by decide +kernel
theorem dX8_fits_19 : decode cX8_fits 19 = .ok (.invokestatic 80, 3) := by decide +kernel
theorem dX8_fits_22 : decode cX8_fits 22 = .ok (.ifCond .ne 5, 3) := by decide +kernel
theorem dX8_fits_25 : decode cX8_fits 25 = .ok (.iconst (-1), 1) := by decide +kernel
theorem dX8_fits_26 : decode cX8_fits 26 = .ok (.ireturn, 1) := by decide +kernel
theorem dX8_fits_27 : decode cX8_fits 27 = .ok (.iconst 0, 1) := by decide +kernel
theorem dX8_fits_28 : decode cX8_fits 28 = .ok (.istore 4, 2) := by decide +kernel
theorem dX8_fits_30 : decode cX8_fits 30 = .ok (.bipush (-5), 2) := by decide +kernel
theorem dX8_fits_32 : decode cX8_fits 32 = .ok (.istore 5, 2) := by decide +kernel
theorem dX8_fits_34 : decode cX8_fits 34 = .ok (.bipush 99, 2) := by decide +kernel
theorem dX8_fits_36 : decode cX8_fits 36 = .ok (.istore 6, 2) := by decide +kernel
theorem dX8_fits_38 : decode cX8_fits 38 = .ok (.iload 6, 2) := by decide +kernel
theorem dX8_fits_40 : decode cX8_fits 40 = .ok (.ifCond .lt 88, 3) := by decide +kernel
theorem dX8_fits_43 : decode cX8_fits 43 = .ok (.iconst 1, 1) := by decide +kernel
theorem dX8_fits_44 : decode cX8_fits 44 = .ok (.istore 7, 2) := by decide +kernel
theorem dX8_fits_46 : decode cX8_fits 46 = .ok (.iconst 0, 1) := by decide +kernel
theorem dX8_fits_47 : decode cX8_fits 47 = .ok (.istore 8, 2) := by decide +kernel
theorem dX8_fits_49 : decode cX8_fits 49 = .ok (.iload 8, 2) := by decide +kernel
theorem dX8_fits_51 : decode cX8_fits 51 = .ok (.aload_n 0, 1) := by decide +kernel
theorem dX8_fits_52 : decode cX8_fits 52 = .ok (.getfield 258, 3) := by decide +kernel
theorem dX8_fits_55 : decode cX8_fits 55 = .ok (.if_icmp .ge 52, 3) := by decide +kernel
theorem dX8_fits_58 : decode cX8_fits 58 = .ok (.aload_n 0, 1) := by decide +kernel
theorem dX8_fits_59 : decode cX8_fits 59 = .ok (.iload_n 1, 1) := by decide +kernel
theorem dX8_fits_60 : decode cX8_fits 60 = .ok (.iload 6, 2) := by decide +kernel
theorem dX8_fits_62 : decode cX8_fits 62 = .ok (.iload_n 2, 1) := by decide +kernel
theorem dX8_fits_63 : decode cX8_fits 63 = .ok (.aload_n 0, 1) := by decide +kernel
theorem dX8_fits_64 : decode cX8_fits 64 = .ok (.getfield 33, 3) := by decide +kernel
theorem dX8_fits_67 : decode cX8_fits 67 = .ok (.iload 8, 2) := by decide +kernel
theorem dX8_fits_69 : decode cX8_fits 69 = .ok (.iaload, 1) := by decide +kernel
theorem dX8_fits_70 : decode cX8_fits 70 = .ok (.invokevirtual 254, 3) := by decide +kernel
theorem dX8_fits_73 : decode cX8_fits 73 = .ok (.istore 9, 2) := by decide +kernel
theorem dX8_fits_75 : decode cX8_fits 75 = .ok (.iload 9, 2) := by decide +kernel
theorem dX8_fits_77 : decode cX8_fits 77 = .ok (.bipush (-5), 2) := by decide +kernel
theorem dX8_fits_79 : decode cX8_fits 79 = .ok (.if_icmp .ne 7, 3) := by decide +kernel
theorem dX8_fits_82 : decode cX8_fits 82 = .ok (.iconst (-1), 1) := by decide +kernel
theorem dX8_fits_83 : decode cX8_fits 83 = .ok (.goto 5, 3) := by decide +kernel
theorem dX8_fits_86 : decode cX8_fits 86 = .ok (.iload 9, 2) := by decide +kernel
theorem dX8_fits_88 : decode cX8_fits 88 = .ok (.aload_n 0, 1) := by decide +kernel
theorem dX8_fits_89 : decode cX8_fits 89 = .ok (.getfield 36, 3) := by decide +kernel
theorem dX8_fits_92 : decode cX8_fits 92 = .ok (.iload 8, 2) := by decide +kernel
theorem dX8_fits_94 : decode cX8_fits 94 = .ok (.iaload, 1) := by decide +kernel
theorem dX8_fits_95 : decode cX8_fits 95 = .ok (.if_icmp .eq 6, 3) := by decide +kernel
theorem dX8_fits_98 : decode cX8_fits 98 = .ok (.iconst 0, 1) := by decide +kernel
theorem dX8_fits_99 : decode cX8_fits 99 = .ok (.istore 7, 2) := by decide +kernel
theorem dX8_fits_101 : decode cX8_fits 101 = .ok (.iinc 8 1, 3) := by decide +kernel
theorem dX8_fits_104 : decode cX8_fits 104 = .ok (.goto (-55), 3) := by decide +kernel
theorem dX8_fits_107 : decode cX8_fits 107 = .ok (.iload 7, 2) := by decide +kernel
theorem dX8_fits_109 : decode cX8_fits 109 = .ok (.ifCond .ne 6, 3) := by decide +kernel
theorem dX8_fits_112 : decode cX8_fits 112 = .ok (.goto 10, 3) := by decide +kernel
theorem dX8_fits_115 : decode cX8_fits 115 = .ok (.iinc 4 1, 3) := by decide +kernel
theorem dX8_fits_118 : decode cX8_fits 118 = .ok (.iload 6, 2) := by decide +kernel
theorem dX8_fits_120 : decode cX8_fits 120 = .ok (.istore 5, 2) := by decide +kernel
theorem dX8_fits_122 : decode cX8_fits 122 = .ok (.iinc 6 (-1), 3) := by decide +kernel
theorem dX8_fits_125 : decode cX8_fits 125 = .ok (.goto (-87), 3) := by decide +kernel
theorem dX8_fits_128 : decode cX8_fits 128 = .ok (.iload_n 3, 1) := by decide +kernel
theorem dX8_fits_129 : decode cX8_fits 129 = .ok (.ifCond .ne 8, 3) := by decide +kernel
theorem dX8_fits_132 : decode cX8_fits 132 = .ok (.iload 4, 2) := by decide +kernel
theorem dX8_fits_134 : decode cX8_fits 134 = .ok (.goto 5, 3) := by decide +kernel
theorem dX8_fits_137 : decode cX8_fits 137 = .ok (.iload 5, 2) := by decide +kernel
theorem dX8_fits_139 : decode cX8_fits 139 = .ok (.ireturn, 1) := by decide +kernel
theorem dX8_till_0 : decode cX8_till 0 = .ok (.aload_n 0, 1) := by decide +kernel
theorem dX8_till_1 : decode cX8_till 1 = .ok (.iload_n 1, 1) := by decide +kernel
theorem dX8_till_2 : decode cX8_till 2 = .ok (.invokevirtual 109, 3) := by decide +kernel
theorem dX8_till_5 : decode cX8_till 5 = .ok (.ifCond .eq 13, 3) := by decide +kernel
theorem dX8_till_8 : decode cX8_till 8 = .ok (.iload 4, 2) := by decide +kernel
theorem dX8_till_10 : decode cX8_till 10 = .ok (.iconst 0, 1) := by decide +kernel
theorem dX8_till_11 : decode cX8_till 11 = .ok (.iconst 2, 1) := by decide +kernel
theorem dX8_till_12 : decode cX8_till 12 = .ok (.invokestatic 80, 3) := by decide +kernel
theorem dX8_till_15 : decode cX8_till 15 = .ok (.ifCond .ne 5, 3) := by decide +kernel
theorem dX8_till_18 : decode cX8_till 18 = .ok (.iconst (-1), 1) := by decide +kernel
theorem dX8_till_19 : decode cX8_till 19 = .ok (.ireturn, 1) := by decide +kernel
theorem dX8_till_20 : decode cX8_till 20 = .ok (.iload_n 3, 1) := by decide +kernel
theorem dX8_till_21 : decode cX8_till 21 = .ok (.iconst 1, 1) := by decide +kernel
theorem dX8_till_22 : decode cX8_till 22 = .ok (.bipush 40, 2) := by decide +kernel
theorem dX8_till_24 : decode cX8_till 24 = .ok (.invokestatic 80, 3) := by decide +kernel
theorem dX8_till_27 : decode cX8_till 27 = .ok (.ifCond .ne 6, 3) := by decide +kernel
theorem dX8_till_30 : decode cX8_till 30 = .ok (.bipush (-2), 2) := by decide +kernel
theorem dX8_till_32 : decode cX8_till 32 = .ok (.ireturn, 1) := by decide +kernel
theorem dX8_till_33 : decode cX8_till 33 = .ok (.aload_n 0, 1) := by decide +kernel
theorem dX8_till_34 : decode cX8_till 34 = .ok (.iconst (-1), 1) := by decide +kernel
theorem dX8_till_35 : decode cX8_till 35 = .ok (.putfield 194, 3) := by decide +kernel
theorem dX8_till_38 : decode cX8_till 38 = .ok (.iload_n 2, 1) := by decide +kernel
theorem dX8_till_39 : decode cX8_till 39 = .ok (.istore 5, 2) := by decide +kernel
theorem dX8_till_41 : decode cX8_till 41 = .ok (.iconst 0, 1) := by decide +kernel
theorem dX8_till_42 : decode cX8_till 42 = .ok (.istore 6, 2) := by decide +kernel
theorem dX8_till_44 : decode cX8_till 44 = .ok (.iconst 0, 1) := by decide +kernel
theorem dX8_till_45 : decode cX8_till 45 = .ok (.istore 7, 2) := by decide +kernel
theorem dX8_till_47 : decode cX8_till 47 = .ok (.bipush (-5), 2) := by decide +kernel
theorem dX8_till_49 : decode cX8_till 49 = .ok (.istore 8, 2) := by decide +kernel
theorem dX8_till_51 : decode cX8_till 51 = .ok (.iconst 0, 1) := by decide +kernel
theorem dX8_till_52 : decode cX8_till 52 = .ok (.istore 9, 2) := by decide +kernel
theorem dX8_till_54 : decode cX8_till 54 = .ok (.iload 9, 2) := by decide +kernel
theorem dX8_till_56 : decode cX8_till 56 = .ok (.iload_n 3, 1) := by decide +kernel
theorem dX8_till_57 : decode cX8_till 57 = .ok (.if_icmp .ge 71, 3) := by decide +kernel
theorem dX8_till_60 : decode cX8_till 60 = .ok (.iload 5, 2) := by decide +kernel
theorem dX8_till_62 : decode cX8_till 62 = .ok (.ldc_w 261, 3) := by decide +kernel
theorem dX8_till_65 : decode cX8_till 65 = .ok (.imul, 1) := by decide +kernel
theorem dX8_till_66 : decode cX8_till 66 = .ok (.ldc_w 262, 3) := by decide +kernel
theorem dX8_till_69 : decode cX8_till 69 = .ok (.iadd, 1) := by decide +kernel
theorem dX8_till_70 : decode cX8_till 70 = .ok (.istore 5, 2) := by decide +kernel
theorem dX8_till_72 : decode cX8_till 72 = .ok (.aload_n 0, 1) := by decide +kernel
theorem dX8_till_73 : decode cX8_till 73 = .ok (.iload_n 1, 1) := by decide +kernel
theorem dX8_till_74 : decode cX8_till 74 = .ok (.iload 5, 2) := by decide +kernel
theorem dX8_till_76 : decode cX8_till 76 = .ok (.ldc_w 263, 3) := by decide +kernel
theorem dX8_till_79 : decode cX8_till 79 = .ok (.iand, 1) := by decide +kernel
theorem dX8_till_80 : decode cX8_till 80 = .ok (.sipush 256, 3) := by decide +kernel
theorem dX8_till_83 : decode cX8_till 83 = .ok (.idiv, 1) := by decide +kernel
theorem dX8_till_84 : decode cX8_till 84 = .ok (.sipush 224, 3) := by decide +kernel
theorem dX8_till_87 : decode cX8_till 87 = .ok (.irem, 1) := by decide +kernel
theorem dX8_till_88 : decode cX8_till 88 = .ok (.invokevirtual 207, 3) := by decide +kernel
theorem dX8_till_91 : decode cX8_till 91 = .ok (.istore 10, 2) := by decide +kernel
theorem dX8_till_93 : decode cX8_till 93 = .ok (.iload 10, 2) := by decide +kernel
theorem dX8_till_95 : decode cX8_till 95 = .ok (.bipush (-5), 2) := by decide +kernel
theorem dX8_till_97 : decode cX8_till 97 = .ok (.if_icmp .ne 9, 3) := by decide +kernel
theorem dX8_till_100 : decode cX8_till 100 = .ok (.iinc 7 1, 3) := by decide +kernel
theorem dX8_till_103 : decode cX8_till 103 = .ok (.goto 10, 3) := by decide +kernel
theorem dX8_till_106 : decode cX8_till 106 = .ok (.iload 6, 2) := by decide +kernel
theorem dX8_till_108 : decode cX8_till 108 = .ok (.iload 10, 2) := by decide +kernel
theorem dX8_till_110 : decode cX8_till 110 = .ok (.iadd, 1) := by decide +kernel
theorem dX8_till_111 : decode cX8_till 111 = .ok (.istore 6, 2) := by decide +kernel
theorem dX8_till_113 : decode cX8_till 113 = .ok (.iload 8, 2) := by decide +kernel
theorem dX8_till_115 : decode cX8_till 115 = .ok (.iload 10, 2) := by decide +kernel
theorem dX8_till_117 : decode cX8_till 117 = .ok (.invokestatic 96, 3) := by decide +kernel
theorem dX8_till_120 : decode cX8_till 120 = .ok (.istore 8, 2) := by decide +kernel
theorem dX8_till_122 : decode cX8_till 122 = .ok (.iinc 9 1, 3) := by decide +kernel
theorem dX8_till_125 : decode cX8_till 125 = .ok (.goto (-71), 3) := by decide +kernel
theorem dX8_till_128 : decode cX8_till 128 = .ok (.iload 4, 2) := by decide +kernel
theorem dX8_till_130 : decode cX8_till 130 = .ok (.ifCond .ne 8, 3) := by decide +kernel
theorem dX8_till_133 : decode cX8_till 133 = .ok (.iload 6, 2) := by decide +kernel
theorem dX8_till_135 : decode cX8_till 135 = .ok (.goto 16, 3) := by decide +kernel
theorem dX8_till_138 : decode cX8_till 138 = .ok (.iload 4, 2) := by decide +kernel
theorem dX8_till_140 : decode cX8_till 140 = .ok (.iconst 1, 1) := by decide +kernel
theorem dX8_till_141 : decode cX8_till 141 = .ok (.if_icmp .ne 8, 3) := by decide +kernel
theorem dX8_till_144 : decode cX8_till 144 = .ok (.iload 7, 2) := by decide +kernel
theorem dX8_till_146 : decode cX8_till 146 = .ok (.goto 5, 3) := by decide +kernel
theorem dX8_till_149 : decode cX8_till 149 = .ok (.iload 8, 2) := by decide +kernel
theorem dX8_till_151 : decode cX8_till 151 = .ok (.ireturn, 1) := by decide +kernel
theorem dX8_isRack_0 : decode cX8_isRack 0 = .ok (.iload_n 0, 1) := by decide +kernel
theorem dX8_isRack_1 : decode cX8_isRack 1 = .ok (.iconst 0, 1) := by decide +kernel
theorem dX8_isRack_2 : decode cX8_isRack 2 = .ok (.iconst 3, 1) := by decide +kernel
theorem dX8_isRack_3 : decode cX8_isRack 3 = .ok (.invokestatic 80, 3) := by decide +kernel
theorem dX8_isRack_6 : decode cX8_isRack 6 = .ok (.ireturn, 1) := by decide +kernel
theorem dX8_rack_0 : decode cX8_rack 0 = .ok (.iload_n 1, 1) := by decide +kernel
theorem dX8_rack_1 : decode cX8_rack 1 = .ok (.invokestatic 264, 3) := by decide +kernel
theorem dX8_rack_4 : decode cX8_rack 4 = .ok (.ifCond .ne 5, 3) := by decide +kernel
theorem dX8_rack_7 : decode cX8_rack 7 = .ok (.iconst (-1), 1) := by decide +kernel
theorem dX8_rack_8 : decode cX8_rack 8 = .ok (.ireturn, 1) := by decide +kernel
theorem dX8_rack_9 : decode cX8_rack 9 = .ok (.iload_n 2, 1) := by decide +kernel
theorem dX8_rack_10 : decode cX8_rack 10 = .ok (.bipush 70, 2) := by decide +kernel
theorem dX8_rack_12 : decode cX8_rack 12 = .ok (.if_icmp .le 6, 3) := by decide +kernel
theorem dX8_rack_15 : decode cX8_rack 15 = .ok (.bipush (-2), 2) := by decide +kernel
theorem dX8_rack_17 : decode cX8_rack 17 = .ok (.ireturn, 1) := by decide +kernel
theorem dX8_rack_18 : decode cX8_rack 18 = .ok (.iload_n 2, 1) := by decide +kernel
theorem dX8_rack_19 : decode cX8_rack 19 = .ok (.ifCond .ge 6, 3) := by decide +kernel
theorem dX8_rack_22 : decode cX8_rack 22 = .ok (.bipush (-14), 2) := by decide +kernel
theorem dX8_rack_24 : decode cX8_rack 24 = .ok (.ireturn, 1) := by decide +kernel
theorem dX8_rack_25 : decode cX8_rack 25 = .ok (.aload_n 0, 1) := by decide +kernel
theorem dX8_rack_26 : decode cX8_rack 26 = .ok (.getfield 71, 3) := by decide +kernel
theorem dX8_rack_29 : decode cX8_rack 29 = .ok (.iload_n 1, 1) := by decide +kernel
theorem dX8_rack_30 : decode cX8_rack 30 = .ok (.iload_n 2, 1) := by decide +kernel
theorem dX8_rack_31 : decode cX8_rack 31 = .ok (.iconst 1, 1) := by decide +kernel
theorem dX8_rack_32 : decode cX8_rack 32 = .ok (.iadd, 1) := by decide +kernel
theorem dX8_rack_33 : decode cX8_rack 33 = .ok (.iastore, 1) := by decide +kernel
theorem dX8_rack_34 : decode cX8_rack 34 = .ok (.iconst 0, 1) := by decide +kernel
theorem dX8_rack_35 : decode cX8_rack 35 = .ok (.istore_n 3, 1) := by decide +kernel
theorem dX8_rack_36 : decode cX8_rack 36 = .ok (.iload_n 3, 1) := by decide +kernel
theorem dX8_rack_37 : decode cX8_rack 37 = .ok (.bipush 70, 2) := by decide +kernel
theorem dX8_rack_39 : decode cX8_rack 39 = .ok (.if_icmp .ge 21, 3) := by decide +kernel
theorem dX8_rack_42 : decode cX8_rack 42 = .ok (.aload_n 0, 1) := by decide +kernel
theorem dX8_rack_43 : decode cX8_rack 43 = .ok (.getfield 74, 3) := by decide +kernel
theorem dX8_rack_46 : decode cX8_rack 46 = .ok (.bipush 70, 2) := by decide +kernel
theorem dX8_rack_48 : decode cX8_rack 48 = .ok (.iload_n 1, 1) := by decide +kernel
theorem dX8_rack_49 : decode cX8_rack 49 = .ok (.imul, 1) := by decide +kernel
theorem dX8_rack_50 : decode cX8_rack 50 = .ok (.iload_n 3, 1) := by decide +kernel
theorem dX8_rack_51 : decode cX8_rack 51 = .ok (.iadd, 1) := by decide +kernel
theorem dX8_rack_52 : decode cX8_rack 52 = .ok (.iconst 0, 1) := by decide +kernel
theorem dX8_rack_53 : decode cX8_rack 53 = .ok (.iastore, 1) := by decide +kernel
theorem dX8_rack_54 : decode cX8_rack 54 = .ok (.iinc 3 1, 3) := by decide +kernel
theorem dX8_rack_57 : decode cX8_rack 57 = .ok (.goto (-21), 3) := by decide +kernel
theorem dX8_rack_60 : decode cX8_rack 60 = .ok (.iconst 1, 1) := by decide +kernel
theorem dX8_rack_61 : decode cX8_rack 61 = .ok (.ireturn, 1) := by decide +kernel
theorem dX8_put_0 : decode cX8_put 0 = .ok (.iload_n 1, 1) := by decide +kernel
theorem dX8_put_1 : decode cX8_put 1 = .ok (.invokestatic 264, 3) := by decide +kernel
theorem dX8_put_4 : decode cX8_put 4 = .ok (.ifCond .ne 5, 3) := by decide +kernel
theorem dX8_put_7 : decode cX8_put 7 = .ok (.iconst (-1), 1) := by decide +kernel
theorem dX8_put_8 : decode cX8_put 8 = .ok (.ireturn, 1) := by decide +kernel
theorem dX8_put_9 : decode cX8_put 9 = .ok (.aload_n 0, 1) := by decide +kernel
theorem dX8_put_10 : decode cX8_put 10 = .ok (.getfield 71, 3) := by decide +kernel
theorem dX8_put_13 : decode cX8_put 13 = .ok (.iload_n 1, 1) := by decide +kernel
theorem dX8_put_14 : decode cX8_put 14 = .ok (.iaload, 1) := by decide +kernel
theorem dX8_put_15 : decode cX8_put 15 = .ok (.ifCond .ne 6, 3) := by decide +kernel
theorem dX8_put_18 : decode cX8_put 18 = .ok (.bipush (-11), 2) := by decide +kernel
theorem dX8_put_20 : decode cX8_put 20 = .ok (.ireturn, 1) := by decide +kernel
theorem dX8_put_21 : decode cX8_put 21 = .ok (.iload_n 2, 1) := by decide +kernel
theorem dX8_put_22 : decode cX8_put 22 = .ok (.iconst 0, 1) := by decide +kernel
theorem dX8_put_23 : decode cX8_put 23 = .ok (.aload_n 0, 1) := by decide +kernel
theorem dX8_put_24 : decode cX8_put 24 = .ok (.getfield 71, 3) := by decide +kernel
theorem dX8_put_27 : decode cX8_put 27 = .ok (.iload_n 1, 1) := by decide +kernel
theorem dX8_put_28 : decode cX8_put 28 = .ok (.iaload, 1) := by decide +kernel
theorem dX8_put_29 : decode cX8_put 29 = .ok (.iconst 2, 1) := by decide +kernel
theorem dX8_put_30 : decode cX8_put 30 = .ok (.isub, 1) := by decide +kernel
theorem dX8_put_31 : decode cX8_put 31 = .ok (.invokestatic 80, 3) := by decide +kernel
theorem dX8_put_34 : decode cX8_put 34 = .ok (.ifCond .ne 6, 3) := by decide +kernel
theorem dX8_put_37 : decode cX8_put 37 = .ok (.bipush (-13), 2) := by decide +kernel
theorem dX8_put_39 : decode cX8_put 39 = .ok (.ireturn, 1) := by decide +kernel
theorem dX8_put_40 : decode cX8_put 40 = .ok (.aload_n 0, 1) := by decide +kernel
theorem dX8_put_41 : decode cX8_put 41 = .ok (.getfield 74, 3) := by decide +kernel
theorem dX8_put_44 : decode cX8_put 44 = .ok (.bipush 70, 2) := by decide +kernel
theorem dX8_put_46 : decode cX8_put 46 = .ok (.iload_n 1, 1) := by decide +kernel
theorem dX8_put_47 : decode cX8_put 47 = .ok (.imul, 1) := by decide +kernel
theorem dX8_put_48 : decode cX8_put 48 = .ok (.iload_n 2, 1) := by decide +kernel
theorem dX8_put_49 : decode cX8_put 49 = .ok (.iadd, 1) := by decide +kernel
theorem dX8_put_50 : decode cX8_put 50 = .ok (.iload_n 3, 1) := by decide +kernel
theorem dX8_put_51 : decode cX8_put 51 = .ok (.iastore, 1) := by decide +kernel
theorem dX8_put_52 : decode cX8_put 52 = .ok (.iconst 1, 1) := by decide +kernel
theorem dX8_put_53 : decode cX8_put 53 = .ok (.ireturn, 1) := by decide +kernel
theorem dX8_get_0 : decode cX8_get 0 = .ok (.iload_n 1, 1) := by decide +kernel
theorem dX8_get_1 : decode cX8_get 1 = .ok (.invokestatic 264, 3) := by decide +kernel
theorem dX8_get_4 : decode cX8_get 4 = .ok (.ifCond .eq 34, 3) := by decide +kernel
theorem dX8_get_7 : decode cX8_get 7 = .ok (.iload_n 2, 1) := by decide +kernel
theorem dX8_get_8 : decode cX8_get 8 = .ok (.iconst 0, 1) := by decide +kernel
theorem dX8_get_9 : decode cX8_get 9 = .ok (.aload_n 0, 1) := by decide +kernel
theorem dX8_get_10 : decode cX8_get 10 = .ok (.getfield 71, 3) := by decide +kernel
theorem dX8_get_13 : decode cX8_get 13 = .ok (.iload_n 1, 1) := by decide +kernel
theorem dX8_get_14 : decode cX8_get 14 = .ok (.iaload, 1) := by decide +kernel
theorem dX8_get_15 : decode cX8_get 15 = .ok (.iconst 2, 1) := by decide +kernel
theorem dX8_get_16 : decode cX8_get 16 = .ok (.isub, 1) := by decide +kernel
theorem dX8_get_17 : decode cX8_get 17 = .ok (.invokestatic 80, 3) := by decide +kernel
theorem dX8_get_20 : decode cX8_get 20 = .ok (.ifCond .eq 18, 3) := by decide +kernel
theorem dX8_get_23 : decode cX8_get 23 = .ok (.aload_n 0, 1) := by decide +kernel
theorem dX8_get_24 : decode cX8_get 24 = .ok (.getfield 74, 3) := by decide +kernel
theorem dX8_get_27 : decode cX8_get 27 = .ok (.bipush 70, 2) := by decide +kernel
theorem dX8_get_29 : decode cX8_get 29 = .ok (.iload_n 1, 1) := by decide +kernel
theorem dX8_get_30 : decode cX8_get 30 = .ok (.imul, 1) := by decide +kernel
theorem dX8_get_31 : decode cX8_get 31 = .ok (.iload_n 2, 1) := by decide +kernel
theorem dX8_get_32 : decode cX8_get 32 = .ok (.iadd, 1) := by decide +kernel
theorem dX8_get_33 : decode cX8_get 33 = .ok (.iaload, 1) := by decide +kernel
theorem dX8_get_34 : decode cX8_get 34 = .ok (.i2l, 1) := by decide +kernel
theorem dX8_get_35 : decode cX8_get 35 = .ok (.goto 6, 3) := by decide +kernel
theorem dX8_get_38 : decode cX8_get 38 = .ok (.ldc2_w 217, 3) := by decide +kernel
theorem dX8_get_41 : decode cX8_get 41 = .ok (.lreturn, 1) := by decide +kernel
theorem dX8_lay_0 : decode cX8_lay 0 = .ok (.aload_n 0, 1) := by decide +kernel
theorem dX8_lay_1 : decode cX8_lay 1 = .ok (.iload_n 1, 1) := by decide +kernel
theorem dX8_lay_2 : decode cX8_lay 2 = .ok (.invokevirtual 109, 3) := by decide +kernel
theorem dX8_lay_5 : decode cX8_lay 5 = .ok (.ifCond .eq 10, 3) := by decide +kernel
theorem dX8_lay_8 : decode cX8_lay 8 = .ok (.iload_n 2, 1) := by decide +kernel
theorem dX8_lay_9 : decode cX8_lay 9 = .ok (.invokestatic 264, 3) := by decide +kernel
theorem dX8_lay_12 : decode cX8_lay 12 = .ok (.ifCond .ne 5, 3) := by decide +kernel
theorem dX8_lay_15 : decode cX8_lay 15 = .ok (.iconst (-1), 1) := by decide +kernel
theorem dX8_lay_16 : decode cX8_lay 16 = .ok (.ireturn, 1) := by decide +kernel
theorem dX8_lay_17 : decode cX8_lay 17 = .ok (.aload_n 0, 1) := by decide +kernel
theorem dX8_lay_18 : decode cX8_lay 18 = .ok (.getfield 71, 3) := by decide +kernel
theorem dX8_lay_21 : decode cX8_lay 21 = .ok (.iload_n 2, 1) := by decide +kernel
theorem dX8_lay_22 : decode cX8_lay 22 = .ok (.iaload, 1) := by decide +kernel
theorem dX8_lay_23 : decode cX8_lay 23 = .ok (.ifCond .ne 6, 3) := by decide +kernel
theorem dX8_lay_26 : decode cX8_lay 26 = .ok (.bipush (-11), 2) := by decide +kernel
theorem dX8_lay_28 : decode cX8_lay 28 = .ok (.ireturn, 1) := by decide +kernel
theorem dX8_lay_29 : decode cX8_lay 29 = .ok (.aload_n 0, 1) := by decide +kernel
theorem dX8_lay_30 : decode cX8_lay 30 = .ok (.iload_n 1, 1) := by decide +kernel
theorem dX8_lay_31 : decode cX8_lay 31 = .ok (.iload_n 1, 1) := by decide +kernel
theorem dX8_lay_32 : decode cX8_lay 32 = .ok (.iconst 0, 1) := by decide +kernel
theorem dX8_lay_33 : decode cX8_lay 33 = .ok (.invokevirtual 235, 3) := by decide +kernel
theorem dX8_lay_36 : decode cX8_lay 36 = .ok (.iconst 0, 1) := by decide +kernel
theorem dX8_lay_37 : decode cX8_lay 37 = .ok (.istore 4, 2) := by decide +kernel
theorem dX8_lay_39 : decode cX8_lay 39 = .ok (.iload 4, 2) := by decide +kernel
theorem dX8_lay_41 : decode cX8_lay 41 = .ok (.bipush 7, 2) := by decide +kernel
theorem dX8_lay_43 : decode cX8_lay 43 = .ok (.aload_n 0, 1) := by decide +kernel
theorem dX8_lay_44 : decode cX8_lay 44 = .ok (.getfield 225, 3) := by decide +kernel
theorem dX8_lay_47 : decode cX8_lay 47 = .ok (.imul, 1) := by decide +kernel
theorem dX8_lay_48 : decode cX8_lay 48 = .ok (.if_icmp .ge 71, 3) := by decide +kernel
theorem dX8_lay_51 : decode cX8_lay 51 = .ok (.iload_n 3, 1) := by decide +kernel
theorem dX8_lay_52 : decode cX8_lay 52 = .ok (.iload 4, 2) := by decide +kernel
theorem dX8_lay_54 : decode cX8_lay 54 = .ok (.iadd, 1) := by decide +kernel
theorem dX8_lay_55 : decode cX8_lay 55 = .ok (.istore 5, 2) := by decide +kernel
theorem dX8_lay_57 : decode cX8_lay 57 = .ok (.iload_n 3, 1) := by decide +kernel
theorem dX8_lay_58 : decode cX8_lay 58 = .ok (.ifCond .lt 21, 3) := by decide +kernel
theorem dX8_lay_61 : decode cX8_lay 61 = .ok (.iload 5, 2) := by decide +kernel
theorem dX8_lay_63 : decode cX8_lay 63 = .ok (.ifCond .lt 16, 3) := by decide +kernel
theorem dX8_lay_66 : decode cX8_lay 66 = .ok (.iload 5, 2) := by decide +kernel
theorem dX8_lay_68 : decode cX8_lay 68 = .ok (.aload_n 0, 1) := by decide +kernel
theorem dX8_lay_69 : decode cX8_lay 69 = .ok (.getfield 71, 3) := by decide +kernel
theorem dX8_lay_72 : decode cX8_lay 72 = .ok (.iload_n 2, 1) := by decide +kernel
theorem dX8_lay_73 : decode cX8_lay 73 = .ok (.iaload, 1) := by decide +kernel
theorem dX8_lay_74 : decode cX8_lay 74 = .ok (.iconst 2, 1) := by decide +kernel
theorem dX8_lay_75 : decode cX8_lay 75 = .ok (.isub, 1) := by decide +kernel
theorem dX8_lay_76 : decode cX8_lay 76 = .ok (.if_icmp .le 6, 3) := by decide +kernel
theorem dX8_lay_79 : decode cX8_lay 79 = .ok (.bipush (-13), 2) := by decide +kernel
theorem dX8_lay_81 : decode cX8_lay 81 = .ok (.ireturn, 1) := by decide +kernel
theorem dX8_lay_82 : decode cX8_lay 82 = .ok (.aload_n 0, 1) := by decide +kernel
theorem dX8_lay_83 : decode cX8_lay 83 = .ok (.getfield 74, 3) := by decide +kernel
theorem dX8_lay_86 : decode cX8_lay 86 = .ok (.bipush 70, 2) := by decide +kernel
theorem dX8_lay_88 : decode cX8_lay 88 = .ok (.iload_n 2, 1) := by decide +kernel
theorem dX8_lay_89 : decode cX8_lay 89 = .ok (.imul, 1) := by decide +kernel
theorem dX8_lay_90 : decode cX8_lay 90 = .ok (.iload 5, 2) := by decide +kernel
theorem dX8_lay_92 : decode cX8_lay 92 = .ok (.iadd, 1) := by decide +kernel
theorem dX8_lay_93 : decode cX8_lay 93 = .ok (.aload_n 0, 1) := by decide +kernel
theorem dX8_lay_94 : decode cX8_lay 94 = .ok (.getfield 49, 3) := by decide +kernel
theorem dX8_lay_97 : decode cX8_lay 97 = .ok (.bipush 8, 2) := by decide +kernel
theorem dX8_lay_99 : decode cX8_lay 99 = .ok (.iload 4, 2) := by decide +kernel
theorem dX8_lay_101 : decode cX8_lay 101 = .ok (.bipush 7, 2) := by decide +kernel
theorem dX8_lay_103 : decode cX8_lay 103 = .ok (.idiv, 1) := by decide +kernel
theorem dX8_lay_104 : decode cX8_lay 104 = .ok (.imul, 1) := by decide +kernel
theorem dX8_lay_105 : decode cX8_lay 105 = .ok (.iload 4, 2) := by decide +kernel
theorem dX8_lay_107 : decode cX8_lay 107 = .ok (.bipush 7, 2) := by decide +kernel
theorem dX8_lay_109 : decode cX8_lay 109 = .ok (.irem, 1) := by decide +kernel
theorem dX8_lay_110 : decode cX8_lay 110 = .ok (.iadd, 1) := by decide +kernel
theorem dX8_lay_111 : decode cX8_lay 111 = .ok (.iaload, 1) := by decide +kernel
theorem dX8_lay_112 : decode cX8_lay 112 = .ok (.iastore, 1) := by decide +kernel
theorem dX8_lay_113 : decode cX8_lay 113 = .ok (.iinc 4 1, 3) := by decide +kernel
theorem dX8_lay_116 : decode cX8_lay 116 = .ok (.goto (-77), 3) := by decide +kernel
theorem dX8_lay_119 : decode cX8_lay 119 = .ok (.bipush 7, 2) := by decide +kernel
theorem dX8_lay_121 : decode cX8_lay 121 = .ok (.aload_n 0, 1) := by decide +kernel
theorem dX8_lay_122 : decode cX8_lay 122 = .ok (.getfield 225, 3) := by decide +kernel
theorem dX8_lay_125 : decode cX8_lay 125 = .ok (.imul, 1) := by decide +kernel
theorem dX8_lay_126 : decode cX8_lay 126 = .ok (.ireturn, 1) := by decide +kernel
theorem dX8_tellsOf_0 : decode cX8_tellsOf 0 = .ok (.iconst 0, 1) := by decide +kernel
theorem dX8_tellsOf_1 : decode cX8_tellsOf 1 = .ok (.istore 4, 2) := by decide +kernel
theorem dX8_tellsOf_3 : decode cX8_tellsOf 3 = .ok (.iload 4, 2) := by decide +kernel
theorem dX8_tellsOf_5 : decode cX8_tellsOf 5 = .ok (.iload_n 2, 1) := by decide +kernel
theorem dX8_tellsOf_6 : decode cX8_tellsOf 6 = .ok (.if_icmp .ge 82, 3) := by decide +kernel
theorem dX8_tellsOf_9 : decode cX8_tellsOf 9 = .ok (.iconst 0, 1) := by decide +kernel
theorem dX8_tellsOf_10 : decode cX8_tellsOf 10 = .ok (.istore 5, 2) := by decide +kernel
theorem dX8_tellsOf_12 : decode cX8_tellsOf 12 = .ok (.iconst 0, 1) := by decide +kernel
theorem dX8_tellsOf_13 : decode cX8_tellsOf 13 = .ok (.istore 6, 2) := by decide +kernel
theorem dX8_tellsOf_15 : decode cX8_tellsOf 15 = .ok (.iload 6, 2) := by decide +kernel
theorem dX8_tellsOf_17 : decode cX8_tellsOf 17 = .ok (.bipush 6, 2) := by decide +kernel
theorem dX8_tellsOf_19 : decode cX8_tellsOf 19 = .ok (.if_icmp .ge 35, 3) := by decide +kernel
theorem dX8_tellsOf_22 : decode cX8_tellsOf 22 = .ok (.bipush 10, 2) := by decide +kernel
theorem dX8_tellsOf_24 : decode cX8_tellsOf 24 = .ok (.iload 5, 2) := by decide +kernel
theorem dX8_tellsOf_26 : decode cX8_tellsOf 26 = .ok (.imul, 1) := by decide +kernel
theorem dX8_tellsOf_27 : decode cX8_tellsOf 27 = .ok (.aload_n 0, 1) := by decide +kernel
theorem dX8_tellsOf_28 : decode cX8_tellsOf 28 = .ok (.getfield 74, 3) := by decide +kernel
theorem dX8_tellsOf_31 : decode cX8_tellsOf 31 = .ok (.bipush 70, 2) := by decide +kernel
theorem dX8_tellsOf_33 : decode cX8_tellsOf 33 = .ok (.iload_n 1, 1) := by decide +kernel
theorem dX8_tellsOf_34 : decode cX8_tellsOf 34 = .ok (.imul, 1) := by decide +kernel
theorem dX8_tellsOf_35 : decode cX8_tellsOf 35 = .ok (.bipush 7, 2) := by decide +kernel
theorem dX8_tellsOf_37 : decode cX8_tellsOf 37 = .ok (.iload 4, 2) := by decide +kernel
theorem dX8_tellsOf_39 : decode cX8_tellsOf 39 = .ok (.imul, 1) := by decide +kernel
theorem dX8_tellsOf_40 : decode cX8_tellsOf 40 = .ok (.iadd, 1) := by decide +kernel
theorem dX8_tellsOf_41 : decode cX8_tellsOf 41 = .ok (.iload 6, 2) := by decide +kernel
theorem dX8_tellsOf_43 : decode cX8_tellsOf 43 = .ok (.iadd, 1) := by decide +kernel
theorem dX8_tellsOf_44 : decode cX8_tellsOf 44 = .ok (.iaload, 1) := by decide +kernel
theorem dX8_tellsOf_45 : decode cX8_tellsOf 45 = .ok (.iadd, 1) := by decide +kernel
theorem dX8_tellsOf_46 : decode cX8_tellsOf 46 = .ok (.istore 5, 2) := by decide +kernel
theorem dX8_tellsOf_48 : decode cX8_tellsOf 48 = .ok (.iinc 6 1, 3) := by decide +kernel
theorem dX8_tellsOf_51 : decode cX8_tellsOf 51 = .ok (.goto (-36), 3) := by decide +kernel
theorem dX8_tellsOf_54 : decode cX8_tellsOf 54 = .ok (.iload_n 3, 1) := by decide +kernel
theorem dX8_tellsOf_55 : decode cX8_tellsOf 55 = .ok (.iload 5, 2) := by decide +kernel
theorem dX8_tellsOf_57 : decode cX8_tellsOf 57 = .ok (.invokestatic 197, 3) := by decide +kernel
theorem dX8_tellsOf_60 : decode cX8_tellsOf 60 = .ok (.ifCond .eq 22, 3) := by decide +kernel
theorem dX8_tellsOf_63 : decode cX8_tellsOf 63 = .ok (.aload_n 0, 1) := by decide +kernel
theorem dX8_tellsOf_64 : decode cX8_tellsOf 64 = .ok (.getfield 74, 3) := by decide +kernel
theorem dX8_tellsOf_67 : decode cX8_tellsOf 67 = .ok (.bipush 70, 2) := by decide +kernel
theorem dX8_tellsOf_69 : decode cX8_tellsOf 69 = .ok (.iload_n 1, 1) := by decide +kernel
theorem dX8_tellsOf_70 : decode cX8_tellsOf 70 = .ok (.imul, 1) := by decide +kernel
theorem dX8_tellsOf_71 : decode cX8_tellsOf 71 = .ok (.bipush 7, 2) := by decide +kernel
theorem dX8_tellsOf_73 : decode cX8_tellsOf 73 = .ok (.iload 4, 2) := by decide +kernel
theorem dX8_tellsOf_75 : decode cX8_tellsOf 75 = .ok (.imul, 1) := by decide +kernel
theorem dX8_tellsOf_76 : decode cX8_tellsOf 76 = .ok (.iadd, 1) := by decide +kernel
theorem dX8_tellsOf_77 : decode cX8_tellsOf 77 = .ok (.bipush 6, 2) := by decide +kernel
theorem dX8_tellsOf_79 : decode cX8_tellsOf 79 = .ok (.iadd, 1) := by decide +kernel
theorem dX8_tellsOf_80 : decode cX8_tellsOf 80 = .ok (.iaload, 1) := by decide +kernel
theorem dX8_tellsOf_81 : decode cX8_tellsOf 81 = .ok (.ireturn, 1) := by decide +kernel
theorem dX8_tellsOf_82 : decode cX8_tellsOf 82 = .ok (.iinc 4 1, 3) := by decide +kernel
theorem dX8_tellsOf_85 : decode cX8_tellsOf 85 = .ok (.goto (-82), 3) := by decide +kernel
theorem dX8_tellsOf_88 : decode cX8_tellsOf 88 = .ok (.bipush (-5), 2) := by decide +kernel
theorem dX8_tellsOf_90 : decode cX8_tellsOf 90 = .ok (.ireturn, 1) := by decide +kernel
theorem dX8_judge_0 : decode cX8_judge 0 = .ok (.iload_n 1, 1) := by decide +kernel
theorem dX8_judge_1 : decode cX8_judge 1 = .ok (.invokestatic 264, 3) := by decide +kernel
theorem dX8_judge_4 : decode cX8_judge 4 = .ok (.ifCond .eq 11, 3) := by decide +kernel
theorem dX8_judge_7 : decode cX8_judge 7 = .ok (.aload_n 0, 1) := by decide +kernel
theorem dX8_judge_8 : decode cX8_judge 8 = .ok (.iload_n 2, 1) := by decide +kernel
theorem dX8_judge_9 : decode cX8_judge 9 = .ok (.invokevirtual 109, 3) := by decide +kernel
theorem dX8_judge_12 : decode cX8_judge 12 = .ok (.ifCond .ne 5, 3) := by decide +kernel
theorem dX8_judge_15 : decode cX8_judge 15 = .ok (.iconst (-1), 1) := by decide +kernel
theorem dX8_judge_16 : decode cX8_judge 16 = .ok (.ireturn, 1) := by decide +kernel
theorem dX8_judge_17 : decode cX8_judge 17 = .ok (.aload_n 0, 1) := by decide +kernel
theorem dX8_judge_18 : decode cX8_judge 18 = .ok (.getfield 71, 3) := by decide +kernel
theorem dX8_judge_21 : decode cX8_judge 21 = .ok (.iload_n 1, 1) := by decide +kernel
theorem dX8_judge_22 : decode cX8_judge 22 = .ok (.iaload, 1) := by decide +kernel
theorem dX8_judge_23 : decode cX8_judge 23 = .ok (.ifCond .ne 6, 3) := by decide +kernel
theorem dX8_judge_26 : decode cX8_judge 26 = .ok (.bipush (-11), 2) := by decide +kernel
theorem dX8_judge_28 : decode cX8_judge 28 = .ok (.ireturn, 1) := by decide +kernel
theorem dX8_judge_29 : decode cX8_judge 29 = .ok (.aload_n 0, 1) := by decide +kernel
theorem dX8_judge_30 : decode cX8_judge 30 = .ok (.getfield 71, 3) := by decide +kernel
theorem dX8_judge_33 : decode cX8_judge 33 = .ok (.iload_n 1, 1) := by decide +kernel
theorem dX8_judge_34 : decode cX8_judge 34 = .ok (.iaload, 1) := by decide +kernel
theorem dX8_judge_35 : decode cX8_judge 35 = .ok (.iconst 1, 1) := by decide +kernel
theorem dX8_judge_36 : decode cX8_judge 36 = .ok (.isub, 1) := by decide +kernel
theorem dX8_judge_37 : decode cX8_judge 37 = .ok (.istore_n 3, 1) := by decide +kernel
theorem dX8_judge_38 : decode cX8_judge 38 = .ok (.iconst 0, 1) := by decide +kernel
theorem dX8_judge_39 : decode cX8_judge 39 = .ok (.istore 4, 2) := by decide +kernel
theorem dX8_judge_41 : decode cX8_judge 41 = .ok (.iload 4, 2) := by decide +kernel
theorem dX8_judge_43 : decode cX8_judge 43 = .ok (.iload_n 3, 1) := by decide +kernel
theorem dX8_judge_44 : decode cX8_judge 44 = .ok (.if_icmp .ge 103, 3) := by decide +kernel
theorem dX8_judge_47 : decode cX8_judge 47 = .ok (.iload 4, 2) := by decide +kernel
theorem dX8_judge_49 : decode cX8_judge 49 = .ok (.bipush 7, 2) := by decide +kernel
theorem dX8_judge_51 : decode cX8_judge 51 = .ok (.irem, 1) := by decide +kernel
theorem dX8_judge_52 : decode cX8_judge 52 = .ok (.istore 5, 2) := by decide +kernel
theorem dX8_judge_54 : decode cX8_judge 54 = .ok (.aload_n 0, 1) := by decide +kernel
theorem dX8_judge_55 : decode cX8_judge 55 = .ok (.getfield 74, 3) := by decide +kernel
theorem dX8_judge_58 : decode cX8_judge 58 = .ok (.bipush 70, 2) := by decide +kernel
theorem dX8_judge_60 : decode cX8_judge 60 = .ok (.iload_n 1, 1) := by decide +kernel
theorem dX8_judge_61 : decode cX8_judge 61 = .ok (.imul, 1) := by decide +kernel
theorem dX8_judge_62 : decode cX8_judge 62 = .ok (.iload 4, 2) := by decide +kernel
theorem dX8_judge_64 : decode cX8_judge 64 = .ok (.iadd, 1) := by decide +kernel
theorem dX8_judge_65 : decode cX8_judge 65 = .ok (.iaload, 1) := by decide +kernel
theorem dX8_judge_66 : decode cX8_judge 66 = .ok (.istore 6, 2) := by decide +kernel
theorem dX8_judge_68 : decode cX8_judge 68 = .ok (.iload 5, 2) := by decide +kernel
theorem dX8_judge_70 : decode cX8_judge 70 = .ok (.bipush 6, 2) := by decide +kernel
theorem dX8_judge_72 : decode cX8_judge 72 = .ok (.if_icmp .ne 14, 3) := by decide +kernel
theorem dX8_judge_75 : decode cX8_judge 75 = .ok (.iload 6, 2) := by decide +kernel
theorem dX8_judge_77 : decode cX8_judge 77 = .ok (.iconst 0, 1) := by decide +kernel
theorem dX8_judge_78 : decode cX8_judge 78 = .ok (.bipush 99, 2) := by decide +kernel
theorem dX8_judge_80 : decode cX8_judge 80 = .ok (.invokestatic 80, 3) := by decide +kernel
theorem dX8_judge_83 : decode cX8_judge 83 = .ok (.goto 39, 3) := by decide +kernel
theorem dX8_judge_86 : decode cX8_judge 86 = .ok (.iload 6, 2) := by decide +kernel
theorem dX8_judge_88 : decode cX8_judge 88 = .ok (.iload 5, 2) := by decide +kernel
theorem dX8_judge_90 : decode cX8_judge 90 = .ok (.iconst 2, 1) := by decide +kernel
theorem dX8_judge_91 : decode cX8_judge 91 = .ok (.irem, 1) := by decide +kernel
theorem dX8_judge_92 : decode cX8_judge 92 = .ok (.iconst 1, 1) := by decide +kernel
theorem dX8_judge_93 : decode cX8_judge 93 = .ok (.if_icmp .ne 20, 3) := by decide +kernel
theorem dX8_judge_96 : decode cX8_judge 96 = .ok (.aload_n 0, 1) := by decide +kernel
theorem dX8_judge_97 : decode cX8_judge 97 = .ok (.getfield 74, 3) := by decide +kernel
theorem dX8_judge_100 : decode cX8_judge 100 = .ok (.bipush 70, 2) := by decide +kernel
theorem dX8_judge_102 : decode cX8_judge 102 = .ok (.iload_n 1, 1) := by decide +kernel
theorem dX8_judge_103 : decode cX8_judge 103 = .ok (.imul, 1) := by decide +kernel
theorem dX8_judge_104 : decode cX8_judge 104 = .ok (.iload 4, 2) := by decide +kernel
theorem dX8_judge_106 : decode cX8_judge 106 = .ok (.iadd, 1) := by decide +kernel
theorem dX8_judge_107 : decode cX8_judge 107 = .ok (.iconst 1, 1) := by decide +kernel
theorem dX8_judge_108 : decode cX8_judge 108 = .ok (.isub, 1) := by decide +kernel
theorem dX8_judge_109 : decode cX8_judge 109 = .ok (.iaload, 1) := by decide +kernel
theorem dX8_judge_110 : decode cX8_judge 110 = .ok (.goto 4, 3) := by decide +kernel
theorem dX8_judge_113 : decode cX8_judge 113 = .ok (.iconst 0, 1) := by decide +kernel
theorem dX8_judge_114 : decode cX8_judge 114 = .ok (.iload 5, 2) := by decide +kernel
theorem dX8_judge_116 : decode cX8_judge 116 = .ok (.invokestatic 89, 3) := by decide +kernel
theorem dX8_judge_119 : decode cX8_judge 119 = .ok (.invokestatic 80, 3) := by decide +kernel
theorem dX8_judge_122 : decode cX8_judge 122 = .ok (.istore 7, 2) := by decide +kernel
theorem dX8_judge_124 : decode cX8_judge 124 = .ok (.iload 7, 2) := by decide +kernel
theorem dX8_judge_126 : decode cX8_judge 126 = .ok (.ifCond .ne 15, 3) := by decide +kernel
theorem dX8_judge_129 : decode cX8_judge 129 = .ok (.bipush 10, 2) := by decide +kernel
theorem dX8_judge_131 : decode cX8_judge 131 = .ok (.iload 4, 2) := by decide +kernel
theorem dX8_judge_133 : decode cX8_judge 133 = .ok (.bipush 7, 2) := by decide +kernel
theorem dX8_judge_135 : decode cX8_judge 135 = .ok (.idiv, 1) := by decide +kernel
theorem dX8_judge_136 : decode cX8_judge 136 = .ok (.imul, 1) := by decide +kernel
theorem dX8_judge_137 : decode cX8_judge 137 = .ok (.iload 5, 2) := by decide +kernel
theorem dX8_judge_139 : decode cX8_judge 139 = .ok (.iadd, 1) := by decide +kernel
theorem dX8_judge_140 : decode cX8_judge 140 = .ok (.ireturn, 1) := by decide +kernel
theorem dX8_judge_141 : decode cX8_judge 141 = .ok (.iinc 4 1, 3) := by decide +kernel
theorem dX8_judge_144 : decode cX8_judge 144 = .ok (.goto (-103), 3) := by decide +kernel
theorem dX8_judge_147 : decode cX8_judge 147 = .ok (.iload_n 3, 1) := by decide +kernel
theorem dX8_judge_148 : decode cX8_judge 148 = .ok (.bipush 7, 2) := by decide +kernel
theorem dX8_judge_150 : decode cX8_judge 150 = .ok (.irem, 1) := by decide +kernel
theorem dX8_judge_151 : decode cX8_judge 151 = .ok (.ifCond .eq 16, 3) := by decide +kernel
theorem dX8_judge_154 : decode cX8_judge 154 = .ok (.bipush 10, 2) := by decide +kernel
theorem dX8_judge_156 : decode cX8_judge 156 = .ok (.iload_n 3, 1) := by decide +kernel
theorem dX8_judge_157 : decode cX8_judge 157 = .ok (.bipush 7, 2) := by decide +kernel
theorem dX8_judge_159 : decode cX8_judge 159 = .ok (.idiv, 1) := by decide +kernel
theorem dX8_judge_160 : decode cX8_judge 160 = .ok (.imul, 1) := by decide +kernel
theorem dX8_judge_161 : decode cX8_judge 161 = .ok (.iload_n 3, 1) := by decide +kernel
theorem dX8_judge_162 : decode cX8_judge 162 = .ok (.bipush 7, 2) := by decide +kernel
theorem dX8_judge_164 : decode cX8_judge 164 = .ok (.irem, 1) := by decide +kernel
theorem dX8_judge_165 : decode cX8_judge 165 = .ok (.iadd, 1) := by decide +kernel
theorem dX8_judge_166 : decode cX8_judge 166 = .ok (.ireturn, 1) := by decide +kernel
theorem dX8_judge_167 : decode cX8_judge 167 = .ok (.aload_n 0, 1) := by decide +kernel
theorem dX8_judge_168 : decode cX8_judge 168 = .ok (.iconst (-1), 1) := by decide +kernel
theorem dX8_judge_169 : decode cX8_judge 169 = .ok (.putfield 194, 3) := by decide +kernel
theorem dX8_judge_172 : decode cX8_judge 172 = .ok (.iconst 0, 1) := by decide +kernel
theorem dX8_judge_173 : decode cX8_judge 173 = .ok (.istore 4, 2) := by decide +kernel
theorem dX8_judge_175 : decode cX8_judge 175 = .ok (.iload 4, 2) := by decide +kernel
theorem dX8_judge_177 : decode cX8_judge 177 = .ok (.sipush 224, 3) := by decide +kernel
theorem dX8_judge_180 : decode cX8_judge 180 = .ok (.if_icmp .ge 37, 3) := by decide +kernel
theorem dX8_judge_183 : decode cX8_judge 183 = .ok (.aload_n 0, 1) := by decide +kernel
theorem dX8_judge_184 : decode cX8_judge 184 = .ok (.iload_n 1, 1) := by decide +kernel
theorem dX8_judge_185 : decode cX8_judge 185 = .ok (.iload_n 3, 1) := by decide +kernel
theorem dX8_judge_186 : decode cX8_judge 186 = .ok (.bipush 7, 2) := by decide +kernel
theorem dX8_judge_188 : decode cX8_judge 188 = .ok (.idiv, 1) := by decide +kernel
theorem dX8_judge_189 : decode cX8_judge 189 = .ok (.iload 4, 2) := by decide +kernel
theorem dX8_judge_191 : decode cX8_judge 191 = .ok (.invokevirtual 267, 3) := by decide +kernel
theorem dX8_judge_194 : decode cX8_judge 194 = .ok (.aload_n 0, 1) := by decide +kernel
theorem dX8_judge_195 : decode cX8_judge 195 = .ok (.iload_n 2, 1) := by decide +kernel
theorem dX8_judge_196 : decode cX8_judge 196 = .ok (.iload 4, 2) := by decide +kernel
theorem dX8_judge_198 : decode cX8_judge 198 = .ok (.invokevirtual 207, 3) := by decide +kernel
theorem dX8_judge_201 : decode cX8_judge 201 = .ok (.if_icmp .eq 10, 3) := by decide +kernel
theorem dX8_judge_204 : decode cX8_judge 204 = .ok (.sipush 500, 3) := by decide +kernel
theorem dX8_judge_207 : decode cX8_judge 207 = .ok (.iload 4, 2) := by decide +kernel
theorem dX8_judge_209 : decode cX8_judge 209 = .ok (.iadd, 1) := by decide +kernel
theorem dX8_judge_210 : decode cX8_judge 210 = .ok (.ireturn, 1) := by decide +kernel
theorem dX8_judge_211 : decode cX8_judge 211 = .ok (.iinc 4 1, 3) := by decide +kernel
theorem dX8_judge_214 : decode cX8_judge 214 = .ok (.goto (-39), 3) := by decide +kernel
theorem dX8_judge_217 : decode cX8_judge 217 = .ok (.bipush (-5), 2) := by decide +kernel
theorem dX8_judge_219 : decode cX8_judge 219 = .ok (.ireturn, 1) := by decide +kernel
theorem dX8_image_0 : decode cX8_image 0 = .ok (.aload_n 0, 1) := by decide +kernel
theorem dX8_image_1 : decode cX8_image 1 = .ok (.iconst 1, 1) := by decide +kernel
theorem dX8_image_2 : decode cX8_image 2 = .ok (.putfield 270, 3) := by decide +kernel
theorem dX8_image_5 : decode cX8_image 5 = .ok (.aload_n 0, 1) := by decide +kernel
theorem dX8_image_6 : decode cX8_image 6 = .ok (.aload_n 0, 1) := by decide +kernel
theorem dX8_image_7 : decode cX8_image 7 = .ok (.getfield 77, 3) := by decide +kernel
theorem dX8_image_10 : decode cX8_image 10 = .ok (.putfield 274, 3) := by decide +kernel
theorem dX8_image_13 : decode cX8_image 13 = .ok (.aload_n 0, 1) := by decide +kernel
theorem dX8_image_14 : decode cX8_image 14 = .ok (.aload_n 0, 1) := by decide +kernel
theorem dX8_image_15 : decode cX8_image 15 = .ok (.getfield 258, 3) := by decide +kernel
theorem dX8_image_18 : decode cX8_image 18 = .ok (.putfield 277, 3) := by decide +kernel
theorem dX8_image_21 : decode cX8_image 21 = .ok (.iconst 0, 1) := by decide +kernel
theorem dX8_image_22 : decode cX8_image 22 = .ok (.istore_n 1, 1) := by decide +kernel
theorem dX8_image_23 : decode cX8_image 23 = .ok (.iload_n 1, 1) := by decide +kernel
theorem dX8_image_24 : decode cX8_image 24 = .ok (.bipush 24, 2) := by decide +kernel
theorem dX8_image_26 : decode cX8_image 26 = .ok (.if_icmp .ge 112, 3) := by decide +kernel
theorem dX8_image_29 : decode cX8_image 29 = .ok (.aload_n 0, 1) := by decide +kernel
theorem dX8_image_30 : decode cX8_image 30 = .ok (.getfield 68, 3) := by decide +kernel
theorem dX8_image_33 : decode cX8_image 33 = .ok (.iload_n 1, 1) := by decide +kernel
theorem dX8_image_34 : decode cX8_image 34 = .ok (.aload_n 0, 1) := by decide +kernel
theorem dX8_image_35 : decode cX8_image 35 = .ok (.getfield 9, 3) := by decide +kernel
theorem dX8_image_38 : decode cX8_image 38 = .ok (.iload_n 1, 1) := by decide +kernel
theorem dX8_image_39 : decode cX8_image 39 = .ok (.iaload, 1) := by decide +kernel
theorem dX8_image_40 : decode cX8_image 40 = .ok (.iastore, 1) := by decide +kernel
theorem dX8_image_41 : decode cX8_image 41 = .ok (.aload_n 0, 1) := by decide +kernel
theorem dX8_image_42 : decode cX8_image 42 = .ok (.getfield 68, 3) := by decide +kernel
theorem dX8_image_45 : decode cX8_image 45 = .ok (.bipush 24, 2) := by decide +kernel
theorem dX8_image_47 : decode cX8_image 47 = .ok (.iload_n 1, 1) := by decide +kernel
theorem dX8_image_48 : decode cX8_image 48 = .ok (.iadd, 1) := by decide +kernel
theorem dX8_image_49 : decode cX8_image 49 = .ok (.aload_n 0, 1) := by decide +kernel
theorem dX8_image_50 : decode cX8_image 50 = .ok (.getfield 15, 3) := by decide +kernel
theorem dX8_image_53 : decode cX8_image 53 = .ok (.iload_n 1, 1) := by decide +kernel
theorem dX8_image_54 : decode cX8_image 54 = .ok (.iaload, 1) := by decide +kernel
theorem dX8_image_55 : decode cX8_image 55 = .ok (.iastore, 1) := by decide +kernel
theorem dX8_image_56 : decode cX8_image 56 = .ok (.aload_n 0, 1) := by decide +kernel
theorem dX8_image_57 : decode cX8_image 57 = .ok (.getfield 68, 3) := by decide +kernel
theorem dX8_image_60 : decode cX8_image 60 = .ok (.bipush 48, 2) := by decide +kernel
theorem dX8_image_62 : decode cX8_image 62 = .ok (.iload_n 1, 1) := by decide +kernel
theorem dX8_image_63 : decode cX8_image 63 = .ok (.iadd, 1) := by decide +kernel
theorem dX8_image_64 : decode cX8_image 64 = .ok (.aload_n 0, 1) := by decide +kernel
theorem dX8_image_65 : decode cX8_image 65 = .ok (.getfield 18, 3) := by decide +kernel
theorem dX8_image_68 : decode cX8_image 68 = .ok (.iload_n 1, 1) := by decide +kernel
theorem dX8_image_69 : decode cX8_image 69 = .ok (.iaload, 1) := by decide +kernel
theorem dX8_image_70 : decode cX8_image 70 = .ok (.iastore, 1) := by decide +kernel
theorem dX8_image_71 : decode cX8_image 71 = .ok (.aload_n 0, 1) := by decide +kernel
theorem dX8_image_72 : decode cX8_image 72 = .ok (.getfield 68, 3) := by decide +kernel
theorem dX8_image_75 : decode cX8_image 75 = .ok (.bipush 72, 2) := by decide +kernel
theorem dX8_image_77 : decode cX8_image 77 = .ok (.iload_n 1, 1) := by decide +kernel
theorem dX8_image_78 : decode cX8_image 78 = .ok (.iadd, 1) := by decide +kernel
theorem dX8_image_79 : decode cX8_image 79 = .ok (.aload_n 0, 1) := by decide +kernel
theorem dX8_image_80 : decode cX8_image 80 = .ok (.getfield 21, 3) := by decide +kernel
theorem dX8_image_83 : decode cX8_image 83 = .ok (.iload_n 1, 1) := by decide +kernel
theorem dX8_image_84 : decode cX8_image 84 = .ok (.iaload, 1) := by decide +kernel
theorem dX8_image_85 : decode cX8_image 85 = .ok (.iastore, 1) := by decide +kernel
theorem dX8_image_86 : decode cX8_image 86 = .ok (.aload_n 0, 1) := by decide +kernel
theorem dX8_image_87 : decode cX8_image 87 = .ok (.getfield 68, 3) := by decide +kernel
theorem dX8_image_90 : decode cX8_image 90 = .ok (.bipush 96, 2) := by decide +kernel
theorem dX8_image_92 : decode cX8_image 92 = .ok (.iload_n 1, 1) := by decide +kernel
theorem dX8_image_93 : decode cX8_image 93 = .ok (.iadd, 1) := by decide +kernel
theorem dX8_image_94 : decode cX8_image 94 = .ok (.aload_n 0, 1) := by decide +kernel
theorem dX8_image_95 : decode cX8_image 95 = .ok (.getfield 24, 3) := by decide +kernel
theorem dX8_image_98 : decode cX8_image 98 = .ok (.iload_n 1, 1) := by decide +kernel
theorem dX8_image_99 : decode cX8_image 99 = .ok (.iaload, 1) := by decide +kernel
theorem dX8_image_100 : decode cX8_image 100 = .ok (.iastore, 1) := by decide +kernel
theorem dX8_image_101 : decode cX8_image 101 = .ok (.aload_n 0, 1) := by decide +kernel
theorem dX8_image_102 : decode cX8_image 102 = .ok (.getfield 68, 3) := by decide +kernel
theorem dX8_image_105 : decode cX8_image 105 = .ok (.bipush 120, 2) := by decide +kernel
theorem dX8_image_107 : decode cX8_image 107 = .ok (.iload_n 1, 1) := by decide +kernel
theorem dX8_image_108 : decode cX8_image 108 = .ok (.iadd, 1) := by decide +kernel
theorem dX8_image_109 : decode cX8_image 109 = .ok (.aload_n 0, 1) := by decide +kernel
theorem dX8_image_110 : decode cX8_image 110 = .ok (.getfield 27, 3) := by decide +kernel
theorem dX8_image_113 : decode cX8_image 113 = .ok (.iload_n 1, 1) := by decide +kernel
theorem dX8_image_114 : decode cX8_image 114 = .ok (.iaload, 1) := by decide +kernel
theorem dX8_image_115 : decode cX8_image 115 = .ok (.iastore, 1) := by decide +kernel
theorem dX8_image_116 : decode cX8_image 116 = .ok (.aload_n 0, 1) := by decide +kernel
theorem dX8_image_117 : decode cX8_image 117 = .ok (.getfield 68, 3) := by decide +kernel
theorem dX8_image_120 : decode cX8_image 120 = .ok (.sipush 144, 3) := by decide +kernel
theorem dX8_image_123 : decode cX8_image 123 = .ok (.iload_n 1, 1) := by decide +kernel
theorem dX8_image_124 : decode cX8_image 124 = .ok (.iadd, 1) := by decide +kernel
theorem dX8_image_125 : decode cX8_image 125 = .ok (.aload_n 0, 1) := by decide +kernel
theorem dX8_image_126 : decode cX8_image 126 = .ok (.getfield 30, 3) := by decide +kernel
theorem dX8_image_129 : decode cX8_image 129 = .ok (.iload_n 1, 1) := by decide +kernel
theorem dX8_image_130 : decode cX8_image 130 = .ok (.iaload, 1) := by decide +kernel
theorem dX8_image_131 : decode cX8_image 131 = .ok (.iastore, 1) := by decide +kernel
theorem dX8_image_132 : decode cX8_image 132 = .ok (.iinc 1 1, 3) := by decide +kernel
theorem dX8_image_135 : decode cX8_image 135 = .ok (.goto (-112), 3) := by decide +kernel
theorem dX8_image_138 : decode cX8_image 138 = .ok (.iconst 0, 1) := by decide +kernel
theorem dX8_image_139 : decode cX8_image 139 = .ok (.istore_n 1, 1) := by decide +kernel
theorem dX8_image_140 : decode cX8_image 140 = .ok (.iload_n 1, 1) := by decide +kernel
theorem dX8_image_141 : decode cX8_image 141 = .ok (.bipush 8, 2) := by decide +kernel
theorem dX8_image_143 : decode cX8_image 143 = .ok (.if_icmp .ge 41, 3) := by decide +kernel
theorem dX8_image_146 : decode cX8_image 146 = .ok (.aload_n 0, 1) := by decide +kernel
theorem dX8_image_147 : decode cX8_image 147 = .ok (.getfield 68, 3) := by decide +kernel
theorem dX8_image_150 : decode cX8_image 150 = .ok (.sipush 168, 3) := by decide +kernel
theorem dX8_image_153 : decode cX8_image 153 = .ok (.iload_n 1, 1) := by decide +kernel
theorem dX8_image_154 : decode cX8_image 154 = .ok (.iadd, 1) := by decide +kernel
theorem dX8_image_155 : decode cX8_image 155 = .ok (.aload_n 0, 1) := by decide +kernel
theorem dX8_image_156 : decode cX8_image 156 = .ok (.getfield 33, 3) := by decide +kernel
theorem dX8_image_159 : decode cX8_image 159 = .ok (.iload_n 1, 1) := by decide +kernel
theorem dX8_image_160 : decode cX8_image 160 = .ok (.iaload, 1) := by decide +kernel
theorem dX8_image_161 : decode cX8_image 161 = .ok (.iastore, 1) := by decide +kernel
theorem dX8_image_162 : decode cX8_image 162 = .ok (.aload_n 0, 1) := by decide +kernel
theorem dX8_image_163 : decode cX8_image 163 = .ok (.getfield 68, 3) := by decide +kernel
theorem dX8_image_166 : decode cX8_image 166 = .ok (.sipush 176, 3) := by decide +kernel
theorem dX8_image_169 : decode cX8_image 169 = .ok (.iload_n 1, 1) := by decide +kernel
theorem dX8_image_170 : decode cX8_image 170 = .ok (.iadd, 1) := by decide +kernel
theorem dX8_image_171 : decode cX8_image 171 = .ok (.aload_n 0, 1) := by decide +kernel
theorem dX8_image_172 : decode cX8_image 172 = .ok (.getfield 36, 3) := by decide +kernel
theorem dX8_image_175 : decode cX8_image 175 = .ok (.iload_n 1, 1) := by decide +kernel
theorem dX8_image_176 : decode cX8_image 176 = .ok (.iaload, 1) := by decide +kernel
theorem dX8_image_177 : decode cX8_image 177 = .ok (.iastore, 1) := by decide +kernel
end
section
theorem dX8_image_178 : decode cX8_image 178 = .ok (.iinc 1 1, 3) := by decide +kernel
theorem dX8_image_181 : decode cX8_image 181 = .ok (.goto (-41), 3) := by decide +kernel
theorem dX8_image_184 : decode cX8_image 184 = .ok (.aload_n 0, 1) := by decide +kernel
theorem dX8_image_185 : decode cX8_image 185 = .ok (.getfield 77, 3) := by decide +kernel
theorem dX8_image_188 : decode cX8_image 188 = .ok (.ireturn, 1) := by decide +kernel
theorem dX8_undo_0 : decode cX8_undo 0 = .ok (.aload_n 0, 1) := by decide +kernel
theorem dX8_undo_1 : decode cX8_undo 1 = .ok (.getfield 270, 3) := by decide +kernel
theorem dX8_undo_4 : decode cX8_undo 4 = .ok (.ifCond .ne 6, 3) := by decide +kernel
theorem dX8_undo_7 : decode cX8_undo 7 = .ok (.bipush (-3), 2) := by decide +kernel
theorem dX8_undo_9 : decode cX8_undo 9 = .ok (.ireturn, 1) := by decide +kernel
theorem dX8_undo_10 : decode cX8_undo 10 = .ok (.aload_n 0, 1) := by decide +kernel
theorem dX8_undo_11 : decode cX8_undo 11 = .ok (.aload_n 0, 1) := by decide +kernel
theorem dX8_undo_12 : decode cX8_undo 12 = .ok (.getfield 274, 3) := by decide +kernel
theorem dX8_undo_15 : decode cX8_undo 15 = .ok (.putfield 77, 3) := by decide +kernel
theorem dX8_undo_18 : decode cX8_undo 18 = .ok (.aload_n 0, 1) := by decide +kernel
theorem dX8_undo_19 : decode cX8_undo 19 = .ok (.aload_n 0, 1) := by decide +kernel
theorem dX8_undo_20 : decode cX8_undo 20 = .ok (.getfield 277, 3) := by decide +kernel
theorem dX8_undo_23 : decode cX8_undo 23 = .ok (.putfield 258, 3) := by decide +kernel
theorem dX8_undo_26 : decode cX8_undo 26 = .ok (.iconst 0, 1) := by decide +kernel
theorem dX8_undo_27 : decode cX8_undo 27 = .ok (.istore_n 1, 1) := by decide +kernel
theorem dX8_undo_28 : decode cX8_undo 28 = .ok (.iload_n 1, 1) := by decide +kernel
theorem dX8_undo_29 : decode cX8_undo 29 = .ok (.bipush 24, 2) := by decide +kernel
theorem dX8_undo_31 : decode cX8_undo 31 = .ok (.if_icmp .ge 112, 3) := by decide +kernel
theorem dX8_undo_34 : decode cX8_undo 34 = .ok (.aload_n 0, 1) := by decide +kernel
theorem dX8_undo_35 : decode cX8_undo 35 = .ok (.getfield 9, 3) := by decide +kernel
theorem dX8_undo_38 : decode cX8_undo 38 = .ok (.iload_n 1, 1) := by decide +kernel
theorem dX8_undo_39 : decode cX8_undo 39 = .ok (.aload_n 0, 1) := by decide +kernel
theorem dX8_undo_40 : decode cX8_undo 40 = .ok (.getfield 68, 3) := by decide +kernel
theorem dX8_undo_43 : decode cX8_undo 43 = .ok (.iload_n 1, 1) := by decide +kernel
theorem dX8_undo_44 : decode cX8_undo 44 = .ok (.iaload, 1) := by decide +kernel
theorem dX8_undo_45 : decode cX8_undo 45 = .ok (.iastore, 1) := by decide +kernel
theorem dX8_undo_46 : decode cX8_undo 46 = .ok (.aload_n 0, 1) := by decide +kernel
theorem dX8_undo_47 : decode cX8_undo 47 = .ok (.getfield 15, 3) := by decide +kernel
theorem dX8_undo_50 : decode cX8_undo 50 = .ok (.iload_n 1, 1) := by decide +kernel
theorem dX8_undo_51 : decode cX8_undo 51 = .ok (.aload_n 0, 1) := by decide +kernel
theorem dX8_undo_52 : decode cX8_undo 52 = .ok (.getfield 68, 3) := by decide +kernel
theorem dX8_undo_55 : decode cX8_undo 55 = .ok (.bipush 24, 2) := by decide +kernel
theorem dX8_undo_57 : decode cX8_undo 57 = .ok (.iload_n 1, 1) := by decide +kernel
theorem dX8_undo_58 : decode cX8_undo 58 = .ok (.iadd, 1) := by decide +kernel
theorem dX8_undo_59 : decode cX8_undo 59 = .ok (.iaload, 1) := by decide +kernel
theorem dX8_undo_60 : decode cX8_undo 60 = .ok (.iastore, 1) := by decide +kernel
theorem dX8_undo_61 : decode cX8_undo 61 = .ok (.aload_n 0, 1) := by decide +kernel
theorem dX8_undo_62 : decode cX8_undo 62 = .ok (.getfield 18, 3) := by decide +kernel
theorem dX8_undo_65 : decode cX8_undo 65 = .ok (.iload_n 1, 1) := by decide +kernel
theorem dX8_undo_66 : decode cX8_undo 66 = .ok (.aload_n 0, 1) := by decide +kernel
theorem dX8_undo_67 : decode cX8_undo 67 = .ok (.getfield 68, 3) := by decide +kernel
theorem dX8_undo_70 : decode cX8_undo 70 = .ok (.bipush 48, 2) := by decide +kernel
theorem dX8_undo_72 : decode cX8_undo 72 = .ok (.iload_n 1, 1) := by decide +kernel
theorem dX8_undo_73 : decode cX8_undo 73 = .ok (.iadd, 1) := by decide +kernel
theorem dX8_undo_74 : decode cX8_undo 74 = .ok (.iaload, 1) := by decide +kernel
theorem dX8_undo_75 : decode cX8_undo 75 = .ok (.iastore, 1) := by decide +kernel
theorem dX8_undo_76 : decode cX8_undo 76 = .ok (.aload_n 0, 1) := by decide +kernel
theorem dX8_undo_77 : decode cX8_undo 77 = .ok (.getfield 21, 3) := by decide +kernel
theorem dX8_undo_80 : decode cX8_undo 80 = .ok (.iload_n 1, 1) := by decide +kernel
theorem dX8_undo_81 : decode cX8_undo 81 = .ok (.aload_n 0, 1) := by decide +kernel
theorem dX8_undo_82 : decode cX8_undo 82 = .ok (.getfield 68, 3) := by decide +kernel
theorem dX8_undo_85 : decode cX8_undo 85 = .ok (.bipush 72, 2) := by decide +kernel
theorem dX8_undo_87 : decode cX8_undo 87 = .ok (.iload_n 1, 1) := by decide +kernel
theorem dX8_undo_88 : decode cX8_undo 88 = .ok (.iadd, 1) := by decide +kernel
theorem dX8_undo_89 : decode cX8_undo 89 = .ok (.iaload, 1) := by decide +kernel
theorem dX8_undo_90 : decode cX8_undo 90 = .ok (.iastore, 1) := by decide +kernel
theorem dX8_undo_91 : decode cX8_undo 91 = .ok (.aload_n 0, 1) := by decide +kernel
theorem dX8_undo_92 : decode cX8_undo 92 = .ok (.getfield 24, 3) := by decide +kernel
theorem dX8_undo_95 : decode cX8_undo 95 = .ok (.iload_n 1, 1) := by decide +kernel
theorem dX8_undo_96 : decode cX8_undo 96 = .ok (.aload_n 0, 1) := by decide +kernel
theorem dX8_undo_97 : decode cX8_undo 97 = .ok (.getfield 68, 3) := by decide +kernel
theorem dX8_undo_100 : decode cX8_undo 100 = .ok (.bipush 96, 2) := by decide +kernel
theorem dX8_undo_102 : decode cX8_undo 102 = .ok (.iload_n 1, 1) := by decide +kernel
theorem dX8_undo_103 : decode cX8_undo 103 = .ok (.iadd, 1) := by decide +kernel
theorem dX8_undo_104 : decode cX8_undo 104 = .ok (.iaload, 1) := by decide +kernel
theorem dX8_undo_105 : decode cX8_undo 105 = .ok (.iastore, 1) := by decide +kernel
theorem dX8_undo_106 : decode cX8_undo 106 = .ok (.aload_n 0, 1) := by decide +kernel
theorem dX8_undo_107 : decode cX8_undo 107 = .ok (.getfield 27, 3) := by decide +kernel
theorem dX8_undo_110 : decode cX8_undo 110 = .ok (.iload_n 1, 1) := by decide +kernel
theorem dX8_undo_111 : decode cX8_undo 111 = .ok (.aload_n 0, 1) := by decide +kernel
theorem dX8_undo_112 : decode cX8_undo 112 = .ok (.getfield 68, 3) := by decide +kernel
theorem dX8_undo_115 : decode cX8_undo 115 = .ok (.bipush 120, 2) := by decide +kernel
theorem dX8_undo_117 : decode cX8_undo 117 = .ok (.iload_n 1, 1) := by decide +kernel
theorem dX8_undo_118 : decode cX8_undo 118 = .ok (.iadd, 1) := by decide +kernel
theorem dX8_undo_119 : decode cX8_undo 119 = .ok (.iaload, 1) := by decide +kernel
theorem dX8_undo_120 : decode cX8_undo 120 = .ok (.iastore, 1) := by decide +kernel
theorem dX8_undo_121 : decode cX8_undo 121 = .ok (.aload_n 0, 1) := by decide +kernel
theorem dX8_undo_122 : decode cX8_undo 122 = .ok (.getfield 30, 3) := by decide +kernel
theorem dX8_undo_125 : decode cX8_undo 125 = .ok (.iload_n 1, 1) := by decide +kernel
theorem dX8_undo_126 : decode cX8_undo 126 = .ok (.aload_n 0, 1) := by decide +kernel
theorem dX8_undo_127 : decode cX8_undo 127 = .ok (.getfield 68, 3) := by decide +kernel
theorem dX8_undo_130 : decode cX8_undo 130 = .ok (.sipush 144, 3) := by decide +kernel
theorem dX8_undo_133 : decode cX8_undo 133 = .ok (.iload_n 1, 1) := by decide +kernel
theorem dX8_undo_134 : decode cX8_undo 134 = .ok (.iadd, 1) := by decide +kernel
theorem dX8_undo_135 : decode cX8_undo 135 = .ok (.iaload, 1) := by decide +kernel
theorem dX8_undo_136 : decode cX8_undo 136 = .ok (.iastore, 1) := by decide +kernel
theorem dX8_undo_137 : decode cX8_undo 137 = .ok (.iinc 1 1, 3) := by decide +kernel
theorem dX8_undo_140 : decode cX8_undo 140 = .ok (.goto (-112), 3) := by decide +kernel
theorem dX8_undo_143 : decode cX8_undo 143 = .ok (.iconst 0, 1) := by decide +kernel
theorem dX8_undo_144 : decode cX8_undo 144 = .ok (.istore_n 1, 1) := by decide +kernel
theorem dX8_undo_145 : decode cX8_undo 145 = .ok (.iload_n 1, 1) := by decide +kernel
theorem dX8_undo_146 : decode cX8_undo 146 = .ok (.bipush 8, 2) := by decide +kernel
theorem dX8_undo_148 : decode cX8_undo 148 = .ok (.if_icmp .ge 41, 3) := by decide +kernel
theorem dX8_undo_151 : decode cX8_undo 151 = .ok (.aload_n 0, 1) := by decide +kernel
theorem dX8_undo_152 : decode cX8_undo 152 = .ok (.getfield 33, 3) := by decide +kernel
theorem dX8_undo_155 : decode cX8_undo 155 = .ok (.iload_n 1, 1) := by decide +kernel
theorem dX8_undo_156 : decode cX8_undo 156 = .ok (.aload_n 0, 1) := by decide +kernel
theorem dX8_undo_157 : decode cX8_undo 157 = .ok (.getfield 68, 3) := by decide +kernel
theorem dX8_undo_160 : decode cX8_undo 160 = .ok (.sipush 168, 3) := by decide +kernel
theorem dX8_undo_163 : decode cX8_undo 163 = .ok (.iload_n 1, 1) := by decide +kernel
theorem dX8_undo_164 : decode cX8_undo 164 = .ok (.iadd, 1) := by decide +kernel
theorem dX8_undo_165 : decode cX8_undo 165 = .ok (.iaload, 1) := by decide +kernel
theorem dX8_undo_166 : decode cX8_undo 166 = .ok (.iastore, 1) := by decide +kernel
theorem dX8_undo_167 : decode cX8_undo 167 = .ok (.aload_n 0, 1) := by decide +kernel
theorem dX8_undo_168 : decode cX8_undo 168 = .ok (.getfield 36, 3) := by decide +kernel
theorem dX8_undo_171 : decode cX8_undo 171 = .ok (.iload_n 1, 1) := by decide +kernel
theorem dX8_undo_172 : decode cX8_undo 172 = .ok (.aload_n 0, 1) := by decide +kernel
theorem dX8_undo_173 : decode cX8_undo 173 = .ok (.getfield 68, 3) := by decide +kernel
theorem dX8_undo_176 : decode cX8_undo 176 = .ok (.sipush 176, 3) := by decide +kernel
theorem dX8_undo_179 : decode cX8_undo 179 = .ok (.iload_n 1, 1) := by decide +kernel
theorem dX8_undo_180 : decode cX8_undo 180 = .ok (.iadd, 1) := by decide +kernel
theorem dX8_undo_181 : decode cX8_undo 181 = .ok (.iaload, 1) := by decide +kernel
theorem dX8_undo_182 : decode cX8_undo 182 = .ok (.iastore, 1) := by decide +kernel
theorem dX8_undo_183 : decode cX8_undo 183 = .ok (.iinc 1 1, 3) := by decide +kernel
theorem dX8_undo_186 : decode cX8_undo 186 = .ok (.goto (-41), 3) := by decide +kernel
theorem dX8_undo_189 : decode cX8_undo 189 = .ok (.aload_n 0, 1) := by decide +kernel
theorem dX8_undo_190 : decode cX8_undo 190 = .ok (.getfield 77, 3) := by decide +kernel
theorem dX8_undo_193 : decode cX8_undo 193 = .ok (.ireturn, 1) := by decide +kernel
theorem dX8_count_0 : decode cX8_count 0 = .ok (.iconst 0, 1) := by decide +kernel
theorem dX8_count_1 : decode cX8_count 1 = .ok (.istore_n 2, 1) := by decide +kernel
theorem dX8_count_2 : decode cX8_count 2 = .ok (.iload_n 1, 1) := by decide +kernel
theorem dX8_count_3 : decode cX8_count 3 = .ok (.tableswitch 117 0 5 #[37, 42, 47, 52, 57, 88], 37) := by decide +kernel
theorem dX8_count_40 : decode cX8_count 40 = .ok (.aload_n 0, 1) := by decide +kernel
theorem dX8_count_41 : decode cX8_count 41 = .ok (.getfield 77, 3) := by decide +kernel
theorem dX8_count_44 : decode cX8_count 44 = .ok (.ireturn, 1) := by decide +kernel
theorem dX8_count_45 : decode cX8_count 45 = .ok (.aload_n 0, 1) := by decide +kernel
theorem dX8_count_46 : decode cX8_count 46 = .ok (.getfield 258, 3) := by decide +kernel
theorem dX8_count_49 : decode cX8_count 49 = .ok (.ireturn, 1) := by decide +kernel
theorem dX8_count_50 : decode cX8_count 50 = .ok (.aload_n 0, 1) := by decide +kernel
theorem dX8_count_51 : decode cX8_count 51 = .ok (.getfield 119, 3) := by decide +kernel
theorem dX8_count_54 : decode cX8_count 54 = .ok (.ireturn, 1) := by decide +kernel
theorem dX8_count_55 : decode cX8_count 55 = .ok (.aload_n 0, 1) := by decide +kernel
theorem dX8_count_56 : decode cX8_count 56 = .ok (.getfield 172, 3) := by decide +kernel
theorem dX8_count_59 : decode cX8_count 59 = .ok (.ireturn, 1) := by decide +kernel
theorem dX8_count_60 : decode cX8_count 60 = .ok (.iconst 0, 1) := by decide +kernel
theorem dX8_count_61 : decode cX8_count 61 = .ok (.istore_n 3, 1) := by decide +kernel
theorem dX8_count_62 : decode cX8_count 62 = .ok (.iload_n 3, 1) := by decide +kernel
theorem dX8_count_63 : decode cX8_count 63 = .ok (.aload_n 0, 1) := by decide +kernel
theorem dX8_count_64 : decode cX8_count 64 = .ok (.getfield 77, 3) := by decide +kernel
theorem dX8_count_67 : decode cX8_count 67 = .ok (.if_icmp .ge 22, 3) := by decide +kernel
theorem dX8_count_70 : decode cX8_count 70 = .ok (.aload_n 0, 1) := by decide +kernel
theorem dX8_count_71 : decode cX8_count 71 = .ok (.getfield 9, 3) := by decide +kernel
theorem dX8_count_74 : decode cX8_count 74 = .ok (.iload_n 3, 1) := by decide +kernel
theorem dX8_count_75 : decode cX8_count 75 = .ok (.iaload, 1) := by decide +kernel
theorem dX8_count_76 : decode cX8_count 76 = .ok (.iconst 2, 1) := by decide +kernel
theorem dX8_count_77 : decode cX8_count 77 = .ok (.if_icmp .ne 6, 3) := by decide +kernel
theorem dX8_count_80 : decode cX8_count 80 = .ok (.iinc 2 1, 3) := by decide +kernel
theorem dX8_count_83 : decode cX8_count 83 = .ok (.iinc 3 1, 3) := by decide +kernel
theorem dX8_count_86 : decode cX8_count 86 = .ok (.goto (-24), 3) := by decide +kernel
theorem dX8_count_89 : decode cX8_count 89 = .ok (.iload_n 2, 1) := by decide +kernel
theorem dX8_count_90 : decode cX8_count 90 = .ok (.ireturn, 1) := by decide +kernel
theorem dX8_count_91 : decode cX8_count 91 = .ok (.iconst 0, 1) := by decide +kernel
theorem dX8_count_92 : decode cX8_count 92 = .ok (.istore_n 3, 1) := by decide +kernel
theorem dX8_count_93 : decode cX8_count 93 = .ok (.iload_n 3, 1) := by decide +kernel
theorem dX8_count_94 : decode cX8_count 94 = .ok (.aload_n 0, 1) := by decide +kernel
theorem dX8_count_95 : decode cX8_count 95 = .ok (.getfield 77, 3) := by decide +kernel
theorem dX8_count_98 : decode cX8_count 98 = .ok (.if_icmp .ge 20, 3) := by decide +kernel
theorem dX8_count_101 : decode cX8_count 101 = .ok (.iload_n 2, 1) := by decide +kernel
theorem dX8_count_102 : decode cX8_count 102 = .ok (.aload_n 0, 1) := by decide +kernel
theorem dX8_count_103 : decode cX8_count 103 = .ok (.getfield 27, 3) := by decide +kernel
theorem dX8_count_106 : decode cX8_count 106 = .ok (.iload_n 3, 1) := by decide +kernel
theorem dX8_count_107 : decode cX8_count 107 = .ok (.iaload, 1) := by decide +kernel
theorem dX8_count_108 : decode cX8_count 108 = .ok (.invokestatic 96, 3) := by decide +kernel
theorem dX8_count_111 : decode cX8_count 111 = .ok (.istore_n 2, 1) := by decide +kernel
theorem dX8_count_112 : decode cX8_count 112 = .ok (.iinc 3 1, 3) := by decide +kernel
theorem dX8_count_115 : decode cX8_count 115 = .ok (.goto (-22), 3) := by decide +kernel
theorem dX8_count_118 : decode cX8_count 118 = .ok (.iload_n 2, 1) := by decide +kernel
theorem dX8_count_119 : decode cX8_count 119 = .ok (.ireturn, 1) := by decide +kernel
theorem dX8_count_120 : decode cX8_count 120 = .ok (.bipush (-2), 2) := by decide +kernel
theorem dX8_count_122 : decode cX8_count 122 = .ok (.ireturn, 1) := by decide +kernel
theorem dL_law_0 : decode cL_law 0 = .ok (.new 7, 3) := by decide +kernel
theorem dL_law_3 : decode cL_law 3 = .ok (.dup, 1) := by decide +kernel
theorem dL_law_4 : decode cL_law 4 = .ok (.invokespecial 9, 3) := by decide +kernel
theorem dL_law_7 : decode cL_law 7 = .ok (.astore_n 1, 1) := by decide +kernel
theorem dL_law_8 : decode cL_law 8 = .ok (.new 10, 3) := by decide +kernel
theorem dL_law_11 : decode cL_law 11 = .ok (.dup, 1) := by decide +kernel
theorem dL_law_12 : decode cL_law 12 = .ok (.invokespecial 12, 3) := by decide +kernel
theorem dL_law_15 : decode cL_law 15 = .ok (.astore_n 2, 1) := by decide +kernel
theorem dL_law_16 : decode cL_law 16 = .ok (.iconst 0, 1) := by decide +kernel
theorem dL_law_17 : decode cL_law 17 = .ok (.istore_n 3, 1) := by decide +kernel
theorem dL_law_18 : decode cL_law 18 = .ok (.iload_n 3, 1) := by decide +kernel
theorem dL_law_19 : decode cL_law 19 = .ok (.aload_n 0, 1) := by decide +kernel
theorem dL_law_20 : decode cL_law 20 = .ok (.arraylength, 1) := by decide +kernel
theorem dL_law_21 : decode cL_law 21 = .ok (.iconst 5, 1) := by decide +kernel
theorem dL_law_22 : decode cL_law 22 = .ok (.isub, 1) := by decide +kernel
theorem dL_law_23 : decode cL_law 23 = .ok (.if_icmp .gt 1278, 3) := by decide +kernel
theorem dL_law_26 : decode cL_law 26 = .ok (.aload_n 0, 1) := by decide +kernel
theorem dL_law_27 : decode cL_law 27 = .ok (.iload_n 3, 1) := by decide +kernel
theorem dL_law_28 : decode cL_law 28 = .ok (.iaload, 1) := by decide +kernel
theorem dL_law_29 : decode cL_law 29 = .ok (.bipush 63, 2) := by decide +kernel
theorem dL_law_31 : decode cL_law 31 = .ok (.iand, 1) := by decide +kernel
theorem dL_law_32 : decode cL_law 32 = .ok (.tableswitch 1263 0 34 #[156, 179, 192, 225, 268, 311, 324, 347, 360, 373, 396, 429, 462, 485, 508, 541, 574, 608, 651, 694, 747, 780, 813, 846, 899, 932, 975, 1028, 1061, 1104, 1138, 1181, 1214, 1227, 1240], 156) := by decide +kernel
theorem dL_law_188 : decode cL_law 188 = .ok (.aload_n 1, 1) := by decide +kernel
theorem dL_law_189 : decode cL_law 189 = .ok (.aload_n 0, 1) := by decide +kernel
theorem dL_law_190 : decode cL_law 190 = .ok (.iload_n 3, 1) := by decide +kernel
theorem dL_law_191 : decode cL_law 191 = .ok (.iconst 1, 1) := by decide +kernel
theorem dL_law_192 : decode cL_law 192 = .ok (.iadd, 1) := by decide +kernel
theorem dL_law_193 : decode cL_law 193 = .ok (.iaload, 1) := by decide +kernel
theorem dL_law_194 : decode cL_law 194 = .ok (.invokevirtual 13, 3) := by decide +kernel
theorem dL_law_197 : decode cL_law 197 = .ok (.aload_n 2, 1) := by decide +kernel
theorem dL_law_198 : decode cL_law 198 = .ok (.aload_n 0, 1) := by decide +kernel
theorem dL_law_199 : decode cL_law 199 = .ok (.iload_n 3, 1) := by decide +kernel
theorem dL_law_200 : decode cL_law 200 = .ok (.iconst 1, 1) := by decide +kernel
theorem dL_law_201 : decode cL_law 201 = .ok (.iadd, 1) := by decide +kernel
theorem dL_law_202 : decode cL_law 202 = .ok (.iaload, 1) := by decide +kernel
theorem dL_law_203 : decode cL_law 203 = .ok (.invokevirtual 17, 3) := by decide +kernel
theorem dL_law_206 : decode cL_law 206 = .ok (.if_icmp .eq 1089, 3) := by decide +kernel
theorem dL_law_209 : decode cL_law 209 = .ok (.iconst 0, 1) := by decide +kernel
theorem dL_law_210 : decode cL_law 210 = .ok (.ireturn, 1) := by decide +kernel
theorem dL_law_211 : decode cL_law 211 = .ok (.aload_n 1, 1) := by decide +kernel
theorem dL_law_212 : decode cL_law 212 = .ok (.invokevirtual 18, 3) := by decide +kernel
theorem dL_law_215 : decode cL_law 215 = .ok (.aload_n 2, 1) := by decide +kernel
theorem dL_law_216 : decode cL_law 216 = .ok (.invokevirtual 22, 3) := by decide +kernel
theorem dL_law_219 : decode cL_law 219 = .ok (.if_icmp .eq 1076, 3) := by decide +kernel
theorem dL_law_222 : decode cL_law 222 = .ok (.iconst 0, 1) := by decide +kernel
theorem dL_law_223 : decode cL_law 223 = .ok (.ireturn, 1) := by decide +kernel
theorem dL_law_224 : decode cL_law 224 = .ok (.aload_n 1, 1) := by decide +kernel
theorem dL_law_225 : decode cL_law 225 = .ok (.aload_n 0, 1) := by decide +kernel
theorem dL_law_226 : decode cL_law 226 = .ok (.iload_n 3, 1) := by decide +kernel
theorem dL_law_227 : decode cL_law 227 = .ok (.iconst 1, 1) := by decide +kernel
theorem dL_law_228 : decode cL_law 228 = .ok (.iadd, 1) := by decide +kernel
theorem dL_law_229 : decode cL_law 229 = .ok (.iaload, 1) := by decide +kernel
theorem dL_law_230 : decode cL_law 230 = .ok (.aload_n 0, 1) := by decide +kernel
theorem dL_law_231 : decode cL_law 231 = .ok (.iload_n 3, 1) := by decide +kernel
theorem dL_law_232 : decode cL_law 232 = .ok (.iconst 2, 1) := by decide +kernel
theorem dL_law_233 : decode cL_law 233 = .ok (.iadd, 1) := by decide +kernel
theorem dL_law_234 : decode cL_law 234 = .ok (.iaload, 1) := by decide +kernel
theorem dL_law_235 : decode cL_law 235 = .ok (.invokevirtual 23, 3) := by decide +kernel
theorem dL_law_238 : decode cL_law 238 = .ok (.aload_n 2, 1) := by decide +kernel
theorem dL_law_239 : decode cL_law 239 = .ok (.aload_n 0, 1) := by decide +kernel
theorem dL_law_240 : decode cL_law 240 = .ok (.iload_n 3, 1) := by decide +kernel
theorem dL_law_241 : decode cL_law 241 = .ok (.iconst 1, 1) := by decide +kernel
theorem dL_law_242 : decode cL_law 242 = .ok (.iadd, 1) := by decide +kernel
theorem dL_law_243 : decode cL_law 243 = .ok (.iaload, 1) := by decide +kernel
theorem dL_law_244 : decode cL_law 244 = .ok (.aload_n 0, 1) := by decide +kernel
theorem dL_law_245 : decode cL_law 245 = .ok (.iload_n 3, 1) := by decide +kernel
theorem dL_law_246 : decode cL_law 246 = .ok (.iconst 2, 1) := by decide +kernel
theorem dL_law_247 : decode cL_law 247 = .ok (.iadd, 1) := by decide +kernel
theorem dL_law_248 : decode cL_law 248 = .ok (.iaload, 1) := by decide +kernel
theorem dL_law_249 : decode cL_law 249 = .ok (.invokevirtual 27, 3) := by decide +kernel
theorem dL_law_252 : decode cL_law 252 = .ok (.if_icmp .eq 1043, 3) := by decide +kernel
theorem dL_law_255 : decode cL_law 255 = .ok (.iconst 0, 1) := by decide +kernel
theorem dL_law_256 : decode cL_law 256 = .ok (.ireturn, 1) := by decide +kernel
theorem dL_law_257 : decode cL_law 257 = .ok (.aload_n 1, 1) := by decide +kernel
theorem dL_law_258 : decode cL_law 258 = .ok (.aload_n 0, 1) := by decide +kernel
theorem dL_law_259 : decode cL_law 259 = .ok (.iload_n 3, 1) := by decide +kernel
theorem dL_law_260 : decode cL_law 260 = .ok (.iconst 1, 1) := by decide +kernel
theorem dL_law_261 : decode cL_law 261 = .ok (.iadd, 1) := by decide +kernel
theorem dL_law_262 : decode cL_law 262 = .ok (.iaload, 1) := by decide +kernel
theorem dL_law_263 : decode cL_law 263 = .ok (.aload_n 0, 1) := by decide +kernel
theorem dL_law_264 : decode cL_law 264 = .ok (.iload_n 3, 1) := by decide +kernel
theorem dL_law_265 : decode cL_law 265 = .ok (.iconst 2, 1) := by decide +kernel
theorem dL_law_266 : decode cL_law 266 = .ok (.iadd, 1) := by decide +kernel
theorem dL_law_267 : decode cL_law 267 = .ok (.iaload, 1) := by decide +kernel
theorem dL_law_268 : decode cL_law 268 = .ok (.aload_n 0, 1) := by decide +kernel
theorem dL_law_269 : decode cL_law 269 = .ok (.iload_n 3, 1) := by decide +kernel
theorem dL_law_270 : decode cL_law 270 = .ok (.iconst 3, 1) := by decide +kernel
theorem dL_law_271 : decode cL_law 271 = .ok (.iadd, 1) := by decide +kernel
theorem dL_law_272 : decode cL_law 272 = .ok (.iaload, 1) := by decide +kernel
theorem dL_law_273 : decode cL_law 273 = .ok (.invokevirtual 28, 3) := by decide +kernel
theorem dL_law_276 : decode cL_law 276 = .ok (.aload_n 2, 1) := by decide +kernel
theorem dL_law_277 : decode cL_law 277 = .ok (.aload_n 0, 1) := by decide +kernel
theorem dL_law_278 : decode cL_law 278 = .ok (.iload_n 3, 1) := by decide +kernel
theorem dL_law_279 : decode cL_law 279 = .ok (.iconst 1, 1) := by decide +kernel
theorem dL_law_280 : decode cL_law 280 = .ok (.iadd, 1) := by decide +kernel
theorem dL_law_281 : decode cL_law 281 = .ok (.iaload, 1) := by decide +kernel
theorem dL_law_282 : decode cL_law 282 = .ok (.aload_n 0, 1) := by decide +kernel
theorem dL_law_283 : decode cL_law 283 = .ok (.iload_n 3, 1) := by decide +kernel
theorem dL_law_284 : decode cL_law 284 = .ok (.iconst 2, 1) := by decide +kernel
theorem dL_law_285 : decode cL_law 285 = .ok (.iadd, 1) := by decide +kernel
theorem dL_law_286 : decode cL_law 286 = .ok (.iaload, 1) := by decide +kernel
theorem dL_law_287 : decode cL_law 287 = .ok (.aload_n 0, 1) := by decide +kernel
theorem dL_law_288 : decode cL_law 288 = .ok (.iload_n 3, 1) := by decide +kernel
theorem dL_law_289 : decode cL_law 289 = .ok (.iconst 3, 1) := by decide +kernel
theorem dL_law_290 : decode cL_law 290 = .ok (.iadd, 1) := by decide +kernel
theorem dL_law_291 : decode cL_law 291 = .ok (.iaload, 1) := by decide +kernel
theorem dL_law_292 : decode cL_law 292 = .ok (.invokevirtual 32, 3) := by decide +kernel
theorem dL_law_295 : decode cL_law 295 = .ok (.if_icmp .eq 1000, 3) := by decide +kernel
theorem dL_law_298 : decode cL_law 298 = .ok (.iconst 0, 1) := by decide +kernel
theorem dL_law_299 : decode cL_law 299 = .ok (.ireturn, 1) := by decide +kernel
theorem dL_law_300 : decode cL_law 300 = .ok (.aload_n 1, 1) := by decide +kernel
theorem dL_law_301 : decode cL_law 301 = .ok (.aload_n 0, 1) := by decide +kernel
theorem dL_law_302 : decode cL_law 302 = .ok (.iload_n 3, 1) := by decide +kernel
theorem dL_law_303 : decode cL_law 303 = .ok (.iconst 1, 1) := by decide +kernel
theorem dL_law_304 : decode cL_law 304 = .ok (.iadd, 1) := by decide +kernel
theorem dL_law_305 : decode cL_law 305 = .ok (.iaload, 1) := by decide +kernel
theorem dL_law_306 : decode cL_law 306 = .ok (.aload_n 0, 1) := by decide +kernel
theorem dL_law_307 : decode cL_law 307 = .ok (.iload_n 3, 1) := by decide +kernel
theorem dL_law_308 : decode cL_law 308 = .ok (.iconst 2, 1) := by decide +kernel
theorem dL_law_309 : decode cL_law 309 = .ok (.iadd, 1) := by decide +kernel
theorem dL_law_310 : decode cL_law 310 = .ok (.iaload, 1) := by decide +kernel
theorem dL_law_311 : decode cL_law 311 = .ok (.aload_n 0, 1) := by decide +kernel
theorem dL_law_312 : decode cL_law 312 = .ok (.iload_n 3, 1) := by decide +kernel
theorem dL_law_313 : decode cL_law 313 = .ok (.iconst 3, 1) := by decide +kernel
theorem dL_law_314 : decode cL_law 314 = .ok (.iadd, 1) := by decide +kernel
theorem dL_law_315 : decode cL_law 315 = .ok (.iaload, 1) := by decide +kernel
theorem dL_law_316 : decode cL_law 316 = .ok (.invokevirtual 33, 3) := by decide +kernel
theorem dL_law_319 : decode cL_law 319 = .ok (.aload_n 2, 1) := by decide +kernel
theorem dL_law_320 : decode cL_law 320 = .ok (.aload_n 0, 1) := by decide +kernel
theorem dL_law_321 : decode cL_law 321 = .ok (.iload_n 3, 1) := by decide +kernel
theorem dL_law_322 : decode cL_law 322 = .ok (.iconst 1, 1) := by decide +kernel
theorem dL_law_323 : decode cL_law 323 = .ok (.iadd, 1) := by decide +kernel
theorem dL_law_324 : decode cL_law 324 = .ok (.iaload, 1) := by decide +kernel
theorem dL_law_325 : decode cL_law 325 = .ok (.aload_n 0, 1) := by decide +kernel
theorem dL_law_326 : decode cL_law 326 = .ok (.iload_n 3, 1) := by decide +kernel
theorem dL_law_327 : decode cL_law 327 = .ok (.iconst 2, 1) := by decide +kernel
theorem dL_law_328 : decode cL_law 328 = .ok (.iadd, 1) := by decide +kernel
theorem dL_law_329 : decode cL_law 329 = .ok (.iaload, 1) := by decide +kernel
theorem dL_law_330 : decode cL_law 330 = .ok (.aload_n 0, 1) := by decide +kernel
theorem dL_law_331 : decode cL_law 331 = .ok (.iload_n 3, 1) := by decide +kernel
theorem dL_law_332 : decode cL_law 332 = .ok (.iconst 3, 1) := by decide +kernel
theorem dL_law_333 : decode cL_law 333 = .ok (.iadd, 1) := by decide +kernel
theorem dL_law_334 : decode cL_law 334 = .ok (.iaload, 1) := by decide +kernel
theorem dL_law_335 : decode cL_law 335 = .ok (.invokevirtual 36, 3) := by decide +kernel
theorem dL_law_338 : decode cL_law 338 = .ok (.if_icmp .eq 957, 3) := by decide +kernel
theorem dL_law_341 : decode cL_law 341 = .ok (.iconst 0, 1) := by decide +kernel
theorem dL_law_342 : decode cL_law 342 = .ok (.ireturn, 1) := by decide +kernel
theorem dL_law_343 : decode cL_law 343 = .ok (.aload_n 1, 1) := by decide +kernel
theorem dL_law_344 : decode cL_law 344 = .ok (.invokevirtual 37, 3) := by decide +kernel
theorem dL_law_347 : decode cL_law 347 = .ok (.aload_n 2, 1) := by decide +kernel
theorem dL_law_348 : decode cL_law 348 = .ok (.invokevirtual 40, 3) := by decide +kernel
theorem dL_law_351 : decode cL_law 351 = .ok (.if_icmp .eq 944, 3) := by decide +kernel
theorem dL_law_354 : decode cL_law 354 = .ok (.iconst 0, 1) := by decide +kernel
theorem dL_law_355 : decode cL_law 355 = .ok (.ireturn, 1) := by decide +kernel
theorem dL_law_356 : decode cL_law 356 = .ok (.aload_n 1, 1) := by decide +kernel
theorem dL_law_357 : decode cL_law 357 = .ok (.aload_n 0, 1) := by decide +kernel
theorem dL_law_358 : decode cL_law 358 = .ok (.iload_n 3, 1) := by decide +kernel
theorem dL_law_359 : decode cL_law 359 = .ok (.iconst 1, 1) := by decide +kernel
theorem dL_law_360 : decode cL_law 360 = .ok (.iadd, 1) := by decide +kernel
theorem dL_law_361 : decode cL_law 361 = .ok (.iaload, 1) := by decide +kernel
theorem dL_law_362 : decode cL_law 362 = .ok (.invokevirtual 41, 3) := by decide +kernel
theorem dL_law_365 : decode cL_law 365 = .ok (.aload_n 2, 1) := by decide +kernel
theorem dL_law_366 : decode cL_law 366 = .ok (.aload_n 0, 1) := by decide +kernel
theorem dL_law_367 : decode cL_law 367 = .ok (.iload_n 3, 1) := by decide +kernel
theorem dL_law_368 : decode cL_law 368 = .ok (.iconst 1, 1) := by decide +kernel
theorem dL_law_369 : decode cL_law 369 = .ok (.iadd, 1) := by decide +kernel
theorem dL_law_370 : decode cL_law 370 = .ok (.iaload, 1) := by decide +kernel
theorem dL_law_371 : decode cL_law 371 = .ok (.invokevirtual 44, 3) := by decide +kernel
theorem dL_law_374 : decode cL_law 374 = .ok (.if_icmp .eq 921, 3) := by decide +kernel
theorem dL_law_377 : decode cL_law 377 = .ok (.iconst 0, 1) := by decide +kernel
theorem dL_law_378 : decode cL_law 378 = .ok (.ireturn, 1) := by decide +kernel
theorem dL_law_379 : decode cL_law 379 = .ok (.aload_n 1, 1) := by decide +kernel
theorem dL_law_380 : decode cL_law 380 = .ok (.invokevirtual 45, 3) := by decide +kernel
theorem dL_law_383 : decode cL_law 383 = .ok (.aload_n 2, 1) := by decide +kernel
theorem dL_law_384 : decode cL_law 384 = .ok (.invokevirtual 48, 3) := by decide +kernel
theorem dL_law_387 : decode cL_law 387 = .ok (.if_icmp .eq 908, 3) := by decide +kernel
theorem dL_law_390 : decode cL_law 390 = .ok (.iconst 0, 1) := by decide +kernel
theorem dL_law_391 : decode cL_law 391 = .ok (.ireturn, 1) := by decide +kernel
theorem dL_law_392 : decode cL_law 392 = .ok (.aload_n 1, 1) := by decide +kernel
theorem dL_law_393 : decode cL_law 393 = .ok (.invokevirtual 49, 3) := by decide +kernel
theorem dL_law_396 : decode cL_law 396 = .ok (.aload_n 2, 1) := by decide +kernel
theorem dL_law_397 : decode cL_law 397 = .ok (.invokevirtual 52, 3) := by decide +kernel
theorem dL_law_400 : decode cL_law 400 = .ok (.if_icmp .eq 895, 3) := by decide +kernel
theorem dL_law_403 : decode cL_law 403 = .ok (.iconst 0, 1) := by decide +kernel
theorem dL_law_404 : decode cL_law 404 = .ok (.ireturn, 1) := by decide +kernel
theorem dL_law_405 : decode cL_law 405 = .ok (.aload_n 1, 1) := by decide +kernel
theorem dL_law_406 : decode cL_law 406 = .ok (.aload_n 0, 1) := by decide +kernel
theorem dL_law_407 : decode cL_law 407 = .ok (.iload_n 3, 1) := by decide +kernel
theorem dL_law_408 : decode cL_law 408 = .ok (.iconst 1, 1) := by decide +kernel
theorem dL_law_409 : decode cL_law 409 = .ok (.iadd, 1) := by decide +kernel
theorem dL_law_410 : decode cL_law 410 = .ok (.iaload, 1) := by decide +kernel
theorem dL_law_411 : decode cL_law 411 = .ok (.invokevirtual 53, 3) := by decide +kernel
theorem dL_law_414 : decode cL_law 414 = .ok (.aload_n 2, 1) := by decide +kernel
theorem dL_law_415 : decode cL_law 415 = .ok (.aload_n 0, 1) := by decide +kernel
theorem dL_law_416 : decode cL_law 416 = .ok (.iload_n 3, 1) := by decide +kernel
theorem dL_law_417 : decode cL_law 417 = .ok (.iconst 1, 1) := by decide +kernel
theorem dL_law_418 : decode cL_law 418 = .ok (.iadd, 1) := by decide +kernel
theorem dL_law_419 : decode cL_law 419 = .ok (.iaload, 1) := by decide +kernel
theorem dL_law_420 : decode cL_law 420 = .ok (.invokevirtual 56, 3) := by decide +kernel
theorem dL_law_423 : decode cL_law 423 = .ok (.if_icmp .eq 872, 3) := by decide +kernel
theorem dL_law_426 : decode cL_law 426 = .ok (.iconst 0, 1) := by decide +kernel
theorem dL_law_427 : decode cL_law 427 = .ok (.ireturn, 1) := by decide +kernel
theorem dL_law_428 : decode cL_law 428 = .ok (.aload_n 1, 1) := by decide +kernel
theorem dL_law_429 : decode cL_law 429 = .ok (.aload_n 0, 1) := by decide +kernel
theorem dL_law_430 : decode cL_law 430 = .ok (.iload_n 3, 1) := by decide +kernel
theorem dL_law_431 : decode cL_law 431 = .ok (.iconst 1, 1) := by decide +kernel
theorem dL_law_432 : decode cL_law 432 = .ok (.iadd, 1) := by decide +kernel
theorem dL_law_433 : decode cL_law 433 = .ok (.iaload, 1) := by decide +kernel
theorem dL_law_434 : decode cL_law 434 = .ok (.aload_n 0, 1) := by decide +kernel
theorem dL_law_435 : decode cL_law 435 = .ok (.iload_n 3, 1) := by decide +kernel
theorem dL_law_436 : decode cL_law 436 = .ok (.iconst 2, 1) := by decide +kernel
theorem dL_law_437 : decode cL_law 437 = .ok (.iadd, 1) := by decide +kernel
theorem dL_law_438 : decode cL_law 438 = .ok (.iaload, 1) := by decide +kernel
theorem dL_law_439 : decode cL_law 439 = .ok (.invokevirtual 57, 3) := by decide +kernel
theorem dL_law_442 : decode cL_law 442 = .ok (.aload_n 2, 1) := by decide +kernel
theorem dL_law_443 : decode cL_law 443 = .ok (.aload_n 0, 1) := by decide +kernel
theorem dL_law_444 : decode cL_law 444 = .ok (.iload_n 3, 1) := by decide +kernel
theorem dL_law_445 : decode cL_law 445 = .ok (.iconst 1, 1) := by decide +kernel
theorem dL_law_446 : decode cL_law 446 = .ok (.iadd, 1) := by decide +kernel
theorem dL_law_447 : decode cL_law 447 = .ok (.iaload, 1) := by decide +kernel
theorem dL_law_448 : decode cL_law 448 = .ok (.aload_n 0, 1) := by decide +kernel
theorem dL_law_449 : decode cL_law 449 = .ok (.iload_n 3, 1) := by decide +kernel
theorem dL_law_450 : decode cL_law 450 = .ok (.iconst 2, 1) := by decide +kernel
theorem dL_law_451 : decode cL_law 451 = .ok (.iadd, 1) := by decide +kernel
theorem dL_law_452 : decode cL_law 452 = .ok (.iaload, 1) := by decide +kernel
theorem dL_law_453 : decode cL_law 453 = .ok (.invokevirtual 60, 3) := by decide +kernel
theorem dL_law_456 : decode cL_law 456 = .ok (.if_icmp .eq 839, 3) := by decide +kernel
theorem dL_law_459 : decode cL_law 459 = .ok (.iconst 0, 1) := by decide +kernel
theorem dL_law_460 : decode cL_law 460 = .ok (.ireturn, 1) := by decide +kernel
theorem dL_law_461 : decode cL_law 461 = .ok (.aload_n 1, 1) := by decide +kernel
theorem dL_law_462 : decode cL_law 462 = .ok (.aload_n 0, 1) := by decide +kernel
theorem dL_law_463 : decode cL_law 463 = .ok (.iload_n 3, 1) := by decide +kernel
theorem dL_law_464 : decode cL_law 464 = .ok (.iconst 1, 1) := by decide +kernel
theorem dL_law_465 : decode cL_law 465 = .ok (.iadd, 1) := by decide +kernel
theorem dL_law_466 : decode cL_law 466 = .ok (.iaload, 1) := by decide +kernel
theorem dL_law_467 : decode cL_law 467 = .ok (.aload_n 0, 1) := by decide +kernel
theorem dL_law_468 : decode cL_law 468 = .ok (.iload_n 3, 1) := by decide +kernel
theorem dL_law_469 : decode cL_law 469 = .ok (.iconst 2, 1) := by decide +kernel
theorem dL_law_470 : decode cL_law 470 = .ok (.iadd, 1) := by decide +kernel
theorem dL_law_471 : decode cL_law 471 = .ok (.iaload, 1) := by decide +kernel
theorem dL_law_472 : decode cL_law 472 = .ok (.invokevirtual 61, 3) := by decide +kernel
theorem dL_law_475 : decode cL_law 475 = .ok (.aload_n 2, 1) := by decide +kernel
theorem dL_law_476 : decode cL_law 476 = .ok (.aload_n 0, 1) := by decide +kernel
theorem dL_law_477 : decode cL_law 477 = .ok (.iload_n 3, 1) := by decide +kernel
theorem dL_law_478 : decode cL_law 478 = .ok (.iconst 1, 1) := by decide +kernel
theorem dL_law_479 : decode cL_law 479 = .ok (.iadd, 1) := by decide +kernel
theorem dL_law_480 : decode cL_law 480 = .ok (.iaload, 1) := by decide +kernel
theorem dL_law_481 : decode cL_law 481 = .ok (.aload_n 0, 1) := by decide +kernel
theorem dL_law_482 : decode cL_law 482 = .ok (.iload_n 3, 1) := by decide +kernel
theorem dL_law_483 : decode cL_law 483 = .ok (.iconst 2, 1) := by decide +kernel
theorem dL_law_484 : decode cL_law 484 = .ok (.iadd, 1) := by decide +kernel
theorem dL_law_485 : decode cL_law 485 = .ok (.iaload, 1) := by decide +kernel
theorem dL_law_486 : decode cL_law 486 = .ok (.invokevirtual 64, 3) := by decide +kernel
theorem dL_law_489 : decode cL_law 489 = .ok (.if_icmp .eq 806, 3) := by decide +kernel
theorem dL_law_492 : decode cL_law 492 = .ok (.iconst 0, 1) := by decide +kernel
theorem dL_law_493 : decode cL_law 493 = .ok (.ireturn, 1) := by decide +kernel
theorem dL_law_494 : decode cL_law 494 = .ok (.aload_n 1, 1) := by decide +kernel
theorem dL_law_495 : decode cL_law 495 = .ok (.aload_n 0, 1) := by decide +kernel
theorem dL_law_496 : decode cL_law 496 = .ok (.iload_n 3, 1) := by decide +kernel
theorem dL_law_497 : decode cL_law 497 = .ok (.iconst 1, 1) := by decide +kernel
theorem dL_law_498 : decode cL_law 498 = .ok (.iadd, 1) := by decide +kernel
theorem dL_law_499 : decode cL_law 499 = .ok (.iaload, 1) := by decide +kernel
theorem dL_law_500 : decode cL_law 500 = .ok (.invokevirtual 65, 3) := by decide +kernel
theorem dL_law_503 : decode cL_law 503 = .ok (.aload_n 2, 1) := by decide +kernel
theorem dL_law_504 : decode cL_law 504 = .ok (.aload_n 0, 1) := by decide +kernel
theorem dL_law_505 : decode cL_law 505 = .ok (.iload_n 3, 1) := by decide +kernel
theorem dL_law_506 : decode cL_law 506 = .ok (.iconst 1, 1) := by decide +kernel
theorem dL_law_507 : decode cL_law 507 = .ok (.iadd, 1) := by decide +kernel
theorem dL_law_508 : decode cL_law 508 = .ok (.iaload, 1) := by decide +kernel
theorem dL_law_509 : decode cL_law 509 = .ok (.invokevirtual 68, 3) := by decide +kernel
theorem dL_law_512 : decode cL_law 512 = .ok (.if_icmp .eq 783, 3) := by decide +kernel
theorem dL_law_515 : decode cL_law 515 = .ok (.iconst 0, 1) := by decide +kernel
theorem dL_law_516 : decode cL_law 516 = .ok (.ireturn, 1) := by decide +kernel
theorem dL_law_517 : decode cL_law 517 = .ok (.aload_n 1, 1) := by decide +kernel
theorem dL_law_518 : decode cL_law 518 = .ok (.aload_n 0, 1) := by decide +kernel
theorem dL_law_519 : decode cL_law 519 = .ok (.iload_n 3, 1) := by decide +kernel
theorem dL_law_520 : decode cL_law 520 = .ok (.iconst 1, 1) := by decide +kernel
theorem dL_law_521 : decode cL_law 521 = .ok (.iadd, 1) := by decide +kernel
theorem dL_law_522 : decode cL_law 522 = .ok (.iaload, 1) := by decide +kernel
theorem dL_law_523 : decode cL_law 523 = .ok (.invokevirtual 69, 3) := by decide +kernel
theorem dL_law_526 : decode cL_law 526 = .ok (.aload_n 2, 1) := by decide +kernel
theorem dL_law_527 : decode cL_law 527 = .ok (.aload_n 0, 1) := by decide +kernel
theorem dL_law_528 : decode cL_law 528 = .ok (.iload_n 3, 1) := by decide +kernel
theorem dL_law_529 : decode cL_law 529 = .ok (.iconst 1, 1) := by decide +kernel
theorem dL_law_530 : decode cL_law 530 = .ok (.iadd, 1) := by decide +kernel
theorem dL_law_531 : decode cL_law 531 = .ok (.iaload, 1) := by decide +kernel
theorem dL_law_532 : decode cL_law 532 = .ok (.invokevirtual 72, 3) := by decide +kernel
theorem dL_law_535 : decode cL_law 535 = .ok (.if_icmp .eq 760, 3) := by decide +kernel
theorem dL_law_538 : decode cL_law 538 = .ok (.iconst 0, 1) := by decide +kernel
theorem dL_law_539 : decode cL_law 539 = .ok (.ireturn, 1) := by decide +kernel
theorem dL_law_540 : decode cL_law 540 = .ok (.aload_n 1, 1) := by decide +kernel
theorem dL_law_541 : decode cL_law 541 = .ok (.aload_n 0, 1) := by decide +kernel
theorem dL_law_542 : decode cL_law 542 = .ok (.iload_n 3, 1) := by decide +kernel
theorem dL_law_543 : decode cL_law 543 = .ok (.iconst 1, 1) := by decide +kernel
theorem dL_law_544 : decode cL_law 544 = .ok (.iadd, 1) := by decide +kernel
theorem dL_law_545 : decode cL_law 545 = .ok (.iaload, 1) := by decide +kernel
theorem dL_law_546 : decode cL_law 546 = .ok (.aload_n 0, 1) := by decide +kernel
theorem dL_law_547 : decode cL_law 547 = .ok (.iload_n 3, 1) := by decide +kernel
theorem dL_law_548 : decode cL_law 548 = .ok (.iconst 2, 1) := by decide +kernel
theorem dL_law_549 : decode cL_law 549 = .ok (.iadd, 1) := by decide +kernel
theorem dL_law_550 : decode cL_law 550 = .ok (.iaload, 1) := by decide +kernel
theorem dL_law_551 : decode cL_law 551 = .ok (.invokevirtual 73, 3) := by decide +kernel
theorem dL_law_554 : decode cL_law 554 = .ok (.aload_n 2, 1) := by decide +kernel
theorem dL_law_555 : decode cL_law 555 = .ok (.aload_n 0, 1) := by decide +kernel
theorem dL_law_556 : decode cL_law 556 = .ok (.iload_n 3, 1) := by decide +kernel
theorem dL_law_557 : decode cL_law 557 = .ok (.iconst 1, 1) := by decide +kernel
theorem dL_law_558 : decode cL_law 558 = .ok (.iadd, 1) := by decide +kernel
theorem dL_law_559 : decode cL_law 559 = .ok (.iaload, 1) := by decide +kernel
theorem dL_law_560 : decode cL_law 560 = .ok (.aload_n 0, 1) := by decide +kernel
theorem dL_law_561 : decode cL_law 561 = .ok (.iload_n 3, 1) := by decide +kernel
theorem dL_law_562 : decode cL_law 562 = .ok (.iconst 2, 1) := by decide +kernel
theorem dL_law_563 : decode cL_law 563 = .ok (.iadd, 1) := by decide +kernel
theorem dL_law_564 : decode cL_law 564 = .ok (.iaload, 1) := by decide +kernel
theorem dL_law_565 : decode cL_law 565 = .ok (.invokevirtual 76, 3) := by decide +kernel
theorem dL_law_568 : decode cL_law 568 = .ok (.if_icmp .eq 727, 3) := by decide +kernel
theorem dL_law_571 : decode cL_law 571 = .ok (.iconst 0, 1) := by decide +kernel
theorem dL_law_572 : decode cL_law 572 = .ok (.ireturn, 1) := by decide +kernel
theorem dL_law_573 : decode cL_law 573 = .ok (.aload_n 1, 1) := by decide +kernel
theorem dL_law_574 : decode cL_law 574 = .ok (.aload_n 0, 1) := by decide +kernel
theorem dL_law_575 : decode cL_law 575 = .ok (.iload_n 3, 1) := by decide +kernel
theorem dL_law_576 : decode cL_law 576 = .ok (.iconst 1, 1) := by decide +kernel
theorem dL_law_577 : decode cL_law 577 = .ok (.iadd, 1) := by decide +kernel
theorem dL_law_578 : decode cL_law 578 = .ok (.iaload, 1) := by decide +kernel
theorem dL_law_579 : decode cL_law 579 = .ok (.aload_n 0, 1) := by decide +kernel
theorem dL_law_580 : decode cL_law 580 = .ok (.iload_n 3, 1) := by decide +kernel
theorem dL_law_581 : decode cL_law 581 = .ok (.iconst 2, 1) := by decide +kernel
theorem dL_law_582 : decode cL_law 582 = .ok (.iadd, 1) := by decide +kernel
theorem dL_law_583 : decode cL_law 583 = .ok (.iaload, 1) := by decide +kernel
theorem dL_law_584 : decode cL_law 584 = .ok (.invokevirtual 77, 3) := by decide +kernel
theorem dL_law_587 : decode cL_law 587 = .ok (.aload_n 2, 1) := by decide +kernel
theorem dL_law_588 : decode cL_law 588 = .ok (.aload_n 0, 1) := by decide +kernel
theorem dL_law_589 : decode cL_law 589 = .ok (.iload_n 3, 1) := by decide +kernel
theorem dL_law_590 : decode cL_law 590 = .ok (.iconst 1, 1) := by decide +kernel
theorem dL_law_591 : decode cL_law 591 = .ok (.iadd, 1) := by decide +kernel
theorem dL_law_592 : decode cL_law 592 = .ok (.iaload, 1) := by decide +kernel
theorem dL_law_593 : decode cL_law 593 = .ok (.aload_n 0, 1) := by decide +kernel
theorem dL_law_594 : decode cL_law 594 = .ok (.iload_n 3, 1) := by decide +kernel
theorem dL_law_595 : decode cL_law 595 = .ok (.iconst 2, 1) := by decide +kernel
theorem dL_law_596 : decode cL_law 596 = .ok (.iadd, 1) := by decide +kernel
theorem dL_law_597 : decode cL_law 597 = .ok (.iaload, 1) := by decide +kernel
theorem dL_law_598 : decode cL_law 598 = .ok (.invokevirtual 80, 3) := by decide +kernel
theorem dL_law_601 : decode cL_law 601 = .ok (.if_icmp .eq 694, 3) := by decide +kernel
theorem dL_law_604 : decode cL_law 604 = .ok (.iconst 0, 1) := by decide +kernel
theorem dL_law_605 : decode cL_law 605 = .ok (.ireturn, 1) := by decide +kernel
theorem dL_law_606 : decode cL_law 606 = .ok (.aload_n 1, 1) := by decide +kernel
theorem dL_law_607 : decode cL_law 607 = .ok (.aload_n 0, 1) := by decide +kernel
theorem dL_law_608 : decode cL_law 608 = .ok (.iload_n 3, 1) := by decide +kernel
theorem dL_law_609 : decode cL_law 609 = .ok (.iconst 1, 1) := by decide +kernel
theorem dL_law_610 : decode cL_law 610 = .ok (.iadd, 1) := by decide +kernel
theorem dL_law_611 : decode cL_law 611 = .ok (.iaload, 1) := by decide +kernel
theorem dL_law_612 : decode cL_law 612 = .ok (.aload_n 0, 1) := by decide +kernel
theorem dL_law_613 : decode cL_law 613 = .ok (.iload_n 3, 1) := by decide +kernel
theorem dL_law_614 : decode cL_law 614 = .ok (.iconst 2, 1) := by decide +kernel
theorem dL_law_615 : decode cL_law 615 = .ok (.iadd, 1) := by decide +kernel
theorem dL_law_616 : decode cL_law 616 = .ok (.iaload, 1) := by decide +kernel
theorem dL_law_617 : decode cL_law 617 = .ok (.invokevirtual 81, 3) := by decide +kernel
theorem dL_law_620 : decode cL_law 620 = .ok (.aload_n 2, 1) := by decide +kernel
theorem dL_law_621 : decode cL_law 621 = .ok (.aload_n 0, 1) := by decide +kernel
theorem dL_law_622 : decode cL_law 622 = .ok (.iload_n 3, 1) := by decide +kernel
theorem dL_law_623 : decode cL_law 623 = .ok (.iconst 1, 1) := by decide +kernel
theorem dL_law_624 : decode cL_law 624 = .ok (.iadd, 1) := by decide +kernel
theorem dL_law_625 : decode cL_law 625 = .ok (.iaload, 1) := by decide +kernel
theorem dL_law_626 : decode cL_law 626 = .ok (.aload_n 0, 1) := by decide +kernel
theorem dL_law_627 : decode cL_law 627 = .ok (.iload_n 3, 1) := by decide +kernel
theorem dL_law_628 : decode cL_law 628 = .ok (.iconst 2, 1) := by decide +kernel
theorem dL_law_629 : decode cL_law 629 = .ok (.iadd, 1) := by decide +kernel
theorem dL_law_630 : decode cL_law 630 = .ok (.iaload, 1) := by decide +kernel
theorem dL_law_631 : decode cL_law 631 = .ok (.invokevirtual 85, 3) := by decide +kernel
theorem dL_law_634 : decode cL_law 634 = .ok (.lcmp, 1) := by decide +kernel
theorem dL_law_635 : decode cL_law 635 = .ok (.ifCond .eq 660, 3) := by decide +kernel
theorem dL_law_638 : decode cL_law 638 = .ok (.iconst 0, 1) := by decide +kernel
theorem dL_law_639 : decode cL_law 639 = .ok (.ireturn, 1) := by decide +kernel
theorem dL_law_640 : decode cL_law 640 = .ok (.aload_n 1, 1) := by decide +kernel
theorem dL_law_641 : decode cL_law 641 = .ok (.aload_n 0, 1) := by decide +kernel
theorem dL_law_642 : decode cL_law 642 = .ok (.iload_n 3, 1) := by decide +kernel
theorem dL_law_643 : decode cL_law 643 = .ok (.iconst 1, 1) := by decide +kernel
theorem dL_law_644 : decode cL_law 644 = .ok (.iadd, 1) := by decide +kernel
theorem dL_law_645 : decode cL_law 645 = .ok (.iaload, 1) := by decide +kernel
theorem dL_law_646 : decode cL_law 646 = .ok (.aload_n 0, 1) := by decide +kernel
theorem dL_law_647 : decode cL_law 647 = .ok (.iload_n 3, 1) := by decide +kernel
theorem dL_law_648 : decode cL_law 648 = .ok (.iconst 2, 1) := by decide +kernel
theorem dL_law_649 : decode cL_law 649 = .ok (.iadd, 1) := by decide +kernel
theorem dL_law_650 : decode cL_law 650 = .ok (.iaload, 1) := by decide +kernel
theorem dL_law_651 : decode cL_law 651 = .ok (.aload_n 0, 1) := by decide +kernel
theorem dL_law_652 : decode cL_law 652 = .ok (.iload_n 3, 1) := by decide +kernel
theorem dL_law_653 : decode cL_law 653 = .ok (.iconst 3, 1) := by decide +kernel
theorem dL_law_654 : decode cL_law 654 = .ok (.iadd, 1) := by decide +kernel
theorem dL_law_655 : decode cL_law 655 = .ok (.iaload, 1) := by decide +kernel
theorem dL_law_656 : decode cL_law 656 = .ok (.invokevirtual 86, 3) := by decide +kernel
theorem dL_law_659 : decode cL_law 659 = .ok (.aload_n 2, 1) := by decide +kernel
theorem dL_law_660 : decode cL_law 660 = .ok (.aload_n 0, 1) := by decide +kernel
theorem dL_law_661 : decode cL_law 661 = .ok (.iload_n 3, 1) := by decide +kernel
theorem dL_law_662 : decode cL_law 662 = .ok (.iconst 1, 1) := by decide +kernel
theorem dL_law_663 : decode cL_law 663 = .ok (.iadd, 1) := by decide +kernel
theorem dL_law_664 : decode cL_law 664 = .ok (.iaload, 1) := by decide +kernel
theorem dL_law_665 : decode cL_law 665 = .ok (.aload_n 0, 1) := by decide +kernel
theorem dL_law_666 : decode cL_law 666 = .ok (.iload_n 3, 1) := by decide +kernel
theorem dL_law_667 : decode cL_law 667 = .ok (.iconst 2, 1) := by decide +kernel
theorem dL_law_668 : decode cL_law 668 = .ok (.iadd, 1) := by decide +kernel
theorem dL_law_669 : decode cL_law 669 = .ok (.iaload, 1) := by decide +kernel
theorem dL_law_670 : decode cL_law 670 = .ok (.aload_n 0, 1) := by decide +kernel
theorem dL_law_671 : decode cL_law 671 = .ok (.iload_n 3, 1) := by decide +kernel
theorem dL_law_672 : decode cL_law 672 = .ok (.iconst 3, 1) := by decide +kernel
theorem dL_law_673 : decode cL_law 673 = .ok (.iadd, 1) := by decide +kernel
theorem dL_law_674 : decode cL_law 674 = .ok (.iaload, 1) := by decide +kernel
theorem dL_law_675 : decode cL_law 675 = .ok (.invokevirtual 89, 3) := by decide +kernel
theorem dL_law_678 : decode cL_law 678 = .ok (.if_icmp .eq 617, 3) := by decide +kernel
theorem dL_law_681 : decode cL_law 681 = .ok (.iconst 0, 1) := by decide +kernel
theorem dL_law_682 : decode cL_law 682 = .ok (.ireturn, 1) := by decide +kernel
theorem dL_law_683 : decode cL_law 683 = .ok (.aload_n 1, 1) := by decide +kernel
theorem dL_law_684 : decode cL_law 684 = .ok (.aload_n 0, 1) := by decide +kernel
theorem dL_law_685 : decode cL_law 685 = .ok (.iload_n 3, 1) := by decide +kernel
theorem dL_law_686 : decode cL_law 686 = .ok (.iconst 1, 1) := by decide +kernel
theorem dL_law_687 : decode cL_law 687 = .ok (.iadd, 1) := by decide +kernel
theorem dL_law_688 : decode cL_law 688 = .ok (.iaload, 1) := by decide +kernel
theorem dL_law_689 : decode cL_law 689 = .ok (.aload_n 0, 1) := by decide +kernel
theorem dL_law_690 : decode cL_law 690 = .ok (.iload_n 3, 1) := by decide +kernel
theorem dL_law_691 : decode cL_law 691 = .ok (.iconst 2, 1) := by decide +kernel
theorem dL_law_692 : decode cL_law 692 = .ok (.iadd, 1) := by decide +kernel
theorem dL_law_693 : decode cL_law 693 = .ok (.iaload, 1) := by decide +kernel
theorem dL_law_694 : decode cL_law 694 = .ok (.aload_n 0, 1) := by decide +kernel
theorem dL_law_695 : decode cL_law 695 = .ok (.iload_n 3, 1) := by decide +kernel
theorem dL_law_696 : decode cL_law 696 = .ok (.iconst 3, 1) := by decide +kernel
theorem dL_law_697 : decode cL_law 697 = .ok (.iadd, 1) := by decide +kernel
theorem dL_law_698 : decode cL_law 698 = .ok (.iaload, 1) := by decide +kernel
theorem dL_law_699 : decode cL_law 699 = .ok (.invokevirtual 90, 3) := by decide +kernel
theorem dL_law_702 : decode cL_law 702 = .ok (.aload_n 2, 1) := by decide +kernel
theorem dL_law_703 : decode cL_law 703 = .ok (.aload_n 0, 1) := by decide +kernel
theorem dL_law_704 : decode cL_law 704 = .ok (.iload_n 3, 1) := by decide +kernel
theorem dL_law_705 : decode cL_law 705 = .ok (.iconst 1, 1) := by decide +kernel
theorem dL_law_706 : decode cL_law 706 = .ok (.iadd, 1) := by decide +kernel
theorem dL_law_707 : decode cL_law 707 = .ok (.iaload, 1) := by decide +kernel
theorem dL_law_708 : decode cL_law 708 = .ok (.aload_n 0, 1) := by decide +kernel
theorem dL_law_709 : decode cL_law 709 = .ok (.iload_n 3, 1) := by decide +kernel
theorem dL_law_710 : decode cL_law 710 = .ok (.iconst 2, 1) := by decide +kernel
theorem dL_law_711 : decode cL_law 711 = .ok (.iadd, 1) := by decide +kernel
theorem dL_law_712 : decode cL_law 712 = .ok (.iaload, 1) := by decide +kernel
theorem dL_law_713 : decode cL_law 713 = .ok (.aload_n 0, 1) := by decide +kernel
theorem dL_law_714 : decode cL_law 714 = .ok (.iload_n 3, 1) := by decide +kernel
theorem dL_law_715 : decode cL_law 715 = .ok (.iconst 3, 1) := by decide +kernel
theorem dL_law_716 : decode cL_law 716 = .ok (.iadd, 1) := by decide +kernel
theorem dL_law_717 : decode cL_law 717 = .ok (.iaload, 1) := by decide +kernel
theorem dL_law_718 : decode cL_law 718 = .ok (.invokevirtual 93, 3) := by decide +kernel
theorem dL_law_721 : decode cL_law 721 = .ok (.if_icmp .eq 574, 3) := by decide +kernel
theorem dL_law_724 : decode cL_law 724 = .ok (.iconst 0, 1) := by decide +kernel
theorem dL_law_725 : decode cL_law 725 = .ok (.ireturn, 1) := by decide +kernel
theorem dL_law_726 : decode cL_law 726 = .ok (.aload_n 1, 1) := by decide +kernel
theorem dL_law_727 : decode cL_law 727 = .ok (.aload_n 0, 1) := by decide +kernel
theorem dL_law_728 : decode cL_law 728 = .ok (.iload_n 3, 1) := by decide +kernel
theorem dL_law_729 : decode cL_law 729 = .ok (.iconst 1, 1) := by decide +kernel
theorem dL_law_730 : decode cL_law 730 = .ok (.iadd, 1) := by decide +kernel
theorem dL_law_731 : decode cL_law 731 = .ok (.iaload, 1) := by decide +kernel
theorem dL_law_732 : decode cL_law 732 = .ok (.aload_n 0, 1) := by decide +kernel
theorem dL_law_733 : decode cL_law 733 = .ok (.iload_n 3, 1) := by decide +kernel
theorem dL_law_734 : decode cL_law 734 = .ok (.iconst 2, 1) := by decide +kernel
theorem dL_law_735 : decode cL_law 735 = .ok (.iadd, 1) := by decide +kernel
theorem dL_law_736 : decode cL_law 736 = .ok (.iaload, 1) := by decide +kernel
theorem dL_law_737 : decode cL_law 737 = .ok (.aload_n 0, 1) := by decide +kernel
theorem dL_law_738 : decode cL_law 738 = .ok (.iload_n 3, 1) := by decide +kernel
theorem dL_law_739 : decode cL_law 739 = .ok (.iconst 3, 1) := by decide +kernel
theorem dL_law_740 : decode cL_law 740 = .ok (.iadd, 1) := by decide +kernel
theorem dL_law_741 : decode cL_law 741 = .ok (.iaload, 1) := by decide +kernel
theorem dL_law_742 : decode cL_law 742 = .ok (.aload_n 0, 1) := by decide +kernel
theorem dL_law_743 : decode cL_law 743 = .ok (.iload_n 3, 1) := by decide +kernel
theorem dL_law_744 : decode cL_law 744 = .ok (.iconst 4, 1) := by decide +kernel
theorem dL_law_745 : decode cL_law 745 = .ok (.iadd, 1) := by decide +kernel
theorem dL_law_746 : decode cL_law 746 = .ok (.iaload, 1) := by decide +kernel
theorem dL_law_747 : decode cL_law 747 = .ok (.invokevirtual 94, 3) := by decide +kernel
theorem dL_law_750 : decode cL_law 750 = .ok (.aload_n 2, 1) := by decide +kernel
theorem dL_law_751 : decode cL_law 751 = .ok (.aload_n 0, 1) := by decide +kernel
theorem dL_law_752 : decode cL_law 752 = .ok (.iload_n 3, 1) := by decide +kernel
theorem dL_law_753 : decode cL_law 753 = .ok (.iconst 1, 1) := by decide +kernel
theorem dL_law_754 : decode cL_law 754 = .ok (.iadd, 1) := by decide +kernel
theorem dL_law_755 : decode cL_law 755 = .ok (.iaload, 1) := by decide +kernel
theorem dL_law_756 : decode cL_law 756 = .ok (.aload_n 0, 1) := by decide +kernel
theorem dL_law_757 : decode cL_law 757 = .ok (.iload_n 3, 1) := by decide +kernel
theorem dL_law_758 : decode cL_law 758 = .ok (.iconst 2, 1) := by decide +kernel
theorem dL_law_759 : decode cL_law 759 = .ok (.iadd, 1) := by decide +kernel
theorem dL_law_760 : decode cL_law 760 = .ok (.iaload, 1) := by decide +kernel
theorem dL_law_761 : decode cL_law 761 = .ok (.aload_n 0, 1) := by decide +kernel
theorem dL_law_762 : decode cL_law 762 = .ok (.iload_n 3, 1) := by decide +kernel
theorem dL_law_763 : decode cL_law 763 = .ok (.iconst 3, 1) := by decide +kernel
theorem dL_law_764 : decode cL_law 764 = .ok (.iadd, 1) := by decide +kernel
theorem dL_law_765 : decode cL_law 765 = .ok (.iaload, 1) := by decide +kernel
theorem dL_law_766 : decode cL_law 766 = .ok (.aload_n 0, 1) := by decide +kernel
theorem dL_law_767 : decode cL_law 767 = .ok (.iload_n 3, 1) := by decide +kernel
theorem dL_law_768 : decode cL_law 768 = .ok (.iconst 4, 1) := by decide +kernel
theorem dL_law_769 : decode cL_law 769 = .ok (.iadd, 1) := by decide +kernel
theorem dL_law_770 : decode cL_law 770 = .ok (.iaload, 1) := by decide +kernel
theorem dL_law_771 : decode cL_law 771 = .ok (.invokevirtual 98, 3) := by decide +kernel
theorem dL_law_774 : decode cL_law 774 = .ok (.if_icmp .eq 521, 3) := by decide +kernel
theorem dL_law_777 : decode cL_law 777 = .ok (.iconst 0, 1) := by decide +kernel
theorem dL_law_778 : decode cL_law 778 = .ok (.ireturn, 1) := by decide +kernel
theorem dL_law_779 : decode cL_law 779 = .ok (.aload_n 1, 1) := by decide +kernel
theorem dL_law_780 : decode cL_law 780 = .ok (.aload_n 0, 1) := by decide +kernel
theorem dL_law_781 : decode cL_law 781 = .ok (.iload_n 3, 1) := by decide +kernel
theorem dL_law_782 : decode cL_law 782 = .ok (.iconst 1, 1) := by decide +kernel
theorem dL_law_783 : decode cL_law 783 = .ok (.iadd, 1) := by decide +kernel
theorem dL_law_784 : decode cL_law 784 = .ok (.iaload, 1) := by decide +kernel
theorem dL_law_785 : decode cL_law 785 = .ok (.aload_n 0, 1) := by decide +kernel
theorem dL_law_786 : decode cL_law 786 = .ok (.iload_n 3, 1) := by decide +kernel
theorem dL_law_787 : decode cL_law 787 = .ok (.iconst 2, 1) := by decide +kernel
theorem dL_law_788 : decode cL_law 788 = .ok (.iadd, 1) := by decide +kernel
theorem dL_law_789 : decode cL_law 789 = .ok (.iaload, 1) := by decide +kernel
theorem dL_law_790 : decode cL_law 790 = .ok (.invokevirtual 99, 3) := by decide +kernel
theorem dL_law_793 : decode cL_law 793 = .ok (.aload_n 2, 1) := by decide +kernel
theorem dL_law_794 : decode cL_law 794 = .ok (.aload_n 0, 1) := by decide +kernel
theorem dL_law_795 : decode cL_law 795 = .ok (.iload_n 3, 1) := by decide +kernel
theorem dL_law_796 : decode cL_law 796 = .ok (.iconst 1, 1) := by decide +kernel
theorem dL_law_797 : decode cL_law 797 = .ok (.iadd, 1) := by decide +kernel
theorem dL_law_798 : decode cL_law 798 = .ok (.iaload, 1) := by decide +kernel
theorem dL_law_799 : decode cL_law 799 = .ok (.aload_n 0, 1) := by decide +kernel
theorem dL_law_800 : decode cL_law 800 = .ok (.iload_n 3, 1) := by decide +kernel
theorem dL_law_801 : decode cL_law 801 = .ok (.iconst 2, 1) := by decide +kernel
theorem dL_law_802 : decode cL_law 802 = .ok (.iadd, 1) := by decide +kernel
theorem dL_law_803 : decode cL_law 803 = .ok (.iaload, 1) := by decide +kernel
theorem dL_law_804 : decode cL_law 804 = .ok (.invokevirtual 102, 3) := by decide +kernel
theorem dL_law_807 : decode cL_law 807 = .ok (.if_icmp .eq 488, 3) := by decide +kernel
theorem dL_law_810 : decode cL_law 810 = .ok (.iconst 0, 1) := by decide +kernel
theorem dL_law_811 : decode cL_law 811 = .ok (.ireturn, 1) := by decide +kernel
theorem dL_law_812 : decode cL_law 812 = .ok (.aload_n 1, 1) := by decide +kernel
theorem dL_law_813 : decode cL_law 813 = .ok (.aload_n 0, 1) := by decide +kernel
theorem dL_law_814 : decode cL_law 814 = .ok (.iload_n 3, 1) := by decide +kernel
theorem dL_law_815 : decode cL_law 815 = .ok (.iconst 1, 1) := by decide +kernel
theorem dL_law_816 : decode cL_law 816 = .ok (.iadd, 1) := by decide +kernel
theorem dL_law_817 : decode cL_law 817 = .ok (.iaload, 1) := by decide +kernel
theorem dL_law_818 : decode cL_law 818 = .ok (.aload_n 0, 1) := by decide +kernel
theorem dL_law_819 : decode cL_law 819 = .ok (.iload_n 3, 1) := by decide +kernel
theorem dL_law_820 : decode cL_law 820 = .ok (.iconst 2, 1) := by decide +kernel
theorem dL_law_821 : decode cL_law 821 = .ok (.iadd, 1) := by decide +kernel
theorem dL_law_822 : decode cL_law 822 = .ok (.iaload, 1) := by decide +kernel
theorem dL_law_823 : decode cL_law 823 = .ok (.invokevirtual 103, 3) := by decide +kernel
theorem dL_law_826 : decode cL_law 826 = .ok (.aload_n 2, 1) := by decide +kernel
theorem dL_law_827 : decode cL_law 827 = .ok (.aload_n 0, 1) := by decide +kernel
theorem dL_law_828 : decode cL_law 828 = .ok (.iload_n 3, 1) := by decide +kernel
theorem dL_law_829 : decode cL_law 829 = .ok (.iconst 1, 1) := by decide +kernel
theorem dL_law_830 : decode cL_law 830 = .ok (.iadd, 1) := by decide +kernel
theorem dL_law_831 : decode cL_law 831 = .ok (.iaload, 1) := by decide +kernel
theorem dL_law_832 : decode cL_law 832 = .ok (.aload_n 0, 1) := by decide +kernel
theorem dL_law_833 : decode cL_law 833 = .ok (.iload_n 3, 1) := by decide +kernel
theorem dL_law_834 : decode cL_law 834 = .ok (.iconst 2, 1) := by decide +kernel
theorem dL_law_835 : decode cL_law 835 = .ok (.iadd, 1) := by decide +kernel
theorem dL_law_836 : decode cL_law 836 = .ok (.iaload, 1) := by decide +kernel
theorem dL_law_837 : decode cL_law 837 = .ok (.invokevirtual 106, 3) := by decide +kernel
theorem dL_law_840 : decode cL_law 840 = .ok (.if_icmp .eq 455, 3) := by decide +kernel
theorem dL_law_843 : decode cL_law 843 = .ok (.iconst 0, 1) := by decide +kernel
theorem dL_law_844 : decode cL_law 844 = .ok (.ireturn, 1) := by decide +kernel
theorem dL_law_845 : decode cL_law 845 = .ok (.aload_n 1, 1) := by decide +kernel
theorem dL_law_846 : decode cL_law 846 = .ok (.aload_n 0, 1) := by decide +kernel
theorem dL_law_847 : decode cL_law 847 = .ok (.iload_n 3, 1) := by decide +kernel
theorem dL_law_848 : decode cL_law 848 = .ok (.iconst 1, 1) := by decide +kernel
theorem dL_law_849 : decode cL_law 849 = .ok (.iadd, 1) := by decide +kernel
theorem dL_law_850 : decode cL_law 850 = .ok (.iaload, 1) := by decide +kernel
theorem dL_law_851 : decode cL_law 851 = .ok (.aload_n 0, 1) := by decide +kernel
theorem dL_law_852 : decode cL_law 852 = .ok (.iload_n 3, 1) := by decide +kernel
theorem dL_law_853 : decode cL_law 853 = .ok (.iconst 2, 1) := by decide +kernel
theorem dL_law_854 : decode cL_law 854 = .ok (.iadd, 1) := by decide +kernel
theorem dL_law_855 : decode cL_law 855 = .ok (.iaload, 1) := by decide +kernel
theorem dL_law_856 : decode cL_law 856 = .ok (.invokevirtual 107, 3) := by decide +kernel
theorem dL_law_859 : decode cL_law 859 = .ok (.aload_n 2, 1) := by decide +kernel
theorem dL_law_860 : decode cL_law 860 = .ok (.aload_n 0, 1) := by decide +kernel
theorem dL_law_861 : decode cL_law 861 = .ok (.iload_n 3, 1) := by decide +kernel
theorem dL_law_862 : decode cL_law 862 = .ok (.iconst 1, 1) := by decide +kernel
theorem dL_law_863 : decode cL_law 863 = .ok (.iadd, 1) := by decide +kernel
theorem dL_law_864 : decode cL_law 864 = .ok (.iaload, 1) := by decide +kernel
theorem dL_law_865 : decode cL_law 865 = .ok (.aload_n 0, 1) := by decide +kernel
theorem dL_law_866 : decode cL_law 866 = .ok (.iload_n 3, 1) := by decide +kernel
theorem dL_law_867 : decode cL_law 867 = .ok (.iconst 2, 1) := by decide +kernel
theorem dL_law_868 : decode cL_law 868 = .ok (.iadd, 1) := by decide +kernel
theorem dL_law_869 : decode cL_law 869 = .ok (.iaload, 1) := by decide +kernel
theorem dL_law_870 : decode cL_law 870 = .ok (.invokevirtual 110, 3) := by decide +kernel
theorem dL_law_873 : decode cL_law 873 = .ok (.if_icmp .eq 422, 3) := by decide +kernel
theorem dL_law_876 : decode cL_law 876 = .ok (.iconst 0, 1) := by decide +kernel
theorem dL_law_877 : decode cL_law 877 = .ok (.ireturn, 1) := by decide +kernel
theorem dL_law_878 : decode cL_law 878 = .ok (.aload_n 1, 1) := by decide +kernel
theorem dL_law_879 : decode cL_law 879 = .ok (.aload_n 0, 1) := by decide +kernel
theorem dL_law_880 : decode cL_law 880 = .ok (.iload_n 3, 1) := by decide +kernel
theorem dL_law_881 : decode cL_law 881 = .ok (.iconst 1, 1) := by decide +kernel
theorem dL_law_882 : decode cL_law 882 = .ok (.iadd, 1) := by decide +kernel
theorem dL_law_883 : decode cL_law 883 = .ok (.iaload, 1) := by decide +kernel
theorem dL_law_884 : decode cL_law 884 = .ok (.aload_n 0, 1) := by decide +kernel
theorem dL_law_885 : decode cL_law 885 = .ok (.iload_n 3, 1) := by decide +kernel
theorem dL_law_886 : decode cL_law 886 = .ok (.iconst 2, 1) := by decide +kernel
theorem dL_law_887 : decode cL_law 887 = .ok (.iadd, 1) := by decide +kernel
theorem dL_law_888 : decode cL_law 888 = .ok (.iaload, 1) := by decide +kernel
theorem dL_law_889 : decode cL_law 889 = .ok (.aload_n 0, 1) := by decide +kernel
theorem dL_law_890 : decode cL_law 890 = .ok (.iload_n 3, 1) := by decide +kernel
theorem dL_law_891 : decode cL_law 891 = .ok (.iconst 3, 1) := by decide +kernel
theorem dL_law_892 : decode cL_law 892 = .ok (.iadd, 1) := by decide +kernel
theorem dL_law_893 : decode cL_law 893 = .ok (.iaload, 1) := by decide +kernel
theorem dL_law_894 : decode cL_law 894 = .ok (.aload_n 0, 1) := by decide +kernel
theorem dL_law_895 : decode cL_law 895 = .ok (.iload_n 3, 1) := by decide +kernel
theorem dL_law_896 : decode cL_law 896 = .ok (.iconst 4, 1) := by decide +kernel
theorem dL_law_897 : decode cL_law 897 = .ok (.iadd, 1) := by decide +kernel
theorem dL_law_898 : decode cL_law 898 = .ok (.iaload, 1) := by decide +kernel
theorem dL_law_899 : decode cL_law 899 = .ok (.invokevirtual 111, 3) := by decide +kernel
theorem dL_law_902 : decode cL_law 902 = .ok (.aload_n 2, 1) := by decide +kernel
theorem dL_law_903 : decode cL_law 903 = .ok (.aload_n 0, 1) := by decide +kernel
theorem dL_law_904 : decode cL_law 904 = .ok (.iload_n 3, 1) := by decide +kernel
theorem dL_law_905 : decode cL_law 905 = .ok (.iconst 1, 1) := by decide +kernel
theorem dL_law_906 : decode cL_law 906 = .ok (.iadd, 1) := by decide +kernel
theorem dL_law_907 : decode cL_law 907 = .ok (.iaload, 1) := by decide +kernel
theorem dL_law_908 : decode cL_law 908 = .ok (.aload_n 0, 1) := by decide +kernel
theorem dL_law_909 : decode cL_law 909 = .ok (.iload_n 3, 1) := by decide +kernel
theorem dL_law_910 : decode cL_law 910 = .ok (.iconst 2, 1) := by decide +kernel
theorem dL_law_911 : decode cL_law 911 = .ok (.iadd, 1) := by decide +kernel
theorem dL_law_912 : decode cL_law 912 = .ok (.iaload, 1) := by decide +kernel
theorem dL_law_913 : decode cL_law 913 = .ok (.aload_n 0, 1) := by decide +kernel
theorem dL_law_914 : decode cL_law 914 = .ok (.iload_n 3, 1) := by decide +kernel
theorem dL_law_915 : decode cL_law 915 = .ok (.iconst 3, 1) := by decide +kernel
theorem dL_law_916 : decode cL_law 916 = .ok (.iadd, 1) := by decide +kernel
theorem dL_law_917 : decode cL_law 917 = .ok (.iaload, 1) := by decide +kernel
theorem dL_law_918 : decode cL_law 918 = .ok (.aload_n 0, 1) := by decide +kernel
theorem dL_law_919 : decode cL_law 919 = .ok (.iload_n 3, 1) := by decide +kernel
theorem dL_law_920 : decode cL_law 920 = .ok (.iconst 4, 1) := by decide +kernel
theorem dL_law_921 : decode cL_law 921 = .ok (.iadd, 1) := by decide +kernel
theorem dL_law_922 : decode cL_law 922 = .ok (.iaload, 1) := by decide +kernel
theorem dL_law_923 : decode cL_law 923 = .ok (.invokevirtual 114, 3) := by decide +kernel
theorem dL_law_926 : decode cL_law 926 = .ok (.if_icmp .eq 369, 3) := by decide +kernel
theorem dL_law_929 : decode cL_law 929 = .ok (.iconst 0, 1) := by decide +kernel
theorem dL_law_930 : decode cL_law 930 = .ok (.ireturn, 1) := by decide +kernel
theorem dL_law_931 : decode cL_law 931 = .ok (.aload_n 1, 1) := by decide +kernel
theorem dL_law_932 : decode cL_law 932 = .ok (.aload_n 0, 1) := by decide +kernel
theorem dL_law_933 : decode cL_law 933 = .ok (.iload_n 3, 1) := by decide +kernel
theorem dL_law_934 : decode cL_law 934 = .ok (.iconst 1, 1) := by decide +kernel
theorem dL_law_935 : decode cL_law 935 = .ok (.iadd, 1) := by decide +kernel
theorem dL_law_936 : decode cL_law 936 = .ok (.iaload, 1) := by decide +kernel
theorem dL_law_937 : decode cL_law 937 = .ok (.aload_n 0, 1) := by decide +kernel
theorem dL_law_938 : decode cL_law 938 = .ok (.iload_n 3, 1) := by decide +kernel
theorem dL_law_939 : decode cL_law 939 = .ok (.iconst 2, 1) := by decide +kernel
theorem dL_law_940 : decode cL_law 940 = .ok (.iadd, 1) := by decide +kernel
theorem dL_law_941 : decode cL_law 941 = .ok (.iaload, 1) := by decide +kernel
theorem dL_law_942 : decode cL_law 942 = .ok (.invokevirtual 115, 3) := by decide +kernel
theorem dL_law_945 : decode cL_law 945 = .ok (.aload_n 2, 1) := by decide +kernel
theorem dL_law_946 : decode cL_law 946 = .ok (.aload_n 0, 1) := by decide +kernel
theorem dL_law_947 : decode cL_law 947 = .ok (.iload_n 3, 1) := by decide +kernel
theorem dL_law_948 : decode cL_law 948 = .ok (.iconst 1, 1) := by decide +kernel
theorem dL_law_949 : decode cL_law 949 = .ok (.iadd, 1) := by decide +kernel
theorem dL_law_950 : decode cL_law 950 = .ok (.iaload, 1) := by decide +kernel
theorem dL_law_951 : decode cL_law 951 = .ok (.aload_n 0, 1) := by decide +kernel
theorem dL_law_952 : decode cL_law 952 = .ok (.iload_n 3, 1) := by decide +kernel
theorem dL_law_953 : decode cL_law 953 = .ok (.iconst 2, 1) := by decide +kernel
theorem dL_law_954 : decode cL_law 954 = .ok (.iadd, 1) := by decide +kernel
theorem dL_law_955 : decode cL_law 955 = .ok (.iaload, 1) := by decide +kernel
theorem dL_law_956 : decode cL_law 956 = .ok (.invokevirtual 118, 3) := by decide +kernel
theorem dL_law_959 : decode cL_law 959 = .ok (.if_icmp .eq 336, 3) := by decide +kernel
theorem dL_law_962 : decode cL_law 962 = .ok (.iconst 0, 1) := by decide +kernel
theorem dL_law_963 : decode cL_law 963 = .ok (.ireturn, 1) := by decide +kernel
theorem dL_law_964 : decode cL_law 964 = .ok (.aload_n 1, 1) := by decide +kernel
theorem dL_law_965 : decode cL_law 965 = .ok (.aload_n 0, 1) := by decide +kernel
theorem dL_law_966 : decode cL_law 966 = .ok (.iload_n 3, 1) := by decide +kernel
theorem dL_law_967 : decode cL_law 967 = .ok (.iconst 1, 1) := by decide +kernel
theorem dL_law_968 : decode cL_law 968 = .ok (.iadd, 1) := by decide +kernel
theorem dL_law_969 : decode cL_law 969 = .ok (.iaload, 1) := by decide +kernel
theorem dL_law_970 : decode cL_law 970 = .ok (.aload_n 0, 1) := by decide +kernel
theorem dL_law_971 : decode cL_law 971 = .ok (.iload_n 3, 1) := by decide +kernel
theorem dL_law_972 : decode cL_law 972 = .ok (.iconst 2, 1) := by decide +kernel
theorem dL_law_973 : decode cL_law 973 = .ok (.iadd, 1) := by decide +kernel
theorem dL_law_974 : decode cL_law 974 = .ok (.iaload, 1) := by decide +kernel
theorem dL_law_975 : decode cL_law 975 = .ok (.aload_n 0, 1) := by decide +kernel
theorem dL_law_976 : decode cL_law 976 = .ok (.iload_n 3, 1) := by decide +kernel
theorem dL_law_977 : decode cL_law 977 = .ok (.iconst 3, 1) := by decide +kernel
theorem dL_law_978 : decode cL_law 978 = .ok (.iadd, 1) := by decide +kernel
theorem dL_law_979 : decode cL_law 979 = .ok (.iaload, 1) := by decide +kernel
theorem dL_law_980 : decode cL_law 980 = .ok (.invokevirtual 119, 3) := by decide +kernel
theorem dL_law_983 : decode cL_law 983 = .ok (.aload_n 2, 1) := by decide +kernel
theorem dL_law_984 : decode cL_law 984 = .ok (.aload_n 0, 1) := by decide +kernel
theorem dL_law_985 : decode cL_law 985 = .ok (.iload_n 3, 1) := by decide +kernel
theorem dL_law_986 : decode cL_law 986 = .ok (.iconst 1, 1) := by decide +kernel
theorem dL_law_987 : decode cL_law 987 = .ok (.iadd, 1) := by decide +kernel
theorem dL_law_988 : decode cL_law 988 = .ok (.iaload, 1) := by decide +kernel
theorem dL_law_989 : decode cL_law 989 = .ok (.aload_n 0, 1) := by decide +kernel
theorem dL_law_990 : decode cL_law 990 = .ok (.iload_n 3, 1) := by decide +kernel
theorem dL_law_991 : decode cL_law 991 = .ok (.iconst 2, 1) := by decide +kernel
theorem dL_law_992 : decode cL_law 992 = .ok (.iadd, 1) := by decide +kernel
theorem dL_law_993 : decode cL_law 993 = .ok (.iaload, 1) := by decide +kernel
theorem dL_law_994 : decode cL_law 994 = .ok (.aload_n 0, 1) := by decide +kernel
theorem dL_law_995 : decode cL_law 995 = .ok (.iload_n 3, 1) := by decide +kernel
theorem dL_law_996 : decode cL_law 996 = .ok (.iconst 3, 1) := by decide +kernel
theorem dL_law_997 : decode cL_law 997 = .ok (.iadd, 1) := by decide +kernel
theorem dL_law_998 : decode cL_law 998 = .ok (.iaload, 1) := by decide +kernel
theorem dL_law_999 : decode cL_law 999 = .ok (.invokevirtual 122, 3) := by decide +kernel
theorem dL_law_1002 : decode cL_law 1002 = .ok (.if_icmp .eq 293, 3) := by decide +kernel
theorem dL_law_1005 : decode cL_law 1005 = .ok (.iconst 0, 1) := by decide +kernel
theorem dL_law_1006 : decode cL_law 1006 = .ok (.ireturn, 1) := by decide +kernel
theorem dL_law_1007 : decode cL_law 1007 = .ok (.aload_n 1, 1) := by decide +kernel
theorem dL_law_1008 : decode cL_law 1008 = .ok (.aload_n 0, 1) := by decide +kernel
theorem dL_law_1009 : decode cL_law 1009 = .ok (.iload_n 3, 1) := by decide +kernel
theorem dL_law_1010 : decode cL_law 1010 = .ok (.iconst 1, 1) := by decide +kernel
theorem dL_law_1011 : decode cL_law 1011 = .ok (.iadd, 1) := by decide +kernel
theorem dL_law_1012 : decode cL_law 1012 = .ok (.iaload, 1) := by decide +kernel
theorem dL_law_1013 : decode cL_law 1013 = .ok (.aload_n 0, 1) := by decide +kernel
theorem dL_law_1014 : decode cL_law 1014 = .ok (.iload_n 3, 1) := by decide +kernel
theorem dL_law_1015 : decode cL_law 1015 = .ok (.iconst 2, 1) := by decide +kernel
theorem dL_law_1016 : decode cL_law 1016 = .ok (.iadd, 1) := by decide +kernel
theorem dL_law_1017 : decode cL_law 1017 = .ok (.iaload, 1) := by decide +kernel
theorem dL_law_1018 : decode cL_law 1018 = .ok (.aload_n 0, 1) := by decide +kernel
theorem dL_law_1019 : decode cL_law 1019 = .ok (.iload_n 3, 1) := by decide +kernel
theorem dL_law_1020 : decode cL_law 1020 = .ok (.iconst 3, 1) := by decide +kernel
theorem dL_law_1021 : decode cL_law 1021 = .ok (.iadd, 1) := by decide +kernel
theorem dL_law_1022 : decode cL_law 1022 = .ok (.iaload, 1) := by decide +kernel
theorem dL_law_1023 : decode cL_law 1023 = .ok (.aload_n 0, 1) := by decide +kernel
theorem dL_law_1024 : decode cL_law 1024 = .ok (.iload_n 3, 1) := by decide +kernel
theorem dL_law_1025 : decode cL_law 1025 = .ok (.iconst 4, 1) := by decide +kernel
theorem dL_law_1026 : decode cL_law 1026 = .ok (.iadd, 1) := by decide +kernel
theorem dL_law_1027 : decode cL_law 1027 = .ok (.iaload, 1) := by decide +kernel
theorem dL_law_1028 : decode cL_law 1028 = .ok (.invokevirtual 123, 3) := by decide +kernel
theorem dL_law_1031 : decode cL_law 1031 = .ok (.aload_n 2, 1) := by decide +kernel
theorem dL_law_1032 : decode cL_law 1032 = .ok (.aload_n 0, 1) := by decide +kernel
theorem dL_law_1033 : decode cL_law 1033 = .ok (.iload_n 3, 1) := by decide +kernel
theorem dL_law_1034 : decode cL_law 1034 = .ok (.iconst 1, 1) := by decide +kernel
theorem dL_law_1035 : decode cL_law 1035 = .ok (.iadd, 1) := by decide +kernel
theorem dL_law_1036 : decode cL_law 1036 = .ok (.iaload, 1) := by decide +kernel
theorem dL_law_1037 : decode cL_law 1037 = .ok (.aload_n 0, 1) := by decide +kernel
theorem dL_law_1038 : decode cL_law 1038 = .ok (.iload_n 3, 1) := by decide +kernel
theorem dL_law_1039 : decode cL_law 1039 = .ok (.iconst 2, 1) := by decide +kernel
theorem dL_law_1040 : decode cL_law 1040 = .ok (.iadd, 1) := by decide +kernel
theorem dL_law_1041 : decode cL_law 1041 = .ok (.iaload, 1) := by decide +kernel
theorem dL_law_1042 : decode cL_law 1042 = .ok (.aload_n 0, 1) := by decide +kernel
theorem dL_law_1043 : decode cL_law 1043 = .ok (.iload_n 3, 1) := by decide +kernel
theorem dL_law_1044 : decode cL_law 1044 = .ok (.iconst 3, 1) := by decide +kernel
theorem dL_law_1045 : decode cL_law 1045 = .ok (.iadd, 1) := by decide +kernel
theorem dL_law_1046 : decode cL_law 1046 = .ok (.iaload, 1) := by decide +kernel
theorem dL_law_1047 : decode cL_law 1047 = .ok (.aload_n 0, 1) := by decide +kernel
theorem dL_law_1048 : decode cL_law 1048 = .ok (.iload_n 3, 1) := by decide +kernel
theorem dL_law_1049 : decode cL_law 1049 = .ok (.iconst 4, 1) := by decide +kernel
theorem dL_law_1050 : decode cL_law 1050 = .ok (.iadd, 1) := by decide +kernel
theorem dL_law_1051 : decode cL_law 1051 = .ok (.iaload, 1) := by decide +kernel
theorem dL_law_1052 : decode cL_law 1052 = .ok (.invokevirtual 126, 3) := by decide +kernel
theorem dL_law_1055 : decode cL_law 1055 = .ok (.if_icmp .eq 240, 3) := by decide +kernel
theorem dL_law_1058 : decode cL_law 1058 = .ok (.iconst 0, 1) := by decide +kernel
theorem dL_law_1059 : decode cL_law 1059 = .ok (.ireturn, 1) := by decide +kernel
theorem dL_law_1060 : decode cL_law 1060 = .ok (.aload_n 1, 1) := by decide +kernel
theorem dL_law_1061 : decode cL_law 1061 = .ok (.aload_n 0, 1) := by decide +kernel
theorem dL_law_1062 : decode cL_law 1062 = .ok (.iload_n 3, 1) := by decide +kernel
theorem dL_law_1063 : decode cL_law 1063 = .ok (.iconst 1, 1) := by decide +kernel
theorem dL_law_1064 : decode cL_law 1064 = .ok (.iadd, 1) := by decide +kernel
theorem dL_law_1065 : decode cL_law 1065 = .ok (.iaload, 1) := by decide +kernel
theorem dL_law_1066 : decode cL_law 1066 = .ok (.aload_n 0, 1) := by decide +kernel
theorem dL_law_1067 : decode cL_law 1067 = .ok (.iload_n 3, 1) := by decide +kernel
theorem dL_law_1068 : decode cL_law 1068 = .ok (.iconst 2, 1) := by decide +kernel
theorem dL_law_1069 : decode cL_law 1069 = .ok (.iadd, 1) := by decide +kernel
theorem dL_law_1070 : decode cL_law 1070 = .ok (.iaload, 1) := by decide +kernel
theorem dL_law_1071 : decode cL_law 1071 = .ok (.invokevirtual 127, 3) := by decide +kernel
theorem dL_law_1074 : decode cL_law 1074 = .ok (.aload_n 2, 1) := by decide +kernel
theorem dL_law_1075 : decode cL_law 1075 = .ok (.aload_n 0, 1) := by decide +kernel
theorem dL_law_1076 : decode cL_law 1076 = .ok (.iload_n 3, 1) := by decide +kernel
theorem dL_law_1077 : decode cL_law 1077 = .ok (.iconst 1, 1) := by decide +kernel
theorem dL_law_1078 : decode cL_law 1078 = .ok (.iadd, 1) := by decide +kernel
theorem dL_law_1079 : decode cL_law 1079 = .ok (.iaload, 1) := by decide +kernel
theorem dL_law_1080 : decode cL_law 1080 = .ok (.aload_n 0, 1) := by decide +kernel
theorem dL_law_1081 : decode cL_law 1081 = .ok (.iload_n 3, 1) := by decide +kernel
theorem dL_law_1082 : decode cL_law 1082 = .ok (.iconst 2, 1) := by decide +kernel
theorem dL_law_1083 : decode cL_law 1083 = .ok (.iadd, 1) := by decide +kernel
theorem dL_law_1084 : decode cL_law 1084 = .ok (.iaload, 1) := by decide +kernel
theorem dL_law_1085 : decode cL_law 1085 = .ok (.invokevirtual 130, 3) := by decide +kernel
theorem dL_law_1088 : decode cL_law 1088 = .ok (.if_icmp .eq 207, 3) := by decide +kernel
theorem dL_law_1091 : decode cL_law 1091 = .ok (.iconst 0, 1) := by decide +kernel
theorem dL_law_1092 : decode cL_law 1092 = .ok (.ireturn, 1) := by decide +kernel
theorem dL_law_1093 : decode cL_law 1093 = .ok (.aload_n 1, 1) := by decide +kernel
theorem dL_law_1094 : decode cL_law 1094 = .ok (.aload_n 0, 1) := by decide +kernel
theorem dL_law_1095 : decode cL_law 1095 = .ok (.iload_n 3, 1) := by decide +kernel
theorem dL_law_1096 : decode cL_law 1096 = .ok (.iconst 1, 1) := by decide +kernel
theorem dL_law_1097 : decode cL_law 1097 = .ok (.iadd, 1) := by decide +kernel
theorem dL_law_1098 : decode cL_law 1098 = .ok (.iaload, 1) := by decide +kernel
theorem dL_law_1099 : decode cL_law 1099 = .ok (.aload_n 0, 1) := by decide +kernel
theorem dL_law_1100 : decode cL_law 1100 = .ok (.iload_n 3, 1) := by decide +kernel
theorem dL_law_1101 : decode cL_law 1101 = .ok (.iconst 2, 1) := by decide +kernel
theorem dL_law_1102 : decode cL_law 1102 = .ok (.iadd, 1) := by decide +kernel
theorem dL_law_1103 : decode cL_law 1103 = .ok (.iaload, 1) := by decide +kernel
theorem dL_law_1104 : decode cL_law 1104 = .ok (.aload_n 0, 1) := by decide +kernel
theorem dL_law_1105 : decode cL_law 1105 = .ok (.iload_n 3, 1) := by decide +kernel
theorem dL_law_1106 : decode cL_law 1106 = .ok (.iconst 3, 1) := by decide +kernel
theorem dL_law_1107 : decode cL_law 1107 = .ok (.iadd, 1) := by decide +kernel
theorem dL_law_1108 : decode cL_law 1108 = .ok (.iaload, 1) := by decide +kernel
theorem dL_law_1109 : decode cL_law 1109 = .ok (.invokevirtual 131, 3) := by decide +kernel
theorem dL_law_1112 : decode cL_law 1112 = .ok (.aload_n 2, 1) := by decide +kernel
theorem dL_law_1113 : decode cL_law 1113 = .ok (.aload_n 0, 1) := by decide +kernel
theorem dL_law_1114 : decode cL_law 1114 = .ok (.iload_n 3, 1) := by decide +kernel
theorem dL_law_1115 : decode cL_law 1115 = .ok (.iconst 1, 1) := by decide +kernel
theorem dL_law_1116 : decode cL_law 1116 = .ok (.iadd, 1) := by decide +kernel
theorem dL_law_1117 : decode cL_law 1117 = .ok (.iaload, 1) := by decide +kernel
theorem dL_law_1118 : decode cL_law 1118 = .ok (.aload_n 0, 1) := by decide +kernel
theorem dL_law_1119 : decode cL_law 1119 = .ok (.iload_n 3, 1) := by decide +kernel
theorem dL_law_1120 : decode cL_law 1120 = .ok (.iconst 2, 1) := by decide +kernel
theorem dL_law_1121 : decode cL_law 1121 = .ok (.iadd, 1) := by decide +kernel
theorem dL_law_1122 : decode cL_law 1122 = .ok (.iaload, 1) := by decide +kernel
theorem dL_law_1123 : decode cL_law 1123 = .ok (.aload_n 0, 1) := by decide +kernel
theorem dL_law_1124 : decode cL_law 1124 = .ok (.iload_n 3, 1) := by decide +kernel
theorem dL_law_1125 : decode cL_law 1125 = .ok (.iconst 3, 1) := by decide +kernel
theorem dL_law_1126 : decode cL_law 1126 = .ok (.iadd, 1) := by decide +kernel
theorem dL_law_1127 : decode cL_law 1127 = .ok (.iaload, 1) := by decide +kernel
theorem dL_law_1128 : decode cL_law 1128 = .ok (.invokevirtual 134, 3) := by decide +kernel
theorem dL_law_1131 : decode cL_law 1131 = .ok (.if_icmp .eq 164, 3) := by decide +kernel
theorem dL_law_1134 : decode cL_law 1134 = .ok (.iconst 0, 1) := by decide +kernel
theorem dL_law_1135 : decode cL_law 1135 = .ok (.ireturn, 1) := by decide +kernel
theorem dL_law_1136 : decode cL_law 1136 = .ok (.aload_n 1, 1) := by decide +kernel
theorem dL_law_1137 : decode cL_law 1137 = .ok (.aload_n 0, 1) := by decide +kernel
theorem dL_law_1138 : decode cL_law 1138 = .ok (.iload_n 3, 1) := by decide +kernel
theorem dL_law_1139 : decode cL_law 1139 = .ok (.iconst 1, 1) := by decide +kernel
theorem dL_law_1140 : decode cL_law 1140 = .ok (.iadd, 1) := by decide +kernel
theorem dL_law_1141 : decode cL_law 1141 = .ok (.iaload, 1) := by decide +kernel
theorem dL_law_1142 : decode cL_law 1142 = .ok (.aload_n 0, 1) := by decide +kernel
theorem dL_law_1143 : decode cL_law 1143 = .ok (.iload_n 3, 1) := by decide +kernel
theorem dL_law_1144 : decode cL_law 1144 = .ok (.iconst 2, 1) := by decide +kernel
theorem dL_law_1145 : decode cL_law 1145 = .ok (.iadd, 1) := by decide +kernel
theorem dL_law_1146 : decode cL_law 1146 = .ok (.iaload, 1) := by decide +kernel
theorem dL_law_1147 : decode cL_law 1147 = .ok (.invokevirtual 135, 3) := by decide +kernel
theorem dL_law_1150 : decode cL_law 1150 = .ok (.aload_n 2, 1) := by decide +kernel
theorem dL_law_1151 : decode cL_law 1151 = .ok (.aload_n 0, 1) := by decide +kernel
theorem dL_law_1152 : decode cL_law 1152 = .ok (.iload_n 3, 1) := by decide +kernel
theorem dL_law_1153 : decode cL_law 1153 = .ok (.iconst 1, 1) := by decide +kernel
theorem dL_law_1154 : decode cL_law 1154 = .ok (.iadd, 1) := by decide +kernel
theorem dL_law_1155 : decode cL_law 1155 = .ok (.iaload, 1) := by decide +kernel
theorem dL_law_1156 : decode cL_law 1156 = .ok (.aload_n 0, 1) := by decide +kernel
theorem dL_law_1157 : decode cL_law 1157 = .ok (.iload_n 3, 1) := by decide +kernel
theorem dL_law_1158 : decode cL_law 1158 = .ok (.iconst 2, 1) := by decide +kernel
theorem dL_law_1159 : decode cL_law 1159 = .ok (.iadd, 1) := by decide +kernel
theorem dL_law_1160 : decode cL_law 1160 = .ok (.iaload, 1) := by decide +kernel
theorem dL_law_1161 : decode cL_law 1161 = .ok (.invokevirtual 138, 3) := by decide +kernel
theorem dL_law_1164 : decode cL_law 1164 = .ok (.lcmp, 1) := by decide +kernel
theorem dL_law_1165 : decode cL_law 1165 = .ok (.ifCond .eq 130, 3) := by decide +kernel
theorem dL_law_1168 : decode cL_law 1168 = .ok (.iconst 0, 1) := by decide +kernel
theorem dL_law_1169 : decode cL_law 1169 = .ok (.ireturn, 1) := by decide +kernel
theorem dL_law_1170 : decode cL_law 1170 = .ok (.aload_n 1, 1) := by decide +kernel
theorem dL_law_1171 : decode cL_law 1171 = .ok (.aload_n 0, 1) := by decide +kernel
theorem dL_law_1172 : decode cL_law 1172 = .ok (.iload_n 3, 1) := by decide +kernel
theorem dL_law_1173 : decode cL_law 1173 = .ok (.iconst 1, 1) := by decide +kernel
theorem dL_law_1174 : decode cL_law 1174 = .ok (.iadd, 1) := by decide +kernel
theorem dL_law_1175 : decode cL_law 1175 = .ok (.iaload, 1) := by decide +kernel
theorem dL_law_1176 : decode cL_law 1176 = .ok (.aload_n 0, 1) := by decide +kernel
theorem dL_law_1177 : decode cL_law 1177 = .ok (.iload_n 3, 1) := by decide +kernel
theorem dL_law_1178 : decode cL_law 1178 = .ok (.iconst 2, 1) := by decide +kernel
theorem dL_law_1179 : decode cL_law 1179 = .ok (.iadd, 1) := by decide +kernel
theorem dL_law_1180 : decode cL_law 1180 = .ok (.iaload, 1) := by decide +kernel
theorem dL_law_1181 : decode cL_law 1181 = .ok (.aload_n 0, 1) := by decide +kernel
theorem dL_law_1182 : decode cL_law 1182 = .ok (.iload_n 3, 1) := by decide +kernel
theorem dL_law_1183 : decode cL_law 1183 = .ok (.iconst 3, 1) := by decide +kernel
theorem dL_law_1184 : decode cL_law 1184 = .ok (.iadd, 1) := by decide +kernel
theorem dL_law_1185 : decode cL_law 1185 = .ok (.iaload, 1) := by decide +kernel
theorem dL_law_1186 : decode cL_law 1186 = .ok (.invokevirtual 139, 3) := by decide +kernel
theorem dL_law_1189 : decode cL_law 1189 = .ok (.aload_n 2, 1) := by decide +kernel
theorem dL_law_1190 : decode cL_law 1190 = .ok (.aload_n 0, 1) := by decide +kernel
theorem dL_law_1191 : decode cL_law 1191 = .ok (.iload_n 3, 1) := by decide +kernel
theorem dL_law_1192 : decode cL_law 1192 = .ok (.iconst 1, 1) := by decide +kernel
theorem dL_law_1193 : decode cL_law 1193 = .ok (.iadd, 1) := by decide +kernel
theorem dL_law_1194 : decode cL_law 1194 = .ok (.iaload, 1) := by decide +kernel
theorem dL_law_1195 : decode cL_law 1195 = .ok (.aload_n 0, 1) := by decide +kernel
theorem dL_law_1196 : decode cL_law 1196 = .ok (.iload_n 3, 1) := by decide +kernel
theorem dL_law_1197 : decode cL_law 1197 = .ok (.iconst 2, 1) := by decide +kernel
theorem dL_law_1198 : decode cL_law 1198 = .ok (.iadd, 1) := by decide +kernel
theorem dL_law_1199 : decode cL_law 1199 = .ok (.iaload, 1) := by decide +kernel
theorem dL_law_1200 : decode cL_law 1200 = .ok (.aload_n 0, 1) := by decide +kernel
theorem dL_law_1201 : decode cL_law 1201 = .ok (.iload_n 3, 1) := by decide +kernel
theorem dL_law_1202 : decode cL_law 1202 = .ok (.iconst 3, 1) := by decide +kernel
theorem dL_law_1203 : decode cL_law 1203 = .ok (.iadd, 1) := by decide +kernel
theorem dL_law_1204 : decode cL_law 1204 = .ok (.iaload, 1) := by decide +kernel
theorem dL_law_1205 : decode cL_law 1205 = .ok (.invokevirtual 142, 3) := by decide +kernel
theorem dL_law_1208 : decode cL_law 1208 = .ok (.if_icmp .eq 87, 3) := by decide +kernel
theorem dL_law_1211 : decode cL_law 1211 = .ok (.iconst 0, 1) := by decide +kernel
theorem dL_law_1212 : decode cL_law 1212 = .ok (.ireturn, 1) := by decide +kernel
theorem dL_law_1213 : decode cL_law 1213 = .ok (.aload_n 1, 1) := by decide +kernel
theorem dL_law_1214 : decode cL_law 1214 = .ok (.aload_n 0, 1) := by decide +kernel
theorem dL_law_1215 : decode cL_law 1215 = .ok (.iload_n 3, 1) := by decide +kernel
theorem dL_law_1216 : decode cL_law 1216 = .ok (.iconst 1, 1) := by decide +kernel
theorem dL_law_1217 : decode cL_law 1217 = .ok (.iadd, 1) := by decide +kernel
theorem dL_law_1218 : decode cL_law 1218 = .ok (.iaload, 1) := by decide +kernel
theorem dL_law_1219 : decode cL_law 1219 = .ok (.aload_n 0, 1) := by decide +kernel
theorem dL_law_1220 : decode cL_law 1220 = .ok (.iload_n 3, 1) := by decide +kernel
theorem dL_law_1221 : decode cL_law 1221 = .ok (.iconst 2, 1) := by decide +kernel
theorem dL_law_1222 : decode cL_law 1222 = .ok (.iadd, 1) := by decide +kernel
theorem dL_law_1223 : decode cL_law 1223 = .ok (.iaload, 1) := by decide +kernel
theorem dL_law_1224 : decode cL_law 1224 = .ok (.invokevirtual 143, 3) := by decide +kernel
theorem dL_law_1227 : decode cL_law 1227 = .ok (.aload_n 2, 1) := by decide +kernel
theorem dL_law_1228 : decode cL_law 1228 = .ok (.aload_n 0, 1) := by decide +kernel
theorem dL_law_1229 : decode cL_law 1229 = .ok (.iload_n 3, 1) := by decide +kernel
theorem dL_law_1230 : decode cL_law 1230 = .ok (.iconst 1, 1) := by decide +kernel
theorem dL_law_1231 : decode cL_law 1231 = .ok (.iadd, 1) := by decide +kernel
theorem dL_law_1232 : decode cL_law 1232 = .ok (.iaload, 1) := by decide +kernel
theorem dL_law_1233 : decode cL_law 1233 = .ok (.aload_n 0, 1) := by decide +kernel
theorem dL_law_1234 : decode cL_law 1234 = .ok (.iload_n 3, 1) := by decide +kernel
theorem dL_law_1235 : decode cL_law 1235 = .ok (.iconst 2, 1) := by decide +kernel
theorem dL_law_1236 : decode cL_law 1236 = .ok (.iadd, 1) := by decide +kernel
theorem dL_law_1237 : decode cL_law 1237 = .ok (.iaload, 1) := by decide +kernel
theorem dL_law_1238 : decode cL_law 1238 = .ok (.invokevirtual 146, 3) := by decide +kernel
theorem dL_law_1241 : decode cL_law 1241 = .ok (.if_icmp .eq 54, 3) := by decide +kernel
theorem dL_law_1244 : decode cL_law 1244 = .ok (.iconst 0, 1) := by decide +kernel
theorem dL_law_1245 : decode cL_law 1245 = .ok (.ireturn, 1) := by decide +kernel
theorem dL_law_1246 : decode cL_law 1246 = .ok (.aload_n 1, 1) := by decide +kernel
theorem dL_law_1247 : decode cL_law 1247 = .ok (.invokevirtual 147, 3) := by decide +kernel
theorem dL_law_1250 : decode cL_law 1250 = .ok (.aload_n 2, 1) := by decide +kernel
theorem dL_law_1251 : decode cL_law 1251 = .ok (.invokevirtual 150, 3) := by decide +kernel
theorem dL_law_1254 : decode cL_law 1254 = .ok (.if_icmp .eq 41, 3) := by decide +kernel
theorem dL_law_1257 : decode cL_law 1257 = .ok (.iconst 0, 1) := by decide +kernel
theorem dL_law_1258 : decode cL_law 1258 = .ok (.ireturn, 1) := by decide +kernel
theorem dL_law_1259 : decode cL_law 1259 = .ok (.aload_n 1, 1) := by decide +kernel
theorem dL_law_1260 : decode cL_law 1260 = .ok (.invokevirtual 151, 3) := by decide +kernel
theorem dL_law_1263 : decode cL_law 1263 = .ok (.aload_n 2, 1) := by decide +kernel
theorem dL_law_1264 : decode cL_law 1264 = .ok (.invokevirtual 154, 3) := by decide +kernel
theorem dL_law_1267 : decode cL_law 1267 = .ok (.if_icmp .eq 28, 3) := by decide +kernel
theorem dL_law_1270 : decode cL_law 1270 = .ok (.iconst 0, 1) := by decide +kernel
theorem dL_law_1271 : decode cL_law 1271 = .ok (.ireturn, 1) := by decide +kernel
theorem dL_law_1272 : decode cL_law 1272 = .ok (.aload_n 1, 1) := by decide +kernel
theorem dL_law_1273 : decode cL_law 1273 = .ok (.aload_n 0, 1) := by decide +kernel
theorem dL_law_1274 : decode cL_law 1274 = .ok (.iload_n 3, 1) := by decide +kernel
theorem dL_law_1275 : decode cL_law 1275 = .ok (.iconst 1, 1) := by decide +kernel
theorem dL_law_1276 : decode cL_law 1276 = .ok (.iadd, 1) := by decide +kernel
theorem dL_law_1277 : decode cL_law 1277 = .ok (.iaload, 1) := by decide +kernel
theorem dL_law_1278 : decode cL_law 1278 = .ok (.invokevirtual 155, 3) := by decide +kernel
theorem dL_law_1281 : decode cL_law 1281 = .ok (.aload_n 2, 1) := by decide +kernel
theorem dL_law_1282 : decode cL_law 1282 = .ok (.aload_n 0, 1) := by decide +kernel
theorem dL_law_1283 : decode cL_law 1283 = .ok (.iload_n 3, 1) := by decide +kernel
theorem dL_law_1284 : decode cL_law 1284 = .ok (.iconst 1, 1) := by decide +kernel
theorem dL_law_1285 : decode cL_law 1285 = .ok (.iadd, 1) := by decide +kernel
theorem dL_law_1286 : decode cL_law 1286 = .ok (.iaload, 1) := by decide +kernel
theorem dL_law_1287 : decode cL_law 1287 = .ok (.invokevirtual 158, 3) := by decide +kernel
theorem dL_law_1290 : decode cL_law 1290 = .ok (.if_icmp .eq 5, 3) := by decide +kernel
theorem dL_law_1293 : decode cL_law 1293 = .ok (.iconst 0, 1) := by decide +kernel
theorem dL_law_1294 : decode cL_law 1294 = .ok (.ireturn, 1) := by decide +kernel
theorem dL_law_1295 : decode cL_law 1295 = .ok (.iinc 3 5, 3) := by decide +kernel
theorem dL_law_1298 : decode cL_law 1298 = .ok (.goto (-1280), 3) := by decide +kernel
theorem dL_law_1301 : decode cL_law 1301 = .ok (.iconst 1, 1) := by decide +kernel
theorem dL_law_1302 : decode cL_law 1302 = .ok (.ireturn, 1) := by decide +kernel
end
section
/-! Part 04: the tables of the program, printed by program out of the Statement, with their places among lw_tbl -/
abbrev tb_SH : Type := List (Nat × List Nat)
abbrev tb_St : Type := Nat → Nat → Int32
abbrev tb_MM : Type := tb_SH × tb_St
/-- a method: its class's number, its name, its code, its locals, what it answers, how many arguments -/
abbrev tb_MD : Type := Nat × MethodName × ByteArray × Nat × Option FieldType × Nat
abbrev tb_XR : Type := Option Value × tb_MM
abbrev tb_XS : Type := Nat × List Value × List Value × tb_MM
/-- the tables of the program: fields, new, constants, calls, by class number and pool index -/
def tb_look {α : Type} (l : List (Nat × Nat × α)) (c i : Nat) : Option α := (l.find? (fun q => q.1 == c && q.2.1 == i)).map (fun q => q.2.2)
def tb_cn (c : Nat) : String := [RX0, RX1, RX2, RX3, RX4, RX5, RX6, RX7, RX8, RL].getD c RL
def tb_vc (c : Nat) : vw_C := vwCl.getD c (RX0, TX0, 4)
def tb_kdL : List (List Nat) := [[2, 2, 2, 0], [2, 2, 0], [2, 2, 0], [2, 2], [2, 2, 0, 2, 0, 0, 0, 0, 1, 2, 0], [2, 2, 2, 2, 2, 2, 2, 0], [2, 2, 2, 2, 0, 0, 0, 0], [2, 2, 2, 2, 1, 2, 2, 2, 2, 2], [0, 2, 2, 2, 2, 2, 2, 2, 0, 2, 2, 2, 2, 2, 0, 2, 0, 0, 0, 0, 0, 0, 2, 0, 0, 2, 0, 2, 0, 0, 0, 2, 1, 0, 0, 2, 2, 2]]
def tb_kd (c k : Nat) : Nat := (tb_kdL.getD c []).getD k 0
def mX7_init : tb_MD := (7, yX7_init, cX7_init, 1, none, 0)
def mX5_init : tb_MD := (5, yX5_init, cX5_init, 1, none, 0)
def mX1_init : tb_MD := (1, yX1_init, cX1_init, 1, none, 0)
def mX6_init : tb_MD := (6, yX6_init, cX6_init, 2, none, 1)
def mX0_init : tb_MD := (0, yX0_init, cX0_init, 1, none, 0)
def mX4_init : tb_MD := (4, yX4_init, cX4_init, 2, none, 1)
def mX2_init : tb_MD := (2, yX2_init, cX2_init, 2, none, 1)
def mX3_init : tb_MD := (3, yX3_init, cX3_init, 1, none, 0)
def mX7_flat : tb_MD := (7, yX7_flat, cX7_flat, 2, some .int, 1)
def mX7_isFee : tb_MD := (7, yX7_isFee, cX7_isFee, 1, some .boolean, 1)
def mX5_add : tb_MD := (5, yX5_add, cX5_add, 7, some .int, 5)
def mX5_sizeOf : tb_MD := (5, yX5_sizeOf, cX5_sizeOf, 2, some .int, 1)
def mX5_has : tb_MD := (5, yX5_has, cX5_has, 2, some .boolean, 1)
def mX5_depthOf : tb_MD := (5, yX5_depthOf, cX5_depthOf, 2, some .int, 1)
def mX7_empty : tb_MD := (7, yX7_empty, cX7_empty, 1, some .int, 0)
def mX7_when : tb_MD := (7, yX7_when, cX7_when, 3, some .int, 2)
def mX7_isBox : tb_MD := (7, yX7_isBox, cX7_isBox, 4, some .boolean, 1)
def mX7_figure : tb_MD := (7, yX7_figure, cX7_figure, 4, some .int, 2)
def mX7_canBe : tb_MD := (7, yX7_canBe, cX7_canBe, 5, some .boolean, 3)
def mX7_cap : tb_MD := (7, yX7_cap, cX7_cap, 4, some .int, 3)
def mX7_two : tb_MD := (7, yX7_two, cX7_two, 4, some .int, 3)
def mX7_isOfTwo : tb_MD := (7, yX7_isOfTwo, cX7_isOfTwo, 1, some .boolean, 1)
def mX7_drop : tb_MD := (7, yX7_drop, cX7_drop, 1, some .int, 0)
def mX5_cutTo : tb_MD := (5, yX5_cutTo, cX5_cutTo, 2, none, 1)
def mX7_feed : tb_MD := (7, yX7_feed, cX7_feed, 2, some .int, 1)
def mX4_append : tb_MD := (4, yX4_append, cX4_append, 2, some .int, 1)
def mX7_clear : tb_MD := (7, yX7_clear, cX7_clear, 1, some .int, 0)
def mX4_wipe : tb_MD := (4, yX4_wipe, cX4_wipe, 2, some .int, 0)
def mX7_read : tb_MD := (7, yX7_read, cX7_read, 1, some .int, 0)
def mX4_readAll : tb_MD := (4, yX4_readAll, cX4_readAll, 2, some .int, 0)
def mX4_readTerm : tb_MD := (4, yX4_readTerm, cX4_readTerm, 5, some .int, 1)
def mX4_here : tb_MD := (4, yX4_here, cX4_here, 1, some .int, 0)
def mX4_isFigure : tb_MD := (4, yX4_isFigure, cX4_isFigure, 2, some .boolean, 1)
def mX4_readNumber : tb_MD := (4, yX4_readNumber, cX4_readNumber, 2, some .int, 0)
def mX4_fail : tb_MD := (4, yX4_fail, cX4_fail, 3, none, 1)
def mX4_take : tb_MD := (4, yX4_take, cX4_take, 7, some .int, 5)
def mX4_kindBySign : tb_MD := (4, yX4_kindBySign, cX4_kindBySign, 2, some .int, 1)
def mX4_readNamed : tb_MD := (4, yX4_readNamed, cX4_readNamed, 3, some .int, 0)
def mX4_readComposed : tb_MD := (4, yX4_readComposed, cX4_readComposed, 8, some .int, 2)
def mX4_readBox : tb_MD := (4, yX4_readBox, cX4_readBox, 5, some .int, 0)
def mX4_goOver : tb_MD := (4, yX4_goOver, cX4_goOver, 2, some .boolean, 1)
def mX7_way : tb_MD := (7, yX7_way, cX7_way, 2, some .int, 1)
def mX7_of : tb_MD := (7, yX7_of, cX7_of, 3, some .int, 2)
def mX7_taken : tb_MD := (7, yX7_taken, cX7_taken, 4, some .int, 2)
def mX7_kindAbove : tb_MD := (7, yX7_kindAbove, cX7_kindAbove, 1, some .int, 1)
def mX7_spell : tb_MD := (7, yX7_spell, cX7_spell, 2, some .int, 1)
def mX2_write : tb_MD := (2, yX2_write, cX2_write, 2, some .int, 1)
def mX2_writeTerm : tb_MD := (2, yX2_writeTerm, cX2_writeTerm, 4, none, 2)
def mX2_writeFee : tb_MD := (2, yX2_writeFee, cX2_writeFee, 2, none, 1)
def mX2_writeByte : tb_MD := (2, yX2_writeByte, cX2_writeByte, 2, none, 1)
def mX2_signOf : tb_MD := (2, yX2_signOf, cX2_signOf, 2, some .int, 1)
def mX2_writeHead : tb_MD := (2, yX2_writeHead, cX2_writeHead, 3, none, 1)
def mX7_paper : tb_MD := (7, yX7_paper, cX7_paper, 2, some .int, 1)
def mX7_says : tb_MD := (7, yX7_says, cX7_says, 3, some .int, 2)
def mX7_isCase : tb_MD := (7, yX7_isCase, cX7_isCase, 1, some .boolean, 1)
def mX6_unfold : tb_MD := (6, yX6_unfold, cX6_unfold, 6, none, 1)
def mX6_setPlace : tb_MD := (6, yX6_setPlace, cX6_setPlace, 3, none, 2)
def mX6_answer : tb_MD := (6, yX6_answer, cX6_answer, 3, some .int, 1)
def mX6_answerAt : tb_MD := (6, yX6_answerAt, cX6_answerAt, 6, some .int, 2)
def mX6_termAt : tb_MD := (6, yX6_termAt, cX6_termAt, 2, some .int, 1)
def mX6_saidAt : tb_MD := (6, yX6_saidAt, cX6_saidAt, 2, some .int, 1)
def mX7_isInBox : tb_MD := (7, yX7_isInBox, cX7_isInBox, 5, some .boolean, 2)
def mX7_ageOf : tb_MD := (7, yX7_ageOf, cX7_ageOf, 1, some .int, 1)
def mX7_dayOf : tb_MD := (7, yX7_dayOf, cX7_dayOf, 1, some .int, 1)
def mX7_hourOf : tb_MD := (7, yX7_hourOf, cX7_hourOf, 1, some .int, 1)
def mX6_capped : tb_MD := (6, yX6_capped, cX6_capped, 4, some .int, 3)
def mX7_sum : tb_MD := (7, yX7_sum, cX7_sum, 3, some .int, 2)
def mX7_earned : tb_MD := (7, yX7_earned, cX7_earned, 4, some .int, 1)
def mX7_covered : tb_MD := (7, yX7_covered, cX7_covered, 4, some .int, 1)
def mX7_odds : tb_MD := (7, yX7_odds, cX7_odds, 5, some .long, 2)
def mX7_commonDivisor : tb_MD := (7, yX7_commonDivisor, cX7_commonDivisor, 2, some .int, 1)
def mX7_part : tb_MD := (7, yX7_part, cX7_part, 4, some .int, 3)
def mX7_boxFees : tb_MD := (7, yX7_boxFees, cX7_boxFees, 4, none, 1)
def mX0_takeAll : tb_MD := (0, yX0_takeAll, cX0_takeAll, 2, none, 0)
def mX0_takeFrom : tb_MD := (0, yX0_takeFrom, cX0_takeFrom, 9, none, 1)
def mX0_hoursAlike : tb_MD := (0, yX0_hoursAlike, cX0_hoursAlike, 8, some .boolean, 5)
def mX7_caseOf : tb_MD := (7, yX7_caseOf, cX7_caseOf, 3, some .int, 3)
def mX0_daysAlike : tb_MD := (0, yX0_daysAlike, cX0_daysAlike, 8, some .boolean, 6)
def mX0_keep : tb_MD := (0, yX0_keep, cX0_keep, 4, none, 2)
def mX0_has : tb_MD := (0, yX0_has, cX0_has, 2, some .boolean, 1)
def mX0_tell : tb_MD := (0, yX0_tell, cX0_tell, 3, some .int, 2)
def mX7_gap : tb_MD := (7, yX7_gap, cX7_gap, 4, some .int, 3)
def mX7_boxGaps : tb_MD := (7, yX7_boxGaps, cX7_boxGaps, 3, none, 1)
def mX7_diff : tb_MD := (7, yX7_diff, cX7_diff, 5, some .int, 4)
def mX7_boxDiffs : tb_MD := (7, yX7_boxDiffs, cX7_boxDiffs, 6, none, 2)
def mX7_pair : tb_MD := (7, yX7_pair, cX7_pair, 2, some .int, 2)
def mX7_firstOfPair : tb_MD := (7, yX7_firstOfPair, cX7_firstOfPair, 1, some .int, 1)
def mX7_secondOfPair : tb_MD := (7, yX7_secondOfPair, cX7_secondOfPair, 1, some .int, 1)
def mX7_rule : tb_MD := (7, yX7_rule, cX7_rule, 4, some .int, 2)
def mX6_ruleCount : tb_MD := (6, yX6_ruleCount, cX6_ruleCount, 3, some .int, 0)
def mX6_isRule : tb_MD := (6, yX6_isRule, cX6_isRule, 3, some .boolean, 1)
def mX6_placeOfRule : tb_MD := (6, yX6_placeOfRule, cX6_placeOfRule, 4, some .int, 1)
def mX7_idle : tb_MD := (7, yX7_idle, cX7_idle, 4, some .int, 2)
def mX7_isIdle : tb_MD := (7, yX7_isIdle, cX7_isIdle, 4, some .boolean, 1)
def mX6_silence : tb_MD := (6, yX6_silence, cX6_silence, 2, none, 1)
def mX7_overlap : tb_MD := (7, yX7_overlap, cX7_overlap, 5, some .int, 2)
def mX7_sharedSide : tb_MD := (7, yX7_sharedSide, cX7_sharedSide, 5, some .int, 3)
def mX7_would : tb_MD := (7, yX7_would, cX7_would, 5, some .int, 4)
def mX7_isFlat : tb_MD := (7, yX7_isFlat, cX7_isFlat, 2, some .boolean, 1)
def mX6_suppose : tb_MD := (6, yX6_suppose, cX6_suppose, 3, none, 2)
def mX7_paid : tb_MD := (7, yX7_paid, cX7_paid, 3, some .int, 2)
def mX1_forget : tb_MD := (1, yX1_forget, cX1_forget, 1, none, 0)
def mX1_note : tb_MD := (1, yX1_note, cX1_note, 3, some .int, 2)
def mX7_fits : tb_MD := (7, yX7_fits, cX7_fits, 7, some .int, 3)
def mX7_saysWhatWasPaid : tb_MD := (7, yX7_saysWhatWasPaid, cX7_saysWhatWasPaid, 2, some .boolean, 0)
def mX7_till : tb_MD := (7, yX7_till, cX7_till, 11, some .int, 4)
def mX7_rack : tb_MD := (7, yX7_rack, cX7_rack, 3, some .int, 2)
def mX3_has : tb_MD := (3, yX3_has, cX3_has, 2, some .boolean, 1)
def mX3_renew : tb_MD := (3, yX3_renew, cX3_renew, 4, none, 2)
def mX7_put : tb_MD := (7, yX7_put, cX7_put, 4, some .int, 3)
def mX3_holds : tb_MD := (3, yX3_holds, cX3_holds, 2, some .boolean, 1)
def mX3_hasPlace : tb_MD := (3, yX3_hasPlace, cX3_hasPlace, 3, some .boolean, 2)
def mX3_store : tb_MD := (3, yX3_store, cX3_store, 4, none, 3)
def mX7_get : tb_MD := (7, yX7_get, cX7_get, 3, some .long, 2)
def mX3_at : tb_MD := (3, yX3_at, cX3_at, 3, some .int, 2)
def mX7_lay : tb_MD := (7, yX7_lay, cX7_lay, 6, some .int, 3)
def mX7_partNumber : tb_MD := (7, yX7_partNumber, cX7_partNumber, 3, some .int, 2)
def mX7_judge : tb_MD := (7, yX7_judge, cX7_judge, 5, some .int, 2)
def mX3_flaw : tb_MD := (3, yX3_flaw, cX3_flaw, 4, some .int, 1)
def mX3_partsOf : tb_MD := (3, yX3_partsOf, cX3_partsOf, 2, some .int, 1)
def mX3_numberCanBe : tb_MD := (3, yX3_numberCanBe, cX3_numberCanBe, 5, some .boolean, 2)
def mX3_answer : tb_MD := (3, yX3_answer, cX3_answer, 5, some .int, 2)
def mX3_isInPart : tb_MD := (3, yX3_isInPart, cX3_isInPart, 4, some .boolean, 3)
def mX3_isWithin : tb_MD := (3, yX3_isWithin, cX3_isWithin, 4, some .boolean, 3)
def mX7_image : tb_MD := (7, yX7_image, cX7_image, 1, some .int, 0)
def mX5_copyFrom : tb_MD := (5, yX5_copyFrom, cX5_copyFrom, 3, none, 1)
def mX1_copyFrom : tb_MD := (1, yX1_copyFrom, cX1_copyFrom, 3, none, 1)
def mX7_undo : tb_MD := (7, yX7_undo, cX7_undo, 1, some .int, 0)
def mX7_count : tb_MD := (7, yX7_count, cX7_count, 2, some .int, 1)
def mX5_countOf : tb_MD := (5, yX5_countOf, cX5_countOf, 4, some .int, 1)
def mX5_greatestSize : tb_MD := (5, yX5_greatestSize, cX5_greatestSize, 3, some .int, 0)
def mX8_init : tb_MD := (8, yX8_init, cX8_init, 1, none, 0)
def mX8_flat : tb_MD := (8, yX8_flat, cX8_flat, 2, some .int, 1)
def mX8_within : tb_MD := (8, yX8_within, cX8_within, 3, some .boolean, 3)
def mX8_adds : tb_MD := (8, yX8_adds, cX8_adds, 6, some .int, 5)
def mX8_lays : tb_MD := (8, yX8_lays, cX8_lays, 8, none, 6)
def mX8_empty : tb_MD := (8, yX8_empty, cX8_empty, 1, some .int, 0)
def mX8_when : tb_MD := (8, yX8_when, cX8_when, 3, some .int, 2)
def mX8_isTerm : tb_MD := (8, yX8_isTerm, cX8_isTerm, 2, some .boolean, 1)
def mX8_isBox : tb_MD := (8, yX8_isBox, cX8_isBox, 2, some .boolean, 1)
def mX8_figure : tb_MD := (8, yX8_figure, cX8_figure, 4, some .int, 2)
def mX8_most : tb_MD := (8, yX8_most, cX8_most, 1, some .int, 1)
def mX8_cap : tb_MD := (8, yX8_cap, cX8_cap, 4, some .int, 3)
def mX8_two : tb_MD := (8, yX8_two, cX8_two, 4, some .int, 3)
def mX8_ofTwo : tb_MD := (8, yX8_ofTwo, cX8_ofTwo, 1, some .boolean, 1)
def mX8_drop : tb_MD := (8, yX8_drop, cX8_drop, 1, some .int, 0)
def mX8_feed : tb_MD := (8, yX8_feed, cX8_feed, 2, some .int, 1)
def mX8_clear : tb_MD := (8, yX8_clear, cX8_clear, 2, some .int, 0)
def mX8_read : tb_MD := (8, yX8_read, cX8_read, 4, some .int, 0)
def mX8_term : tb_MD := (8, yX8_term, cX8_term, 7, some .int, 1)
def mX8_isFigure : tb_MD := (8, yX8_isFigure, cX8_isFigure, 1, some .boolean, 0)
def mX8_next : tb_MD := (8, yX8_next, cX8_next, 1, some .int, 0)
def mX8_number : tb_MD := (8, yX8_number, cX8_number, 2, some .int, 0)
def mX8_ends : tb_MD := (8, yX8_ends, cX8_ends, 2, some .int, 1)
def mX8_makes : tb_MD := (8, yX8_makes, cX8_makes, 6, some .int, 5)
def mX8_kindOf : tb_MD := (8, yX8_kindOf, cX8_kindOf, 1, some .int, 1)
def mX8_ofOne : tb_MD := (8, yX8_ofOne, cX8_ofOne, 1, some .boolean, 1)
def mX8_boxThere : tb_MD := (8, yX8_boxThere, cX8_boxThere, 5, some .int, 0)
def mX8_is : tb_MD := (8, yX8_is, cX8_is, 2, some .boolean, 1)
def mX8_wrong : tb_MD := (8, yX8_wrong, cX8_wrong, 2, some .boolean, 1)
def mX8_way : tb_MD := (8, yX8_way, cX8_way, 2, some .int, 1)
def mX8_of : tb_MD := (8, yX8_of, cX8_of, 3, some .int, 2)
def mX8_taken : tb_MD := (8, yX8_taken, cX8_taken, 4, some .int, 2)
def mX8_spell : tb_MD := (8, yX8_spell, cX8_spell, 2, some .int, 1)
def mX8_spells : tb_MD := (8, yX8_spells, cX8_spells, 4, none, 1)
def mX8_writesNumber : tb_MD := (8, yX8_writesNumber, cX8_writesNumber, 2, none, 1)
def mX8_writes : tb_MD := (8, yX8_writes, cX8_writes, 2, none, 1)
def mX8_letterOf : tb_MD := (8, yX8_letterOf, cX8_letterOf, 1, some .int, 1)
def mX8_paper : tb_MD := (8, yX8_paper, cX8_paper, 2, some .int, 1)
def mX8_says : tb_MD := (8, yX8_says, cX8_says, 3, some .int, 2)
def mX8_isCase : tb_MD := (8, yX8_isCase, cX8_isCase, 1, some .boolean, 1)
def mX8_sayOf : tb_MD := (8, yX8_sayOf, cX8_sayOf, 3, some .int, 2)
def mX8_said : tb_MD := (8, yX8_said, cX8_said, 6, some .int, 2)
def mX8_isIn : tb_MD := (8, yX8_isIn, cX8_isIn, 3, some .boolean, 2)
def mX8_part : tb_MD := (8, yX8_part, cX8_part, 2, some .int, 2)
def mX8_sum : tb_MD := (8, yX8_sum, cX8_sum, 5, some .int, 2)
def mX8_tells : tb_MD := (8, yX8_tells, cX8_tells, 4, none, 2)
def mX8_odds : tb_MD := (8, yX8_odds, cX8_odds, 7, some .long, 2)
def mX8_part_ : tb_MD := (8, yX8_part_, cX8_part_, 4, some .int, 3)
def mX8_finds : tb_MD := (8, yX8_finds, cX8_finds, 5, none, 3)
def mX8_packs : tb_MD := (8, yX8_packs, cX8_packs, 12, none, 0)
def mX8_all : tb_MD := (8, yX8_all, cX8_all, 11, some .boolean, 7)
def mX8_goesWith : tb_MD := (8, yX8_goesWith, cX8_goesWith, 3, some .boolean, 2)
def mX8_found : tb_MD := (8, yX8_found, cX8_found, 4, some .int, 3)
def mX8_gap : tb_MD := (8, yX8_gap, cX8_gap, 4, some .int, 3)
def mX8_diff : tb_MD := (8, yX8_diff, cX8_diff, 5, some .int, 4)
def mX8_rule : tb_MD := (8, yX8_rule, cX8_rule, 3, some .int, 2)
def mX8_meets : tb_MD := (8, yX8_meets, cX8_meets, 3, none, 1)
def mX8_idle : tb_MD := (8, yX8_idle, cX8_idle, 4, some .int, 2)
def mX8_overlap : tb_MD := (8, yX8_overlap, cX8_overlap, 5, some .int, 2)
def mX8_would : tb_MD := (8, yX8_would, cX8_would, 5, some .int, 4)
def mX8_isFlat : tb_MD := (8, yX8_isFlat, cX8_isFlat, 2, some .boolean, 1)
def mX8_wouldSay : tb_MD := (8, yX8_wouldSay, cX8_wouldSay, 6, some .int, 4)
def mX8_paid : tb_MD := (8, yX8_paid, cX8_paid, 3, some .int, 2)
def mX8_fits : tb_MD := (8, yX8_fits, cX8_fits, 10, some .int, 3)
def mX8_till : tb_MD := (8, yX8_till, cX8_till, 11, some .int, 4)
def mX8_rack : tb_MD := (8, yX8_rack, cX8_rack, 4, some .int, 2)
def mX8_isRack : tb_MD := (8, yX8_isRack, cX8_isRack, 1, some .boolean, 1)
def mX8_put : tb_MD := (8, yX8_put, cX8_put, 4, some .int, 3)
def mX8_get : tb_MD := (8, yX8_get, cX8_get, 3, some .long, 2)
def mX8_lay : tb_MD := (8, yX8_lay, cX8_lay, 6, some .int, 3)
def mX8_judge : tb_MD := (8, yX8_judge, cX8_judge, 8, some .int, 2)
def mX8_tellsOf : tb_MD := (8, yX8_tellsOf, cX8_tellsOf, 7, some .int, 3)
def mX8_image : tb_MD := (8, yX8_image, cX8_image, 2, some .int, 0)
def mX8_undo : tb_MD := (8, yX8_undo, cX8_undo, 2, some .int, 0)
def mX8_count : tb_MD := (8, yX8_count, cX8_count, 4, some .int, 1)
def mL_law : tb_MD := (9, yL_law, cL_law, 4, some .boolean, 1)
def tb_fT : List (Nat × Nat × (Nat × Nat) × Nat) := [(0, 9, (0, 0), 192), (0, 15, (0, 1), 194), (0, 18, (0, 2), 196), (0, 21, (0, 3), 198), (1, 9, (1, 0), 142), (1, 15, (1, 1), 144), (1, 18, (1, 2), 146), (2, 9, (2, 1), 259), (2, 15, (2, 2), 261), (2, 19, (2, 0), 258), (2, 33, (5, 0), 92), (2, 37, (5, 1), 96), (2, 54, (5, 3), 105), (2, 60, (5, 4), 109), (2, 63, (5, 2), 100), (3, 11, (3, 0), 279), (3, 16, (3, 1), 280), (4, 9, (4, 1), 216), (4, 15, (4, 2), 217), (4, 19, (4, 3), 219), (4, 22, (4, 4), 221), (4, 25, (4, 5), 223), (4, 28, (4, 6), 224), (4, 31, (4, 7), 225), (4, 34, (4, 8), 226), (4, 38, (4, 9), 227), (4, 41, (4, 10), 228), (4, 44, (4, 0), 215), (4, 48, (5, 7), 116), (5, 9, (5, 0), 91), (5, 15, (5, 1), 95), (5, 18, (5, 2), 99), (5, 21, (5, 3), 103), (5, 24, (5, 4), 107), (5, 27, (5, 5), 111), (5, 30, (5, 6), 113), (5, 33, (5, 7), 115), (6, 9, (6, 1), 162), (6, 15, (6, 2), 163), (6, 18, (6, 3), 164), (6, 21, (6, 4), 165), (6, 25, (6, 5), 166), (6, 28, (6, 6), 167), (6, 31, (6, 7), 168), (6, 34, (6, 0), 161), (6, 58, (5, 3), 104), (6, 61, (5, 4), 108), (6, 73, (5, 0), 93), (6, 76, (5, 1), 97), (6, 79, (5, 2), 101), (7, 12, (7, 0), 286), (7, 21, (7, 1), 287), (7, 25, (7, 2), 288), (7, 28, (7, 3), 289), (7, 31, (7, 4), 290), (7, 40, (7, 5), 291), (7, 47, (7, 6), 292), (7, 54, (7, 7), 293), (7, 61, (7, 8), 294), (7, 68, (7, 9), 295), (7, 89, (5, 7), 117), (7, 108, (4, 4), 222), (7, 111, (4, 3), 220), (7, 115, (5, 0), 94), (7, 118, (5, 1), 98), (7, 121, (5, 3), 106), (7, 124, (5, 4), 110), (7, 127, (5, 5), 112), (7, 130, (5, 6), 114), (7, 133, (5, 2), 102), (7, 142, (2, 2), 262), (7, 145, (2, 1), 260), (7, 173, (0, 2), 197), (7, 253, (0, 3), 199), (7, 268, (1, 2), 147), (7, 269, (4, 2), 218), (7, 300, (1, 0), 143), (7, 301, (1, 1), 145), (7, 302, (0, 0), 193), (7, 311, (0, 1), 195), (8, 9, (8, 1), 839), (8, 15, (8, 2), 840), (8, 18, (8, 3), 841), (8, 21, (8, 4), 842), (8, 24, (8, 5), 843), (8, 27, (8, 6), 844), (8, 30, (8, 7), 845), (8, 33, (8, 9), 847), (8, 36, (8, 10), 848), (8, 39, (8, 11), 849), (8, 42, (8, 12), 850), (8, 45, (8, 13), 851), (8, 49, (8, 15), 853), (8, 52, (8, 19), 857), (8, 56, (8, 22), 860), (8, 59, (8, 25), 863), (8, 62, (8, 27), 865), (8, 65, (8, 31), 869), (8, 68, (8, 35), 873), (8, 71, (8, 36), 874), (8, 74, (8, 37), 875), (8, 77, (8, 0), 838), (8, 119, (8, 21), 859), (8, 122, (8, 23), 861), (8, 132, (8, 28), 866), (8, 139, (8, 29), 867), (8, 151, (8, 24), 862), (8, 169, (8, 26), 864), (8, 172, (8, 30), 868), (8, 188, (8, 16), 854), (8, 194, (8, 17), 855), (8, 201, (8, 20), 858), (8, 225, (8, 14), 852), (8, 242, (8, 18), 856), (8, 258, (8, 8), 846), (8, 270, (8, 32), 870), (8, 274, (8, 33), 871), (8, 277, (8, 34), 872)]
def tb_nT : List (Nat × Nat × Nat × Nat × Nat × Nat) := [(7, 9, 5, 85, 86, 68), (7, 18, 1, 136, 137, 69), (7, 35, 6, 155, 156, 70), (7, 44, 0, 186, 187, 71), (7, 51, 4, 209, 210, 72), (7, 58, 2, 252, 253, 73), (7, 65, 3, 271, 272, 74), (9, 7, 7, 77, 78, 67), (9, 10, 8, 832, 833, 75)]
def tb_kT : List (Nat × Nat × Int32 × Nat) := [(0, 55, 100000, 607), (7, 225, 1664525, 721), (7, 226, 1013904223, 722), (7, 229, 2147483647, 723), (7, 276, 999999, 355), (7, 293, 100000, 550), (8, 84, 999999, 985), (8, 261, 1664525, 1205), (8, 262, 1013904223, 1206), (8, 263, 2147483647, 1207)]
def tb_lT : List (Nat × Nat × Int64 × Nat) := [(7, 164, -9223372036854775808, 572), (8, 217, -9223372036854775808, 1130)]
def tb_mT0 : List (Nat × Nat × (Nat × tb_MD) × List Nat) := [(0, 25, (0, mX0_has), [621, 614, 615, 71, 616]), (0, 29, (2, mX7_figure), [622, 357, 0, 67, 358]), (0, 33, (0, mX0_takeFrom), [588, 590, 24, 71, 591]), (0, 37, (2, mX7_ageOf), [592, 542, 0, 67, 543]), (0, 41, (2, mX7_dayOf), [593, 545, 0, 67, 546]), (0, 44, (2, mX7_hourOf), [594, 548, 0, 67, 549]), (0, 47, (0, mX0_hoursAlike), [595, 597, 25, 71, 598]), (0, 51, (0, mX0_daysAlike), [603, 605, 26, 71, 606]), (0, 56, (0, mX0_keep), [608, 610, 27, 71, 611]), (0, 60, (2, mX7_caseOf), [599, 600, 0, 67, 601])]
def tb_mT1 : List (Nat × Nat × (Nat × tb_MD) × List Nat) := [(0, 64, (2, mX7_isCase), [602, 507, 0, 67, 508]), (0, 67, (2, mX7_isInBox), [612, 539, 0, 67, 540]), (2, 23, (0, mX2_writeTerm), [475, 477, 12, 73, 478]), (2, 27, (0, mX5_has), [479, 333, 334, 68, 335]), (2, 40, (0, mX2_writeFee), [480, 482, 13, 73, 483]), (2, 44, (0, mX2_signOf), [488, 490, 15, 73, 491]), (2, 48, (0, mX2_writeByte), [484, 486, 14, 73, 487]), (2, 51, (0, mX2_writeHead), [492, 494, 16, 73, 495]), (2, 57, (2, mX7_isOfTwo), [497, 371, 0, 67, 372]), (2, 66, (2, mX7_figure), [496, 357, 0, 67, 358])]
def tb_mT2 : List (Nat × Nat × (Nat × tb_MD) × List Nat) := [(3, 20, (0, mX3_has), [736, 729, 730, 74, 731]), (3, 24, (0, mX3_hasPlace), [753, 746, 747, 74, 748]), (3, 28, (0, mX3_partsOf), [778, 780, 35, 74, 781]), (3, 32, (0, mX3_numberCanBe), [782, 784, 36, 74, 785]), (3, 35, (0, mX3_at), [786, 759, 760, 74, 761]), (3, 39, (2, mX7_isFee), [787, 322, 0, 67, 323]), (3, 42, (2, mX7_canBe), [788, 360, 0, 67, 361]), (3, 46, (0, mX3_isInPart), [793, 795, 37, 74, 796]), (3, 49, (2, mX7_ageOf), [797, 542, 0, 67, 543]), (3, 52, (0, mX3_isWithin), [798, 800, 38, 74, 801])]
def tb_mT3 : List (Nat × Nat × (Nat × tb_MD) × List Nat) := [(3, 55, (2, mX7_dayOf), [802, 545, 0, 67, 546]), (3, 58, (2, mX7_hourOf), [803, 548, 0, 67, 549]), (4, 53, (0, mX4_readTerm), [405, 407, 1, 72, 408]), (4, 57, (0, mX4_fail), [421, 423, 5, 72, 424]), (4, 61, (0, mX5_cutTo), [451, 378, 379, 68, 380]), (4, 64, (0, mX4_here), [409, 411, 2, 72, 412]), (4, 68, (0, mX4_isFigure), [413, 415, 3, 72, 416]), (4, 72, (0, mX4_readNumber), [417, 419, 4, 72, 420]), (4, 75, (0, mX4_take), [425, 427, 6, 72, 428]), (4, 79, (0, mX4_kindBySign), [430, 432, 7, 72, 433])]
def tb_mT4 : List (Nat × Nat × (Nat × tb_MD) × List Nat) := [(4, 82, (0, mX4_readNamed), [434, 436, 8, 72, 437]), (4, 85, (0, mX4_readComposed), [438, 440, 9, 72, 441]), (4, 89, (0, mX4_readBox), [442, 444, 10, 72, 445]), (4, 92, (0, mX4_goOver), [447, 449, 11, 72, 450]), (4, 95, (2, mX7_canBe), [446, 360, 0, 67, 361]), (4, 99, (0, mX5_add), [429, 325, 326, 68, 327]), (5, 37, (0, mX5_sizeOf), [328, 329, 330, 68, 331]), (5, 41, (0, mX5_depthOf), [336, 338, 0, 68, 339]), (5, 50, (0, mX5_has), [332, 333, 334, 68, 335]), (6, 38, (0, mX5_sizeOf), [513, 329, 330, 68, 331])]
def tb_mT5 : List (Nat × Nat × (Nat × tb_MD) × List Nat) := [(6, 50, (0, mX6_setPlace), [517, 519, 17, 70, 520]), (6, 54, (0, mX5_has), [521, 333, 334, 68, 335]), (6, 64, (0, mX6_answerAt), [526, 528, 18, 70, 529]), (6, 67, (0, mX6_saidAt), [534, 536, 19, 70, 537]), (6, 70, (0, mX6_termAt), [530, 531, 532, 70, 533]), (6, 82, (2, mX7_isInBox), [538, 539, 0, 67, 540]), (6, 86, (0, mX6_capped), [551, 553, 20, 70, 554]), (6, 90, (0, mX6_isRule), [656, 658, 30, 70, 659]), (7, 11, (4, mX5_init), [87, 88, 0, 68, 89]), (7, 20, (4, mX1_init), [138, 139, 0, 69, 140])]
def tb_mT6 : List (Nat × Nat × (Nat × tb_MD) × List Nat) := [(7, 37, (3, mX6_init), [157, 158, 0, 70, 159]), (7, 46, (4, mX0_init), [188, 189, 0, 71, 190]), (7, 53, (3, mX4_init), [211, 212, 0, 72, 213]), (7, 60, (3, mX2_init), [254, 255, 0, 73, 256]), (7, 67, (4, mX3_init), [273, 274, 0, 74, 275]), (7, 72, (1, mX7_isFee), [321, 322, 0, 67, 323]), (7, 76, (0, mX5_add), [324, 325, 326, 68, 327]), (7, 80, (0, mX5_has), [351, 333, 334, 68, 335]), (7, 83, (1, mX7_isBox), [352, 353, 0, 67, 354]), (7, 86, (1, mX7_isOfTwo), [370, 371, 0, 67, 372])]
def tb_mT7 : List (Nat × Nat × (Nat × tb_MD) × List Nat) := [(7, 93, (0, mX5_cutTo), [377, 378, 379, 68, 380]), (7, 97, (0, mX4_append), [385, 386, 387, 72, 388]), (7, 101, (0, mX4_wipe), [393, 394, 395, 72, 396]), (7, 105, (0, mX4_readAll), [401, 402, 403, 72, 404]), (7, 136, (1, mX7_kindAbove), [464, 465, 0, 67, 466]), (7, 139, (0, mX2_write), [471, 472, 473, 73, 474]), (7, 149, (1, mX7_isCase), [506, 507, 0, 67, 508]), (7, 152, (0, mX6_unfold), [509, 510, 511, 70, 512]), (7, 155, (0, mX6_answer), [522, 523, 524, 70, 525]), (7, 158, (0, mX7_earned), [559, 561, 21, 67, 562])]
def tb_mT8 : List (Nat × Nat × (Nat × tb_MD) × List Nat) := [(7, 161, (0, mX7_covered), [564, 566, 22, 67, 567]), (7, 166, (1, mX7_commonDivisor), [573, 574, 0, 67, 575]), (7, 169, (0, mX7_boxFees), [580, 582, 23, 67, 583]), (7, 172, (0, mX0_has), [613, 614, 615, 71, 616]), (7, 176, (0, mX0_tell), [617, 618, 619, 71, 620]), (7, 180, (0, mX7_boxGaps), [627, 629, 28, 67, 630]), (7, 183, (0, mX7_boxDiffs), [635, 637, 29, 67, 638]), (7, 187, (1, mX7_firstOfPair), [642, 643, 0, 67, 644]), (7, 190, (1, mX7_secondOfPair), [645, 646, 0, 67, 647]), (7, 193, (0, mX6_ruleCount), [652, 653, 654, 70, 655])]
def tb_mT9 : List (Nat × Nat × (Nat × tb_MD) × List Nat) := [(7, 196, (0, mX6_placeOfRule), [660, 661, 662, 70, 663]), (7, 199, (0, mX6_termAt), [664, 531, 532, 70, 533]), (7, 202, (0, mX7_isIdle), [669, 671, 31, 67, 672]), (7, 205, (1, mX7_sharedSide), [681, 682, 0, 67, 683]), (7, 209, (0, mX7_isFlat), [689, 691, 32, 67, 692]), (7, 212, (0, mX6_suppose), [693, 694, 695, 70, 696]), (7, 215, (0, mX1_forget), [701, 702, 703, 69, 704]), (7, 218, (0, mX1_note), [705, 706, 707, 69, 708]), (7, 221, (0, mX7_saysWhatWasPaid), [713, 715, 33, 67, 716]), (7, 235, (0, mX3_has), [728, 729, 730, 74, 731])]
def tb_mT10 : List (Nat × Nat × (Nat × tb_MD) × List Nat) := [(7, 236, (0, mX3_renew), [732, 733, 734, 74, 735]), (7, 239, (0, mX3_holds), [741, 742, 743, 74, 744]), (7, 242, (0, mX3_hasPlace), [745, 746, 747, 74, 748]), (7, 246, (0, mX3_store), [749, 750, 751, 74, 752]), (7, 250, (0, mX3_at), [758, 759, 760, 74, 761]), (7, 254, (0, mX7_partNumber), [766, 768, 34, 67, 769]), (7, 257, (0, mX3_flaw), [774, 775, 776, 74, 777]), (7, 260, (0, mX3_answer), [789, 790, 791, 74, 792]), (7, 262, (0, mX5_copyFrom), [808, 809, 810, 68, 811]), (7, 265, (0, mX1_copyFrom), [812, 813, 814, 69, 815])]
def tb_mT11 : List (Nat × Nat × (Nat × tb_MD) × List Nat) := [(7, 270, (0, mX5_countOf), [824, 825, 826, 68, 827]), (7, 273, (0, mX5_greatestSize), [828, 829, 830, 68, 831]), (7, 277, (1, mX7_figure), [356, 357, 0, 67, 358]), (7, 280, (1, mX7_canBe), [359, 360, 0, 67, 361]), (7, 284, (1, mX7_ageOf), [541, 542, 0, 67, 543]), (7, 287, (1, mX7_dayOf), [544, 545, 0, 67, 546]), (7, 290, (1, mX7_hourOf), [547, 548, 0, 67, 549]), (7, 297, (0, mX6_silence), [673, 674, 675, 70, 676]), (7, 305, (0, mX0_takeAll), [584, 585, 586, 71, 587]), (7, 308, (1, mX7_pair), [639, 640, 0, 67, 641])]
def tb_mT12 : List (Nat × Nat × (Nat × tb_MD) × List Nat) := [(8, 80, (1, mX8_within), [958, 959, 0, 75, 960]), (8, 85, (1, mX8_figure), [986, 987, 0, 75, 988]), (8, 89, (1, mX8_most), [989, 990, 0, 75, 991]), (8, 93, (1, mX8_part), [1114, 1115, 0, 75, 1116]), (8, 101, (0, mX8_lays), [965, 967, 40, 75, 968]), (8, 105, (0, mX8_adds), [961, 963, 39, 75, 964]), (8, 109, (0, mX8_isTerm), [978, 980, 41, 75, 981]), (8, 113, (1, mX8_isBox), [982, 983, 0, 75, 984]), (8, 116, (1, mX8_ofTwo), [1000, 1001, 0, 75, 1002]), (8, 125, (0, mX8_next), [1027, 1029, 44, 75, 1030])]
def tb_mT13 : List (Nat × Nat × (Nat × tb_MD) × List Nat) := [(8, 129, (0, mX8_wrong), [1057, 1059, 50, 75, 1060]), (8, 135, (0, mX8_isFigure), [1023, 1025, 43, 75, 1026]), (8, 142, (0, mX8_number), [1031, 1033, 45, 75, 1034]), (8, 145, (0, mX8_ends), [1035, 1037, 46, 75, 1038]), (8, 148, (0, mX8_makes), [1039, 1041, 47, 75, 1042]), (8, 154, (1, mX8_kindOf), [1043, 1044, 0, 75, 1045]), (8, 157, (1, mX8_ofOne), [1046, 1047, 0, 75, 1048]), (8, 160, (0, mX8_boxThere), [1049, 1051, 48, 75, 1052]), (8, 163, (0, mX8_is), [1053, 1055, 49, 75, 1056]), (8, 166, (0, mX8_term), [1019, 1021, 42, 75, 1022])]
def tb_mT14 : List (Nat × Nat × (Nat × tb_MD) × List Nat) := [(8, 175, (0, mX8_writes), [1085, 1087, 53, 75, 1088]), (8, 179, (0, mX8_writesNumber), [1081, 1083, 52, 75, 1084]), (8, 182, (1, mX8_letterOf), [1089, 1090, 0, 75, 1091]), (8, 185, (0, mX8_spells), [1077, 1079, 51, 75, 1080]), (8, 191, (0, mX8_said), [1107, 1109, 55, 75, 1110]), (8, 197, (1, mX8_isIn), [1111, 1112, 0, 75, 1113]), (8, 207, (0, mX8_sayOf), [1103, 1105, 54, 75, 1106]), (8, 210, (1, mX8_isCase), [1100, 1101, 0, 75, 1102]), (8, 213, (0, mX8_tells), [1122, 1124, 56, 75, 1125]), (8, 219, (0, mX8_sum), [1131, 1119, 1120, 75, 1121])]
def tb_mT15 : List (Nat × Nat × (Nat × tb_MD) × List Nat) := [(8, 222, (0, mX8_goesWith), [1148, 1150, 60, 75, 1151]), (8, 228, (0, mX8_all), [1144, 1146, 59, 75, 1147]), (8, 232, (0, mX8_packs), [1140, 1142, 58, 75, 1143]), (8, 235, (0, mX8_finds), [1136, 1138, 57, 75, 1139]), (8, 239, (0, mX8_found), [1152, 1154, 61, 75, 1155]), (8, 245, (0, mX8_meets), [1168, 1170, 62, 75, 1171]), (8, 248, (0, mX8_rule), [1176, 1165, 1166, 75, 1167]), (8, 251, (0, mX8_isFlat), [1185, 1187, 63, 75, 1188]), (8, 254, (0, mX8_wouldSay), [1189, 1191, 64, 75, 1192]), (8, 264, (1, mX8_isRack), [1212, 1213, 0, 75, 1214])]
def tb_mT16 : List (Nat × Nat × (Nat × tb_MD) × List Nat) := [(8, 267, (0, mX8_tellsOf), [1231, 1233, 65, 75, 1234]), (9, 9, (3, mX7_init), [79, 80, 0, 67, 81]), (9, 12, (3, mX8_init), [834, 835, 0, 75, 836]), (9, 13, (0, mX7_flat), [317, 318, 319, 67, 320]), (9, 17, (0, mX8_flat), [954, 955, 956, 75, 957]), (9, 18, (0, mX7_empty), [343, 344, 345, 67, 346]), (9, 22, (0, mX8_empty), [970, 971, 972, 75, 973]), (9, 23, (0, mX7_when), [347, 348, 349, 67, 350]), (9, 27, (0, mX8_when), [974, 975, 976, 75, 977]), (9, 28, (0, mX7_cap), [362, 363, 364, 67, 365])]
def tb_mT17 : List (Nat × Nat × (Nat × tb_MD) × List Nat) := [(9, 32, (0, mX8_cap), [992, 993, 994, 75, 995]), (9, 33, (0, mX7_two), [366, 367, 368, 67, 369]), (9, 36, (0, mX8_two), [996, 997, 998, 75, 999]), (9, 37, (0, mX7_drop), [373, 374, 375, 67, 376]), (9, 40, (0, mX8_drop), [1003, 1004, 1005, 75, 1006]), (9, 41, (0, mX7_feed), [381, 382, 383, 67, 384]), (9, 44, (0, mX8_feed), [1007, 1008, 1009, 75, 1010]), (9, 45, (0, mX7_clear), [389, 390, 391, 67, 392]), (9, 48, (0, mX8_clear), [1011, 1012, 1013, 75, 1014]), (9, 49, (0, mX7_read), [397, 398, 399, 67, 400])]
def tb_mT18 : List (Nat × Nat × (Nat × tb_MD) × List Nat) := [(9, 52, (0, mX8_read), [1015, 1016, 1017, 75, 1018]), (9, 53, (0, mX7_way), [452, 453, 454, 67, 455]), (9, 56, (0, mX8_way), [1061, 1062, 1063, 75, 1064]), (9, 57, (0, mX7_of), [456, 457, 458, 67, 459]), (9, 60, (0, mX8_of), [1065, 1066, 1067, 75, 1068]), (9, 61, (0, mX7_taken), [460, 461, 462, 67, 463]), (9, 64, (0, mX8_taken), [1069, 1070, 1071, 75, 1072]), (9, 65, (0, mX7_spell), [467, 468, 469, 67, 470]), (9, 68, (0, mX8_spell), [1073, 1074, 1075, 75, 1076]), (9, 69, (0, mX7_paper), [498, 499, 500, 67, 501])]
def tb_mT19 : List (Nat × Nat × (Nat × tb_MD) × List Nat) := [(9, 72, (0, mX8_paper), [1092, 1093, 1094, 75, 1095]), (9, 73, (0, mX7_says), [502, 503, 504, 67, 505]), (9, 76, (0, mX8_says), [1096, 1097, 1098, 75, 1099]), (9, 77, (0, mX7_sum), [555, 556, 557, 67, 558]), (9, 80, (0, mX8_sum), [1118, 1119, 1120, 75, 1121]), (9, 81, (0, mX7_odds), [568, 569, 570, 67, 571]), (9, 85, (0, mX8_odds), [1126, 1127, 1128, 75, 1129]), (9, 86, (0, mX7_part), [576, 577, 578, 67, 579]), (9, 89, (0, mX8_part_), [1132, 1133, 1134, 75, 1135]), (9, 90, (0, mX7_gap), [623, 624, 625, 67, 626])]
def tb_mT20 : List (Nat × Nat × (Nat × tb_MD) × List Nat) := [(9, 93, (0, mX8_gap), [1156, 1157, 1158, 75, 1159]), (9, 94, (0, mX7_diff), [631, 632, 633, 67, 634]), (9, 98, (0, mX8_diff), [1160, 1161, 1162, 75, 1163]), (9, 99, (0, mX7_rule), [648, 649, 650, 67, 651]), (9, 102, (0, mX8_rule), [1164, 1165, 1166, 75, 1167]), (9, 103, (0, mX7_idle), [665, 666, 667, 67, 668]), (9, 106, (0, mX8_idle), [1172, 1173, 1174, 75, 1175]), (9, 107, (0, mX7_overlap), [677, 678, 679, 67, 680]), (9, 110, (0, mX8_overlap), [1177, 1178, 1179, 75, 1180]), (9, 111, (0, mX7_would), [685, 686, 687, 67, 688])]
def tb_mT21 : List (Nat × Nat × (Nat × tb_MD) × List Nat) := [(9, 114, (0, mX8_would), [1181, 1182, 1183, 75, 1184]), (9, 115, (0, mX7_paid), [697, 698, 699, 67, 700]), (9, 118, (0, mX8_paid), [1193, 1194, 1195, 75, 1196]), (9, 119, (0, mX7_fits), [709, 710, 711, 67, 712]), (9, 122, (0, mX8_fits), [1197, 1198, 1199, 75, 1200]), (9, 123, (0, mX7_till), [717, 718, 719, 67, 720]), (9, 126, (0, mX8_till), [1201, 1202, 1203, 75, 1204]), (9, 127, (0, mX7_rack), [724, 725, 726, 67, 727]), (9, 130, (0, mX8_rack), [1208, 1209, 1210, 75, 1211]), (9, 131, (0, mX7_put), [737, 738, 739, 67, 740])]
def tb_mT22 : List (Nat × Nat × (Nat × tb_MD) × List Nat) := [(9, 134, (0, mX8_put), [1215, 1216, 1217, 75, 1218]), (9, 135, (0, mX7_get), [754, 755, 756, 67, 757]), (9, 138, (0, mX8_get), [1219, 1220, 1221, 75, 1222]), (9, 139, (0, mX7_lay), [762, 763, 764, 67, 765]), (9, 142, (0, mX8_lay), [1223, 1224, 1225, 75, 1226]), (9, 143, (0, mX7_judge), [770, 771, 772, 67, 773]), (9, 146, (0, mX8_judge), [1227, 1228, 1229, 75, 1230]), (9, 147, (0, mX7_image), [804, 805, 806, 67, 807]), (9, 150, (0, mX8_image), [1235, 1236, 1237, 75, 1238]), (9, 151, (0, mX7_undo), [816, 817, 818, 67, 819])]
def tb_mT23 : List (Nat × Nat × (Nat × tb_MD) × List Nat) := [(9, 154, (0, mX8_undo), [1239, 1240, 1241, 75, 1242]), (9, 155, (0, mX7_count), [820, 821, 822, 67, 823]), (9, 158, (0, mX8_count), [1243, 1244, 1245, 75, 1246])]
def tb_mT : List (Nat × Nat × (Nat × tb_MD) × List Nat) := tb_mT0 ++ (tb_mT1 ++ (tb_mT2 ++ (tb_mT3 ++ (tb_mT4 ++ (tb_mT5 ++ (tb_mT6 ++ (tb_mT7 ++ (tb_mT8 ++ (tb_mT9 ++ (tb_mT10 ++ (tb_mT11 ++ (tb_mT12 ++ (tb_mT13 ++ (tb_mT14 ++ (tb_mT15 ++ (tb_mT16 ++ (tb_mT17 ++ (tb_mT18 ++ (tb_mT19 ++ (tb_mT20 ++ (tb_mT21 ++ (tb_mT22 ++ (tb_mT23)))))))))))))))))))))))
def tb_xT : List (Nat × Nat × Nat × Nat) := [(5, 44, 0, 340), (6, 44, 1, 514), (7, 230, 0, 563), (7, 294, 1, 684), (8, 96, 0, 969), (8, 204, 1, 1117)]
def tb_oT : List (Nat × Nat × Nat × Nat) := [(0, 3, 0, 191), (1, 3, 0, 141), (2, 3, 0, 257), (3, 3, 0, 276), (4, 3, 0, 214), (5, 3, 0, 90), (6, 3, 0, 160), (7, 3, 0, 82), (8, 3, 0, 837)]
end
section
/-! Part 05: what the tables hold, decided -/
def tb_ty (c k : Nat) : FieldType := (parseFieldDescriptor ((tb_vc c).2.1 k).2.2.1).getD .int
/-- the tables' words by places: pieces of the list -/
def tb_tw (n : Nat) : Option Cond := if n < 66 then (k2_sels lw_privs)[n]? else if n < 306 then tables_1_1[n - 66]? else if n < 546 then tables_1_2[n - 306]? else if n < 786 then tables_1_3[n - 546]? else if n < 1026 then tables_1_4[n - 786]? else tables_1_5[n - 1026]?
theorem tb_tw_in {n : Nat} {w : Cond} (h : tb_tw n = some w) : w ∈ lw_tbl := by
  unfold tb_tw at h
  unfold lw_tbl tables_1
  split at h
  · exact List.mem_append_left _ (List.mem_of_getElem? h)
  refine List.mem_append_right _ ?_
  split at h
  · exact List.mem_append_left _ (List.mem_of_getElem? h)
  refine List.mem_append_right _ ?_
  split at h
  · exact List.mem_append_left _ (List.mem_of_getElem? h)
  refine List.mem_append_right _ ?_
  split at h
  · exact List.mem_append_left _ (List.mem_of_getElem? h)
  refine List.mem_append_right _ ?_
  split at h
  · exact List.mem_append_left _ (List.mem_of_getElem? h)
  exact List.mem_append_right _ (List.mem_of_getElem? h)
/-- the words that a callee may be given -/
def tb_gt : List Cond := lw_tbl.filter goodWord
theorem tb_gt_in {w : Cond} (h : w ∈ lw_tbl) (hg : goodWord w = true) : w ∈ tb_gt := List.mem_filter.mpr ⟨h, hg⟩
theorem tb_gt_good {w : Cond} (h : w ∈ tb_gt) : goodWord w = true := (List.mem_filter.mp h).2
theorem tb_gt_tbl {w : Cond} (h : w ∈ tb_gt) : w ∈ lw_tbl := (List.mem_filter.mp h).1
set_option maxRecDepth 100000 in
theorem tb_vcl : ∀ c, c < 9 → vwCl[c]? = some (tb_vc c) ∧ (tb_vc c).1 = tb_cn c := by
  intro c hc
  match c, hc with
  | 0, _ => exact ⟨rfl, rfl⟩
  | 1, _ => exact ⟨rfl, rfl⟩
  | 2, _ => exact ⟨rfl, rfl⟩
  | 3, _ => exact ⟨rfl, rfl⟩
  | 4, _ => exact ⟨rfl, rfl⟩
  | 5, _ => exact ⟨rfl, rfl⟩
  | 6, _ => exact ⟨rfl, rfl⟩
  | 7, _ => exact ⟨rfl, rfl⟩
  | 8, _ => exact ⟨rfl, rfl⟩
set_option maxRecDepth 100000 in
theorem tb_uws : ∀ c, c < 9 → ∀ w ∈ u_ws (tb_vc c).1 (tb_vc c).2.1 (tb_vc c).2.2, w ∈ lw_tbl ∧ goodWord w = true := by decide +kernel
set_option maxRecDepth 100000 in
theorem tb_tyok : ∀ c, c < 9 → ∀ k, k < (tb_vc c).2.2 → parseFieldDescriptor ((tb_vc c).2.1 k).2.2.1 = some (tb_ty c k) := by decide +kernel
set_option maxRecDepth 100000 in
theorem tb_apart : ∀ c, c < 9 → ∀ a, a < (tb_vc c).2.2 → ∀ b, b < (tb_vc c).2.2 → a ≠ b → ((tb_vc c).2.1 a).2.1 ≠ ((tb_vc c).2.1 b).2.1 := by decide +kernel
set_option maxRecDepth 100000 in
theorem tb_kdok : ∀ c, c < 9 → ∀ k, k < (tb_vc c).2.2 → ((tb_vc c).2.1 k).1 = tb_cn c ∧ (tb_kd c k = 0 → tb_ty c k = .int ∧ ((tb_vc c).2.1 k).2.2.2 = false) ∧ (tb_kd c k = 1 → tb_ty c k = .boolean ∧ ((tb_vc c).2.1 k).2.2.2 = false) ∧ (tb_kd c k = 2 → (tb_ty c k).isReference = true ∧ ((tb_vc c).2.1 k).2.2.2 = true) ∧ tb_kd c k < 3 := by decide +kernel
theorem tb_look_in {α : Type} {l : List (Nat × Nat × α)} {c i : Nat} {a : α} (h : tb_look l c i = some a) : (c, i, a) ∈ l := by
  unfold tb_look at h
  rw [Option.map_eq_some_iff] at h
  obtain ⟨q, h1, h2⟩ := h
  have h3 := List.find?_some h1
  have h4 := List.mem_of_find?_eq_some h1
  simp only [Bool.and_eq_true, beq_iff_eq] at h3
  obtain ⟨x, y, z⟩ := q
  simp only at h3 h2
  obtain ⟨rfl, rfl⟩ := h3
  subst h2
  exact h4
set_option maxRecDepth 100000 in
theorem tb_fok : ∀ q ∈ tb_fT, tb_tw (q.2.2.2) = some (Cond.fieldLink (tb_cn q.1) q.2.1 (tb_cn q.2.2.1.1) ((tb_vc q.2.2.1.1).2.1 q.2.2.1.2).2.1 ((tb_vc q.2.2.1.1).2.1 q.2.2.1.2).2.2.1) ∧ q.2.2.1.1 < 9 ∧ q.2.2.1.2 < (tb_vc q.2.2.1.1).2.2 := by decide +kernel
set_option maxRecDepth 100000 in
theorem tb_nok : ∀ q ∈ tb_nT, tb_tw (q.2.2.2.1) = some (Cond.classLink (tb_cn q.1) q.2.1 (tb_cn q.2.2.1)) ∧ tb_tw (q.2.2.2.2.1) = some (Cond.instantiable (tb_cn q.2.2.1) (tb_vc q.2.2.1).2.2) ∧ tb_tw (q.2.2.2.2.2) = some (Cond.initialized (tb_cn q.2.2.1)) ∧ q.2.2.1 < 9 := by decide +kernel
set_option maxRecDepth 100000 in
theorem tb_kok : ∀ q ∈ tb_kT, tb_tw (q.2.2.2) = some (Cond.constant (tb_cn q.1) q.2.1 q.2.2.1) := by decide +kernel
set_option maxRecDepth 100000 in
theorem tb_lgok : ∀ q ∈ tb_lT, tb_tw (q.2.2.2) = some (Cond.constantLong (tb_cn q.1) q.2.1 q.2.2.1) := by decide +kernel
set_option maxRecDepth 100000 in
theorem tb_xok : ∀ q ∈ tb_xT, tb_tw (q.2.2.2) = some (Cond.methodLink (tb_cn q.1) q.2.1 (if q.2.2.1 = 0 then Lib.Math.max.name else Lib.Math.min.name)) := by decide +kernel
set_option maxRecDepth 100000 in
theorem tb_xc : Cond.static Lib.Math.max.name ∈ lw_tbl ∧ Cond.static Lib.Math.min.name ∈ lw_tbl ∧ Cond.initialized "java/lang/Math" ∈ lw_tbl ∧ Cond.code Lib.Math.max.name Lib.Math.max.code 2 (some .int) ∈ lw_tbl ∧ Cond.code Lib.Math.min.name Lib.Math.min.code 2 (some .int) ∈ lw_tbl := by decide +kernel
set_option maxRecDepth 100000 in
theorem tb_ook : (∀ q ∈ tb_oT, tb_tw (q.2.2.2) = some (Cond.methodLink (tb_cn q.1) q.2.1 Lib.objectInit)) ∧ Cond.instanceMethod Lib.objectInit ∈ lw_tbl ∧ Cond.code Lib.objectInit ⟨#[0xb1]⟩ 1 none ∈ lw_tbl := by decide +kernel
set_option maxRecDepth 100000 in
theorem tb_ac : Cond.arrayClass .int ∈ lw_tbl ∧ Cond.arrayClass .boolean ∈ lw_tbl ∧ Cond.arrayClass .byte ∈ lw_tbl ∧ Cond.arrayOver (.array .int) ∈ lw_tbl ∧ Cond.classLink RX3 9 "[[I" ∈ lw_tbl := by decide +kernel
/-- what a row of the calls' table says: kinds 0 virtual, 1 static of the class itself, 2 static of a nest mate, 3 a constructor, 4 a nest mate's -/
def tb_mokB (q : Nat × Nat × (Nat × tb_MD) × List Nat) : Bool :=
  let k := q.2.2.1.1
  let y := q.2.2.1.2
  let ps := q.2.2.2
  decide (tb_tw (ps.getD 0 0) = some (if k = 2 ∨ k = 4 then Cond.methodLinkNest (tb_cn q.1) q.2.1 y.2.1 RX7 else Cond.methodLink (tb_cn q.1) q.2.1 y.2.1))
  && decide (tb_tw (ps.getD 1 0) = some (if k = 1 ∨ k = 2 then Cond.static y.2.1 else Cond.instanceMethod y.2.1))
  && (decide (tb_tw (ps.getD 2 0) = some (Cond.selects y.2.1.cls y.2.1 y.2.1)) || decide (k ≠ 0))
  && decide (tb_tw (ps.getD 3 0) = some (Cond.initialized y.2.1.cls))
  && decide (tb_tw (ps.getD 4 0) = some (Cond.code y.2.1 y.2.2.1 y.2.2.2.1 y.2.2.2.2.1))
  && decide (y.2.1.cls = tb_cn y.1) && decide (k < 5) && decide (k = 1 → y.1 = q.1) && decide (y.1 < 9)
  && decide (y.2.1.cls ≠ "java/lang/invoke/MethodHandle" ∧ y.2.1.cls ≠ "java/lang/invoke/VarHandle" ∧ (parseMethodDescriptor y.2.1.desc).map (fun d => d.parameters.length) = some y.2.2.2.2.2)
  && plainName y.2.1.cls && decide (y.2.2.2.1 ≤ 21) && decide ((k = 3 ∨ k = 4) → y.2.1.name = "<init>" ∧ y.2.2.2.2.1 = none)
set_option maxRecDepth 100000 in
theorem tb_inst : ∀ c, c < 9 → ∃ n, Cond.instantiable (tb_vc c).1 n ∈ lw_tbl := by
  intro c hc
  have h : ∀ c, c < 9 → ∃ q ∈ tb_nT, q.2.2.1 = c := by decide +kernel
  obtain ⟨q, hq, rfl⟩ := h c hc
  have h2 := (tb_nok q hq).2.1
  exact ⟨_, by rw [(tb_vcl _ hc).2]; exact tb_tw_in h2⟩
end
section
/-! Part 06: what the rows of the calls hold, decided in small pieces -/
set_option maxRecDepth 100000 in
theorem tb_mok0 : ∀ q ∈ tb_mT0, tb_mokB q = true := by decide +kernel
set_option maxRecDepth 100000 in
theorem tb_mok1 : ∀ q ∈ tb_mT1, tb_mokB q = true := by decide +kernel
set_option maxRecDepth 100000 in
theorem tb_mok2 : ∀ q ∈ tb_mT2, tb_mokB q = true := by decide +kernel
set_option maxRecDepth 100000 in
theorem tb_mok3 : ∀ q ∈ tb_mT3, tb_mokB q = true := by decide +kernel
set_option maxRecDepth 100000 in
theorem tb_mok4 : ∀ q ∈ tb_mT4, tb_mokB q = true := by decide +kernel
set_option maxRecDepth 100000 in
theorem tb_mok5 : ∀ q ∈ tb_mT5, tb_mokB q = true := by decide +kernel
set_option maxRecDepth 100000 in
theorem tb_mok6 : ∀ q ∈ tb_mT6, tb_mokB q = true := by decide +kernel
set_option maxRecDepth 100000 in
theorem tb_mok7 : ∀ q ∈ tb_mT7, tb_mokB q = true := by decide +kernel
set_option maxRecDepth 100000 in
theorem tb_mok8 : ∀ q ∈ tb_mT8, tb_mokB q = true := by decide +kernel
set_option maxRecDepth 100000 in
theorem tb_mok9 : ∀ q ∈ tb_mT9, tb_mokB q = true := by decide +kernel
set_option maxRecDepth 100000 in
theorem tb_mok10 : ∀ q ∈ tb_mT10, tb_mokB q = true := by decide +kernel
set_option maxRecDepth 100000 in
theorem tb_mok11 : ∀ q ∈ tb_mT11, tb_mokB q = true := by decide +kernel
set_option maxRecDepth 100000 in
theorem tb_mok12 : ∀ q ∈ tb_mT12, tb_mokB q = true := by decide +kernel
set_option maxRecDepth 100000 in
theorem tb_mok13 : ∀ q ∈ tb_mT13, tb_mokB q = true := by decide +kernel
set_option maxRecDepth 100000 in
theorem tb_mok14 : ∀ q ∈ tb_mT14, tb_mokB q = true := by decide +kernel
set_option maxRecDepth 100000 in
theorem tb_mok15 : ∀ q ∈ tb_mT15, tb_mokB q = true := by decide +kernel
set_option maxRecDepth 100000 in
theorem tb_mok16 : ∀ q ∈ tb_mT16, tb_mokB q = true := by decide +kernel
set_option maxRecDepth 100000 in
theorem tb_mok17 : ∀ q ∈ tb_mT17, tb_mokB q = true := by decide +kernel
set_option maxRecDepth 100000 in
theorem tb_mok18 : ∀ q ∈ tb_mT18, tb_mokB q = true := by decide +kernel
set_option maxRecDepth 100000 in
theorem tb_mok19 : ∀ q ∈ tb_mT19, tb_mokB q = true := by decide +kernel
set_option maxRecDepth 100000 in
theorem tb_mok20 : ∀ q ∈ tb_mT20, tb_mokB q = true := by decide +kernel
set_option maxRecDepth 100000 in
theorem tb_mok21 : ∀ q ∈ tb_mT21, tb_mokB q = true := by decide +kernel
set_option maxRecDepth 100000 in
theorem tb_mok22 : ∀ q ∈ tb_mT22, tb_mokB q = true := by decide +kernel
set_option maxRecDepth 100000 in
theorem tb_mok23 : ∀ q ∈ tb_mT23, tb_mokB q = true := by decide +kernel
theorem tb_mok : ∀ q ∈ tb_mT, tb_mokB q = true := by
  unfold tb_mT
  exact List.forall_mem_append.mpr ⟨tb_mok0, List.forall_mem_append.mpr ⟨tb_mok1, List.forall_mem_append.mpr ⟨tb_mok2, List.forall_mem_append.mpr ⟨tb_mok3, List.forall_mem_append.mpr ⟨tb_mok4, List.forall_mem_append.mpr ⟨tb_mok5, List.forall_mem_append.mpr ⟨tb_mok6, List.forall_mem_append.mpr ⟨tb_mok7, List.forall_mem_append.mpr ⟨tb_mok8, List.forall_mem_append.mpr ⟨tb_mok9, List.forall_mem_append.mpr ⟨tb_mok10, List.forall_mem_append.mpr ⟨tb_mok11, List.forall_mem_append.mpr ⟨tb_mok12, List.forall_mem_append.mpr ⟨tb_mok13, List.forall_mem_append.mpr ⟨tb_mok14, List.forall_mem_append.mpr ⟨tb_mok15, List.forall_mem_append.mpr ⟨tb_mok16, List.forall_mem_append.mpr ⟨tb_mok17, List.forall_mem_append.mpr ⟨tb_mok18, List.forall_mem_append.mpr ⟨tb_mok19, List.forall_mem_append.mpr ⟨tb_mok20, List.forall_mem_append.mpr ⟨tb_mok21, List.forall_mem_append.mpr ⟨tb_mok22, tb_mok23⟩⟩⟩⟩⟩⟩⟩⟩⟩⟩⟩⟩⟩⟩⟩⟩⟩⟩⟩⟩⟩⟩⟩
end
section
/-! Part 10: an abstract machine for the claim's bytecode. A memory is a shape (of each place: its kind, and the places
that it refers to) and a function from place and index to int. Kinds: below 50 an object of that class in vwCl;
50, 51, 52: arrays of int, boolean, byte (their length is the shape's head); 53: an array of int arrays; 54: the law's script
(its length is the int at index 2560). -/
/-- a local that nothing is known of -/
def tb_jk : Value := .float 0
def tb_isJ : Value → Bool
  | .float _ => true
  | _ => false
/-- a reference by its number in the shape: 0 is null -/
def tb_rv : Nat → Value
  | 0 => .null
  | k + 1 => .ref k
def tb_up (S : tb_St) (k j : Nat) (v : Int32) : tb_St := fun q => if q = k then upd (S k) j v else S q
def tb_zr (S : tb_St) (k : Nat) : tb_St := fun q => if q = k then fun _ => 0 else S q
/-- an index into n places -/
def tb_ix (i : Int32) (n : Nat) : Option Nat := if i < 0 ∨ n ≤ i.toNatClampNeg then none else some i.toNatClampNeg
def tb_tg (pc : Nat) (off : Int) : Nat := ((pc : Int) + off).toNat
/-- how many slots a place takes -/
def tb_sz1 (t : Nat × List Nat) : Nat := if 50 ≤ t.1 ∧ t.1 ≤ 52 then t.2.headD 0 else if t.1 = 54 then 0 else t.2.length
def tb_cl (M : tb_MM) : Nat := M.1.length
def tb_sl (M : tb_MM) : Nat := (M.1.map tb_sz1).sum
def tb_nx (g : Bool) (pc : Nat) (ls st : List Value) (M : tb_MM) : Option (tb_XS ⊕ tb_XR) := if g = true then some (.inl (pc, ls, st, M)) else none
def tb_kind (t : ArrayType) : Option Nat := match t with
  | .int => some 50
  | .boolean => some 51
  | .byte => some 52
  | _ => none
def tb_cat (v : Value) : Nat := v.category
/-- what an instruction does; 'call' is what a method called answers -/
def tb_sti (call : tb_MD → List Value → tb_MM → Option tb_XR) (y : tb_MD) (i : Jvm.ClassFile.Instr) (n pc : Nat) (ls st : List Value) (M : tb_MM) : Option (tb_XS ⊕ tb_XR) :=
  match i with
  | .iconst v => tb_nx (n == 1) (pc + 1) ls (.int (Int32.ofInt v) :: st) M
  | .bipush v => tb_nx (n == 2) (pc + 2) ls (.int (Int8.ofInt v).toInt32 :: st) M
  | .sipush v => tb_nx (n == 3) (pc + 3) ls (.int (Int16.ofInt v).toInt32 :: st) M
  | .ldc k => match tb_look tb_kT y.1 k with
    | some (v, _) => tb_nx (n == 2) (pc + 2) ls (.int v :: st) M
    | none => none
  | .ldc_w k => match tb_look tb_kT y.1 k with
    | some (v, _) => tb_nx (n == 3) (pc + 3) ls (.int v :: st) M
    | none => none
  | .ldc2_w k => match tb_look tb_lT y.1 k with
    | some (v, _) => tb_nx (n == 3) (pc + 3) ls (.long v :: st) M
    | none => none
  | .iload_n k => match ls[(k : Nat)]? with
    | some (.int x) => tb_nx (n == 1) (pc + 1) ls (.int x :: st) M
    | _ => none
  | .iload k => match ls[k]? with
    | some (.int x) => tb_nx (n == 2) (pc + 2) ls (.int x :: st) M
    | _ => none
  | .aload_n k => match ls[(k : Nat)]? with
    | some (.ref x) => tb_nx (n == 1) (pc + 1) ls (.ref x :: st) M
    | _ => none
  | .istore_n k => match st with
    | .int x :: st => tb_nx (n == 1 && decide ((k : Nat) < ls.length)) (pc + 1) (ls.set k (.int x)) st M
    | _ => none
  | .istore k => match st with
    | .int x :: st => tb_nx (n == 2 && decide (k < ls.length)) (pc + 2) (ls.set k (.int x)) st M
    | _ => none
  | .astore_n k => match st with
    | .ref x :: st => tb_nx (n == 1 && decide ((k : Nat) < ls.length)) (pc + 1) (ls.set k (.ref x)) st M
    | _ => none
  | .iinc k v => match ls[k]? with
    | some (.int x) => tb_nx (n == 3) (pc + 3) (ls.set k (.int (x + Int32.ofInt v))) st M
    | _ => none
  | .dup => match st with
    | a :: st => tb_nx (n == 1 && tb_cat a == 1) (pc + 1) ls (a :: a :: st) M
    | _ => none
  | .dup_x1 => match st with
    | a :: b :: st => tb_nx (n == 1 && tb_cat a == 1 && tb_cat b == 1) (pc + 1) ls (a :: b :: a :: st) M
    | _ => none
  | .iadd => match st with
    | .int b :: .int a :: st => tb_nx (n == 1) (pc + 1) ls (.int (a + b) :: st) M
    | _ => none
  | .isub => match st with
    | .int b :: .int a :: st => tb_nx (n == 1) (pc + 1) ls (.int (a - b) :: st) M
    | _ => none
  | .imul => match st with
    | .int b :: .int a :: st => tb_nx (n == 1) (pc + 1) ls (.int (a * b) :: st) M
    | _ => none
  | .iand => match st with
    | .int b :: .int a :: st => tb_nx (n == 1) (pc + 1) ls (.int (a &&& b) :: st) M
    | _ => none
  | .idiv => match st with
    | .int b :: .int a :: st => if b = 0 then none else tb_nx (n == 1) (pc + 1) ls (.int (a / b) :: st) M
    | _ => none
  | .irem => match st with
    | .int b :: .int a :: st => if b = 0 then none else tb_nx (n == 1) (pc + 1) ls (.int (a - a / b * b) :: st) M
    | _ => none
  | .i2b => match st with
    | .int a :: st => tb_nx (n == 1) (pc + 1) ls (.int a.toInt8.toInt32 :: st) M
    | _ => none
  | .i2l => match st with
    | .int a :: st => tb_nx (n == 1) (pc + 1) ls (.long a.toInt64 :: st) M
    | _ => none
  | .lcmp => match st with
    | .long b :: .long a :: st => tb_nx (n == 1) (pc + 1) ls (.int (lg_cmp a b) :: st) M
    | _ => none
  | .goto off => tb_nx (n == 3 && decide (0 ≤ (pc : Int) + off)) (tb_tg pc off) ls st M
  | .ifCond k off => match st with
    | .int x :: st =>
      if 0 ≤ (pc : Int) + off then
        match k with
        | .eq => if x = 0 then tb_nx (n == 3) (tb_tg pc off) ls st M else tb_nx (n == 3) (pc + 3) ls st M
        | .ne => if ¬ x = 0 then tb_nx (n == 3) (tb_tg pc off) ls st M else tb_nx (n == 3) (pc + 3) ls st M
        | .lt => if x < 0 then tb_nx (n == 3) (tb_tg pc off) ls st M else tb_nx (n == 3) (pc + 3) ls st M
        | .ge => if 0 ≤ x then tb_nx (n == 3) (tb_tg pc off) ls st M else tb_nx (n == 3) (pc + 3) ls st M
        | .gt => if 0 < x then tb_nx (n == 3) (tb_tg pc off) ls st M else tb_nx (n == 3) (pc + 3) ls st M
        | .le => if x ≤ 0 then tb_nx (n == 3) (tb_tg pc off) ls st M else tb_nx (n == 3) (pc + 3) ls st M
      else none
    | _ => none
  | .if_icmp k off => match st with
    | .int b :: .int a :: st =>
      if 0 ≤ (pc : Int) + off then
        match k with
        | .eq => if a = b then tb_nx (n == 3) (tb_tg pc off) ls st M else tb_nx (n == 3) (pc + 3) ls st M
        | .ne => if ¬ a = b then tb_nx (n == 3) (tb_tg pc off) ls st M else tb_nx (n == 3) (pc + 3) ls st M
        | .lt => if a < b then tb_nx (n == 3) (tb_tg pc off) ls st M else tb_nx (n == 3) (pc + 3) ls st M
        | .ge => if b ≤ a then tb_nx (n == 3) (tb_tg pc off) ls st M else tb_nx (n == 3) (pc + 3) ls st M
        | .gt => if b < a then tb_nx (n == 3) (tb_tg pc off) ls st M else tb_nx (n == 3) (pc + 3) ls st M
        | .le => if a ≤ b then tb_nx (n == 3) (tb_tg pc off) ls st M else tb_nx (n == 3) (pc + 3) ls st M
      else none
    | _ => none
  | .tableswitch d lo hi offs => match st with
    | .int x :: st =>
      if x.toInt < lo ∨ hi < x.toInt then tb_nx (decide (0 ≤ (pc : Int) + d)) (tb_tg pc d) ls st M
      else match offs[(x.toInt - lo).toNat]? with
        | some off => tb_nx (decide (0 ≤ (pc : Int) + off)) (tb_tg pc off) ls st M
        | none => none
    | _ => none
  | .lookupswitch d ps => match st with
    | .int x :: st => tb_nx ((ps.toList.zip (ps.toList.drop 1)).all (fun (a, next) => a.1 < next.1) && decide (0 ≤ (pc : Int) + Op.lookupswitch.offset ps.toList d x.toInt)) (tb_tg pc (Op.lookupswitch.offset ps.toList d x.toInt)) ls st M
    | _ => none
  | .getfield k => match tb_look tb_fT y.1 k with
    | some ((c, f), _) => match st with
      | .ref o :: st => match M.1[o]? with
        | some t => if t.1 = c then tb_nx (n == 3) (pc + 3) ls ((if tb_kd c f = 2 then tb_rv (t.2.getD f 0) else .int (M.2 o f)) :: st) M else none
        | none => none
      | _ => none
    | none => none
  | .putfield k => match tb_look tb_fT y.1 k with
    | some ((c, f), _) => match st with
      | .int v :: .ref o :: st => match M.1[o]? with
        | some t => if t.1 = c ∧ (tb_kd c f = 0 ∨ tb_kd c f = 1 ∧ (v = 0 ∨ v = 1)) then tb_nx (n == 3) (pc + 3) ls st (M.1, tb_up M.2 o f v) else none
        | none => none
      | .ref v :: .ref o :: st => match M.1[o]? with
        | some t => if t.1 = c ∧ tb_kd c f = 2 ∧ f < t.2.length ∧ y.1 = c ∧ y.2.1.name = "<init>" then tb_nx (n == 3) (pc + 3) ls st (M.1.set o (c, t.2.set f (v + 1)), M.2) else none
        | none => none
      | _ => none
    | none => none
  | .iaload => match st with
    | .int i :: .ref o :: st => match M.1[o]? with
      | some t => if t.1 = 50 ∨ t.1 = 54 then (tb_ix i (if t.1 = 50 then t.2.headD 0 else (M.2 o 2560).toNatClampNeg)).bind fun j => tb_nx (n == 1) (pc + 1) ls (.int (M.2 o j) :: st) M else none
      | none => none
    | _ => none
  | .baload => match st with
    | .int i :: .ref o :: st => match M.1[o]? with
      | some t => if t.1 = 51 ∨ t.1 = 52 then (tb_ix i (t.2.headD 0)).bind fun j => tb_nx (n == 1) (pc + 1) ls (.int (M.2 o j) :: st) M else none
      | none => none
    | _ => none
  | .aaload => match st with
    | .int i :: .ref o :: st => match M.1[o]? with
      | some t => if t.1 = 53 then (tb_ix i t.2.length).bind fun j => tb_nx (n == 1) (pc + 1) ls (tb_rv (t.2.getD j 0) :: st) M else none
      | none => none
    | _ => none
  | .iastore => match st with
    | .int v :: .int i :: .ref o :: st => match M.1[o]? with
      | some t => if t.1 = 50 then (tb_ix i (t.2.headD 0)).bind fun j => tb_nx (n == 1) (pc + 1) ls st (M.1, tb_up M.2 o j v) else none
      | none => none
    | _ => none
  | .bastore => match st with
    | .int v :: .int i :: .ref o :: st => match M.1[o]? with
      | some t => if t.1 = 51 ∨ t.1 = 52 then (tb_ix i (t.2.headD 0)).bind fun j => tb_nx (n == 1) (pc + 1) ls st (M.1, tb_up M.2 o j (vp_nar (if t.1 = 51 then .boolean else .byte) v)) else none
      | none => none
    | _ => none
  | .arraylength => match st with
    | .ref o :: st => match M.1[o]? with
      | some t => if t.1 = 54 ∧ Int32.ofNat (M.2 o 2560).toNatClampNeg = M.2 o 2560 then tb_nx (n == 1) (pc + 1) ls (.int (M.2 o 2560) :: st) M else none
      | none => none
    | _ => none
  | .new k => match tb_look tb_nT y.1 k with
    | some (c, _) => tb_nx (n == 3 && decide (0 < M.1.length)) (pc + 3) ls (.ref M.1.length :: st) (M.1 ++ [(c, List.replicate (tb_vc c).2.2 0)], tb_zr M.2 M.1.length)
    | none => none
  | .newarray a => match st with
    | .int v :: st => match tb_kind a with
      | some k => tb_nx (n == 2 && decide (0 < M.1.length) && decide (0 ≤ v) && decide (v ≤ 10000)) (pc + 2) ls (.ref M.1.length :: st) (M.1 ++ [(k, [v.toNatClampNeg])], tb_zr M.2 M.1.length)
      | none => none
    | _ => none
  | .multianewarray k dm => match st with
    | .int b :: .int a :: st =>
      if y.1 = 3 ∧ k = 9 ∧ dm = 2 ∧ n = 4 ∧ a = 4 ∧ b = 70 ∧ 0 < M.1.length then
        some (.inl (pc + 4, ls, .ref M.1.length :: st, (M.1 ++ [(53, [M.1.length + 2, M.1.length + 3, M.1.length + 4, M.1.length + 5]), (50, [70]), (50, [70]), (50, [70]), (50, [70])],
          tb_zr (tb_zr (tb_zr (tb_zr (tb_zr M.2 M.1.length) (M.1.length + 1)) (M.1.length + 2)) (M.1.length + 3)) (M.1.length + 4))))
      else none
    | _ => none
  | .invokevirtual k => match tb_look tb_mT y.1 k with
    | some ((0, z), _) => match st.drop z.2.2.2.2.2 with
      | .ref o :: rest => match M.1[o]? with
        | some t => if t.1 = z.1 ∧ (rest.map tb_cat).sum ≤ 8 ∧ (st.take z.2.2.2.2.2).length = z.2.2.2.2.2 then (call z (.ref o :: (st.take z.2.2.2.2.2).reverse) M).bind fun r => tb_nx (n == 3) (pc + 3) ls (r.1.toList ++ rest) r.2 else none
        | none => none
      | _ => none
    | _ => none
  | .invokestatic k => match tb_look tb_mT y.1 k with
    | some ((c, z), _) => if (c = 1 ∨ c = 2) ∧ ((st.drop z.2.2.2.2.2).map tb_cat).sum ≤ 8 ∧ (st.take z.2.2.2.2.2).length = z.2.2.2.2.2 then (call z (st.take z.2.2.2.2.2).reverse M).bind fun r => tb_nx (n == 3) (pc + 3) ls (r.1.toList ++ st.drop z.2.2.2.2.2) r.2 else none
    | none => match tb_look tb_xT y.1 k with
      | some (w, _) => match st with
        | .int b :: .int a :: st => if (st.map tb_cat).sum ≤ 8 then tb_nx (n == 3) (pc + 3) ls (.int (if w = 0 then (if a < b then b else a) else (if b < a then b else a)) :: st) M else none
        | _ => none
      | none => none
  | .invokespecial k => match tb_look tb_mT y.1 k with
    | some ((c, z), _) => match st.drop z.2.2.2.2.2 with
      | .ref o :: rest => if (c = 3 ∨ c = 4) ∧ (rest.map tb_cat).sum ≤ 8 ∧ (st.take z.2.2.2.2.2).length = z.2.2.2.2.2 then (call z (.ref o :: (st.take z.2.2.2.2.2).reverse) M).bind fun r => tb_nx (n == 3) (pc + 3) ls (r.1.toList ++ rest) r.2 else none
      | _ => none
    | none => match tb_look tb_oT y.1 k with
      | some _ => match st with
        | .ref _ :: st => if (st.map tb_cat).sum ≤ 8 then tb_nx (n == 3) (pc + 3) ls st M else none
        | _ => none
      | none => none
  | .ireturn => match st with
    | [.int v] => if n = 1 ∧ (y.2.2.2.2.1 = some .int ∨ y.2.2.2.2.1 = some .boolean ∧ (v = 0 ∨ v = 1)) then some (.inr (some (.int v), M)) else none
    | _ => none
  | .lreturn => match st with
    | [.long v] => if n = 1 ∧ y.2.2.2.2.1 = some .long then some (.inr (some (.long v), M)) else none
    | _ => none
  | .return_ => match st with
    | [] => if n = 1 ∧ y.2.2.2.2.1 = none then some (.inr (none, M)) else none
    | _ => none
  | _ => none
/-- no step takes cells away -/
def tb_mono (M : tb_MM) (r : tb_XS ⊕ tb_XR) : Bool := match r with
  | .inl x => decide (tb_cl M ≤ tb_cl x.2.2.2 ∧ tb_sl M ≤ tb_sl x.2.2.2)
  | .inr x => decide (tb_cl M ≤ tb_cl x.2 ∧ tb_sl M ≤ tb_sl x.2)
def tb_stp (call : tb_MD → List Value → tb_MM → Option tb_XR) (y : tb_MD) (x : tb_XS) : Option (tb_XS ⊕ tb_XR) :=
  match decode y.2.2.1 x.1 with
  | .ok (i, n) => (tb_sti call y i n x.1 x.2.1 x.2.2.1 x.2.2.2).bind fun r => if tb_mono x.2.2.2 r = true then some r else none
  | .error _ => none
def tb_exec (call : tb_MD → List Value → tb_MM → Option tb_XR) (y : tb_MD) : Nat → tb_XS → Option tb_XR
  | 0, _ => none
  | f + 1, x => match tb_stp call y x with
    | some (.inl x') => tb_exec call y f x'
    | some (.inr r) => some r
    | none => none
noncomputable def tb_ex (call : tb_MD → List Value → tb_MM → Option tb_XR) (y : tb_MD) (x : tb_XS) : Option tb_XR := by
  classical exact if h : ∃ f, (tb_exec call y f x).isSome = true then tb_exec call y (Classical.choose h) x else none
/-- a method's run, calls at most d deep -/
noncomputable def tb_rn : Nat → tb_MD → List Value → tb_MM → Option tb_XR
  | 0, _, _, _ => none
  | d + 1, y, as, M => if as.length ≤ y.2.2.2.1 ∧ (as.all fun v => tb_cat v == 1 && !tb_isJ v) = true then tb_ex (tb_rn d) y (0, as ++ List.replicate (y.2.2.2.1 - as.length) tb_jk, [], M) else none
theorem tb_exec_mono {call : tb_MD → List Value → tb_MM → Option tb_XR} {y : tb_MD} : ∀ (f : Nat) (x : tb_XS) (r : tb_XR), tb_exec call y f x = some r → ∀ g, f ≤ g → tb_exec call y g x = some r := by
  intro f
  induction f with
  | zero => intro x r h; cases h
  | succ f ih =>
    intro x r h g hg
    obtain ⟨g', rfl⟩ : ∃ g', g = g' + 1 := ⟨g - 1, by omega⟩
    unfold tb_exec at h ⊢
    cases hs : tb_stp call y x with
    | none => rw [hs] at h; cases h
    | some q =>
      rw [hs] at h
      cases q with
      | inl x' => exact ih x' r h g' (by omega)
      | inr r' => exact h
theorem tb_ex_some {call : tb_MD → List Value → tb_MM → Option tb_XR} {y : tb_MD} {x : tb_XS} {r : tb_XR} : tb_ex call y x = some r ↔ ∃ f, tb_exec call y f x = some r := by
  unfold tb_ex
  constructor
  · intro h
    split at h
    · exact ⟨_, h⟩
    · cases h
  · rintro ⟨f, hf⟩
    have hE : ∃ f, (tb_exec call y f x).isSome = true := ⟨f, by rw [hf]; rfl⟩
    rw [dif_pos hE]
    have hc := Classical.choose_spec hE
    generalize Classical.choose hE = g at hc
    obtain ⟨r', hr'⟩ := Option.isSome_iff_exists.mp hc
    rw [hr']
    have h1 := tb_exec_mono _ _ _ hf (max f g) (Nat.le_max_left _ _)
    have h2 := tb_exec_mono _ _ _ hr' (max f g) (Nat.le_max_right _ _)
    rw [← h1, ← h2]
theorem tb_ex_step {call : tb_MD → List Value → tb_MM → Option tb_XR} {y : tb_MD} {x x' : tb_XS} {r : tb_XR} (h : tb_stp call y x = some (.inl x')) (k : tb_ex call y x' = some r) : tb_ex call y x = some r := by
  obtain ⟨f, hf⟩ := tb_ex_some.mp k
  refine tb_ex_some.mpr ⟨f + 1, ?_⟩
  unfold tb_exec
  rw [h]
  exact hf
theorem tb_ex_ret {call : tb_MD → List Value → tb_MM → Option tb_XR} {y : tb_MD} {x : tb_XS} {r : tb_XR} (h : tb_stp call y x = some (.inr r)) : tb_ex call y x = some r := by
  refine tb_ex_some.mpr ⟨1, ?_⟩
  unfold tb_exec
  rw [h]
end
section
/-! Part 11: the abstract machine's memory in the heap. Place 0 is the script, at b, below sz; place k + 1 is at sz + k. -/
def tb_ad (b sz : Nat) : Nat → Nat
  | 0 => b
  | k + 1 => sz + k
def tb_cv (b sz : Nat) : Value → Value
  | .ref k => .ref (tb_ad b sz k)
  | v => v
theorem tb_cv_cat (b sz : Nat) (v : Value) : (tb_cv b sz v).category = tb_cat v := by cases v <;> rfl
def tb_ro (b sz : Nat) : Nat → Option Nat
  | 0 => none
  | k + 1 => some (tb_ad b sz k)
theorem tb_ro_rv (b sz r : Nat) : va_rf (tb_ro b sz r) = tb_cv b sz (tb_rv r) := by cases r <;> rfl
/-- the locals -/
def tb_asc (b sz : Nat) (ls : List Value) : List (Nat × Value) := (List.range ls.length).filterMap fun j => (ls[j]?).bind fun v => if tb_isJ v = true then none else some (j, tb_cv b sz v)
def tb_LR (b sz nL : Nat) (ls : List Value) (arr : Array Slot) : Prop := ls.length = nL ∧ lv_has arr nL (tb_asc b sz ls) ∧ ∀ v ∈ ls, tb_cat v = 1
theorem tb_asc_mem {b sz : Nat} {ls : List Value} {j : Nat} {w : Value} : (j, w) ∈ tb_asc b sz ls ↔ ∃ v, ls[j]? = some v ∧ tb_isJ v = false ∧ w = tb_cv b sz v := by
  unfold tb_asc
  rw [List.mem_filterMap]
  constructor
  · rintro ⟨i, -, hi⟩
    rw [Option.bind_eq_some_iff] at hi
    obtain ⟨v, h1, h2⟩ := hi
    cases hj : tb_isJ v with
    | true => rw [hj, if_pos rfl] at h2; cases h2
    | false =>
      rw [hj, if_neg (by decide)] at h2
      cases h2
      exact ⟨v, h1, hj, rfl⟩
  · rintro ⟨v, h1, h2, rfl⟩
    refine ⟨j, List.mem_range.mpr (List.getElem?_eq_some_iff.mp h1).1, ?_⟩
    rw [h1]
    show (if tb_isJ v = true then none else some (j, tb_cv b sz v)) = _
    rw [h2, if_neg (by decide)]
theorem tb_LR.get {b sz nL : Nat} {ls : List Value} {arr : Array Slot} (h : tb_LR b sz nL ls arr) {i : Nat} {v : Value} (hv : ls[i]? = some v) (hj : tb_isJ v = false) : arr[i]? = some (.val (tb_cv b sz v)) := h.2.1.2.2 (i, tb_cv b sz v) (tb_asc_mem.mpr ⟨v, hv, hj, rfl⟩)
theorem tb_LR.at {b sz nL : Nat} {ls : List Value} {arr : Array Slot} (_ : tb_LR b sz nL ls arr) {i : Nat} {v : Value} (hv : ls[i]? = some v) (hj : tb_isJ v = false) : ∃ k : Nat, (tb_asc b sz ls)[k]? = some (i, tb_cv b sz v) := by
  obtain ⟨k, hk⟩ := List.getElem?_of_mem (tb_asc_mem.mpr ⟨v, hv, hj, rfl⟩)
  exact ⟨k, hk⟩
theorem tb_LR.put {b sz nL : Nat} {ls : List Value} {arr arr' : Array Slot} (h : tb_LR b sz nL ls arr) {i : Nat} {v : Value} (hc : tb_cat v = 1) (h' : lv_has arr' nL ((i, tb_cv b sz v) :: (tb_asc b sz ls).filter (fun q => !(q.1 == i) && !(q.1 + 1 == i && q.2.category == 2)))) : tb_LR b sz nL (ls.set i v) arr' := by
  refine ⟨by rw [List.length_set]; exact h.1, ⟨h'.1, h'.2.1, fun q hq => h'.2.2 q ?_⟩, fun w hw => ?_⟩
  · obtain ⟨j, w⟩ := q
    obtain ⟨u, h1, h2, rfl⟩ := tb_asc_mem.mp hq
    by_cases hji : i = j
    · subst hji
      rw [List.getElem?_set_self' ] at h1
      cases hl : ls[i]? with
      | none => rw [hl] at h1; cases h1
      | some u' =>
        rw [hl] at h1
        cases h1
        exact List.mem_cons_self
    · rw [List.getElem?_set_ne hji] at h1
      refine List.mem_cons_of_mem _ (List.mem_filter.mpr ⟨tb_asc_mem.mpr ⟨u, h1, h2, rfl⟩, ?_⟩)
      have hcu : tb_cat u = 1 := h.2.2 u (List.mem_of_getElem? h1)
      have hne : ¬ j = i := fun q => hji q.symm
      simp [tb_cv_cat, hcu, hne]
  · rcases List.mem_or_eq_of_mem_set hw with hw | rfl
    · exact h.2.2 w hw
    · exact hc
/-- an object's fields -/
def tb_fs (c : Nat) (rs : List Nat) (b sz : Nat) (G : Nat → Int32) : List Value := (List.range rs.length).map fun j => if tb_kd c j = 2 then tb_cv b sz (tb_rv (rs.getD j 0)) else .int (G j)
def tb_at (D : va_G) (U : State) (b sz k : Nat) (t : Nat × List Nat) (G : Nat → Int32) (H : Heap) : Prop :=
  if t.1 = 50 then ∃ cA, ArrOfT U cA .int ∧ H[tb_ad b sz k]? = some (vp_cell cA (t.2.headD 0, .inl G))
  else if t.1 = 51 then ∃ cA, ArrOfT U cA .boolean ∧ H[tb_ad b sz k]? = some (vp_cell cA (t.2.headD 0, .inl G))
  else if t.1 = 52 then ∃ cA, ArrOfT U cA .byte ∧ H[tb_ad b sz k]? = some (vp_cell cA (t.2.headD 0, .inl G))
  else if t.1 = 53 then ∃ cA, ArrOfT U cA (.array .int) ∧ H[tb_ad b sz k]? = some (vp_cell cA (t.2.length, .inr (.inr (.inr (.inr (fun j => tb_ro b sz (t.2.getD j 0)))))))
  else if t.1 = 54 then va_X (tb_ad b sz k) (G 2560).toNatClampNeg G U H
  else va_at D vwCl (tb_ad b sz k, .inr (t.1, tb_fs t.1 t.2 b sz G)) H ∧ t.1 < 9 ∧ t.2.length = (tb_vc t.1).2.2
def tb_Hp (D : va_G) (b sz : Nat) (M : tb_MM) (U : State) (H : Heap) : Prop := b < sz ∧ 0 < M.1.length ∧ H.size + 1 = sz + M.1.length ∧ ∀ (k : Nat) (t : Nat × List Nat), M.1[k]? = some t → tb_at D U b sz k t (M.2 k) H ∧ (k = 0 ↔ t.1 = 54)
theorem tb_at.moved {D : va_G} {u U : State} {b sz k : Nat} {t : Nat × List Nat} {G : Nat → Int32} {H : Heap} (hvm : u.vm.Alike U.vm) (h : tb_at D u b sz k t G H) : tb_at D U b sz k t G H := by
  unfold tb_at at h ⊢
  split
  · rename_i q; rw [if_pos q] at h; obtain ⟨cA, h1, h2⟩ := h; exact ⟨cA, arrOfT_moved hvm h1, h2⟩
  rename_i q; rw [if_neg q] at h
  split
  · rename_i q; rw [if_pos q] at h; obtain ⟨cA, h1, h2⟩ := h; exact ⟨cA, arrOfT_moved hvm h1, h2⟩
  rename_i q; rw [if_neg q] at h
  split
  · rename_i q; rw [if_pos q] at h; obtain ⟨cA, h1, h2⟩ := h; exact ⟨cA, arrOfT_moved hvm h1, h2⟩
  rename_i q; rw [if_neg q] at h
  split
  · rename_i q; rw [if_pos q] at h; obtain ⟨cA, h1, h2⟩ := h; exact ⟨cA, arrOfT_moved hvm h1, h2⟩
  rename_i q; rw [if_neg q] at h
  split
  · rename_i q; rw [if_pos q] at h; exact h.moved hvm
  rename_i q; rw [if_neg q] at h
  exact h
theorem tb_Hp.moved {D : va_G} {u U : State} {b sz : Nat} {M : tb_MM} {H : Heap} (hvm : u.vm.Alike U.vm) (h : tb_Hp D b sz M u H) : tb_Hp D b sz M U H := ⟨h.1, h.2.1, h.2.2.1, fun k t hk => ⟨(h.2.2.2 k t hk).1.moved hvm, (h.2.2.2 k t hk).2⟩⟩
theorem tb_at.kept {D : va_G} {U : State} {b sz k : Nat} {t : Nat × List Nat} {G : Nat → Int32} {H H1 : Heap} (h : tb_at D U b sz k t G H) (hq : H1[tb_ad b sz k]? = H[tb_ad b sz k]?) : tb_at D U b sz k t G H1 := by
  unfold tb_at at h ⊢
  rw [hq]
  split
  · rename_i q; rw [if_pos q] at h; exact h
  rename_i q; rw [if_neg q] at h
  split
  · rename_i q; rw [if_pos q] at h; exact h
  rename_i q; rw [if_neg q] at h
  split
  · rename_i q; rw [if_pos q] at h; exact h
  rename_i q; rw [if_neg q] at h
  split
  · rename_i q; rw [if_pos q] at h; exact h
  rename_i q; rw [if_neg q] at h
  split
  · rename_i q; rw [if_pos q] at h; exact h.kept hq
  rename_i q; rw [if_neg q] at h
  exact ⟨h.1.kept hq, h.2⟩
theorem tb_ad_ne {b sz k j : Nat} (hb : b < sz) (h : k ≠ j) : tb_ad b sz k ≠ tb_ad b sz j := by
  cases k <;> cases j <;> simp only [tb_ad] <;> omega
theorem tb_ad_ge {b sz k : Nat} (h : k ≠ 0) : sz ≤ tb_ad b sz k := by
  cases k with
  | zero => exact absurd rfl h
  | succ k => exact Nat.le_add_right _ _
theorem tb_ad_len {b sz : Nat} {M : tb_MM} {H : Heap} {D : va_G} {U : State} (h : tb_Hp D b sz M U H) : H.size = tb_ad b sz M.1.length := by
  obtain ⟨-, h1, h2, -⟩ := h
  cases hl : M.1.length with
  | zero => omega
  | succ k => rw [hl] at h2; simp only [tb_ad]; omega
theorem tb_ad_lt {b sz k : Nat} {M : tb_MM} {H : Heap} {D : va_G} {U : State} (h : tb_Hp D b sz M U H) (hk : k < M.1.length) : tb_ad b sz k < H.size := by
  obtain ⟨h0, h1, h2, -⟩ := h
  cases k with
  | zero => simp only [tb_ad]; omega
  | succ k => simp only [tb_ad]; omega
/-- a place written -/
theorem tb_Hp.set {D : va_G} {U : State} {b sz k : Nat} {M : tb_MM} {H H1 : Heap} {t t' : Nat × List Nat} {S' : tb_St} (h : tb_Hp D b sz M U H) (hk : M.1[k]? = some t) (hz : H1.size = H.size) (ho : ∀ q, q ≠ tb_ad b sz k → H1[q]? = H[q]?) (hn : tb_at D U b sz k t' (S' k) H1) (h5 : t'.1 = t.1) (hS : ∀ j, j ≠ k → S' j = M.2 j) : tb_Hp D b sz (M.1.set k t', S') U H1 := by
  obtain ⟨a1, a2, a3, a4⟩ := h
  refine ⟨a1, by simpa using a2, by simpa [hz] using a3, fun j u hj => ?_⟩
  have hj : (M.1.set k t')[j]? = some u := hj
  show tb_at D U b sz j u (S' j) H1 ∧ _
  by_cases e : k = j
  · subst e
    rw [List.getElem?_set_self', hk] at hj
    cases hj
    refine ⟨hn, ?_⟩
    show k = 0 ↔ t'.1 = 54
    rw [h5]
    exact (a4 k t hk).2
  · rw [List.getElem?_set_ne e] at hj
    rw [hS j (fun q => e q.symm)]
    exact ⟨(a4 j u hj).1.kept (ho _ (tb_ad_ne a1 (fun q => e q.symm))), (a4 j u hj).2⟩
theorem tb_set_self {α : Type} {l : List α} {k : Nat} {t : α} (h : l[k]? = some t) : l.set k t = l := by
  apply List.ext_getElem?
  intro j
  by_cases e : k = j
  · subst e
    rw [List.getElem?_set_self', h]
    rfl
  · rw [List.getElem?_set_ne e]
/-- a place that comes -/
theorem tb_Hp.push {D : va_G} {U : State} {b sz : Nat} {M : tb_MM} {H H1 : Heap} {t' : Nat × List Nat} {S' : tb_St} (h : tb_Hp D b sz M U H) (hz : H1.size = H.size + 1) (ho : ∀ q, q < H.size → H1[q]? = H[q]?) (hn : tb_at D U b sz M.1.length t' (S' M.1.length) H1) (h5 : t'.1 ≠ 54) (hS : ∀ j, j ≠ M.1.length → S' j = M.2 j) : tb_Hp D b sz (M.1 ++ [t'], S') U H1 := by
  have hh := h
  obtain ⟨a1, a2, a3, a4⟩ := h
  refine ⟨a1, by simp, by simp [hz]; omega, fun j u hj => ?_⟩
  have hj : (M.1 ++ [t'])[j]? = some u := hj
  show tb_at D U b sz j u (S' j) H1 ∧ _
  by_cases e : j < M.1.length
  · rw [List.getElem?_append_left e] at hj
    rw [hS j (by omega)]
    exact ⟨(a4 j u hj).1.kept (ho _ (tb_ad_lt hh e)), (a4 j u hj).2⟩
  · rw [List.getElem?_append_right (by omega)] at hj
    have h0 : j - M.1.length < 1 := (List.getElem?_eq_some_iff.mp hj).1
    have h1 : j = M.1.length := by omega
    rw [show j - M.1.length = 0 by omega] at hj
    cases hj
    subst h1
    exact ⟨hn, ⟨fun q => by omega, fun q => absurd q h5⟩⟩
/-- the words that no list of words may hold: links to nest mates, the class of int[][] -/
def tb_NL (U : State) : Prop := (∀ q ∈ tb_mT, (q.2.2.1.1 = 2 ∨ q.2.2.1.1 = 4) → va_Nw (.methodLinkNest (tb_cn q.1) q.2.1 q.2.2.1.2.2.1 RX7) U) ∧ va_Nw (.arrayOver (.array .int)) U
theorem tb_over {u U : State} (h : u.vm.Alike U.vm) (hZ : va_Nw (.arrayOver (.array .int)) u) : va_Nw (.arrayOver (.array .int)) U := by
  have e := Cond.arrayOver_setVmC (args := #[]) (s := u) (vm' := U.vm) h (.array .int)
  have e2 : (Cond.arrayOver (.array .int)).before #[] (u.setVm U.vm) = (Cond.arrayOver (.array .int)).before #[] U := by simp only [Cond.before, Cond.holds, Cond.value, State.vm_setVm]; rfl
  show (Cond.arrayOver (.array .int)).before #[] U = true
  rw [← e2, e]
  exact hZ
theorem tb_NL.same {u U : State} (h : u.vm = U.vm) (hZ : tb_NL u) : tb_NL U := ⟨fun q hq hk => va_Nw.same rfl h (hZ.1 q hq hk), tb_over (by rw [h]; exact Vm.Alike.refl _) hZ.2⟩
theorem tb_NL.warm {s U : State} (hW : s.WarmedH U.vm) (hZ : tb_NL s) : tb_NL U := ⟨fun q hq hk => va_Nw.warmM hW (hZ.1 q hq hk), tb_over hW.alike hZ.2⟩
/-- a method's start and end -/
def tb_Pc (D : va_G) (b sz : Nat) (as : List Value) (M : tb_MM) : Array Value → State → Prop := fun v U => v = (as.map (tb_cv b sz)).toArray ∧ tb_Hp D b sz M U U.heap ∧ va_K D vwCl [] U ∧ tb_NL U
def tb_Qc (D : va_G) (b sz : Nat) (r : tb_XR) : Array Value → State → Outcome → State → Prop := fun _ st o t => o = .returned (r.1.map (tb_cv b sz)) ∧ tb_Hp D b sz r.2 t t.heap ∧ ∀ q, q < sz → t.heap[q]? = st.heap[q]?
def tb_rm (d mc ms : Nat) : Room := { frames := d, cells := mc, slots := ms, locals := 40 * d }
def tb_ws (y : tb_MD) : List Cond := Cond.code y.2.1 y.2.2.1 y.2.2.2.1 y.2.2.2.2.1 :: tb_gt
/-- what a call may be taken to be -/
def tb_Cok (l : Launch) (D : va_G) (b sz d : Nat) (call : tb_MD → List Value → tb_MM → Option tb_XR) : Prop := ∀ (z : tb_MD) (as : List Value) (M : tb_MM) (r : tb_XR), z.2.1.cls = tb_cn z.1 → plainName z.2.1.cls = true → call z as M = some r →
  Met l z.2.1 (tb_ws z) (tb_rm d (tb_cl r.2 - tb_cl M) (tb_sl r.2 - tb_sl M)) (tb_Pc D b sz as M) (tb_Qc D b sz r) (tb_cl r.2 - tb_cl M) (tb_sl r.2 - tb_sl M) (fun q => sz ≤ q)
theorem tb_blind (D : va_G) (b sz : Nat) (as : List Value) (M : tb_MM) : FrameBlind (tb_Pc D b sz as M) := fun a U g mk h => ⟨h.1, h.2.1.moved (u := U) (U := U.calling g mk a) (Vm.Alike.refl U.vm), va_K.moved (u := U) (U := U.calling g mk a) (Vm.Alike.refl U.vm) h.2.2.1, h.2.2.2.same rfl⟩
end
section
/-! Part 12: a step of the abstract machine is a step of the machine -/
section Step
variable {p : Program} {l : Launch} {e : Env} {R : Room} {s : State} {m : MethodId} {args : Array Value} {below : List Frame} {meth : Method} {c : Code} {Q : State → Prop} {D : va_G} {b sz c0 s0 d : Nat} {y : tb_MD} {call : tb_MD → List Value → tb_MM → Option tb_XR}
/-- what stands at every point of a method's run -/
def tb_Cx (p : Program) (l : Launch) (R : Room) (s : State) (m : MethodId) (args : Array Value) (meth : Method) (c : Code) (D : va_G) (b sz d : Nat) (y : tb_MD) (call : tb_MD → List Value → tb_MM → Option tb_XR) : Prop :=
  p.tables.exec = Jvm.exec ∧ c.code = y.2.2.1 ∧ c.maxLocals = y.2.2.2.1 ∧ s.vm.findClass (tb_cn y.1) = some m.cls ∧ (∀ w ∈ tb_gt, w.before args s = true) ∧ va_K D vwCl [] s ∧ (y.2.1.name = "<init>" → meth.name = "<init>") ∧ (d + 1 ≤ R.frames ∧ 40 * (d + 1) ≤ R.locals) ∧ tb_Cok l D b sz d call ∧ tb_NL s
def tb_WA (p : Program) (l : Launch) (e : Env) (R : Room) (s : State) (m : MethodId) (args : Array Value) (below : List Frame) (meth : Method) (c : Code) (Q : State → Prop) (D : va_G) (b sz c0 s0 : Nat) (y : tb_MD) (pc : Nat) (ls st : List Value) (M : tb_MM) : Prop :=
  ∀ (arr : Array Slot) (H : Heap) (locs : List Loc) (cells slots : Nat), tb_LR b sz y.2.2.2.1 ls arr → tb_Hp D b sz M s H → (∀ q ∈ locs, sz ≤ q.base) → (∀ q, q < sz → H[q]? = s.heap[q]?) → cells + c0 = tb_cl M → slots + s0 = tb_sl M → W p l e R s m args below meth c H locs cells slots Q (F0 m pc arr (st.map (tb_cv b sz)))
theorem tb_nx_some {g : Bool} {pc : Nat} {ls st : List Value} {M : tb_MM} {x' : tb_XS} (h : tb_nx g pc ls st M = some (.inl x')) : g = true ∧ x' = (pc, ls, st, M) := by
  unfold tb_nx at h
  split at h
  · rename_i hg
    cases h
    exact ⟨hg, rfl⟩
  · cases h
theorem tb_ix_some {i : Int32} {n j : Nat} (h : tb_ix i n = some j) : vp_in i n ∧ j = i.toNatClampNeg := by
  unfold tb_ix at h
  split at h
  · cases h
  · rename_i q
    cases h
    exact ⟨q, rfl⟩
theorem tb_tg_eq {pc : Nat} {off : Int} (h : 0 ≤ (pc : Int) + off) : (pc : Int) + off = (tb_tg pc off : Int) := by
  unfold tb_tg
  omega
theorem tb_ldc1 (C : tb_Cx p l R s m args meth c D b sz d y call) {k : Nat} {v : Int32} {w : Nat} (h : tb_look tb_kT y.1 k = some (v, w)) : (Cond.constant (tb_cn y.1) k v).before args s = true := by
  have h1 := tb_kok _ (tb_look_in h)
  exact C.2.2.2.2.1 _ (tb_gt_in (tb_tw_in h1) rfl)
theorem tb_fld (C : tb_Cx p l R s m args meth c D b sz d y call) {k ci f w : Nat} (h : tb_look tb_fT y.1 k = some ((ci, f), w)) : (Cond.fieldLink (tb_cn y.1) k (tb_cn ci) ((tb_vc ci).2.1 f).2.1 ((tb_vc ci).2.1 f).2.2.1).before args s = true ∧ ci < 9 ∧ f < (tb_vc ci).2.2 := by
  have h1 := tb_fok _ (tb_look_in h)
  exact ⟨C.2.2.2.2.1 _ (tb_gt_in (tb_tw_in h1.1) rfl), h1.2⟩
theorem tb_obj {M : tb_MM} {H : Heap} {k ci : Nat} {t : Nat × List Nat} (hH : tb_Hp D b sz M s H) (hk : M.1[k]? = some t) (hc : t.1 = ci) (h9 : ci < 9) : va_at D vwCl (tb_ad b sz k, .inr (ci, tb_fs ci t.2 b sz (M.2 k))) H ∧ t.2.length = (tb_vc ci).2.2 ∧ k ≠ 0 := by
  obtain ⟨h1, h2⟩ := hH.2.2.2 k t hk
  subst hc
  unfold tb_at at h1
  rw [if_neg (by omega), if_neg (by omega), if_neg (by omega), if_neg (by omega), if_neg (by omega)] at h1
  exact ⟨h1.1, h1.2.2, fun q => by have := h2.mp q; omega⟩
theorem tb_atP {q : Nat × va_E} {H : Heap} (h : va_at D vwCl q H) : va_P D vwCl [q] H := by
  intro k x hx
  have h0 : k < 1 := (List.getElem?_eq_some_iff.mp hx).1
  rw [show k = 0 by omega] at hx
  cases hx
  exact h
theorem tb_fs_at {ci f : Nat} {rs : List Nat} {G : Nat → Int32} (hf : f < rs.length) : (tb_fs ci rs b sz G)[f]? = some (tb_cv b sz (if tb_kd ci f = 2 then tb_rv (rs.getD f 0) else .int (G f))) := by
  unfold tb_fs
  rw [List.getElem?_map, List.getElem?_range hf]
  show some _ = some _
  congr 1
  dsimp only
  split <;> rfl
theorem tb_getf (C : tb_Cx p l R s m args meth c D b sz d y call) {k ci f w o pc : Nat} {t : Nat × List Nat} {M : tb_MM} {H : Heap} {locs : List Loc} {cells slots : Nat} {arr : Array Slot} {st : List Value} (h : tb_look tb_fT y.1 k = some ((ci, f), w)) (hH : tb_Hp D b sz M s H) (ht : M.1[o]? = some t) (hc : t.1 = ci) (hd : decode y.2.2.1 pc = .ok (.getfield k, 3))
    (kk : W p l e R s m args below meth c H locs cells slots Q (F0 m (pc + 3) arr (tb_cv b sz (if tb_kd ci f = 2 then tb_rv (t.2.getD f 0) else .int (M.2 o f)) :: st))) : W p l e R s m args below meth c H locs cells slots Q (F0 m pc arr (.ref (tb_ad b sz o) :: st)) := by
  obtain ⟨h1, h2, h3⟩ := tb_fld C h
  obtain ⟨g1, g2, g3⟩ := tb_obj hH ht hc h2
  obtain ⟨hx, hb, -, hown, hts, hK, -⟩ := C
  have hcl := (tb_vcl ci h2).1
  exact va_get (C := (tb_vc ci).1) (T := (tb_vc ci).2.1) (N := (tb_vc ci).2.2) (Ts := tb_gt) hx hb hts (fun w hw => tb_gt_in (tb_uws ci h2 w hw).1 (tb_uws ci h2 w hw).2) hown hK (tb_atP g1) 0 rfl hcl f h3 h1 (by rw [(tb_kdok ci h2 f h3).1]; exact fun _ q => q) (tb_fs_at (by rw [g2]; exact h3)) hd kk
theorem tb_fs_up {ci f : Nat} {rs : List Nat} {G : Nat → Int32} {v : Int32} (h : tb_kd ci f ≠ 2) : (tb_fs ci rs b sz G).set f (.int v) = tb_fs ci rs b sz (upd G f v) := by
  unfold tb_fs
  apply List.ext_getElem?
  intro j
  by_cases e : f = j
  · subst e
    rw [List.getElem?_set_self', List.getElem?_map, List.getElem?_map]
    by_cases hl : f < rs.length
    · rw [List.getElem?_range hl]
      simp [h, upd]
    · rw [List.getElem?_eq_none (by simpa using hl)]
      rfl
  · rw [List.getElem?_set_ne e, List.getElem?_map, List.getElem?_map]
    by_cases hl : j < rs.length
    · rw [List.getElem?_range hl]
      have e' : ¬ j = f := fun q => e q.symm
      simp [upd, e']
    · rw [List.getElem?_eq_none (by simpa using hl)]
      rfl
theorem tb_fs_upR {ci f : Nat} {rs : List Nat} {G : Nat → Int32} {v : Nat} (h : tb_kd ci f = 2) (hf : f < rs.length) : (tb_fs ci rs b sz G).set f (tb_cv b sz (.ref v)) = tb_fs ci (rs.set f (v + 1)) b sz G := by
  unfold tb_fs
  apply List.ext_getElem?
  intro j
  rw [List.length_set]
  by_cases e : f = j
  · subst e
    rw [List.getElem?_set_self', List.getElem?_map, List.getElem?_map, List.getElem?_range hf]
    simp [h, hf, tb_rv]
  · rw [List.getElem?_set_ne e, List.getElem?_map, List.getElem?_map]
    by_cases hl : j < rs.length
    · rw [List.getElem?_range hl]
      simp [e]
    · rw [List.getElem?_eq_none (by simpa using hl)]
      rfl
theorem tb_hap (C : tb_Cx p l R s m args meth c D b sz d y call) {ci : Nat} (h9 : ci < 9) : ∀ a x, a < (tb_vc ci).2.2 → x < (tb_vc ci).2.2 → a ≠ x → (D.2 ci) a ≠ (D.2 ci) x := by
  obtain ⟨hx, hb, -, hown, hts, hK, -⟩ := C
  exact va_apart (own := tb_cn y.1) (C := (tb_vc ci).1) (T := (tb_vc ci).2.1) (N := (tb_vc ci).2.2) (Ts := tb_gt) hts (fun w hw => tb_gt_in (tb_uws ci h9 w hw).1 (tb_uws ci h9 w hw).2) (tb_ty ci) (tb_tyok ci h9) (tb_apart ci h9) hK (tb_vcl ci h9).1
theorem tb_putf (C : tb_Cx p l R s m args meth c D b sz d y call) {k ci f w o pc : Nat} {v : Int32} {t : Nat × List Nat} {M : tb_MM} {H : Heap} {locs : List Loc} {cells slots : Nat} {arr : Array Slot} {st : List Value} (h : tb_look tb_fT y.1 k = some ((ci, f), w)) (hH : tb_Hp D b sz M s H) (ht : M.1[o]? = some t) (hc : t.1 = ci) (hv : tb_kd ci f = 0 ∨ tb_kd ci f = 1 ∧ (v = 0 ∨ v = 1)) (hd : decode y.2.2.1 pc = .ok (.putfield k, 3))
    (kk : ∀ (H1 : Heap), tb_Hp D b sz (M.1, tb_up M.2 o f v) s H1 → (∀ q, q < sz → H1[q]? = H[q]?) → W p l e R s m args below meth c H1 (locs ++ [⟨tb_ad b sz o, (D.2 ci) f⟩]) cells slots Q (F0 m (pc + 3) arr st)) : W p l e R s m args below meth c H locs cells slots Q (F0 m pc arr (.int v :: .ref (tb_ad b sz o) :: st)) := by
  obtain ⟨h1, h2, h3⟩ := tb_fld C h
  obtain ⟨g1, g2, g3⟩ := tb_obj hH ht hc h2
  have hap := tb_hap C h2
  obtain ⟨hx, hb, -, hown, hts, hK, -⟩ := C
  have hcl := (tb_vcl ci h2).1
  have hkd := tb_kdok ci h2 f h3
  obtain ⟨r, r1, cell, q1, q2, q3, q4⟩ := g1
  have hr : r = tb_vc ci := Option.some.inj (r1.symm.trans hcl)
  subst hr
  obtain ⟨hS, hfc, kC, hkC, hkind⟩ := hK.1 ci _ hcl
  obtain ⟨cf, kf, fi, fd, hi, hsl⟩ := hS f h3
  have hin : ∀ w ∈ u_ws (tb_vc ci).1 (tb_vc ci).2.1 (tb_vc ci).2.2, w ∈ tb_gt := fun w hw => tb_gt_in (tb_uws ci h2 w hw).1 (tb_uws ci h2 w hw).2
  have hfin : ((tb_vc ci).2.1 f).2.2.2 = false := by rcases hv with q | q; exact (hkd.2.1 q).2; exact (hkd.2.2.1 q.1).2
  have hlay := hts _ (hin _ (u_in_lay h3))
  unfold u_lay at hlay
  rw [if_neg (by rw [hfin]; decide)] at hlay
  have hst := (u_facts hfc hkC (u_lays hts hin h3) hi).1
  have hnf : narrow (tb_ty ci f) (.int v) = .int v ∧ fits (tb_ty ci f) (.int v) = true := by
    rcases hv with q | ⟨q, q'⟩
    · rw [(hkd.2.1 q).1]; exact ⟨rfl, rfl⟩
    · rw [(hkd.2.2.1 q).1]
      rcases q' with rfl | rfl
      · decide +kernel
      · decide +kernel
  have h6 := u_store hfc hkC hkind hlay hi (tb_tyok ci h2 f h3) hnf.1 hnf.2
  have hlink2 : s.fieldFound? (tb_cn ci) ((tb_vc ci).2.1 f).2.1 ((tb_vc ci).2.1 f).2.2.1 = some (cf, kf, fi, fd) := by rw [← hkd.1]; exact hi
  refine W.putK hx hb (f := fd) ⟨hown, h1, ⟨_, _, _, hlink2⟩, hst⟩ (by rw [q2]; exact h6) q1 q3 (by rw [hsl]; exact k2_hasslot (q4 f h3)) rfl rfl hd fun H' e1 e2 e3 => ?_
  rw [hsl] at e1 ⊢
  refine kk H' ?_ (fun q hq => e3 q (fun z => by have := tb_ad_ge (b := b) (sz := sz) g3; have z' : q = tb_ad b sz o := z; omega))
  have hset := tb_Hp.set (t' := t) (S' := tb_up M.2 o f v) hH ht e2 e3 ?_ rfl (fun j hj => by unfold tb_up; rw [if_neg hj])
  · rw [tb_set_self ht] at hset
    exact hset
  · unfold tb_at
    rw [if_neg (by omega), if_neg (by omega), if_neg (by omega), if_neg (by omega), if_neg (by omega)]
    refine ⟨?_, by omega, by rw [hc]; exact g2⟩
    refine ⟨tb_vc ci, by rw [hc]; exact hcl, ?_⟩
    show t_OB (tb_ad b sz o) (D.1 t.1) _ (D.2 t.1) H' (vp_V (tb_fs t.1 t.2 b sz (tb_up M.2 o f v o)))
    rw [show tb_up M.2 o f v o = upd (M.2 o) f v from if_pos rfl, hc, ← tb_fs_up (by rcases hv with q | q <;> omega)]
    refine t_OB.to (V := updV (vp_V (tb_fs ci t.2 b sz (M.2 o))) f (.int v)) ⟨_, e1, q2, q3, t_set q4 hap h3 _⟩ (fun j _ => vp_updV_set ?_ _ j)
    unfold tb_fs
    rw [List.length_map, List.length_range, g2]
    exact h3
theorem tb_putr (C : tb_Cx p l R s m args meth c D b sz d y call) {k ci f w o pc v : Nat} {t : Nat × List Nat} {M : tb_MM} {H : Heap} {locs : List Loc} {cells slots : Nat} {arr : Array Slot} {st : List Value} (h : tb_look tb_fT y.1 k = some ((ci, f), w)) (hH : tb_Hp D b sz M s H) (ht : M.1[o]? = some t) (hc : t.1 = ci) (hv : tb_kd ci f = 2) (hy : y.1 = ci) (hini : y.2.1.name = "<init>") (hd : decode y.2.2.1 pc = .ok (.putfield k, 3))
    (kk : ∀ (H1 : Heap), tb_Hp D b sz (M.1.set o (ci, t.2.set f (v + 1)), M.2) s H1 → (∀ q, q < sz → H1[q]? = H[q]?) → W p l e R s m args below meth c H1 (locs ++ [⟨tb_ad b sz o, (D.2 ci) f⟩]) cells slots Q (F0 m (pc + 3) arr st)) : W p l e R s m args below meth c H locs cells slots Q (F0 m pc arr (tb_cv b sz (.ref v) :: .ref (tb_ad b sz o) :: st)) := by
  obtain ⟨h1, h2, h3⟩ := tb_fld C h
  obtain ⟨g1, g2, g3⟩ := tb_obj hH ht hc h2
  have hap := tb_hap C h2
  obtain ⟨hx, hb, -, hown, hts, hK, hin2, -⟩ := C
  have hcl := (tb_vcl ci h2).1
  have hkd := tb_kdok ci h2 f h3
  obtain ⟨r, r1, cell, q1, q2, q3, q4⟩ := g1
  have hr : r = tb_vc ci := Option.some.inj (r1.symm.trans hcl)
  subst hr
  obtain ⟨hS, hfc, kC, hkC, hkind⟩ := hK.1 ci _ hcl
  obtain ⟨cf, kf, fi, fd, hi, hsl⟩ := hS f h3
  have hin : ∀ w ∈ u_ws (tb_vc ci).1 (tb_vc ci).2.1 (tb_vc ci).2.2, w ∈ tb_gt := fun w hw => tb_gt_in (tb_uws ci h2 w hw).1 (tb_uws ci h2 w hw).2
  have hfin : ((tb_vc ci).2.1 f).2.2.2 = true := (hkd.2.2.2.1 hv).2
  have hlay := hts _ (hin _ (u_in_lay h3))
  unfold u_lay at hlay
  rw [if_pos hfin] at hlay
  have hst := (u_facts hfc hkC (u_lays hts hin h3) hi).1
  have hcf : m.cls = cf := by
    obtain ⟨_, _, c', _, _, _, -, -, hf', -, -, -, hown2, -⟩ := Cond.laysFinal_spec hlay
    have e1 : c' = cf := by have := hi.symm.trans hf'; simp at this; exact this.1.symm
    rw [hkd.1, ← hy] at hown2
    rw [← e1]; exact Option.some.inj (hown.symm.trans hown2)
  have hnf : narrow (tb_ty ci f) (tb_cv b sz (.ref v)) = tb_cv b sz (.ref v) ∧ fits (tb_ty ci f) (tb_cv b sz (.ref v)) = true := by
    have h7 := (hkd.2.2.2.1 hv).1
    show narrow _ (.ref (tb_ad b sz v)) = .ref (tb_ad b sz v) ∧ fits _ (.ref (tb_ad b sz v)) = true
    cases hT : tb_ty ci f <;> rw [hT] at h7 <;> first | exact ⟨rfl, rfl⟩ | cases h7
  have h6 := u_fits hfc hkC hkind (Or.inr hlay) hi (tb_tyok ci h2 f h3) hnf.1 hnf.2
  have hlink2 : s.fieldFound? (tb_cn ci) ((tb_vc ci).2.1 f).2.1 ((tb_vc ci).2.1 f).2.2.1 = some (cf, kf, fi, fd) := by rw [← hkd.1]; exact hi
  refine W.putFinK hx hb hown h1 hlink2 hst hcf (hin2 hini) (by rw [q2]; exact h6) q1 q3 (by rw [hsl]; exact k2_hasslot (q4 f h3)) rfl rfl hd fun H' e1 e2 e3 => ?_
  rw [hsl] at e1 ⊢
  refine kk H' ?_ (fun q hq => e3 q (fun z => by have := tb_ad_ge (b := b) (sz := sz) g3; have z' : q = tb_ad b sz o := z; omega))
  refine tb_Hp.set (t' := (ci, t.2.set f (v + 1))) (S' := M.2) hH ht e2 e3 ?_ hc.symm (fun j hj => rfl)
  unfold tb_at
  show (if ci = 50 then _ else _)
  rw [if_neg (by omega), if_neg (by omega), if_neg (by omega), if_neg (by omega), if_neg (by omega)]
  refine ⟨⟨tb_vc ci, hcl, ?_⟩, h2, by rw [List.length_set]; exact g2⟩
  show t_OB (tb_ad b sz o) (D.1 ci) _ (D.2 ci) H' (vp_V (tb_fs ci (t.2.set f (v + 1)) b sz (M.2 o)))
  rw [← tb_fs_upR hv (by rw [g2]; exact h3)]
  refine t_OB.to (V := updV (vp_V (tb_fs ci t.2 b sz (M.2 o))) f _) ⟨_, e1, q2, q3, t_set q4 hap h3 _⟩ (fun j _ => vp_updV_set ?_ _ j)
  unfold tb_fs
  rw [List.length_map, List.length_range, g2]
  exact h3
end Step
end
section
/-! Part 13: arrays, and what is made new -/
section Step
variable {p : Program} {l : Launch} {e : Env} {R : Room} {s : State} {m : MethodId} {args : Array Value} {below : List Frame} {meth : Method} {c : Code} {Q : State → Prop} {D : va_G} {b sz c0 s0 d : Nat} {y : tb_MD} {call : tb_MD → List Value → tb_MM → Option tb_XR}
variable {M : tb_MM} {H : Heap} {locs : List Loc} {cells slots o pc : Nat} {t : Nat × List Nat} {arr : Array Slot} {st : List Value}
theorem tb_arr {n : Nat} {ty : FieldType} (hH : tb_Hp D b sz M s H) (ht : M.1[o]? = some t) (hk : t.1 = 50 ∧ ty = .int ∨ t.1 = 51 ∧ ty = .boolean ∨ t.1 = 52 ∧ ty = .byte) (hn : t.2.headD 0 = n) : (∃ cA, ArrOfT s cA ty ∧ H[tb_ad b sz o]? = some (vp_cell cA (n, .inl (M.2 o)))) ∧ o ≠ 0 := by
  obtain ⟨h1, h2⟩ := hH.2.2.2 o t ht
  subst hn
  unfold tb_at at h1
  rcases hk with ⟨hk, rfl⟩ | ⟨hk, rfl⟩ | ⟨hk, rfl⟩
  · rw [if_pos hk] at h1
    exact ⟨h1, fun q => by have := h2.mp q; omega⟩
  · rw [if_neg (by omega), if_pos hk] at h1
    exact ⟨h1, fun q => by have := h2.mp q; omega⟩
  · rw [if_neg (by omega), if_neg (by omega), if_pos hk] at h1
    exact ⟨h1, fun q => by have := h2.mp q; omega⟩
theorem tb_inx {cA : ClassId} {n : Nat} {f : Nat → Value} {i : Int32} (h : vp_in i n) : ¬ (i < 0 ∨ (arrV cA n f).slots.size ≤ i.toNatClampNeg) := by
  rw [arrV_size]
  exact h
theorem tb_iald (C : tb_Cx p l R s m args meth c D b sz d y call) {i : Int32} {j : Nat} (hH : tb_Hp D b sz M s H) (ht : M.1[o]? = some t) (hk : t.1 = 50 ∨ t.1 = 54) (hj : tb_ix i (if t.1 = 50 then t.2.headD 0 else (M.2 o 2560).toNatClampNeg) = some j) (hd : decode y.2.2.1 pc = .ok (.iaload, 1))
    (kk : W p l e R s m args below meth c H locs cells slots Q (F0 m (pc + 1) arr (.int (M.2 o j) :: st))) : W p l e R s m args below meth c H locs cells slots Q (F0 m pc arr (.int i :: .ref (tb_ad b sz o) :: st)) := by
  obtain ⟨g1, rfl⟩ := tb_ix_some hj
  have hx := C.1
  have hb := C.2.1
  rcases hk with hk | hk
  · rw [if_pos hk] at g1
    obtain ⟨⟨cA, hA, hc⟩, -⟩ := tb_arr (ty := .int) hH ht (Or.inl ⟨hk, rfl⟩) rfl
    have hlt : i.toNatClampNeg < t.2.headD 0 := Nat.not_le.mp fun q => g1 (Or.inr q)
    exact W.iald (v := .int (M.2 o i.toNatClampNeg)) hx hb hc (hA _ (fun j => .int (M.2 o j))) (fun q => by cases q) (tb_inx g1) (by show (arrV _ _ _).slots[_]? = _; rw [arrV_read _ _ hlt]) rfl rfl hd kk
  · rw [if_neg (by omega)] at g1
    have h1 := (hH.2.2.2 o t ht).1
    unfold tb_at at h1
    rw [if_neg (by omega), if_neg (by omega), if_neg (by omega), if_neg (by omega), if_pos hk] at h1
    obtain ⟨scr, e1, e2, e3, e4, e5⟩ := h1
    have hlt : i.toNatClampNeg < (M.2 o 2560).toNatClampNeg := Nat.not_le.mp fun q => g1 (Or.inr q)
    exact W.iald (v := .int (M.2 o i.toNatClampNeg)) hx hb e1 e2 e3 (by rw [e4]; exact g1) (e5 _ hlt) rfl rfl hd kk
theorem tb_bald (C : tb_Cx p l R s m args meth c D b sz d y call) {i : Int32} {j : Nat} (hH : tb_Hp D b sz M s H) (ht : M.1[o]? = some t) (hk : t.1 = 51 ∨ t.1 = 52) (hj : tb_ix i (t.2.headD 0) = some j) (hd : decode y.2.2.1 pc = .ok (.baload, 1))
    (kk : W p l e R s m args below meth c H locs cells slots Q (F0 m (pc + 1) arr (.int (M.2 o j) :: st))) : W p l e R s m args below meth c H locs cells slots Q (F0 m pc arr (.int i :: .ref (tb_ad b sz o) :: st)) := by
  obtain ⟨g1, rfl⟩ := tb_ix_some hj
  have hx := C.1
  have hb := C.2.1
  have hlt : i.toNatClampNeg < t.2.headD 0 := Nat.not_le.mp fun q => g1 (Or.inr q)
  rcases hk with hk | hk
  · obtain ⟨⟨cA, hA, hc⟩, -⟩ := tb_arr (ty := .boolean) hH ht (Or.inr (Or.inl ⟨hk, rfl⟩)) rfl
    exact W.zald (v := .int (M.2 o i.toNatClampNeg)) hx hb hc (hA _ (fun j => .int (M.2 o j))) (fun q => by cases q) (tb_inx g1) (by show (arrV _ _ _).slots[_]? = _; rw [arrV_read _ _ hlt]) rfl rfl hd kk
  · obtain ⟨⟨cA, hA, hc⟩, -⟩ := tb_arr (ty := .byte) hH ht (Or.inr (Or.inr ⟨hk, rfl⟩)) rfl
    exact W.bald (v := .int (M.2 o i.toNatClampNeg)) hx hb hc (hA _ (fun j => .int (M.2 o j))) (fun q => by cases q) (tb_inx g1) (by show (arrV _ _ _).slots[_]? = _; rw [arrV_read _ _ hlt]) rfl rfl hd kk
theorem tb_aald (C : tb_Cx p l R s m args meth c D b sz d y call) {i : Int32} {j : Nat} (hH : tb_Hp D b sz M s H) (ht : M.1[o]? = some t) (hk : t.1 = 53) (hj : tb_ix i t.2.length = some j) (hd : decode y.2.2.1 pc = .ok (.aaload, 1))
    (kk : W p l e R s m args below meth c H locs cells slots Q (F0 m (pc + 1) arr (tb_cv b sz (tb_rv (t.2.getD j 0)) :: st))) : W p l e R s m args below meth c H locs cells slots Q (F0 m pc arr (.int i :: .ref (tb_ad b sz o) :: st)) := by
  obtain ⟨g1, rfl⟩ := tb_ix_some hj
  have hx := C.1
  have hb := C.2.1
  have hlt : i.toNatClampNeg < t.2.length := Nat.not_le.mp fun q => g1 (Or.inr q)
  have h1 := (hH.2.2.2 o t ht).1
  unfold tb_at at h1
  rw [if_neg (by omega), if_neg (by omega), if_neg (by omega), if_pos hk] at h1
  obtain ⟨cA, hA, hc⟩ := h1
  refine W.aald (v := tb_cv b sz (tb_rv (t.2.getD i.toNatClampNeg 0))) (ty := .array .int) hx hb hc (hA _ (fun j => va_rf (tb_ro b sz (t.2.getD j 0)))) rfl (fun q => by cases q) (tb_inx g1) ?_ rfl rfl hd kk
  show (arrV _ _ _).slots[_]? = _
  rw [arrV_read _ _ hlt, tb_ro_rv]
theorem tb_upc {cA : ClassId} {n j : Nat} {f : Nat → Int32} {x : Int32} : (vp_cell cA (n, .inl f)).setSlot j (.int x) = vp_cell cA (n, .inl (upd f j x)) := by
  rw [vp_cell_i, vp_cell_i, arrV_store]
  congr 1
  funext q
  by_cases hq : q = j
  · subst hq
    simp [updV, upd]
  · simp [updV, upd, hq]
theorem tb_atU {S' : tb_St} {n : Nat} (hH : tb_Hp D b sz M s H) (ht : M.1[o]? = some t) {H1 : Heap} (hz : H1.size = H.size) (ho : ∀ q, q ≠ tb_ad b sz o → H1[q]? = H[q]?) (hn : tb_at D s b sz o t (S' o) H1) (hS : ∀ j, j ≠ o → S' j = M.2 j) : tb_Hp D b sz (M.1, S') s H1 := by
  have h := tb_Hp.set (t' := t) (S' := S') hH ht hz ho hn rfl hS
  rw [tb_set_self ht] at h
  exact h
theorem tb_iast (C : tb_Cx p l R s m args meth c D b sz d y call) {i v : Int32} {j : Nat} (hH : tb_Hp D b sz M s H) (ht : M.1[o]? = some t) (hk : t.1 = 50) (hj : tb_ix i (t.2.headD 0) = some j) (hd : decode y.2.2.1 pc = .ok (.iastore, 1))
    (kk : ∀ (H1 : Heap), tb_Hp D b sz (M.1, tb_up M.2 o j v) s H1 → (∀ q, q < sz → H1[q]? = H[q]?) → W p l e R s m args below meth c H1 (locs ++ [⟨tb_ad b sz o, j⟩]) cells slots Q (F0 m (pc + 1) arr st)) : W p l e R s m args below meth c H locs cells slots Q (F0 m pc arr (.int v :: .int i :: .ref (tb_ad b sz o) :: st)) := by
  obtain ⟨g1, rfl⟩ := tb_ix_some hj
  obtain ⟨⟨cA, hA, hc⟩, h0⟩ := tb_arr (ty := .int) hH ht (Or.inl ⟨hk, rfl⟩) rfl
  refine W.iast C.1 C.2.1 hc (hA _ (fun j => .int (M.2 o j))) (fun q => by cases q) (tb_inx g1) rfl rfl hd fun H1 e1 e2 e3 => ?_
  refine kk H1 (tb_atU (n := 0) hH ht e2 e3 ?_ (fun j hj => by unfold tb_up; rw [if_neg hj])) (fun q hq => e3 q (fun z => by have := tb_ad_ge (b := b) (sz := sz) h0; have z' : q = tb_ad b sz o := z; omega))
  unfold tb_at
  rw [if_pos hk]
  refine ⟨cA, hA, e1.trans ?_⟩
  rw [tb_upc, show tb_up M.2 o i.toNatClampNeg v o = upd (M.2 o) i.toNatClampNeg v from if_pos rfl]
theorem tb_nar_b (x : Int32) : narrow .byte (.int x) = .int (vp_nar .byte x) := rfl
theorem tb_nar_z (x : Int32) : narrow .boolean (.int x) = .int (vp_nar .boolean x) := rfl
theorem tb_bast (C : tb_Cx p l R s m args meth c D b sz d y call) {i v : Int32} {j : Nat} (hH : tb_Hp D b sz M s H) (ht : M.1[o]? = some t) (hk : t.1 = 51 ∨ t.1 = 52) (hj : tb_ix i (t.2.headD 0) = some j) (hd : decode y.2.2.1 pc = .ok (.bastore, 1))
    (kk : ∀ (H1 : Heap), tb_Hp D b sz (M.1, tb_up M.2 o j (vp_nar (if t.1 = 51 then .boolean else .byte) v)) s H1 → (∀ q, q < sz → H1[q]? = H[q]?) → W p l e R s m args below meth c H1 (locs ++ [⟨tb_ad b sz o, j⟩]) cells slots Q (F0 m (pc + 1) arr st)) : W p l e R s m args below meth c H locs cells slots Q (F0 m pc arr (.int v :: .int i :: .ref (tb_ad b sz o) :: st)) := by
  obtain ⟨g1, rfl⟩ := tb_ix_some hj
  rcases hk with hk | hk
  · obtain ⟨⟨cA, hA, hc⟩, h0⟩ := tb_arr (ty := .boolean) hH ht (Or.inr (Or.inl ⟨hk, rfl⟩)) rfl
    rw [if_pos hk] at kk
    refine W.zast C.1 C.2.1 hc (hA _ (fun j => .int (M.2 o j))) (fun q => by cases q) (tb_inx g1) rfl rfl hd fun H1 e1 e2 e3 => ?_
    refine kk H1 (tb_atU (n := 0) hH ht e2 e3 ?_ (fun j hj => by unfold tb_up; rw [if_neg hj])) (fun q hq => e3 q (fun z => by have := tb_ad_ge (b := b) (sz := sz) h0; have z' : q = tb_ad b sz o := z; omega))
    unfold tb_at
    rw [if_neg (by omega), if_pos hk]
    refine ⟨cA, hA, e1.trans ?_⟩
    rw [tb_nar_z, tb_upc, show tb_up M.2 o i.toNatClampNeg (vp_nar .boolean v) o = upd (M.2 o) i.toNatClampNeg (vp_nar .boolean v) from if_pos rfl]
  · obtain ⟨⟨cA, hA, hc⟩, h0⟩ := tb_arr (ty := .byte) hH ht (Or.inr (Or.inr ⟨hk, rfl⟩)) rfl
    rw [if_neg (by omega)] at kk
    refine W.bast C.1 C.2.1 hc (hA _ (fun j => .int (M.2 o j))) (fun q => by cases q) (tb_inx g1) rfl rfl hd fun H1 e1 e2 e3 => ?_
    refine kk H1 (tb_atU (n := 0) hH ht e2 e3 ?_ (fun j hj => by unfold tb_up; rw [if_neg hj])) (fun q hq => e3 q (fun z => by have := tb_ad_ge (b := b) (sz := sz) h0; have z' : q = tb_ad b sz o := z; omega))
    unfold tb_at
    rw [if_neg (by omega), if_neg (by omega), if_pos hk]
    refine ⟨cA, hA, e1.trans ?_⟩
    rw [tb_nar_b, tb_upc, show tb_up M.2 o i.toNatClampNeg (vp_nar .byte v) o = upd (M.2 o) i.toNatClampNeg (vp_nar .byte v) from if_pos rfl]
theorem tb_alen (C : tb_Cx p l R s m args meth c D b sz d y call) (hH : tb_Hp D b sz M s H) (ht : M.1[o]? = some t) (hk : t.1 = 54) (hi : Int32.ofNat (M.2 o 2560).toNatClampNeg = M.2 o 2560) (hd : decode y.2.2.1 pc = .ok (.arraylength, 1))
    (kk : W p l e R s m args below meth c H locs cells slots Q (F0 m (pc + 1) arr (.int (M.2 o 2560) :: st))) : W p l e R s m args below meth c H locs cells slots Q (F0 m pc arr (.ref (tb_ad b sz o) :: st)) := by
  have h1 := (hH.2.2.2 o t ht).1
  unfold tb_at at h1
  rw [if_neg (by omega), if_neg (by omega), if_neg (by omega), if_neg (by omega), if_pos hk] at h1
  obtain ⟨scr, e1, e2, e3, e4, e5⟩ := h1
  exact W.alen C.1 C.2.1 e1 e2 (by rw [e4]; exact hi) rfl rfl hd kk
theorem tb_new (C : tb_Cx p l R s m args meth c D b sz d y call) {k ci w1 w2 w3 : Nat} (h : tb_look tb_nT y.1 k = some (ci, w1, w2, w3)) (hH : tb_Hp D b sz M s H) (hc1 : cells + 1 ≤ R.cells) (hs1 : slots + (tb_vc ci).2.2 ≤ R.slots) (hd : decode y.2.2.1 pc = .ok (.new k, 3))
    (kk : ∀ (H1 : Heap), tb_Hp D b sz (M.1 ++ [(ci, List.replicate (tb_vc ci).2.2 0)], tb_zr M.2 M.1.length) s H1 → (∀ q, q < sz → H1[q]? = H[q]?) → W p l e R s m args below meth c H1 locs (cells + 1) (slots + (tb_vc ci).2.2) Q (F0 m (pc + 3) arr (tb_cv b sz (.ref M.1.length) :: st))) : W p l e R s m args below meth c H locs cells slots Q (F0 m pc arr st) := by
  obtain ⟨h1, h2, h3, h9⟩ := tb_nok _ (tb_look_in h)
  have h9 : ci < 9 := h9
  obtain ⟨hx, hb, -, hown, hts, hK, -⟩ := C
  have hcl := (tb_vcl ci h9).1
  have hnm := (tb_vcl ci h9).2
  have hKn := hK.1 ci _ hcl
  have hin : ∀ w ∈ u_ws (tb_vc ci).1 (tb_vc ci).2.1 (tb_vc ci).2.2, w ∈ tb_gt := fun w hw => tb_gt_in (tb_uws ci h9 w hw).1 (tb_uws ci h9 w hw).2
  have w1' := hts _ (tb_gt_in (tb_tw_in h1) rfl)
  have w2' := hts _ (tb_gt_in (tb_tw_in h2) rfl)
  have w3' := hts _ (tb_gt_in (tb_tw_in h3) rfl)
  dsimp only at w1' w2' w3'
  refine W.newcK hx hb hown w1' w2' w3' rfl hd hc1 hs1 (by rw [← hnm]; exact hKn.2.1) rfl fun H1 kC hkC e1 z1 o1 => ?_
  have hsz : H.size = tb_ad b sz M.1.length := tb_ad_len hH
  have hpos := hH.2.1
  have hge : sz ≤ H.size := by have := hH.2.2.1; omega
  have hkk := kk H1 (tb_Hp.push hH z1 o1 ?_ (by show ci ≠ 54; omega) (fun j hj => by unfold tb_zr; rw [if_neg hj])) (fun q hq => o1 q (Nat.lt_of_lt_of_le hq hge))
  · show W p l e R s m args below meth c H1 locs _ _ Q (F0 m (pc + 3) arr (.ref H.size :: st))
    rw [hsz]
    exact hkk
  · unfold tb_at
    show (if ci = 50 then _ else _)
    rw [if_neg (by omega), if_neg (by omega), if_neg (by omega), if_neg (by omega), if_neg (by omega)]
    refine ⟨⟨tb_vc ci, hcl, ?_⟩, h9, by simp⟩
    show t_OB (tb_ad b sz M.1.length) (D.1 ci) _ (D.2 ci) H1 (vp_V (tb_fs ci (List.replicate (tb_vc ci).2.2 0) b sz (tb_zr M.2 M.1.length M.1.length)))
    rw [← hsz]
    refine (u_born (tb_ty ci) hts hin hKn hkC e1 (tb_tyok ci h9)).to (fun j hj => ?_)
    have hkd := tb_kdok ci h9 j hj
    have hfs := tb_fs_at (b := b) (sz := sz) (ci := ci) (f := j) (rs := List.replicate (tb_vc ci).2.2 0) (G := tb_zr M.2 M.1.length M.1.length) (by simpa using hj)
    show defaultValue (tb_ty ci j) = (tb_fs ci (List.replicate (tb_vc ci).2.2 0) b sz (tb_zr M.2 M.1.length M.1.length)).getD j .null
    rw [List.getD_eq_getElem?_getD, hfs]
    have hz : tb_zr M.2 M.1.length M.1.length j = 0 := by unfold tb_zr; rw [if_pos rfl]
    rw [hz]
    have h3 := hkd.2.2.2.2
    by_cases k2 : tb_kd ci j = 2
    · have h7 := (hkd.2.2.2.1 k2).1
      rw [if_pos k2]
      simp [hj, tb_rv, tb_cv]
      cases hT : tb_ty ci j <;> rw [hT] at h7 <;> first | rfl | cases h7
    · rw [if_neg k2]
      by_cases k1 : tb_kd ci j = 1
      · rw [(hkd.2.2.1 k1).1]; rfl
      · rw [(hkd.2.1 (by omega)).1]; rfl
theorem tb_newa (C : tb_Cx p l R s m args meth c D b sz d y call) {at' : ArrayType} {v : Int32} {kd : Nat} (hk : tb_kind at' = some kd) (hH : tb_Hp D b sz M s H) (hv0 : 0 ≤ v) (hv1 : v ≤ 10000) (hc1 : cells + 1 ≤ R.cells) (hs1 : slots + v.toNatClampNeg ≤ R.slots) (hd : decode y.2.2.1 pc = .ok (.newarray at', 2))
    (kk : ∀ (H1 : Heap), tb_Hp D b sz (M.1 ++ [(kd, [v.toNatClampNeg])], tb_zr M.2 M.1.length) s H1 → (∀ q, q < sz → H1[q]? = H[q]?) → W p l e R s m args below meth c H1 locs (cells + 1) (slots + v.toNatClampNeg) Q (F0 m (pc + 2) arr (tb_cv b sz (.ref M.1.length) :: st))) : W p l e R s m args below meth c H locs cells slots Q (F0 m pc arr (.int v :: st)) := by
  obtain ⟨hx, hb, -, hown, hts, hK, -⟩ := C
  have hsz : H.size = tb_ad b sz M.1.length := tb_ad_len hH
  have hpos := hH.2.1
  have hge : sz ≤ H.size := by have := hH.2.2.1; omega
  have hnn : ¬ v < 0 := by
    rw [Int32.lt_iff_toInt_lt]
    rw [Int32.le_iff_toInt_le] at hv0
    omega
  have hle : v.toNatClampNeg ≤ 10000 := by
    rw [Int32.le_iff_toInt_le] at hv1
    have h2 : (10000 : Int32).toInt = 10000 := by decide +kernel
    rw [h2] at hv1
    show v.toInt.toNat ≤ 10000
    omega
  have hcb : v.toNatClampNeg * componentBytes (newarray.typeOf at') ≤ 536870912 := by
    have : componentBytes (newarray.typeOf at') ≤ 8 := by cases at' <;> decide
    have h3 := Nat.mul_le_mul hle this
    omega
  have hac : (Cond.arrayClass (newarray.typeOf at')).before args s = true := by
    cases at' <;> first | (cases hk; done) | exact hts _ (tb_gt_in tb_ac.1 rfl) | exact hts _ (tb_gt_in tb_ac.2.1 rfl) | exact hts _ (tb_gt_in tb_ac.2.2.1 rfl)
  refine va_newaK hx hb hac rfl hd rfl hnn rfl hcb hc1 hs1 rfl fun H1 cA e1 z1 o1 hAr hNm => ?_
  have hkk := kk H1 (tb_Hp.push hH z1 o1 ?_ ?_ (fun j hj => by unfold tb_zr; rw [if_neg hj])) (fun q hq => o1 q (Nat.lt_of_lt_of_le hq hge))
  · show W p l e R s m args below meth c H1 locs _ _ Q (F0 m (pc + 2) arr (.ref H.size :: st))
    rw [hsz]
    exact hkk
  · rw [hsz] at e1
    have hz : tb_zr M.2 M.1.length M.1.length = fun _ => 0 := by unfold tb_zr; rw [if_pos rfl]
    rw [hz]
    unfold tb_at
    show (if kd = 50 then _ else _)
    cases at' <;> first | (cases hk; done) | (cases hk; first | exact ⟨cA, hAr, e1⟩)
  · show kd ≠ 54
    cases at' <;> first | (cases hk; done) | (cases hk; decide)
end Step
end
section
/-! Part 14: calls, returns, every step, every run, every method -/
section Step
variable {p : Program} {l : Launch} {e : Env} {R : Room} {s : State} {m : MethodId} {args : Array Value} {below : List Frame} {meth : Method} {c : Code} {Q : State → Prop} {D : va_G} {b sz c0 s0 d : Nat} {y : tb_MD} {call : tb_MD → List Value → tb_MM → Option tb_XR}
variable {M : tb_MM} {H : Heap} {locs : List Loc} {cells slots o pc : Nat} {t : Nat × List Nat} {arr : Array Slot} {st : List Value}
/-- the one making of an array of arrays -/
def tb_Mul : Prop := ∀ (p : Program) (l : Launch) (e : Env) (R : Room) (s : State) (m : MethodId) (args : Array Value) (below : List Frame) (meth : Method) (c : Code) (Q : State → Prop) (D : va_G) (b sz d : Nat) (y : tb_MD) (call : tb_MD → List Value → tb_MM → Option tb_XR), tb_Cx p l R s m args meth c D b sz d y call →
  ∀ (M : tb_MM) (H : Heap) (locs : List Loc) (cells slots pc : Nat) (arr : Array Slot) (st : List Value), y.1 = 3 → tb_Hp D b sz M s H → cells + 5 ≤ R.cells → slots + 284 ≤ R.slots → decode y.2.2.1 pc = .ok (.multianewarray 9 2, 4) →
  (∀ H1 : Heap, tb_Hp D b sz (M.1 ++ [(53, [M.1.length + 2, M.1.length + 3, M.1.length + 4, M.1.length + 5]), (50, [70]), (50, [70]), (50, [70]), (50, [70])], tb_zr (tb_zr (tb_zr (tb_zr (tb_zr M.2 M.1.length) (M.1.length + 1)) (M.1.length + 2)) (M.1.length + 3)) (M.1.length + 4)) s H1 → (∀ q, q < sz → H1[q]? = H[q]?) →
    W p l e R s m args below meth c H1 locs (cells + 5) (slots + 284) Q (F0 m (pc + 4) arr (tb_cv b sz (.ref M.1.length) :: st))) → W p l e R s m args below meth c H locs cells slots Q (F0 m pc arr (.int 70 :: .int 4 :: st))
theorem tb_map_cat (st : List Value) : ((st.map (tb_cv b sz)).map fun v => v.category).sum = (st.map tb_cat).sum := by
  rw [List.map_map]
  congr 1
  apply List.map_congr_left
  intro v _
  exact tb_cv_cat b sz v
theorem tb_map_int (v : Int32) : tb_cv b sz (.int v) = .int v := rfl
/-- behind a call -/
theorem tb_back {r : tb_XR} {mc ms : Nat} {a : Array Value} {stT rest : List Value} (hH0 : ∀ q, q < sz → H[q]? = s.heap[q]?) (hl : ∀ q ∈ locs, sz ≤ q.base)
    (hr : va_Run p l e R s m args below meth c H locs cells slots mc ms (F0 m pc arr stT) (rest.map (tb_cv b sz)) (tb_Qc D b sz r a) (fun q => sz ≤ q))
    (kk : ∀ (H1 : Heap) (locs1 : List Loc), tb_Hp D b sz r.2 s H1 → (∀ q ∈ locs1, sz ≤ q.base) → (∀ q, q < sz → H1[q]? = s.heap[q]?) → W p l e R s m args below meth c H1 locs1 (cells + mc) (slots + ms) Q (F0 m (pc + 3) arr ((r.1.toList ++ rest).map (tb_cv b sz)))) : W p l e R s m args below meth c H locs cells slots Q (F0 m pc arr stT) := by
  intro T hT X
  obtain ⟨v, st₀, t, T', L, h0, X', hL, e1, e2, ⟨ho, hHp, hfr⟩, hst⟩ := hr T hT X
  have hv : v = r.1.map (tb_cv b sz) := Outcome.returned.inj ho
  subst hv
  have hal : s.vm.Alike t.vm := by rw [← e2]; exact X'.warmed.alike
  obtain ⟨t2, a1, b1⟩ := kk T'.heap (locs ++ L) (by rw [e1]; exact hHp.moved hal.symm) (fun q hq => by
    rcases List.mem_append.mp hq with h | h
    · exact hl q h
    · exact hL q h) (fun q hq => by rw [e1, hfr q hq, h0]; exact hH0 q hq) T' rfl X'
  refine ⟨t2, hst t2 ?_, b1⟩
  have hst2 : (r.1.map (tb_cv b sz)).toList ++ rest.map (tb_cv b sz) = (r.1.toList ++ rest).map (tb_cv b sz) := by
    rw [List.map_append]
    cases r.1 <;> rfl
  show Steps p.tables e below (T'.setTop { (F0 m pc arr stT) with pc := pc + 3, stack := (r.1.map (tb_cv b sz)).toList ++ rest.map (tb_cv b sz) }) t2
  rw [hst2]
  exact a1
theorem tb_gin : GoodIn tb_gt (tb_ws y) ↔ Cond.code y.2.1 y.2.2.1 y.2.2.2.1 y.2.2.2.2.1 ∈ tb_gt := by
  constructor
  · intro h; exact (h _ List.mem_cons_self).1
  · intro h w hw
    rcases List.mem_cons.mp hw with rfl | hw
    · exact ⟨h, good_of_word (tb_gt_good h)⟩
    · exact ⟨hw, good_of_word (tb_gt_good hw)⟩
/-- what the table says of a call -/
theorem tb_mrow (C : tb_Cx p l R s m args meth c D b sz d y call) {k kd : Nat} {z : tb_MD} {ps : List Nat} (h : tb_look tb_mT y.1 k = some ((kd, z), ps)) :
    (if kd = 2 ∨ kd = 4 then va_Nw (.methodLinkNest (tb_cn y.1) k z.2.1 RX7) s else (Cond.methodLink (tb_cn y.1) k z.2.1).before args s = true) ∧ (if kd = 1 ∨ kd = 2 then (Cond.static z.2.1).before args s = true else (Cond.instanceMethod z.2.1).before args s = true) ∧ (kd = 0 → (Cond.selects z.2.1.cls z.2.1 z.2.1).before args s = true) ∧
    (Cond.initialized z.2.1.cls).before args s = true ∧ Cond.code z.2.1 z.2.2.1 z.2.2.2.1 z.2.2.2.2.1 ∈ tb_gt ∧ z.2.1.cls = tb_cn z.1 ∧ z.1 < 9 ∧ (z.2.1.cls ≠ "java/lang/invoke/MethodHandle" ∧ z.2.1.cls ≠ "java/lang/invoke/VarHandle" ∧ (parseMethodDescriptor z.2.1.desc).map (fun d => d.parameters.length) = some z.2.2.2.2.2) ∧ plainName z.2.1.cls = true ∧ z.2.2.2.1 ≤ 21 ∧ ((kd = 3 ∨ kd = 4) → z.2.1.name = "<init>" ∧ z.2.2.2.2.1 = none) := by
  have h1 := tb_mok _ (tb_look_in h)
  have hts := C.2.2.2.2.1
  unfold tb_mokB at h1
  simp only [Bool.and_eq_true, Bool.or_eq_true, decide_eq_true_eq] at h1
  obtain ⟨⟨⟨⟨⟨⟨⟨⟨⟨⟨⟨⟨a1, a2⟩, a3⟩, a4⟩, a5⟩, a6⟩, a7⟩, a8⟩, a9⟩, a10⟩, a11⟩, a12⟩, a13⟩ := h1
  refine ⟨?_, ?_, ?_, hts _ (tb_gt_in (tb_tw_in a4) rfl), tb_gt_in (tb_tw_in a5) rfl, a6, a9, a10, a11, a12, a13⟩
  · split
    · rename_i q; exact C.2.2.2.2.2.2.2.2.2.1 _ (tb_look_in h) q
    · rename_i q; rw [if_neg q] at a1; exact hts _ (tb_gt_in (tb_tw_in a1) rfl)
  · split
    · rename_i q; rw [if_pos q] at a2; exact hts _ (tb_gt_in (tb_tw_in a2) rfl)
    · rename_i q; rw [if_neg q] at a2; exact hts _ (tb_gt_in (tb_tw_in a2) rfl)
  · intro q
    rcases a3 with a3 | a3
    · exact hts _ (tb_gt_in (tb_tw_in a3) rfl)
    · exact absurd q a3
/-- a call of any kind: the run -/
theorem tb_callV (C : tb_Cx p l R s m args meth c D b sz d y call) {k : Nat} {z : tb_MD} {ps : List Nat} {as rest : List Value} {r : tb_XR} (h : tb_look tb_mT y.1 k = some ((0, z), ps)) (hH : tb_Hp D b sz M s H) (ht : M.1[o]? = some t) (hc : t.1 = z.1) (hrun : call z (.ref o :: as) M = some r) (hn : as.length = z.2.2.2.2.2) (hcat : (rest.map tb_cat).sum ≤ 8) (hL : arr.size = y.2.2.2.1)
    (hf : cells + (tb_cl r.2 - tb_cl M) ≤ R.cells ∧ slots + (tb_sl r.2 - tb_sl M) ≤ R.slots) (hd : decode y.2.2.1 pc = .ok (.invokevirtual k, 3)) :
    va_Run p l e R s m args below meth c H locs cells slots (tb_cl r.2 - tb_cl M) (tb_sl r.2 - tb_sl M) (F0 m pc arr ((as.map (tb_cv b sz)).reverse ++ .ref (tb_ad b sz o) :: rest.map (tb_cv b sz))) (rest.map (tb_cv b sz)) (tb_Qc D b sz r (Value.ref (tb_ad b sz o) :: as.map (tb_cv b sz)).toArray) (fun q => sz ≤ q) := by
  obtain ⟨a1, a2, a3, a4, a5, a6, a7, a8, a9, a10, -⟩ := tb_mrow C h
  obtain ⟨hx, hb, hml, hown, hts, hK, -, hR, hC, hNL⟩ := C
  have hM := hC z (.ref o :: as) M r a6 a9 hrun
  rw [if_neg (by omega)] at a1 a2
  obtain ⟨g1, g2, g3⟩ := tb_obj hH ht hc a7
  have hrc := va_recv hK (tb_atP g1) (tb_vcl z.1 a7).1 (ci := z.1) (q0 := 0) rfl
  rw [(tb_vcl z.1 a7).2, ← a6] at hrc
  refine va_runV (As := as.map (tb_cv b sz)) (rest := rest.map (tb_cv b sz)) ⟨hx, hb, hml, hown, hts⟩ hM ⟨callB_of z.2.2.2.2.2 hts (tb_gin.mpr a5) rfl rfl rfl a4 a1 a8 ⟨hR.1, by show 8 + (z.2.2.2.1 + 11) + 40 * d ≤ _; have := hR.2; omega⟩, a2, a3 rfl⟩
    ⟨tb_blind D b sz _ M, hrc, fun U hU hW => ⟨rfl, by rw [hU]; exact hH.moved hW.alike, va_K.moved hW.alike hK, hNL.warm hW⟩⟩ rfl (by rw [List.length_map]; exact hn) hL rfl (lv_room (by rw [tb_map_cat]; exact hcat)) hd hf
theorem tb_callS (C : tb_Cx p l R s m args meth c D b sz d y call) {k kd : Nat} {z : tb_MD} {ps : List Nat} {as rest : List Value} {r : tb_XR} (h : tb_look tb_mT y.1 k = some ((kd, z), ps)) (hkd : kd = 1 ∨ kd = 2) (hH : tb_Hp D b sz M s H) (hrun : call z as M = some r) (hn : as.length = z.2.2.2.2.2) (hcat : (rest.map tb_cat).sum ≤ 8) (hL : arr.size = y.2.2.2.1)
    (hf : cells + (tb_cl r.2 - tb_cl M) ≤ R.cells ∧ slots + (tb_sl r.2 - tb_sl M) ≤ R.slots) (hd : decode y.2.2.1 pc = .ok (.invokestatic k, 3)) :
    va_Run p l e R s m args below meth c H locs cells slots (tb_cl r.2 - tb_cl M) (tb_sl r.2 - tb_sl M) (F0 m pc arr ((as.map (tb_cv b sz)).reverse ++ rest.map (tb_cv b sz))) (rest.map (tb_cv b sz)) (tb_Qc D b sz r (as.map (tb_cv b sz)).toArray) (fun q => sz ≤ q) := by
  obtain ⟨a1, a2, a3, a4, a5, a6, a7, a8, a9, a10, -⟩ := tb_mrow C h
  obtain ⟨hx, hb, hml, hown, hts, hK, -, hR, hC, hNL⟩ := C
  have hM := hC z as M r a6 a9 hrun
  rw [if_pos hkd] at a2
  rcases hkd with rfl | rfl
  · rw [if_neg (by omega)] at a1
    exact va_runS (As := as.map (tb_cv b sz)) (rest := rest.map (tb_cv b sz)) ⟨hx, hb, hml, hown, hts⟩ hM ⟨callB_of z.2.2.2.2.2 hts (tb_gin.mpr a5) rfl rfl rfl a4 a1 a8 ⟨hR.1, by show 8 + (z.2.2.2.1 + 11) + 40 * d ≤ _; have := hR.2; omega⟩, a2⟩
      ⟨tb_blind D b sz _ M, fun U hU hW => ⟨rfl, by rw [hU]; exact hH.moved hW.alike, va_K.moved hW.alike hK, hNL.warm hW⟩⟩ rfl (by rw [List.length_map]; exact hn) hL rfl (lv_room (by rw [tb_map_cat]; exact hcat)) hd hf
  · rw [if_pos (Or.inl rfl)] at a1
    exact va_runSN (As := as.map (tb_cv b sz)) (rest := rest.map (tb_cv b sz)) ⟨hx, hb, hml, hown, hts⟩ hM ⟨va_cnB z.2.2.2.2.2 hts (tb_gin.mpr a5) rfl rfl rfl a1 a4 a8 ⟨hR.1, by show 8 + (z.2.2.2.1 + 11) + 40 * d ≤ _; have := hR.2; omega⟩, a2, trivial⟩
      ⟨tb_blind D b sz _ M, fun U hU hW => ⟨rfl, by rw [hU]; exact hH.moved hW.alike, va_K.moved hW.alike hK, hNL.warm hW⟩⟩ rfl (by rw [List.length_map]; exact hn) hL rfl (lv_room (by rw [tb_map_cat]; exact hcat)) hd hf
theorem tb_callI (C : tb_Cx p l R s m args meth c D b sz d y call) {k kd : Nat} {z : tb_MD} {ps : List Nat} {as rest : List Value} {r : tb_XR} (h : tb_look tb_mT y.1 k = some ((kd, z), ps)) (hkd : kd = 3 ∨ kd = 4) (hH : tb_Hp D b sz M s H) (hrun : call z (.ref o :: as) M = some r) (hn : as.length = z.2.2.2.2.2) (hcat : (rest.map tb_cat).sum ≤ 8) (hL : arr.size = y.2.2.2.1)
    (hf : cells + (tb_cl r.2 - tb_cl M) ≤ R.cells ∧ slots + (tb_sl r.2 - tb_sl M) ≤ R.slots) (hd : decode y.2.2.1 pc = .ok (.invokespecial k, 3)) :
    va_Run p l e R s m args below meth c H locs cells slots (tb_cl r.2 - tb_cl M) (tb_sl r.2 - tb_sl M) (F0 m pc arr ((as.map (tb_cv b sz)).reverse ++ .ref (tb_ad b sz o) :: rest.map (tb_cv b sz))) (rest.map (tb_cv b sz)) (tb_Qc D b sz r (Value.ref (tb_ad b sz o) :: as.map (tb_cv b sz)).toArray) (fun q => sz ≤ q) := by
  obtain ⟨a1, a2, a3, a4, a5, a6, a7, a8, a9, a10, a11⟩ := tb_mrow C h
  obtain ⟨hx, hb, hml, hown, hts, hK, -, hR, hC, hNL⟩ := C
  have hM := hC z (.ref o :: as) M r a6 a9 hrun
  rw [if_neg (by omega)] at a2
  obtain ⟨hnm, hret⟩ := a11 hkd
  rw [hret] at a5
  have hgi : GoodIn tb_gt (tb_ws z) := tb_gin.mpr (by rw [hret]; exact a5)
  have hws : tb_ws z = Cond.code z.2.1 z.2.2.1 z.2.2.2.1 none :: tb_gt := by unfold tb_ws; rw [hret]
  rcases hkd with rfl | rfl
  · rw [if_neg (by omega)] at a1
    exact va_runI (As := as.map (tb_cv b sz)) (rest := rest.map (tb_cv b sz)) ⟨hx, hb, hml, hown, hts⟩ hM ⟨callB_of z.2.2.2.2.2 hts hgi hws rfl rfl a4 a1 a8 ⟨hR.1, by show 8 + (z.2.2.2.1 + 11) + 40 * d ≤ _; have := hR.2; omega⟩, hnm, a2⟩
      ⟨tb_blind D b sz _ M, fun U hU hW => ⟨rfl, by rw [hU]; exact hH.moved hW.alike, va_K.moved hW.alike hK, hNL.warm hW⟩⟩ rfl (by rw [List.length_map]; exact hn) hL rfl (lv_room (by rw [tb_map_cat]; exact hcat)) hd hf
  · rw [if_pos (Or.inr rfl)] at a1
    exact va_runIN (As := as.map (tb_cv b sz)) (rest := rest.map (tb_cv b sz)) ⟨hx, hb, hml, hown, hts⟩ hM ⟨va_cnB z.2.2.2.2.2 hts hgi hws rfl rfl a1 a4 a8 ⟨hR.1, by show 8 + (z.2.2.2.1 + 11) + 40 * d ≤ _; have := hR.2; omega⟩, hnm, a2⟩
      ⟨tb_blind D b sz _ M, fun U hU hW => ⟨rfl, by rw [hU]; exact hH.moved hW.alike, va_K.moved hW.alike hK, hNL.warm hW⟩⟩ rfl (by rw [List.length_map]; exact hn) hL rfl (lv_room (by rw [tb_map_cat]; exact hcat)) hd hf
end Step
end
section
/-! Part 15: every step, every run, every method -/
section Step
variable {p : Program} {l : Launch} {e : Env} {R : Room} {s : State} {m : MethodId} {args : Array Value} {below : List Frame} {meth : Method} {c : Code} {Q : State → Prop} {D : va_G} {b sz c0 s0 d : Nat} {y : tb_MD} {call : tb_MD → List Value → tb_MM → Option tb_XR}
variable {M : tb_MM} {pc n : Nat} {ls st : List Value} {x' : tb_XS}
theorem tb_hF {locs : List Loc} {a k : Nat} (h : ∀ q ∈ locs, sz ≤ q.base) (ha : sz ≤ a) : ∀ q ∈ locs ++ [(⟨a, k⟩ : Loc)], sz ≤ q.base := by
  intro q hq
  rcases List.mem_append.mp hq with h1 | h1
  · exact h q h1
  · rw [List.mem_singleton] at h1
    subst h1
    exact ha
theorem tb_o0 {o : Nat} {t : Nat × List Nat} {U : State} {H : Heap} (hH : tb_Hp D b sz M U H) (ht : M.1[o]? = some t) (h : t.1 ≠ 54) : sz ≤ tb_ad b sz o := tb_ad_ge (fun q => h ((hH.2.2.2 o t ht).2.mp q))
theorem tb_cl_set {S : tb_St} {o : Nat} {t t' : Nat × List Nat} (ht : M.1[o]? = some t) (h : tb_sz1 t' = tb_sz1 t) : tb_cl (M.1.set o t', S) = tb_cl M ∧ tb_sl (M.1.set o t', S) = tb_sl M := by
  refine ⟨by simp [tb_cl], ?_⟩
  unfold tb_sl
  have e : (M.1.set o t').map tb_sz1 = M.1.map tb_sz1 := by
    apply List.ext_getElem?
    intro j
    rw [List.getElem?_map, List.getElem?_map]
    by_cases q : o = j
    · subst q
      rw [List.getElem?_set_self', ht]
      show some (tb_sz1 t') = some (tb_sz1 t)
      rw [h]
    · rw [List.getElem?_set_ne q]
  show ((M.1.set o t').map tb_sz1).sum = _
  rw [e]

theorem tb_s_iconst (hMul : tb_Mul) (C : tb_Cx p l R s m args meth c D b sz d y call) {v : Int} (hs : tb_sti call y (.iconst v) n pc ls st M = some (.inl x')) (hd : decode y.2.2.1 pc = .ok (.iconst v, n)) (hm : tb_cl M ≤ tb_cl x'.2.2.2 ∧ tb_sl M ≤ tb_sl x'.2.2.2) (hR : tb_cl x'.2.2.2 ≤ R.cells + c0 ∧ tb_sl x'.2.2.2 ≤ R.slots + s0)
    (k : tb_WA p l e R s m args below meth c Q D b sz c0 s0 y x'.1 x'.2.1 x'.2.2.1 x'.2.2.2) : tb_WA p l e R s m args below meth c Q D b sz c0 s0 y pc ls st M := by
  simp only [tb_sti] at hs
  obtain ⟨hg, rfl⟩ := tb_nx_some hs
  obtain rfl : n = 1 := by simpa using hg
  intro arr H locs cells slots hL hH hl hf hc1 hc2
  exact lv_iconst C.1 C.2.1 hd rfl (k arr H locs cells slots hL hH hl hf hc1 hc2)
theorem tb_s_bipush (hMul : tb_Mul) (C : tb_Cx p l R s m args meth c D b sz d y call) {v : Int} (hs : tb_sti call y (.bipush v) n pc ls st M = some (.inl x')) (hd : decode y.2.2.1 pc = .ok (.bipush v, n)) (hm : tb_cl M ≤ tb_cl x'.2.2.2 ∧ tb_sl M ≤ tb_sl x'.2.2.2) (hR : tb_cl x'.2.2.2 ≤ R.cells + c0 ∧ tb_sl x'.2.2.2 ≤ R.slots + s0)
    (k : tb_WA p l e R s m args below meth c Q D b sz c0 s0 y x'.1 x'.2.1 x'.2.2.1 x'.2.2.2) : tb_WA p l e R s m args below meth c Q D b sz c0 s0 y pc ls st M := by
  simp only [tb_sti] at hs
  obtain ⟨hg, rfl⟩ := tb_nx_some hs
  obtain rfl : n = 2 := by simpa using hg
  intro arr H locs cells slots hL hH hl hf hc1 hc2
  exact lv_bipush C.1 C.2.1 hd rfl (k arr H locs cells slots hL hH hl hf hc1 hc2)
theorem tb_s_sipush (hMul : tb_Mul) (C : tb_Cx p l R s m args meth c D b sz d y call) {v : Int} (hs : tb_sti call y (.sipush v) n pc ls st M = some (.inl x')) (hd : decode y.2.2.1 pc = .ok (.sipush v, n)) (hm : tb_cl M ≤ tb_cl x'.2.2.2 ∧ tb_sl M ≤ tb_sl x'.2.2.2) (hR : tb_cl x'.2.2.2 ≤ R.cells + c0 ∧ tb_sl x'.2.2.2 ≤ R.slots + s0)
    (k : tb_WA p l e R s m args below meth c Q D b sz c0 s0 y x'.1 x'.2.1 x'.2.2.1 x'.2.2.2) : tb_WA p l e R s m args below meth c Q D b sz c0 s0 y pc ls st M := by
  simp only [tb_sti] at hs
  obtain ⟨hg, rfl⟩ := tb_nx_some hs
  obtain rfl : n = 3 := by simpa using hg
  intro arr H locs cells slots hL hH hl hf hc1 hc2
  exact lv_sipush C.1 C.2.1 hd rfl (k arr H locs cells slots hL hH hl hf hc1 hc2)
theorem tb_s_ldc (hMul : tb_Mul) (C : tb_Cx p l R s m args meth c D b sz d y call) {i : Nat} (hs : tb_sti call y (.ldc i) n pc ls st M = some (.inl x')) (hd : decode y.2.2.1 pc = .ok (.ldc i, n)) (hm : tb_cl M ≤ tb_cl x'.2.2.2 ∧ tb_sl M ≤ tb_sl x'.2.2.2) (hR : tb_cl x'.2.2.2 ≤ R.cells + c0 ∧ tb_sl x'.2.2.2 ≤ R.slots + s0)
    (k : tb_WA p l e R s m args below meth c Q D b sz c0 s0 y x'.1 x'.2.1 x'.2.2.1 x'.2.2.2) : tb_WA p l e R s m args below meth c Q D b sz c0 s0 y pc ls st M := by
  simp only [tb_sti] at hs
  split at hs
  · rename_i v w hv
    obtain ⟨hg, rfl⟩ := tb_nx_some hs
    obtain rfl : n = 2 := by simpa using hg
    intro arr H locs cells slots hL hH hl hf hc1 hc2
    exact lv_ldc C.1 C.2.1 C.2.2.2.1 (tb_ldc1 C hv) hd (k arr H locs cells slots hL hH hl hf hc1 hc2)
  · cases hs
theorem tb_s_ldcw (hMul : tb_Mul) (C : tb_Cx p l R s m args meth c D b sz d y call) {i : Nat} (hs : tb_sti call y (.ldc_w i) n pc ls st M = some (.inl x')) (hd : decode y.2.2.1 pc = .ok (.ldc_w i, n)) (hm : tb_cl M ≤ tb_cl x'.2.2.2 ∧ tb_sl M ≤ tb_sl x'.2.2.2) (hR : tb_cl x'.2.2.2 ≤ R.cells + c0 ∧ tb_sl x'.2.2.2 ≤ R.slots + s0)
    (k : tb_WA p l e R s m args below meth c Q D b sz c0 s0 y x'.1 x'.2.1 x'.2.2.1 x'.2.2.2) : tb_WA p l e R s m args below meth c Q D b sz c0 s0 y pc ls st M := by
  simp only [tb_sti] at hs
  split at hs
  · rename_i v w hv
    obtain ⟨hg, rfl⟩ := tb_nx_some hs
    obtain rfl : n = 3 := by simpa using hg
    intro arr H locs cells slots hL hH hl hf hc1 hc2
    exact lv_ldcw C.1 C.2.1 C.2.2.2.1 (tb_ldc1 C hv) hd (k arr H locs cells slots hL hH hl hf hc1 hc2)
  · cases hs
theorem tb_s_ldc2 (hMul : tb_Mul) (C : tb_Cx p l R s m args meth c D b sz d y call) {i : Nat} (hs : tb_sti call y (.ldc2_w i) n pc ls st M = some (.inl x')) (hd : decode y.2.2.1 pc = .ok (.ldc2_w i, n)) (hm : tb_cl M ≤ tb_cl x'.2.2.2 ∧ tb_sl M ≤ tb_sl x'.2.2.2) (hR : tb_cl x'.2.2.2 ≤ R.cells + c0 ∧ tb_sl x'.2.2.2 ≤ R.slots + s0)
    (k : tb_WA p l e R s m args below meth c Q D b sz c0 s0 y x'.1 x'.2.1 x'.2.2.1 x'.2.2.2) : tb_WA p l e R s m args below meth c Q D b sz c0 s0 y pc ls st M := by
  simp only [tb_sti] at hs
  split at hs
  · rename_i v w hv
    obtain ⟨hg, rfl⟩ := tb_nx_some hs
    obtain rfl : n = 3 := by simpa using hg
    intro arr H locs cells slots hL hH hl hf hc1 hc2
    have h1 := tb_lgok _ (tb_look_in hv)
    exact lv_ldc2 C.1 C.2.1 C.2.2.2.1 (C.2.2.2.2.1 _ (tb_gt_in (tb_tw_in h1) rfl)) hd (k arr H locs cells slots hL hH hl hf hc1 hc2)
  · cases hs
theorem tb_s_iload_n (hMul : tb_Mul) (C : tb_Cx p l R s m args meth c D b sz d y call) {i : Fin 4} (hs : tb_sti call y (.iload_n i) n pc ls st M = some (.inl x')) (hd : decode y.2.2.1 pc = .ok (.iload_n i, n)) (hm : tb_cl M ≤ tb_cl x'.2.2.2 ∧ tb_sl M ≤ tb_sl x'.2.2.2) (hR : tb_cl x'.2.2.2 ≤ R.cells + c0 ∧ tb_sl x'.2.2.2 ≤ R.slots + s0)
    (k : tb_WA p l e R s m args below meth c Q D b sz c0 s0 y x'.1 x'.2.1 x'.2.2.1 x'.2.2.2) : tb_WA p l e R s m args below meth c Q D b sz c0 s0 y pc ls st M := by
  simp only [tb_sti] at hs
  split at hs
  · rename_i x hv
    obtain ⟨hg, rfl⟩ := tb_nx_some hs
    obtain rfl : n = 1 := by simpa using hg
    intro arr H locs cells slots hL hH hl hf hc1 hc2
    exact lv_iload_n C.1 C.2.1 hd rfl (hL.get hv rfl) (k arr H locs cells slots hL hH hl hf hc1 hc2)
  · cases hs
theorem tb_s_iload (hMul : tb_Mul) (C : tb_Cx p l R s m args meth c D b sz d y call) {i : Nat} (hs : tb_sti call y (.iload i) n pc ls st M = some (.inl x')) (hd : decode y.2.2.1 pc = .ok (.iload i, n)) (hm : tb_cl M ≤ tb_cl x'.2.2.2 ∧ tb_sl M ≤ tb_sl x'.2.2.2) (hR : tb_cl x'.2.2.2 ≤ R.cells + c0 ∧ tb_sl x'.2.2.2 ≤ R.slots + s0)
    (k : tb_WA p l e R s m args below meth c Q D b sz c0 s0 y x'.1 x'.2.1 x'.2.2.1 x'.2.2.2) : tb_WA p l e R s m args below meth c Q D b sz c0 s0 y pc ls st M := by
  simp only [tb_sti] at hs
  split at hs
  · rename_i x hv
    obtain ⟨hg, rfl⟩ := tb_nx_some hs
    obtain rfl : n = 2 := by simpa using hg
    intro arr H locs cells slots hL hH hl hf hc1 hc2
    exact lv_iload C.1 C.2.1 hd (hL.get hv rfl) (k arr H locs cells slots hL hH hl hf hc1 hc2)
  · cases hs
theorem tb_s_aload_n (hMul : tb_Mul) (C : tb_Cx p l R s m args meth c D b sz d y call) {i : Fin 4} (hs : tb_sti call y (.aload_n i) n pc ls st M = some (.inl x')) (hd : decode y.2.2.1 pc = .ok (.aload_n i, n)) (hm : tb_cl M ≤ tb_cl x'.2.2.2 ∧ tb_sl M ≤ tb_sl x'.2.2.2) (hR : tb_cl x'.2.2.2 ≤ R.cells + c0 ∧ tb_sl x'.2.2.2 ≤ R.slots + s0)
    (k : tb_WA p l e R s m args below meth c Q D b sz c0 s0 y x'.1 x'.2.1 x'.2.2.1 x'.2.2.2) : tb_WA p l e R s m args below meth c Q D b sz c0 s0 y pc ls st M := by
  simp only [tb_sti] at hs
  split at hs
  · rename_i x hv
    obtain ⟨hg, rfl⟩ := tb_nx_some hs
    obtain rfl : n = 1 := by simpa using hg
    intro arr H locs cells slots hL hH hl hf hc1 hc2
    exact lv_aload_n C.1 C.2.1 hd rfl (hL.get hv rfl) (k arr H locs cells slots hL hH hl hf hc1 hc2)
  · cases hs
theorem tb_s_istore_n (hMul : tb_Mul) (C : tb_Cx p l R s m args meth c D b sz d y call) {i : Fin 4} (hs : tb_sti call y (.istore_n i) n pc ls st M = some (.inl x')) (hd : decode y.2.2.1 pc = .ok (.istore_n i, n)) (hm : tb_cl M ≤ tb_cl x'.2.2.2 ∧ tb_sl M ≤ tb_sl x'.2.2.2) (hR : tb_cl x'.2.2.2 ≤ R.cells + c0 ∧ tb_sl x'.2.2.2 ≤ R.slots + s0)
    (k : tb_WA p l e R s m args below meth c Q D b sz c0 s0 y x'.1 x'.2.1 x'.2.2.1 x'.2.2.2) : tb_WA p l e R s m args below meth c Q D b sz c0 s0 y pc ls st M := by
  simp only [tb_sti] at hs
  split at hs
  · rename_i x st
    obtain ⟨hg, rfl⟩ := tb_nx_some hs
    simp only [Bool.and_eq_true, beq_iff_eq, decide_eq_true_eq] at hg
    obtain ⟨rfl, hlt⟩ := hg
    intro arr H locs cells slots hL hH hl hf hc1 hc2
    exact lv_istore_n C.1 C.2.1 hd rfl hL.2.1 (by rw [← hL.1]; exact hlt) rfl (fun ls' h' => k ls' H locs cells slots (hL.put rfl h') hH hl hf hc1 hc2)
  · cases hs
theorem tb_s_istore (hMul : tb_Mul) (C : tb_Cx p l R s m args meth c D b sz d y call) {i : Nat} (hs : tb_sti call y (.istore i) n pc ls st M = some (.inl x')) (hd : decode y.2.2.1 pc = .ok (.istore i, n)) (hm : tb_cl M ≤ tb_cl x'.2.2.2 ∧ tb_sl M ≤ tb_sl x'.2.2.2) (hR : tb_cl x'.2.2.2 ≤ R.cells + c0 ∧ tb_sl x'.2.2.2 ≤ R.slots + s0)
    (k : tb_WA p l e R s m args below meth c Q D b sz c0 s0 y x'.1 x'.2.1 x'.2.2.1 x'.2.2.2) : tb_WA p l e R s m args below meth c Q D b sz c0 s0 y pc ls st M := by
  simp only [tb_sti] at hs
  split at hs
  · rename_i x st
    obtain ⟨hg, rfl⟩ := tb_nx_some hs
    simp only [Bool.and_eq_true, beq_iff_eq, decide_eq_true_eq] at hg
    obtain ⟨rfl, hlt⟩ := hg
    intro arr H locs cells slots hL hH hl hf hc1 hc2
    exact lv_istore C.1 C.2.1 hd hL.2.1 (by rw [← hL.1]; exact hlt) rfl (fun ls' h' => k ls' H locs cells slots (hL.put rfl h') hH hl hf hc1 hc2)
  · cases hs
theorem tb_s_astore_n (hMul : tb_Mul) (C : tb_Cx p l R s m args meth c D b sz d y call) {i : Fin 4} (hs : tb_sti call y (.astore_n i) n pc ls st M = some (.inl x')) (hd : decode y.2.2.1 pc = .ok (.astore_n i, n)) (hm : tb_cl M ≤ tb_cl x'.2.2.2 ∧ tb_sl M ≤ tb_sl x'.2.2.2) (hR : tb_cl x'.2.2.2 ≤ R.cells + c0 ∧ tb_sl x'.2.2.2 ≤ R.slots + s0)
    (k : tb_WA p l e R s m args below meth c Q D b sz c0 s0 y x'.1 x'.2.1 x'.2.2.1 x'.2.2.2) : tb_WA p l e R s m args below meth c Q D b sz c0 s0 y pc ls st M := by
  simp only [tb_sti] at hs
  split at hs
  · rename_i x st
    obtain ⟨hg, rfl⟩ := tb_nx_some hs
    simp only [Bool.and_eq_true, beq_iff_eq, decide_eq_true_eq] at hg
    obtain ⟨rfl, hlt⟩ := hg
    intro arr H locs cells slots hL hH hl hf hc1 hc2
    exact lv_astore_n C.1 C.2.1 hd rfl hL.2.1 (by rw [← hL.1]; exact hlt) rfl (fun ls' h' => k ls' H locs cells slots (hL.put rfl h') hH hl hf hc1 hc2)
  · cases hs
theorem tb_s_iinc (hMul : tb_Mul) (C : tb_Cx p l R s m args meth c D b sz d y call) {i : Nat} {v : Int} (hs : tb_sti call y (.iinc i v) n pc ls st M = some (.inl x')) (hd : decode y.2.2.1 pc = .ok (.iinc i v, n)) (hm : tb_cl M ≤ tb_cl x'.2.2.2 ∧ tb_sl M ≤ tb_sl x'.2.2.2) (hR : tb_cl x'.2.2.2 ≤ R.cells + c0 ∧ tb_sl x'.2.2.2 ≤ R.slots + s0)
    (k : tb_WA p l e R s m args below meth c Q D b sz c0 s0 y x'.1 x'.2.1 x'.2.2.1 x'.2.2.2) : tb_WA p l e R s m args below meth c Q D b sz c0 s0 y pc ls st M := by
  simp only [tb_sti] at hs
  split at hs
  · rename_i x hv
    obtain ⟨hg, rfl⟩ := tb_nx_some hs
    obtain rfl : n = 3 := by simpa using hg
    intro arr H locs cells slots hL hH hl hf hc1 hc2
    obtain ⟨k0, hk0⟩ := hL.at hv rfl
    exact lv_iinc C.1 C.2.1 hd hL.2.1 hk0 rfl (by rw [← hL.1]; exact (List.getElem?_eq_some_iff.mp hv).1) rfl (fun ls' h' => k ls' H locs cells slots (hL.put rfl h') hH hl hf hc1 hc2)
  · cases hs
theorem tb_s_dup (hMul : tb_Mul) (C : tb_Cx p l R s m args meth c D b sz d y call) (hs : tb_sti call y (.dup) n pc ls st M = some (.inl x')) (hd : decode y.2.2.1 pc = .ok (.dup, n)) (hm : tb_cl M ≤ tb_cl x'.2.2.2 ∧ tb_sl M ≤ tb_sl x'.2.2.2) (hR : tb_cl x'.2.2.2 ≤ R.cells + c0 ∧ tb_sl x'.2.2.2 ≤ R.slots + s0)
    (k : tb_WA p l e R s m args below meth c Q D b sz c0 s0 y x'.1 x'.2.1 x'.2.2.1 x'.2.2.2) : tb_WA p l e R s m args below meth c Q D b sz c0 s0 y pc ls st M := by
  simp only [tb_sti] at hs
  split at hs
  · obtain ⟨hg, rfl⟩ := tb_nx_some hs
    simp only [Bool.and_eq_true, beq_iff_eq] at hg
    obtain ⟨rfl, h1⟩ := hg
    intro arr H locs cells slots hL hH hl hf hc1 hc2
    exact lv_dup C.1 C.2.1 hd (by rw [tb_cv_cat]; exact h1) (k arr H locs cells slots hL hH hl hf hc1 hc2)
  · cases hs
theorem tb_s_dup_x1 (hMul : tb_Mul) (C : tb_Cx p l R s m args meth c D b sz d y call) (hs : tb_sti call y (.dup_x1) n pc ls st M = some (.inl x')) (hd : decode y.2.2.1 pc = .ok (.dup_x1, n)) (hm : tb_cl M ≤ tb_cl x'.2.2.2 ∧ tb_sl M ≤ tb_sl x'.2.2.2) (hR : tb_cl x'.2.2.2 ≤ R.cells + c0 ∧ tb_sl x'.2.2.2 ≤ R.slots + s0)
    (k : tb_WA p l e R s m args below meth c Q D b sz c0 s0 y x'.1 x'.2.1 x'.2.2.1 x'.2.2.2) : tb_WA p l e R s m args below meth c Q D b sz c0 s0 y pc ls st M := by
  simp only [tb_sti] at hs
  split at hs
  · obtain ⟨hg, rfl⟩ := tb_nx_some hs
    simp only [Bool.and_eq_true, beq_iff_eq] at hg
    obtain ⟨⟨rfl, h1⟩, h2⟩ := hg
    intro arr H locs cells slots hL hH hl hf hc1 hc2
    exact lv_dup_x1 C.1 C.2.1 hd (by rw [tb_cv_cat]; exact h1) (by rw [tb_cv_cat]; exact h2) (k arr H locs cells slots hL hH hl hf hc1 hc2)
  · cases hs
theorem tb_s_iadd (hMul : tb_Mul) (C : tb_Cx p l R s m args meth c D b sz d y call) (hs : tb_sti call y (.iadd) n pc ls st M = some (.inl x')) (hd : decode y.2.2.1 pc = .ok (.iadd, n)) (hm : tb_cl M ≤ tb_cl x'.2.2.2 ∧ tb_sl M ≤ tb_sl x'.2.2.2) (hR : tb_cl x'.2.2.2 ≤ R.cells + c0 ∧ tb_sl x'.2.2.2 ≤ R.slots + s0)
    (k : tb_WA p l e R s m args below meth c Q D b sz c0 s0 y x'.1 x'.2.1 x'.2.2.1 x'.2.2.2) : tb_WA p l e R s m args below meth c Q D b sz c0 s0 y pc ls st M := by
  simp only [tb_sti] at hs
  split at hs
  · obtain ⟨hg, rfl⟩ := tb_nx_some hs
    obtain rfl : n = 1 := by simpa using hg
    intro arr H locs cells slots hL hH hl hf hc1 hc2
    exact lv_iadd C.1 C.2.1 hd (k arr H locs cells slots hL hH hl hf hc1 hc2)
  · cases hs
theorem tb_s_isub (hMul : tb_Mul) (C : tb_Cx p l R s m args meth c D b sz d y call) (hs : tb_sti call y (.isub) n pc ls st M = some (.inl x')) (hd : decode y.2.2.1 pc = .ok (.isub, n)) (hm : tb_cl M ≤ tb_cl x'.2.2.2 ∧ tb_sl M ≤ tb_sl x'.2.2.2) (hR : tb_cl x'.2.2.2 ≤ R.cells + c0 ∧ tb_sl x'.2.2.2 ≤ R.slots + s0)
    (k : tb_WA p l e R s m args below meth c Q D b sz c0 s0 y x'.1 x'.2.1 x'.2.2.1 x'.2.2.2) : tb_WA p l e R s m args below meth c Q D b sz c0 s0 y pc ls st M := by
  simp only [tb_sti] at hs
  split at hs
  · obtain ⟨hg, rfl⟩ := tb_nx_some hs
    obtain rfl : n = 1 := by simpa using hg
    intro arr H locs cells slots hL hH hl hf hc1 hc2
    exact lv_isub C.1 C.2.1 hd (k arr H locs cells slots hL hH hl hf hc1 hc2)
  · cases hs
theorem tb_s_imul (hMul : tb_Mul) (C : tb_Cx p l R s m args meth c D b sz d y call) (hs : tb_sti call y (.imul) n pc ls st M = some (.inl x')) (hd : decode y.2.2.1 pc = .ok (.imul, n)) (hm : tb_cl M ≤ tb_cl x'.2.2.2 ∧ tb_sl M ≤ tb_sl x'.2.2.2) (hR : tb_cl x'.2.2.2 ≤ R.cells + c0 ∧ tb_sl x'.2.2.2 ≤ R.slots + s0)
    (k : tb_WA p l e R s m args below meth c Q D b sz c0 s0 y x'.1 x'.2.1 x'.2.2.1 x'.2.2.2) : tb_WA p l e R s m args below meth c Q D b sz c0 s0 y pc ls st M := by
  simp only [tb_sti] at hs
  split at hs
  · obtain ⟨hg, rfl⟩ := tb_nx_some hs
    obtain rfl : n = 1 := by simpa using hg
    intro arr H locs cells slots hL hH hl hf hc1 hc2
    exact lv_imul C.1 C.2.1 hd (k arr H locs cells slots hL hH hl hf hc1 hc2)
  · cases hs
theorem tb_s_iand (hMul : tb_Mul) (C : tb_Cx p l R s m args meth c D b sz d y call) (hs : tb_sti call y (.iand) n pc ls st M = some (.inl x')) (hd : decode y.2.2.1 pc = .ok (.iand, n)) (hm : tb_cl M ≤ tb_cl x'.2.2.2 ∧ tb_sl M ≤ tb_sl x'.2.2.2) (hR : tb_cl x'.2.2.2 ≤ R.cells + c0 ∧ tb_sl x'.2.2.2 ≤ R.slots + s0)
    (k : tb_WA p l e R s m args below meth c Q D b sz c0 s0 y x'.1 x'.2.1 x'.2.2.1 x'.2.2.2) : tb_WA p l e R s m args below meth c Q D b sz c0 s0 y pc ls st M := by
  simp only [tb_sti] at hs
  split at hs
  · obtain ⟨hg, rfl⟩ := tb_nx_some hs
    obtain rfl : n = 1 := by simpa using hg
    intro arr H locs cells slots hL hH hl hf hc1 hc2
    exact lv_iand C.1 C.2.1 hd (k arr H locs cells slots hL hH hl hf hc1 hc2)
  · cases hs
theorem tb_s_idiv (hMul : tb_Mul) (C : tb_Cx p l R s m args meth c D b sz d y call) (hs : tb_sti call y (.idiv) n pc ls st M = some (.inl x')) (hd : decode y.2.2.1 pc = .ok (.idiv, n)) (hm : tb_cl M ≤ tb_cl x'.2.2.2 ∧ tb_sl M ≤ tb_sl x'.2.2.2) (hR : tb_cl x'.2.2.2 ≤ R.cells + c0 ∧ tb_sl x'.2.2.2 ≤ R.slots + s0)
    (k : tb_WA p l e R s m args below meth c Q D b sz c0 s0 y x'.1 x'.2.1 x'.2.2.1 x'.2.2.2) : tb_WA p l e R s m args below meth c Q D b sz c0 s0 y pc ls st M := by
  simp only [tb_sti] at hs
  split at hs
  · split at hs
    · cases hs
    · rename_i hne
      obtain ⟨hg, rfl⟩ := tb_nx_some hs
      obtain rfl : n = 1 := by simpa using hg
      intro arr H locs cells slots hL hH hl hf hc1 hc2
      exact lv_idiv C.1 C.2.1 hd hne (k arr H locs cells slots hL hH hl hf hc1 hc2)
  · cases hs
theorem tb_s_irem (hMul : tb_Mul) (C : tb_Cx p l R s m args meth c D b sz d y call) (hs : tb_sti call y (.irem) n pc ls st M = some (.inl x')) (hd : decode y.2.2.1 pc = .ok (.irem, n)) (hm : tb_cl M ≤ tb_cl x'.2.2.2 ∧ tb_sl M ≤ tb_sl x'.2.2.2) (hR : tb_cl x'.2.2.2 ≤ R.cells + c0 ∧ tb_sl x'.2.2.2 ≤ R.slots + s0)
    (k : tb_WA p l e R s m args below meth c Q D b sz c0 s0 y x'.1 x'.2.1 x'.2.2.1 x'.2.2.2) : tb_WA p l e R s m args below meth c Q D b sz c0 s0 y pc ls st M := by
  simp only [tb_sti] at hs
  split at hs
  · split at hs
    · cases hs
    · rename_i hne
      obtain ⟨hg, rfl⟩ := tb_nx_some hs
      obtain rfl : n = 1 := by simpa using hg
      intro arr H locs cells slots hL hH hl hf hc1 hc2
      exact lv_irem C.1 C.2.1 hd hne (k arr H locs cells slots hL hH hl hf hc1 hc2)
  · cases hs
theorem tb_s_i2b (hMul : tb_Mul) (C : tb_Cx p l R s m args meth c D b sz d y call) (hs : tb_sti call y (.i2b) n pc ls st M = some (.inl x')) (hd : decode y.2.2.1 pc = .ok (.i2b, n)) (hm : tb_cl M ≤ tb_cl x'.2.2.2 ∧ tb_sl M ≤ tb_sl x'.2.2.2) (hR : tb_cl x'.2.2.2 ≤ R.cells + c0 ∧ tb_sl x'.2.2.2 ≤ R.slots + s0)
    (k : tb_WA p l e R s m args below meth c Q D b sz c0 s0 y x'.1 x'.2.1 x'.2.2.1 x'.2.2.2) : tb_WA p l e R s m args below meth c Q D b sz c0 s0 y pc ls st M := by
  simp only [tb_sti] at hs
  split at hs
  · obtain ⟨hg, rfl⟩ := tb_nx_some hs
    obtain rfl : n = 1 := by simpa using hg
    intro arr H locs cells slots hL hH hl hf hc1 hc2
    exact lv_i2b C.1 C.2.1 hd rfl (k arr H locs cells slots hL hH hl hf hc1 hc2)
  · cases hs
theorem tb_s_i2l (hMul : tb_Mul) (C : tb_Cx p l R s m args meth c D b sz d y call) (hs : tb_sti call y (.i2l) n pc ls st M = some (.inl x')) (hd : decode y.2.2.1 pc = .ok (.i2l, n)) (hm : tb_cl M ≤ tb_cl x'.2.2.2 ∧ tb_sl M ≤ tb_sl x'.2.2.2) (hR : tb_cl x'.2.2.2 ≤ R.cells + c0 ∧ tb_sl x'.2.2.2 ≤ R.slots + s0)
    (k : tb_WA p l e R s m args below meth c Q D b sz c0 s0 y x'.1 x'.2.1 x'.2.2.1 x'.2.2.2) : tb_WA p l e R s m args below meth c Q D b sz c0 s0 y pc ls st M := by
  simp only [tb_sti] at hs
  split at hs
  · obtain ⟨hg, rfl⟩ := tb_nx_some hs
    obtain rfl : n = 1 := by simpa using hg
    intro arr H locs cells slots hL hH hl hf hc1 hc2
    exact lv_i2l C.1 C.2.1 hd rfl (k arr H locs cells slots hL hH hl hf hc1 hc2)
  · cases hs
theorem tb_s_lcmp (hMul : tb_Mul) (C : tb_Cx p l R s m args meth c D b sz d y call) (hs : tb_sti call y (.lcmp) n pc ls st M = some (.inl x')) (hd : decode y.2.2.1 pc = .ok (.lcmp, n)) (hm : tb_cl M ≤ tb_cl x'.2.2.2 ∧ tb_sl M ≤ tb_sl x'.2.2.2) (hR : tb_cl x'.2.2.2 ≤ R.cells + c0 ∧ tb_sl x'.2.2.2 ≤ R.slots + s0)
    (k : tb_WA p l e R s m args below meth c Q D b sz c0 s0 y x'.1 x'.2.1 x'.2.2.1 x'.2.2.2) : tb_WA p l e R s m args below meth c Q D b sz c0 s0 y pc ls st M := by
  simp only [tb_sti] at hs
  split at hs
  · obtain ⟨hg, rfl⟩ := tb_nx_some hs
    obtain rfl : n = 1 := by simpa using hg
    intro arr H locs cells slots hL hH hl hf hc1 hc2
    exact W.lcmp C.1 C.2.1 hd (k arr H locs cells slots hL hH hl hf hc1 hc2)
  · cases hs
theorem tb_s_goto (hMul : tb_Mul) (C : tb_Cx p l R s m args meth c D b sz d y call) {off : Int} (hs : tb_sti call y (.goto off) n pc ls st M = some (.inl x')) (hd : decode y.2.2.1 pc = .ok (.goto off, n)) (hm : tb_cl M ≤ tb_cl x'.2.2.2 ∧ tb_sl M ≤ tb_sl x'.2.2.2) (hR : tb_cl x'.2.2.2 ≤ R.cells + c0 ∧ tb_sl x'.2.2.2 ≤ R.slots + s0)
    (k : tb_WA p l e R s m args below meth c Q D b sz c0 s0 y x'.1 x'.2.1 x'.2.2.1 x'.2.2.2) : tb_WA p l e R s m args below meth c Q D b sz c0 s0 y pc ls st M := by
  simp only [tb_sti] at hs
  obtain ⟨hg, rfl⟩ := tb_nx_some hs
  simp only [Bool.and_eq_true, beq_iff_eq, decide_eq_true_eq] at hg
  obtain ⟨rfl, hp⟩ := hg
  intro arr H locs cells slots hL hH hl hf hc1 hc2
  exact lv_goto C.1 C.2.1 hd (tb_tg_eq hp) (k arr H locs cells slots hL hH hl hf hc1 hc2)
theorem tb_s_ifCond_eq (hMul : tb_Mul) (C : tb_Cx p l R s m args meth c D b sz d y call) {off : Int} (hs : tb_sti call y (.ifCond .eq off) n pc ls st M = some (.inl x')) (hd : decode y.2.2.1 pc = .ok (.ifCond .eq off, n)) (hm : tb_cl M ≤ tb_cl x'.2.2.2 ∧ tb_sl M ≤ tb_sl x'.2.2.2) (hR : tb_cl x'.2.2.2 ≤ R.cells + c0 ∧ tb_sl x'.2.2.2 ≤ R.slots + s0)
    (k : tb_WA p l e R s m args below meth c Q D b sz c0 s0 y x'.1 x'.2.1 x'.2.2.1 x'.2.2.2) : tb_WA p l e R s m args below meth c Q D b sz c0 s0 y pc ls st M := by
  simp only [tb_sti] at hs
  split at hs
  · split at hs
    · rename_i hp
      split at hs
      · rename_i hcd
        obtain ⟨hg, rfl⟩ := tb_nx_some hs
        obtain rfl : n = 3 := by simpa using hg
        intro arr H locs cells slots hL hH hl hf hc1 hc2
        exact lv_if_eq C.1 C.2.1 hd (tb_tg_eq hp) (fun _ => (k arr H locs cells slots hL hH hl hf hc1 hc2)) (fun q => absurd hcd q)
      · rename_i hcd
        obtain ⟨hg, rfl⟩ := tb_nx_some hs
        obtain rfl : n = 3 := by simpa using hg
        intro arr H locs cells slots hL hH hl hf hc1 hc2
        exact lv_if_eq C.1 C.2.1 hd (tb_tg_eq hp) (fun q => absurd q hcd) (fun _ => (k arr H locs cells slots hL hH hl hf hc1 hc2))
    · cases hs
  · cases hs
theorem tb_s_ifCond_ne (hMul : tb_Mul) (C : tb_Cx p l R s m args meth c D b sz d y call) {off : Int} (hs : tb_sti call y (.ifCond .ne off) n pc ls st M = some (.inl x')) (hd : decode y.2.2.1 pc = .ok (.ifCond .ne off, n)) (hm : tb_cl M ≤ tb_cl x'.2.2.2 ∧ tb_sl M ≤ tb_sl x'.2.2.2) (hR : tb_cl x'.2.2.2 ≤ R.cells + c0 ∧ tb_sl x'.2.2.2 ≤ R.slots + s0)
    (k : tb_WA p l e R s m args below meth c Q D b sz c0 s0 y x'.1 x'.2.1 x'.2.2.1 x'.2.2.2) : tb_WA p l e R s m args below meth c Q D b sz c0 s0 y pc ls st M := by
  simp only [tb_sti] at hs
  split at hs
  · split at hs
    · rename_i hp
      split at hs
      · rename_i hcd
        obtain ⟨hg, rfl⟩ := tb_nx_some hs
        obtain rfl : n = 3 := by simpa using hg
        intro arr H locs cells slots hL hH hl hf hc1 hc2
        exact lv_if_ne C.1 C.2.1 hd (tb_tg_eq hp) (fun _ => (k arr H locs cells slots hL hH hl hf hc1 hc2)) (fun q => absurd q hcd)
      · rename_i hcd
        obtain ⟨hg, rfl⟩ := tb_nx_some hs
        obtain rfl : n = 3 := by simpa using hg
        intro arr H locs cells slots hL hH hl hf hc1 hc2
        exact lv_if_ne C.1 C.2.1 hd (tb_tg_eq hp) (fun q => absurd q hcd) (fun _ => (k arr H locs cells slots hL hH hl hf hc1 hc2))
    · cases hs
  · cases hs
theorem tb_s_ifCond_lt (hMul : tb_Mul) (C : tb_Cx p l R s m args meth c D b sz d y call) {off : Int} (hs : tb_sti call y (.ifCond .lt off) n pc ls st M = some (.inl x')) (hd : decode y.2.2.1 pc = .ok (.ifCond .lt off, n)) (hm : tb_cl M ≤ tb_cl x'.2.2.2 ∧ tb_sl M ≤ tb_sl x'.2.2.2) (hR : tb_cl x'.2.2.2 ≤ R.cells + c0 ∧ tb_sl x'.2.2.2 ≤ R.slots + s0)
    (k : tb_WA p l e R s m args below meth c Q D b sz c0 s0 y x'.1 x'.2.1 x'.2.2.1 x'.2.2.2) : tb_WA p l e R s m args below meth c Q D b sz c0 s0 y pc ls st M := by
  simp only [tb_sti] at hs
  split at hs
  · split at hs
    · rename_i hp
      split at hs
      · rename_i hcd
        obtain ⟨hg, rfl⟩ := tb_nx_some hs
        obtain rfl : n = 3 := by simpa using hg
        intro arr H locs cells slots hL hH hl hf hc1 hc2
        exact lv_if_lt C.1 C.2.1 hd (tb_tg_eq hp) (fun _ => (k arr H locs cells slots hL hH hl hf hc1 hc2)) (fun q => absurd hcd q)
      · rename_i hcd
        obtain ⟨hg, rfl⟩ := tb_nx_some hs
        obtain rfl : n = 3 := by simpa using hg
        intro arr H locs cells slots hL hH hl hf hc1 hc2
        exact lv_if_lt C.1 C.2.1 hd (tb_tg_eq hp) (fun q => absurd q hcd) (fun _ => (k arr H locs cells slots hL hH hl hf hc1 hc2))
    · cases hs
  · cases hs
theorem tb_s_ifCond_ge (hMul : tb_Mul) (C : tb_Cx p l R s m args meth c D b sz d y call) {off : Int} (hs : tb_sti call y (.ifCond .ge off) n pc ls st M = some (.inl x')) (hd : decode y.2.2.1 pc = .ok (.ifCond .ge off, n)) (hm : tb_cl M ≤ tb_cl x'.2.2.2 ∧ tb_sl M ≤ tb_sl x'.2.2.2) (hR : tb_cl x'.2.2.2 ≤ R.cells + c0 ∧ tb_sl x'.2.2.2 ≤ R.slots + s0)
    (k : tb_WA p l e R s m args below meth c Q D b sz c0 s0 y x'.1 x'.2.1 x'.2.2.1 x'.2.2.2) : tb_WA p l e R s m args below meth c Q D b sz c0 s0 y pc ls st M := by
  simp only [tb_sti] at hs
  split at hs
  · split at hs
    · rename_i hp
      split at hs
      · rename_i hcd
        obtain ⟨hg, rfl⟩ := tb_nx_some hs
        obtain rfl : n = 3 := by simpa using hg
        intro arr H locs cells slots hL hH hl hf hc1 hc2
        exact lv_if_ge C.1 C.2.1 hd (tb_tg_eq hp) (fun _ => (k arr H locs cells slots hL hH hl hf hc1 hc2)) (fun q => absurd hcd q)
      · rename_i hcd
        obtain ⟨hg, rfl⟩ := tb_nx_some hs
        obtain rfl : n = 3 := by simpa using hg
        intro arr H locs cells slots hL hH hl hf hc1 hc2
        exact lv_if_ge C.1 C.2.1 hd (tb_tg_eq hp) (fun q => absurd q hcd) (fun _ => (k arr H locs cells slots hL hH hl hf hc1 hc2))
    · cases hs
  · cases hs
theorem tb_s_ifCond_gt (hMul : tb_Mul) (C : tb_Cx p l R s m args meth c D b sz d y call) {off : Int} (hs : tb_sti call y (.ifCond .gt off) n pc ls st M = some (.inl x')) (hd : decode y.2.2.1 pc = .ok (.ifCond .gt off, n)) (hm : tb_cl M ≤ tb_cl x'.2.2.2 ∧ tb_sl M ≤ tb_sl x'.2.2.2) (hR : tb_cl x'.2.2.2 ≤ R.cells + c0 ∧ tb_sl x'.2.2.2 ≤ R.slots + s0)
    (k : tb_WA p l e R s m args below meth c Q D b sz c0 s0 y x'.1 x'.2.1 x'.2.2.1 x'.2.2.2) : tb_WA p l e R s m args below meth c Q D b sz c0 s0 y pc ls st M := by
  simp only [tb_sti] at hs
  split at hs
  · split at hs
    · rename_i hp
      split at hs
      · rename_i hcd
        obtain ⟨hg, rfl⟩ := tb_nx_some hs
        obtain rfl : n = 3 := by simpa using hg
        intro arr H locs cells slots hL hH hl hf hc1 hc2
        exact lv_if_gt C.1 C.2.1 hd (tb_tg_eq hp) (fun _ => (k arr H locs cells slots hL hH hl hf hc1 hc2)) (fun q => absurd hcd q)
      · rename_i hcd
        obtain ⟨hg, rfl⟩ := tb_nx_some hs
        obtain rfl : n = 3 := by simpa using hg
        intro arr H locs cells slots hL hH hl hf hc1 hc2
        exact lv_if_gt C.1 C.2.1 hd (tb_tg_eq hp) (fun q => absurd q hcd) (fun _ => (k arr H locs cells slots hL hH hl hf hc1 hc2))
    · cases hs
  · cases hs
theorem tb_s_ifCond_le (hMul : tb_Mul) (C : tb_Cx p l R s m args meth c D b sz d y call) {off : Int} (hs : tb_sti call y (.ifCond .le off) n pc ls st M = some (.inl x')) (hd : decode y.2.2.1 pc = .ok (.ifCond .le off, n)) (hm : tb_cl M ≤ tb_cl x'.2.2.2 ∧ tb_sl M ≤ tb_sl x'.2.2.2) (hR : tb_cl x'.2.2.2 ≤ R.cells + c0 ∧ tb_sl x'.2.2.2 ≤ R.slots + s0)
    (k : tb_WA p l e R s m args below meth c Q D b sz c0 s0 y x'.1 x'.2.1 x'.2.2.1 x'.2.2.2) : tb_WA p l e R s m args below meth c Q D b sz c0 s0 y pc ls st M := by
  simp only [tb_sti] at hs
  split at hs
  · split at hs
    · rename_i hp
      split at hs
      · rename_i hcd
        obtain ⟨hg, rfl⟩ := tb_nx_some hs
        obtain rfl : n = 3 := by simpa using hg
        intro arr H locs cells slots hL hH hl hf hc1 hc2
        exact lv_if_le C.1 C.2.1 hd (tb_tg_eq hp) (fun _ => (k arr H locs cells slots hL hH hl hf hc1 hc2)) (fun q => absurd hcd q)
      · rename_i hcd
        obtain ⟨hg, rfl⟩ := tb_nx_some hs
        obtain rfl : n = 3 := by simpa using hg
        intro arr H locs cells slots hL hH hl hf hc1 hc2
        exact lv_if_le C.1 C.2.1 hd (tb_tg_eq hp) (fun q => absurd q hcd) (fun _ => (k arr H locs cells slots hL hH hl hf hc1 hc2))
    · cases hs
  · cases hs
theorem tb_s_if_icmp_eq (hMul : tb_Mul) (C : tb_Cx p l R s m args meth c D b sz d y call) {off : Int} (hs : tb_sti call y (.if_icmp .eq off) n pc ls st M = some (.inl x')) (hd : decode y.2.2.1 pc = .ok (.if_icmp .eq off, n)) (hm : tb_cl M ≤ tb_cl x'.2.2.2 ∧ tb_sl M ≤ tb_sl x'.2.2.2) (hR : tb_cl x'.2.2.2 ≤ R.cells + c0 ∧ tb_sl x'.2.2.2 ≤ R.slots + s0)
    (k : tb_WA p l e R s m args below meth c Q D b sz c0 s0 y x'.1 x'.2.1 x'.2.2.1 x'.2.2.2) : tb_WA p l e R s m args below meth c Q D b sz c0 s0 y pc ls st M := by
  simp only [tb_sti] at hs
  split at hs
  · split at hs
    · rename_i hp
      split at hs
      · rename_i hcd
        obtain ⟨hg, rfl⟩ := tb_nx_some hs
        obtain rfl : n = 3 := by simpa using hg
        intro arr H locs cells slots hL hH hl hf hc1 hc2
        exact lv_icmp_eq C.1 C.2.1 hd (tb_tg_eq hp) (fun _ => (k arr H locs cells slots hL hH hl hf hc1 hc2)) (fun q => absurd hcd q)
      · rename_i hcd
        obtain ⟨hg, rfl⟩ := tb_nx_some hs
        obtain rfl : n = 3 := by simpa using hg
        intro arr H locs cells slots hL hH hl hf hc1 hc2
        exact lv_icmp_eq C.1 C.2.1 hd (tb_tg_eq hp) (fun q => absurd q hcd) (fun _ => (k arr H locs cells slots hL hH hl hf hc1 hc2))
    · cases hs
  · cases hs
theorem tb_s_if_icmp_ne (hMul : tb_Mul) (C : tb_Cx p l R s m args meth c D b sz d y call) {off : Int} (hs : tb_sti call y (.if_icmp .ne off) n pc ls st M = some (.inl x')) (hd : decode y.2.2.1 pc = .ok (.if_icmp .ne off, n)) (hm : tb_cl M ≤ tb_cl x'.2.2.2 ∧ tb_sl M ≤ tb_sl x'.2.2.2) (hR : tb_cl x'.2.2.2 ≤ R.cells + c0 ∧ tb_sl x'.2.2.2 ≤ R.slots + s0)
    (k : tb_WA p l e R s m args below meth c Q D b sz c0 s0 y x'.1 x'.2.1 x'.2.2.1 x'.2.2.2) : tb_WA p l e R s m args below meth c Q D b sz c0 s0 y pc ls st M := by
  simp only [tb_sti] at hs
  split at hs
  · split at hs
    · rename_i hp
      split at hs
      · rename_i hcd
        obtain ⟨hg, rfl⟩ := tb_nx_some hs
        obtain rfl : n = 3 := by simpa using hg
        intro arr H locs cells slots hL hH hl hf hc1 hc2
        exact lv_icmp_ne C.1 C.2.1 hd (tb_tg_eq hp) (fun _ => (k arr H locs cells slots hL hH hl hf hc1 hc2)) (fun q => absurd q hcd)
      · rename_i hcd
        obtain ⟨hg, rfl⟩ := tb_nx_some hs
        obtain rfl : n = 3 := by simpa using hg
        intro arr H locs cells slots hL hH hl hf hc1 hc2
        exact lv_icmp_ne C.1 C.2.1 hd (tb_tg_eq hp) (fun q => absurd q hcd) (fun _ => (k arr H locs cells slots hL hH hl hf hc1 hc2))
    · cases hs
  · cases hs
theorem tb_s_if_icmp_lt (hMul : tb_Mul) (C : tb_Cx p l R s m args meth c D b sz d y call) {off : Int} (hs : tb_sti call y (.if_icmp .lt off) n pc ls st M = some (.inl x')) (hd : decode y.2.2.1 pc = .ok (.if_icmp .lt off, n)) (hm : tb_cl M ≤ tb_cl x'.2.2.2 ∧ tb_sl M ≤ tb_sl x'.2.2.2) (hR : tb_cl x'.2.2.2 ≤ R.cells + c0 ∧ tb_sl x'.2.2.2 ≤ R.slots + s0)
    (k : tb_WA p l e R s m args below meth c Q D b sz c0 s0 y x'.1 x'.2.1 x'.2.2.1 x'.2.2.2) : tb_WA p l e R s m args below meth c Q D b sz c0 s0 y pc ls st M := by
  simp only [tb_sti] at hs
  split at hs
  · split at hs
    · rename_i hp
      split at hs
      · rename_i hcd
        obtain ⟨hg, rfl⟩ := tb_nx_some hs
        obtain rfl : n = 3 := by simpa using hg
        intro arr H locs cells slots hL hH hl hf hc1 hc2
        exact lv_icmp_lt C.1 C.2.1 hd (tb_tg_eq hp) (fun _ => (k arr H locs cells slots hL hH hl hf hc1 hc2)) (fun q => absurd hcd q)
      · rename_i hcd
        obtain ⟨hg, rfl⟩ := tb_nx_some hs
        obtain rfl : n = 3 := by simpa using hg
        intro arr H locs cells slots hL hH hl hf hc1 hc2
        exact lv_icmp_lt C.1 C.2.1 hd (tb_tg_eq hp) (fun q => absurd q hcd) (fun _ => (k arr H locs cells slots hL hH hl hf hc1 hc2))
    · cases hs
  · cases hs
theorem tb_s_if_icmp_ge (hMul : tb_Mul) (C : tb_Cx p l R s m args meth c D b sz d y call) {off : Int} (hs : tb_sti call y (.if_icmp .ge off) n pc ls st M = some (.inl x')) (hd : decode y.2.2.1 pc = .ok (.if_icmp .ge off, n)) (hm : tb_cl M ≤ tb_cl x'.2.2.2 ∧ tb_sl M ≤ tb_sl x'.2.2.2) (hR : tb_cl x'.2.2.2 ≤ R.cells + c0 ∧ tb_sl x'.2.2.2 ≤ R.slots + s0)
    (k : tb_WA p l e R s m args below meth c Q D b sz c0 s0 y x'.1 x'.2.1 x'.2.2.1 x'.2.2.2) : tb_WA p l e R s m args below meth c Q D b sz c0 s0 y pc ls st M := by
  simp only [tb_sti] at hs
  split at hs
  · split at hs
    · rename_i hp
      split at hs
      · rename_i hcd
        obtain ⟨hg, rfl⟩ := tb_nx_some hs
        obtain rfl : n = 3 := by simpa using hg
        intro arr H locs cells slots hL hH hl hf hc1 hc2
        exact lv_icmp_ge C.1 C.2.1 hd (tb_tg_eq hp) (fun _ => (k arr H locs cells slots hL hH hl hf hc1 hc2)) (fun q => absurd hcd q)
      · rename_i hcd
        obtain ⟨hg, rfl⟩ := tb_nx_some hs
        obtain rfl : n = 3 := by simpa using hg
        intro arr H locs cells slots hL hH hl hf hc1 hc2
        exact lv_icmp_ge C.1 C.2.1 hd (tb_tg_eq hp) (fun q => absurd q hcd) (fun _ => (k arr H locs cells slots hL hH hl hf hc1 hc2))
    · cases hs
  · cases hs
theorem tb_s_if_icmp_gt (hMul : tb_Mul) (C : tb_Cx p l R s m args meth c D b sz d y call) {off : Int} (hs : tb_sti call y (.if_icmp .gt off) n pc ls st M = some (.inl x')) (hd : decode y.2.2.1 pc = .ok (.if_icmp .gt off, n)) (hm : tb_cl M ≤ tb_cl x'.2.2.2 ∧ tb_sl M ≤ tb_sl x'.2.2.2) (hR : tb_cl x'.2.2.2 ≤ R.cells + c0 ∧ tb_sl x'.2.2.2 ≤ R.slots + s0)
    (k : tb_WA p l e R s m args below meth c Q D b sz c0 s0 y x'.1 x'.2.1 x'.2.2.1 x'.2.2.2) : tb_WA p l e R s m args below meth c Q D b sz c0 s0 y pc ls st M := by
  simp only [tb_sti] at hs
  split at hs
  · split at hs
    · rename_i hp
      split at hs
      · rename_i hcd
        obtain ⟨hg, rfl⟩ := tb_nx_some hs
        obtain rfl : n = 3 := by simpa using hg
        intro arr H locs cells slots hL hH hl hf hc1 hc2
        exact lv_icmp_gt C.1 C.2.1 hd (tb_tg_eq hp) (fun _ => (k arr H locs cells slots hL hH hl hf hc1 hc2)) (fun q => absurd hcd q)
      · rename_i hcd
        obtain ⟨hg, rfl⟩ := tb_nx_some hs
        obtain rfl : n = 3 := by simpa using hg
        intro arr H locs cells slots hL hH hl hf hc1 hc2
        exact lv_icmp_gt C.1 C.2.1 hd (tb_tg_eq hp) (fun q => absurd q hcd) (fun _ => (k arr H locs cells slots hL hH hl hf hc1 hc2))
    · cases hs
  · cases hs
theorem tb_s_if_icmp_le (hMul : tb_Mul) (C : tb_Cx p l R s m args meth c D b sz d y call) {off : Int} (hs : tb_sti call y (.if_icmp .le off) n pc ls st M = some (.inl x')) (hd : decode y.2.2.1 pc = .ok (.if_icmp .le off, n)) (hm : tb_cl M ≤ tb_cl x'.2.2.2 ∧ tb_sl M ≤ tb_sl x'.2.2.2) (hR : tb_cl x'.2.2.2 ≤ R.cells + c0 ∧ tb_sl x'.2.2.2 ≤ R.slots + s0)
    (k : tb_WA p l e R s m args below meth c Q D b sz c0 s0 y x'.1 x'.2.1 x'.2.2.1 x'.2.2.2) : tb_WA p l e R s m args below meth c Q D b sz c0 s0 y pc ls st M := by
  simp only [tb_sti] at hs
  split at hs
  · split at hs
    · rename_i hp
      split at hs
      · rename_i hcd
        obtain ⟨hg, rfl⟩ := tb_nx_some hs
        obtain rfl : n = 3 := by simpa using hg
        intro arr H locs cells slots hL hH hl hf hc1 hc2
        exact lv_icmp_le C.1 C.2.1 hd (tb_tg_eq hp) (fun _ => (k arr H locs cells slots hL hH hl hf hc1 hc2)) (fun q => absurd hcd q)
      · rename_i hcd
        obtain ⟨hg, rfl⟩ := tb_nx_some hs
        obtain rfl : n = 3 := by simpa using hg
        intro arr H locs cells slots hL hH hl hf hc1 hc2
        exact lv_icmp_le C.1 C.2.1 hd (tb_tg_eq hp) (fun q => absurd q hcd) (fun _ => (k arr H locs cells slots hL hH hl hf hc1 hc2))
    · cases hs
  · cases hs
theorem tb_s_tableswitch (hMul : tb_Mul) (C : tb_Cx p l R s m args meth c D b sz d y call) {dd lo hi : Int} {offs : Array Int} (hs : tb_sti call y (.tableswitch dd lo hi offs) n pc ls st M = some (.inl x')) (hd : decode y.2.2.1 pc = .ok (.tableswitch dd lo hi offs, n)) (hm : tb_cl M ≤ tb_cl x'.2.2.2 ∧ tb_sl M ≤ tb_sl x'.2.2.2) (hR : tb_cl x'.2.2.2 ≤ R.cells + c0 ∧ tb_sl x'.2.2.2 ≤ R.slots + s0)
    (k : tb_WA p l e R s m args below meth c Q D b sz c0 s0 y x'.1 x'.2.1 x'.2.2.1 x'.2.2.2) : tb_WA p l e R s m args below meth c Q D b sz c0 s0 y pc ls st M := by
  simp only [tb_sti] at hs
  split at hs
  · split at hs
    · rename_i hor
      obtain ⟨hg, rfl⟩ := tb_nx_some hs
      simp only [decide_eq_true_eq] at hg
      intro arr H locs cells slots hL hH hl hf hc1 hc2
      exact lv_tableOut C.1 C.2.1 hd hor (tb_tg_eq hg) (k arr H locs cells slots hL hH hl hf hc1 hc2)
    · rename_i hor
      split at hs
      · rename_i off ho
        obtain ⟨hg, rfl⟩ := tb_nx_some hs
        simp only [decide_eq_true_eq] at hg
        intro arr H locs cells slots hL hH hl hf hc1 hc2
        exact lv_tableIn C.1 C.2.1 hd (fun q => hor (Or.inl q)) (fun q => hor (Or.inr q)) ho (tb_tg_eq hg) (k arr H locs cells slots hL hH hl hf hc1 hc2)
      · cases hs
  · cases hs
theorem tb_s_lookupswitch (hMul : tb_Mul) (C : tb_Cx p l R s m args meth c D b sz d y call) {dd : Int} {ps : Array (Int × Int)} (hs : tb_sti call y (.lookupswitch dd ps) n pc ls st M = some (.inl x')) (hd : decode y.2.2.1 pc = .ok (.lookupswitch dd ps, n)) (hm : tb_cl M ≤ tb_cl x'.2.2.2 ∧ tb_sl M ≤ tb_sl x'.2.2.2) (hR : tb_cl x'.2.2.2 ≤ R.cells + c0 ∧ tb_sl x'.2.2.2 ≤ R.slots + s0)
    (k : tb_WA p l e R s m args below meth c Q D b sz c0 s0 y x'.1 x'.2.1 x'.2.2.1 x'.2.2.2) : tb_WA p l e R s m args below meth c Q D b sz c0 s0 y pc ls st M := by
  simp only [tb_sti] at hs
  split at hs
  · obtain ⟨hg, rfl⟩ := tb_nx_some hs
    rw [Bool.and_eq_true] at hg
    intro arr H locs cells slots hL hH hl hf hc1 hc2
    exact lv_lookup C.1 C.2.1 hd hg.1 rfl (tb_tg_eq (of_decide_eq_true hg.2)) (k arr H locs cells slots hL hH hl hf hc1 hc2)
  · cases hs
theorem tb_s_getfield (hMul : tb_Mul) (C : tb_Cx p l R s m args meth c D b sz d y call) {i : Nat} (hs : tb_sti call y (.getfield i) n pc ls st M = some (.inl x')) (hd : decode y.2.2.1 pc = .ok (.getfield i, n)) (hm : tb_cl M ≤ tb_cl x'.2.2.2 ∧ tb_sl M ≤ tb_sl x'.2.2.2) (hR : tb_cl x'.2.2.2 ≤ R.cells + c0 ∧ tb_sl x'.2.2.2 ≤ R.slots + s0)
    (k : tb_WA p l e R s m args below meth c Q D b sz c0 s0 y x'.1 x'.2.1 x'.2.2.1 x'.2.2.2) : tb_WA p l e R s m args below meth c Q D b sz c0 s0 y pc ls st M := by
  simp only [tb_sti] at hs
  split at hs
  · rename_i ci f w hv
    split at hs
    · rename_i o st
      split at hs
      · rename_i t ht
        split at hs
        · rename_i hc
          obtain ⟨hg, rfl⟩ := tb_nx_some hs
          obtain rfl : n = 3 := by simpa using hg
          intro arr H locs cells slots hL hH hl hf hc1 hc2
          exact tb_getf C hv hH ht hc hd (k arr H locs cells slots hL hH hl hf hc1 hc2)
        · cases hs
      · cases hs
    · cases hs
  · cases hs
theorem tb_s_putfield (hMul : tb_Mul) (C : tb_Cx p l R s m args meth c D b sz d y call) {i : Nat} (hs : tb_sti call y (.putfield i) n pc ls st M = some (.inl x')) (hd : decode y.2.2.1 pc = .ok (.putfield i, n)) (hm : tb_cl M ≤ tb_cl x'.2.2.2 ∧ tb_sl M ≤ tb_sl x'.2.2.2) (hR : tb_cl x'.2.2.2 ≤ R.cells + c0 ∧ tb_sl x'.2.2.2 ≤ R.slots + s0)
    (k : tb_WA p l e R s m args below meth c Q D b sz c0 s0 y x'.1 x'.2.1 x'.2.2.1 x'.2.2.2) : tb_WA p l e R s m args below meth c Q D b sz c0 s0 y pc ls st M := by
  simp only [tb_sti] at hs
  split at hs
  · rename_i ci f w hv
    split at hs
    · rename_i v o st
      split at hs
      · rename_i t ht
        split at hs
        · rename_i hc
          obtain ⟨hg, rfl⟩ := tb_nx_some hs
          obtain rfl : n = 3 := by simpa using hg
          intro arr H locs cells slots hL hH hl hf hc1 hc2
          have h9 := (tb_fld C hv).2.1
          exact tb_putf C hv hH ht hc.1 hc.2 hd (fun H1 hH1 hf1 => k arr H1 _ cells slots hL hH1 (tb_hF hl (tb_o0 hH ht (by have := hc.1; omega))) (fun q hq => (hf1 q hq).trans (hf q hq)) hc1 hc2)
        · cases hs
      · cases hs
    · rename_i v o st
      split at hs
      · rename_i t ht
        split at hs
        · rename_i hc
          obtain ⟨a1, a2, a3, a4, a5⟩ := hc
          obtain ⟨hg, rfl⟩ := tb_nx_some hs
          obtain rfl : n = 3 := by simpa using hg
          intro arr H locs cells slots hL hH hl hf hc1 hc2
          have h9 := (tb_fld C hv).2.1
          have hse := tb_cl_set (S := M.2) (t' := (ci, t.2.set f (v + 1))) ht (by
            unfold tb_sz1
            rw [if_neg (by omega), if_neg (by omega), if_neg (by omega), if_neg (by omega), List.length_set])
          exact tb_putr C hv hH ht a1 a2 a4 a5 hd (fun H1 hH1 hf1 => k arr H1 _ cells slots hL hH1 (tb_hF hl (tb_o0 hH ht (by omega))) (fun q hq => (hf1 q hq).trans (hf q hq)) (hc1.trans hse.1.symm) (hc2.trans hse.2.symm))
        · cases hs
      · cases hs
    · cases hs
  · cases hs
theorem tb_s_iaload (hMul : tb_Mul) (C : tb_Cx p l R s m args meth c D b sz d y call) (hs : tb_sti call y (.iaload) n pc ls st M = some (.inl x')) (hd : decode y.2.2.1 pc = .ok (.iaload, n)) (hm : tb_cl M ≤ tb_cl x'.2.2.2 ∧ tb_sl M ≤ tb_sl x'.2.2.2) (hR : tb_cl x'.2.2.2 ≤ R.cells + c0 ∧ tb_sl x'.2.2.2 ≤ R.slots + s0)
    (k : tb_WA p l e R s m args below meth c Q D b sz c0 s0 y x'.1 x'.2.1 x'.2.2.1 x'.2.2.2) : tb_WA p l e R s m args below meth c Q D b sz c0 s0 y pc ls st M := by
  simp only [tb_sti] at hs
  split at hs
  · rename_i i o st
    split at hs
    · rename_i t ht
      split at hs
      · rename_i hk
        obtain ⟨j, hj, hs⟩ := Option.bind_eq_some_iff.mp hs
        obtain ⟨hg, rfl⟩ := tb_nx_some hs
        obtain rfl : n = 1 := by simpa using hg
        intro arr H locs cells slots hL hH hl hf hc1 hc2
        exact tb_iald C hH ht hk hj hd (k arr H locs cells slots hL hH hl hf hc1 hc2)
      · cases hs
    · cases hs
  · cases hs
theorem tb_s_baload (hMul : tb_Mul) (C : tb_Cx p l R s m args meth c D b sz d y call) (hs : tb_sti call y (.baload) n pc ls st M = some (.inl x')) (hd : decode y.2.2.1 pc = .ok (.baload, n)) (hm : tb_cl M ≤ tb_cl x'.2.2.2 ∧ tb_sl M ≤ tb_sl x'.2.2.2) (hR : tb_cl x'.2.2.2 ≤ R.cells + c0 ∧ tb_sl x'.2.2.2 ≤ R.slots + s0)
    (k : tb_WA p l e R s m args below meth c Q D b sz c0 s0 y x'.1 x'.2.1 x'.2.2.1 x'.2.2.2) : tb_WA p l e R s m args below meth c Q D b sz c0 s0 y pc ls st M := by
  simp only [tb_sti] at hs
  split at hs
  · rename_i i o st
    split at hs
    · rename_i t ht
      split at hs
      · rename_i hk
        obtain ⟨j, hj, hs⟩ := Option.bind_eq_some_iff.mp hs
        obtain ⟨hg, rfl⟩ := tb_nx_some hs
        obtain rfl : n = 1 := by simpa using hg
        intro arr H locs cells slots hL hH hl hf hc1 hc2
        exact tb_bald C hH ht hk hj hd (k arr H locs cells slots hL hH hl hf hc1 hc2)
      · cases hs
    · cases hs
  · cases hs
theorem tb_s_aaload (hMul : tb_Mul) (C : tb_Cx p l R s m args meth c D b sz d y call) (hs : tb_sti call y (.aaload) n pc ls st M = some (.inl x')) (hd : decode y.2.2.1 pc = .ok (.aaload, n)) (hm : tb_cl M ≤ tb_cl x'.2.2.2 ∧ tb_sl M ≤ tb_sl x'.2.2.2) (hR : tb_cl x'.2.2.2 ≤ R.cells + c0 ∧ tb_sl x'.2.2.2 ≤ R.slots + s0)
    (k : tb_WA p l e R s m args below meth c Q D b sz c0 s0 y x'.1 x'.2.1 x'.2.2.1 x'.2.2.2) : tb_WA p l e R s m args below meth c Q D b sz c0 s0 y pc ls st M := by
  simp only [tb_sti] at hs
  split at hs
  · rename_i i o st
    split at hs
    · rename_i t ht
      split at hs
      · rename_i hk
        obtain ⟨j, hj, hs⟩ := Option.bind_eq_some_iff.mp hs
        obtain ⟨hg, rfl⟩ := tb_nx_some hs
        obtain rfl : n = 1 := by simpa using hg
        intro arr H locs cells slots hL hH hl hf hc1 hc2
        exact tb_aald C hH ht hk hj hd (k arr H locs cells slots hL hH hl hf hc1 hc2)
      · cases hs
    · cases hs
  · cases hs
theorem tb_s_iastore (hMul : tb_Mul) (C : tb_Cx p l R s m args meth c D b sz d y call) (hs : tb_sti call y (.iastore) n pc ls st M = some (.inl x')) (hd : decode y.2.2.1 pc = .ok (.iastore, n)) (hm : tb_cl M ≤ tb_cl x'.2.2.2 ∧ tb_sl M ≤ tb_sl x'.2.2.2) (hR : tb_cl x'.2.2.2 ≤ R.cells + c0 ∧ tb_sl x'.2.2.2 ≤ R.slots + s0)
    (k : tb_WA p l e R s m args below meth c Q D b sz c0 s0 y x'.1 x'.2.1 x'.2.2.1 x'.2.2.2) : tb_WA p l e R s m args below meth c Q D b sz c0 s0 y pc ls st M := by
  simp only [tb_sti] at hs
  split at hs
  · rename_i v i o st
    split at hs
    · rename_i t ht
      split at hs
      · rename_i hk
        obtain ⟨j, hj, hs⟩ := Option.bind_eq_some_iff.mp hs
        obtain ⟨hg, rfl⟩ := tb_nx_some hs
        obtain rfl : n = 1 := by simpa using hg
        intro arr H locs cells slots hL hH hl hf hc1 hc2
        exact tb_iast C hH ht hk hj hd (fun H1 hH1 hf1 => k arr H1 _ cells slots hL hH1 (tb_hF hl (tb_o0 hH ht (by omega))) (fun q hq => (hf1 q hq).trans (hf q hq)) hc1 hc2)
      · cases hs
    · cases hs
  · cases hs
theorem tb_s_bastore (hMul : tb_Mul) (C : tb_Cx p l R s m args meth c D b sz d y call) (hs : tb_sti call y (.bastore) n pc ls st M = some (.inl x')) (hd : decode y.2.2.1 pc = .ok (.bastore, n)) (hm : tb_cl M ≤ tb_cl x'.2.2.2 ∧ tb_sl M ≤ tb_sl x'.2.2.2) (hR : tb_cl x'.2.2.2 ≤ R.cells + c0 ∧ tb_sl x'.2.2.2 ≤ R.slots + s0)
    (k : tb_WA p l e R s m args below meth c Q D b sz c0 s0 y x'.1 x'.2.1 x'.2.2.1 x'.2.2.2) : tb_WA p l e R s m args below meth c Q D b sz c0 s0 y pc ls st M := by
  simp only [tb_sti] at hs
  split at hs
  · rename_i v i o st
    split at hs
    · rename_i t ht
      split at hs
      · rename_i hk
        obtain ⟨j, hj, hs⟩ := Option.bind_eq_some_iff.mp hs
        obtain ⟨hg, rfl⟩ := tb_nx_some hs
        obtain rfl : n = 1 := by simpa using hg
        intro arr H locs cells slots hL hH hl hf hc1 hc2
        exact tb_bast C hH ht hk hj hd (fun H1 hH1 hf1 => k arr H1 _ cells slots hL hH1 (tb_hF hl (tb_o0 hH ht (by omega))) (fun q hq => (hf1 q hq).trans (hf q hq)) hc1 hc2)
      · cases hs
    · cases hs
  · cases hs
theorem tb_s_arraylength (hMul : tb_Mul) (C : tb_Cx p l R s m args meth c D b sz d y call) (hs : tb_sti call y (.arraylength) n pc ls st M = some (.inl x')) (hd : decode y.2.2.1 pc = .ok (.arraylength, n)) (hm : tb_cl M ≤ tb_cl x'.2.2.2 ∧ tb_sl M ≤ tb_sl x'.2.2.2) (hR : tb_cl x'.2.2.2 ≤ R.cells + c0 ∧ tb_sl x'.2.2.2 ≤ R.slots + s0)
    (k : tb_WA p l e R s m args below meth c Q D b sz c0 s0 y x'.1 x'.2.1 x'.2.2.1 x'.2.2.2) : tb_WA p l e R s m args below meth c Q D b sz c0 s0 y pc ls st M := by
  simp only [tb_sti] at hs
  split at hs
  · rename_i o st
    split at hs
    · rename_i t ht
      split at hs
      · rename_i hk
        obtain ⟨hg, rfl⟩ := tb_nx_some hs
        obtain rfl : n = 1 := by simpa using hg
        intro arr H locs cells slots hL hH hl hf hc1 hc2
        exact tb_alen C hH ht hk.1 hk.2 hd (k arr H locs cells slots hL hH hl hf hc1 hc2)
      · cases hs
    · cases hs
  · cases hs
theorem tb_s_new (hMul : tb_Mul) (C : tb_Cx p l R s m args meth c D b sz d y call) {i : Nat} (hs : tb_sti call y (.new i) n pc ls st M = some (.inl x')) (hd : decode y.2.2.1 pc = .ok (.new i, n)) (hm : tb_cl M ≤ tb_cl x'.2.2.2 ∧ tb_sl M ≤ tb_sl x'.2.2.2) (hR : tb_cl x'.2.2.2 ≤ R.cells + c0 ∧ tb_sl x'.2.2.2 ≤ R.slots + s0)
    (k : tb_WA p l e R s m args below meth c Q D b sz c0 s0 y x'.1 x'.2.1 x'.2.2.1 x'.2.2.2) : tb_WA p l e R s m args below meth c Q D b sz c0 s0 y pc ls st M := by
  simp only [tb_sti] at hs
  split at hs
  · rename_i ci w hv
    obtain ⟨hg, rfl⟩ := tb_nx_some hs
    simp only [Bool.and_eq_true, beq_iff_eq, decide_eq_true_eq] at hg
    obtain ⟨rfl, hp⟩ := hg
    intro arr H locs cells slots hL hH hl hf hc1 hc2
    have h9 : ci < 9 := (tb_nok _ (tb_look_in hv)).2.2.2
    have e1 : tb_cl (M.1 ++ [(ci, List.replicate (tb_vc ci).2.2 0)], tb_zr M.2 M.1.length) = tb_cl M + 1 := by simp [tb_cl]
    have e2 : tb_sl (M.1 ++ [(ci, List.replicate (tb_vc ci).2.2 0)], tb_zr M.2 M.1.length) = tb_sl M + (tb_vc ci).2.2 := by
      unfold tb_sl
      rw [List.map_append, List.sum_append]
      congr 1
      show tb_sz1 (ci, List.replicate (tb_vc ci).2.2 0) + 0 = _
      unfold tb_sz1
      show (if 50 ≤ ci ∧ ci ≤ 52 then _ else if ci = 54 then _ else _) + 0 = _
      rw [if_neg (by omega), if_neg (by omega)]
      simp
    have hR1 := hR.1
    have hR2 := hR.2
    dsimp only at hR1 hR2
    rw [e1] at hR1
    rw [e2] at hR2
    exact tb_new C (w1 := w.1) (w2 := w.2.1) (w3 := w.2.2) hv hH (by omega) (by omega) hd (fun H1 hH1 hf1 => k arr H1 locs _ _ hL hH1 hl (fun q hq => (hf1 q hq).trans (hf q hq)) (by dsimp only; rw [e1]; omega) (by dsimp only; rw [e2]; omega))
  · cases hs
theorem tb_s_newarray (hMul : tb_Mul) (C : tb_Cx p l R s m args meth c D b sz d y call) {a : ArrayType} (hs : tb_sti call y (.newarray a) n pc ls st M = some (.inl x')) (hd : decode y.2.2.1 pc = .ok (.newarray a, n)) (hm : tb_cl M ≤ tb_cl x'.2.2.2 ∧ tb_sl M ≤ tb_sl x'.2.2.2) (hR : tb_cl x'.2.2.2 ≤ R.cells + c0 ∧ tb_sl x'.2.2.2 ≤ R.slots + s0)
    (k : tb_WA p l e R s m args below meth c Q D b sz c0 s0 y x'.1 x'.2.1 x'.2.2.1 x'.2.2.2) : tb_WA p l e R s m args below meth c Q D b sz c0 s0 y pc ls st M := by
  simp only [tb_sti] at hs
  split at hs
  · rename_i v st
    split at hs
    · rename_i kd hkd
      obtain ⟨hg, rfl⟩ := tb_nx_some hs
      simp only [Bool.and_eq_true, beq_iff_eq, decide_eq_true_eq] at hg
      obtain ⟨⟨⟨rfl, hp⟩, h0⟩, h1⟩ := hg
      intro arr H locs cells slots hL hH hl hf hc1 hc2
      have e1 : tb_cl (M.1 ++ [(kd, [v.toNatClampNeg])], tb_zr M.2 M.1.length) = tb_cl M + 1 := by simp [tb_cl]
      have hkd3 : 50 ≤ kd ∧ kd ≤ 52 := by cases a <;> first | (cases hkd; done) | (cases hkd; decide)
      have e2 : tb_sl (M.1 ++ [(kd, [v.toNatClampNeg])], tb_zr M.2 M.1.length) = tb_sl M + v.toNatClampNeg := by
        unfold tb_sl
        rw [List.map_append, List.sum_append]
        congr 1
        show tb_sz1 (kd, [v.toNatClampNeg]) + 0 = _
        unfold tb_sz1
        rw [if_pos hkd3]
        rfl
      have hR1 := hR.1
      have hR2 := hR.2
      dsimp only at hR1 hR2
      rw [e1] at hR1
      rw [e2] at hR2
      exact tb_newa C hkd hH h0 h1 (by omega) (by omega) hd (fun H1 hH1 hf1 => k arr H1 locs _ _ hL hH1 hl (fun q hq => (hf1 q hq).trans (hf q hq)) (by dsimp only; rw [e1]; omega) (by dsimp only; rw [e2]; omega))
    · cases hs
  · cases hs
theorem tb_s_multi (hMul : tb_Mul) (C : tb_Cx p l R s m args meth c D b sz d y call) {i dm : Nat} (hs : tb_sti call y (.multianewarray i dm) n pc ls st M = some (.inl x')) (hd : decode y.2.2.1 pc = .ok (.multianewarray i dm, n)) (hm : tb_cl M ≤ tb_cl x'.2.2.2 ∧ tb_sl M ≤ tb_sl x'.2.2.2) (hR : tb_cl x'.2.2.2 ≤ R.cells + c0 ∧ tb_sl x'.2.2.2 ≤ R.slots + s0)
    (k : tb_WA p l e R s m args below meth c Q D b sz c0 s0 y x'.1 x'.2.1 x'.2.2.1 x'.2.2.2) : tb_WA p l e R s m args below meth c Q D b sz c0 s0 y pc ls st M := by
  simp only [tb_sti] at hs
  split at hs
  · rename_i bb a st
    split at hs
    · rename_i hk
      obtain ⟨g1, rfl, rfl, rfl, rfl, rfl, hp⟩ := hk
      cases hs
      intro arr H locs cells slots hL hH hl hf hc1 hc2
      have hR1 := hR.1
      have hR2 := hR.2
      have e1 : tb_cl (M.1 ++ [(53, [M.1.length + 2, M.1.length + 3, M.1.length + 4, M.1.length + 5]), (50, [70]), (50, [70]), (50, [70]), (50, [70])], tb_zr (tb_zr (tb_zr (tb_zr (tb_zr M.2 M.1.length) (M.1.length + 1)) (M.1.length + 2)) (M.1.length + 3)) (M.1.length + 4)) = tb_cl M + 5 := by simp [tb_cl]
      have e2 : tb_sl (M.1 ++ [(53, [M.1.length + 2, M.1.length + 3, M.1.length + 4, M.1.length + 5]), (50, [70]), (50, [70]), (50, [70]), (50, [70])], tb_zr (tb_zr (tb_zr (tb_zr (tb_zr M.2 M.1.length) (M.1.length + 1)) (M.1.length + 2)) (M.1.length + 3)) (M.1.length + 4)) = tb_sl M + 284 := by
        unfold tb_sl
        rw [List.map_append, List.sum_append]
        rfl
      dsimp only at hR1 hR2
      rw [e1] at hR1
      rw [e2] at hR2
      exact hMul p l e R s m args below meth c Q D b sz d y call C M H locs cells slots pc arr _ g1 hH (by omega) (by omega) hd (fun H1 hH1 hf1 => k arr H1 locs _ _ hL hH1 hl (fun q hq => (hf1 q hq).trans (hf q hq)) (by dsimp only; rw [e1]; omega) (by dsimp only; rw [e2]; omega))
    · cases hs
  · cases hs
theorem tb_s_virt (hMul : tb_Mul) (C : tb_Cx p l R s m args meth c D b sz d y call) {i : Nat} (hs : tb_sti call y (.invokevirtual i) n pc ls st M = some (.inl x')) (hd : decode y.2.2.1 pc = .ok (.invokevirtual i, n)) (hm : tb_cl M ≤ tb_cl x'.2.2.2 ∧ tb_sl M ≤ tb_sl x'.2.2.2) (hR : tb_cl x'.2.2.2 ≤ R.cells + c0 ∧ tb_sl x'.2.2.2 ≤ R.slots + s0)
    (k : tb_WA p l e R s m args below meth c Q D b sz c0 s0 y x'.1 x'.2.1 x'.2.2.1 x'.2.2.2) : tb_WA p l e R s m args below meth c Q D b sz c0 s0 y pc ls st M := by
  simp only [tb_sti] at hs
  split at hs
  · rename_i z ps hv
    split at hs
    · rename_i o rest hst
      split at hs
      · rename_i t ht
        split at hs
        · rename_i hk
          obtain ⟨r, hr, hs⟩ := Option.bind_eq_some_iff.mp hs
          obtain ⟨hg, rfl⟩ := tb_nx_some hs
          obtain rfl : n = 3 := by simpa using hg
          intro arr H locs cells slots hL hH hl hf hc1 hc2
          have hrun := tb_callV (arr := arr) (rest := rest) (as := (st.take z.2.2.2.2.2).reverse) (locs := locs) (e := e) (below := below) (cells := cells) (slots := slots) C hv hH ht hk.1 hr (by rw [List.length_reverse]; exact hk.2.2) hk.2.1 hL.2.1.1 ⟨by have q1 := hR.1; have q2 := hm.1; dsimp only at q1 q2; omega, by have q1 := hR.2; have q2 := hm.2; dsimp only at q1 q2; omega⟩ hd
          have hbk := tb_back (Q := Q) hf hl hrun (fun H1 locs1 g1 g2 g3 => k arr H1 locs1 _ _ hL g1 g2 g3 (by have q1 := hm.1; have q2 := hm.2; dsimp only at q1 q2 ⊢; omega) (by have q1 := hm.1; have q2 := hm.2; dsimp only at q1 q2 ⊢; omega))
          have hsp : ((st.take z.2.2.2.2.2).reverse.map (tb_cv b sz)).reverse ++ .ref (tb_ad b sz o) :: rest.map (tb_cv b sz) = st.map (tb_cv b sz) := by
            rw [List.map_reverse, List.reverse_reverse]
            conv => rhs; rw [← List.take_append_drop z.2.2.2.2.2 st, hst, List.map_append]
            rfl
          rw [hsp] at hbk
          exact hbk
        · cases hs
      · cases hs
    · cases hs
  · cases hs
theorem tb_s_stat (hMul : tb_Mul) (C : tb_Cx p l R s m args meth c D b sz d y call) {i : Nat} (hs : tb_sti call y (.invokestatic i) n pc ls st M = some (.inl x')) (hd : decode y.2.2.1 pc = .ok (.invokestatic i, n)) (hm : tb_cl M ≤ tb_cl x'.2.2.2 ∧ tb_sl M ≤ tb_sl x'.2.2.2) (hR : tb_cl x'.2.2.2 ≤ R.cells + c0 ∧ tb_sl x'.2.2.2 ≤ R.slots + s0)
    (k : tb_WA p l e R s m args below meth c Q D b sz c0 s0 y x'.1 x'.2.1 x'.2.2.1 x'.2.2.2) : tb_WA p l e R s m args below meth c Q D b sz c0 s0 y pc ls st M := by
  simp only [tb_sti] at hs
  split at hs
  · rename_i kd z ps hv
    split at hs
    · rename_i hk
      obtain ⟨r, hr, hs⟩ := Option.bind_eq_some_iff.mp hs
      obtain ⟨hg, rfl⟩ := tb_nx_some hs
      obtain rfl : n = 3 := by simpa using hg
      intro arr H locs cells slots hL hH hl hf hc1 hc2
      have hrun := tb_callS (arr := arr) (rest := st.drop z.2.2.2.2.2) (as := (st.take z.2.2.2.2.2).reverse) (locs := locs) (e := e) (below := below) (cells := cells) (slots := slots) C hv hk.1 hH hr (by rw [List.length_reverse]; exact hk.2.2) hk.2.1 hL.2.1.1 ⟨by have q1 := hR.1; have q2 := hm.1; dsimp only at q1 q2; omega, by have q1 := hR.2; have q2 := hm.2; dsimp only at q1 q2; omega⟩ hd
      have hbk := tb_back (Q := Q) hf hl hrun (fun H1 locs1 g1 g2 g3 => k arr H1 locs1 _ _ hL g1 g2 g3 (by have q1 := hm.1; have q2 := hm.2; dsimp only at q1 q2 ⊢; omega) (by have q1 := hm.1; have q2 := hm.2; dsimp only at q1 q2 ⊢; omega))
      have hsp : ((st.take z.2.2.2.2.2).reverse.map (tb_cv b sz)).reverse ++ (st.drop z.2.2.2.2.2).map (tb_cv b sz) = st.map (tb_cv b sz) := by
        rw [List.map_reverse, List.reverse_reverse]
        conv => rhs; rw [← List.take_append_drop z.2.2.2.2.2 st, List.map_append]
      rw [hsp] at hbk
      exact hbk
    · cases hs
  · split at hs
    · rename_i w w2 hv
      split at hs
      · rename_i bb a st
        split at hs
        · rename_i hk
          obtain ⟨hg, rfl⟩ := tb_nx_some hs
          obtain rfl : n = 3 := by simpa using hg
          intro arr H locs cells slots hL hH hl hf hc1 hc2
          have hx1 := tb_xok _ (tb_look_in hv)
          obtain ⟨x1, x2, x3, x4, x5⟩ := tb_xc
          have hts := C.2.2.2.2.1
          have hfr := C.2.2.2.2.2.2.2.1
          have hk' : ((st.map (tb_cv b sz)).map fun v => v.category).sum + 13 ≤ R.locals := by rw [tb_map_cat]; omega
          have hcR : cells ≤ R.cells := by have := hR.1; dsimp only at this; omega
          have hsR : slots ≤ R.slots := by have := hR.2; dsimp only at this; omega
          have hml : c.maxLocals = arr.size := by rw [C.2.2.1, hL.2.1.1]
          dsimp only at hx1
          by_cases hw : w = 0
          · rw [if_pos hw] at hx1 k
            exact va_mmax C.1 C.2.1 hml C.2.2.2.1 (hts _ (tb_gt_in (tb_tw_in hx1) rfl)) (hts _ (tb_gt_in x1 rfl)) (hts _ (tb_gt_in x3 rfl)) (hts _ (tb_gt_in x4 rfl)) (by omega) hk' hcR hsR hd (k arr H locs cells slots hL hH hl hf hc1 hc2)
          · rw [if_neg hw] at hx1 k
            exact va_mmin C.1 C.2.1 hml C.2.2.2.1 (hts _ (tb_gt_in (tb_tw_in hx1) rfl)) (hts _ (tb_gt_in x2 rfl)) (hts _ (tb_gt_in x3 rfl)) (hts _ (tb_gt_in x5 rfl)) (by omega) hk' hcR hsR hd (k arr H locs cells slots hL hH hl hf hc1 hc2)
        · cases hs
      · cases hs
    · cases hs
theorem tb_s_spec (hMul : tb_Mul) (C : tb_Cx p l R s m args meth c D b sz d y call) {i : Nat} (hs : tb_sti call y (.invokespecial i) n pc ls st M = some (.inl x')) (hd : decode y.2.2.1 pc = .ok (.invokespecial i, n)) (hm : tb_cl M ≤ tb_cl x'.2.2.2 ∧ tb_sl M ≤ tb_sl x'.2.2.2) (hR : tb_cl x'.2.2.2 ≤ R.cells + c0 ∧ tb_sl x'.2.2.2 ≤ R.slots + s0)
    (k : tb_WA p l e R s m args below meth c Q D b sz c0 s0 y x'.1 x'.2.1 x'.2.2.1 x'.2.2.2) : tb_WA p l e R s m args below meth c Q D b sz c0 s0 y pc ls st M := by
  simp only [tb_sti] at hs
  split at hs
  · rename_i kd z ps hv
    split at hs
    · rename_i o rest hst
      split at hs
      · rename_i hk
        obtain ⟨r, hr, hs⟩ := Option.bind_eq_some_iff.mp hs
        obtain ⟨hg, rfl⟩ := tb_nx_some hs
        obtain rfl : n = 3 := by simpa using hg
        intro arr H locs cells slots hL hH hl hf hc1 hc2
        have hrun := tb_callI (arr := arr) (rest := rest) (as := (st.take z.2.2.2.2.2).reverse) (locs := locs) (e := e) (below := below) (cells := cells) (slots := slots) C hv hk.1 hH hr (by rw [List.length_reverse]; exact hk.2.2) hk.2.1 hL.2.1.1 ⟨by have q1 := hR.1; have q2 := hm.1; dsimp only at q1 q2; omega, by have q1 := hR.2; have q2 := hm.2; dsimp only at q1 q2; omega⟩ hd
        have hbk := tb_back (Q := Q) hf hl hrun (fun H1 locs1 g1 g2 g3 => k arr H1 locs1 _ _ hL g1 g2 g3 (by have q1 := hm.1; have q2 := hm.2; dsimp only at q1 q2 ⊢; omega) (by have q1 := hm.1; have q2 := hm.2; dsimp only at q1 q2 ⊢; omega))
        have hsp : ((st.take z.2.2.2.2.2).reverse.map (tb_cv b sz)).reverse ++ .ref (tb_ad b sz o) :: rest.map (tb_cv b sz) = st.map (tb_cv b sz) := by
          rw [List.map_reverse, List.reverse_reverse]
          conv => rhs; rw [← List.take_append_drop z.2.2.2.2.2 st, hst, List.map_append]
          rfl
        rw [hsp] at hbk
        exact hbk
      · cases hs
    · cases hs
  · split at hs
    · rename_i w hv
      split at hs
      · rename_i o st
        split at hs
        · rename_i hk
          obtain ⟨hg, rfl⟩ := tb_nx_some hs
          obtain rfl : n = 3 := by simpa using hg
          intro arr H locs cells slots hL hH hl hf hc1 hc2
          have hx1 := tb_ook.1 _ (tb_look_in hv)
          have hts := C.2.2.2.2.1
          have hfr := C.2.2.2.2.2.2.2.1
          exact W.objInit C.1 C.2.1 C.2.2.2.1 (hts _ (tb_gt_in (tb_tw_in hx1) rfl)) (hts _ (tb_gt_in tb_ook.2.1 rfl)) (hts _ (tb_gt_in tb_ook.2.2 rfl)) rfl (by rw [C.2.2.1]; exact hL.2.1.1) rfl hd (by omega) (by rw [tb_map_cat]; show 2 * 0 + _ + 12 ≤ _; omega) (k arr H locs cells slots hL hH hl hf hc1 hc2)
        · cases hs
      · cases hs
    · cases hs
end Step
end
section
/-! Part 16: every run, every method -/
section Met
variable {p : Program} {l : Launch} {e : Env} {R : Room} {s : State} {m : MethodId} {args : Array Value} {below : List Frame} {meth : Method} {c : Code} {Q : State → Prop} {D : va_G} {b sz c0 s0 d : Nat} {y : tb_MD} {call : tb_MD → List Value → tb_MM → Option tb_XR}
variable {M : tb_MM} {pc n : Nat} {ls st : List Value} {x' : tb_XS}
set_option maxHeartbeats 4000000 in
theorem tb_one (hMul : tb_Mul) (C : tb_Cx p l R s m args meth c D b sz d y call) {i : Jvm.ClassFile.Instr} (hs : tb_sti call y i n pc ls st M = some (.inl x')) (hd : decode y.2.2.1 pc = .ok (i, n)) (hm : tb_cl M ≤ tb_cl x'.2.2.2 ∧ tb_sl M ≤ tb_sl x'.2.2.2) (hR : tb_cl x'.2.2.2 ≤ R.cells + c0 ∧ tb_sl x'.2.2.2 ≤ R.slots + s0)
    (k : tb_WA p l e R s m args below meth c Q D b sz c0 s0 y x'.1 x'.2.1 x'.2.2.1 x'.2.2.2) : tb_WA p l e R s m args below meth c Q D b sz c0 s0 y pc ls st M := by
  cases i with
  | iconst v => exact tb_s_iconst hMul C hs hd hm hR k
  | bipush v => exact tb_s_bipush hMul C hs hd hm hR k
  | sipush v => exact tb_s_sipush hMul C hs hd hm hR k
  | ldc v => exact tb_s_ldc hMul C hs hd hm hR k
  | ldc_w v => exact tb_s_ldcw hMul C hs hd hm hR k
  | ldc2_w v => exact tb_s_ldc2 hMul C hs hd hm hR k
  | iload_n v => exact tb_s_iload_n hMul C hs hd hm hR k
  | iload v => exact tb_s_iload hMul C hs hd hm hR k
  | aload_n v => exact tb_s_aload_n hMul C hs hd hm hR k
  | istore_n v => exact tb_s_istore_n hMul C hs hd hm hR k
  | istore v => exact tb_s_istore hMul C hs hd hm hR k
  | astore_n v => exact tb_s_astore_n hMul C hs hd hm hR k
  | iinc v w => exact tb_s_iinc hMul C hs hd hm hR k
  | dup => exact tb_s_dup hMul C hs hd hm hR k
  | dup_x1 => exact tb_s_dup_x1 hMul C hs hd hm hR k
  | iadd => exact tb_s_iadd hMul C hs hd hm hR k
  | isub => exact tb_s_isub hMul C hs hd hm hR k
  | imul => exact tb_s_imul hMul C hs hd hm hR k
  | iand => exact tb_s_iand hMul C hs hd hm hR k
  | idiv => exact tb_s_idiv hMul C hs hd hm hR k
  | irem => exact tb_s_irem hMul C hs hd hm hR k
  | i2b => exact tb_s_i2b hMul C hs hd hm hR k
  | i2l => exact tb_s_i2l hMul C hs hd hm hR k
  | lcmp => exact tb_s_lcmp hMul C hs hd hm hR k
  | goto v => exact tb_s_goto hMul C hs hd hm hR k
  | ifCond q v =>
    cases q with
    | eq => exact tb_s_ifCond_eq hMul C hs hd hm hR k
    | ne => exact tb_s_ifCond_ne hMul C hs hd hm hR k
    | lt => exact tb_s_ifCond_lt hMul C hs hd hm hR k
    | ge => exact tb_s_ifCond_ge hMul C hs hd hm hR k
    | gt => exact tb_s_ifCond_gt hMul C hs hd hm hR k
    | le => exact tb_s_ifCond_le hMul C hs hd hm hR k
  | if_icmp q v =>
    cases q with
    | eq => exact tb_s_if_icmp_eq hMul C hs hd hm hR k
    | ne => exact tb_s_if_icmp_ne hMul C hs hd hm hR k
    | lt => exact tb_s_if_icmp_lt hMul C hs hd hm hR k
    | ge => exact tb_s_if_icmp_ge hMul C hs hd hm hR k
    | gt => exact tb_s_if_icmp_gt hMul C hs hd hm hR k
    | le => exact tb_s_if_icmp_le hMul C hs hd hm hR k
  | tableswitch a1 a2 a3 a4 => exact tb_s_tableswitch hMul C hs hd hm hR k
  | lookupswitch a1 a2 => exact tb_s_lookupswitch hMul C hs hd hm hR k
  | getfield v => exact tb_s_getfield hMul C hs hd hm hR k
  | putfield v => exact tb_s_putfield hMul C hs hd hm hR k
  | iaload => exact tb_s_iaload hMul C hs hd hm hR k
  | baload => exact tb_s_baload hMul C hs hd hm hR k
  | aaload => exact tb_s_aaload hMul C hs hd hm hR k
  | iastore => exact tb_s_iastore hMul C hs hd hm hR k
  | bastore => exact tb_s_bastore hMul C hs hd hm hR k
  | arraylength => exact tb_s_arraylength hMul C hs hd hm hR k
  | new v => exact tb_s_new hMul C hs hd hm hR k
  | newarray v => exact tb_s_newarray hMul C hs hd hm hR k
  | multianewarray v w => exact tb_s_multi hMul C hs hd hm hR k
  | invokevirtual v => exact tb_s_virt hMul C hs hd hm hR k
  | invokestatic v => exact tb_s_stat hMul C hs hd hm hR k
  | invokespecial v => exact tb_s_spec hMul C hs hd hm hR k
  | ireturn => exfalso; simp only [tb_sti] at hs; (repeat' split at hs) <;> cases hs
  | lreturn => exfalso; simp only [tb_sti] at hs; (repeat' split at hs) <;> cases hs
  | return_ => exfalso; simp only [tb_sti] at hs; (repeat' split at hs) <;> cases hs
  | _ => cases hs
theorem tb_nx_inr {g : Bool} {r : tb_XR} (h : tb_nx g pc ls st M = some (.inr r)) : False := by
  unfold tb_nx at h
  split at h <;> cases h
set_option maxHeartbeats 4000000 in
theorem tb_ret {i : Jvm.ClassFile.Instr} {r : tb_XR} (hs : tb_sti call y i n pc ls st M = some (.inr r)) :
    (∃ v, i = .ireturn ∧ n = 1 ∧ st = [.int v] ∧ r = (some (.int v), M) ∧ (y.2.2.2.2.1 = some .int ∨ y.2.2.2.2.1 = some .boolean ∧ (v = 0 ∨ v = 1))) ∨ (∃ v, i = .lreturn ∧ n = 1 ∧ st = [.long v] ∧ r = (some (.long v), M) ∧ y.2.2.2.2.1 = some .long) ∨ (i = .return_ ∧ n = 1 ∧ st = [] ∧ r = (none, M) ∧ y.2.2.2.2.1 = none) := by
  cases i with
  | ireturn =>
    simp only [tb_sti] at hs
    split at hs
    · split at hs
      · rename_i v h
        cases hs
        exact Or.inl ⟨v, rfl, h.1, rfl, rfl, h.2⟩
      · cases hs
    · cases hs
  | lreturn =>
    simp only [tb_sti] at hs
    split at hs
    · split at hs
      · rename_i v h
        cases hs
        exact Or.inr (Or.inl ⟨v, rfl, h.1, rfl, rfl, h.2⟩)
      · cases hs
    · cases hs
  | return_ =>
    simp only [tb_sti] at hs
    split at hs
    · split at hs
      · rename_i h
        cases hs
        exact Or.inr (Or.inr ⟨rfl, h.1, rfl, rfl, h.2⟩)
      · cases hs
    · cases hs
  | _ =>
    exfalso
    first
    | (cases hs; done)
    | (simp only [tb_sti] at hs
       (repeat' split at hs) <;> first | exact tb_nx_inr hs | (cases hs; done) | (obtain ⟨_, _, hs⟩ := Option.bind_eq_some_iff.mp hs; exact tb_nx_inr hs))
theorem tb_stp_some {x : tb_XS} {q : tb_XS ⊕ tb_XR} (h : tb_stp call y x = some q) : ∃ i n, decode y.2.2.1 x.1 = .ok (i, n) ∧ tb_sti call y i n x.1 x.2.1 x.2.2.1 x.2.2.2 = some q ∧ tb_mono x.2.2.2 q = true := by
  unfold tb_stp at h
  split at h
  · rename_i i n hd
    obtain ⟨r, h1, h2⟩ := Option.bind_eq_some_iff.mp h
    split at h2
    · rename_i hm
      cases h2
      exact ⟨i, n, hd, h1, hm⟩
    · cases h2
  · cases h
theorem tb_exec_cl {r : tb_XR} : ∀ (f : Nat) (x : tb_XS), tb_exec call y f x = some r → tb_cl x.2.2.2 ≤ tb_cl r.2 ∧ tb_sl x.2.2.2 ≤ tb_sl r.2 := by
  intro f
  induction f with
  | zero => intro x h; cases h
  | succ f ih =>
    intro x h
    unfold tb_exec at h
    cases hq : tb_stp call y x with
    | none => rw [hq] at h; cases h
    | some q =>
      rw [hq] at h
      obtain ⟨i, n, -, -, hm⟩ := tb_stp_some hq
      cases q with
      | inl x' =>
        have h2 := ih x' h
        unfold tb_mono at hm
        have hm := of_decide_eq_true hm
        exact ⟨Nat.le_trans hm.1 h2.1, Nat.le_trans hm.2 h2.2⟩
      | inr r' =>
        cases h
        unfold tb_mono at hm
        exact of_decide_eq_true hm
theorem tb_run (hMul : tb_Mul) (C : tb_Cx p l R s m args meth c D b sz d y call) {r : tb_XR} (hB : tb_cl r.2 ≤ R.cells + c0 ∧ tb_sl r.2 ≤ R.slots + s0) (hend : ∀ pc ls st M i n, decode y.2.2.1 pc = .ok (i, n) → tb_sti call y i n pc ls st M = some (.inr r) → tb_WA p l e R s m args below meth c Q D b sz c0 s0 y pc ls st M) :
    ∀ (f : Nat) (x : tb_XS), tb_exec call y f x = some r → tb_WA p l e R s m args below meth c Q D b sz c0 s0 y x.1 x.2.1 x.2.2.1 x.2.2.2 := by
  intro f
  induction f with
  | zero => intro x h; cases h
  | succ f ih =>
    intro x h
    unfold tb_exec at h
    cases hq : tb_stp call y x with
    | none => rw [hq] at h; cases h
    | some q =>
      rw [hq] at h
      obtain ⟨i, n, hd, hs, hm⟩ := tb_stp_some hq
      cases q with
      | inl x' =>
        have h2 := tb_exec_cl f x' h
        unfold tb_mono at hm
        exact tb_one hMul C hs hd (of_decide_eq_true hm) ⟨Nat.le_trans h2.1 hB.1, Nat.le_trans h2.2 hB.2⟩ (ih x' h)
      | inr r' =>
        cases h
        exact hend _ _ _ _ i n hd hs
theorem tb_args_mem : ∀ (vs : List Value) (i j : Nat) (v : Value), (∀ w ∈ vs, w.category = 1) → vs[j]? = some v → (i + j, v) ∈ lv_args i vs := by
  intro vs
  induction vs with
  | nil => intro i j v _ h; cases h
  | cons a vs ih =>
    intro i j v hc h
    have ha : a.category = 1 := hc a List.mem_cons_self
    unfold lv_args
    rw [if_neg (by rw [ha]; decide)]
    cases j with
    | zero =>
      cases h
      exact List.mem_cons_self
    | succ j =>
      refine List.mem_cons_of_mem _ ?_
      have h2 := ih (i + 1) j v (fun w hw => hc w (List.mem_cons_of_mem _ hw)) h
      rw [show i + (j + 1) = i + 1 + j by omega]
      exact h2
theorem tb_sl_len : ∀ (vs : List Value), (∀ w ∈ vs, w.category = 1) → (lg_sl vs).length = vs.length := by
  intro vs
  induction vs with
  | nil => intro _; rfl
  | cons a vs ih =>
    intro hc
    have ha : a.category = 1 := hc a List.mem_cons_self
    have h2 := ih (fun w hw => hc w (List.mem_cons_of_mem _ hw))
    show ((if a.category = 2 then [Slot.val a, .second] else [.val a]) ++ lg_sl vs).length = _
    rw [if_neg (by rw [ha]; decide), List.length_append, h2]
    simp
    omega
/-- the locals at a method's entry -/
theorem tb_entry {as : List Value} {nL : Nat} (h1 : as.length ≤ nL) (h2 : (as.all fun v => tb_cat v == 1 && !tb_isJ v) = true) : tb_LR b sz nL (as ++ List.replicate (nL - as.length) tb_jk) ((lg_sl (as.map (tb_cv b sz)) ++ List.replicate (nL - (lg_sl (as.map (tb_cv b sz))).length) Slot.unset).toArray) := by
  have hc : ∀ v ∈ as, tb_cat v = 1 := fun v hv => by
    have := List.all_eq_true.mp h2 v hv
    simp only [Bool.and_eq_true, beq_iff_eq] at this
    exact this.1
  have hcm : ∀ w ∈ as.map (tb_cv b sz), w.category = 1 := fun w hw => by
    obtain ⟨v, hv, rfl⟩ := List.mem_map.mp hw
    rw [tb_cv_cat]
    exact hc v hv
  have hlen : (lg_sl (as.map (tb_cv b sz))).length = as.length := by rw [tb_sl_len _ hcm, List.length_map]
  have hen := lv_entry (as.map (tb_cv b sz)) (n := nL) (by rw [hlen]; exact h1)
  refine ⟨by simp; omega, ⟨hen.1, hen.2.1, fun q hq => hen.2.2 q ?_⟩, fun v hv => ?_⟩
  · obtain ⟨j, w⟩ := q
    obtain ⟨v, g1, g2, rfl⟩ := tb_asc_mem.mp hq
    by_cases hj : j < as.length
    · rw [List.getElem?_append_left hj] at g1
      have := tb_args_mem (as.map (tb_cv b sz)) 0 j (tb_cv b sz v) hcm (by rw [List.getElem?_map, g1]; rfl)
      rw [Nat.zero_add] at this
      exact this
    · rw [List.getElem?_append_right (by omega)] at g1
      have g3 := List.mem_of_getElem? g1
      have g4 := List.eq_of_mem_replicate g3
      subst g4
      cases g2
  · rcases List.mem_append.mp hv with h | h
    · exact hc v h
    · rw [List.eq_of_mem_replicate h]
      rfl
set_option maxHeartbeats 4000000 in
/-- EVERY METHOD: what the abstract machine answers, the machine answers -/
theorem tb_met (hMul : tb_Mul) (l : Launch) (D : va_G) (b sz : Nat) : ∀ d, tb_Cok l D b sz d (tb_rn d) := by
  intro d
  induction d with
  | zero => intro z as M r _ _ h; cases h
  | succ d ih =>
    intro z as M r hcls hpl h
    unfold tb_rn at h
    split at h
    · rename_i hg
      obtain ⟨f, hf⟩ := tb_ex_some.mp h
      have hcl := tb_exec_cl f _ hf
      dsimp only at hcl
      refine Met.ofW (cc := z.2.2.1) (maxL := z.2.2.2.1) (ret := z.2.2.2.2.1) hpl rfl ?_
      intro p e s m args below meth c s₁ B hml hv
      obtain ⟨rfl, hH, hK, hNL⟩ := hv
      have hts := atoms_spec (ws := tb_ws z) B.pre
      have hown : s.vm.findClass (tb_cn z.1) = some m.cls := by rw [← hcls]; exact findClass_of_methodNamed B.named
      have hlocks := B.notSynchronized
      have hnm : meth.name = z.2.1.name := (name_of_methodNamed B.named B.method).1
      have hret := B.returns
      have hx := B.exec
      have hb := B.bytes
      have C : tb_Cx p l (tb_rm (d + 1) (tb_cl r.2 - tb_cl M) (tb_sl r.2 - tb_sl M)) s m (as.map (tb_cv b sz)).toArray meth c D b sz d z (tb_rn d) :=
        ⟨hx, hb, hml, hown, fun w hw => hts w (List.mem_cons_of_mem _ hw), hK, fun q => hnm.trans q, ⟨Nat.le_refl _, Nat.le_refl _⟩, ih, hNL⟩
      rw [lg_entry_eq]
      refine tb_run hMul C (c0 := tb_cl M) (s0 := tb_sl M) (r := r) ⟨by show _ ≤ tb_cl r.2 - tb_cl M + tb_cl M; omega, by show _ ≤ tb_sl r.2 - tb_sl M + tb_sl M; omega⟩ ?_ f _ hf _ s.heap [] 0 0 (tb_entry hg.1 hg.2) hH (fun q h => by cases h) (fun _ _ => rfl) (Nat.zero_add _) (Nat.zero_add _)
      intro pc ls st M' i n hd hs arr H locs cells slots hL hH' hl hfr hc1 hc2
      rcases tb_ret hs with ⟨v, rfl, rfl, rfl, rfl, hr⟩ | ⟨v, rfl, rfl, rfl, rfl, hr⟩ | ⟨rfl, rfl, rfl, rfl, hr⟩
      · have e1 : tb_cl (some (Value.int v), M').2 - tb_cl M = cells := by dsimp only; omega
        have e2 : tb_sl (some (Value.int v), M').2 - tb_sl M = slots := by dsimp only; omega
        rw [e1, e2]
        rcases hr with hr | ⟨hr, hv⟩
        · exact W.zret (ty := .int) hx hb (by rw [hret, hr]) rfl (fun t ht hW => ⟨rfl, by rw [ht]; exact hH'.moved hW.alike, fun q hq => by rw [ht]; exact hfr q hq⟩) hl hd
        · exact W.zret (ty := .boolean) hx hb (by rw [hret, hr]) (by rcases hv with rfl | rfl <;> decide +kernel) (fun t ht hW => ⟨rfl, by rw [ht]; exact hH'.moved hW.alike, fun q hq => by rw [ht]; exact hfr q hq⟩) hl hd
      · have e1 : tb_cl (some (Value.long v), M').2 - tb_cl M = cells := by dsimp only; omega
        have e2 : tb_sl (some (Value.long v), M').2 - tb_sl M = slots := by dsimp only; omega
        rw [e1, e2]
        exact W.lret hx hb (by rw [hret, hr]) (fun t ht hW => ⟨rfl, by rw [ht]; exact hH'.moved hW.alike, fun q hq => by rw [ht]; exact hfr q hq⟩) hl hd
      · have e1 : tb_cl ((none : Option Value), M').2 - tb_cl M = cells := by dsimp only; omega
        have e2 : tb_sl ((none : Option Value), M').2 - tb_sl M = slots := by dsimp only; omega
        rw [e1, e2]
        exact W.vret hx hb (by rw [hret, hr]) (fun t ht hW => ⟨rfl, by rw [ht]; exact hH'.moved hW.alike, fun q hq => by rw [ht]; exact hfr q hq⟩) hl hd
    · cases h
end Met
end
section
/-! Part 20: runs of the abstract machine, an instruction a row, backwards: from what follows to what stands -/
noncomputable def tb_E {α : Type} (d : Nat) (y : tb_MD) (dec : tb_XR → Option α) (pc : Nat) (ls st : List Value) (H : tb_SH) (S : tb_St) : Option α := (tb_ex (tb_rn d) y (pc, ls, st, (H, S))).bind dec
def tb_max (a b : Int32) : Int32 := if a < b then b else a
def tb_min (a b : Int32) : Int32 := if b < a then b else a
def tb_rem (a b : Int32) : Int32 := a - a / b * b
def tb_b8 (a : Int32) : Int32 := vp_nar .byte a.toInt8.toInt32
section Rows
variable {α : Type} {d : Nat} {y : tb_MD} {dec : tb_XR → Option α} {pc pc' : Nat} {ls ls' st : List Value} {H : tb_SH} {S : tb_St} {r : α}
theorem tb_xs {i : Jvm.ClassFile.Instr} {n : Nat} {st' : List Value} {H' : tb_SH} {S' : tb_St} (hd : decode y.2.2.1 pc = .ok (i, n)) (hs : tb_sti (tb_rn d) y i n pc ls st (H, S) = some (.inl (pc', ls', st', (H', S')))) (hm : tb_mono (H, S) (.inl (pc', ls', st', (H', S'))) = true) (k : tb_E d y dec pc' ls' st' H' S' = some r) : tb_E d y dec pc ls st H S = some r := by
  obtain ⟨q, h1, h2⟩ := Option.bind_eq_some_iff.mp k
  refine Option.bind_eq_some_iff.mpr ⟨q, tb_ex_step ?_ h1, h2⟩
  unfold tb_stp
  dsimp only
  rw [hd]
  dsimp only
  rw [hs]
  show (if tb_mono (H, S) _ = true then _ else _) = _
  rw [if_pos hm]
theorem tb_mo {pc' : Nat} {ls' st' : List Value} {S' : tb_St} : tb_mono (H, S) (.inl (pc', ls', st', (H, S'))) = true := decide_eq_true ⟨Nat.le_refl _, Nat.le_refl _⟩
theorem tb_nxt {M : tb_MM} {g : Bool} (h : g = true) : tb_nx g pc ls st M = some (.inl (pc, ls, st, M)) := by unfold tb_nx; rw [if_pos h]
theorem x_iconst {v : Int} {w : Int32} (hd : decode y.2.2.1 pc = .ok (.iconst v, 1)) (hp : pc + 1 = pc') (hv : Int32.ofInt v = w) (k : tb_E d y dec pc' ls (.int w :: st) H S = some r) : tb_E d y dec pc ls st H S = some r := by subst hp; subst hv; exact tb_xs hd (tb_nxt rfl) tb_mo k
theorem x_bipush {v : Int} {w : Int32} (hd : decode y.2.2.1 pc = .ok (.bipush v, 2)) (hp : pc + 2 = pc') (hv : (Int8.ofInt v).toInt32 = w) (k : tb_E d y dec pc' ls (.int w :: st) H S = some r) : tb_E d y dec pc ls st H S = some r := by subst hp; subst hv; exact tb_xs hd (tb_nxt rfl) tb_mo k
theorem x_sipush {v : Int} {w : Int32} (hd : decode y.2.2.1 pc = .ok (.sipush v, 3)) (hp : pc + 3 = pc') (hv : (Int16.ofInt v).toInt32 = w) (k : tb_E d y dec pc' ls (.int w :: st) H S = some r) : tb_E d y dec pc ls st H S = some r := by subst hp; subst hv; exact tb_xs hd (tb_nxt rfl) tb_mo k
theorem x_ldc {c q : Nat} {w : Int32} (hd : decode y.2.2.1 pc = .ok (.ldc c, 2)) (hp : pc + 2 = pc') (hv : tb_look tb_kT y.1 c = some (w, q)) (k : tb_E d y dec pc' ls (.int w :: st) H S = some r) : tb_E d y dec pc ls st H S = some r := by
  subst hp
  refine tb_xs hd ?_ tb_mo k
  simp only [tb_sti]
  rw [hv]
  exact tb_nxt rfl
theorem x_ldc_w {c q : Nat} {w : Int32} (hd : decode y.2.2.1 pc = .ok (.ldc_w c, 3)) (hp : pc + 3 = pc') (hv : tb_look tb_kT y.1 c = some (w, q)) (k : tb_E d y dec pc' ls (.int w :: st) H S = some r) : tb_E d y dec pc ls st H S = some r := by
  subst hp
  refine tb_xs hd ?_ tb_mo k
  simp only [tb_sti]
  rw [hv]
  exact tb_nxt rfl
theorem x_ldc2_w {c q : Nat} {w : Int64} (hd : decode y.2.2.1 pc = .ok (.ldc2_w c, 3)) (hp : pc + 3 = pc') (hv : tb_look tb_lT y.1 c = some (w, q)) (k : tb_E d y dec pc' ls (.long w :: st) H S = some r) : tb_E d y dec pc ls st H S = some r := by
  subst hp
  refine tb_xs hd ?_ tb_mo k
  simp only [tb_sti]
  rw [hv]
  exact tb_nxt rfl
theorem x_iload_n {i : Fin 4} {x : Int32} (hd : decode y.2.2.1 pc = .ok (.iload_n i, 1)) (hp : pc + 1 = pc') (hv : ls[(i : Nat)]? = some (.int x)) (k : tb_E d y dec pc' ls (.int x :: st) H S = some r) : tb_E d y dec pc ls st H S = some r := by
  subst hp
  refine tb_xs hd ?_ tb_mo k
  simp only [tb_sti]
  rw [hv]
  exact tb_nxt rfl
theorem x_iload {i : Nat} {x : Int32} (hd : decode y.2.2.1 pc = .ok (.iload i, 2)) (hp : pc + 2 = pc') (hv : ls[i]? = some (.int x)) (k : tb_E d y dec pc' ls (.int x :: st) H S = some r) : tb_E d y dec pc ls st H S = some r := by
  subst hp
  refine tb_xs hd ?_ tb_mo k
  simp only [tb_sti]
  rw [hv]
  exact tb_nxt rfl
theorem x_aload_n {i : Fin 4} {x : Nat} (hd : decode y.2.2.1 pc = .ok (.aload_n i, 1)) (hp : pc + 1 = pc') (hv : ls[(i : Nat)]? = some (.ref x)) (k : tb_E d y dec pc' ls (.ref x :: st) H S = some r) : tb_E d y dec pc ls st H S = some r := by
  subst hp
  refine tb_xs hd ?_ tb_mo k
  simp only [tb_sti]
  rw [hv]
  exact tb_nxt rfl
theorem tb_blt {a b : Nat} (h : Nat.blt a b = true) : a < b := by simpa using h
theorem x_istore_n {i : Fin 4} {x : Int32} (hd : decode y.2.2.1 pc = .ok (.istore_n i, 1)) (hp : pc + 1 = pc') (hl : Nat.blt (i : Nat) ls.length = true) (hv : ls.set (i : Nat) (.int x) = ls') (k : tb_E d y dec pc' ls' st H S = some r) : tb_E d y dec pc ls (.int x :: st) H S = some r := by
  subst hp; subst hv
  refine tb_xs hd ?_ tb_mo k
  simp only [tb_sti]
  exact tb_nxt (by simp [tb_blt hl])
theorem x_istore {i : Nat} {x : Int32} (hd : decode y.2.2.1 pc = .ok (.istore i, 2)) (hp : pc + 2 = pc') (hl : Nat.blt i ls.length = true) (hv : ls.set i (.int x) = ls') (k : tb_E d y dec pc' ls' st H S = some r) : tb_E d y dec pc ls (.int x :: st) H S = some r := by
  subst hp; subst hv
  refine tb_xs hd ?_ tb_mo k
  simp only [tb_sti]
  exact tb_nxt (by simp [tb_blt hl])
theorem x_astore_n {i : Fin 4} {x : Nat} (hd : decode y.2.2.1 pc = .ok (.astore_n i, 1)) (hp : pc + 1 = pc') (hl : Nat.blt (i : Nat) ls.length = true) (hv : ls.set (i : Nat) (.ref x) = ls') (k : tb_E d y dec pc' ls' st H S = some r) : tb_E d y dec pc ls (.ref x :: st) H S = some r := by
  subst hp; subst hv
  refine tb_xs hd ?_ tb_mo k
  simp only [tb_sti]
  exact tb_nxt (by simp [tb_blt hl])
theorem x_iinc {i : Nat} {c : Int} {x w : Int32} (hd : decode y.2.2.1 pc = .ok (.iinc i c, 3)) (hp : pc + 3 = pc') (hx : ls[i]? = some (.int x)) (hc : Int32.ofInt c = w) (hv : ls.set i (.int (x + w)) = ls') (k : tb_E d y dec pc' ls' st H S = some r) : tb_E d y dec pc ls st H S = some r := by
  subst hp; subst hc; subst hv
  refine tb_xs hd ?_ tb_mo k
  simp only [tb_sti]
  rw [hx]
  exact tb_nxt rfl
theorem x_dup {a : Value} (hd : decode y.2.2.1 pc = .ok (.dup, 1)) (hp : pc + 1 = pc') (hc : (tb_cat a == 1) = true) (k : tb_E d y dec pc' ls (a :: a :: st) H S = some r) : tb_E d y dec pc ls (a :: st) H S = some r := by
  subst hp
  exact tb_xs hd (tb_nxt (by rw [hc]; rfl)) tb_mo k
theorem x_dup_x1 {a b : Value} (hd : decode y.2.2.1 pc = .ok (.dup_x1, 1)) (hp : pc + 1 = pc') (hc : (tb_cat a == 1 && tb_cat b == 1) = true) (k : tb_E d y dec pc' ls (a :: b :: a :: st) H S = some r) : tb_E d y dec pc ls (a :: b :: st) H S = some r := by
  subst hp
  exact tb_xs hd (tb_nxt (by rw [Bool.and_assoc, hc]; rfl)) tb_mo k
theorem x_iadd {a b : Int32} (hd : decode y.2.2.1 pc = .ok (.iadd, 1)) (hp : pc + 1 = pc') (k : tb_E d y dec pc' ls (.int (a + b) :: st) H S = some r) : tb_E d y dec pc ls (.int b :: .int a :: st) H S = some r := by subst hp; exact tb_xs hd (tb_nxt rfl) tb_mo k
theorem x_isub {a b : Int32} (hd : decode y.2.2.1 pc = .ok (.isub, 1)) (hp : pc + 1 = pc') (k : tb_E d y dec pc' ls (.int (a - b) :: st) H S = some r) : tb_E d y dec pc ls (.int b :: .int a :: st) H S = some r := by subst hp; exact tb_xs hd (tb_nxt rfl) tb_mo k
theorem x_imul {a b : Int32} (hd : decode y.2.2.1 pc = .ok (.imul, 1)) (hp : pc + 1 = pc') (k : tb_E d y dec pc' ls (.int (a * b) :: st) H S = some r) : tb_E d y dec pc ls (.int b :: .int a :: st) H S = some r := by subst hp; exact tb_xs hd (tb_nxt rfl) tb_mo k
theorem x_iand {a b : Int32} (hd : decode y.2.2.1 pc = .ok (.iand, 1)) (hp : pc + 1 = pc') (k : tb_E d y dec pc' ls (.int (a &&& b) :: st) H S = some r) : tb_E d y dec pc ls (.int b :: .int a :: st) H S = some r := by subst hp; exact tb_xs hd (tb_nxt rfl) tb_mo k
theorem x_idiv {a b : Int32} (hd : decode y.2.2.1 pc = .ok (.idiv, 1)) (hp : pc + 1 = pc') (hb : ¬ b = 0) (k : tb_E d y dec pc' ls (.int (a / b) :: st) H S = some r) : tb_E d y dec pc ls (.int b :: .int a :: st) H S = some r := by
  subst hp
  refine tb_xs hd ?_ tb_mo k
  simp only [tb_sti]
  rw [if_neg hb]
  exact tb_nxt rfl
theorem x_irem {a b : Int32} (hd : decode y.2.2.1 pc = .ok (.irem, 1)) (hp : pc + 1 = pc') (hb : ¬ b = 0) (k : tb_E d y dec pc' ls (.int (tb_rem a b) :: st) H S = some r) : tb_E d y dec pc ls (.int b :: .int a :: st) H S = some r := by
  subst hp
  refine tb_xs hd ?_ tb_mo k
  simp only [tb_sti]
  rw [if_neg hb]
  exact tb_nxt rfl
theorem x_i2b {a : Int32} (hd : decode y.2.2.1 pc = .ok (.i2b, 1)) (hp : pc + 1 = pc') (k : tb_E d y dec pc' ls (.int a.toInt8.toInt32 :: st) H S = some r) : tb_E d y dec pc ls (.int a :: st) H S = some r := by subst hp; exact tb_xs hd (tb_nxt rfl) tb_mo k
theorem x_i2l {a : Int32} (hd : decode y.2.2.1 pc = .ok (.i2l, 1)) (hp : pc + 1 = pc') (k : tb_E d y dec pc' ls (.long a.toInt64 :: st) H S = some r) : tb_E d y dec pc ls (.int a :: st) H S = some r := by subst hp; exact tb_xs hd (tb_nxt rfl) tb_mo k
theorem x_lcmp {a b : Int64} (hd : decode y.2.2.1 pc = .ok (.lcmp, 1)) (hp : pc + 1 = pc') (k : tb_E d y dec pc' ls (.int (lg_cmp a b) :: st) H S = some r) : tb_E d y dec pc ls (.long b :: .long a :: st) H S = some r := by subst hp; exact tb_xs hd (tb_nxt rfl) tb_mo k
theorem x_goto {off : Int} (hd : decode y.2.2.1 pc = .ok (.goto off, 3)) (ht : (pc : Int) + off = (pc' : Int)) (k : tb_E d y dec pc' ls st H S = some r) : tb_E d y dec pc ls st H S = some r := by
  have e : tb_tg pc off = pc' := by unfold tb_tg; omega
  subst e
  refine tb_xs hd (tb_nxt ?_) tb_mo k
  have : 0 ≤ (pc : Int) + off := by omega
  simp [this]
theorem x_if_eq_t {x : Int32} {off : Int} (hd : decode y.2.2.1 pc = .ok (.ifCond .eq off, 3)) (ht : (pc : Int) + off = (pc' : Int)) (hc : x = 0) (k : tb_E d y dec pc' ls st H S = some r) : tb_E d y dec pc ls (.int x :: st) H S = some r := by
  have e : tb_tg pc off = pc' := by unfold tb_tg; omega
  subst e
  refine tb_xs hd ?_ tb_mo k
  simp only [tb_sti]
  rw [if_pos (by omega), if_pos hc]
  exact tb_nxt rfl
theorem x_if_eq_f {x : Int32} {off : Int} (hd : decode y.2.2.1 pc = .ok (.ifCond .eq off, 3)) (ht : 0 ≤ (pc : Int) + off) (hp : pc + 3 = pc') (hc : ¬ (x = 0)) (k : tb_E d y dec pc' ls st H S = some r) : tb_E d y dec pc ls (.int x :: st) H S = some r := by
  subst hp
  refine tb_xs hd ?_ tb_mo k
  simp only [tb_sti]
  rw [if_pos ht, if_neg hc]
  exact tb_nxt rfl
theorem x_icmp_eq_t {a b : Int32} {off : Int} (hd : decode y.2.2.1 pc = .ok (.if_icmp .eq off, 3)) (ht : (pc : Int) + off = (pc' : Int)) (hc : a = b) (k : tb_E d y dec pc' ls st H S = some r) : tb_E d y dec pc ls (.int b :: .int a :: st) H S = some r := by
  have e : tb_tg pc off = pc' := by unfold tb_tg; omega
  subst e
  refine tb_xs hd ?_ tb_mo k
  simp only [tb_sti]
  rw [if_pos (by omega), if_pos hc]
  exact tb_nxt rfl
theorem x_icmp_eq_f {a b : Int32} {off : Int} (hd : decode y.2.2.1 pc = .ok (.if_icmp .eq off, 3)) (ht : 0 ≤ (pc : Int) + off) (hp : pc + 3 = pc') (hc : ¬ (a = b)) (k : tb_E d y dec pc' ls st H S = some r) : tb_E d y dec pc ls (.int b :: .int a :: st) H S = some r := by
  subst hp
  refine tb_xs hd ?_ tb_mo k
  simp only [tb_sti]
  rw [if_pos ht, if_neg hc]
  exact tb_nxt rfl
theorem x_if_ne_t {x : Int32} {off : Int} (hd : decode y.2.2.1 pc = .ok (.ifCond .ne off, 3)) (ht : (pc : Int) + off = (pc' : Int)) (hc : ¬ x = 0) (k : tb_E d y dec pc' ls st H S = some r) : tb_E d y dec pc ls (.int x :: st) H S = some r := by
  have e : tb_tg pc off = pc' := by unfold tb_tg; omega
  subst e
  refine tb_xs hd ?_ tb_mo k
  simp only [tb_sti]
  rw [if_pos (by omega), if_pos hc]
  exact tb_nxt rfl
theorem x_if_ne_f {x : Int32} {off : Int} (hd : decode y.2.2.1 pc = .ok (.ifCond .ne off, 3)) (ht : 0 ≤ (pc : Int) + off) (hp : pc + 3 = pc') (hc : ¬ (¬ x = 0)) (k : tb_E d y dec pc' ls st H S = some r) : tb_E d y dec pc ls (.int x :: st) H S = some r := by
  subst hp
  refine tb_xs hd ?_ tb_mo k
  simp only [tb_sti]
  rw [if_pos ht, if_neg hc]
  exact tb_nxt rfl
theorem x_icmp_ne_t {a b : Int32} {off : Int} (hd : decode y.2.2.1 pc = .ok (.if_icmp .ne off, 3)) (ht : (pc : Int) + off = (pc' : Int)) (hc : ¬ a = b) (k : tb_E d y dec pc' ls st H S = some r) : tb_E d y dec pc ls (.int b :: .int a :: st) H S = some r := by
  have e : tb_tg pc off = pc' := by unfold tb_tg; omega
  subst e
  refine tb_xs hd ?_ tb_mo k
  simp only [tb_sti]
  rw [if_pos (by omega), if_pos hc]
  exact tb_nxt rfl
theorem x_icmp_ne_f {a b : Int32} {off : Int} (hd : decode y.2.2.1 pc = .ok (.if_icmp .ne off, 3)) (ht : 0 ≤ (pc : Int) + off) (hp : pc + 3 = pc') (hc : ¬ (¬ a = b)) (k : tb_E d y dec pc' ls st H S = some r) : tb_E d y dec pc ls (.int b :: .int a :: st) H S = some r := by
  subst hp
  refine tb_xs hd ?_ tb_mo k
  simp only [tb_sti]
  rw [if_pos ht, if_neg hc]
  exact tb_nxt rfl
theorem x_if_lt_t {x : Int32} {off : Int} (hd : decode y.2.2.1 pc = .ok (.ifCond .lt off, 3)) (ht : (pc : Int) + off = (pc' : Int)) (hc : x < 0) (k : tb_E d y dec pc' ls st H S = some r) : tb_E d y dec pc ls (.int x :: st) H S = some r := by
  have e : tb_tg pc off = pc' := by unfold tb_tg; omega
  subst e
  refine tb_xs hd ?_ tb_mo k
  simp only [tb_sti]
  rw [if_pos (by omega), if_pos hc]
  exact tb_nxt rfl
theorem x_if_lt_f {x : Int32} {off : Int} (hd : decode y.2.2.1 pc = .ok (.ifCond .lt off, 3)) (ht : 0 ≤ (pc : Int) + off) (hp : pc + 3 = pc') (hc : ¬ (x < 0)) (k : tb_E d y dec pc' ls st H S = some r) : tb_E d y dec pc ls (.int x :: st) H S = some r := by
  subst hp
  refine tb_xs hd ?_ tb_mo k
  simp only [tb_sti]
  rw [if_pos ht, if_neg hc]
  exact tb_nxt rfl
theorem x_icmp_lt_t {a b : Int32} {off : Int} (hd : decode y.2.2.1 pc = .ok (.if_icmp .lt off, 3)) (ht : (pc : Int) + off = (pc' : Int)) (hc : a < b) (k : tb_E d y dec pc' ls st H S = some r) : tb_E d y dec pc ls (.int b :: .int a :: st) H S = some r := by
  have e : tb_tg pc off = pc' := by unfold tb_tg; omega
  subst e
  refine tb_xs hd ?_ tb_mo k
  simp only [tb_sti]
  rw [if_pos (by omega), if_pos hc]
  exact tb_nxt rfl
theorem x_icmp_lt_f {a b : Int32} {off : Int} (hd : decode y.2.2.1 pc = .ok (.if_icmp .lt off, 3)) (ht : 0 ≤ (pc : Int) + off) (hp : pc + 3 = pc') (hc : ¬ (a < b)) (k : tb_E d y dec pc' ls st H S = some r) : tb_E d y dec pc ls (.int b :: .int a :: st) H S = some r := by
  subst hp
  refine tb_xs hd ?_ tb_mo k
  simp only [tb_sti]
  rw [if_pos ht, if_neg hc]
  exact tb_nxt rfl
theorem x_if_ge_t {x : Int32} {off : Int} (hd : decode y.2.2.1 pc = .ok (.ifCond .ge off, 3)) (ht : (pc : Int) + off = (pc' : Int)) (hc : 0 ≤ x) (k : tb_E d y dec pc' ls st H S = some r) : tb_E d y dec pc ls (.int x :: st) H S = some r := by
  have e : tb_tg pc off = pc' := by unfold tb_tg; omega
  subst e
  refine tb_xs hd ?_ tb_mo k
  simp only [tb_sti]
  rw [if_pos (by omega), if_pos hc]
  exact tb_nxt rfl
theorem x_if_ge_f {x : Int32} {off : Int} (hd : decode y.2.2.1 pc = .ok (.ifCond .ge off, 3)) (ht : 0 ≤ (pc : Int) + off) (hp : pc + 3 = pc') (hc : ¬ (0 ≤ x)) (k : tb_E d y dec pc' ls st H S = some r) : tb_E d y dec pc ls (.int x :: st) H S = some r := by
  subst hp
  refine tb_xs hd ?_ tb_mo k
  simp only [tb_sti]
  rw [if_pos ht, if_neg hc]
  exact tb_nxt rfl
theorem x_icmp_ge_t {a b : Int32} {off : Int} (hd : decode y.2.2.1 pc = .ok (.if_icmp .ge off, 3)) (ht : (pc : Int) + off = (pc' : Int)) (hc : b ≤ a) (k : tb_E d y dec pc' ls st H S = some r) : tb_E d y dec pc ls (.int b :: .int a :: st) H S = some r := by
  have e : tb_tg pc off = pc' := by unfold tb_tg; omega
  subst e
  refine tb_xs hd ?_ tb_mo k
  simp only [tb_sti]
  rw [if_pos (by omega), if_pos hc]
  exact tb_nxt rfl
theorem x_icmp_ge_f {a b : Int32} {off : Int} (hd : decode y.2.2.1 pc = .ok (.if_icmp .ge off, 3)) (ht : 0 ≤ (pc : Int) + off) (hp : pc + 3 = pc') (hc : ¬ (b ≤ a)) (k : tb_E d y dec pc' ls st H S = some r) : tb_E d y dec pc ls (.int b :: .int a :: st) H S = some r := by
  subst hp
  refine tb_xs hd ?_ tb_mo k
  simp only [tb_sti]
  rw [if_pos ht, if_neg hc]
  exact tb_nxt rfl
theorem x_if_gt_t {x : Int32} {off : Int} (hd : decode y.2.2.1 pc = .ok (.ifCond .gt off, 3)) (ht : (pc : Int) + off = (pc' : Int)) (hc : 0 < x) (k : tb_E d y dec pc' ls st H S = some r) : tb_E d y dec pc ls (.int x :: st) H S = some r := by
  have e : tb_tg pc off = pc' := by unfold tb_tg; omega
  subst e
  refine tb_xs hd ?_ tb_mo k
  simp only [tb_sti]
  rw [if_pos (by omega), if_pos hc]
  exact tb_nxt rfl
theorem x_if_gt_f {x : Int32} {off : Int} (hd : decode y.2.2.1 pc = .ok (.ifCond .gt off, 3)) (ht : 0 ≤ (pc : Int) + off) (hp : pc + 3 = pc') (hc : ¬ (0 < x)) (k : tb_E d y dec pc' ls st H S = some r) : tb_E d y dec pc ls (.int x :: st) H S = some r := by
  subst hp
  refine tb_xs hd ?_ tb_mo k
  simp only [tb_sti]
  rw [if_pos ht, if_neg hc]
  exact tb_nxt rfl
theorem x_icmp_gt_t {a b : Int32} {off : Int} (hd : decode y.2.2.1 pc = .ok (.if_icmp .gt off, 3)) (ht : (pc : Int) + off = (pc' : Int)) (hc : b < a) (k : tb_E d y dec pc' ls st H S = some r) : tb_E d y dec pc ls (.int b :: .int a :: st) H S = some r := by
  have e : tb_tg pc off = pc' := by unfold tb_tg; omega
  subst e
  refine tb_xs hd ?_ tb_mo k
  simp only [tb_sti]
  rw [if_pos (by omega), if_pos hc]
  exact tb_nxt rfl
theorem x_icmp_gt_f {a b : Int32} {off : Int} (hd : decode y.2.2.1 pc = .ok (.if_icmp .gt off, 3)) (ht : 0 ≤ (pc : Int) + off) (hp : pc + 3 = pc') (hc : ¬ (b < a)) (k : tb_E d y dec pc' ls st H S = some r) : tb_E d y dec pc ls (.int b :: .int a :: st) H S = some r := by
  subst hp
  refine tb_xs hd ?_ tb_mo k
  simp only [tb_sti]
  rw [if_pos ht, if_neg hc]
  exact tb_nxt rfl
theorem x_if_le_t {x : Int32} {off : Int} (hd : decode y.2.2.1 pc = .ok (.ifCond .le off, 3)) (ht : (pc : Int) + off = (pc' : Int)) (hc : x ≤ 0) (k : tb_E d y dec pc' ls st H S = some r) : tb_E d y dec pc ls (.int x :: st) H S = some r := by
  have e : tb_tg pc off = pc' := by unfold tb_tg; omega
  subst e
  refine tb_xs hd ?_ tb_mo k
  simp only [tb_sti]
  rw [if_pos (by omega), if_pos hc]
  exact tb_nxt rfl
theorem x_if_le_f {x : Int32} {off : Int} (hd : decode y.2.2.1 pc = .ok (.ifCond .le off, 3)) (ht : 0 ≤ (pc : Int) + off) (hp : pc + 3 = pc') (hc : ¬ (x ≤ 0)) (k : tb_E d y dec pc' ls st H S = some r) : tb_E d y dec pc ls (.int x :: st) H S = some r := by
  subst hp
  refine tb_xs hd ?_ tb_mo k
  simp only [tb_sti]
  rw [if_pos ht, if_neg hc]
  exact tb_nxt rfl
theorem x_icmp_le_t {a b : Int32} {off : Int} (hd : decode y.2.2.1 pc = .ok (.if_icmp .le off, 3)) (ht : (pc : Int) + off = (pc' : Int)) (hc : a ≤ b) (k : tb_E d y dec pc' ls st H S = some r) : tb_E d y dec pc ls (.int b :: .int a :: st) H S = some r := by
  have e : tb_tg pc off = pc' := by unfold tb_tg; omega
  subst e
  refine tb_xs hd ?_ tb_mo k
  simp only [tb_sti]
  rw [if_pos (by omega), if_pos hc]
  exact tb_nxt rfl
theorem x_icmp_le_f {a b : Int32} {off : Int} (hd : decode y.2.2.1 pc = .ok (.if_icmp .le off, 3)) (ht : 0 ≤ (pc : Int) + off) (hp : pc + 3 = pc') (hc : ¬ (a ≤ b)) (k : tb_E d y dec pc' ls st H S = some r) : tb_E d y dec pc ls (.int b :: .int a :: st) H S = some r := by
  subst hp
  refine tb_xs hd ?_ tb_mo k
  simp only [tb_sti]
  rw [if_pos ht, if_neg hc]
  exact tb_nxt rfl
theorem x_tsw_in {x : Int32} {dd lo hi off : Int} {offs : Array Int} {n : Nat} {w : Int32} (hd : decode y.2.2.1 pc = .ok (.tableswitch dd lo hi offs, n)) (hx : x = w) (h1 : lo ≤ w.toInt) (h2 : w.toInt ≤ hi) (ho : offs[(w.toInt - lo).toNat]? = some off) (ht : (pc : Int) + off = (pc' : Int)) (k : tb_E d y dec pc' ls st H S = some r) : tb_E d y dec pc ls (.int x :: st) H S = some r := by
  subst hx
  have e : tb_tg pc off = pc' := by unfold tb_tg; omega
  subst e
  refine tb_xs hd ?_ tb_mo k
  simp only [tb_sti]
  rw [if_neg (by omega), ho]
  refine tb_nxt ?_
  have : 0 ≤ (pc : Int) + off := by omega
  simp [this]
theorem x_tsw_out {x : Int32} {dd lo hi : Int} {offs : Array Int} {n : Nat} (hd : decode y.2.2.1 pc = .ok (.tableswitch dd lo hi offs, n)) (hx : ∀ k : Int, lo ≤ k → k ≤ hi → x.toInt = k → offs[(k - lo).toNat]? = some dd) (ht : (pc : Int) + dd = (pc' : Int)) (k : tb_E d y dec pc' ls st H S = some r) : tb_E d y dec pc ls (.int x :: st) H S = some r := by
  have e : tb_tg pc dd = pc' := by unfold tb_tg; omega
  subst e
  have h0 : 0 ≤ (pc : Int) + dd := by omega
  refine tb_xs hd ?_ tb_mo k
  simp only [tb_sti]
  by_cases hr : x.toInt < lo ∨ hi < x.toInt
  · rw [if_pos hr]
    exact tb_nxt (by simp [h0])
  · rw [if_neg hr, hx x.toInt (by omega) (by omega) rfl]
    exact tb_nxt (by simp [h0])
theorem x_lsw {x : Int32} {dd off : Int} {ps : Array (Int × Int)} {n : Nat} (hd : decode y.2.2.1 pc = .ok (.lookupswitch dd ps, n)) (hp : (ps.toList.zip (ps.toList.drop 1)).all (fun (a, next) => a.1 < next.1) = true) (hx : Op.lookupswitch.offset ps.toList dd x.toInt = off) (ht : (pc : Int) + off = (pc' : Int)) (k : tb_E d y dec pc' ls st H S = some r) : tb_E d y dec pc ls (.int x :: st) H S = some r := by
  have e : tb_tg pc off = pc' := by unfold tb_tg; omega
  subst e
  subst hx
  have h0 : 0 ≤ (pc : Int) + Op.lookupswitch.offset ps.toList dd x.toInt := by omega
  refine tb_xs hd ?_ tb_mo k
  simp only [tb_sti]
  refine tb_nxt ?_
  rw [hp]
  simp [h0]
theorem x_getI {o f c q kx : Nat} {rs : List Nat} {v : Int32} (hd : decode y.2.2.1 pc = .ok (.getfield kx, 3)) (hp : pc + 3 = pc') (hl : tb_look tb_fT y.1 kx = some ((c, f), q)) (hk : Nat.beq (tb_kd c f) 2 = false) (ht : H[o]? = some (c, rs)) (hv : S o f = v) (k : tb_E d y dec pc' ls (.int v :: st) H S = some r) : tb_E d y dec pc ls (.ref o :: st) H S = some r := by
  subst hp; subst hv
  refine tb_xs hd ?_ tb_mo k
  simp only [tb_sti]
  rw [hl]
  dsimp only
  rw [ht]
  dsimp only
  rw [if_pos rfl, if_neg (fun q => by rw [q] at hk; cases hk)]
  exact tb_nxt rfl
theorem x_getR {o f c q kx o2 : Nat} {rs : List Nat} (hd : decode y.2.2.1 pc = .ok (.getfield kx, 3)) (hp : pc + 3 = pc') (hl : tb_look tb_fT y.1 kx = some ((c, f), q)) (hk : tb_kd c f = 2) (ht : H[o]? = some (c, rs)) (hv : rs.getD f 0 = o2 + 1) (k : tb_E d y dec pc' ls (.ref o2 :: st) H S = some r) : tb_E d y dec pc ls (.ref o :: st) H S = some r := by
  subst hp
  refine tb_xs hd ?_ tb_mo k
  simp only [tb_sti]
  rw [hl]
  dsimp only
  rw [ht]
  dsimp only
  rw [if_pos rfl, if_pos hk, hv]
  exact tb_nxt rfl
theorem x_putI {o f c q kx : Nat} {rs : List Nat} {v : Int32} (hd : decode y.2.2.1 pc = .ok (.putfield kx, 3)) (hp : pc + 3 = pc') (hl : tb_look tb_fT y.1 kx = some ((c, f), q)) (hk : tb_kd c f = 0 ∨ tb_kd c f = 1 ∧ (v = 0 ∨ v = 1)) (ht : H[o]? = some (c, rs)) (k : tb_E d y dec pc' ls st H (tb_up S o f v) = some r) : tb_E d y dec pc ls (.int v :: .ref o :: st) H S = some r := by
  subst hp
  refine tb_xs hd ?_ tb_mo k
  simp only [tb_sti]
  rw [hl]
  dsimp only
  rw [ht]
  dsimp only
  rw [if_pos ⟨rfl, hk⟩]
  exact tb_nxt rfl
theorem x_iaload {o j n : Nat} {i : Int32} {v : Int32} (hd : decode y.2.2.1 pc = .ok (.iaload, 1)) (hp : pc + 1 = pc') (ht : H[o]? = some (50, [n])) (hj : tb_ix i n = some j) (hv : S o j = v) (k : tb_E d y dec pc' ls (.int v :: st) H S = some r) : tb_E d y dec pc ls (.int i :: .ref o :: st) H S = some r := by
  subst hp; subst hv
  refine tb_xs hd ?_ tb_mo k
  simp only [tb_sti]
  rw [ht]
  dsimp only
  rw [if_pos (Or.inl rfl), if_pos rfl]
  show (tb_ix i n).bind _ = _
  rw [hj]
  exact tb_nxt rfl
theorem x_iaload54 {o j : Nat} {i : Int32} {v : Int32} {rs : List Nat} (hd : decode y.2.2.1 pc = .ok (.iaload, 1)) (hp : pc + 1 = pc') (ht : H[o]? = some (54, rs)) (hj : tb_ix i (S o 2560).toNatClampNeg = some j) (hv : S o j = v) (k : tb_E d y dec pc' ls (.int v :: st) H S = some r) : tb_E d y dec pc ls (.int i :: .ref o :: st) H S = some r := by
  subst hp; subst hv
  refine tb_xs hd ?_ tb_mo k
  simp only [tb_sti]
  rw [ht]
  dsimp only
  rw [if_pos (Or.inr rfl), if_neg (by decide), hj]
  exact tb_nxt rfl
theorem x_baload {o j n t : Nat} {i : Int32} {v : Int32} (hd : decode y.2.2.1 pc = .ok (.baload, 1)) (hp : pc + 1 = pc') (hk : t = 51 ∨ t = 52) (ht : H[o]? = some (t, [n])) (hj : tb_ix i n = some j) (hv : S o j = v) (k : tb_E d y dec pc' ls (.int v :: st) H S = some r) : tb_E d y dec pc ls (.int i :: .ref o :: st) H S = some r := by
  subst hp; subst hv
  refine tb_xs hd ?_ tb_mo k
  simp only [tb_sti]
  rw [ht]
  dsimp only
  rw [if_pos hk]
  show (tb_ix i n).bind _ = _
  rw [hj]
  exact tb_nxt rfl
theorem x_aaload {o j n o2 : Nat} {rs : List Nat} {i : Int32} (hd : decode y.2.2.1 pc = .ok (.aaload, 1)) (hp : pc + 1 = pc') (ht : H[o]? = some (53, rs)) (hn : rs.length = n) (hj : tb_ix i n = some j) (hv : rs.getD j 0 = o2 + 1) (k : tb_E d y dec pc' ls (.ref o2 :: st) H S = some r) : tb_E d y dec pc ls (.int i :: .ref o :: st) H S = some r := by
  subst hp; subst hn
  refine tb_xs hd ?_ tb_mo k
  simp only [tb_sti]
  rw [ht]
  dsimp only
  rw [if_pos rfl, hj]
  show tb_nx _ _ _ (tb_rv (rs.getD j 0) :: st) _ = _
  rw [hv]
  exact tb_nxt rfl
theorem x_iastore {o j n : Nat} {i v : Int32} (hd : decode y.2.2.1 pc = .ok (.iastore, 1)) (hp : pc + 1 = pc') (ht : H[o]? = some (50, [n])) (hj : tb_ix i n = some j) (k : tb_E d y dec pc' ls st H (tb_up S o j v) = some r) : tb_E d y dec pc ls (.int v :: .int i :: .ref o :: st) H S = some r := by
  subst hp
  refine tb_xs hd ?_ tb_mo k
  simp only [tb_sti]
  rw [ht]
  dsimp only
  rw [if_pos rfl]
  show (tb_ix i n).bind _ = _
  rw [hj]
  exact tb_nxt rfl
theorem x_bastore51 {o j n : Nat} {i v w : Int32} (hd : decode y.2.2.1 pc = .ok (.bastore, 1)) (hp : pc + 1 = pc') (ht : H[o]? = some (51, [n])) (hj : tb_ix i n = some j) (hv : vp_nar .boolean v = w) (k : tb_E d y dec pc' ls st H (tb_up S o j w) = some r) : tb_E d y dec pc ls (.int v :: .int i :: .ref o :: st) H S = some r := by
  subst hp; subst hv
  refine tb_xs hd ?_ tb_mo k
  simp only [tb_sti]
  rw [ht]
  dsimp only
  rw [if_pos (Or.inl rfl)]
  show (tb_ix i n).bind _ = _
  rw [hj]
  exact tb_nxt rfl
theorem x_bastore52 {o j n : Nat} {i v : Int32} (hd : decode y.2.2.1 pc = .ok (.bastore, 1)) (hp : pc + 1 = pc') (ht : H[o]? = some (52, [n])) (hj : tb_ix i n = some j) (k : tb_E d y dec pc' ls st H (tb_up S o j (tb_b8 v)) = some r) : tb_E d y dec pc ls (.int v.toInt8.toInt32 :: .int i :: .ref o :: st) H S = some r := by
  subst hp
  refine tb_xs hd ?_ tb_mo k
  simp only [tb_sti]
  rw [ht]
  dsimp only
  rw [if_pos (Or.inr rfl)]
  show (tb_ix i n).bind _ = _
  rw [hj]
  exact tb_nxt rfl
theorem x_arraylength {o : Nat} {rs : List Nat} (hd : decode y.2.2.1 pc = .ok (.arraylength, 1)) (hp : pc + 1 = pc') (ht : H[o]? = some (54, rs)) (hi : Int32.ofNat (S o 2560).toNatClampNeg = S o 2560) (k : tb_E d y dec pc' ls (.int (S o 2560) :: st) H S = some r) : tb_E d y dec pc ls (.ref o :: st) H S = some r := by
  subst hp
  refine tb_xs hd ?_ tb_mo k
  simp only [tb_sti]
  rw [ht]
  dsimp only
  rw [if_pos ⟨rfl, hi⟩]
  exact tb_nxt rfl
theorem x_mm {a b w : Int32} {kx q c : Nat} (hd : decode y.2.2.1 pc = .ok (.invokestatic kx, 3)) (hp : pc + 3 = pc') (h0 : tb_look tb_mT y.1 kx = none) (hl : tb_look tb_xT y.1 kx = some (c, q)) (hc : Nat.ble (st.map tb_cat).sum 8 = true) (hw : (if c = 0 then tb_max a b else tb_min a b) = w) (k : tb_E d y dec pc' ls (.int w :: st) H S = some r) : tb_E d y dec pc ls (.int b :: .int a :: st) H S = some r := by
  subst hp; subst hw
  refine tb_xs hd ?_ tb_mo k
  simp only [tb_sti]
  rw [h0]
  dsimp only
  rw [hl]
  dsimp only
  rw [if_pos (Nat.le_of_ble_eq_true hc)]
  exact tb_nxt rfl
/-- a run that ends -/
theorem tb_xret {i : Jvm.ClassFile.Instr} {n : Nat} {q : tb_XR} (hd : decode y.2.2.1 pc = .ok (i, n)) (hs : tb_sti (tb_rn d) y i n pc ls st (H, S) = some (.inr q)) (hq : q.2 = (H, S)) (hr : dec q = some r) : tb_E d y dec pc ls st H S = some r := by
  refine Option.bind_eq_some_iff.mpr ⟨q, tb_ex_ret ?_, hr⟩
  unfold tb_stp
  dsimp only
  rw [hd]
  dsimp only
  rw [hs]
  have hm : tb_mono (H, S) (.inr q) = true := by
    unfold tb_mono
    refine decide_eq_true ?_
    rw [hq]
    exact ⟨Nat.le_refl _, Nat.le_refl _⟩
  show (if tb_mono (H, S) _ = true then _ else _) = _
  rw [if_pos hm]
theorem x_iret {v : Int32} (hd : decode y.2.2.1 pc = .ok (.ireturn, 1)) (hy : y.2.2.2.2.1 = some .int) (hr : dec (some (.int v), (H, S)) = some r) : tb_E d y dec pc ls [.int v] H S = some r := by
  refine tb_xret (q := (some (.int v), (H, S))) hd ?_ rfl hr
  simp only [tb_sti]
  rw [if_pos ⟨trivial, Or.inl hy⟩]
theorem x_zret {v : Int32} (hd : decode y.2.2.1 pc = .ok (.ireturn, 1)) (hy : y.2.2.2.2.1 = some .boolean) (hv : v = 0 ∨ v = 1) (hr : dec (some (.int v), (H, S)) = some r) : tb_E d y dec pc ls [.int v] H S = some r := by
  refine tb_xret (q := (some (.int v), (H, S))) hd ?_ rfl hr
  simp only [tb_sti]
  rw [if_pos ⟨trivial, Or.inr ⟨hy, hv⟩⟩]
theorem x_lret {v : Int64} (hd : decode y.2.2.1 pc = .ok (.lreturn, 1)) (hy : y.2.2.2.2.1 = some .long) (hr : dec (some (.long v), (H, S)) = some r) : tb_E d y dec pc ls [.long v] H S = some r := by
  refine tb_xret (q := (some (.long v), (H, S))) hd ?_ rfl hr
  simp only [tb_sti]
  rw [if_pos ⟨trivial, hy⟩]
theorem x_vret (hd : decode y.2.2.1 pc = .ok (.return_, 1)) (hy : y.2.2.2.2.1 = none) (hr : dec (none, (H, S)) = some r) : tb_E d y dec pc ls [] H S = some r := by
  refine tb_xret (q := (none, (H, S))) hd ?_ rfl hr
  simp only [tb_sti]
  rw [if_pos ⟨trivial, hy⟩]
/-- calls: what the called one answers, and its memory -/
theorem x_virt {kx o : Nat} {z : tb_MD} {ps rs : List Nat} {as rest : List Value} {q : tb_XR} (hd : decode y.2.2.1 pc = .ok (.invokevirtual kx, 3)) (hp : pc + 3 = pc') (hl : tb_look tb_mT y.1 kx = some ((0, z), ps)) (h1 : st.drop z.2.2.2.2.2 = .ref o :: rest) (h2 : (st.take z.2.2.2.2.2).reverse = as) (h3 : Nat.beq (st.take z.2.2.2.2.2).length z.2.2.2.2.2 = true) (ht : H[o]? = some (z.1, rs)) (hc : Nat.ble (rest.map tb_cat).sum 8 = true)
    (hq : tb_rn d z (.ref o :: as) (H, S) = some q) (hm : q.2.1 = H) (k : tb_E d y dec pc' ls (q.1.toList ++ rest) H q.2.2 = some r) : tb_E d y dec pc ls st H S = some r := by
  subst hp
  obtain ⟨qv, qH, qS⟩ := q
  dsimp only at hm k
  subst hm
  refine tb_xs hd ?_ tb_mo k
  simp only [tb_sti, hl, h1, ht]
  rw [if_pos ⟨by first | rfl | trivial, Nat.le_of_ble_eq_true hc, Nat.eq_of_beq_eq_true h3⟩, h2, hq]
  exact tb_nxt rfl
theorem x_stat {kx c : Nat} {z : tb_MD} {ps : List Nat} {as rest : List Value} {q : tb_XR} (hd : decode y.2.2.1 pc = .ok (.invokestatic kx, 3)) (hp : pc + 3 = pc') (hl : tb_look tb_mT y.1 kx = some ((c, z), ps)) (hk : c = 1 ∨ c = 2) (h1 : st.drop z.2.2.2.2.2 = rest) (h2 : (st.take z.2.2.2.2.2).reverse = as) (h3 : Nat.beq (st.take z.2.2.2.2.2).length z.2.2.2.2.2 = true) (hc : Nat.ble (rest.map tb_cat).sum 8 = true)
    (hq : tb_rn d z as (H, S) = some q) (hm : q.2.1 = H) (k : tb_E d y dec pc' ls (q.1.toList ++ rest) H q.2.2 = some r) : tb_E d y dec pc ls st H S = some r := by
  subst hp
  obtain ⟨qv, qH, qS⟩ := q
  dsimp only at hm k
  subst hm
  refine tb_xs hd ?_ tb_mo k
  simp only [tb_sti]
  rw [hl]
  try dsimp only
  rw [h1]
  rw [if_pos ⟨hk, Nat.le_of_ble_eq_true hc, Nat.eq_of_beq_eq_true h3⟩, h2, hq]
  exact tb_nxt rfl
end Rows
end
section
/-! THE CLAIM OUT OF ONE WALK OF THE LAW'S BODY. Your part is whole_start (and what it stands on); all else here is the same for every law, but numbers. -/
def R_law : String := "TariffBoxesLaw"
def lw_P (b : Addr) (xs : List Int32) (args : Array Value) (s : State) : Prop := args = #[.ref b] ∧ s.IntsAt b xs ∧ xs.length ≤ 2560 ∧ (Jvm.Cond.and given_1 narrow_1).before args s = true
def lw_Q (_ : Array Value) (s : State) (o : Outcome) (t : State) : Prop := o = .returned (some (.int 1)) ∧ Framed s o t [] 600000 7302250
def lw_Z (below : List Frame) (a : Array Value) (s : State) : State → Prop := fun t => ∃ o, t.status = .running ∧ Ended t below o ∧ lw_Q a s o t
/-- the law's own end, with 1 on the stack, nothing written that was there before, its room as the claim has it -/
theorem lw_ret {p : Program} {l : Launch} {e : Env} {s : State} {m : MethodId} {below : List Frame} {meth : Method} {c : Code} {b : Nat} (hx : p.tables.exec = Jvm.exec) (hb : c.code = code) (hr : meth.sig.returnType = ret) (hlocks : meth.locks = false) {pc : Nat} {H : Heap} {ls : Array Slot} (hdg : decode code pc = .ok (.ireturn, 1)) : W p l e room_1 s m #[Value.ref b] below meth c H [] 600000 7302250 (lw_Z below #[Value.ref b] s) (F0 m pc ls [.int 1]) := by
  intro T hT X
  obtain ⟨fs, hret, hrun, hended, hW, hframe⟩ := X.leave (v := some (.int 1)) (hlocks := hlocks) (fun h => by rw [hr] at h; cases h)
  have hmeth' : T.vm.method? m = some meth := X.method'
  refine ⟨T.setFrames fs, ?_, .returned (some (.int 1)), hrun, hended, rfl, ⟨_, rfl⟩, hW, hframe⟩
  jvm_step X.here [X.here.top, hx, hb, hdg, hmeth', hr, ret, narrow_b1]
  (try refine ⟨rfl, ?_⟩); (try refine ⟨rfl, ?_⟩)
  first | (intro acts; rw [hret _ acts rfl rfl rfl]) | rw [hret _ _ rfl rfl rfl]
  exact Steps.refl _
/-- what holds at the law's entry: the machine, the code, the tables' words (any of lw_tbl by 'hts w (by decide +kernel)'), the script of L ints xs at the cell b, what the Statement gives of the start (any of its parts by flat_of_before) -/
def lw_At (p : Program) (s : State) (m : MethodId) (meth : Method) (c : Code) (b L : Nat) (xs : Nat → Int32) : Prop :=
  p.tables.exec = Jvm.exec ∧ c.code = code ∧ meth.sig.returnType = ret ∧ c.maxLocals = 4 ∧ s.vm.findClass R_law = some m.cls ∧ (∀ w ∈ lw_tbl, w.before #[Value.ref b] s = true) ∧ va_X b L xs s s.heap ∧ b < s.heap.size ∧ meth.locks = false ∧ (Jvm.Cond.and given_1 narrow_1).before #[Value.ref b] s = true
/-- what is owed of the abstract machine: on every script the law's run ends, answers 1, and takes no more cells than the claim has -/
def tb_Owed : Prop := ∀ (L : Nat) (xs : Nat → Int32), L ≤ 2560 → ∃ Mf : tb_MM, tb_ex (tb_rn 100) mL_law (0, [.ref 0, tb_jk, tb_jk, tb_jk], [], ([(54, [])], fun k j => if k = 0 then (if j = 2560 then nI L else xs j) else 0)) = some (some (.int 1), Mf) ∧ tb_cl Mf ≤ 600001 ∧ tb_sl Mf ≤ 7302250
set_option maxHeartbeats 4000000 in
set_option maxRecDepth 100000 in
theorem tb_start (hMul : tb_Mul) (hOwed : tb_Owed) {p : Program} {e : Env} {s : State} {m : MethodId} {below : List Frame} {meth : Method} {c : Code} (l : Launch) {b L : Nat} {xs : Nat → Int32} (hL : L ≤ 2560) (C0 : lw_At p s m meth c b L xs) : W p l e room_1 s m #[Value.ref b] below meth c s.heap [] 0 0 (lw_Z below #[Value.ref b] s) (entryFrame m ([Value.ref b] : List Value).toArray 4) := by
  obtain ⟨hx, hb, hr, hml, hown, hts, hX, hbl, hlocks, hgv⟩ := id C0
  have hgt : ∀ w ∈ tb_gt, w.before #[Value.ref b] s = true := fun w hw => hts w (tb_gt_tbl hw)
  have hKn : ∀ ci, ci < 9 → ∃ (cC : ClassId) (iS : Nat → Nat), u_Kn s (tb_vc ci).1 (tb_vc ci).2.1 (tb_vc ci).2.2 cC iS := by
    intro ci h9
    have hin : ∀ w ∈ u_ws (tb_vc ci).1 (tb_vc ci).2.1 (tb_vc ci).2.2, w ∈ tb_gt := fun w hw => tb_gt_in (tb_uws ci h9 w hw).1 (tb_uws ci h9 w hw).2
    obtain ⟨n, hn⟩ := tb_inst ci h9
    obtain ⟨cC, iS, h⟩ := u_known (C := (tb_vc ci).1) (T := (tb_vc ci).2.1) (N := (tb_vc ci).2.2) (n := n) hgt hin (hts _ hn)
    exact ⟨cC, iS, h⟩
  obtain ⟨dC, dI, hKc⟩ : ∃ (dC : Nat → ClassId) (dI : Nat → Nat → Nat), ∀ (k : Nat) (q : vw_C), vwCl[k]? = some q → u_Kn s q.1 q.2.1 q.2.2 (dC k) (dI k) := by
    classical
    refine ⟨fun k => if h : k < 9 then Classical.choose (hKn k h) else 0, fun k => if h : k < 9 then Classical.choose (Classical.choose_spec (hKn k h)) else fun _ => 0, ?_⟩
    intro k q hq
    have hk : k < 9 := (List.getElem?_eq_some_iff.mp hq).1
    have h2 := (tb_vcl k hk).1
    have h3 : q = tb_vc k := Option.some.inj (hq.symm.trans h2)
    subst h3
    dsimp only
    rw [dif_pos hk, dif_pos hk]
    exact Classical.choose_spec (Classical.choose_spec (hKn k hk))
  have hK : va_K (dC, dI) vwCl [] s := ⟨hKc, fun k q h => by simp at h⟩
  have hNL : tb_NL s := by
    refine ⟨fun q hq hk => ?_, ?_⟩
    · have h1 := tb_mok q hq
      unfold tb_mokB at h1
      simp only [Bool.and_eq_true, Bool.or_eq_true, decide_eq_true_eq] at h1
      obtain ⟨⟨⟨⟨⟨⟨⟨⟨⟨⟨⟨⟨a1, -⟩, -⟩, -⟩, -⟩, -⟩, -⟩, -⟩, -⟩, -⟩, -⟩, -⟩, -⟩ := h1
      rw [if_pos hk] at a1
      exact va_Nw.of rfl (hts _ (tb_tw_in a1))
    · exact hts _ tb_ac.2.2.2.1
  obtain ⟨Mf, hrun, hcl, hsl⟩ := hOwed L xs hL
  obtain ⟨f, hf⟩ := tb_ex_some.mp hrun
  have hH : tb_Hp (dC, dI) b s.heap.size ([(54, [])], fun k j => if k = 0 then (if j = 2560 then nI L else xs j) else 0) s s.heap := by
    refine ⟨hbl, by simp, by simp, fun k t hk => ?_⟩
    have h0 : k < 1 := (List.getElem?_eq_some_iff.mp hk).1
    obtain rfl : k = 0 := by omega
    cases hk
    refine ⟨?_, by simp⟩
    unfold tb_at
    rw [if_neg (show ¬ (54 : Nat) = 50 by decide), if_neg (show ¬ (54 : Nat) = 51 by decide), if_neg (show ¬ (54 : Nat) = 52 by decide), if_neg (show ¬ (54 : Nat) = 53 by decide), if_pos (show (54 : Nat) = 54 from rfl)]
    obtain ⟨scr, e1, e2, e3, e4, e5⟩ := hX
    have hLn : (nI L).toNatClampNeg = L := nI_clamp (by omega)
    refine ⟨scr, e1, e2, e3, ?_, fun j hj => ?_⟩
    · show scr.slots.size = (if (0 : Nat) = 0 then (if (2560 : Nat) = 2560 then nI L else xs 2560) else 0).toNatClampNeg
      rw [if_pos rfl, if_pos rfl, hLn]
      exact e4
    · have hj' : j < (if (0 : Nat) = 0 then (if (2560 : Nat) = 2560 then nI L else xs 2560) else 0).toNatClampNeg := hj
      rw [if_pos rfl, if_pos rfl, hLn] at hj'
      show scr.slots[j]? = some (.int (if (0 : Nat) = 0 then (if j = 2560 then nI L else xs j) else 0))
      rw [if_pos rfl, if_neg (by omega)]
      exact e5 j hj'
  have C : tb_Cx p l room_1 s m #[Value.ref b] meth c (dC, dI) b s.heap.size 100 mL_law (tb_rn 100) :=
    ⟨hx, hb, hml, hown, hgt, hK, fun q => absurd q (by decide), ⟨by decide, by decide⟩, tb_met hMul l (dC, dI) b s.heap.size 100, hNL⟩
  have hent := tb_entry (b := b) (sz := s.heap.size) (as := [.ref 0]) (nL := 4) (by decide) (by decide)
  rw [lg_entry_eq]
  refine tb_run hMul C (c0 := 1) (s0 := 0) (r := (some (.int 1), Mf)) ⟨by show tb_cl Mf ≤ 600000 + 1; omega, by show tb_sl Mf ≤ 7302250 + 0; omega⟩ ?_ f _ hf _ s.heap [] 0 0 hent hH (fun q h => by cases h) (fun _ _ => rfl) rfl rfl
  intro pc ls st M' i n hd hs arr H locs cells slots hL hH' hl hfr hc1 hc2
  rcases tb_ret hs with ⟨v, rfl, rfl, rfl, hv, -⟩ | ⟨v, rfl, rfl, rfl, hv, -⟩ | ⟨rfl, rfl, rfl, hv, -⟩
  · cases hv
    refine va_forget hl (W.widen (k := 600000) (n := 7302250) (by omega) (by omega) ?_)
    exact lw_ret hx hb hr hlocks hd
  · cases hv
  · cases hv
end
section
theorem vr_outer (c : ClassId) (N h0 : Nat) : ∀ i : Nat, Jvm.Free.Multi.outerC c N h0 i = arrV c N (fun j => va_rf (if j < i then some (h0 + 1 + j) else none))
  | 0 => by
    show ({ cls := c, slots := Array.replicate N .null, vm := .none } : Cell) = _
    rw [arrV_new]
    refine congrArg (arrV c N) (funext fun j => ?_)
    simp [va_rf]
  | i + 1 => by
    show (Jvm.Free.Multi.outerC c N h0 i).setSlot i (.ref (h0 + 1 + i)) = _
    rw [vr_outer c N h0 i, arrV_store]
    refine congrArg (arrV c N) (funext fun j => ?_)
    by_cases e : j = i
    · subst e
      simp [updV, va_rf]
    · by_cases h : j < i
      · simp [updV, e, h, Nat.lt_succ_of_lt h]
      · simp [updV, e, h, show ¬ j < i + 1 by omega]
set_option maxHeartbeats 4000000 in
/-- the one making of an array of arrays: Racks' rows -/
theorem tb_mul : tb_Mul := by
  intro p l e R s m args below meth c Q D b sz d y call C M H locs cells slots pc arr st h3 hH hc1 hs1 hd kk
  obtain ⟨hx, hb, hml, hown, hts, hK, -, -, -, hNL⟩ := C
  rw [h3] at hown
  have hlen := tb_ad_len hH
  have hHsz := hH.2.2.1
  have hpos := hH.2.1
  have hcl : (Cond.classLink (tb_cn 3) 9 ("[" ++ (FieldType.array .int).toString)).before args s = true := hts _ (tb_gt_in tb_ac.2.2.2.2 rfl)
  have hac : (Cond.arrayClass .int).before args s = true := hts _ (tb_gt_in tb_ac.1 rfl)
  have hov : (Cond.arrayOver (.array .int)).before args s = true := hNL.2
  intro T hT Xs
  have h4 : (4 : Int32).toNatClampNeg = 4 := by decide +kernel
  have h70 : (70 : Int32).toNatClampNeg = 70 := by decide +kernel
  obtain ⟨vm₁, cA, comp, -, fA, fC, hO, hI, X', step⟩ := Xs.multianewarray2F hx hown hcl hov hac (g := F0 m pc arr (.int 70 :: .int 4 :: st)) rfl (by rw [hb]; exact hd) rfl (by decide +kernel) (by decide +kernel) (by rw [h4]; decide) (by rw [h70]; decide) (by rw [h70]; decide) rfl rfl (by rw [h4]; omega) (by rw [h4, h70]; omega)
  rw [h4, h70] at X' step
  generalize hF : Jvm.Free.Multi.fill (T.setVm vm₁) cA comp 4 70 (defaultValue .int) 4 = F at X' step
  have hTh : (T.setVm vm₁).heap = H := hT
  obtain ⟨f1, f2, -, -⟩ := Jvm.Free.Multi.fill_facts (T.setVm vm₁) cA comp 4 70 (defaultValue .int) 4
  rw [hF, hTh] at f1 f2
  have hold : ∀ x : Nat, x < H.size → F.heap[x]? = H[x]? := fun x hx => by
    have := Jvm.Free.Multi.fill_old (T.setVm vm₁) cA comp 4 70 (defaultValue .int) (a := x) (by rw [hTh]; exact hx) 4
    rw [hF, hTh] at this
    exact this
  have hz : Jvm.Free.Multi.innerC comp 70 (defaultValue .int) = vp_cell comp (70, .inl (fun _ => 0)) := by
    rw [vp_cell_i]
    exact arrV_new comp 70 _
  have hrow : ∀ j : Nat, j < 4 → F.heap[H.size + 1 + j]? = some (vp_cell comp (70, .inl (fun _ => 0))) := fun j hj => by
    have := Jvm.Free.Multi.fill_inner (T.setVm vm₁) cA comp 4 70 (defaultValue .int) 4 j hj
    rw [hF, hTh, hz] at this
    exact this
  have hout : Jvm.Free.Multi.outerC cA 4 H.size 4 = vp_cell cA (4, .inr (.inr (.inr (.inr (fun i => if i < 4 then some (H.size + 1 + i) else none))))) := by
    rw [vp_cell_q]
    exact vr_outer cA 4 H.size 4
  rw [hout] at f2
  have hAr : ArrOfT s cA (.array .int) := fun N9 z9 => by
    obtain ⟨-, k9, hk9, cm9, hkk9⟩ := (hO 0 0 0).1
    exact ⟨(fun q hq => by cases hq), k9, hk9, cm9, hkk9⟩
  have hAi : ArrOfT s comp .int := fun N9 z9 => by
    obtain ⟨-, k9, hk9, cm9, hkk9⟩ := (hI 0 (.int 0)).1
    exact ⟨(fun q hq => by cases hq), k9, hk9, cm9, hkk9⟩
  have hge : sz ≤ H.size := by omega
  refine Exists.elim (kk F.heap ?_ (fun q hq => hold q (Nat.lt_of_lt_of_le hq hge)) F rfl X') (fun t2 h2 => ?_)
  rotate_left
  · refine ⟨t2, step t2 ?_, h2.2⟩
    have e : T.heap.size = H.size := by rw [hT]
    rw [e, hlen]
    exact h2.1
  · have hsz2 : F.heap.size = H.size + 5 := by rw [f1]
    refine ⟨hH.1, by simp, ?_, fun k t hk => ?_⟩
    · rw [hsz2]
      simp only [List.length_append, List.length_cons, List.length_nil]
      omega
    · have hk : (M.1 ++ [(53, [M.1.length + 2, M.1.length + 3, M.1.length + 4, M.1.length + 5]), (50, [70]), (50, [70]), (50, [70]), (50, [70])])[k]? = some t := hk
      by_cases e : k < M.1.length
      · rw [List.getElem?_append_left e] at hk
        have h1 := hH.2.2.2 k t hk
        refine ⟨?_, h1.2⟩
        have hz1 : (tb_zr (tb_zr (tb_zr (tb_zr (tb_zr M.2 M.1.length) (M.1.length + 1)) (M.1.length + 2)) (M.1.length + 3)) (M.1.length + 4)) k = M.2 k := by
          unfold tb_zr
          rw [if_neg (by omega), if_neg (by omega), if_neg (by omega), if_neg (by omega), if_neg (by omega)]
        show tb_at D s b sz k t ((tb_zr (tb_zr (tb_zr (tb_zr (tb_zr M.2 M.1.length) (M.1.length + 1)) (M.1.length + 2)) (M.1.length + 3)) (M.1.length + 4)) k) F.heap
        rw [hz1]
        exact h1.1.kept (hold _ (tb_ad_lt hH e))
      · rw [List.getElem?_append_right (by omega)] at hk
        obtain ⟨i, rfl⟩ : ∃ i, k = M.1.length + i := ⟨k - M.1.length, by omega⟩
        rw [show M.1.length + i - M.1.length = i by omega] at hk
        have had : ∀ i, tb_ad b sz (M.1.length + i) = H.size + i := by
          intro i
          cases hl : M.1.length with
          | zero => omega
          | succ j => rw [show j + 1 + i = (j + i) + 1 by omega]; show sz + (j + i) = _; rw [hl] at hHsz; omega
        have hzi : ∀ i, 1 ≤ i → i ≤ 4 → (tb_zr (tb_zr (tb_zr (tb_zr (tb_zr M.2 M.1.length) (M.1.length + 1)) (M.1.length + 2)) (M.1.length + 3)) (M.1.length + 4)) (M.1.length + i) = fun _ => 0 := by
          intro i g1 g2
          obtain rfl | rfl | rfl | rfl : i = 1 ∨ i = 2 ∨ i = 3 ∨ i = 4 := by omega
          · unfold tb_zr; rw [if_neg (by omega), if_neg (by omega), if_neg (by omega), if_pos rfl]
          · unfold tb_zr; rw [if_neg (by omega), if_neg (by omega), if_pos rfl]
          · unfold tb_zr; rw [if_neg (by omega), if_pos rfl]
          · unfold tb_zr; rw [if_pos rfl]
        have hin : ∀ i, 1 ≤ i → i ≤ 4 → tb_at D s b sz (M.1.length + i) (50, [70]) ((tb_zr (tb_zr (tb_zr (tb_zr (tb_zr M.2 M.1.length) (M.1.length + 1)) (M.1.length + 2)) (M.1.length + 3)) (M.1.length + 4)) (M.1.length + i)) F.heap := by
          intro i g1 g2
          rw [hzi i g1 g2]
          unfold tb_at
          rw [if_pos rfl]
          refine ⟨comp, hAi, ?_⟩
          have hr := hrow (i - 1) (by omega)
          rw [had, show H.size + i = H.size + 1 + (i - 1) by omega]
          exact hr
        have h54 : ∀ i, (M.1.length + i = 0 ↔ (50 : Nat) = 54) := fun i => ⟨fun q => by omega, fun q => by omega⟩
        have hi5 : i < 5 := by
          have := (List.getElem?_eq_some_iff.mp hk).1
          simpa using this
        obtain rfl | rfl | rfl | rfl | rfl : i = 0 ∨ i = 1 ∨ i = 2 ∨ i = 3 ∨ i = 4 := by omega
        · cases hk
          refine ⟨?_, ⟨fun q => by omega, fun q => by cases q⟩⟩
          unfold tb_at
          rw [if_neg (show ¬ (53 : Nat) = 50 by decide), if_neg (show ¬ (53 : Nat) = 51 by decide), if_neg (show ¬ (53 : Nat) = 52 by decide), if_pos (show (53 : Nat) = 53 from rfl)]
          refine ⟨cA, hAr, ?_⟩
          rw [had, Nat.add_zero, f2]
          show some (vp_cell cA (4, .inr (.inr (.inr (.inr (fun i => if i < 4 then some (H.size + 1 + i) else none)))))) = some (vp_cell cA (4, .inr (.inr (.inr (.inr (fun j => tb_ro b sz ([M.1.length + 2, M.1.length + 3, M.1.length + 4, M.1.length + 5].getD j 0)))))))
          congr 7
          funext j
          have hro : ∀ i, tb_ro b sz (M.1.length + i + 1) = some (H.size + i) := fun i => by show some (tb_ad b sz (M.1.length + i)) = _; rw [had]
          match j with
          | 0 => exact (hro 1).symm
          | 1 => exact (hro 2).symm
          | 2 => exact (hro 3).symm
          | 3 => exact (hro 4).symm
          | j + 4 => rw [if_neg (by omega)]; rfl
        · cases hk; exact ⟨hin 1 (by omega) (by omega), h54 1⟩
        · cases hk; exact ⟨hin 2 (by omega) (by omega), h54 2⟩
        · cases hk; exact ⟨hin 3 (by omega) (by omega), h54 3⟩
        · cases hk; exact ⟨hin 4 (by omega) (by omega), h54 4⟩
end
section
theorem tb_owed : tb_Owed := sorry
theorem whole_start {p : Program} {e : Env} {s : State} {m : MethodId} {below : List Frame} {meth : Method} {c : Code} (l : Launch) (hflags : l.flags = flags0) {b L : Nat} {xs : Nat → Int32} (hL : L ≤ 2560) (C0 : lw_At p s m meth c b L xs) : W p l e room_1 s m #[Value.ref b] below meth c s.heap [] 0 0 (lw_Z below #[Value.ref b] s) (entryFrame m ([Value.ref b] : List Value).toArray 4) := tb_start tb_mul tb_owed l hL C0
set_option maxHeartbeats 4000000 in
theorem lw_walk (l : Launch) (hflags : l.flags = flags0) (b : Addr) (xs : List Int32) : MetFree l x (headSpec (Jvm.Cond.code x code maxLocals ret :: tables_1) room_1) (lw_P b xs) (fun _ _ _ _ _ => True) lw_Q := by
  refine MetFree.of_bodyS (code := code) (maxLocals := maxLocals) (ret := ret) (by decide) ?_ ?_
  · intro args s m h hn
    obtain ⟨meth, c, h1, h2, h3, h4, h5, h6, -, -⟩ := Cond.code_spec hn (atoms_spec (ws := Jvm.Cond.code x code maxLocals ret :: tables_1) h _ List.mem_cons_self)
    exact ⟨meth, c, h1, h2, h3, h4, h5, h6⟩
  · intro p e s m args below meth c s₁ B hml0 hP _
    obtain ⟨rfl, hx, hbd, hgv⟩ := hP
    obtain ⟨scr, harrAt, hlist, hof, hsmall⟩ := hx
    obtain ⟨hcb, hkn, -, -⟩ := State.arrayAt?_spec harrAt
    have hown : s.vm.findClass R_law = some m.cls := findClass_of_methodNamed B.named
    have hts0 : ∀ c ∈ (Jvm.Cond.code x code maxLocals ret :: tables_1), c.before #[Value.ref b] s = true := atoms_spec (ws := Jvm.Cond.code x code maxLocals ret :: tables_1) B.pre
    have hts : ∀ w ∈ lw_tbl, w.before #[Value.ref b] s = true := k2_hts_sels lw_privs (fun w hw => hts0 w (List.mem_cons_of_mem _ hw)) lw_privs_ok
    have hml : c.maxLocals = 4 := B.maxLocals_eq (hts0 _ List.mem_cons_self)
    have X₀ : Stand p l e room_1 s m #[Value.ref b] below meth c s₁ [] 0 0 := Stand.of_body B
    have hh0 : s₁.heap = s.heap := by rw [B.state]; rfl
    have hsz : scr.slots.size = xs.length := by rw [← Array.length_toList, hlist, List.length_map]
    have hval : ∀ j : Nat, j < xs.length → scr.slots[j]? = some (.int (xs.getD j 0)) := fun j hj => by
      rw [← Array.getElem?_toList, hlist]
      simp [hj]
    have hbl : b < s.heap.size := (Array.getElem?_eq_some_iff.mp hcb).1
    have hX : va_X b xs.length (fun j => xs.getD j 0) s s.heap := ⟨scr, hcb, hof, hkn, hsz, hval⟩
    have K : W p l e room_1 s m #[Value.ref b] below meth c s₁.heap [] 0 0 (lw_Z below #[Value.ref b] s) (entryFrame m ([Value.ref b] : List Value).toArray 4) := by
      rw [hh0]
      exact whole_start l hflags hbd ⟨B.exec, B.bytes, B.returns, hml, hown, hts, hX, hbl, B.notSynchronized, hgv⟩
    obtain ⟨t, a1, o, b1, b2, b3⟩ := K s₁ rfl X₀
    exact ⟨t, o, a1, b1, b2, b3⟩
theorem lw_pre_spec {args : Array Value} {s : State} (h : (Jvm.Cond.and given_1 narrow_1).before args s = true) (hr : rest_1_c.before args s = true) : ∃ (b : Addr) (xs : List Int32), lw_P b xs args s := by
  have hs := flat_of_before _ h
  have hq := flat_of_before _ hr
  have hc : (Cond.count 1).before args s = true := hs _ (by decide +kernel)
  have harr : (Cond.arrayOf (.arg 0) .int).before args s = true := hs _ (by decide +kernel)
  have hle : (Cond.le (.length (.arg 0)) (.int 2560)).before args s = true := hs _ (by decide +kernel)
  have hlen : (Cond.isInt (.length (.arg 0))).before args s = true := hq _ (by decide +kernel)
  have hall : (Cond.all (.arg 0) (.isInt (.elem (.arg 0) (.index 0)))).before args s = true := hq _ (by decide +kernel)
  obtain ⟨b, xs, hb, hx⟩ := State.ints_of_pre rfl harr hlen hall
  have hsm : xs.length < 2 ^ 31 := hx.choose_spec.2.2.2
  have hev : (Term.length (.arg 0)).eval args s none [] s = some (.int xs.length.toInt32) := hx.length_eval hb
  have hv := Cond.le_ints hev (show (Term.int 2560).eval args s none [] s = some (.int 2560) from rfl)
  have hd : xs.length.toInt32 ≤ 2560 := by
    simpa [Cond.before, Cond.holds, hv] using hle
  have hN : xs.length ≤ 2560 := (Int32.ofNat_le_ofNat hsm (by decide)).mp (show Int32.ofNat xs.length ≤ Int32.ofNat 2560 from hd)
  exact ⟨b, xs, Cond.one_arg hc (show args[0]? = some (.ref b) from hb), hx, hN, h⟩
theorem lw_comes (l : Launch) (hflags : l.flags = flags0) : Comes l x (Jvm.Cond.code x code maxLocals ret :: tables_1) room_1 (fun tb e args s => Calls_1 tb e args s ∧ rest_1 tb e args s ∧ Pre_1 tb e args s)
    (fun _ _ args s o t => lw_Q args s o t) := by
  intro p e ha hc hk s m args below hf hfit hheap happ hpre
  obtain ⟨b, xs, hP⟩ := lw_pre_spec hpre.2.2 hpre.2.1
  obtain ⟨k, o, h1, h2, h3, hQ⟩ := lw_walk l hflags b xs p e ha hc hk s m args below hf ((Spec.applies_iff_loose hf).mp happ).1 hP trivial
  exact ⟨k, o, h1, h2, h3, hQ⟩
theorem lw_frame {s t : State} {o : Outcome} {args : Array Value} (h : Framed s o t [] 600000 7302250) :
    Framed s o t (fieldLocs frame_1_writes args s ++ arrayLocs frame_1_arrays args s ++ staticLocs frame_1_statics s) 600000 7302250 := h
theorem lw_limb (L : Cond) (hL : ∀ (args : Array Value) (s t : State), L.after args s (.returned (some (.int 1))) t = true) :
    ArmFor flags0 classFile x code maxLocals ret World_1 tables_1 room_1 Calls_1 rest_1 Pre_1
      (fun tb e a s o t => postC L tb e a s o t ∧ Framed s o t (fieldLocs frame_1_writes a s ++ arrayLocs frame_1_arrays a s ++ staticLocs frame_1_statics s) 600000 7302250) := by
  intro l hflags _ _ p e ha hc hk s m args below hf hfit hheap happ hpre
  obtain ⟨k, o, h1, h2, h3, rfl, hF⟩ := lw_comes l hflags p e ha hc hk s m args below hf hfit hheap happ hpre
  exact ⟨k, _, h1, h2, h3, hL args s _, lw_frame hF⟩
theorem i_vc : Claimed_1_1 ∧ Claimed_1_2 := ⟨lw_limb limb_1_1 (fun args s t => by simp [limb_1_1, Cond.after, Cond.holds, Cond.value]), lw_limb limb_1_2 (fun args s t => Cond.after_iff.mpr (by
  first | (rw [show limb_1_2 = Cond.eq .result (.int 1) from rfl, Cond.eq_ints (x := 1) (y := 1) rfl rfl]; simp; done) | (simp [limb_1_2, Cond.value, Term.eval]; done)))⟩
end
