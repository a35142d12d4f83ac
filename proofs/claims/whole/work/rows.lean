section
-- ===== PART A: goes FIRST, ahead of the names: the tables' words, and 'selects' of the private methods out of them =====
/-- a private method of a class that the tables say can be made, by its rows of tables_1 -/
def lw_okq (q : MethodName × Nat) : Prop := (q.1.cls ≠ "java/lang/invoke/MethodHandle" ∧ q.1.cls ≠ "java/lang/invoke/VarHandle") ∧ Cond.instantiable q.1.cls q.2 ∈ tables_1 ∧ Cond.privateMethod q.1 ∈ tables_1 ∧ Cond.instanceMethod q.1 ∈ tables_1
theorem lw_p0 : lw_okq (⟨"FretHands$GripFinder", "goThrough", "(I)V"⟩, 16) := ⟨⟨by decide +kernel, by decide +kernel⟩, List.mem_of_getElem? (i := 105) (by decide +kernel), List.mem_of_getElem? (i := 413) (by decide +kernel), List.mem_of_getElem? (i := 414) (by decide +kernel)⟩
theorem lw_p1 : lw_okq (⟨"FretHands$GripFinder", "layFrom", "(IIIIII)V"⟩, 16) := ⟨⟨by decide +kernel, by decide +kernel⟩, List.mem_of_getElem? (i := 105) (by decide +kernel), List.mem_of_getElem? (i := 423) (by decide +kernel), List.mem_of_getElem? (i := 424) (by decide +kernel)⟩
theorem lw_p2 : lw_okq (⟨"FretHands$GripFinder", "tellPositions", "(IIII)V"⟩, 16) := ⟨⟨by decide +kernel, by decide +kernel⟩, List.mem_of_getElem? (i := 105) (by decide +kernel), List.mem_of_getElem? (i := 427) (by decide +kernel), List.mem_of_getElem? (i := 428) (by decide +kernel)⟩
theorem lw_p3 : lw_okq (⟨"FretHands$GripFinder", "pitchesAt", "(I)I"⟩, 16) := ⟨⟨by decide +kernel, by decide +kernel⟩, List.mem_of_getElem? (i := 105) (by decide +kernel), List.mem_of_getElem? (i := 434) (by decide +kernel), List.mem_of_getElem? (i := 435) (by decide +kernel)⟩
theorem lw_p4 : lw_okq (⟨"FretHands$GripFinder", "tell", "(III)V"⟩, 16) := ⟨⟨by decide +kernel, by decide +kernel⟩, List.mem_of_getElem? (i := 105) (by decide +kernel), List.mem_of_getElem? (i := 438) (by decide +kernel), List.mem_of_getElem? (i := 439) (by decide +kernel)⟩
theorem lw_p5 : lw_okq (⟨"FretHands", "partOf", "(IIIII)I"⟩, 9) := ⟨⟨by decide +kernel, by decide +kernel⟩, List.mem_of_getElem? (i := 14) (by decide +kernel), List.mem_of_getElem? (i := 459) (by decide +kernel), List.mem_of_getElem? (i := 460) (by decide +kernel)⟩
theorem lw_p6 : lw_okq (⟨"FretHands$Planner", "fillCell", "(II)V"⟩, 8) := ⟨⟨by decide +kernel, by decide +kernel⟩, List.mem_of_getElem? (i := 168) (by decide +kernel), List.mem_of_getElem? (i := 475) (by decide +kernel), List.mem_of_getElem? (i := 476) (by decide +kernel)⟩
theorem lw_p7 : lw_okq (⟨"FretHands$Planner", "weighRest", "(II)V"⟩, 8) := ⟨⟨by decide +kernel, by decide +kernel⟩, List.mem_of_getElem? (i := 168) (by decide +kernel), List.mem_of_getElem? (i := 482) (by decide +kernel), List.mem_of_getElem? (i := 483) (by decide +kernel)⟩
theorem lw_p8 : lw_okq (⟨"FretHands$Planner", "sumFrom", "(III)I"⟩, 8) := ⟨⟨by decide +kernel, by decide +kernel⟩, List.mem_of_getElem? (i := 168) (by decide +kernel), List.mem_of_getElem? (i := 486) (by decide +kernel), List.mem_of_getElem? (i := 487) (by decide +kernel)⟩
theorem lw_p9 : lw_okq (⟨"FretHands$Planner", "waysAt", "(II)I"⟩, 8) := ⟨⟨by decide +kernel, by decide +kernel⟩, List.mem_of_getElem? (i := 168) (by decide +kernel), List.mem_of_getElem? (i := 493) (by decide +kernel), List.mem_of_getElem? (i := 494) (by decide +kernel)⟩
theorem lw_p10 : lw_okq (⟨"FretHands$Planner", "firstBest", "(II)I"⟩, 8) := ⟨⟨by decide +kernel, by decide +kernel⟩, List.mem_of_getElem? (i := 168) (by decide +kernel), List.mem_of_getElem? (i := 506) (by decide +kernel), List.mem_of_getElem? (i := 507) (by decide +kernel)⟩
theorem lw_p11 : lw_okq (⟨"FretHands$TabWriter", "longestNumber", "(I)I"⟩, 5) := ⟨⟨by decide +kernel, by decide +kernel⟩, List.mem_of_getElem? (i := 217) (by decide +kernel), List.mem_of_getElem? (i := 563) (by decide +kernel), List.mem_of_getElem? (i := 564) (by decide +kernel)⟩
theorem lw_p12 : lw_okq (⟨"FretHands$TabWriter", "fretsBehindCapo", "(II)I"⟩, 5) := ⟨⟨by decide +kernel, by decide +kernel⟩, List.mem_of_getElem? (i := 217) (by decide +kernel), List.mem_of_getElem? (i := 567) (by decide +kernel), List.mem_of_getElem? (i := 568) (by decide +kernel)⟩
theorem lw_p13 : lw_okq (⟨"FretHands$TabWriter", "writeLine", "(I)V"⟩, 5) := ⟨⟨by decide +kernel, by decide +kernel⟩, List.mem_of_getElem? (i := 217) (by decide +kernel), List.mem_of_getElem? (i := 580) (by decide +kernel), List.mem_of_getElem? (i := 581) (by decide +kernel)⟩
theorem lw_p14 : lw_okq (⟨"FretHands$TabWriter", "writeNumber", "(I)I"⟩, 5) := ⟨⟨by decide +kernel, by decide +kernel⟩, List.mem_of_getElem? (i := 217) (by decide +kernel), List.mem_of_getElem? (i := 585) (by decide +kernel), List.mem_of_getElem? (i := 586) (by decide +kernel)⟩
theorem lw_p15 : lw_okq (⟨"FretHands$TabReader", "wrongSign", "()I"⟩, 6) := ⟨⟨by decide +kernel, by decide +kernel⟩, List.mem_of_getElem? (i := 239) (by decide +kernel), List.mem_of_getElem? (i := 597) (by decide +kernel), List.mem_of_getElem? (i := 598) (by decide +kernel)⟩
def lw_privs_1 : List (MethodName × Nat) := [(⟨"FretHands$GripFinder", "goThrough", "(I)V"⟩, 16), (⟨"FretHands$GripFinder", "layFrom", "(IIIIII)V"⟩, 16), (⟨"FretHands$GripFinder", "tellPositions", "(IIII)V"⟩, 16), (⟨"FretHands$GripFinder", "pitchesAt", "(I)I"⟩, 16), (⟨"FretHands$GripFinder", "tell", "(III)V"⟩, 16), (⟨"FretHands", "partOf", "(IIIII)I"⟩, 9), (⟨"FretHands$Planner", "fillCell", "(II)V"⟩, 8), (⟨"FretHands$Planner", "weighRest", "(II)V"⟩, 8), (⟨"FretHands$Planner", "sumFrom", "(III)I"⟩, 8), (⟨"FretHands$Planner", "waysAt", "(II)I"⟩, 8), (⟨"FretHands$Planner", "firstBest", "(II)I"⟩, 8), (⟨"FretHands$TabWriter", "longestNumber", "(I)I"⟩, 5), (⟨"FretHands$TabWriter", "fretsBehindCapo", "(II)I"⟩, 5), (⟨"FretHands$TabWriter", "writeLine", "(I)V"⟩, 5), (⟨"FretHands$TabWriter", "writeNumber", "(I)I"⟩, 5), (⟨"FretHands$TabReader", "wrongSign", "()I"⟩, 6)]
theorem lw_r1 : ∀ q ∈ lw_privs_1, lw_okq q := List.forall_mem_cons.mpr ⟨lw_p0, List.forall_mem_cons.mpr ⟨lw_p1, List.forall_mem_cons.mpr ⟨lw_p2, List.forall_mem_cons.mpr ⟨lw_p3, List.forall_mem_cons.mpr ⟨lw_p4, List.forall_mem_cons.mpr ⟨lw_p5, List.forall_mem_cons.mpr ⟨lw_p6, List.forall_mem_cons.mpr ⟨lw_p7, List.forall_mem_cons.mpr ⟨lw_p8, List.forall_mem_cons.mpr ⟨lw_p9, List.forall_mem_cons.mpr ⟨lw_p10, List.forall_mem_cons.mpr ⟨lw_p11, List.forall_mem_cons.mpr ⟨lw_p12, List.forall_mem_cons.mpr ⟨lw_p13, List.forall_mem_cons.mpr ⟨lw_p14, List.forall_mem_cons.mpr ⟨lw_p15, fun _ h => absurd h List.not_mem_nil⟩⟩⟩⟩⟩⟩⟩⟩⟩⟩⟩⟩⟩⟩⟩⟩
theorem lw_p16 : lw_okq (⟨"FretHands$TabReader", "measureFirstLine", "()I"⟩, 6) := ⟨⟨by decide +kernel, by decide +kernel⟩, List.mem_of_getElem? (i := 239) (by decide +kernel), List.mem_of_getElem? (i := 601) (by decide +kernel), List.mem_of_getElem? (i := 602) (by decide +kernel)⟩
theorem lw_p17 : lw_okq (⟨"FretHands$TabReader", "signIn", "(II)I"⟩, 6) := ⟨⟨by decide +kernel, by decide +kernel⟩, List.mem_of_getElem? (i := 239) (by decide +kernel), List.mem_of_getElem? (i := 612) (by decide +kernel), List.mem_of_getElem? (i := 613) (by decide +kernel)⟩
theorem lw_p18 : lw_okq (⟨"FretHands$TabReader", "placeOf", "(II)I"⟩, 6) := ⟨⟨by decide +kernel, by decide +kernel⟩, List.mem_of_getElem? (i := 239) (by decide +kernel), List.mem_of_getElem? (i := 616) (by decide +kernel), List.mem_of_getElem? (i := 617) (by decide +kernel)⟩
theorem lw_p19 : lw_okq (⟨"FretHands$TabReader", "fitsColumn", "(II)Z"⟩, 6) := ⟨⟨by decide +kernel, by decide +kernel⟩, List.mem_of_getElem? (i := 239) (by decide +kernel), List.mem_of_getElem? (i := 620) (by decide +kernel), List.mem_of_getElem? (i := 621) (by decide +kernel)⟩
theorem lw_p20 : lw_okq (⟨"FretHands$TabReader", "wrongNumber", "()I"⟩, 6) := ⟨⟨by decide +kernel, by decide +kernel⟩, List.mem_of_getElem? (i := 239) (by decide +kernel), List.mem_of_getElem? (i := 624) (by decide +kernel), List.mem_of_getElem? (i := 625) (by decide +kernel)⟩
theorem lw_p21 : lw_okq (⟨"FretHands$TabReader", "beginsNumber", "(II)Z"⟩, 6) := ⟨⟨by decide +kernel, by decide +kernel⟩, List.mem_of_getElem? (i := 239) (by decide +kernel), List.mem_of_getElem? (i := 628) (by decide +kernel), List.mem_of_getElem? (i := 629) (by decide +kernel)⟩
theorem lw_p22 : lw_okq (⟨"FretHands$TabReader", "isFretNumber", "(II)Z"⟩, 6) := ⟨⟨by decide +kernel, by decide +kernel⟩, List.mem_of_getElem? (i := 239) (by decide +kernel), List.mem_of_getElem? (i := 632) (by decide +kernel), List.mem_of_getElem? (i := 633) (by decide +kernel)⟩
theorem lw_p23 : lw_okq (⟨"FretHands$TabReader", "numberIn", "(II)I"⟩, 6) := ⟨⟨by decide +kernel, by decide +kernel⟩, List.mem_of_getElem? (i := 239) (by decide +kernel), List.mem_of_getElem? (i := 636) (by decide +kernel), List.mem_of_getElem? (i := 637) (by decide +kernel)⟩
theorem lw_p24 : lw_okq (⟨"FretHands$TabReader", "shiftedNumber", "()I"⟩, 6) := ⟨⟨by decide +kernel, by decide +kernel⟩, List.mem_of_getElem? (i := 239) (by decide +kernel), List.mem_of_getElem? (i := 640) (by decide +kernel), List.mem_of_getElem? (i := 641) (by decide +kernel)⟩
theorem lw_p25 : lw_okq (⟨"FretHands$TabReader", "hasSecondDigit", "(I)Z"⟩, 6) := ⟨⟨by decide +kernel, by decide +kernel⟩, List.mem_of_getElem? (i := 239) (by decide +kernel), List.mem_of_getElem? (i := 644) (by decide +kernel), List.mem_of_getElem? (i := 645) (by decide +kernel)⟩
theorem lw_p26 : lw_okq (⟨"FretHands$TabReader", "wrongEvent", "()I"⟩, 6) := ⟨⟨by decide +kernel, by decide +kernel⟩, List.mem_of_getElem? (i := 239) (by decide +kernel), List.mem_of_getElem? (i := 648) (by decide +kernel), List.mem_of_getElem? (i := 649) (by decide +kernel)⟩
theorem lw_p27 : lw_okq (⟨"FretHands$TabReader", "loadColumn", "(I)V"⟩, 6) := ⟨⟨by decide +kernel, by decide +kernel⟩, List.mem_of_getElem? (i := 239) (by decide +kernel), List.mem_of_getElem? (i := 652) (by decide +kernel), List.mem_of_getElem? (i := 653) (by decide +kernel)⟩
theorem lw_p28 : lw_okq (⟨"FretHands$TabReader", "countPitches", "()I"⟩, 6) := ⟨⟨by decide +kernel, by decide +kernel⟩, List.mem_of_getElem? (i := 239) (by decide +kernel), List.mem_of_getElem? (i := 660) (by decide +kernel), List.mem_of_getElem? (i := 661) (by decide +kernel)⟩
theorem lw_p29 : lw_okq (⟨"FretHands$TabReader", "hasPitchTwice", "()Z"⟩, 6) := ⟨⟨by decide +kernel, by decide +kernel⟩, List.mem_of_getElem? (i := 239) (by decide +kernel), List.mem_of_getElem? (i := 664) (by decide +kernel), List.mem_of_getElem? (i := 665) (by decide +kernel)⟩
theorem lw_p30 : lw_okq (⟨"FretHands$TabReader", "lowestString", "()I"⟩, 6) := ⟨⟨by decide +kernel, by decide +kernel⟩, List.mem_of_getElem? (i := 239) (by decide +kernel), List.mem_of_getElem? (i := 668) (by decide +kernel), List.mem_of_getElem? (i := 669) (by decide +kernel)⟩
theorem lw_p31 : lw_okq (⟨"FretHands$TabReader", "surplusEvent", "()I"⟩, 6) := ⟨⟨by decide +kernel, by decide +kernel⟩, List.mem_of_getElem? (i := 239) (by decide +kernel), List.mem_of_getElem? (i := 672) (by decide +kernel), List.mem_of_getElem? (i := 673) (by decide +kernel)⟩
def lw_privs_2 : List (MethodName × Nat) := [(⟨"FretHands$TabReader", "measureFirstLine", "()I"⟩, 6), (⟨"FretHands$TabReader", "signIn", "(II)I"⟩, 6), (⟨"FretHands$TabReader", "placeOf", "(II)I"⟩, 6), (⟨"FretHands$TabReader", "fitsColumn", "(II)Z"⟩, 6), (⟨"FretHands$TabReader", "wrongNumber", "()I"⟩, 6), (⟨"FretHands$TabReader", "beginsNumber", "(II)Z"⟩, 6), (⟨"FretHands$TabReader", "isFretNumber", "(II)Z"⟩, 6), (⟨"FretHands$TabReader", "numberIn", "(II)I"⟩, 6), (⟨"FretHands$TabReader", "shiftedNumber", "()I"⟩, 6), (⟨"FretHands$TabReader", "hasSecondDigit", "(I)Z"⟩, 6), (⟨"FretHands$TabReader", "wrongEvent", "()I"⟩, 6), (⟨"FretHands$TabReader", "loadColumn", "(I)V"⟩, 6), (⟨"FretHands$TabReader", "countPitches", "()I"⟩, 6), (⟨"FretHands$TabReader", "hasPitchTwice", "()Z"⟩, 6), (⟨"FretHands$TabReader", "lowestString", "()I"⟩, 6), (⟨"FretHands$TabReader", "surplusEvent", "()I"⟩, 6)]
theorem lw_r2 : ∀ q ∈ lw_privs_2, lw_okq q := List.forall_mem_cons.mpr ⟨lw_p16, List.forall_mem_cons.mpr ⟨lw_p17, List.forall_mem_cons.mpr ⟨lw_p18, List.forall_mem_cons.mpr ⟨lw_p19, List.forall_mem_cons.mpr ⟨lw_p20, List.forall_mem_cons.mpr ⟨lw_p21, List.forall_mem_cons.mpr ⟨lw_p22, List.forall_mem_cons.mpr ⟨lw_p23, List.forall_mem_cons.mpr ⟨lw_p24, List.forall_mem_cons.mpr ⟨lw_p25, List.forall_mem_cons.mpr ⟨lw_p26, List.forall_mem_cons.mpr ⟨lw_p27, List.forall_mem_cons.mpr ⟨lw_p28, List.forall_mem_cons.mpr ⟨lw_p29, List.forall_mem_cons.mpr ⟨lw_p30, List.forall_mem_cons.mpr ⟨lw_p31, fun _ h => absurd h List.not_mem_nil⟩⟩⟩⟩⟩⟩⟩⟩⟩⟩⟩⟩⟩⟩⟩⟩
theorem lw_p32 : lw_okq (⟨"FretHands$TabReader", "takePitches", "()V"⟩, 6) := ⟨⟨by decide +kernel, by decide +kernel⟩, List.mem_of_getElem? (i := 239) (by decide +kernel), List.mem_of_getElem? (i := 681) (by decide +kernel), List.mem_of_getElem? (i := 682) (by decide +kernel)⟩
theorem lw_p33 : lw_okq (⟨"FretHandsModel", "hasPitch", "(II)Z"⟩, 33) := ⟨⟨by decide +kernel, by decide +kernel⟩, List.mem_of_getElem? (i := 690) (by decide +kernel), List.mem_of_getElem? (i := 828) (by decide +kernel), List.mem_of_getElem? (i := 829) (by decide +kernel)⟩
theorem lw_p34 : lw_okq (⟨"FretHandsModel", "isEvent", "(I)Z"⟩, 33) := ⟨⟨by decide +kernel, by decide +kernel⟩, List.mem_of_getElem? (i := 690) (by decide +kernel), List.mem_of_getElem? (i := 836) (by decide +kernel), List.mem_of_getElem? (i := 837) (by decide +kernel)⟩
theorem lw_p35 : lw_okq (⟨"FretHandsModel", "isString", "(I)Z"⟩, 33) := ⟨⟨by decide +kernel, by decide +kernel⟩, List.mem_of_getElem? (i := 690) (by decide +kernel), List.mem_of_getElem? (i := 840) (by decide +kernel), List.mem_of_getElem? (i := 841) (by decide +kernel)⟩
theorem lw_p36 : lw_okq (⟨"FretHandsModel", "fretOf", "(II)I"⟩, 33) := ⟨⟨by decide +kernel, by decide +kernel⟩, List.mem_of_getElem? (i := 690) (by decide +kernel), List.mem_of_getElem? (i := 864) (by decide +kernel), List.mem_of_getElem? (i := 865) (by decide +kernel)⟩
theorem lw_p37 : lw_okq (⟨"FretHandsModel", "findWays", "(I)V"⟩, 33) := ⟨⟨by decide +kernel, by decide +kernel⟩, List.mem_of_getElem? (i := 690) (by decide +kernel), List.mem_of_getElem? (i := 872) (by decide +kernel), List.mem_of_getElem? (i := 873) (by decide +kernel)⟩
theorem lw_p38 : lw_okq (⟨"FretHandsModel", "isGrip", "(III)Z"⟩, 33) := ⟨⟨by decide +kernel, by decide +kernel⟩, List.mem_of_getElem? (i := 690) (by decide +kernel), List.mem_of_getElem? (i := 876) (by decide +kernel), List.mem_of_getElem? (i := 877) (by decide +kernel)⟩
theorem lw_p39 : lw_okq (⟨"FretHandsModel", "told", "(IIII)I"⟩, 33) := ⟨⟨by decide +kernel, by decide +kernel⟩, List.mem_of_getElem? (i := 690) (by decide +kernel), List.mem_of_getElem? (i := 884) (by decide +kernel), List.mem_of_getElem? (i := 885) (by decide +kernel)⟩
theorem lw_p40 : lw_okq (⟨"FretHandsModel", "costOf", "(III)I"⟩, 33) := ⟨⟨by decide +kernel, by decide +kernel⟩, List.mem_of_getElem? (i := 690) (by decide +kernel), List.mem_of_getElem? (i := 888) (by decide +kernel), List.mem_of_getElem? (i := 889) (by decide +kernel)⟩
theorem lw_p41 : lw_okq (⟨"FretHandsModel", "findSums", "()I"⟩, 33) := ⟨⟨by decide +kernel, by decide +kernel⟩, List.mem_of_getElem? (i := 690) (by decide +kernel), List.mem_of_getElem? (i := 896) (by decide +kernel), List.mem_of_getElem? (i := 897) (by decide +kernel)⟩
theorem lw_p42 : lw_okq (⟨"FretHandsModel", "findCosts", "(I)V"⟩, 33) := ⟨⟨by decide +kernel, by decide +kernel⟩, List.mem_of_getElem? (i := 690) (by decide +kernel), List.mem_of_getElem? (i := 900) (by decide +kernel), List.mem_of_getElem? (i := 901) (by decide +kernel)⟩
theorem lw_p43 : lw_okq (⟨"FretHandsModel", "move", "(II)I"⟩, 33) := ⟨⟨by decide +kernel, by decide +kernel⟩, List.mem_of_getElem? (i := 690) (by decide +kernel), List.mem_of_getElem? (i := 908) (by decide +kernel), List.mem_of_getElem? (i := 909) (by decide +kernel)⟩
theorem lw_p44 : lw_okq (⟨"FretHandsModel", "markBack", "(I)V"⟩, 33) := ⟨⟨by decide +kernel, by decide +kernel⟩, List.mem_of_getElem? (i := 690) (by decide +kernel), List.mem_of_getElem? (i := 917) (by decide +kernel), List.mem_of_getElem? (i := 918) (by decide +kernel)⟩
theorem lw_p45 : lw_okq (⟨"FretHandsModel", "goesOn", "(III)Z"⟩, 33) := ⟨⟨by decide +kernel, by decide +kernel⟩, List.mem_of_getElem? (i := 690) (by decide +kernel), List.mem_of_getElem? (i := 921) (by decide +kernel), List.mem_of_getElem? (i := 922) (by decide +kernel)⟩
theorem lw_p46 : lw_okq (⟨"FretHandsModel", "takes", "(II)V"⟩, 33) := ⟨⟨by decide +kernel, by decide +kernel⟩, List.mem_of_getElem? (i := 690) (by decide +kernel), List.mem_of_getElem? (i := 925) (by decide +kernel), List.mem_of_getElem? (i := 926) (by decide +kernel)⟩
theorem lw_p47 : lw_okq (⟨"FretHandsModel", "put", "(I)V"⟩, 33) := ⟨⟨by decide +kernel, by decide +kernel⟩, List.mem_of_getElem? (i := 690) (by decide +kernel), List.mem_of_getElem? (i := 941) (by decide +kernel), List.mem_of_getElem? (i := 942) (by decide +kernel)⟩
def lw_privs_3 : List (MethodName × Nat) := [(⟨"FretHands$TabReader", "takePitches", "()V"⟩, 6), (⟨"FretHandsModel", "hasPitch", "(II)Z"⟩, 33), (⟨"FretHandsModel", "isEvent", "(I)Z"⟩, 33), (⟨"FretHandsModel", "isString", "(I)Z"⟩, 33), (⟨"FretHandsModel", "fretOf", "(II)I"⟩, 33), (⟨"FretHandsModel", "findWays", "(I)V"⟩, 33), (⟨"FretHandsModel", "isGrip", "(III)Z"⟩, 33), (⟨"FretHandsModel", "told", "(IIII)I"⟩, 33), (⟨"FretHandsModel", "costOf", "(III)I"⟩, 33), (⟨"FretHandsModel", "findSums", "()I"⟩, 33), (⟨"FretHandsModel", "findCosts", "(I)V"⟩, 33), (⟨"FretHandsModel", "move", "(II)I"⟩, 33), (⟨"FretHandsModel", "markBack", "(I)V"⟩, 33), (⟨"FretHandsModel", "goesOn", "(III)Z"⟩, 33), (⟨"FretHandsModel", "takes", "(II)V"⟩, 33), (⟨"FretHandsModel", "put", "(I)V"⟩, 33)]
theorem lw_r3 : ∀ q ∈ lw_privs_3, lw_okq q := List.forall_mem_cons.mpr ⟨lw_p32, List.forall_mem_cons.mpr ⟨lw_p33, List.forall_mem_cons.mpr ⟨lw_p34, List.forall_mem_cons.mpr ⟨lw_p35, List.forall_mem_cons.mpr ⟨lw_p36, List.forall_mem_cons.mpr ⟨lw_p37, List.forall_mem_cons.mpr ⟨lw_p38, List.forall_mem_cons.mpr ⟨lw_p39, List.forall_mem_cons.mpr ⟨lw_p40, List.forall_mem_cons.mpr ⟨lw_p41, List.forall_mem_cons.mpr ⟨lw_p42, List.forall_mem_cons.mpr ⟨lw_p43, List.forall_mem_cons.mpr ⟨lw_p44, List.forall_mem_cons.mpr ⟨lw_p45, List.forall_mem_cons.mpr ⟨lw_p46, List.forall_mem_cons.mpr ⟨lw_p47, fun _ h => absurd h List.not_mem_nil⟩⟩⟩⟩⟩⟩⟩⟩⟩⟩⟩⟩⟩⟩⟩⟩
theorem lw_p48 : lw_okq (⟨"FretHandsModel", "numberOn", "(II)I"⟩, 33) := ⟨⟨by decide +kernel, by decide +kernel⟩, List.mem_of_getElem? (i := 690) (by decide +kernel), List.mem_of_getElem? (i := 957) (by decide +kernel), List.mem_of_getElem? (i := 958) (by decide +kernel)⟩
theorem lw_p49 : lw_okq (⟨"FretHandsModel", "readLines", "()V"⟩, 33) := ⟨⟨by decide +kernel, by decide +kernel⟩, List.mem_of_getElem? (i := 690) (by decide +kernel), List.mem_of_getElem? (i := 965) (by decide +kernel), List.mem_of_getElem? (i := 966) (by decide +kernel)⟩
theorem lw_p50 : lw_okq (⟨"FretHandsModel", "look", "()I"⟩, 33) := ⟨⟨by decide +kernel, by decide +kernel⟩, List.mem_of_getElem? (i := 690) (by decide +kernel), List.mem_of_getElem? (i := 969) (by decide +kernel), List.mem_of_getElem? (i := 970) (by decide +kernel)⟩
theorem lw_p51 : lw_okq (⟨"FretHandsModel", "wants", "(Z)V"⟩, 33) := ⟨⟨by decide +kernel, by decide +kernel⟩, List.mem_of_getElem? (i := 690) (by decide +kernel), List.mem_of_getElem? (i := 973) (by decide +kernel), List.mem_of_getElem? (i := 974) (by decide +kernel)⟩
theorem lw_p52 : lw_okq (⟨"FretHandsModel", "faults", "(II)V"⟩, 33) := ⟨⟨by decide +kernel, by decide +kernel⟩, List.mem_of_getElem? (i := 690) (by decide +kernel), List.mem_of_getElem? (i := 977) (by decide +kernel), List.mem_of_getElem? (i := 978) (by decide +kernel)⟩
theorem lw_p53 : lw_okq (⟨"FretHandsModel", "lookNumbers", "()V"⟩, 33) := ⟨⟨by decide +kernel, by decide +kernel⟩, List.mem_of_getElem? (i := 690) (by decide +kernel), List.mem_of_getElem? (i := 984) (by decide +kernel), List.mem_of_getElem? (i := 985) (by decide +kernel)⟩
theorem lw_p54 : lw_okq (⟨"FretHandsModel", "begins", "(II)Z"⟩, 33) := ⟨⟨by decide +kernel, by decide +kernel⟩, List.mem_of_getElem? (i := 690) (by decide +kernel), List.mem_of_getElem? (i := 988) (by decide +kernel), List.mem_of_getElem? (i := 989) (by decide +kernel)⟩
theorem lw_p55 : lw_okq (⟨"FretHandsModel", "isFigureAt", "(II)Z"⟩, 33) := ⟨⟨by decide +kernel, by decide +kernel⟩, List.mem_of_getElem? (i := 690) (by decide +kernel), List.mem_of_getElem? (i := 992) (by decide +kernel), List.mem_of_getElem? (i := 993) (by decide +kernel)⟩
theorem lw_p56 : lw_okq (⟨"FretHandsModel", "placeOf", "(II)I"⟩, 33) := ⟨⟨by decide +kernel, by decide +kernel⟩, List.mem_of_getElem? (i := 690) (by decide +kernel), List.mem_of_getElem? (i := 996) (by decide +kernel), List.mem_of_getElem? (i := 997) (by decide +kernel)⟩
theorem lw_p57 : lw_okq (⟨"FretHandsModel", "lengthAt", "(II)I"⟩, 33) := ⟨⟨by decide +kernel, by decide +kernel⟩, List.mem_of_getElem? (i := 690) (by decide +kernel), List.mem_of_getElem? (i := 1000) (by decide +kernel), List.mem_of_getElem? (i := 1001) (by decide +kernel)⟩
theorem lw_p58 : lw_okq (⟨"FretHandsModel", "valueAt", "(II)I"⟩, 33) := ⟨⟨by decide +kernel, by decide +kernel⟩, List.mem_of_getElem? (i := 690) (by decide +kernel), List.mem_of_getElem? (i := 1004) (by decide +kernel), List.mem_of_getElem? (i := 1005) (by decide +kernel)⟩
theorem lw_p59 : lw_okq (⟨"FretHandsModel", "lookEvents", "()V"⟩, 33) := ⟨⟨by decide +kernel, by decide +kernel⟩, List.mem_of_getElem? (i := 690) (by decide +kernel), List.mem_of_getElem? (i := 1008) (by decide +kernel), List.mem_of_getElem? (i := 1009) (by decide +kernel)⟩
def lw_privs_4 : List (MethodName × Nat) := [(⟨"FretHandsModel", "numberOn", "(II)I"⟩, 33), (⟨"FretHandsModel", "readLines", "()V"⟩, 33), (⟨"FretHandsModel", "look", "()I"⟩, 33), (⟨"FretHandsModel", "wants", "(Z)V"⟩, 33), (⟨"FretHandsModel", "faults", "(II)V"⟩, 33), (⟨"FretHandsModel", "lookNumbers", "()V"⟩, 33), (⟨"FretHandsModel", "begins", "(II)Z"⟩, 33), (⟨"FretHandsModel", "isFigureAt", "(II)Z"⟩, 33), (⟨"FretHandsModel", "placeOf", "(II)I"⟩, 33), (⟨"FretHandsModel", "lengthAt", "(II)I"⟩, 33), (⟨"FretHandsModel", "valueAt", "(II)I"⟩, 33), (⟨"FretHandsModel", "lookEvents", "()V"⟩, 33)]
theorem lw_r4 : ∀ q ∈ lw_privs_4, lw_okq q := List.forall_mem_cons.mpr ⟨lw_p48, List.forall_mem_cons.mpr ⟨lw_p49, List.forall_mem_cons.mpr ⟨lw_p50, List.forall_mem_cons.mpr ⟨lw_p51, List.forall_mem_cons.mpr ⟨lw_p52, List.forall_mem_cons.mpr ⟨lw_p53, List.forall_mem_cons.mpr ⟨lw_p54, List.forall_mem_cons.mpr ⟨lw_p55, List.forall_mem_cons.mpr ⟨lw_p56, List.forall_mem_cons.mpr ⟨lw_p57, List.forall_mem_cons.mpr ⟨lw_p58, List.forall_mem_cons.mpr ⟨lw_p59, fun _ h => absurd h List.not_mem_nil⟩⟩⟩⟩⟩⟩⟩⟩⟩⟩⟩⟩
def lw_privs : List (MethodName × Nat) := lw_privs_1 ++ (lw_privs_2 ++ (lw_privs_3 ++ (lw_privs_4)))
def lw_tbl : List Cond := k2_sels lw_privs ++ tables_1
theorem lw_privs_ok : ∀ q ∈ lw_privs, lw_okq q := by
  show ∀ q ∈ lw_privs_1 ++ (lw_privs_2 ++ (lw_privs_3 ++ (lw_privs_4))), lw_okq q
  exact List.forall_mem_append.mpr ⟨lw_r1, List.forall_mem_append.mpr ⟨lw_r2, List.forall_mem_append.mpr ⟨lw_r3, lw_r4⟩⟩⟩
end
section
def RX0 : String := "FretHands$GripFinder"
def TX0 : u_T := fun k => match k with
  | 0 => ("FretHands$GripFinder", "instrument", "LFretHands$Instrument;", true)
  | 1 => ("FretHands$GripFinder", "weights", "[I", true)
  | 2 => ("FretHands$GripFinder", "tune", "LFretHands$Tune;", true)
  | 3 => ("FretHands$GripFinder", "counts", "[I", true)
  | 4 => ("FretHands$GripFinder", "leastCosts", "[I", true)
  | 5 => ("FretHands$GripFinder", "leastCounts", "[I", true)
  | 6 => ("FretHands$GripFinder", "firstStrings", "[I", true)
  | 7 => ("FretHands$GripFinder", "firstPlaces", "[I", true)
  | 8 => ("FretHands$GripFinder", "pitches", "[I", true)
  | 9 => ("FretHands$GripFinder", "bonds", "[I", true)
  | 10 => ("FretHands$GripFinder", "frets", "[I", true)
  | 11 => ("FretHands$GripFinder", "size", "I", false)
  | 12 => ("FretHands$GripFinder", "wantedPosition", "I", false)
  | 13 => ("FretHands$GripFinder", "wantedPlace", "I", false)
  | 14 => ("FretHands$GripFinder", "wantedStrings", "I", false)
  | _ => ("FretHands$GripFinder", "wantedCost", "I", false)
def tyX0 : Nat → FieldType := fun k => match k with
  | 0 => .object "FretHands$Instrument"
  | 1 => .array .int
  | 2 => .object "FretHands$Tune"
  | 3 => .array .int
  | 4 => .array .int
  | 5 => .array .int
  | 6 => .array .int
  | 7 => .array .int
  | 8 => .array .int
  | 9 => .array .int
  | 10 => .array .int
  | 11 => .int
  | 12 => .int
  | 13 => .int
  | 14 => .int
  | _ => .int
theorem nmX0 : ∀ a, a < 16 → ∀ b, b < 16 → a ≠ b → (TX0 a).2.1 ≠ (TX0 b).2.1 := by decide +kernel
theorem tyX0_ok : ∀ k, k < 16 → parseFieldDescriptor (TX0 k).2.2.1 = some (tyX0 k) := by decide +kernel
abbrev cX0_init : ByteArray := prog_2_method_1_code
def yX0_init : MethodName := ⟨RX0, "<init>", "(LFretHands$Instrument;[ILFretHands$Tune;)V"⟩
abbrev cX0_survey : ByteArray := prog_2_method_2_code
def yX0_survey : MethodName := ⟨RX0, "survey", "(I)V"⟩
abbrev cX0_countBelow : ByteArray := prog_2_method_3_code
def yX0_countBelow : MethodName := ⟨RX0, "countBelow", "(I)I"⟩
abbrev cX0_numberOfFirstLeast : ByteArray := prog_2_method_4_code
def yX0_numberOfFirstLeast : MethodName := ⟨RX0, "numberOfFirstLeast", "(I)I"⟩
abbrev cX0_findNumber : ByteArray := prog_2_method_5_code
def yX0_findNumber : MethodName := ⟨RX0, "findNumber", "(II)Z"⟩
abbrev cX0_goThrough : ByteArray := prog_2_method_6_code
def yX0_goThrough : MethodName := ⟨RX0, "goThrough", "(I)V"⟩
abbrev cX0_layFrom : ByteArray := prog_2_method_7_code
def yX0_layFrom : MethodName := ⟨RX0, "layFrom", "(IIIIII)V"⟩
abbrev cX0_tellPositions : ByteArray := prog_2_method_8_code
def yX0_tellPositions : MethodName := ⟨RX0, "tellPositions", "(IIII)V"⟩
abbrev cX0_pitchesAt : ByteArray := prog_2_method_9_code
def yX0_pitchesAt : MethodName := ⟨RX0, "pitchesAt", "(I)I"⟩
abbrev cX0_tell : ByteArray := prog_2_method_10_code
def yX0_tell : MethodName := ⟨RX0, "tell", "(III)V"⟩
def RX1 : String := "FretHands$Instrument"
def TX1 : u_T := fun k => match k with
  | 0 => ("FretHands$Instrument", "openPitches", "[I", true)
  | 1 => ("FretHands$Instrument", "strings", "I", false)
  | 2 => ("FretHands$Instrument", "lastFret", "I", false)
  | _ => ("FretHands$Instrument", "capoFret", "I", false)
def tyX1 : Nat → FieldType := fun k => match k with
  | 0 => .array .int
  | 1 => .int
  | 2 => .int
  | _ => .int
theorem nmX1 : ∀ a, a < 4 → ∀ b, b < 4 → a ≠ b → (TX1 a).2.1 ≠ (TX1 b).2.1 := by decide +kernel
theorem tyX1_ok : ∀ k, k < 4 → parseFieldDescriptor (TX1 k).2.2.1 = some (tyX1 k) := by decide +kernel
abbrev cX1_init : ByteArray := prog_3_method_1_code
def yX1_init : MethodName := ⟨RX1, "<init>", "()V"⟩
abbrev cX1_hasString : ByteArray := prog_3_method_2_code
def yX1_hasString : MethodName := ⟨RX1, "hasString", "(I)Z"⟩
abbrev cX1_addString : ByteArray := prog_3_method_3_code
def yX1_addString : MethodName := ⟨RX1, "addString", "(I)Z"⟩
abbrev cX1_fretOf : ByteArray := prog_3_method_4_code
def yX1_fretOf : MethodName := ⟨RX1, "fretOf", "(II)I"⟩
abbrev cX1_pitchBehindCapo : ByteArray := prog_3_method_5_code
def yX1_pitchBehindCapo : MethodName := ⟨RX1, "pitchBehindCapo", "(II)I"⟩
def RX2 : String := "FretHands$Plan"
def TX2 : u_T := fun k => match k with
  | 0 => ("FretHands$Plan", "positions", "[I", true)
  | 1 => ("FretHands$Plan", "strings", "[I", true)
  | 2 => ("FretHands$Plan", "costs", "[I", true)
  | 3 => ("FretHands$Plan", "numbers", "[I", true)
  | _ => ("FretHands$Plan", "events", "I", false)
def tyX2 : Nat → FieldType := fun k => match k with
  | 0 => .array .int
  | 1 => .array .int
  | 2 => .array .int
  | 3 => .array .int
  | _ => .int
theorem nmX2 : ∀ a, a < 5 → ∀ b, b < 5 → a ≠ b → (TX2 a).2.1 ≠ (TX2 b).2.1 := by decide +kernel
theorem tyX2_ok : ∀ k, k < 5 → parseFieldDescriptor (TX2 k).2.2.1 = some (tyX2 k) := by decide +kernel
abbrev cX2_init : ByteArray := prog_4_method_1_code
def yX2_init : MethodName := ⟨RX2, "<init>", "()V"⟩
abbrev cX2_forget : ByteArray := prog_4_method_2_code
def yX2_forget : MethodName := ⟨RX2, "forget", "()V"⟩
abbrev cX2_isFound : ByteArray := prog_4_method_3_code
def yX2_isFound : MethodName := ⟨RX2, "isFound", "()Z"⟩
abbrev cX2_hasEvent : ByteArray := prog_4_method_4_code
def yX2_hasEvent : MethodName := ⟨RX2, "hasEvent", "(I)Z"⟩
abbrev cX2_addFirstLeast : ByteArray := prog_4_method_5_code
def yX2_addFirstLeast : MethodName := ⟨RX2, "addFirstLeast", "(LFretHands$GripFinder;I)V"⟩
def RX3 : String := "FretHands$Planner"
def TX3 : u_T := fun k => match k with
  | 0 => ("FretHands$Planner", "instrument", "LFretHands$Instrument;", true)
  | 1 => ("FretHands$Planner", "weights", "[I", true)
  | 2 => ("FretHands$Planner", "tune", "LFretHands$Tune;", true)
  | 3 => ("FretHands$Planner", "finder", "LFretHands$GripFinder;", true)
  | 4 => ("FretHands$Planner", "sums", "[I", true)
  | 5 => ("FretHands$Planner", "ways", "[I", true)
  | 6 => ("FretHands$Planner", "leastSum", "I", false)
  | _ => ("FretHands$Planner", "leastWays", "I", false)
def tyX3 : Nat → FieldType := fun k => match k with
  | 0 => .object "FretHands$Instrument"
  | 1 => .array .int
  | 2 => .object "FretHands$Tune"
  | 3 => .object "FretHands$GripFinder"
  | 4 => .array .int
  | 5 => .array .int
  | 6 => .int
  | _ => .int
theorem nmX3 : ∀ a, a < 8 → ∀ b, b < 8 → a ≠ b → (TX3 a).2.1 ≠ (TX3 b).2.1 := by decide +kernel
theorem tyX3_ok : ∀ k, k < 8 → parseFieldDescriptor (TX3 k).2.2.1 = some (tyX3 k) := by decide +kernel
abbrev cX3_init : ByteArray := prog_5_method_1_code
def yX3_init : MethodName := ⟨RX3, "<init>", "(LFretHands$Instrument;[ILFretHands$Tune;LFretHands$GripFinder;)V"⟩
abbrev cX3_search : ByteArray := prog_5_method_2_code
def yX3_search : MethodName := ⟨RX3, "search", "()V"⟩
abbrev cX3_choose : ByteArray := prog_5_method_3_code
def yX3_choose : MethodName := ⟨RX3, "choose", "(LFretHands$Plan;)V"⟩
abbrev cX3_fillCell : ByteArray := prog_5_method_4_code
def yX3_fillCell : MethodName := ⟨RX3, "fillCell", "(II)V"⟩
abbrev cX3_weighRest : ByteArray := prog_5_method_5_code
def yX3_weighRest : MethodName := ⟨RX3, "weighRest", "(II)V"⟩
abbrev cX3_firstBest : ByteArray := prog_5_method_6_code
def yX3_firstBest : MethodName := ⟨RX3, "firstBest", "(II)I"⟩
abbrev cX3_sumFrom : ByteArray := prog_5_method_7_code
def yX3_sumFrom : MethodName := ⟨RX3, "sumFrom", "(III)I"⟩
abbrev cX3_waysAt : ByteArray := prog_5_method_8_code
def yX3_waysAt : MethodName := ⟨RX3, "waysAt", "(II)I"⟩
abbrev cX3_isCell : ByteArray := prog_5_method_9_code
def yX3_isCell : MethodName := ⟨RX3, "isCell", "(II)Z"⟩
abbrev cX3_atMostTies : ByteArray := prog_5_method_10_code
def yX3_atMostTies : MethodName := ⟨RX3, "atMostTies", "(J)I"⟩
def RX4 : String := "FretHands$StringRow"
def TX4 : u_T := fun k => match k with
  | _ => ("", "", "", false)
def tyX4 : Nat → FieldType := fun k => match k with
  | _ => .int
theorem nmX4 : ∀ a, a < 0 → ∀ b, b < 0 → a ≠ b → (TX4 a).2.1 ≠ (TX4 b).2.1 := by decide +kernel
theorem tyX4_ok : ∀ k, k < 0 → parseFieldDescriptor (TX4 k).2.2.1 = some (tyX4 k) := by decide +kernel
abbrev cX4_with : ByteArray := prog_6_method_2_code
def yX4_with : MethodName := ⟨RX4, "with", "(III)I"⟩
abbrev cX4_stringIn : ByteArray := prog_6_method_3_code
def yX4_stringIn : MethodName := ⟨RX4, "stringIn", "(II)I"⟩
def RX5 : String := "FretHands$TabReader"
def TX5 : u_T := fun k => match k with
  | 0 => ("FretHands$TabReader", "instrument", "LFretHands$Instrument;", true)
  | 1 => ("FretHands$TabReader", "tune", "LFretHands$Tune;", true)
  | 2 => ("FretHands$TabReader", "tape", "LFretHands$Tape;", true)
  | 3 => ("FretHands$TabReader", "lineLength", "I", false)
  | 4 => ("FretHands$TabReader", "columnPitches", "[I", true)
  | _ => ("FretHands$TabReader", "faultPlace", "I", false)
def tyX5 : Nat → FieldType := fun k => match k with
  | 0 => .object "FretHands$Instrument"
  | 1 => .object "FretHands$Tune"
  | 2 => .object "FretHands$Tape"
  | 3 => .int
  | 4 => .array .int
  | _ => .int
theorem nmX5 : ∀ a, a < 6 → ∀ b, b < 6 → a ≠ b → (TX5 a).2.1 ≠ (TX5 b).2.1 := by decide +kernel
theorem tyX5_ok : ∀ k, k < 6 → parseFieldDescriptor (TX5 k).2.2.1 = some (tyX5 k) := by decide +kernel
abbrev cX5_init : ByteArray := prog_7_method_1_code
def yX5_init : MethodName := ⟨RX5, "<init>", "(LFretHands$Instrument;LFretHands$Tune;LFretHands$Tape;)V"⟩
abbrev cX5_findFault : ByteArray := prog_7_method_2_code
def yX5_findFault : MethodName := ⟨RX5, "findFault", "()I"⟩
abbrev cX5_takeEvents : ByteArray := prog_7_method_3_code
def yX5_takeEvents : MethodName := ⟨RX5, "takeEvents", "()V"⟩
abbrev cX5_takePitches : ByteArray := prog_7_method_4_code
def yX5_takePitches : MethodName := ⟨RX5, "takePitches", "()V"⟩
abbrev cX5_wrongSign : ByteArray := prog_7_method_5_code
def yX5_wrongSign : MethodName := ⟨RX5, "wrongSign", "()I"⟩
abbrev cX5_measureFirstLine : ByteArray := prog_7_method_6_code
def yX5_measureFirstLine : MethodName := ⟨RX5, "measureFirstLine", "()I"⟩
abbrev cX5_fitsColumn : ByteArray := prog_7_method_7_code
def yX5_fitsColumn : MethodName := ⟨RX5, "fitsColumn", "(II)Z"⟩
abbrev cX5_wrongNumber : ByteArray := prog_7_method_8_code
def yX5_wrongNumber : MethodName := ⟨RX5, "wrongNumber", "()I"⟩
abbrev cX5_isFretNumber : ByteArray := prog_7_method_9_code
def yX5_isFretNumber : MethodName := ⟨RX5, "isFretNumber", "(II)Z"⟩
abbrev cX5_shiftedNumber : ByteArray := prog_7_method_10_code
def yX5_shiftedNumber : MethodName := ⟨RX5, "shiftedNumber", "()I"⟩
abbrev cX5_hasSecondDigit : ByteArray := prog_7_method_11_code
def yX5_hasSecondDigit : MethodName := ⟨RX5, "hasSecondDigit", "(I)Z"⟩
abbrev cX5_wrongEvent : ByteArray := prog_7_method_12_code
def yX5_wrongEvent : MethodName := ⟨RX5, "wrongEvent", "()I"⟩
abbrev cX5_surplusEvent : ByteArray := prog_7_method_13_code
def yX5_surplusEvent : MethodName := ⟨RX5, "surplusEvent", "()I"⟩
abbrev cX5_loadColumn : ByteArray := prog_7_method_14_code
def yX5_loadColumn : MethodName := ⟨RX5, "loadColumn", "(I)V"⟩
abbrev cX5_countPitches : ByteArray := prog_7_method_15_code
def yX5_countPitches : MethodName := ⟨RX5, "countPitches", "()I"⟩
abbrev cX5_hasPitchTwice : ByteArray := prog_7_method_16_code
def yX5_hasPitchTwice : MethodName := ⟨RX5, "hasPitchTwice", "()Z"⟩
abbrev cX5_lowestString : ByteArray := prog_7_method_17_code
def yX5_lowestString : MethodName := ⟨RX5, "lowestString", "()I"⟩
abbrev cX5_numberIn : ByteArray := prog_7_method_18_code
def yX5_numberIn : MethodName := ⟨RX5, "numberIn", "(II)I"⟩
abbrev cX5_beginsNumber : ByteArray := prog_7_method_19_code
def yX5_beginsNumber : MethodName := ⟨RX5, "beginsNumber", "(II)Z"⟩
abbrev cX5_signIn : ByteArray := prog_7_method_20_code
def yX5_signIn : MethodName := ⟨RX5, "signIn", "(II)I"⟩
abbrev cX5_placeOf : ByteArray := prog_7_method_21_code
def yX5_placeOf : MethodName := ⟨RX5, "placeOf", "(II)I"⟩
abbrev cX5_isInner : ByteArray := prog_7_method_22_code
def yX5_isInner : MethodName := ⟨RX5, "isInner", "(I)Z"⟩
abbrev cX5_isDigit : ByteArray := prog_7_method_23_code
def yX5_isDigit : MethodName := ⟨RX5, "isDigit", "(I)Z"⟩
def RX6 : String := "FretHands$TabWriter"
def TX6 : u_T := fun k => match k with
  | 0 => ("FretHands$TabWriter", "instrument", "LFretHands$Instrument;", true)
  | 1 => ("FretHands$TabWriter", "tune", "LFretHands$Tune;", true)
  | 2 => ("FretHands$TabWriter", "plan", "LFretHands$Plan;", true)
  | 3 => ("FretHands$TabWriter", "tape", "LFretHands$Tape;", true)
  | _ => ("FretHands$TabWriter", "widths", "[I", true)
def tyX6 : Nat → FieldType := fun k => match k with
  | 0 => .object "FretHands$Instrument"
  | 1 => .object "FretHands$Tune"
  | 2 => .object "FretHands$Plan"
  | 3 => .object "FretHands$Tape"
  | _ => .array .int
theorem nmX6 : ∀ a, a < 5 → ∀ b, b < 5 → a ≠ b → (TX6 a).2.1 ≠ (TX6 b).2.1 := by decide +kernel
theorem tyX6_ok : ∀ k, k < 5 → parseFieldDescriptor (TX6 k).2.2.1 = some (tyX6 k) := by decide +kernel
abbrev cX6_init : ByteArray := prog_8_method_1_code
def yX6_init : MethodName := ⟨RX6, "<init>", "(LFretHands$Instrument;LFretHands$Tune;LFretHands$Plan;LFretHands$Tape;)V"⟩
abbrev cX6_writeTab : ByteArray := prog_8_method_2_code
def yX6_writeTab : MethodName := ⟨RX6, "writeTab", "()V"⟩
abbrev cX6_writeLine : ByteArray := prog_8_method_3_code
def yX6_writeLine : MethodName := ⟨RX6, "writeLine", "(I)V"⟩
abbrev cX6_writeNumber : ByteArray := prog_8_method_4_code
def yX6_writeNumber : MethodName := ⟨RX6, "writeNumber", "(I)I"⟩
abbrev cX6_longestNumber : ByteArray := prog_8_method_5_code
def yX6_longestNumber : MethodName := ⟨RX6, "longestNumber", "(I)I"⟩
abbrev cX6_lengthOf : ByteArray := prog_8_method_6_code
def yX6_lengthOf : MethodName := ⟨RX6, "lengthOf", "(I)I"⟩
abbrev cX6_fretsBehindCapo : ByteArray := prog_8_method_7_code
def yX6_fretsBehindCapo : MethodName := ⟨RX6, "fretsBehindCapo", "(II)I"⟩
def RX7 : String := "FretHands$Tape"
def TX7 : u_T := fun k => match k with
  | 0 => ("FretHands$Tape", "row", "[I", true)
  | _ => ("FretHands$Tape", "size", "I", false)
def tyX7 : Nat → FieldType := fun k => match k with
  | 0 => .array .int
  | _ => .int
theorem nmX7 : ∀ a, a < 2 → ∀ b, b < 2 → a ≠ b → (TX7 a).2.1 ≠ (TX7 b).2.1 := by decide +kernel
theorem tyX7_ok : ∀ k, k < 2 → parseFieldDescriptor (TX7 k).2.2.1 = some (tyX7 k) := by decide +kernel
abbrev cX7_init : ByteArray := prog_9_method_1_code
def yX7_init : MethodName := ⟨RX7, "<init>", "()V"⟩
abbrev cX7_add : ByteArray := prog_9_method_2_code
def yX7_add : MethodName := ⟨RX7, "add", "(I)Z"⟩
abbrev cX7_signAt : ByteArray := prog_9_method_3_code
def yX7_signAt : MethodName := ⟨RX7, "signAt", "(I)I"⟩
def RX8 : String := "FretHands$Tune"
def TX8 : u_T := fun k => match k with
  | 0 => ("FretHands$Tune", "sizes", "[I", true)
  | 1 => ("FretHands$Tune", "pitches", "[I", true)
  | 2 => ("FretHands$Tune", "bonds", "[I", true)
  | _ => ("FretHands$Tune", "events", "I", false)
def tyX8 : Nat → FieldType := fun k => match k with
  | 0 => .array .int
  | 1 => .array .int
  | 2 => .array .int
  | _ => .int
theorem nmX8 : ∀ a, a < 4 → ∀ b, b < 4 → a ≠ b → (TX8 a).2.1 ≠ (TX8 b).2.1 := by decide +kernel
theorem tyX8_ok : ∀ k, k < 4 → parseFieldDescriptor (TX8 k).2.2.1 = some (tyX8 k) := by decide +kernel
abbrev cX8_init : ByteArray := prog_10_method_1_code
def yX8_init : MethodName := ⟨RX8, "<init>", "()V"⟩
abbrev cX8_hasEvent : ByteArray := prog_10_method_2_code
def yX8_hasEvent : MethodName := ⟨RX8, "hasEvent", "(I)Z"⟩
abbrev cX8_sizeOf : ByteArray := prog_10_method_3_code
def yX8_sizeOf : MethodName := ⟨RX8, "sizeOf", "(I)I"⟩
abbrev cX8_hasPitch : ByteArray := prog_10_method_4_code
def yX8_hasPitch : MethodName := ⟨RX8, "hasPitch", "(II)Z"⟩
abbrev cX8_pitchOf : ByteArray := prog_10_method_5_code
def yX8_pitchOf : MethodName := ⟨RX8, "pitchOf", "(II)I"⟩
abbrev cX8_stringOf : ByteArray := prog_10_method_6_code
def yX8_stringOf : MethodName := ⟨RX8, "stringOf", "(II)I"⟩
abbrev cX8_bindPitch : ByteArray := prog_10_method_7_code
def yX8_bindPitch : MethodName := ⟨RX8, "bindPitch", "(III)V"⟩
abbrev cX8_contains : ByteArray := prog_10_method_8_code
def yX8_contains : MethodName := ⟨RX8, "contains", "(II)Z"⟩
abbrev cX8_addEvent : ByteArray := prog_10_method_9_code
def yX8_addEvent : MethodName := ⟨RX8, "addEvent", "()Z"⟩
abbrev cX8_addPitch : ByteArray := prog_10_method_10_code
def yX8_addPitch : MethodName := ⟨RX8, "addPitch", "(II)Z"⟩
def RX9 : String := "FretHands"
def TX9 : u_T := fun k => match k with
  | 0 => ("FretHands", "instrument", "LFretHands$Instrument;", true)
  | 1 => ("FretHands", "weights", "[I", true)
  | 2 => ("FretHands", "tune", "LFretHands$Tune;", true)
  | 3 => ("FretHands", "latest", "LFretHands$Plan;", true)
  | 4 => ("FretHands", "finder", "LFretHands$GripFinder;", true)
  | 5 => ("FretHands", "planner", "LFretHands$Planner;", true)
  | 6 => ("FretHands", "signs", "LFretHands$Tape;", true)
  | 7 => ("FretHands", "writer", "LFretHands$TabWriter;", true)
  | _ => ("FretHands", "reader", "LFretHands$TabReader;", true)
def tyX9 : Nat → FieldType := fun k => match k with
  | 0 => .object "FretHands$Instrument"
  | 1 => .array .int
  | 2 => .object "FretHands$Tune"
  | 3 => .object "FretHands$Plan"
  | 4 => .object "FretHands$GripFinder"
  | 5 => .object "FretHands$Planner"
  | 6 => .object "FretHands$Tape"
  | 7 => .object "FretHands$TabWriter"
  | _ => .object "FretHands$TabReader"
theorem nmX9 : ∀ a, a < 9 → ∀ b, b < 9 → a ≠ b → (TX9 a).2.1 ≠ (TX9 b).2.1 := by decide +kernel
theorem tyX9_ok : ∀ k, k < 9 → parseFieldDescriptor (TX9 k).2.2.1 = some (tyX9 k) := by decide +kernel
abbrev cX9_init : ByteArray := prog_1_method_1_code
def yX9_init : MethodName := ⟨RX9, "<init>", "()V"⟩
abbrev cX9_string : ByteArray := prog_1_method_2_code
def yX9_string : MethodName := ⟨RX9, "string", "(I)I"⟩
abbrev cX9_clear : ByteArray := prog_1_method_3_code
def yX9_clear : MethodName := ⟨RX9, "clear", "()I"⟩
abbrev cX9_neck : ByteArray := prog_1_method_4_code
def yX9_neck : MethodName := ⟨RX9, "neck", "(I)I"⟩
abbrev cX9_capo : ByteArray := prog_1_method_5_code
def yX9_capo : MethodName := ⟨RX9, "capo", "(I)I"⟩
abbrev cX9_weight : ByteArray := prog_1_method_6_code
def yX9_weight : MethodName := ⟨RX9, "weight", "(II)I"⟩
abbrev cX9_event : ByteArray := prog_1_method_7_code
def yX9_event : MethodName := ⟨RX9, "event", "(I)I"⟩
abbrev cX9_pitch : ByteArray := prog_1_method_8_code
def yX9_pitch : MethodName := ⟨RX9, "pitch", "(I)I"⟩
abbrev cX9_bind : ByteArray := prog_1_method_9_code
def yX9_bind : MethodName := ⟨RX9, "bind", "(III)I"⟩
abbrev cX9_drop : ByteArray := prog_1_method_10_code
def yX9_drop : MethodName := ⟨RX9, "drop", "()I"⟩
abbrev cX9_told : ByteArray := prog_1_method_11_code
def yX9_told : MethodName := ⟨RX9, "told", "(I)I"⟩
abbrev cX9_at : ByteArray := prog_1_method_12_code
def yX9_at : MethodName := ⟨RX9, "at", "(II)I"⟩
abbrev cX9_bound : ByteArray := prog_1_method_13_code
def yX9_bound : MethodName := ⟨RX9, "bound", "(II)I"⟩
abbrev cX9_fret : ByteArray := prog_1_method_14_code
def yX9_fret : MethodName := ⟨RX9, "fret", "(II)I"⟩
abbrev cX9_grips : ByteArray := prog_1_method_15_code
def yX9_grips : MethodName := ⟨RX9, "grips", "(I)I"⟩
abbrev cX9_grip : ByteArray := prog_1_method_16_code
def yX9_grip : MethodName := ⟨RX9, "grip", "(III)I"⟩
abbrev cX9_plan : ByteArray := prog_1_method_17_code
def yX9_plan : MethodName := ⟨RX9, "plan", "()I"⟩
abbrev cX9_planned : ByteArray := prog_1_method_18_code
def yX9_planned : MethodName := ⟨RX9, "planned", "(II)I"⟩
abbrev cX9_ties : ByteArray := prog_1_method_19_code
def yX9_ties : MethodName := ⟨RX9, "ties", "()I"⟩
abbrev cX9_sign : ByteArray := prog_1_method_20_code
def yX9_sign : MethodName := ⟨RX9, "sign", "(I)I"⟩
abbrev cX9_tape : ByteArray := prog_1_method_21_code
def yX9_tape : MethodName := ⟨RX9, "tape", "(I)I"⟩
abbrev cX9_empty : ByteArray := prog_1_method_22_code
def yX9_empty : MethodName := ⟨RX9, "empty", "()I"⟩
abbrev cX9_write : ByteArray := prog_1_method_23_code
def yX9_write : MethodName := ⟨RX9, "write", "()I"⟩
abbrev cX9_read : ByteArray := prog_1_method_24_code
def yX9_read : MethodName := ⟨RX9, "read", "()I"⟩
abbrev cX9_place : ByteArray := prog_1_method_25_code
def yX9_place : MethodName := ⟨RX9, "place", "()I"⟩
abbrev cX9_isPitch : ByteArray := prog_1_method_26_code
def yX9_isPitch : MethodName := ⟨RX9, "isPitch", "(I)Z"⟩
abbrev cX9_partOf : ByteArray := prog_1_method_27_code
def yX9_partOf : MethodName := ⟨RX9, "partOf", "(IIIII)I"⟩
def RX10 : String := "FretHandsModel"
def TX10 : u_T := fun k => match k with
  | 0 => ("FretHandsModel", "strings", "I", false)
  | 1 => ("FretHandsModel", "tuned", "[I", true)
  | 2 => ("FretHandsModel", "neck", "I", false)
  | 3 => ("FretHandsModel", "capo", "I", false)
  | 4 => ("FretHandsModel", "weights", "[I", true)
  | 5 => ("FretHandsModel", "events", "I", false)
  | 6 => ("FretHandsModel", "pitchMany", "[I", true)
  | 7 => ("FretHandsModel", "pitches", "[I", true)
  | 8 => ("FretHandsModel", "bounds", "[I", true)
  | 9 => ("FretHandsModel", "isFound", "Z", false)
  | 10 => ("FretHandsModel", "foundAt", "[I", true)
  | 11 => ("FretHandsModel", "foundStrings", "[I", true)
  | 12 => ("FretHandsModel", "foundCost", "[I", true)
  | 13 => ("FretHandsModel", "foundNumber", "[I", true)
  | 14 => ("FretHandsModel", "signs", "I", false)
  | 15 => ("FretHandsModel", "tape", "[I", true)
  | 16 => ("FretHandsModel", "faultPlace", "I", false)
  | 17 => ("FretHandsModel", "ways", "I", false)
  | 18 => ("FretHandsModel", "wayStrings", "[I", true)
  | 19 => ("FretHandsModel", "wayFrets", "[I", true)
  | 20 => ("FretHandsModel", "least", "[I", true)
  | 21 => ("FretHandsModel", "manyLeast", "[I", true)
  | 22 => ("FretHandsModel", "sums", "[I", true)
  | 23 => ("FretHandsModel", "rows", "[I", true)
  | 24 => ("FretHandsModel", "isOn", "[Z", true)
  | 25 => ("FretHandsModel", "at", "I", false)
  | 26 => ("FretHandsModel", "columns", "I", false)
  | 27 => ("FretHandsModel", "fault", "I", false)
  | 28 => ("FretHandsModel", "faultAt", "I", false)
  | 29 => ("FretHandsModel", "newEvents", "I", false)
  | 30 => ("FretHandsModel", "newMany", "[I", true)
  | 31 => ("FretHandsModel", "newPitches", "[I", true)
  | _ => ("FretHandsModel", "newBounds", "[I", true)
def tyX10 : Nat → FieldType := fun k => match k with
  | 0 => .int
  | 1 => .array .int
  | 2 => .int
  | 3 => .int
  | 4 => .array .int
  | 5 => .int
  | 6 => .array .int
  | 7 => .array .int
  | 8 => .array .int
  | 9 => .boolean
  | 10 => .array .int
  | 11 => .array .int
  | 12 => .array .int
  | 13 => .array .int
  | 14 => .int
  | 15 => .array .int
  | 16 => .int
  | 17 => .int
  | 18 => .array .int
  | 19 => .array .int
  | 20 => .array .int
  | 21 => .array .int
  | 22 => .array .int
  | 23 => .array .int
  | 24 => .array .boolean
  | 25 => .int
  | 26 => .int
  | 27 => .int
  | 28 => .int
  | 29 => .int
  | 30 => .array .int
  | 31 => .array .int
  | _ => .array .int
theorem nmX10 : ∀ a, a < 33 → ∀ b, b < 33 → a ≠ b → (TX10 a).2.1 ≠ (TX10 b).2.1 := by decide +kernel
theorem tyX10_ok : ∀ k, k < 33 → parseFieldDescriptor (TX10 k).2.2.1 = some (tyX10 k) := by decide +kernel
abbrev cX10_init : ByteArray := prog_12_method_1_code
def yX10_init : MethodName := ⟨RX10, "<init>", "()V"⟩
abbrev cX10_within : ByteArray := prog_12_method_3_code
def yX10_within : MethodName := ⟨RX10, "within", "(III)Z"⟩
abbrev cX10_isEvent : ByteArray := prog_12_method_4_code
def yX10_isEvent : MethodName := ⟨RX10, "isEvent", "(I)Z"⟩
abbrev cX10_isString : ByteArray := prog_12_method_5_code
def yX10_isString : MethodName := ⟨RX10, "isString", "(I)Z"⟩
abbrev cX10_string : ByteArray := prog_12_method_6_code
def yX10_string : MethodName := ⟨RX10, "string", "(I)I"⟩
abbrev cX10_clear : ByteArray := prog_12_method_7_code
def yX10_clear : MethodName := ⟨RX10, "clear", "()I"⟩
abbrev cX10_neck : ByteArray := prog_12_method_8_code
def yX10_neck : MethodName := ⟨RX10, "neck", "(I)I"⟩
abbrev cX10_capo : ByteArray := prog_12_method_9_code
def yX10_capo : MethodName := ⟨RX10, "capo", "(I)I"⟩
abbrev cX10_weight : ByteArray := prog_12_method_10_code
def yX10_weight : MethodName := ⟨RX10, "weight", "(II)I"⟩
abbrev cX10_event : ByteArray := prog_12_method_11_code
def yX10_event : MethodName := ⟨RX10, "event", "(I)I"⟩
abbrev cX10_hasPitch : ByteArray := prog_12_method_12_code
def yX10_hasPitch : MethodName := ⟨RX10, "hasPitch", "(II)Z"⟩
abbrev cX10_pitch : ByteArray := prog_12_method_13_code
def yX10_pitch : MethodName := ⟨RX10, "pitch", "(I)I"⟩
abbrev cX10_bind : ByteArray := prog_12_method_14_code
def yX10_bind : MethodName := ⟨RX10, "bind", "(III)I"⟩
abbrev cX10_drop : ByteArray := prog_12_method_15_code
def yX10_drop : MethodName := ⟨RX10, "drop", "()I"⟩
abbrev cX10_told : ByteArray := prog_12_method_16_code
def yX10_told : MethodName := ⟨RX10, "told", "(I)I"⟩
abbrev cX10_at : ByteArray := prog_12_method_17_code
def yX10_at : MethodName := ⟨RX10, "at", "(II)I"⟩
abbrev cX10_bound : ByteArray := prog_12_method_18_code
def yX10_bound : MethodName := ⟨RX10, "bound", "(II)I"⟩
abbrev cX10_fretOf : ByteArray := prog_12_method_19_code
def yX10_fretOf : MethodName := ⟨RX10, "fretOf", "(II)I"⟩
abbrev cX10_fret : ByteArray := prog_12_method_20_code
def yX10_fret : MethodName := ⟨RX10, "fret", "(II)I"⟩
abbrev cX10_findWays : ByteArray := prog_12_method_21_code
def yX10_findWays : MethodName := ⟨RX10, "findWays", "(I)V"⟩
abbrev cX10_isGrip : ByteArray := prog_12_method_22_code
def yX10_isGrip : MethodName := ⟨RX10, "isGrip", "(III)Z"⟩
abbrev cX10_costOf : ByteArray := prog_12_method_23_code
def yX10_costOf : MethodName := ⟨RX10, "costOf", "(III)I"⟩
abbrev cX10_grips : ByteArray := prog_12_method_24_code
def yX10_grips : MethodName := ⟨RX10, "grips", "(I)I"⟩
abbrev cX10_grip : ByteArray := prog_12_method_25_code
def yX10_grip : MethodName := ⟨RX10, "grip", "(III)I"⟩
abbrev cX10_told_ : ByteArray := prog_12_method_26_code
def yX10_told_ : MethodName := ⟨RX10, "told", "(IIII)I"⟩
abbrev cX10_at_ : ByteArray := prog_12_method_27_code
def yX10_at_ : MethodName := ⟨RX10, "at", "(I)I"⟩
abbrev cX10_findCosts : ByteArray := prog_12_method_28_code
def yX10_findCosts : MethodName := ⟨RX10, "findCosts", "(I)V"⟩
abbrev cX10_move : ByteArray := prog_12_method_29_code
def yX10_move : MethodName := ⟨RX10, "move", "(II)I"⟩
abbrev cX10_few : ByteArray := prog_12_method_30_code
def yX10_few : MethodName := ⟨RX10, "few", "(J)I"⟩
abbrev cX10_findSums : ByteArray := prog_12_method_31_code
def yX10_findSums : MethodName := ⟨RX10, "findSums", "()I"⟩
abbrev cX10_goesOn : ByteArray := prog_12_method_32_code
def yX10_goesOn : MethodName := ⟨RX10, "goesOn", "(III)Z"⟩
abbrev cX10_markBack : ByteArray := prog_12_method_33_code
def yX10_markBack : MethodName := ⟨RX10, "markBack", "(I)V"⟩
abbrev cX10_takes : ByteArray := prog_12_method_34_code
def yX10_takes : MethodName := ⟨RX10, "takes", "(II)V"⟩
abbrev cX10_plan : ByteArray := prog_12_method_35_code
def yX10_plan : MethodName := ⟨RX10, "plan", "()I"⟩
abbrev cX10_planned : ByteArray := prog_12_method_36_code
def yX10_planned : MethodName := ⟨RX10, "planned", "(II)I"⟩
abbrev cX10_ties : ByteArray := prog_12_method_37_code
def yX10_ties : MethodName := ⟨RX10, "ties", "()I"⟩
abbrev cX10_sign : ByteArray := prog_12_method_38_code
def yX10_sign : MethodName := ⟨RX10, "sign", "(I)I"⟩
abbrev cX10_put : ByteArray := prog_12_method_39_code
def yX10_put : MethodName := ⟨RX10, "put", "(I)V"⟩
abbrev cX10_tape : ByteArray := prog_12_method_40_code
def yX10_tape : MethodName := ⟨RX10, "tape", "(I)I"⟩
abbrev cX10_empty : ByteArray := prog_12_method_41_code
def yX10_empty : MethodName := ⟨RX10, "empty", "()I"⟩
abbrev cX10_numberOn : ByteArray := prog_12_method_42_code
def yX10_numberOn : MethodName := ⟨RX10, "numberOn", "(II)I"⟩
abbrev cX10_write : ByteArray := prog_12_method_43_code
def yX10_write : MethodName := ⟨RX10, "write", "()I"⟩
abbrev cX10_look : ByteArray := prog_12_method_44_code
def yX10_look : MethodName := ⟨RX10, "look", "()I"⟩
abbrev cX10_isFigure : ByteArray := prog_12_method_45_code
def yX10_isFigure : MethodName := ⟨RX10, "isFigure", "(I)Z"⟩
abbrev cX10_faults : ByteArray := prog_12_method_46_code
def yX10_faults : MethodName := ⟨RX10, "faults", "(II)V"⟩
abbrev cX10_wants : ByteArray := prog_12_method_47_code
def yX10_wants : MethodName := ⟨RX10, "wants", "(Z)V"⟩
abbrev cX10_readLines : ByteArray := prog_12_method_48_code
def yX10_readLines : MethodName := ⟨RX10, "readLines", "()V"⟩
abbrev cX10_placeOf : ByteArray := prog_12_method_49_code
def yX10_placeOf : MethodName := ⟨RX10, "placeOf", "(II)I"⟩
abbrev cX10_isFigureAt : ByteArray := prog_12_method_50_code
def yX10_isFigureAt : MethodName := ⟨RX10, "isFigureAt", "(II)Z"⟩
abbrev cX10_begins : ByteArray := prog_12_method_51_code
def yX10_begins : MethodName := ⟨RX10, "begins", "(II)Z"⟩
abbrev cX10_lengthAt : ByteArray := prog_12_method_52_code
def yX10_lengthAt : MethodName := ⟨RX10, "lengthAt", "(II)I"⟩
abbrev cX10_valueAt : ByteArray := prog_12_method_53_code
def yX10_valueAt : MethodName := ⟨RX10, "valueAt", "(II)I"⟩
abbrev cX10_lookNumbers : ByteArray := prog_12_method_54_code
def yX10_lookNumbers : MethodName := ⟨RX10, "lookNumbers", "()V"⟩
abbrev cX10_lookEvents : ByteArray := prog_12_method_55_code
def yX10_lookEvents : MethodName := ⟨RX10, "lookEvents", "()V"⟩
abbrev cX10_read : ByteArray := prog_12_method_56_code
def yX10_read : MethodName := ⟨RX10, "read", "()I"⟩
abbrev cX10_place : ByteArray := prog_12_method_57_code
def yX10_place : MethodName := ⟨RX10, "place", "()I"⟩
def RJ9 : String := "java/lang/Math"
def TJ9 : u_T := fun k => match k with
  | _ => ("", "", "", false)
def tyJ9 : Nat → FieldType := fun k => match k with
  | _ => .int
theorem nmJ9 : ∀ a, a < 0 → ∀ b, b < 0 → a ≠ b → (TJ9 a).2.1 ≠ (TJ9 b).2.1 := by decide +kernel
theorem tyJ9_ok : ∀ k, k < 0 → parseFieldDescriptor (TJ9 k).2.2.1 = some (tyJ9 k) := by decide +kernel
abbrev cJ9_abs_0f7a4 : ByteArray := prog_13_method_59_code
def yJ9_abs_0f7a4 : MethodName := ⟨RJ9, "abs", "(I)I"⟩
abbrev cJ9_max_7cf53 : ByteArray := prog_13_method_65_code
def yJ9_max_7cf53 : MethodName := ⟨RJ9, "max", "(II)I"⟩
abbrev cJ9_min_7cf53 : ByteArray := prog_13_method_69_code
def yJ9_min_7cf53 : MethodName := ⟨RJ9, "min", "(II)I"⟩
def RL : String := "FretHandsLaw"
abbrev cL_law : ByteArray := code
def yL_law : MethodName := ⟨RL, "law", "([I)Z"⟩
abbrev vwCl : List vw_C := [(RX0, TX0, 16), (RX1, TX1, 4), (RX2, TX2, 5), (RX3, TX3, 8), (RX5, TX5, 6), (RX6, TX6, 5), (RX7, TX7, 2), (RX8, TX8, 4), (RX9, TX9, 9), (RX10, TX10, 33)]
end
section
def wU : List Cond := lw_tbl.filter goodWord
theorem wU1 {w : Cond} (h : w ∈ tables_1_1) (hg : goodWord w = true) : w ∈ wU := List.mem_filter.mpr ⟨List.mem_append_right _ (show w ∈ tables_1 from List.mem_append_left _ h), hg⟩
theorem wU2 {w : Cond} (h : w ∈ tables_1_2) (hg : goodWord w = true) : w ∈ wU := List.mem_filter.mpr ⟨List.mem_append_right _ (show w ∈ tables_1 from List.mem_append_right _ (List.mem_append_left _ h)), hg⟩
theorem wU3 {w : Cond} (h : w ∈ tables_1_3) (hg : goodWord w = true) : w ∈ wU := List.mem_filter.mpr ⟨List.mem_append_right _ (show w ∈ tables_1 from List.mem_append_right _ (List.mem_append_right _ (List.mem_append_left _ h))), hg⟩
theorem wU4 {w : Cond} (h : w ∈ tables_1_4) (hg : goodWord w = true) : w ∈ wU := List.mem_filter.mpr ⟨List.mem_append_right _ (show w ∈ tables_1 from List.mem_append_right _ (List.mem_append_right _ (List.mem_append_right _ (List.mem_append_left _ h)))), hg⟩
theorem wU5 {w : Cond} (h : w ∈ tables_1_5) (hg : goodWord w = true) : w ∈ wU := List.mem_filter.mpr ⟨List.mem_append_right _ (show w ∈ tables_1 from List.mem_append_right _ (List.mem_append_right _ (List.mem_append_right _ (List.mem_append_right _ (h))))), hg⟩
theorem wUs {w : Cond} (h : w ∈ k2_sels lw_privs) (hg : goodWord w = true) : w ∈ wU := List.mem_filter.mpr ⟨List.mem_append_left _ h, hg⟩
theorem wd_0 : Cond.initialized RL ∈ wU := wU1 (List.mem_of_getElem? (i := 0) rfl) rfl
theorem wd_1 : Cond.initialized RX9 ∈ wU := wU1 (List.mem_of_getElem? (i := 1) rfl) rfl
theorem wd_2 : Cond.initialized RX1 ∈ wU := wU1 (List.mem_of_getElem? (i := 2) rfl) rfl
theorem wd_3 : Cond.initialized RX8 ∈ wU := wU1 (List.mem_of_getElem? (i := 3) rfl) rfl
theorem wd_4 : Cond.initialized RX2 ∈ wU := wU1 (List.mem_of_getElem? (i := 4) rfl) rfl
theorem wd_5 : Cond.initialized RX0 ∈ wU := wU1 (List.mem_of_getElem? (i := 5) rfl) rfl
theorem wd_6 : Cond.initialized RX3 ∈ wU := wU1 (List.mem_of_getElem? (i := 6) rfl) rfl
theorem wd_7 : Cond.initialized RX7 ∈ wU := wU1 (List.mem_of_getElem? (i := 7) rfl) rfl
theorem wd_8 : Cond.initialized RX6 ∈ wU := wU1 (List.mem_of_getElem? (i := 8) rfl) rfl
theorem wd_9 : Cond.initialized RX5 ∈ wU := wU1 (List.mem_of_getElem? (i := 9) rfl) rfl
theorem wd_10 : Cond.initialized RX10 ∈ wU := wU1 (List.mem_of_getElem? (i := 10) rfl) rfl
theorem wd_11 : Cond.initialized "java/lang/Math" ∈ wU := wU1 (List.mem_of_getElem? (i := 11) rfl) rfl
theorem wd_12 : Cond.initialized RX4 ∈ wU := wU1 (List.mem_of_getElem? (i := 12) rfl) rfl
theorem wd_13 : Cond.classLink RL 7 RX9 ∈ wU := wU1 (List.mem_of_getElem? (i := 13) rfl) rfl
theorem wd_14 : Cond.instantiable RX9 9 ∈ wU := wU1 (List.mem_of_getElem? (i := 14) rfl) rfl
theorem wd_15 : Cond.methodLink RL 9 yX9_init ∈ wU := wU1 (List.mem_of_getElem? (i := 15) rfl) rfl
theorem wd_16 : Cond.instanceMethod yX9_init ∈ wU := wU1 (List.mem_of_getElem? (i := 16) rfl) rfl
theorem wd_17 : Cond.code yX9_init prog_1_method_1_code 1 none ∈ wU := wU1 (List.mem_of_getElem? (i := 17) rfl) rfl
theorem wd_18 : Cond.methodLink RX9 3 objectInit ∈ wU := wU1 (List.mem_of_getElem? (i := 18) rfl) rfl
theorem wd_19 : Cond.instanceMethod objectInit ∈ wU := wU1 (List.mem_of_getElem? (i := 19) rfl) rfl
theorem wd_20 : Cond.code objectInit ⟨#[0xb1]⟩ 1 none ∈ wU := wU1 (List.mem_of_getElem? (i := 20) rfl) rfl
theorem wd_21 : Cond.classLink RX9 9 RX1 ∈ wU := wU1 (List.mem_of_getElem? (i := 21) rfl) rfl
theorem wd_22 : Cond.instantiable RX1 4 ∈ wU := wU1 (List.mem_of_getElem? (i := 22) rfl) rfl
theorem wd_23 : Cond.instanceMethod yX1_init ∈ wU := wU1 (List.mem_of_getElem? (i := 24) rfl) rfl
theorem wd_24 : Cond.code yX1_init prog_3_method_1_code 1 none ∈ wU := wU1 (List.mem_of_getElem? (i := 25) rfl) rfl
theorem wd_25 : Cond.methodLink RX1 3 objectInit ∈ wU := wU1 (List.mem_of_getElem? (i := 26) rfl) rfl
theorem wd_26 : Cond.fieldLink RX1 9 RX1 "openPitches" "[I" ∈ wU := wU1 (List.mem_of_getElem? (i := 27) rfl) rfl
theorem wd_27 : Cond.fieldLink RX1 15 RX1 "strings" "I" ∈ wU := wU1 (List.mem_of_getElem? (i := 28) rfl) rfl
theorem wd_28 : Cond.fieldLink RX6 46 RX1 "strings" "I" ∈ wU := wU1 (List.mem_of_getElem? (i := 29) rfl) rfl
theorem wd_29 : Cond.fieldLink RX9 88 RX1 "strings" "I" ∈ wU := wU1 (List.mem_of_getElem? (i := 30) rfl) rfl
theorem wd_30 : Cond.fieldLink RX5 69 RX1 "strings" "I" ∈ wU := wU1 (List.mem_of_getElem? (i := 31) rfl) rfl
theorem wd_31 : Cond.fieldLink RX0 107 RX1 "strings" "I" ∈ wU := wU1 (List.mem_of_getElem? (i := 32) rfl) rfl
theorem wd_32 : Cond.fieldLink RX1 19 RX1 "lastFret" "I" ∈ wU := wU1 (List.mem_of_getElem? (i := 33) rfl) rfl
theorem wd_33 : Cond.fieldLink RX9 94 RX1 "lastFret" "I" ∈ wU := wU1 (List.mem_of_getElem? (i := 34) rfl) rfl
theorem wd_34 : Cond.fieldLink RX3 90 RX1 "lastFret" "I" ∈ wU := wU1 (List.mem_of_getElem? (i := 35) rfl) rfl
theorem wd_35 : Cond.fieldLink RX0 91 RX1 "lastFret" "I" ∈ wU := wU1 (List.mem_of_getElem? (i := 36) rfl) rfl
theorem wd_36 : Cond.fieldLink RX5 119 RX1 "lastFret" "I" ∈ wU := wU1 (List.mem_of_getElem? (i := 37) rfl) rfl
theorem wd_37 : Cond.fieldLink RX1 22 RX1 "capoFret" "I" ∈ wU := wU1 (List.mem_of_getElem? (i := 38) rfl) rfl
theorem wd_38 : Cond.fieldLink RX9 91 RX1 "capoFret" "I" ∈ wU := wU1 (List.mem_of_getElem? (i := 39) rfl) rfl
theorem wd_39 : Cond.fieldLink RX3 85 RX1 "capoFret" "I" ∈ wU := wU1 (List.mem_of_getElem? (i := 40) rfl) rfl
theorem wd_40 : Cond.fieldLink RX0 96 RX1 "capoFret" "I" ∈ wU := wU1 (List.mem_of_getElem? (i := 41) rfl) rfl
theorem wd_41 : Cond.fieldLink RX6 95 RX1 "capoFret" "I" ∈ wU := wU1 (List.mem_of_getElem? (i := 42) rfl) rfl
theorem wd_42 : Cond.fieldLink RX5 113 RX1 "capoFret" "I" ∈ wU := wU1 (List.mem_of_getElem? (i := 43) rfl) rfl
theorem wd_43 : Cond.laysFinal RX1 RX1 "openPitches" "[I" ∈ wU := wU1 (List.mem_of_getElem? (i := 44) rfl) rfl
theorem wd_44 : Cond.lays RX1 RX1 "strings" "I" ∈ wU := wU1 (List.mem_of_getElem? (i := 46) rfl) rfl
theorem wd_45 : Cond.lays RX1 RX1 "lastFret" "I" ∈ wU := wU1 (List.mem_of_getElem? (i := 48) rfl) rfl
theorem wd_46 : Cond.lays RX1 RX1 "capoFret" "I" ∈ wU := wU1 (List.mem_of_getElem? (i := 50) rfl) rfl
theorem wd_47 : Cond.arrayClass .int ∈ wU := wU1 (List.mem_of_getElem? (i := 53) rfl) rfl
theorem wd_48 : Cond.classLink RX9 20 RX8 ∈ wU := wU1 (List.mem_of_getElem? (i := 54) rfl) rfl
theorem wd_49 : Cond.instantiable RX8 4 ∈ wU := wU1 (List.mem_of_getElem? (i := 55) rfl) rfl
theorem wd_50 : Cond.instanceMethod yX8_init ∈ wU := wU1 (List.mem_of_getElem? (i := 57) rfl) rfl
theorem wd_51 : Cond.code yX8_init prog_10_method_1_code 1 none ∈ wU := wU1 (List.mem_of_getElem? (i := 58) rfl) rfl
theorem wd_52 : Cond.methodLink RX8 3 objectInit ∈ wU := wU1 (List.mem_of_getElem? (i := 59) rfl) rfl
theorem wd_53 : Cond.fieldLink RX8 9 RX8 "sizes" "[I" ∈ wU := wU1 (List.mem_of_getElem? (i := 60) rfl) rfl
theorem wd_54 : Cond.fieldLink RX8 15 RX8 "pitches" "[I" ∈ wU := wU1 (List.mem_of_getElem? (i := 61) rfl) rfl
theorem wd_55 : Cond.fieldLink RX8 18 RX8 "bonds" "[I" ∈ wU := wU1 (List.mem_of_getElem? (i := 62) rfl) rfl
theorem wd_56 : Cond.fieldLink RX8 21 RX8 "events" "I" ∈ wU := wU1 (List.mem_of_getElem? (i := 63) rfl) rfl
theorem wd_57 : Cond.fieldLink RX3 40 RX8 "events" "I" ∈ wU := wU1 (List.mem_of_getElem? (i := 64) rfl) rfl
theorem wd_58 : Cond.fieldLink RX6 37 RX8 "events" "I" ∈ wU := wU1 (List.mem_of_getElem? (i := 65) rfl) rfl
theorem wd_59 : Cond.fieldLink RX9 77 RX8 "events" "I" ∈ wU := wU1 (List.mem_of_getElem? (i := 66) rfl) rfl
theorem wd_60 : Cond.fieldLink RX5 50 RX8 "events" "I" ∈ wU := wU1 (List.mem_of_getElem? (i := 67) rfl) rfl
theorem wd_61 : Cond.laysFinal RX8 RX8 "sizes" "[I" ∈ wU := wU1 (List.mem_of_getElem? (i := 68) rfl) rfl
theorem wd_62 : Cond.laysFinal RX8 RX8 "pitches" "[I" ∈ wU := wU1 (List.mem_of_getElem? (i := 70) rfl) rfl
theorem wd_63 : Cond.laysFinal RX8 RX8 "bonds" "[I" ∈ wU := wU1 (List.mem_of_getElem? (i := 72) rfl) rfl
theorem wd_64 : Cond.lays RX8 RX8 "events" "I" ∈ wU := wU1 (List.mem_of_getElem? (i := 74) rfl) rfl
theorem wd_65 : Cond.classLink RX9 27 RX2 ∈ wU := wU1 (List.mem_of_getElem? (i := 77) rfl) rfl
theorem wd_66 : Cond.instantiable RX2 5 ∈ wU := wU1 (List.mem_of_getElem? (i := 78) rfl) rfl
theorem wd_67 : Cond.instanceMethod yX2_init ∈ wU := wU1 (List.mem_of_getElem? (i := 80) rfl) rfl
theorem wd_68 : Cond.code yX2_init prog_4_method_1_code 1 none ∈ wU := wU1 (List.mem_of_getElem? (i := 81) rfl) rfl
theorem wd_69 : Cond.methodLink RX2 3 objectInit ∈ wU := wU1 (List.mem_of_getElem? (i := 82) rfl) rfl
theorem wd_70 : Cond.fieldLink RX2 9 RX2 "positions" "[I" ∈ wU := wU1 (List.mem_of_getElem? (i := 83) rfl) rfl
theorem wd_71 : Cond.fieldLink RX9 178 RX2 "positions" "[I" ∈ wU := wU1 (List.mem_of_getElem? (i := 84) rfl) rfl
theorem wd_72 : Cond.fieldLink RX2 15 RX2 "strings" "[I" ∈ wU := wU1 (List.mem_of_getElem? (i := 85) rfl) rfl
theorem wd_73 : Cond.fieldLink RX6 82 RX2 "strings" "[I" ∈ wU := wU1 (List.mem_of_getElem? (i := 86) rfl) rfl
theorem wd_74 : Cond.fieldLink RX9 181 RX2 "strings" "[I" ∈ wU := wU1 (List.mem_of_getElem? (i := 87) rfl) rfl
theorem wd_75 : Cond.fieldLink RX2 18 RX2 "costs" "[I" ∈ wU := wU1 (List.mem_of_getElem? (i := 88) rfl) rfl
theorem wd_76 : Cond.fieldLink RX9 183 RX2 "costs" "[I" ∈ wU := wU1 (List.mem_of_getElem? (i := 89) rfl) rfl
theorem wd_77 : Cond.fieldLink RX2 21 RX2 "numbers" "[I" ∈ wU := wU1 (List.mem_of_getElem? (i := 90) rfl) rfl
theorem wd_78 : Cond.fieldLink RX9 175 RX2 "numbers" "[I" ∈ wU := wU1 (List.mem_of_getElem? (i := 91) rfl) rfl
theorem wd_79 : Cond.fieldLink RX2 24 RX2 "events" "I" ∈ wU := wU1 (List.mem_of_getElem? (i := 92) rfl) rfl
theorem wd_80 : Cond.laysFinal RX2 RX2 "positions" "[I" ∈ wU := wU1 (List.mem_of_getElem? (i := 93) rfl) rfl
theorem wd_81 : Cond.laysFinal RX2 RX2 "strings" "[I" ∈ wU := wU1 (List.mem_of_getElem? (i := 95) rfl) rfl
theorem wd_82 : Cond.laysFinal RX2 RX2 "costs" "[I" ∈ wU := wU1 (List.mem_of_getElem? (i := 97) rfl) rfl
theorem wd_83 : Cond.laysFinal RX2 RX2 "numbers" "[I" ∈ wU := wU1 (List.mem_of_getElem? (i := 99) rfl) rfl
theorem wd_84 : Cond.lays RX2 RX2 "events" "I" ∈ wU := wU1 (List.mem_of_getElem? (i := 101) rfl) rfl
theorem wd_85 : Cond.classLink RX9 34 RX0 ∈ wU := wU1 (List.mem_of_getElem? (i := 104) rfl) rfl
theorem wd_86 : Cond.instantiable RX0 16 ∈ wU := wU1 (List.mem_of_getElem? (i := 105) rfl) rfl
theorem wd_87 : Cond.methodLink RX9 36 yX0_init ∈ wU := wU1 (List.mem_of_getElem? (i := 106) rfl) rfl
theorem wd_88 : Cond.instanceMethod yX0_init ∈ wU := wU1 (List.mem_of_getElem? (i := 107) rfl) rfl
theorem wd_89 : Cond.code yX0_init prog_2_method_1_code 4 none ∈ wU := wU1 (List.mem_of_getElem? (i := 108) rfl) rfl
theorem wd_90 : Cond.methodLink RX0 3 objectInit ∈ wU := wU1 (List.mem_of_getElem? (i := 109) rfl) rfl
theorem wd_91 : Cond.fieldLink RX0 52 RX0 "instrument" "LFretHands$Instrument;" ∈ wU := wU1 (List.mem_of_getElem? (i := 110) rfl) rfl
theorem wd_92 : Cond.fieldLink RX0 56 RX0 "weights" "[I" ∈ wU := wU1 (List.mem_of_getElem? (i := 111) rfl) rfl
theorem wd_93 : Cond.fieldLink RX0 59 RX0 "tune" "LFretHands$Tune;" ∈ wU := wU1 (List.mem_of_getElem? (i := 112) rfl) rfl
theorem wd_94 : Cond.fieldLink RX0 9 RX0 "counts" "[I" ∈ wU := wU1 (List.mem_of_getElem? (i := 113) rfl) rfl
theorem wd_95 : Cond.fieldLink RX3 72 RX0 "counts" "[I" ∈ wU := wU1 (List.mem_of_getElem? (i := 114) rfl) rfl
theorem wd_96 : Cond.fieldLink RX0 15 RX0 "leastCosts" "[I" ∈ wU := wU1 (List.mem_of_getElem? (i := 115) rfl) rfl
theorem wd_97 : Cond.fieldLink RX3 75 RX0 "leastCosts" "[I" ∈ wU := wU1 (List.mem_of_getElem? (i := 116) rfl) rfl
theorem wd_98 : Cond.fieldLink RX2 33 RX0 "leastCosts" "[I" ∈ wU := wU1 (List.mem_of_getElem? (i := 117) rfl) rfl
theorem wd_99 : Cond.fieldLink RX0 18 RX0 "leastCounts" "[I" ∈ wU := wU1 (List.mem_of_getElem? (i := 118) rfl) rfl
theorem wd_100 : Cond.fieldLink RX3 78 RX0 "leastCounts" "[I" ∈ wU := wU1 (List.mem_of_getElem? (i := 119) rfl) rfl
theorem wd_101 : Cond.fieldLink RX0 21 RX0 "firstStrings" "[I" ∈ wU := wU1 (List.mem_of_getElem? (i := 120) rfl) rfl
theorem wd_102 : Cond.fieldLink RX2 28 RX0 "firstStrings" "[I" ∈ wU := wU1 (List.mem_of_getElem? (i := 121) rfl) rfl
theorem wd_103 : Cond.fieldLink RX0 24 RX0 "firstPlaces" "[I" ∈ wU := wU1 (List.mem_of_getElem? (i := 122) rfl) rfl
theorem wd_104 : Cond.fieldLink RX0 27 RX0 "pitches" "[I" ∈ wU := wU1 (List.mem_of_getElem? (i := 123) rfl) rfl
theorem wd_105 : Cond.fieldLink RX0 30 RX0 "bonds" "[I" ∈ wU := wU1 (List.mem_of_getElem? (i := 124) rfl) rfl
theorem wd_106 : Cond.fieldLink RX0 33 RX0 "frets" "[I" ∈ wU := wU1 (List.mem_of_getElem? (i := 125) rfl) rfl
theorem wd_107 : Cond.fieldLink RX0 36 RX0 "size" "I" ∈ wU := wU1 (List.mem_of_getElem? (i := 126) rfl) rfl
theorem wd_108 : Cond.fieldLink RX0 40 RX0 "wantedPosition" "I" ∈ wU := wU1 (List.mem_of_getElem? (i := 127) rfl) rfl
theorem wd_109 : Cond.fieldLink RX9 151 RX0 "wantedPosition" "I" ∈ wU := wU1 (List.mem_of_getElem? (i := 128) rfl) rfl
theorem wd_110 : Cond.fieldLink RX0 43 RX0 "wantedPlace" "I" ∈ wU := wU1 (List.mem_of_getElem? (i := 129) rfl) rfl
theorem wd_111 : Cond.fieldLink RX0 46 RX0 "wantedStrings" "I" ∈ wU := wU1 (List.mem_of_getElem? (i := 130) rfl) rfl
theorem wd_112 : Cond.fieldLink RX9 154 RX0 "wantedStrings" "I" ∈ wU := wU1 (List.mem_of_getElem? (i := 131) rfl) rfl
theorem wd_113 : Cond.fieldLink RX0 49 RX0 "wantedCost" "I" ∈ wU := wU1 (List.mem_of_getElem? (i := 132) rfl) rfl
theorem wd_114 : Cond.fieldLink RX9 157 RX0 "wantedCost" "I" ∈ wU := wU1 (List.mem_of_getElem? (i := 133) rfl) rfl
theorem wd_115 : Cond.laysFinal RX0 RX0 "instrument" "LFretHands$Instrument;" ∈ wU := wU1 (List.mem_of_getElem? (i := 134) rfl) rfl
theorem wd_116 : Cond.laysFinal RX0 RX0 "weights" "[I" ∈ wU := wU1 (List.mem_of_getElem? (i := 136) rfl) rfl
theorem wd_117 : Cond.laysFinal RX0 RX0 "tune" "LFretHands$Tune;" ∈ wU := wU1 (List.mem_of_getElem? (i := 138) rfl) rfl
theorem wd_118 : Cond.laysFinal RX0 RX0 "counts" "[I" ∈ wU := wU1 (List.mem_of_getElem? (i := 140) rfl) rfl
theorem wd_119 : Cond.laysFinal RX0 RX0 "leastCosts" "[I" ∈ wU := wU1 (List.mem_of_getElem? (i := 142) rfl) rfl
theorem wd_120 : Cond.laysFinal RX0 RX0 "leastCounts" "[I" ∈ wU := wU1 (List.mem_of_getElem? (i := 144) rfl) rfl
theorem wd_121 : Cond.laysFinal RX0 RX0 "firstStrings" "[I" ∈ wU := wU1 (List.mem_of_getElem? (i := 146) rfl) rfl
theorem wd_122 : Cond.laysFinal RX0 RX0 "firstPlaces" "[I" ∈ wU := wU1 (List.mem_of_getElem? (i := 148) rfl) rfl
theorem wd_123 : Cond.laysFinal RX0 RX0 "pitches" "[I" ∈ wU := wU1 (List.mem_of_getElem? (i := 150) rfl) rfl
theorem wd_124 : Cond.laysFinal RX0 RX0 "bonds" "[I" ∈ wU := wU1 (List.mem_of_getElem? (i := 152) rfl) rfl
theorem wd_125 : Cond.laysFinal RX0 RX0 "frets" "[I" ∈ wU := wU1 (List.mem_of_getElem? (i := 154) rfl) rfl
theorem wd_126 : Cond.lays RX0 RX0 "size" "I" ∈ wU := wU1 (List.mem_of_getElem? (i := 156) rfl) rfl
theorem wd_127 : Cond.lays RX0 RX0 "wantedPosition" "I" ∈ wU := wU1 (List.mem_of_getElem? (i := 158) rfl) rfl
theorem wd_128 : Cond.lays RX0 RX0 "wantedPlace" "I" ∈ wU := wU1 (List.mem_of_getElem? (i := 160) rfl) rfl
theorem wd_129 : Cond.lays RX0 RX0 "wantedStrings" "I" ∈ wU := wU1 (List.mem_of_getElem? (i := 162) rfl) rfl
theorem wd_130 : Cond.lays RX0 RX0 "wantedCost" "I" ∈ wU := wU1 (List.mem_of_getElem? (i := 164) rfl) rfl
theorem wd_131 : Cond.classLink RX9 43 RX3 ∈ wU := wU1 (List.mem_of_getElem? (i := 167) rfl) rfl
theorem wd_132 : Cond.instantiable RX3 8 ∈ wU := wU1 (List.mem_of_getElem? (i := 168) rfl) rfl
theorem wd_133 : Cond.methodLink RX9 45 yX3_init ∈ wU := wU1 (List.mem_of_getElem? (i := 169) rfl) rfl
theorem wd_134 : Cond.instanceMethod yX3_init ∈ wU := wU1 (List.mem_of_getElem? (i := 170) rfl) rfl
theorem wd_135 : Cond.code yX3_init prog_5_method_1_code 5 none ∈ wU := wU1 (List.mem_of_getElem? (i := 171) rfl) rfl
theorem wd_136 : Cond.methodLink RX3 3 objectInit ∈ wU := wU1 (List.mem_of_getElem? (i := 172) rfl) rfl
theorem wd_137 : Cond.fieldLink RX3 25 RX3 "instrument" "LFretHands$Instrument;" ∈ wU := wU1 (List.mem_of_getElem? (i := 173) rfl) rfl
theorem wd_138 : Cond.fieldLink RX3 29 RX3 "weights" "[I" ∈ wU := wU1 (List.mem_of_getElem? (i := 174) rfl) rfl
theorem wd_139 : Cond.fieldLink RX3 32 RX3 "tune" "LFretHands$Tune;" ∈ wU := wU1 (List.mem_of_getElem? (i := 175) rfl) rfl
theorem wd_140 : Cond.fieldLink RX3 36 RX3 "finder" "LFretHands$GripFinder;" ∈ wU := wU1 (List.mem_of_getElem? (i := 176) rfl) rfl
theorem wd_141 : Cond.fieldLink RX3 9 RX3 "sums" "[I" ∈ wU := wU1 (List.mem_of_getElem? (i := 177) rfl) rfl
theorem wd_142 : Cond.fieldLink RX3 15 RX3 "ways" "[I" ∈ wU := wU1 (List.mem_of_getElem? (i := 178) rfl) rfl
theorem wd_143 : Cond.fieldLink RX3 18 RX3 "leastSum" "I" ∈ wU := wU1 (List.mem_of_getElem? (i := 179) rfl) rfl
theorem wd_144 : Cond.fieldLink RX9 167 RX3 "leastSum" "I" ∈ wU := wU1 (List.mem_of_getElem? (i := 180) rfl) rfl
theorem wd_145 : Cond.fieldLink RX3 22 RX3 "leastWays" "I" ∈ wU := wU1 (List.mem_of_getElem? (i := 181) rfl) rfl
theorem wd_146 : Cond.fieldLink RX9 186 RX3 "leastWays" "I" ∈ wU := wU1 (List.mem_of_getElem? (i := 182) rfl) rfl
theorem wd_147 : Cond.laysFinal RX3 RX3 "instrument" "LFretHands$Instrument;" ∈ wU := wU1 (List.mem_of_getElem? (i := 183) rfl) rfl
theorem wd_148 : Cond.laysFinal RX3 RX3 "weights" "[I" ∈ wU := wU1 (List.mem_of_getElem? (i := 185) rfl) rfl
theorem wd_149 : Cond.laysFinal RX3 RX3 "tune" "LFretHands$Tune;" ∈ wU := wU1 (List.mem_of_getElem? (i := 187) rfl) rfl
theorem wd_150 : Cond.laysFinal RX3 RX3 "finder" "LFretHands$GripFinder;" ∈ wU := wU1 (List.mem_of_getElem? (i := 189) rfl) rfl
theorem wd_151 : Cond.laysFinal RX3 RX3 "sums" "[I" ∈ wU := wU1 (List.mem_of_getElem? (i := 191) rfl) rfl
theorem wd_152 : Cond.laysFinal RX3 RX3 "ways" "[I" ∈ wU := wU1 (List.mem_of_getElem? (i := 193) rfl) rfl
theorem wd_153 : Cond.lays RX3 RX3 "leastSum" "I" ∈ wU := wU1 (List.mem_of_getElem? (i := 195) rfl) rfl
theorem wd_154 : Cond.lays RX3 RX3 "leastWays" "I" ∈ wU := wU1 (List.mem_of_getElem? (i := 197) rfl) rfl
theorem wd_155 : Cond.classLink RX9 52 RX7 ∈ wU := wU1 (List.mem_of_getElem? (i := 200) rfl) rfl
theorem wd_156 : Cond.instantiable RX7 2 ∈ wU := wU1 (List.mem_of_getElem? (i := 201) rfl) rfl
theorem wd_157 : Cond.instanceMethod yX7_init ∈ wU := wU1 (List.mem_of_getElem? (i := 203) rfl) rfl
theorem wd_158 : Cond.code yX7_init prog_9_method_1_code 1 none ∈ wU := wU1 (List.mem_of_getElem? (i := 204) rfl) rfl
theorem wd_159 : Cond.methodLink RX7 3 objectInit ∈ wU := wU1 (List.mem_of_getElem? (i := 205) rfl) rfl
theorem wd_160 : Cond.fieldLink RX7 9 RX7 "row" "[I" ∈ wU := wU1 (List.mem_of_getElem? (i := 206) rfl) rfl
theorem wd_161 : Cond.fieldLink RX7 15 RX7 "size" "I" ∈ wU := wU1 (List.mem_of_getElem? (i := 207) rfl) rfl
theorem wd_162 : Cond.fieldLink RX6 31 RX7 "size" "I" ∈ wU := wU1 (List.mem_of_getElem? (i := 208) rfl) rfl
theorem wd_163 : Cond.fieldLink RX5 91 RX7 "size" "I" ∈ wU := wU1 (List.mem_of_getElem? (i := 209) rfl) rfl
theorem wd_164 : Cond.fieldLink RX9 132 RX7 "size" "I" ∈ wU := wU1 (List.mem_of_getElem? (i := 210) rfl) rfl
theorem wd_165 : Cond.laysFinal RX7 RX7 "row" "[I" ∈ wU := wU1 (List.mem_of_getElem? (i := 211) rfl) rfl
theorem wd_166 : Cond.lays RX7 RX7 "size" "I" ∈ wU := wU1 (List.mem_of_getElem? (i := 213) rfl) rfl
theorem wd_167 : Cond.classLink RX9 59 RX6 ∈ wU := wU1 (List.mem_of_getElem? (i := 216) rfl) rfl
theorem wd_168 : Cond.instantiable RX6 5 ∈ wU := wU1 (List.mem_of_getElem? (i := 217) rfl) rfl
theorem wd_169 : Cond.methodLink RX9 61 yX6_init ∈ wU := wU1 (List.mem_of_getElem? (i := 218) rfl) rfl
theorem wd_170 : Cond.instanceMethod yX6_init ∈ wU := wU1 (List.mem_of_getElem? (i := 219) rfl) rfl
theorem wd_171 : Cond.code yX6_init prog_8_method_1_code 5 none ∈ wU := wU1 (List.mem_of_getElem? (i := 220) rfl) rfl
theorem wd_172 : Cond.methodLink RX6 3 objectInit ∈ wU := wU1 (List.mem_of_getElem? (i := 221) rfl) rfl
theorem wd_173 : Cond.fieldLink RX6 15 RX6 "instrument" "LFretHands$Instrument;" ∈ wU := wU1 (List.mem_of_getElem? (i := 222) rfl) rfl
theorem wd_174 : Cond.fieldLink RX6 19 RX6 "tune" "LFretHands$Tune;" ∈ wU := wU1 (List.mem_of_getElem? (i := 223) rfl) rfl
theorem wd_175 : Cond.fieldLink RX6 23 RX6 "plan" "LFretHands$Plan;" ∈ wU := wU1 (List.mem_of_getElem? (i := 224) rfl) rfl
theorem wd_176 : Cond.fieldLink RX6 27 RX6 "tape" "LFretHands$Tape;" ∈ wU := wU1 (List.mem_of_getElem? (i := 225) rfl) rfl
theorem wd_177 : Cond.fieldLink RX6 9 RX6 "widths" "[I" ∈ wU := wU1 (List.mem_of_getElem? (i := 226) rfl) rfl
theorem wd_178 : Cond.laysFinal RX6 RX6 "instrument" "LFretHands$Instrument;" ∈ wU := wU1 (List.mem_of_getElem? (i := 227) rfl) rfl
theorem wd_179 : Cond.laysFinal RX6 RX6 "tune" "LFretHands$Tune;" ∈ wU := wU1 (List.mem_of_getElem? (i := 229) rfl) rfl
theorem wd_180 : Cond.laysFinal RX6 RX6 "plan" "LFretHands$Plan;" ∈ wU := wU1 (List.mem_of_getElem? (i := 231) rfl) rfl
theorem wd_181 : Cond.laysFinal RX6 RX6 "tape" "LFretHands$Tape;" ∈ wU := wU1 (List.mem_of_getElem? (i := 233) rfl) rfl
theorem wd_182 : Cond.laysFinal RX6 RX6 "widths" "[I" ∈ wU := wU1 (List.mem_of_getElem? (i := 235) rfl) rfl
theorem wd_183 : Cond.classLink RX9 68 RX5 ∈ wU := wU1 (List.mem_of_getElem? (i := 238) rfl) rfl
theorem wd_184 : Cond.instantiable RX5 6 ∈ wU := wU1 (List.mem_of_getElem? (i := 239) rfl) rfl
theorem wd_185 : Cond.methodLink RX9 70 yX5_init ∈ wU := wU2 (List.mem_of_getElem? (i := 0) rfl) rfl
theorem wd_186 : Cond.instanceMethod yX5_init ∈ wU := wU2 (List.mem_of_getElem? (i := 1) rfl) rfl
theorem wd_187 : Cond.code yX5_init prog_7_method_1_code 4 none ∈ wU := wU2 (List.mem_of_getElem? (i := 2) rfl) rfl
theorem wd_188 : Cond.methodLink RX5 3 objectInit ∈ wU := wU2 (List.mem_of_getElem? (i := 3) rfl) rfl
theorem wd_189 : Cond.fieldLink RX5 22 RX5 "instrument" "LFretHands$Instrument;" ∈ wU := wU2 (List.mem_of_getElem? (i := 4) rfl) rfl
theorem wd_190 : Cond.fieldLink RX5 26 RX5 "tune" "LFretHands$Tune;" ∈ wU := wU2 (List.mem_of_getElem? (i := 5) rfl) rfl
theorem wd_191 : Cond.fieldLink RX5 30 RX5 "tape" "LFretHands$Tape;" ∈ wU := wU2 (List.mem_of_getElem? (i := 6) rfl) rfl
theorem wd_192 : Cond.fieldLink RX5 9 RX5 "lineLength" "I" ∈ wU := wU2 (List.mem_of_getElem? (i := 7) rfl) rfl
theorem wd_193 : Cond.fieldLink RX5 15 RX5 "columnPitches" "[I" ∈ wU := wU2 (List.mem_of_getElem? (i := 8) rfl) rfl
theorem wd_194 : Cond.fieldLink RX5 19 RX5 "faultPlace" "I" ∈ wU := wU2 (List.mem_of_getElem? (i := 9) rfl) rfl
theorem wd_195 : Cond.fieldLink RX9 208 RX5 "faultPlace" "I" ∈ wU := wU2 (List.mem_of_getElem? (i := 10) rfl) rfl
theorem wd_196 : Cond.laysFinal RX5 RX5 "instrument" "LFretHands$Instrument;" ∈ wU := wU2 (List.mem_of_getElem? (i := 11) rfl) rfl
theorem wd_197 : Cond.laysFinal RX5 RX5 "tune" "LFretHands$Tune;" ∈ wU := wU2 (List.mem_of_getElem? (i := 13) rfl) rfl
theorem wd_198 : Cond.laysFinal RX5 RX5 "tape" "LFretHands$Tape;" ∈ wU := wU2 (List.mem_of_getElem? (i := 15) rfl) rfl
theorem wd_199 : Cond.lays RX5 RX5 "lineLength" "I" ∈ wU := wU2 (List.mem_of_getElem? (i := 17) rfl) rfl
theorem wd_200 : Cond.laysFinal RX5 RX5 "columnPitches" "[I" ∈ wU := wU2 (List.mem_of_getElem? (i := 19) rfl) rfl
theorem wd_201 : Cond.lays RX5 RX5 "faultPlace" "I" ∈ wU := wU2 (List.mem_of_getElem? (i := 21) rfl) rfl
theorem wd_202 : Cond.fieldLink RX9 12 RX9 "instrument" "LFretHands$Instrument;" ∈ wU := wU2 (List.mem_of_getElem? (i := 24) rfl) rfl
theorem wd_203 : Cond.fieldLink RX9 16 RX9 "weights" "[I" ∈ wU := wU2 (List.mem_of_getElem? (i := 25) rfl) rfl
theorem wd_204 : Cond.fieldLink RX9 23 RX9 "tune" "LFretHands$Tune;" ∈ wU := wU2 (List.mem_of_getElem? (i := 26) rfl) rfl
theorem wd_205 : Cond.fieldLink RX9 30 RX9 "latest" "LFretHands$Plan;" ∈ wU := wU2 (List.mem_of_getElem? (i := 27) rfl) rfl
theorem wd_206 : Cond.fieldLink RX9 39 RX9 "finder" "LFretHands$GripFinder;" ∈ wU := wU2 (List.mem_of_getElem? (i := 28) rfl) rfl
theorem wd_207 : Cond.fieldLink RX9 48 RX9 "planner" "LFretHands$Planner;" ∈ wU := wU2 (List.mem_of_getElem? (i := 29) rfl) rfl
theorem wd_208 : Cond.fieldLink RX9 55 RX9 "signs" "LFretHands$Tape;" ∈ wU := wU2 (List.mem_of_getElem? (i := 30) rfl) rfl
theorem wd_209 : Cond.fieldLink RX9 64 RX9 "writer" "LFretHands$TabWriter;" ∈ wU := wU2 (List.mem_of_getElem? (i := 31) rfl) rfl
theorem wd_210 : Cond.fieldLink RX9 73 RX9 "reader" "LFretHands$TabReader;" ∈ wU := wU2 (List.mem_of_getElem? (i := 32) rfl) rfl
theorem wd_211 : Cond.laysFinal RX9 RX9 "instrument" "LFretHands$Instrument;" ∈ wU := wU2 (List.mem_of_getElem? (i := 33) rfl) rfl
theorem wd_212 : Cond.laysFinal RX9 RX9 "weights" "[I" ∈ wU := wU2 (List.mem_of_getElem? (i := 35) rfl) rfl
theorem wd_213 : Cond.laysFinal RX9 RX9 "tune" "LFretHands$Tune;" ∈ wU := wU2 (List.mem_of_getElem? (i := 37) rfl) rfl
theorem wd_214 : Cond.laysFinal RX9 RX9 "latest" "LFretHands$Plan;" ∈ wU := wU2 (List.mem_of_getElem? (i := 39) rfl) rfl
theorem wd_215 : Cond.laysFinal RX9 RX9 "finder" "LFretHands$GripFinder;" ∈ wU := wU2 (List.mem_of_getElem? (i := 41) rfl) rfl
theorem wd_216 : Cond.laysFinal RX9 RX9 "planner" "LFretHands$Planner;" ∈ wU := wU2 (List.mem_of_getElem? (i := 43) rfl) rfl
theorem wd_217 : Cond.laysFinal RX9 RX9 "signs" "LFretHands$Tape;" ∈ wU := wU2 (List.mem_of_getElem? (i := 45) rfl) rfl
theorem wd_218 : Cond.laysFinal RX9 RX9 "writer" "LFretHands$TabWriter;" ∈ wU := wU2 (List.mem_of_getElem? (i := 47) rfl) rfl
theorem wd_219 : Cond.laysFinal RX9 RX9 "reader" "LFretHands$TabReader;" ∈ wU := wU2 (List.mem_of_getElem? (i := 49) rfl) rfl
theorem wd_220 : Cond.methodLink RL 13 yX9_string ∈ wU := wU2 (List.mem_of_getElem? (i := 52) rfl) rfl
theorem wd_221 : Cond.instanceMethod yX9_string ∈ wU := wU2 (List.mem_of_getElem? (i := 53) rfl) rfl
theorem wd_222 : Cond.selects RX9 yX9_string yX9_string ∈ wU := wU2 (List.mem_of_getElem? (i := 54) rfl) rfl
theorem wd_223 : Cond.code yX9_string prog_1_method_2_code 2 (some .int) ∈ wU := wU2 (List.mem_of_getElem? (i := 55) rfl) rfl
theorem wd_224 : Cond.methodLink RX9 81 yX1_addString ∈ wU := wU2 (List.mem_of_getElem? (i := 56) rfl) rfl
theorem wd_225 : Cond.instanceMethod yX1_addString ∈ wU := wU2 (List.mem_of_getElem? (i := 57) rfl) rfl
theorem wd_226 : Cond.selects RX1 yX1_addString yX1_addString ∈ wU := wU2 (List.mem_of_getElem? (i := 58) rfl) rfl
theorem wd_227 : Cond.code yX1_addString prog_3_method_3_code 2 (some .boolean) ∈ wU := wU2 (List.mem_of_getElem? (i := 59) rfl) rfl
theorem wd_228 : Cond.methodLink RX9 85 yX2_forget ∈ wU := wU2 (List.mem_of_getElem? (i := 60) rfl) rfl
theorem wd_229 : Cond.instanceMethod yX2_forget ∈ wU := wU2 (List.mem_of_getElem? (i := 61) rfl) rfl
theorem wd_230 : Cond.selects RX2 yX2_forget yX2_forget ∈ wU := wU2 (List.mem_of_getElem? (i := 62) rfl) rfl
theorem wd_231 : Cond.code yX2_forget prog_4_method_2_code 1 none ∈ wU := wU2 (List.mem_of_getElem? (i := 63) rfl) rfl
theorem wd_232 : Cond.methodLink RL 18 yX9_clear ∈ wU := wU2 (List.mem_of_getElem? (i := 64) rfl) rfl
theorem wd_233 : Cond.instanceMethod yX9_clear ∈ wU := wU2 (List.mem_of_getElem? (i := 65) rfl) rfl
theorem wd_234 : Cond.selects RX9 yX9_clear yX9_clear ∈ wU := wU2 (List.mem_of_getElem? (i := 66) rfl) rfl
theorem wd_235 : Cond.code yX9_clear prog_1_method_3_code 2 (some .int) ∈ wU := wU2 (List.mem_of_getElem? (i := 67) rfl) rfl
theorem wd_236 : Cond.methodLink RL 23 yX9_neck ∈ wU := wU2 (List.mem_of_getElem? (i := 68) rfl) rfl
theorem wd_237 : Cond.instanceMethod yX9_neck ∈ wU := wU2 (List.mem_of_getElem? (i := 69) rfl) rfl
theorem wd_238 : Cond.selects RX9 yX9_neck yX9_neck ∈ wU := wU2 (List.mem_of_getElem? (i := 70) rfl) rfl
theorem wd_239 : Cond.code yX9_neck prog_1_method_4_code 3 (some .int) ∈ wU := wU2 (List.mem_of_getElem? (i := 71) rfl) rfl
theorem wd_240 : Cond.methodLink RL 27 yX9_capo ∈ wU := wU2 (List.mem_of_getElem? (i := 72) rfl) rfl
theorem wd_241 : Cond.instanceMethod yX9_capo ∈ wU := wU2 (List.mem_of_getElem? (i := 73) rfl) rfl
theorem wd_242 : Cond.selects RX9 yX9_capo yX9_capo ∈ wU := wU2 (List.mem_of_getElem? (i := 74) rfl) rfl
theorem wd_243 : Cond.code yX9_capo prog_1_method_5_code 3 (some .int) ∈ wU := wU2 (List.mem_of_getElem? (i := 75) rfl) rfl
theorem wd_244 : Cond.methodLink RL 31 yX9_weight ∈ wU := wU2 (List.mem_of_getElem? (i := 76) rfl) rfl
theorem wd_245 : Cond.instanceMethod yX9_weight ∈ wU := wU2 (List.mem_of_getElem? (i := 77) rfl) rfl
theorem wd_246 : Cond.selects RX9 yX9_weight yX9_weight ∈ wU := wU2 (List.mem_of_getElem? (i := 78) rfl) rfl
theorem wd_247 : Cond.code yX9_weight prog_1_method_6_code 4 (some .int) ∈ wU := wU2 (List.mem_of_getElem? (i := 79) rfl) rfl
theorem wd_248 : Cond.methodLink RL 36 yX9_event ∈ wU := wU2 (List.mem_of_getElem? (i := 80) rfl) rfl
theorem wd_249 : Cond.instanceMethod yX9_event ∈ wU := wU2 (List.mem_of_getElem? (i := 81) rfl) rfl
theorem wd_250 : Cond.selects RX9 yX9_event yX9_event ∈ wU := wU2 (List.mem_of_getElem? (i := 82) rfl) rfl
theorem wd_251 : Cond.code yX9_event prog_1_method_7_code 2 (some .int) ∈ wU := wU2 (List.mem_of_getElem? (i := 83) rfl) rfl
theorem wd_252 : Cond.methodLink RX9 97 yX9_isPitch ∈ wU := wU2 (List.mem_of_getElem? (i := 84) rfl) rfl
theorem wd_253 : Cond.static yX9_isPitch ∈ wU := wU2 (List.mem_of_getElem? (i := 85) rfl) rfl
theorem wd_254 : Cond.code yX9_isPitch prog_1_method_26_code 1 (some .boolean) ∈ wU := wU2 (List.mem_of_getElem? (i := 86) rfl) rfl
theorem wd_255 : Cond.methodLink RX9 100 yX8_addEvent ∈ wU := wU2 (List.mem_of_getElem? (i := 87) rfl) rfl
theorem wd_256 : Cond.instanceMethod yX8_addEvent ∈ wU := wU2 (List.mem_of_getElem? (i := 88) rfl) rfl
theorem wd_257 : Cond.selects RX8 yX8_addEvent yX8_addEvent ∈ wU := wU2 (List.mem_of_getElem? (i := 89) rfl) rfl
theorem wd_258 : Cond.code yX8_addEvent prog_10_method_9_code 1 (some .boolean) ∈ wU := wU2 (List.mem_of_getElem? (i := 90) rfl) rfl
theorem wd_259 : Cond.methodLink RX9 104 yX8_addPitch ∈ wU := wU2 (List.mem_of_getElem? (i := 91) rfl) rfl
theorem wd_260 : Cond.instanceMethod yX8_addPitch ∈ wU := wU2 (List.mem_of_getElem? (i := 92) rfl) rfl
theorem wd_261 : Cond.selects RX8 yX8_addPitch yX8_addPitch ∈ wU := wU2 (List.mem_of_getElem? (i := 93) rfl) rfl
theorem wd_262 : Cond.code yX8_addPitch prog_10_method_10_code 5 (some .boolean) ∈ wU := wU2 (List.mem_of_getElem? (i := 94) rfl) rfl
theorem wd_263 : Cond.methodLink RL 40 yX9_pitch ∈ wU := wU2 (List.mem_of_getElem? (i := 95) rfl) rfl
theorem wd_264 : Cond.instanceMethod yX9_pitch ∈ wU := wU2 (List.mem_of_getElem? (i := 96) rfl) rfl
theorem wd_265 : Cond.selects RX9 yX9_pitch yX9_pitch ∈ wU := wU2 (List.mem_of_getElem? (i := 97) rfl) rfl
theorem wd_266 : Cond.code yX9_pitch prog_1_method_8_code 3 (some .int) ∈ wU := wU2 (List.mem_of_getElem? (i := 98) rfl) rfl
theorem wd_267 : Cond.methodLink RX9 108 yX8_contains ∈ wU := wU2 (List.mem_of_getElem? (i := 99) rfl) rfl
theorem wd_268 : Cond.instanceMethod yX8_contains ∈ wU := wU2 (List.mem_of_getElem? (i := 100) rfl) rfl
theorem wd_269 : Cond.selects RX8 yX8_contains yX8_contains ∈ wU := wU2 (List.mem_of_getElem? (i := 101) rfl) rfl
theorem wd_270 : Cond.code yX8_contains prog_10_method_8_code 5 (some .boolean) ∈ wU := wU2 (List.mem_of_getElem? (i := 102) rfl) rfl
theorem wd_271 : Cond.methodLink RX8 33 yX8_sizeOf ∈ wU := wU2 (List.mem_of_getElem? (i := 103) rfl) rfl
theorem wd_272 : Cond.instanceMethod yX8_sizeOf ∈ wU := wU2 (List.mem_of_getElem? (i := 104) rfl) rfl
theorem wd_273 : Cond.selects RX8 yX8_sizeOf yX8_sizeOf ∈ wU := wU2 (List.mem_of_getElem? (i := 105) rfl) rfl
theorem wd_274 : Cond.code yX8_sizeOf prog_10_method_3_code 2 (some .int) ∈ wU := wU2 (List.mem_of_getElem? (i := 106) rfl) rfl
theorem wd_275 : Cond.methodLink RX8 25 yX8_hasEvent ∈ wU := wU2 (List.mem_of_getElem? (i := 107) rfl) rfl
theorem wd_276 : Cond.instanceMethod yX8_hasEvent ∈ wU := wU2 (List.mem_of_getElem? (i := 108) rfl) rfl
theorem wd_277 : Cond.selects RX8 yX8_hasEvent yX8_hasEvent ∈ wU := wU2 (List.mem_of_getElem? (i := 109) rfl) rfl
theorem wd_278 : Cond.code yX8_hasEvent prog_10_method_2_code 2 (some .boolean) ∈ wU := wU2 (List.mem_of_getElem? (i := 110) rfl) rfl
theorem wd_279 : Cond.methodLink RX8 37 yX8_pitchOf ∈ wU := wU2 (List.mem_of_getElem? (i := 111) rfl) rfl
theorem wd_280 : Cond.instanceMethod yX8_pitchOf ∈ wU := wU2 (List.mem_of_getElem? (i := 112) rfl) rfl
theorem wd_281 : Cond.selects RX8 yX8_pitchOf yX8_pitchOf ∈ wU := wU2 (List.mem_of_getElem? (i := 113) rfl) rfl
theorem wd_282 : Cond.code yX8_pitchOf prog_10_method_5_code 3 (some .int) ∈ wU := wU2 (List.mem_of_getElem? (i := 114) rfl) rfl
theorem wd_283 : Cond.methodLink RX8 29 yX8_hasPitch ∈ wU := wU2 (List.mem_of_getElem? (i := 115) rfl) rfl
theorem wd_284 : Cond.instanceMethod yX8_hasPitch ∈ wU := wU2 (List.mem_of_getElem? (i := 116) rfl) rfl
theorem wd_285 : Cond.selects RX8 yX8_hasPitch yX8_hasPitch ∈ wU := wU2 (List.mem_of_getElem? (i := 117) rfl) rfl
theorem wd_286 : Cond.code yX8_hasPitch prog_10_method_4_code 3 (some .boolean) ∈ wU := wU2 (List.mem_of_getElem? (i := 118) rfl) rfl
theorem wd_287 : Cond.methodLink RX9 111 yX8_sizeOf ∈ wU := wU2 (List.mem_of_getElem? (i := 119) rfl) rfl
theorem wd_288 : Cond.methodLink RL 44 yX9_bind ∈ wU := wU2 (List.mem_of_getElem? (i := 120) rfl) rfl
theorem wd_289 : Cond.instanceMethod yX9_bind ∈ wU := wU2 (List.mem_of_getElem? (i := 121) rfl) rfl
theorem wd_290 : Cond.selects RX9 yX9_bind yX9_bind ∈ wU := wU2 (List.mem_of_getElem? (i := 122) rfl) rfl
theorem wd_291 : Cond.code yX9_bind prog_1_method_9_code 5 (some .int) ∈ wU := wU2 (List.mem_of_getElem? (i := 123) rfl) rfl
theorem wd_292 : Cond.methodLink RX9 115 yX8_hasEvent ∈ wU := wU2 (List.mem_of_getElem? (i := 124) rfl) rfl
theorem wd_293 : Cond.methodLink RX9 118 yX8_hasPitch ∈ wU := wU2 (List.mem_of_getElem? (i := 125) rfl) rfl
theorem wd_294 : Cond.methodLink RX9 121 yX1_hasString ∈ wU := wU2 (List.mem_of_getElem? (i := 126) rfl) rfl
theorem wd_295 : Cond.instanceMethod yX1_hasString ∈ wU := wU2 (List.mem_of_getElem? (i := 127) rfl) rfl
theorem wd_296 : Cond.selects RX1 yX1_hasString yX1_hasString ∈ wU := wU2 (List.mem_of_getElem? (i := 128) rfl) rfl
theorem wd_297 : Cond.code yX1_hasString prog_3_method_2_code 2 (some .boolean) ∈ wU := wU2 (List.mem_of_getElem? (i := 129) rfl) rfl
theorem wd_298 : Cond.methodLink RX9 124 yX8_stringOf ∈ wU := wU2 (List.mem_of_getElem? (i := 130) rfl) rfl
theorem wd_299 : Cond.instanceMethod yX8_stringOf ∈ wU := wU2 (List.mem_of_getElem? (i := 131) rfl) rfl
theorem wd_300 : Cond.selects RX8 yX8_stringOf yX8_stringOf ∈ wU := wU2 (List.mem_of_getElem? (i := 132) rfl) rfl
theorem wd_301 : Cond.code yX8_stringOf prog_10_method_6_code 3 (some .int) ∈ wU := wU2 (List.mem_of_getElem? (i := 133) rfl) rfl
theorem wd_302 : Cond.methodLink RX9 128 yX8_bindPitch ∈ wU := wU2 (List.mem_of_getElem? (i := 134) rfl) rfl
theorem wd_303 : Cond.instanceMethod yX8_bindPitch ∈ wU := wU2 (List.mem_of_getElem? (i := 135) rfl) rfl
theorem wd_304 : Cond.selects RX8 yX8_bindPitch yX8_bindPitch ∈ wU := wU2 (List.mem_of_getElem? (i := 136) rfl) rfl
theorem wd_305 : Cond.code yX8_bindPitch prog_10_method_7_code 4 none ∈ wU := wU2 (List.mem_of_getElem? (i := 137) rfl) rfl
theorem wd_306 : Cond.methodLink RL 49 yX9_drop ∈ wU := wU2 (List.mem_of_getElem? (i := 138) rfl) rfl
theorem wd_307 : Cond.instanceMethod yX9_drop ∈ wU := wU2 (List.mem_of_getElem? (i := 139) rfl) rfl
theorem wd_308 : Cond.selects RX9 yX9_drop yX9_drop ∈ wU := wU2 (List.mem_of_getElem? (i := 140) rfl) rfl
theorem wd_309 : Cond.code yX9_drop prog_1_method_10_code 1 (some .int) ∈ wU := wU2 (List.mem_of_getElem? (i := 141) rfl) rfl
theorem wd_310 : Cond.methodLink RL 53 yX9_told ∈ wU := wU2 (List.mem_of_getElem? (i := 142) rfl) rfl
theorem wd_311 : Cond.instanceMethod yX9_told ∈ wU := wU2 (List.mem_of_getElem? (i := 143) rfl) rfl
theorem wd_312 : Cond.selects RX9 yX9_told yX9_told ∈ wU := wU2 (List.mem_of_getElem? (i := 144) rfl) rfl
theorem wd_313 : Cond.code yX9_told prog_1_method_11_code 2 (some .int) ∈ wU := wU2 (List.mem_of_getElem? (i := 145) rfl) rfl
theorem wd_314 : Cond.methodLink RL 57 yX9_at ∈ wU := wU2 (List.mem_of_getElem? (i := 146) rfl) rfl
theorem wd_315 : Cond.instanceMethod yX9_at ∈ wU := wU2 (List.mem_of_getElem? (i := 147) rfl) rfl
theorem wd_316 : Cond.selects RX9 yX9_at yX9_at ∈ wU := wU2 (List.mem_of_getElem? (i := 148) rfl) rfl
theorem wd_317 : Cond.code yX9_at prog_1_method_12_code 3 (some .int) ∈ wU := wU2 (List.mem_of_getElem? (i := 149) rfl) rfl
theorem wd_318 : Cond.methodLink RX9 135 yX8_pitchOf ∈ wU := wU2 (List.mem_of_getElem? (i := 150) rfl) rfl
theorem wd_319 : Cond.methodLink RL 61 yX9_bound ∈ wU := wU2 (List.mem_of_getElem? (i := 151) rfl) rfl
theorem wd_320 : Cond.instanceMethod yX9_bound ∈ wU := wU2 (List.mem_of_getElem? (i := 152) rfl) rfl
theorem wd_321 : Cond.selects RX9 yX9_bound yX9_bound ∈ wU := wU2 (List.mem_of_getElem? (i := 153) rfl) rfl
theorem wd_322 : Cond.code yX9_bound prog_1_method_13_code 3 (some .int) ∈ wU := wU2 (List.mem_of_getElem? (i := 154) rfl) rfl
theorem wd_323 : Cond.methodLink RL 65 yX9_fret ∈ wU := wU2 (List.mem_of_getElem? (i := 155) rfl) rfl
theorem wd_324 : Cond.instanceMethod yX9_fret ∈ wU := wU2 (List.mem_of_getElem? (i := 156) rfl) rfl
theorem wd_325 : Cond.selects RX9 yX9_fret yX9_fret ∈ wU := wU2 (List.mem_of_getElem? (i := 157) rfl) rfl
theorem wd_326 : Cond.code yX9_fret prog_1_method_14_code 3 (some .int) ∈ wU := wU2 (List.mem_of_getElem? (i := 158) rfl) rfl
theorem wd_327 : Cond.methodLink RX9 138 yX1_fretOf ∈ wU := wU2 (List.mem_of_getElem? (i := 159) rfl) rfl
theorem wd_328 : Cond.instanceMethod yX1_fretOf ∈ wU := wU2 (List.mem_of_getElem? (i := 160) rfl) rfl
theorem wd_329 : Cond.selects RX1 yX1_fretOf yX1_fretOf ∈ wU := wU2 (List.mem_of_getElem? (i := 161) rfl) rfl
theorem wd_330 : Cond.code yX1_fretOf prog_3_method_4_code 4 (some .int) ∈ wU := wU2 (List.mem_of_getElem? (i := 162) rfl) rfl
theorem wd_331 : Cond.methodLink RX1 25 yX1_hasString ∈ wU := wU2 (List.mem_of_getElem? (i := 163) rfl) rfl
theorem wd_332 : Cond.methodLink RL 69 yX9_grips ∈ wU := wU2 (List.mem_of_getElem? (i := 164) rfl) rfl
theorem wd_333 : Cond.instanceMethod yX9_grips ∈ wU := wU2 (List.mem_of_getElem? (i := 165) rfl) rfl
theorem wd_334 : Cond.selects RX9 yX9_grips yX9_grips ∈ wU := wU2 (List.mem_of_getElem? (i := 166) rfl) rfl
theorem wd_335 : Cond.code yX9_grips prog_1_method_15_code 2 (some .int) ∈ wU := wU2 (List.mem_of_getElem? (i := 167) rfl) rfl
theorem wd_336 : Cond.methodLink RX9 141 yX0_survey ∈ wU := wU2 (List.mem_of_getElem? (i := 168) rfl) rfl
theorem wd_337 : Cond.instanceMethod yX0_survey ∈ wU := wU2 (List.mem_of_getElem? (i := 169) rfl) rfl
theorem wd_338 : Cond.selects RX0 yX0_survey yX0_survey ∈ wU := wU2 (List.mem_of_getElem? (i := 170) rfl) rfl
theorem wd_339 : Cond.code yX0_survey prog_2_method_2_code 2 none ∈ wU := wU2 (List.mem_of_getElem? (i := 171) rfl) rfl
theorem wd_340 : Cond.methodLink RX0 63 yX0_goThrough ∈ wU := wU2 (List.mem_of_getElem? (i := 172) rfl) rfl
theorem wd_341 : Cond.instanceMethod yX0_goThrough ∈ wU := wU2 (List.mem_of_getElem? (i := 174) rfl) rfl
theorem wd_342 : Cond.code yX0_goThrough prog_2_method_6_code 3 none ∈ wU := wU2 (List.mem_of_getElem? (i := 175) rfl) rfl
theorem wd_343 : Cond.methodLink RX0 74 yX8_sizeOf ∈ wU := wU2 (List.mem_of_getElem? (i := 176) rfl) rfl
theorem wd_344 : Cond.methodLink RX0 79 Lib.Math.min.name ∈ wU := wU2 (List.mem_of_getElem? (i := 177) rfl) rfl
theorem wd_345 : Cond.static Lib.Math.min.name ∈ wU := wU2 (List.mem_of_getElem? (i := 178) rfl) rfl
theorem wd_346 : Cond.code Lib.Math.min.name Lib.Math.min.code 2 (some .int) ∈ wU := wU2 (List.mem_of_getElem? (i := 179) rfl) rfl
theorem wd_347 : Cond.methodLink RX0 85 yX8_pitchOf ∈ wU := wU2 (List.mem_of_getElem? (i := 180) rfl) rfl
theorem wd_348 : Cond.methodLink RX0 88 yX8_stringOf ∈ wU := wU2 (List.mem_of_getElem? (i := 181) rfl) rfl
theorem wd_349 : Cond.methodLink RX0 99 yX0_layFrom ∈ wU := wU2 (List.mem_of_getElem? (i := 182) rfl) rfl
theorem wd_350 : Cond.instanceMethod yX0_layFrom ∈ wU := wU2 (List.mem_of_getElem? (i := 184) rfl) rfl
theorem wd_351 : Cond.code yX0_layFrom prog_2_method_7_code 15 none ∈ wU := wU2 (List.mem_of_getElem? (i := 185) rfl) rfl
theorem wd_352 : Cond.methodLink RX0 103 yX0_tellPositions ∈ wU := wU2 (List.mem_of_getElem? (i := 186) rfl) rfl
theorem wd_353 : Cond.instanceMethod yX0_tellPositions ∈ wU := wU2 (List.mem_of_getElem? (i := 188) rfl) rfl
theorem wd_354 : Cond.code yX0_tellPositions prog_2_method_8_code 7 none ∈ wU := wU2 (List.mem_of_getElem? (i := 189) rfl) rfl
theorem wd_355 : Cond.methodLink RX0 119 Lib.Math.max.name ∈ wU := wU2 (List.mem_of_getElem? (i := 190) rfl) rfl
theorem wd_356 : Cond.static Lib.Math.max.name ∈ wU := wU2 (List.mem_of_getElem? (i := 191) rfl) rfl
theorem wd_357 : Cond.code Lib.Math.max.name Lib.Math.max.code 2 (some .int) ∈ wU := wU2 (List.mem_of_getElem? (i := 192) rfl) rfl
theorem wd_358 : Cond.methodLink RX0 122 yX0_pitchesAt ∈ wU := wU2 (List.mem_of_getElem? (i := 193) rfl) rfl
theorem wd_359 : Cond.instanceMethod yX0_pitchesAt ∈ wU := wU2 (List.mem_of_getElem? (i := 195) rfl) rfl
theorem wd_360 : Cond.code yX0_pitchesAt prog_2_method_9_code 4 (some .int) ∈ wU := wU2 (List.mem_of_getElem? (i := 196) rfl) rfl
theorem wd_361 : Cond.methodLink RX0 125 yX0_tell ∈ wU := wU2 (List.mem_of_getElem? (i := 197) rfl) rfl
theorem wd_362 : Cond.instanceMethod yX0_tell ∈ wU := wU2 (List.mem_of_getElem? (i := 199) rfl) rfl
theorem wd_363 : Cond.code yX0_tell prog_2_method_10_code 5 none ∈ wU := wU2 (List.mem_of_getElem? (i := 200) rfl) rfl
theorem wd_364 : Cond.methodLink RX0 110 yX1_fretOf ∈ wU := wU2 (List.mem_of_getElem? (i := 201) rfl) rfl
theorem wd_365 : Cond.methodLink RX0 113 yX4_with ∈ wU := wU2 (List.mem_of_getElem? (i := 202) rfl) rfl
theorem wd_366 : Cond.static yX4_with ∈ wU := wU2 (List.mem_of_getElem? (i := 203) rfl) rfl
theorem wd_367 : Cond.code yX4_with prog_6_method_2_code 3 (some .int) ∈ wU := wU2 (List.mem_of_getElem? (i := 204) rfl) rfl
theorem wd_368 : Cond.methodLink RX9 145 yX0_countBelow ∈ wU := wU2 (List.mem_of_getElem? (i := 205) rfl) rfl
theorem wd_369 : Cond.instanceMethod yX0_countBelow ∈ wU := wU2 (List.mem_of_getElem? (i := 206) rfl) rfl
theorem wd_370 : Cond.selects RX0 yX0_countBelow yX0_countBelow ∈ wU := wU2 (List.mem_of_getElem? (i := 207) rfl) rfl
theorem wd_371 : Cond.code yX0_countBelow prog_2_method_3_code 4 (some .int) ∈ wU := wU2 (List.mem_of_getElem? (i := 208) rfl) rfl
theorem wd_372 : Cond.methodLink RL 73 yX9_grip ∈ wU := wU2 (List.mem_of_getElem? (i := 209) rfl) rfl
theorem wd_373 : Cond.instanceMethod yX9_grip ∈ wU := wU2 (List.mem_of_getElem? (i := 210) rfl) rfl
theorem wd_374 : Cond.selects RX9 yX9_grip yX9_grip ∈ wU := wU2 (List.mem_of_getElem? (i := 211) rfl) rfl
theorem wd_375 : Cond.code yX9_grip prog_1_method_16_code 4 (some .int) ∈ wU := wU2 (List.mem_of_getElem? (i := 212) rfl) rfl
theorem wd_376 : Cond.methodLink RX9 148 yX0_findNumber ∈ wU := wU2 (List.mem_of_getElem? (i := 213) rfl) rfl
theorem wd_377 : Cond.instanceMethod yX0_findNumber ∈ wU := wU2 (List.mem_of_getElem? (i := 214) rfl) rfl
theorem wd_378 : Cond.selects RX0 yX0_findNumber yX0_findNumber ∈ wU := wU2 (List.mem_of_getElem? (i := 215) rfl) rfl
theorem wd_379 : Cond.code yX0_findNumber prog_2_method_5_code 5 (some .boolean) ∈ wU := wU2 (List.mem_of_getElem? (i := 216) rfl) rfl
theorem wd_380 : Cond.methodLink RX0 71 yX0_survey ∈ wU := wU2 (List.mem_of_getElem? (i := 217) rfl) rfl
theorem wd_381 : Cond.methodLink RX9 160 yX9_partOf ∈ wU := wU2 (List.mem_of_getElem? (i := 218) rfl) rfl
theorem wd_382 : Cond.instanceMethod yX9_partOf ∈ wU := wU2 (List.mem_of_getElem? (i := 220) rfl) rfl
theorem wd_383 : Cond.code yX9_partOf prog_1_method_27_code 6 (some .int) ∈ wU := wU2 (List.mem_of_getElem? (i := 221) rfl) rfl
theorem wd_384 : Cond.methodLink RX9 211 yX4_stringIn ∈ wU := wU2 (List.mem_of_getElem? (i := 222) rfl) rfl
theorem wd_385 : Cond.static yX4_stringIn ∈ wU := wU2 (List.mem_of_getElem? (i := 223) rfl) rfl
theorem wd_386 : Cond.code yX4_stringIn prog_6_method_3_code 2 (some .int) ∈ wU := wU2 (List.mem_of_getElem? (i := 224) rfl) rfl
theorem wd_387 : Cond.methodLink RL 77 yX9_plan ∈ wU := wU2 (List.mem_of_getElem? (i := 225) rfl) rfl
theorem wd_388 : Cond.instanceMethod yX9_plan ∈ wU := wU2 (List.mem_of_getElem? (i := 226) rfl) rfl
theorem wd_389 : Cond.selects RX9 yX9_plan yX9_plan ∈ wU := wU2 (List.mem_of_getElem? (i := 227) rfl) rfl
theorem wd_390 : Cond.code yX9_plan prog_1_method_17_code 1 (some .int) ∈ wU := wU2 (List.mem_of_getElem? (i := 228) rfl) rfl
theorem wd_391 : Cond.methodLink RX9 164 yX3_search ∈ wU := wU2 (List.mem_of_getElem? (i := 229) rfl) rfl
theorem wd_392 : Cond.instanceMethod yX3_search ∈ wU := wU2 (List.mem_of_getElem? (i := 230) rfl) rfl
theorem wd_393 : Cond.selects RX3 yX3_search yX3_search ∈ wU := wU2 (List.mem_of_getElem? (i := 231) rfl) rfl
theorem wd_394 : Cond.code yX3_search prog_5_method_2_code 3 none ∈ wU := wU2 (List.mem_of_getElem? (i := 232) rfl) rfl
theorem wd_395 : Cond.methodLink RX3 45 yX0_survey ∈ wU := wU2 (List.mem_of_getElem? (i := 233) rfl) rfl
theorem wd_396 : Cond.methodLink RX3 51 yX3_fillCell ∈ wU := wU2 (List.mem_of_getElem? (i := 234) rfl) rfl
theorem wd_397 : Cond.instanceMethod yX3_fillCell ∈ wU := wU2 (List.mem_of_getElem? (i := 236) rfl) rfl
theorem wd_398 : Cond.code yX3_fillCell prog_5_method_4_code 4 none ∈ wU := wU2 (List.mem_of_getElem? (i := 237) rfl) rfl
theorem wd_399 : Cond.methodLink RX3 68 yX3_isCell ∈ wU := wU2 (List.mem_of_getElem? (i := 238) rfl) rfl
theorem wd_400 : Cond.static yX3_isCell ∈ wU := wU2 (List.mem_of_getElem? (i := 239) rfl) rfl
theorem wd_401 : Cond.code yX3_isCell prog_5_method_9_code 2 (some .boolean) ∈ wU := wU3 (List.mem_of_getElem? (i := 0) rfl) rfl
theorem wd_402 : Cond.methodLink RX3 55 yX3_weighRest ∈ wU := wU3 (List.mem_of_getElem? (i := 1) rfl) rfl
theorem wd_403 : Cond.instanceMethod yX3_weighRest ∈ wU := wU3 (List.mem_of_getElem? (i := 3) rfl) rfl
theorem wd_404 : Cond.code yX3_weighRest prog_5_method_5_code 5 none ∈ wU := wU3 (List.mem_of_getElem? (i := 4) rfl) rfl
theorem wd_405 : Cond.methodLink RX3 93 yX3_sumFrom ∈ wU := wU3 (List.mem_of_getElem? (i := 5) rfl) rfl
theorem wd_406 : Cond.instanceMethod yX3_sumFrom ∈ wU := wU3 (List.mem_of_getElem? (i := 7) rfl) rfl
theorem wd_407 : Cond.code yX3_sumFrom prog_5_method_7_code 5 (some .int) ∈ wU := wU3 (List.mem_of_getElem? (i := 8) rfl) rfl
theorem wd_408 : Cond.methodLink RX3 100 Lib.Math.abs.name ∈ wU := wU3 (List.mem_of_getElem? (i := 9) rfl) rfl
theorem wd_409 : Cond.static Lib.Math.abs.name ∈ wU := wU3 (List.mem_of_getElem? (i := 10) rfl) rfl
theorem wd_410 : Cond.code Lib.Math.abs.name Lib.Math.abs.code 1 (some .int) ∈ wU := wU3 (List.mem_of_getElem? (i := 11) rfl) rfl
theorem wd_411 : Cond.methodLink RX3 97 yX3_waysAt ∈ wU := wU3 (List.mem_of_getElem? (i := 12) rfl) rfl
theorem wd_412 : Cond.instanceMethod yX3_waysAt ∈ wU := wU3 (List.mem_of_getElem? (i := 14) rfl) rfl
theorem wd_413 : Cond.code yX3_waysAt prog_5_method_8_code 3 (some .int) ∈ wU := wU3 (List.mem_of_getElem? (i := 15) rfl) rfl
theorem wd_414 : Cond.methodLink RX3 81 yX3_atMostTies ∈ wU := wU3 (List.mem_of_getElem? (i := 16) rfl) rfl
theorem wd_415 : Cond.static yX3_atMostTies ∈ wU := wU3 (List.mem_of_getElem? (i := 17) rfl) rfl
theorem wd_416 : Cond.code yX3_atMostTies prog_5_method_10_code 2 (some .int) ∈ wU := wU3 (List.mem_of_getElem? (i := 18) rfl) rfl
theorem wd_417 : Cond.constantLong RX3 106 999999 ∈ wU := wU3 (List.mem_of_getElem? (i := 19) rfl) rfl
theorem wd_418 : Cond.constant RX3 108 999999 ∈ wU := wU3 (List.mem_of_getElem? (i := 20) rfl) rfl
theorem wd_419 : Cond.methodLink RX9 170 yX3_choose ∈ wU := wU3 (List.mem_of_getElem? (i := 21) rfl) rfl
theorem wd_420 : Cond.instanceMethod yX3_choose ∈ wU := wU3 (List.mem_of_getElem? (i := 22) rfl) rfl
theorem wd_421 : Cond.selects RX3 yX3_choose yX3_choose ∈ wU := wU3 (List.mem_of_getElem? (i := 23) rfl) rfl
theorem wd_422 : Cond.code yX3_choose prog_5_method_3_code 5 none ∈ wU := wU3 (List.mem_of_getElem? (i := 24) rfl) rfl
theorem wd_423 : Cond.methodLink RX3 58 yX3_firstBest ∈ wU := wU3 (List.mem_of_getElem? (i := 25) rfl) rfl
theorem wd_424 : Cond.instanceMethod yX3_firstBest ∈ wU := wU3 (List.mem_of_getElem? (i := 27) rfl) rfl
theorem wd_425 : Cond.code yX3_firstBest prog_5_method_6_code 7 (some .int) ∈ wU := wU3 (List.mem_of_getElem? (i := 28) rfl) rfl
theorem wd_426 : Cond.methodLink RX3 62 yX2_addFirstLeast ∈ wU := wU3 (List.mem_of_getElem? (i := 29) rfl) rfl
theorem wd_427 : Cond.instanceMethod yX2_addFirstLeast ∈ wU := wU3 (List.mem_of_getElem? (i := 30) rfl) rfl
theorem wd_428 : Cond.selects RX2 yX2_addFirstLeast yX2_addFirstLeast ∈ wU := wU3 (List.mem_of_getElem? (i := 31) rfl) rfl
theorem wd_429 : Cond.code yX2_addFirstLeast prog_4_method_5_code 3 none ∈ wU := wU3 (List.mem_of_getElem? (i := 32) rfl) rfl
theorem wd_430 : Cond.methodLink RX2 36 yX0_numberOfFirstLeast ∈ wU := wU3 (List.mem_of_getElem? (i := 33) rfl) rfl
theorem wd_431 : Cond.instanceMethod yX0_numberOfFirstLeast ∈ wU := wU3 (List.mem_of_getElem? (i := 34) rfl) rfl
theorem wd_432 : Cond.selects RX0 yX0_numberOfFirstLeast yX0_numberOfFirstLeast ∈ wU := wU3 (List.mem_of_getElem? (i := 35) rfl) rfl
theorem wd_433 : Cond.code yX0_numberOfFirstLeast prog_2_method_4_code 2 (some .int) ∈ wU := wU3 (List.mem_of_getElem? (i := 36) rfl) rfl
theorem wd_434 : Cond.methodLink RX0 67 yX0_countBelow ∈ wU := wU3 (List.mem_of_getElem? (i := 37) rfl) rfl
theorem wd_435 : Cond.methodLink RL 81 yX9_planned ∈ wU := wU3 (List.mem_of_getElem? (i := 38) rfl) rfl
theorem wd_436 : Cond.instanceMethod yX9_planned ∈ wU := wU3 (List.mem_of_getElem? (i := 39) rfl) rfl
theorem wd_437 : Cond.selects RX9 yX9_planned yX9_planned ∈ wU := wU3 (List.mem_of_getElem? (i := 40) rfl) rfl
theorem wd_438 : Cond.code yX9_planned prog_1_method_18_code 3 (some .int) ∈ wU := wU3 (List.mem_of_getElem? (i := 41) rfl) rfl
theorem wd_439 : Cond.methodLink RX9 174 yX2_hasEvent ∈ wU := wU3 (List.mem_of_getElem? (i := 42) rfl) rfl
theorem wd_440 : Cond.instanceMethod yX2_hasEvent ∈ wU := wU3 (List.mem_of_getElem? (i := 43) rfl) rfl
theorem wd_441 : Cond.selects RX2 yX2_hasEvent yX2_hasEvent ∈ wU := wU3 (List.mem_of_getElem? (i := 44) rfl) rfl
theorem wd_442 : Cond.code yX2_hasEvent prog_4_method_4_code 2 (some .boolean) ∈ wU := wU3 (List.mem_of_getElem? (i := 45) rfl) rfl
theorem wd_443 : Cond.methodLink RL 85 yX9_ties ∈ wU := wU3 (List.mem_of_getElem? (i := 46) rfl) rfl
theorem wd_444 : Cond.instanceMethod yX9_ties ∈ wU := wU3 (List.mem_of_getElem? (i := 47) rfl) rfl
theorem wd_445 : Cond.selects RX9 yX9_ties yX9_ties ∈ wU := wU3 (List.mem_of_getElem? (i := 48) rfl) rfl
theorem wd_446 : Cond.code yX9_ties prog_1_method_19_code 1 (some .int) ∈ wU := wU3 (List.mem_of_getElem? (i := 49) rfl) rfl
theorem wd_447 : Cond.methodLink RL 89 yX9_sign ∈ wU := wU3 (List.mem_of_getElem? (i := 50) rfl) rfl
theorem wd_448 : Cond.instanceMethod yX9_sign ∈ wU := wU3 (List.mem_of_getElem? (i := 51) rfl) rfl
theorem wd_449 : Cond.selects RX9 yX9_sign yX9_sign ∈ wU := wU3 (List.mem_of_getElem? (i := 52) rfl) rfl
theorem wd_450 : Cond.code yX9_sign prog_1_method_20_code 2 (some .int) ∈ wU := wU3 (List.mem_of_getElem? (i := 53) rfl) rfl
theorem wd_451 : Cond.methodLink RX9 189 yX7_add ∈ wU := wU3 (List.mem_of_getElem? (i := 54) rfl) rfl
theorem wd_452 : Cond.instanceMethod yX7_add ∈ wU := wU3 (List.mem_of_getElem? (i := 55) rfl) rfl
theorem wd_453 : Cond.selects RX7 yX7_add yX7_add ∈ wU := wU3 (List.mem_of_getElem? (i := 56) rfl) rfl
theorem wd_454 : Cond.code yX7_add prog_9_method_2_code 2 (some .boolean) ∈ wU := wU3 (List.mem_of_getElem? (i := 57) rfl) rfl
theorem wd_455 : Cond.methodLink RL 93 yX9_tape ∈ wU := wU3 (List.mem_of_getElem? (i := 58) rfl) rfl
theorem wd_456 : Cond.instanceMethod yX9_tape ∈ wU := wU3 (List.mem_of_getElem? (i := 59) rfl) rfl
theorem wd_457 : Cond.selects RX9 yX9_tape yX9_tape ∈ wU := wU3 (List.mem_of_getElem? (i := 60) rfl) rfl
theorem wd_458 : Cond.code yX9_tape prog_1_method_21_code 2 (some .int) ∈ wU := wU3 (List.mem_of_getElem? (i := 61) rfl) rfl
theorem wd_459 : Cond.methodLink RX9 192 yX7_signAt ∈ wU := wU3 (List.mem_of_getElem? (i := 62) rfl) rfl
theorem wd_460 : Cond.instanceMethod yX7_signAt ∈ wU := wU3 (List.mem_of_getElem? (i := 63) rfl) rfl
theorem wd_461 : Cond.selects RX7 yX7_signAt yX7_signAt ∈ wU := wU3 (List.mem_of_getElem? (i := 64) rfl) rfl
theorem wd_462 : Cond.code yX7_signAt prog_9_method_3_code 2 (some .int) ∈ wU := wU3 (List.mem_of_getElem? (i := 65) rfl) rfl
theorem wd_463 : Cond.methodLink RL 97 yX9_empty ∈ wU := wU3 (List.mem_of_getElem? (i := 66) rfl) rfl
theorem wd_464 : Cond.instanceMethod yX9_empty ∈ wU := wU3 (List.mem_of_getElem? (i := 67) rfl) rfl
theorem wd_465 : Cond.selects RX9 yX9_empty yX9_empty ∈ wU := wU3 (List.mem_of_getElem? (i := 68) rfl) rfl
theorem wd_466 : Cond.code yX9_empty prog_1_method_22_code 2 (some .int) ∈ wU := wU3 (List.mem_of_getElem? (i := 69) rfl) rfl
theorem wd_467 : Cond.methodLink RL 101 yX9_write ∈ wU := wU3 (List.mem_of_getElem? (i := 70) rfl) rfl
theorem wd_468 : Cond.instanceMethod yX9_write ∈ wU := wU3 (List.mem_of_getElem? (i := 71) rfl) rfl
theorem wd_469 : Cond.selects RX9 yX9_write yX9_write ∈ wU := wU3 (List.mem_of_getElem? (i := 72) rfl) rfl
theorem wd_470 : Cond.code yX9_write prog_1_method_23_code 1 (some .int) ∈ wU := wU3 (List.mem_of_getElem? (i := 73) rfl) rfl
theorem wd_471 : Cond.methodLink RX9 195 yX2_isFound ∈ wU := wU3 (List.mem_of_getElem? (i := 74) rfl) rfl
theorem wd_472 : Cond.instanceMethod yX2_isFound ∈ wU := wU3 (List.mem_of_getElem? (i := 75) rfl) rfl
theorem wd_473 : Cond.selects RX2 yX2_isFound yX2_isFound ∈ wU := wU3 (List.mem_of_getElem? (i := 76) rfl) rfl
theorem wd_474 : Cond.code yX2_isFound prog_4_method_3_code 1 (some .boolean) ∈ wU := wU3 (List.mem_of_getElem? (i := 77) rfl) rfl
theorem wd_475 : Cond.methodLink RX9 198 yX6_writeTab ∈ wU := wU3 (List.mem_of_getElem? (i := 78) rfl) rfl
theorem wd_476 : Cond.instanceMethod yX6_writeTab ∈ wU := wU3 (List.mem_of_getElem? (i := 79) rfl) rfl
theorem wd_477 : Cond.selects RX6 yX6_writeTab yX6_writeTab ∈ wU := wU3 (List.mem_of_getElem? (i := 80) rfl) rfl
theorem wd_478 : Cond.code yX6_writeTab prog_8_method_2_code 2 none ∈ wU := wU3 (List.mem_of_getElem? (i := 81) rfl) rfl
theorem wd_479 : Cond.methodLink RX6 42 yX6_longestNumber ∈ wU := wU3 (List.mem_of_getElem? (i := 82) rfl) rfl
theorem wd_480 : Cond.instanceMethod yX6_longestNumber ∈ wU := wU3 (List.mem_of_getElem? (i := 84) rfl) rfl
theorem wd_481 : Cond.code yX6_longestNumber prog_8_method_5_code 4 (some .int) ∈ wU := wU3 (List.mem_of_getElem? (i := 85) rfl) rfl
theorem wd_482 : Cond.methodLink RX6 59 yX6_fretsBehindCapo ∈ wU := wU3 (List.mem_of_getElem? (i := 86) rfl) rfl
theorem wd_483 : Cond.instanceMethod yX6_fretsBehindCapo ∈ wU := wU3 (List.mem_of_getElem? (i := 88) rfl) rfl
theorem wd_484 : Cond.code yX6_fretsBehindCapo prog_8_method_7_code 5 (some .int) ∈ wU := wU3 (List.mem_of_getElem? (i := 89) rfl) rfl
theorem wd_485 : Cond.methodLink RX6 74 yX2_hasEvent ∈ wU := wU3 (List.mem_of_getElem? (i := 90) rfl) rfl
theorem wd_486 : Cond.methodLink RX6 79 yX8_sizeOf ∈ wU := wU3 (List.mem_of_getElem? (i := 91) rfl) rfl
theorem wd_487 : Cond.methodLink RX6 84 yX4_stringIn ∈ wU := wU3 (List.mem_of_getElem? (i := 92) rfl) rfl
theorem wd_488 : Cond.methodLink RX6 89 yX8_pitchOf ∈ wU := wU3 (List.mem_of_getElem? (i := 93) rfl) rfl
theorem wd_489 : Cond.methodLink RX6 92 yX1_fretOf ∈ wU := wU3 (List.mem_of_getElem? (i := 94) rfl) rfl
theorem wd_490 : Cond.methodLink RX6 66 yX6_lengthOf ∈ wU := wU3 (List.mem_of_getElem? (i := 95) rfl) rfl
theorem wd_491 : Cond.static yX6_lengthOf ∈ wU := wU3 (List.mem_of_getElem? (i := 96) rfl) rfl
theorem wd_492 : Cond.code yX6_lengthOf prog_8_method_6_code 1 (some .int) ∈ wU := wU3 (List.mem_of_getElem? (i := 97) rfl) rfl
theorem wd_493 : Cond.methodLink RX6 69 Lib.Math.max.name ∈ wU := wU3 (List.mem_of_getElem? (i := 98) rfl) rfl
theorem wd_494 : Cond.methodLink RX6 51 yX6_writeLine ∈ wU := wU3 (List.mem_of_getElem? (i := 99) rfl) rfl
theorem wd_495 : Cond.instanceMethod yX6_writeLine ∈ wU := wU3 (List.mem_of_getElem? (i := 101) rfl) rfl
theorem wd_496 : Cond.code yX6_writeLine prog_8_method_3_code 5 none ∈ wU := wU3 (List.mem_of_getElem? (i := 102) rfl) rfl
theorem wd_497 : Cond.methodLink RX6 55 yX7_add ∈ wU := wU3 (List.mem_of_getElem? (i := 103) rfl) rfl
theorem wd_498 : Cond.methodLink RX6 63 yX6_writeNumber ∈ wU := wU3 (List.mem_of_getElem? (i := 104) rfl) rfl
theorem wd_499 : Cond.instanceMethod yX6_writeNumber ∈ wU := wU3 (List.mem_of_getElem? (i := 106) rfl) rfl
theorem wd_500 : Cond.code yX6_writeNumber prog_8_method_4_code 3 (some .int) ∈ wU := wU3 (List.mem_of_getElem? (i := 107) rfl) rfl
theorem wd_501 : Cond.methodLink RL 105 yX9_read ∈ wU := wU3 (List.mem_of_getElem? (i := 108) rfl) rfl
theorem wd_502 : Cond.instanceMethod yX9_read ∈ wU := wU3 (List.mem_of_getElem? (i := 109) rfl) rfl
theorem wd_503 : Cond.selects RX9 yX9_read yX9_read ∈ wU := wU3 (List.mem_of_getElem? (i := 110) rfl) rfl
theorem wd_504 : Cond.code yX9_read prog_1_method_24_code 2 (some .int) ∈ wU := wU3 (List.mem_of_getElem? (i := 111) rfl) rfl
theorem wd_505 : Cond.methodLink RX9 201 yX5_findFault ∈ wU := wU3 (List.mem_of_getElem? (i := 112) rfl) rfl
theorem wd_506 : Cond.instanceMethod yX5_findFault ∈ wU := wU3 (List.mem_of_getElem? (i := 113) rfl) rfl
theorem wd_507 : Cond.selects RX5 yX5_findFault yX5_findFault ∈ wU := wU3 (List.mem_of_getElem? (i := 114) rfl) rfl
theorem wd_508 : Cond.code yX5_findFault prog_7_method_2_code 1 (some .int) ∈ wU := wU3 (List.mem_of_getElem? (i := 115) rfl) rfl
theorem wd_509 : Cond.methodLink RX5 34 yX5_wrongSign ∈ wU := wU3 (List.mem_of_getElem? (i := 116) rfl) rfl
theorem wd_510 : Cond.instanceMethod yX5_wrongSign ∈ wU := wU3 (List.mem_of_getElem? (i := 118) rfl) rfl
theorem wd_511 : Cond.code yX5_wrongSign prog_7_method_5_code 4 (some .int) ∈ wU := wU3 (List.mem_of_getElem? (i := 119) rfl) rfl
theorem wd_512 : Cond.methodLink RX5 78 yX5_measureFirstLine ∈ wU := wU3 (List.mem_of_getElem? (i := 120) rfl) rfl
theorem wd_513 : Cond.instanceMethod yX5_measureFirstLine ∈ wU := wU3 (List.mem_of_getElem? (i := 122) rfl) rfl
theorem wd_514 : Cond.code yX5_measureFirstLine prog_7_method_6_code 2 (some .int) ∈ wU := wU3 (List.mem_of_getElem? (i := 123) rfl) rfl
theorem wd_515 : Cond.methodLink RX5 96 yX7_signAt ∈ wU := wU3 (List.mem_of_getElem? (i := 124) rfl) rfl
theorem wd_516 : Cond.methodLink RX5 100 yX5_isInner ∈ wU := wU3 (List.mem_of_getElem? (i := 125) rfl) rfl
theorem wd_517 : Cond.static yX5_isInner ∈ wU := wU3 (List.mem_of_getElem? (i := 126) rfl) rfl
theorem wd_518 : Cond.code yX5_isInner prog_7_method_22_code 1 (some .boolean) ∈ wU := wU3 (List.mem_of_getElem? (i := 127) rfl) rfl
theorem wd_519 : Cond.methodLink RX5 110 yX5_isDigit ∈ wU := wU3 (List.mem_of_getElem? (i := 128) rfl) rfl
theorem wd_520 : Cond.static yX5_isDigit ∈ wU := wU3 (List.mem_of_getElem? (i := 129) rfl) rfl
theorem wd_521 : Cond.code yX5_isDigit prog_7_method_23_code 1 (some .boolean) ∈ wU := wU3 (List.mem_of_getElem? (i := 130) rfl) rfl
theorem wd_522 : Cond.methodLink RX5 81 yX5_signIn ∈ wU := wU3 (List.mem_of_getElem? (i := 131) rfl) rfl
theorem wd_523 : Cond.instanceMethod yX5_signIn ∈ wU := wU3 (List.mem_of_getElem? (i := 133) rfl) rfl
theorem wd_524 : Cond.code yX5_signIn prog_7_method_20_code 3 (some .int) ∈ wU := wU3 (List.mem_of_getElem? (i := 134) rfl) rfl
theorem wd_525 : Cond.methodLink RX5 88 yX5_placeOf ∈ wU := wU3 (List.mem_of_getElem? (i := 135) rfl) rfl
theorem wd_526 : Cond.instanceMethod yX5_placeOf ∈ wU := wU3 (List.mem_of_getElem? (i := 137) rfl) rfl
theorem wd_527 : Cond.code yX5_placeOf prog_7_method_21_code 3 (some .int) ∈ wU := wU3 (List.mem_of_getElem? (i := 138) rfl) rfl
theorem wd_528 : Cond.methodLink RX5 85 yX5_fitsColumn ∈ wU := wU3 (List.mem_of_getElem? (i := 139) rfl) rfl
theorem wd_529 : Cond.instanceMethod yX5_fitsColumn ∈ wU := wU3 (List.mem_of_getElem? (i := 141) rfl) rfl
theorem wd_530 : Cond.code yX5_fitsColumn prog_7_method_7_code 3 (some .boolean) ∈ wU := wU3 (List.mem_of_getElem? (i := 142) rfl) rfl
theorem wd_531 : Cond.methodLink RX5 38 yX5_wrongNumber ∈ wU := wU3 (List.mem_of_getElem? (i := 143) rfl) rfl
theorem wd_532 : Cond.instanceMethod yX5_wrongNumber ∈ wU := wU3 (List.mem_of_getElem? (i := 145) rfl) rfl
theorem wd_533 : Cond.code yX5_wrongNumber prog_7_method_8_code 3 (some .int) ∈ wU := wU3 (List.mem_of_getElem? (i := 146) rfl) rfl
theorem wd_534 : Cond.methodLink RX5 104 yX5_beginsNumber ∈ wU := wU3 (List.mem_of_getElem? (i := 147) rfl) rfl
theorem wd_535 : Cond.instanceMethod yX5_beginsNumber ∈ wU := wU3 (List.mem_of_getElem? (i := 149) rfl) rfl
theorem wd_536 : Cond.code yX5_beginsNumber prog_7_method_19_code 3 (some .boolean) ∈ wU := wU3 (List.mem_of_getElem? (i := 150) rfl) rfl
theorem wd_537 : Cond.methodLink RX5 107 yX5_isFretNumber ∈ wU := wU3 (List.mem_of_getElem? (i := 151) rfl) rfl
theorem wd_538 : Cond.instanceMethod yX5_isFretNumber ∈ wU := wU3 (List.mem_of_getElem? (i := 153) rfl) rfl
theorem wd_539 : Cond.code yX5_isFretNumber prog_7_method_9_code 3 (some .boolean) ∈ wU := wU3 (List.mem_of_getElem? (i := 154) rfl) rfl
theorem wd_540 : Cond.methodLink RX5 116 yX5_numberIn ∈ wU := wU3 (List.mem_of_getElem? (i := 155) rfl) rfl
theorem wd_541 : Cond.instanceMethod yX5_numberIn ∈ wU := wU3 (List.mem_of_getElem? (i := 157) rfl) rfl
theorem wd_542 : Cond.code yX5_numberIn prog_7_method_18_code 5 (some .int) ∈ wU := wU3 (List.mem_of_getElem? (i := 158) rfl) rfl
theorem wd_543 : Cond.methodLink RX5 41 yX5_shiftedNumber ∈ wU := wU3 (List.mem_of_getElem? (i := 159) rfl) rfl
theorem wd_544 : Cond.instanceMethod yX5_shiftedNumber ∈ wU := wU3 (List.mem_of_getElem? (i := 161) rfl) rfl
theorem wd_545 : Cond.code yX5_shiftedNumber prog_7_method_10_code 3 (some .int) ∈ wU := wU3 (List.mem_of_getElem? (i := 162) rfl) rfl
theorem wd_546 : Cond.methodLink RX5 122 yX5_hasSecondDigit ∈ wU := wU3 (List.mem_of_getElem? (i := 163) rfl) rfl
theorem wd_547 : Cond.instanceMethod yX5_hasSecondDigit ∈ wU := wU3 (List.mem_of_getElem? (i := 165) rfl) rfl
theorem wd_548 : Cond.code yX5_hasSecondDigit prog_7_method_11_code 3 (some .boolean) ∈ wU := wU3 (List.mem_of_getElem? (i := 166) rfl) rfl
theorem wd_549 : Cond.methodLink RX5 44 yX5_wrongEvent ∈ wU := wU3 (List.mem_of_getElem? (i := 167) rfl) rfl
theorem wd_550 : Cond.instanceMethod yX5_wrongEvent ∈ wU := wU3 (List.mem_of_getElem? (i := 169) rfl) rfl
theorem wd_551 : Cond.code yX5_wrongEvent prog_7_method_12_code 4 (some .int) ∈ wU := wU3 (List.mem_of_getElem? (i := 170) rfl) rfl
theorem wd_552 : Cond.methodLink RX5 55 yX5_loadColumn ∈ wU := wU3 (List.mem_of_getElem? (i := 171) rfl) rfl
theorem wd_553 : Cond.instanceMethod yX5_loadColumn ∈ wU := wU3 (List.mem_of_getElem? (i := 173) rfl) rfl
theorem wd_554 : Cond.code yX5_loadColumn prog_7_method_14_code 3 none ∈ wU := wU3 (List.mem_of_getElem? (i := 174) rfl) rfl
theorem wd_555 : Cond.methodLink RX5 131 yX1_pitchBehindCapo ∈ wU := wU3 (List.mem_of_getElem? (i := 175) rfl) rfl
theorem wd_556 : Cond.instanceMethod yX1_pitchBehindCapo ∈ wU := wU3 (List.mem_of_getElem? (i := 176) rfl) rfl
theorem wd_557 : Cond.selects RX1 yX1_pitchBehindCapo yX1_pitchBehindCapo ∈ wU := wU3 (List.mem_of_getElem? (i := 177) rfl) rfl
theorem wd_558 : Cond.code yX1_pitchBehindCapo prog_3_method_5_code 3 (some .int) ∈ wU := wU3 (List.mem_of_getElem? (i := 178) rfl) rfl
theorem wd_559 : Cond.methodLink RX5 125 yX5_countPitches ∈ wU := wU3 (List.mem_of_getElem? (i := 179) rfl) rfl
theorem wd_560 : Cond.instanceMethod yX5_countPitches ∈ wU := wU3 (List.mem_of_getElem? (i := 181) rfl) rfl
theorem wd_561 : Cond.code yX5_countPitches prog_7_method_15_code 3 (some .int) ∈ wU := wU3 (List.mem_of_getElem? (i := 182) rfl) rfl
theorem wd_562 : Cond.methodLink RX5 128 yX5_hasPitchTwice ∈ wU := wU3 (List.mem_of_getElem? (i := 183) rfl) rfl
theorem wd_563 : Cond.instanceMethod yX5_hasPitchTwice ∈ wU := wU3 (List.mem_of_getElem? (i := 185) rfl) rfl
theorem wd_564 : Cond.code yX5_hasPitchTwice prog_7_method_16_code 3 (some .boolean) ∈ wU := wU3 (List.mem_of_getElem? (i := 186) rfl) rfl
theorem wd_565 : Cond.methodLink RX5 59 yX5_lowestString ∈ wU := wU3 (List.mem_of_getElem? (i := 187) rfl) rfl
theorem wd_566 : Cond.instanceMethod yX5_lowestString ∈ wU := wU3 (List.mem_of_getElem? (i := 189) rfl) rfl
theorem wd_567 : Cond.code yX5_lowestString prog_7_method_17_code 2 (some .int) ∈ wU := wU3 (List.mem_of_getElem? (i := 190) rfl) rfl
theorem wd_568 : Cond.methodLink RX5 47 yX5_surplusEvent ∈ wU := wU3 (List.mem_of_getElem? (i := 191) rfl) rfl
theorem wd_569 : Cond.instanceMethod yX5_surplusEvent ∈ wU := wU3 (List.mem_of_getElem? (i := 193) rfl) rfl
theorem wd_570 : Cond.code yX5_surplusEvent prog_7_method_13_code 3 (some .int) ∈ wU := wU3 (List.mem_of_getElem? (i := 194) rfl) rfl
theorem wd_571 : Cond.methodLink RX9 205 yX5_takeEvents ∈ wU := wU3 (List.mem_of_getElem? (i := 195) rfl) rfl
theorem wd_572 : Cond.instanceMethod yX5_takeEvents ∈ wU := wU3 (List.mem_of_getElem? (i := 196) rfl) rfl
theorem wd_573 : Cond.selects RX5 yX5_takeEvents yX5_takeEvents ∈ wU := wU3 (List.mem_of_getElem? (i := 197) rfl) rfl
theorem wd_574 : Cond.code yX5_takeEvents prog_7_method_3_code 2 none ∈ wU := wU3 (List.mem_of_getElem? (i := 198) rfl) rfl
theorem wd_575 : Cond.methodLink RX5 62 yX8_addEvent ∈ wU := wU3 (List.mem_of_getElem? (i := 199) rfl) rfl
theorem wd_576 : Cond.methodLink RX5 66 yX5_takePitches ∈ wU := wU3 (List.mem_of_getElem? (i := 200) rfl) rfl
theorem wd_577 : Cond.instanceMethod yX5_takePitches ∈ wU := wU3 (List.mem_of_getElem? (i := 202) rfl) rfl
theorem wd_578 : Cond.code yX5_takePitches prog_7_method_4_code 2 none ∈ wU := wU3 (List.mem_of_getElem? (i := 203) rfl) rfl
theorem wd_579 : Cond.methodLink RX5 74 yX8_addPitch ∈ wU := wU3 (List.mem_of_getElem? (i := 204) rfl) rfl
theorem wd_580 : Cond.methodLink RL 109 yX9_place ∈ wU := wU3 (List.mem_of_getElem? (i := 205) rfl) rfl
theorem wd_581 : Cond.instanceMethod yX9_place ∈ wU := wU3 (List.mem_of_getElem? (i := 206) rfl) rfl
theorem wd_582 : Cond.selects RX9 yX9_place yX9_place ∈ wU := wU3 (List.mem_of_getElem? (i := 207) rfl) rfl
theorem wd_583 : Cond.code yX9_place prog_1_method_25_code 1 (some .int) ∈ wU := wU3 (List.mem_of_getElem? (i := 208) rfl) rfl
theorem wd_584 : Cond.classLink RL 10 RX10 ∈ wU := wU3 (List.mem_of_getElem? (i := 209) rfl) rfl
theorem wd_585 : Cond.instantiable RX10 33 ∈ wU := wU3 (List.mem_of_getElem? (i := 210) rfl) rfl
theorem wd_586 : Cond.methodLink RL 12 yX10_init ∈ wU := wU3 (List.mem_of_getElem? (i := 211) rfl) rfl
theorem wd_587 : Cond.instanceMethod yX10_init ∈ wU := wU3 (List.mem_of_getElem? (i := 212) rfl) rfl
theorem wd_588 : Cond.code yX10_init prog_12_method_1_code 1 none ∈ wU := wU3 (List.mem_of_getElem? (i := 213) rfl) rfl
theorem wd_589 : Cond.methodLink RX10 1 objectInit ∈ wU := wU3 (List.mem_of_getElem? (i := 214) rfl) rfl
theorem wd_590 : Cond.fieldLink RX10 78 RX10 "strings" "I" ∈ wU := wU3 (List.mem_of_getElem? (i := 215) rfl) rfl
theorem wd_591 : Cond.fieldLink RX10 7 RX10 "tuned" "[I" ∈ wU := wU3 (List.mem_of_getElem? (i := 216) rfl) rfl
theorem wd_592 : Cond.fieldLink RX10 13 RX10 "neck" "I" ∈ wU := wU3 (List.mem_of_getElem? (i := 217) rfl) rfl
theorem wd_593 : Cond.fieldLink RX10 92 RX10 "capo" "I" ∈ wU := wU3 (List.mem_of_getElem? (i := 218) rfl) rfl
theorem wd_594 : Cond.fieldLink RX10 17 RX10 "weights" "[I" ∈ wU := wU3 (List.mem_of_getElem? (i := 219) rfl) rfl
theorem wd_595 : Cond.fieldLink RX10 81 RX10 "events" "I" ∈ wU := wU3 (List.mem_of_getElem? (i := 220) rfl) rfl
theorem wd_596 : Cond.fieldLink RX10 20 RX10 "pitchMany" "[I" ∈ wU := wU3 (List.mem_of_getElem? (i := 221) rfl) rfl
theorem wd_597 : Cond.fieldLink RX10 23 RX10 "pitches" "[I" ∈ wU := wU3 (List.mem_of_getElem? (i := 222) rfl) rfl
theorem wd_598 : Cond.fieldLink RX10 26 RX10 "bounds" "[I" ∈ wU := wU3 (List.mem_of_getElem? (i := 223) rfl) rfl
theorem wd_599 : Cond.fieldLink RX10 88 RX10 "isFound" "Z" ∈ wU := wU3 (List.mem_of_getElem? (i := 224) rfl) rfl
theorem wd_600 : Cond.fieldLink RX10 29 RX10 "foundAt" "[I" ∈ wU := wU3 (List.mem_of_getElem? (i := 225) rfl) rfl
theorem wd_601 : Cond.fieldLink RX10 32 RX10 "foundStrings" "[I" ∈ wU := wU3 (List.mem_of_getElem? (i := 226) rfl) rfl
theorem wd_602 : Cond.fieldLink RX10 35 RX10 "foundCost" "[I" ∈ wU := wU3 (List.mem_of_getElem? (i := 227) rfl) rfl
theorem wd_603 : Cond.fieldLink RX10 38 RX10 "foundNumber" "[I" ∈ wU := wU3 (List.mem_of_getElem? (i := 228) rfl) rfl
theorem wd_604 : Cond.fieldLink RX10 106 RX10 "signs" "I" ∈ wU := wU3 (List.mem_of_getElem? (i := 229) rfl) rfl
theorem wd_605 : Cond.fieldLink RX10 41 RX10 "tape" "[I" ∈ wU := wU3 (List.mem_of_getElem? (i := 230) rfl) rfl
theorem wd_606 : Cond.fieldLink RX10 44 RX10 "faultPlace" "I" ∈ wU := wU3 (List.mem_of_getElem? (i := 231) rfl) rfl
theorem wd_607 : Cond.fieldLink RX10 113 RX10 "ways" "I" ∈ wU := wU3 (List.mem_of_getElem? (i := 232) rfl) rfl
theorem wd_608 : Cond.fieldLink RX10 47 RX10 "wayStrings" "[I" ∈ wU := wU3 (List.mem_of_getElem? (i := 233) rfl) rfl
theorem wd_609 : Cond.fieldLink RX10 50 RX10 "wayFrets" "[I" ∈ wU := wU3 (List.mem_of_getElem? (i := 234) rfl) rfl
theorem wd_610 : Cond.fieldLink RX10 53 RX10 "least" "[I" ∈ wU := wU3 (List.mem_of_getElem? (i := 235) rfl) rfl
theorem wd_611 : Cond.fieldLink RX10 56 RX10 "manyLeast" "[I" ∈ wU := wU3 (List.mem_of_getElem? (i := 236) rfl) rfl
theorem wd_612 : Cond.fieldLink RX10 59 RX10 "sums" "[I" ∈ wU := wU3 (List.mem_of_getElem? (i := 237) rfl) rfl
theorem wd_613 : Cond.fieldLink RX10 62 RX10 "rows" "[I" ∈ wU := wU3 (List.mem_of_getElem? (i := 238) rfl) rfl
theorem wd_614 : Cond.fieldLink RX10 65 RX10 "isOn" "[Z" ∈ wU := wU3 (List.mem_of_getElem? (i := 239) rfl) rfl
theorem wd_615 : Cond.fieldLink RX10 169 RX10 "at" "I" ∈ wU := wU4 (List.mem_of_getElem? (i := 0) rfl) rfl
theorem wd_616 : Cond.fieldLink RX10 180 RX10 "columns" "I" ∈ wU := wU4 (List.mem_of_getElem? (i := 1) rfl) rfl
theorem wd_617 : Cond.fieldLink RX10 171 RX10 "fault" "I" ∈ wU := wU4 (List.mem_of_getElem? (i := 2) rfl) rfl
theorem wd_618 : Cond.fieldLink RX10 174 RX10 "faultAt" "I" ∈ wU := wU4 (List.mem_of_getElem? (i := 3) rfl) rfl
theorem wd_619 : Cond.fieldLink RX10 208 RX10 "newEvents" "I" ∈ wU := wU4 (List.mem_of_getElem? (i := 4) rfl) rfl
theorem wd_620 : Cond.fieldLink RX10 69 RX10 "newMany" "[I" ∈ wU := wU4 (List.mem_of_getElem? (i := 5) rfl) rfl
theorem wd_621 : Cond.fieldLink RX10 72 RX10 "newPitches" "[I" ∈ wU := wU4 (List.mem_of_getElem? (i := 6) rfl) rfl
theorem wd_622 : Cond.fieldLink RX10 75 RX10 "newBounds" "[I" ∈ wU := wU4 (List.mem_of_getElem? (i := 7) rfl) rfl
theorem wd_623 : Cond.lays RX10 RX10 "strings" "I" ∈ wU := wU4 (List.mem_of_getElem? (i := 8) rfl) rfl
theorem wd_624 : Cond.laysFinal RX10 RX10 "tuned" "[I" ∈ wU := wU4 (List.mem_of_getElem? (i := 10) rfl) rfl
theorem wd_625 : Cond.lays RX10 RX10 "neck" "I" ∈ wU := wU4 (List.mem_of_getElem? (i := 12) rfl) rfl
theorem wd_626 : Cond.lays RX10 RX10 "capo" "I" ∈ wU := wU4 (List.mem_of_getElem? (i := 14) rfl) rfl
theorem wd_627 : Cond.laysFinal RX10 RX10 "weights" "[I" ∈ wU := wU4 (List.mem_of_getElem? (i := 16) rfl) rfl
theorem wd_628 : Cond.lays RX10 RX10 "events" "I" ∈ wU := wU4 (List.mem_of_getElem? (i := 18) rfl) rfl
theorem wd_629 : Cond.laysFinal RX10 RX10 "pitchMany" "[I" ∈ wU := wU4 (List.mem_of_getElem? (i := 20) rfl) rfl
theorem wd_630 : Cond.laysFinal RX10 RX10 "pitches" "[I" ∈ wU := wU4 (List.mem_of_getElem? (i := 22) rfl) rfl
theorem wd_631 : Cond.laysFinal RX10 RX10 "bounds" "[I" ∈ wU := wU4 (List.mem_of_getElem? (i := 24) rfl) rfl
theorem wd_632 : Cond.lays RX10 RX10 "isFound" "Z" ∈ wU := wU4 (List.mem_of_getElem? (i := 26) rfl) rfl
theorem wd_633 : Cond.laysFinal RX10 RX10 "foundAt" "[I" ∈ wU := wU4 (List.mem_of_getElem? (i := 28) rfl) rfl
theorem wd_634 : Cond.laysFinal RX10 RX10 "foundStrings" "[I" ∈ wU := wU4 (List.mem_of_getElem? (i := 30) rfl) rfl
theorem wd_635 : Cond.laysFinal RX10 RX10 "foundCost" "[I" ∈ wU := wU4 (List.mem_of_getElem? (i := 32) rfl) rfl
theorem wd_636 : Cond.laysFinal RX10 RX10 "foundNumber" "[I" ∈ wU := wU4 (List.mem_of_getElem? (i := 34) rfl) rfl
theorem wd_637 : Cond.lays RX10 RX10 "signs" "I" ∈ wU := wU4 (List.mem_of_getElem? (i := 36) rfl) rfl
theorem wd_638 : Cond.laysFinal RX10 RX10 "tape" "[I" ∈ wU := wU4 (List.mem_of_getElem? (i := 38) rfl) rfl
theorem wd_639 : Cond.lays RX10 RX10 "faultPlace" "I" ∈ wU := wU4 (List.mem_of_getElem? (i := 40) rfl) rfl
theorem wd_640 : Cond.lays RX10 RX10 "ways" "I" ∈ wU := wU4 (List.mem_of_getElem? (i := 42) rfl) rfl
theorem wd_641 : Cond.laysFinal RX10 RX10 "wayStrings" "[I" ∈ wU := wU4 (List.mem_of_getElem? (i := 44) rfl) rfl
theorem wd_642 : Cond.laysFinal RX10 RX10 "wayFrets" "[I" ∈ wU := wU4 (List.mem_of_getElem? (i := 46) rfl) rfl
theorem wd_643 : Cond.laysFinal RX10 RX10 "least" "[I" ∈ wU := wU4 (List.mem_of_getElem? (i := 48) rfl) rfl
theorem wd_644 : Cond.laysFinal RX10 RX10 "manyLeast" "[I" ∈ wU := wU4 (List.mem_of_getElem? (i := 50) rfl) rfl
theorem wd_645 : Cond.laysFinal RX10 RX10 "sums" "[I" ∈ wU := wU4 (List.mem_of_getElem? (i := 52) rfl) rfl
theorem wd_646 : Cond.laysFinal RX10 RX10 "rows" "[I" ∈ wU := wU4 (List.mem_of_getElem? (i := 54) rfl) rfl
theorem wd_647 : Cond.laysFinal RX10 RX10 "isOn" "[Z" ∈ wU := wU4 (List.mem_of_getElem? (i := 56) rfl) rfl
theorem wd_648 : Cond.lays RX10 RX10 "at" "I" ∈ wU := wU4 (List.mem_of_getElem? (i := 58) rfl) rfl
theorem wd_649 : Cond.lays RX10 RX10 "columns" "I" ∈ wU := wU4 (List.mem_of_getElem? (i := 60) rfl) rfl
theorem wd_650 : Cond.lays RX10 RX10 "fault" "I" ∈ wU := wU4 (List.mem_of_getElem? (i := 62) rfl) rfl
theorem wd_651 : Cond.lays RX10 RX10 "faultAt" "I" ∈ wU := wU4 (List.mem_of_getElem? (i := 64) rfl) rfl
theorem wd_652 : Cond.lays RX10 RX10 "newEvents" "I" ∈ wU := wU4 (List.mem_of_getElem? (i := 66) rfl) rfl
theorem wd_653 : Cond.laysFinal RX10 RX10 "newMany" "[I" ∈ wU := wU4 (List.mem_of_getElem? (i := 68) rfl) rfl
theorem wd_654 : Cond.laysFinal RX10 RX10 "newPitches" "[I" ∈ wU := wU4 (List.mem_of_getElem? (i := 70) rfl) rfl
theorem wd_655 : Cond.laysFinal RX10 RX10 "newBounds" "[I" ∈ wU := wU4 (List.mem_of_getElem? (i := 72) rfl) rfl
theorem wd_656 : Cond.arrayClass .boolean ∈ wU := wU4 (List.mem_of_getElem? (i := 75) rfl) rfl
theorem wd_657 : Cond.methodLink RL 17 yX10_string ∈ wU := wU4 (List.mem_of_getElem? (i := 76) rfl) rfl
theorem wd_658 : Cond.instanceMethod yX10_string ∈ wU := wU4 (List.mem_of_getElem? (i := 77) rfl) rfl
theorem wd_659 : Cond.selects RX10 yX10_string yX10_string ∈ wU := wU4 (List.mem_of_getElem? (i := 78) rfl) rfl
theorem wd_660 : Cond.code yX10_string prog_12_method_6_code 2 (some .int) ∈ wU := wU4 (List.mem_of_getElem? (i := 79) rfl) rfl
theorem wd_661 : Cond.methodLink RX10 84 yX10_within ∈ wU := wU4 (List.mem_of_getElem? (i := 80) rfl) rfl
theorem wd_662 : Cond.static yX10_within ∈ wU := wU4 (List.mem_of_getElem? (i := 81) rfl) rfl
theorem wd_663 : Cond.code yX10_within prog_12_method_3_code 3 (some .boolean) ∈ wU := wU4 (List.mem_of_getElem? (i := 82) rfl) rfl
theorem wd_664 : Cond.methodLink RL 22 yX10_clear ∈ wU := wU4 (List.mem_of_getElem? (i := 83) rfl) rfl
theorem wd_665 : Cond.instanceMethod yX10_clear ∈ wU := wU4 (List.mem_of_getElem? (i := 84) rfl) rfl
theorem wd_666 : Cond.selects RX10 yX10_clear yX10_clear ∈ wU := wU4 (List.mem_of_getElem? (i := 85) rfl) rfl
theorem wd_667 : Cond.code yX10_clear prog_12_method_7_code 2 (some .int) ∈ wU := wU4 (List.mem_of_getElem? (i := 86) rfl) rfl
theorem wd_668 : Cond.methodLink RL 26 yX10_neck ∈ wU := wU4 (List.mem_of_getElem? (i := 87) rfl) rfl
theorem wd_669 : Cond.instanceMethod yX10_neck ∈ wU := wU4 (List.mem_of_getElem? (i := 88) rfl) rfl
theorem wd_670 : Cond.selects RX10 yX10_neck yX10_neck ∈ wU := wU4 (List.mem_of_getElem? (i := 89) rfl) rfl
theorem wd_671 : Cond.code yX10_neck prog_12_method_8_code 3 (some .int) ∈ wU := wU4 (List.mem_of_getElem? (i := 90) rfl) rfl
theorem wd_672 : Cond.methodLink RL 30 yX10_capo ∈ wU := wU4 (List.mem_of_getElem? (i := 91) rfl) rfl
theorem wd_673 : Cond.instanceMethod yX10_capo ∈ wU := wU4 (List.mem_of_getElem? (i := 92) rfl) rfl
theorem wd_674 : Cond.selects RX10 yX10_capo yX10_capo ∈ wU := wU4 (List.mem_of_getElem? (i := 93) rfl) rfl
theorem wd_675 : Cond.code yX10_capo prog_12_method_9_code 3 (some .int) ∈ wU := wU4 (List.mem_of_getElem? (i := 94) rfl) rfl
theorem wd_676 : Cond.methodLink RL 35 yX10_weight ∈ wU := wU4 (List.mem_of_getElem? (i := 95) rfl) rfl
theorem wd_677 : Cond.instanceMethod yX10_weight ∈ wU := wU4 (List.mem_of_getElem? (i := 96) rfl) rfl
theorem wd_678 : Cond.selects RX10 yX10_weight yX10_weight ∈ wU := wU4 (List.mem_of_getElem? (i := 97) rfl) rfl
theorem wd_679 : Cond.code yX10_weight prog_12_method_10_code 4 (some .int) ∈ wU := wU4 (List.mem_of_getElem? (i := 98) rfl) rfl
theorem wd_680 : Cond.methodLink RL 39 yX10_event ∈ wU := wU4 (List.mem_of_getElem? (i := 99) rfl) rfl
theorem wd_681 : Cond.instanceMethod yX10_event ∈ wU := wU4 (List.mem_of_getElem? (i := 100) rfl) rfl
theorem wd_682 : Cond.selects RX10 yX10_event yX10_event ∈ wU := wU4 (List.mem_of_getElem? (i := 101) rfl) rfl
theorem wd_683 : Cond.code yX10_event prog_12_method_11_code 2 (some .int) ∈ wU := wU4 (List.mem_of_getElem? (i := 102) rfl) rfl
theorem wd_684 : Cond.methodLink RL 43 yX10_pitch ∈ wU := wU4 (List.mem_of_getElem? (i := 103) rfl) rfl
theorem wd_685 : Cond.instanceMethod yX10_pitch ∈ wU := wU4 (List.mem_of_getElem? (i := 104) rfl) rfl
theorem wd_686 : Cond.selects RX10 yX10_pitch yX10_pitch ∈ wU := wU4 (List.mem_of_getElem? (i := 105) rfl) rfl
theorem wd_687 : Cond.code yX10_pitch prog_12_method_13_code 3 (some .int) ∈ wU := wU4 (List.mem_of_getElem? (i := 106) rfl) rfl
theorem wd_688 : Cond.methodLink RX10 95 yX10_hasPitch ∈ wU := wU4 (List.mem_of_getElem? (i := 107) rfl) rfl
theorem wd_689 : Cond.instanceMethod yX10_hasPitch ∈ wU := wU4 (List.mem_of_getElem? (i := 109) rfl) rfl
theorem wd_690 : Cond.code yX10_hasPitch prog_12_method_12_code 5 (some .boolean) ∈ wU := wU4 (List.mem_of_getElem? (i := 110) rfl) rfl
theorem wd_691 : Cond.methodLink RL 48 yX10_bind ∈ wU := wU4 (List.mem_of_getElem? (i := 111) rfl) rfl
theorem wd_692 : Cond.instanceMethod yX10_bind ∈ wU := wU4 (List.mem_of_getElem? (i := 112) rfl) rfl
theorem wd_693 : Cond.selects RX10 yX10_bind yX10_bind ∈ wU := wU4 (List.mem_of_getElem? (i := 113) rfl) rfl
theorem wd_694 : Cond.code yX10_bind prog_12_method_14_code 5 (some .int) ∈ wU := wU4 (List.mem_of_getElem? (i := 114) rfl) rfl
theorem wd_695 : Cond.methodLink RX10 99 yX10_isEvent ∈ wU := wU4 (List.mem_of_getElem? (i := 115) rfl) rfl
theorem wd_696 : Cond.instanceMethod yX10_isEvent ∈ wU := wU4 (List.mem_of_getElem? (i := 117) rfl) rfl
theorem wd_697 : Cond.code yX10_isEvent prog_12_method_4_code 2 (some .boolean) ∈ wU := wU4 (List.mem_of_getElem? (i := 118) rfl) rfl
theorem wd_698 : Cond.methodLink RX10 103 yX10_isString ∈ wU := wU4 (List.mem_of_getElem? (i := 119) rfl) rfl
theorem wd_699 : Cond.instanceMethod yX10_isString ∈ wU := wU4 (List.mem_of_getElem? (i := 121) rfl) rfl
theorem wd_700 : Cond.code yX10_isString prog_12_method_5_code 2 (some .boolean) ∈ wU := wU4 (List.mem_of_getElem? (i := 122) rfl) rfl
theorem wd_701 : Cond.methodLink RL 52 yX10_drop ∈ wU := wU4 (List.mem_of_getElem? (i := 123) rfl) rfl
theorem wd_702 : Cond.instanceMethod yX10_drop ∈ wU := wU4 (List.mem_of_getElem? (i := 124) rfl) rfl
theorem wd_703 : Cond.selects RX10 yX10_drop yX10_drop ∈ wU := wU4 (List.mem_of_getElem? (i := 125) rfl) rfl
theorem wd_704 : Cond.code yX10_drop prog_12_method_15_code 1 (some .int) ∈ wU := wU4 (List.mem_of_getElem? (i := 126) rfl) rfl
theorem wd_705 : Cond.methodLink RL 56 yX10_told ∈ wU := wU4 (List.mem_of_getElem? (i := 127) rfl) rfl
theorem wd_706 : Cond.instanceMethod yX10_told ∈ wU := wU4 (List.mem_of_getElem? (i := 128) rfl) rfl
theorem wd_707 : Cond.selects RX10 yX10_told yX10_told ∈ wU := wU4 (List.mem_of_getElem? (i := 129) rfl) rfl
theorem wd_708 : Cond.code yX10_told prog_12_method_16_code 2 (some .int) ∈ wU := wU4 (List.mem_of_getElem? (i := 130) rfl) rfl
theorem wd_709 : Cond.methodLink RL 60 yX10_at ∈ wU := wU4 (List.mem_of_getElem? (i := 131) rfl) rfl
theorem wd_710 : Cond.instanceMethod yX10_at ∈ wU := wU4 (List.mem_of_getElem? (i := 132) rfl) rfl
theorem wd_711 : Cond.selects RX10 yX10_at yX10_at ∈ wU := wU4 (List.mem_of_getElem? (i := 133) rfl) rfl
theorem wd_712 : Cond.code yX10_at prog_12_method_17_code 3 (some .int) ∈ wU := wU4 (List.mem_of_getElem? (i := 134) rfl) rfl
theorem wd_713 : Cond.methodLink RL 64 yX10_bound ∈ wU := wU4 (List.mem_of_getElem? (i := 135) rfl) rfl
theorem wd_714 : Cond.instanceMethod yX10_bound ∈ wU := wU4 (List.mem_of_getElem? (i := 136) rfl) rfl
theorem wd_715 : Cond.selects RX10 yX10_bound yX10_bound ∈ wU := wU4 (List.mem_of_getElem? (i := 137) rfl) rfl
theorem wd_716 : Cond.code yX10_bound prog_12_method_18_code 3 (some .int) ∈ wU := wU4 (List.mem_of_getElem? (i := 138) rfl) rfl
theorem wd_717 : Cond.methodLink RL 68 yX10_fret ∈ wU := wU4 (List.mem_of_getElem? (i := 139) rfl) rfl
theorem wd_718 : Cond.instanceMethod yX10_fret ∈ wU := wU4 (List.mem_of_getElem? (i := 140) rfl) rfl
theorem wd_719 : Cond.selects RX10 yX10_fret yX10_fret ∈ wU := wU4 (List.mem_of_getElem? (i := 141) rfl) rfl
theorem wd_720 : Cond.code yX10_fret prog_12_method_20_code 3 (some .int) ∈ wU := wU4 (List.mem_of_getElem? (i := 142) rfl) rfl
theorem wd_721 : Cond.methodLink RX10 109 yX10_fretOf ∈ wU := wU4 (List.mem_of_getElem? (i := 143) rfl) rfl
theorem wd_722 : Cond.instanceMethod yX10_fretOf ∈ wU := wU4 (List.mem_of_getElem? (i := 145) rfl) rfl
theorem wd_723 : Cond.code yX10_fretOf prog_12_method_19_code 5 (some .int) ∈ wU := wU4 (List.mem_of_getElem? (i := 146) rfl) rfl
theorem wd_724 : Cond.methodLink RL 72 yX10_grips ∈ wU := wU4 (List.mem_of_getElem? (i := 147) rfl) rfl
theorem wd_725 : Cond.instanceMethod yX10_grips ∈ wU := wU4 (List.mem_of_getElem? (i := 148) rfl) rfl
theorem wd_726 : Cond.selects RX10 yX10_grips yX10_grips ∈ wU := wU4 (List.mem_of_getElem? (i := 149) rfl) rfl
theorem wd_727 : Cond.code yX10_grips prog_12_method_24_code 5 (some .int) ∈ wU := wU4 (List.mem_of_getElem? (i := 150) rfl) rfl
theorem wd_728 : Cond.methodLink RX10 116 yX10_findWays ∈ wU := wU4 (List.mem_of_getElem? (i := 151) rfl) rfl
theorem wd_729 : Cond.instanceMethod yX10_findWays ∈ wU := wU4 (List.mem_of_getElem? (i := 153) rfl) rfl
theorem wd_730 : Cond.code yX10_findWays prog_12_method_21_code 12 none ∈ wU := wU4 (List.mem_of_getElem? (i := 154) rfl) rfl
theorem wd_731 : Cond.methodLink RX10 120 yX10_isGrip ∈ wU := wU4 (List.mem_of_getElem? (i := 155) rfl) rfl
theorem wd_732 : Cond.instanceMethod yX10_isGrip ∈ wU := wU4 (List.mem_of_getElem? (i := 157) rfl) rfl
theorem wd_733 : Cond.code yX10_isGrip prog_12_method_22_code 7 (some .boolean) ∈ wU := wU4 (List.mem_of_getElem? (i := 158) rfl) rfl
theorem wd_734 : Cond.methodLink RL 76 yX10_grip ∈ wU := wU4 (List.mem_of_getElem? (i := 159) rfl) rfl
theorem wd_735 : Cond.instanceMethod yX10_grip ∈ wU := wU4 (List.mem_of_getElem? (i := 160) rfl) rfl
theorem wd_736 : Cond.selects RX10 yX10_grip yX10_grip ∈ wU := wU4 (List.mem_of_getElem? (i := 161) rfl) rfl
theorem wd_737 : Cond.code yX10_grip prog_12_method_25_code 7 (some .int) ∈ wU := wU4 (List.mem_of_getElem? (i := 162) rfl) rfl
theorem wd_738 : Cond.methodLink RX10 123 yX10_told_ ∈ wU := wU4 (List.mem_of_getElem? (i := 163) rfl) rfl
theorem wd_739 : Cond.instanceMethod yX10_told_ ∈ wU := wU4 (List.mem_of_getElem? (i := 165) rfl) rfl
theorem wd_740 : Cond.code yX10_told_ prog_12_method_26_code 5 (some .int) ∈ wU := wU4 (List.mem_of_getElem? (i := 166) rfl) rfl
theorem wd_741 : Cond.methodLink RX10 127 yX10_costOf ∈ wU := wU4 (List.mem_of_getElem? (i := 167) rfl) rfl
theorem wd_742 : Cond.instanceMethod yX10_costOf ∈ wU := wU4 (List.mem_of_getElem? (i := 169) rfl) rfl
theorem wd_743 : Cond.code yX10_costOf prog_12_method_23_code 7 (some .int) ∈ wU := wU4 (List.mem_of_getElem? (i := 170) rfl) rfl
theorem wd_744 : Cond.methodLink RL 80 yX10_plan ∈ wU := wU4 (List.mem_of_getElem? (i := 171) rfl) rfl
theorem wd_745 : Cond.instanceMethod yX10_plan ∈ wU := wU4 (List.mem_of_getElem? (i := 172) rfl) rfl
theorem wd_746 : Cond.selects RX10 yX10_plan yX10_plan ∈ wU := wU4 (List.mem_of_getElem? (i := 173) rfl) rfl
theorem wd_747 : Cond.code yX10_plan prog_12_method_35_code 5 (some .int) ∈ wU := wU4 (List.mem_of_getElem? (i := 174) rfl) rfl
theorem wd_748 : Cond.methodLink RX10 152 yX10_findSums ∈ wU := wU4 (List.mem_of_getElem? (i := 175) rfl) rfl
theorem wd_749 : Cond.instanceMethod yX10_findSums ∈ wU := wU4 (List.mem_of_getElem? (i := 177) rfl) rfl
theorem wd_750 : Cond.code yX10_findSums prog_12_method_31_code 8 (some .int) ∈ wU := wU4 (List.mem_of_getElem? (i := 178) rfl) rfl
theorem wd_751 : Cond.methodLink RX10 139 yX10_findCosts ∈ wU := wU4 (List.mem_of_getElem? (i := 179) rfl) rfl
theorem wd_752 : Cond.instanceMethod yX10_findCosts ∈ wU := wU4 (List.mem_of_getElem? (i := 181) rfl) rfl
theorem wd_753 : Cond.code yX10_findCosts prog_12_method_28_code 7 none ∈ wU := wU4 (List.mem_of_getElem? (i := 182) rfl) rfl
theorem wd_754 : Cond.constant RX10 131 100000000 ∈ wU := wU4 (List.mem_of_getElem? (i := 183) rfl) rfl
theorem wd_755 : Cond.methodLink RX10 132 yX10_at_ ∈ wU := wU4 (List.mem_of_getElem? (i := 184) rfl) rfl
theorem wd_756 : Cond.static yX10_at_ ∈ wU := wU4 (List.mem_of_getElem? (i := 185) rfl) rfl
theorem wd_757 : Cond.code yX10_at_ prog_12_method_27_code 1 (some .int) ∈ wU := wU4 (List.mem_of_getElem? (i := 186) rfl) rfl
theorem wd_758 : Cond.methodLink RX10 142 yX10_move ∈ wU := wU4 (List.mem_of_getElem? (i := 187) rfl) rfl
theorem wd_759 : Cond.instanceMethod yX10_move ∈ wU := wU4 (List.mem_of_getElem? (i := 189) rfl) rfl
theorem wd_760 : Cond.code yX10_move prog_12_method_29_code 3 (some .int) ∈ wU := wU4 (List.mem_of_getElem? (i := 190) rfl) rfl
theorem wd_761 : Cond.methodLink RX10 145 yX10_few ∈ wU := wU4 (List.mem_of_getElem? (i := 191) rfl) rfl
theorem wd_762 : Cond.static yX10_few ∈ wU := wU4 (List.mem_of_getElem? (i := 192) rfl) rfl
theorem wd_763 : Cond.code yX10_few prog_12_method_30_code 2 (some .int) ∈ wU := wU4 (List.mem_of_getElem? (i := 193) rfl) rfl
theorem wd_764 : Cond.constantLong RX10 136 999999 ∈ wU := wU4 (List.mem_of_getElem? (i := 194) rfl) rfl
theorem wd_765 : Cond.constant RX10 138 999999 ∈ wU := wU4 (List.mem_of_getElem? (i := 195) rfl) rfl
theorem wd_766 : Cond.methodLink RX10 156 yX10_markBack ∈ wU := wU4 (List.mem_of_getElem? (i := 196) rfl) rfl
theorem wd_767 : Cond.instanceMethod yX10_markBack ∈ wU := wU4 (List.mem_of_getElem? (i := 198) rfl) rfl
theorem wd_768 : Cond.code yX10_markBack prog_12_method_33_code 6 none ∈ wU := wU4 (List.mem_of_getElem? (i := 199) rfl) rfl
theorem wd_769 : Cond.methodLink RX10 149 yX10_goesOn ∈ wU := wU4 (List.mem_of_getElem? (i := 200) rfl) rfl
theorem wd_770 : Cond.instanceMethod yX10_goesOn ∈ wU := wU4 (List.mem_of_getElem? (i := 202) rfl) rfl
theorem wd_771 : Cond.code yX10_goesOn prog_12_method_32_code 4 (some .boolean) ∈ wU := wU4 (List.mem_of_getElem? (i := 203) rfl) rfl
theorem wd_772 : Cond.methodLink RX10 159 yX10_takes ∈ wU := wU4 (List.mem_of_getElem? (i := 204) rfl) rfl
theorem wd_773 : Cond.instanceMethod yX10_takes ∈ wU := wU4 (List.mem_of_getElem? (i := 206) rfl) rfl
theorem wd_774 : Cond.code yX10_takes prog_12_method_34_code 8 none ∈ wU := wU4 (List.mem_of_getElem? (i := 207) rfl) rfl
theorem wd_775 : Cond.methodLink RL 84 yX10_planned ∈ wU := wU4 (List.mem_of_getElem? (i := 208) rfl) rfl
theorem wd_776 : Cond.instanceMethod yX10_planned ∈ wU := wU4 (List.mem_of_getElem? (i := 209) rfl) rfl
theorem wd_777 : Cond.selects RX10 yX10_planned yX10_planned ∈ wU := wU4 (List.mem_of_getElem? (i := 210) rfl) rfl
theorem wd_778 : Cond.code yX10_planned prog_12_method_36_code 3 (some .int) ∈ wU := wU4 (List.mem_of_getElem? (i := 211) rfl) rfl
theorem wd_779 : Cond.methodLink RL 88 yX10_ties ∈ wU := wU4 (List.mem_of_getElem? (i := 212) rfl) rfl
theorem wd_780 : Cond.instanceMethod yX10_ties ∈ wU := wU4 (List.mem_of_getElem? (i := 213) rfl) rfl
theorem wd_781 : Cond.selects RX10 yX10_ties yX10_ties ∈ wU := wU4 (List.mem_of_getElem? (i := 214) rfl) rfl
theorem wd_782 : Cond.code yX10_ties prog_12_method_37_code 5 (some .int) ∈ wU := wU4 (List.mem_of_getElem? (i := 215) rfl) rfl
theorem wd_783 : Cond.methodLink RL 92 yX10_sign ∈ wU := wU4 (List.mem_of_getElem? (i := 216) rfl) rfl
theorem wd_784 : Cond.instanceMethod yX10_sign ∈ wU := wU4 (List.mem_of_getElem? (i := 217) rfl) rfl
theorem wd_785 : Cond.selects RX10 yX10_sign yX10_sign ∈ wU := wU4 (List.mem_of_getElem? (i := 218) rfl) rfl
theorem wd_786 : Cond.code yX10_sign prog_12_method_38_code 2 (some .int) ∈ wU := wU4 (List.mem_of_getElem? (i := 219) rfl) rfl
theorem wd_787 : Cond.methodLink RX10 163 yX10_put ∈ wU := wU4 (List.mem_of_getElem? (i := 220) rfl) rfl
theorem wd_788 : Cond.instanceMethod yX10_put ∈ wU := wU4 (List.mem_of_getElem? (i := 222) rfl) rfl
theorem wd_789 : Cond.code yX10_put prog_12_method_39_code 2 none ∈ wU := wU4 (List.mem_of_getElem? (i := 223) rfl) rfl
theorem wd_790 : Cond.methodLink RL 96 yX10_tape ∈ wU := wU4 (List.mem_of_getElem? (i := 224) rfl) rfl
theorem wd_791 : Cond.instanceMethod yX10_tape ∈ wU := wU4 (List.mem_of_getElem? (i := 225) rfl) rfl
theorem wd_792 : Cond.selects RX10 yX10_tape yX10_tape ∈ wU := wU4 (List.mem_of_getElem? (i := 226) rfl) rfl
theorem wd_793 : Cond.code yX10_tape prog_12_method_40_code 2 (some .int) ∈ wU := wU4 (List.mem_of_getElem? (i := 227) rfl) rfl
theorem wd_794 : Cond.methodLink RL 100 yX10_empty ∈ wU := wU4 (List.mem_of_getElem? (i := 228) rfl) rfl
theorem wd_795 : Cond.instanceMethod yX10_empty ∈ wU := wU4 (List.mem_of_getElem? (i := 229) rfl) rfl
theorem wd_796 : Cond.selects RX10 yX10_empty yX10_empty ∈ wU := wU4 (List.mem_of_getElem? (i := 230) rfl) rfl
theorem wd_797 : Cond.code yX10_empty prog_12_method_41_code 2 (some .int) ∈ wU := wU4 (List.mem_of_getElem? (i := 231) rfl) rfl
theorem wd_798 : Cond.methodLink RL 104 yX10_write ∈ wU := wU4 (List.mem_of_getElem? (i := 232) rfl) rfl
theorem wd_799 : Cond.instanceMethod yX10_write ∈ wU := wU4 (List.mem_of_getElem? (i := 233) rfl) rfl
theorem wd_800 : Cond.selects RX10 yX10_write yX10_write ∈ wU := wU4 (List.mem_of_getElem? (i := 234) rfl) rfl
theorem wd_801 : Cond.code yX10_write prog_12_method_43_code 6 (some .int) ∈ wU := wU4 (List.mem_of_getElem? (i := 235) rfl) rfl
theorem wd_802 : Cond.methodLink RX10 166 yX10_numberOn ∈ wU := wU4 (List.mem_of_getElem? (i := 236) rfl) rfl
theorem wd_803 : Cond.instanceMethod yX10_numberOn ∈ wU := wU4 (List.mem_of_getElem? (i := 238) rfl) rfl
theorem wd_804 : Cond.code yX10_numberOn prog_12_method_42_code 4 (some .int) ∈ wU := wU4 (List.mem_of_getElem? (i := 239) rfl) rfl
theorem wd_805 : Cond.methodLink RL 108 yX10_read ∈ wU := wU5 (List.mem_of_getElem? (i := 0) rfl) rfl
theorem wd_806 : Cond.instanceMethod yX10_read ∈ wU := wU5 (List.mem_of_getElem? (i := 1) rfl) rfl
theorem wd_807 : Cond.selects RX10 yX10_read yX10_read ∈ wU := wU5 (List.mem_of_getElem? (i := 2) rfl) rfl
theorem wd_808 : Cond.code yX10_read prog_12_method_56_code 3 (some .int) ∈ wU := wU5 (List.mem_of_getElem? (i := 3) rfl) rfl
theorem wd_809 : Cond.methodLink RX10 211 yX10_readLines ∈ wU := wU5 (List.mem_of_getElem? (i := 4) rfl) rfl
theorem wd_810 : Cond.instanceMethod yX10_readLines ∈ wU := wU5 (List.mem_of_getElem? (i := 6) rfl) rfl
theorem wd_811 : Cond.code yX10_readLines prog_12_method_48_code 3 none ∈ wU := wU5 (List.mem_of_getElem? (i := 7) rfl) rfl
theorem wd_812 : Cond.methodLink RX10 183 yX10_look ∈ wU := wU5 (List.mem_of_getElem? (i := 8) rfl) rfl
theorem wd_813 : Cond.instanceMethod yX10_look ∈ wU := wU5 (List.mem_of_getElem? (i := 10) rfl) rfl
theorem wd_814 : Cond.code yX10_look prog_12_method_44_code 1 (some .int) ∈ wU := wU5 (List.mem_of_getElem? (i := 11) rfl) rfl
theorem wd_815 : Cond.methodLink RX10 186 yX10_wants ∈ wU := wU5 (List.mem_of_getElem? (i := 12) rfl) rfl
theorem wd_816 : Cond.instanceMethod yX10_wants ∈ wU := wU5 (List.mem_of_getElem? (i := 14) rfl) rfl
theorem wd_817 : Cond.code yX10_wants prog_12_method_47_code 2 none ∈ wU := wU5 (List.mem_of_getElem? (i := 15) rfl) rfl
theorem wd_818 : Cond.methodLink RX10 177 yX10_faults ∈ wU := wU5 (List.mem_of_getElem? (i := 16) rfl) rfl
theorem wd_819 : Cond.instanceMethod yX10_faults ∈ wU := wU5 (List.mem_of_getElem? (i := 18) rfl) rfl
theorem wd_820 : Cond.code yX10_faults prog_12_method_46_code 3 none ∈ wU := wU5 (List.mem_of_getElem? (i := 19) rfl) rfl
theorem wd_821 : Cond.methodLink RX10 190 yX10_isFigure ∈ wU := wU5 (List.mem_of_getElem? (i := 20) rfl) rfl
theorem wd_822 : Cond.static yX10_isFigure ∈ wU := wU5 (List.mem_of_getElem? (i := 21) rfl) rfl
theorem wd_823 : Cond.code yX10_isFigure prog_12_method_45_code 1 (some .boolean) ∈ wU := wU5 (List.mem_of_getElem? (i := 22) rfl) rfl
theorem wd_824 : Cond.methodLink RX10 214 yX10_lookNumbers ∈ wU := wU5 (List.mem_of_getElem? (i := 23) rfl) rfl
theorem wd_825 : Cond.instanceMethod yX10_lookNumbers ∈ wU := wU5 (List.mem_of_getElem? (i := 25) rfl) rfl
theorem wd_826 : Cond.code yX10_lookNumbers prog_12_method_54_code 6 none ∈ wU := wU5 (List.mem_of_getElem? (i := 26) rfl) rfl
theorem wd_827 : Cond.methodLink RX10 202 yX10_begins ∈ wU := wU5 (List.mem_of_getElem? (i := 27) rfl) rfl
theorem wd_828 : Cond.instanceMethod yX10_begins ∈ wU := wU5 (List.mem_of_getElem? (i := 29) rfl) rfl
theorem wd_829 : Cond.code yX10_begins prog_12_method_51_code 3 (some .boolean) ∈ wU := wU5 (List.mem_of_getElem? (i := 30) rfl) rfl
theorem wd_830 : Cond.methodLink RX10 196 yX10_isFigureAt ∈ wU := wU5 (List.mem_of_getElem? (i := 31) rfl) rfl
theorem wd_831 : Cond.instanceMethod yX10_isFigureAt ∈ wU := wU5 (List.mem_of_getElem? (i := 33) rfl) rfl
theorem wd_832 : Cond.code yX10_isFigureAt prog_12_method_50_code 3 (some .boolean) ∈ wU := wU5 (List.mem_of_getElem? (i := 34) rfl) rfl
theorem wd_833 : Cond.methodLink RX10 193 yX10_placeOf ∈ wU := wU5 (List.mem_of_getElem? (i := 35) rfl) rfl
theorem wd_834 : Cond.instanceMethod yX10_placeOf ∈ wU := wU5 (List.mem_of_getElem? (i := 37) rfl) rfl
theorem wd_835 : Cond.code yX10_placeOf prog_12_method_49_code 3 (some .int) ∈ wU := wU5 (List.mem_of_getElem? (i := 38) rfl) rfl
theorem wd_836 : Cond.methodLink RX10 199 yX10_lengthAt ∈ wU := wU5 (List.mem_of_getElem? (i := 39) rfl) rfl
theorem wd_837 : Cond.instanceMethod yX10_lengthAt ∈ wU := wU5 (List.mem_of_getElem? (i := 41) rfl) rfl
theorem wd_838 : Cond.code yX10_lengthAt prog_12_method_52_code 4 (some .int) ∈ wU := wU5 (List.mem_of_getElem? (i := 42) rfl) rfl
theorem wd_839 : Cond.methodLink RX10 205 yX10_valueAt ∈ wU := wU5 (List.mem_of_getElem? (i := 43) rfl) rfl
theorem wd_840 : Cond.instanceMethod yX10_valueAt ∈ wU := wU5 (List.mem_of_getElem? (i := 45) rfl) rfl
theorem wd_841 : Cond.code yX10_valueAt prog_12_method_53_code 4 (some .int) ∈ wU := wU5 (List.mem_of_getElem? (i := 46) rfl) rfl
theorem wd_842 : Cond.methodLink RX10 217 yX10_lookEvents ∈ wU := wU5 (List.mem_of_getElem? (i := 47) rfl) rfl
theorem wd_843 : Cond.instanceMethod yX10_lookEvents ∈ wU := wU5 (List.mem_of_getElem? (i := 49) rfl) rfl
theorem wd_844 : Cond.code yX10_lookEvents prog_12_method_55_code 9 none ∈ wU := wU5 (List.mem_of_getElem? (i := 50) rfl) rfl
theorem wd_845 : Cond.methodLink RL 112 yX10_place ∈ wU := wU5 (List.mem_of_getElem? (i := 51) rfl) rfl
theorem wd_846 : Cond.instanceMethod yX10_place ∈ wU := wU5 (List.mem_of_getElem? (i := 52) rfl) rfl
theorem wd_847 : Cond.selects RX10 yX10_place yX10_place ∈ wU := wU5 (List.mem_of_getElem? (i := 53) rfl) rfl
theorem wd_848 : Cond.code yX10_place prog_12_method_57_code 1 (some .int) ∈ wU := wU5 (List.mem_of_getElem? (i := 54) rfl) rfl
theorem wd_849 : Cond.selects RX0 yX0_goThrough yX0_goThrough ∈ wU := wUs (List.mem_of_getElem? (i := 0) rfl) rfl
theorem wd_850 : Cond.selects RX0 yX0_layFrom yX0_layFrom ∈ wU := wUs (List.mem_of_getElem? (i := 1) rfl) rfl
theorem wd_851 : Cond.selects RX0 yX0_tellPositions yX0_tellPositions ∈ wU := wUs (List.mem_of_getElem? (i := 2) rfl) rfl
theorem wd_852 : Cond.selects RX0 yX0_pitchesAt yX0_pitchesAt ∈ wU := wUs (List.mem_of_getElem? (i := 3) rfl) rfl
theorem wd_853 : Cond.selects RX0 yX0_tell yX0_tell ∈ wU := wUs (List.mem_of_getElem? (i := 4) rfl) rfl
theorem wd_854 : Cond.selects RX9 yX9_partOf yX9_partOf ∈ wU := wUs (List.mem_of_getElem? (i := 5) rfl) rfl
theorem wd_855 : Cond.selects RX3 yX3_fillCell yX3_fillCell ∈ wU := wUs (List.mem_of_getElem? (i := 6) rfl) rfl
theorem wd_856 : Cond.selects RX3 yX3_weighRest yX3_weighRest ∈ wU := wUs (List.mem_of_getElem? (i := 7) rfl) rfl
theorem wd_857 : Cond.selects RX3 yX3_sumFrom yX3_sumFrom ∈ wU := wUs (List.mem_of_getElem? (i := 8) rfl) rfl
theorem wd_858 : Cond.selects RX3 yX3_waysAt yX3_waysAt ∈ wU := wUs (List.mem_of_getElem? (i := 9) rfl) rfl
theorem wd_859 : Cond.selects RX3 yX3_firstBest yX3_firstBest ∈ wU := wUs (List.mem_of_getElem? (i := 10) rfl) rfl
theorem wd_860 : Cond.selects RX6 yX6_longestNumber yX6_longestNumber ∈ wU := wUs (List.mem_of_getElem? (i := 11) rfl) rfl
theorem wd_861 : Cond.selects RX6 yX6_fretsBehindCapo yX6_fretsBehindCapo ∈ wU := wUs (List.mem_of_getElem? (i := 12) rfl) rfl
theorem wd_862 : Cond.selects RX6 yX6_writeLine yX6_writeLine ∈ wU := wUs (List.mem_of_getElem? (i := 13) rfl) rfl
theorem wd_863 : Cond.selects RX6 yX6_writeNumber yX6_writeNumber ∈ wU := wUs (List.mem_of_getElem? (i := 14) rfl) rfl
theorem wd_864 : Cond.selects RX5 yX5_wrongSign yX5_wrongSign ∈ wU := wUs (List.mem_of_getElem? (i := 15) rfl) rfl
theorem wd_865 : Cond.selects RX5 yX5_measureFirstLine yX5_measureFirstLine ∈ wU := wUs (List.mem_of_getElem? (i := 16) rfl) rfl
theorem wd_866 : Cond.selects RX5 yX5_signIn yX5_signIn ∈ wU := wUs (List.mem_of_getElem? (i := 17) rfl) rfl
theorem wd_867 : Cond.selects RX5 yX5_placeOf yX5_placeOf ∈ wU := wUs (List.mem_of_getElem? (i := 18) rfl) rfl
theorem wd_868 : Cond.selects RX5 yX5_fitsColumn yX5_fitsColumn ∈ wU := wUs (List.mem_of_getElem? (i := 19) rfl) rfl
theorem wd_869 : Cond.selects RX5 yX5_wrongNumber yX5_wrongNumber ∈ wU := wUs (List.mem_of_getElem? (i := 20) rfl) rfl
theorem wd_870 : Cond.selects RX5 yX5_beginsNumber yX5_beginsNumber ∈ wU := wUs (List.mem_of_getElem? (i := 21) rfl) rfl
theorem wd_871 : Cond.selects RX5 yX5_isFretNumber yX5_isFretNumber ∈ wU := wUs (List.mem_of_getElem? (i := 22) rfl) rfl
theorem wd_872 : Cond.selects RX5 yX5_numberIn yX5_numberIn ∈ wU := wUs (List.mem_of_getElem? (i := 23) rfl) rfl
theorem wd_873 : Cond.selects RX5 yX5_shiftedNumber yX5_shiftedNumber ∈ wU := wUs (List.mem_of_getElem? (i := 24) rfl) rfl
theorem wd_874 : Cond.selects RX5 yX5_hasSecondDigit yX5_hasSecondDigit ∈ wU := wUs (List.mem_of_getElem? (i := 25) rfl) rfl
theorem wd_875 : Cond.selects RX5 yX5_wrongEvent yX5_wrongEvent ∈ wU := wUs (List.mem_of_getElem? (i := 26) rfl) rfl
theorem wd_876 : Cond.selects RX5 yX5_loadColumn yX5_loadColumn ∈ wU := wUs (List.mem_of_getElem? (i := 27) rfl) rfl
theorem wd_877 : Cond.selects RX5 yX5_countPitches yX5_countPitches ∈ wU := wUs (List.mem_of_getElem? (i := 28) rfl) rfl
theorem wd_878 : Cond.selects RX5 yX5_hasPitchTwice yX5_hasPitchTwice ∈ wU := wUs (List.mem_of_getElem? (i := 29) rfl) rfl
theorem wd_879 : Cond.selects RX5 yX5_lowestString yX5_lowestString ∈ wU := wUs (List.mem_of_getElem? (i := 30) rfl) rfl
theorem wd_880 : Cond.selects RX5 yX5_surplusEvent yX5_surplusEvent ∈ wU := wUs (List.mem_of_getElem? (i := 31) rfl) rfl
theorem wd_881 : Cond.selects RX5 yX5_takePitches yX5_takePitches ∈ wU := wUs (List.mem_of_getElem? (i := 32) rfl) rfl
theorem wd_882 : Cond.selects RX10 yX10_hasPitch yX10_hasPitch ∈ wU := wUs (List.mem_of_getElem? (i := 33) rfl) rfl
theorem wd_883 : Cond.selects RX10 yX10_isEvent yX10_isEvent ∈ wU := wUs (List.mem_of_getElem? (i := 34) rfl) rfl
theorem wd_884 : Cond.selects RX10 yX10_isString yX10_isString ∈ wU := wUs (List.mem_of_getElem? (i := 35) rfl) rfl
theorem wd_885 : Cond.selects RX10 yX10_fretOf yX10_fretOf ∈ wU := wUs (List.mem_of_getElem? (i := 36) rfl) rfl
theorem wd_886 : Cond.selects RX10 yX10_findWays yX10_findWays ∈ wU := wUs (List.mem_of_getElem? (i := 37) rfl) rfl
theorem wd_887 : Cond.selects RX10 yX10_isGrip yX10_isGrip ∈ wU := wUs (List.mem_of_getElem? (i := 38) rfl) rfl
theorem wd_888 : Cond.selects RX10 yX10_told_ yX10_told_ ∈ wU := wUs (List.mem_of_getElem? (i := 39) rfl) rfl
theorem wd_889 : Cond.selects RX10 yX10_costOf yX10_costOf ∈ wU := wUs (List.mem_of_getElem? (i := 40) rfl) rfl
theorem wd_890 : Cond.selects RX10 yX10_findSums yX10_findSums ∈ wU := wUs (List.mem_of_getElem? (i := 41) rfl) rfl
theorem wd_891 : Cond.selects RX10 yX10_findCosts yX10_findCosts ∈ wU := wUs (List.mem_of_getElem? (i := 42) rfl) rfl
theorem wd_892 : Cond.selects RX10 yX10_move yX10_move ∈ wU := wUs (List.mem_of_getElem? (i := 43) rfl) rfl
theorem wd_893 : Cond.selects RX10 yX10_markBack yX10_markBack ∈ wU := wUs (List.mem_of_getElem? (i := 44) rfl) rfl
theorem wd_894 : Cond.selects RX10 yX10_goesOn yX10_goesOn ∈ wU := wUs (List.mem_of_getElem? (i := 45) rfl) rfl
theorem wd_895 : Cond.selects RX10 yX10_takes yX10_takes ∈ wU := wUs (List.mem_of_getElem? (i := 46) rfl) rfl
theorem wd_896 : Cond.selects RX10 yX10_put yX10_put ∈ wU := wUs (List.mem_of_getElem? (i := 47) rfl) rfl
theorem wd_897 : Cond.selects RX10 yX10_numberOn yX10_numberOn ∈ wU := wUs (List.mem_of_getElem? (i := 48) rfl) rfl
theorem wd_898 : Cond.selects RX10 yX10_readLines yX10_readLines ∈ wU := wUs (List.mem_of_getElem? (i := 49) rfl) rfl
theorem wd_899 : Cond.selects RX10 yX10_look yX10_look ∈ wU := wUs (List.mem_of_getElem? (i := 50) rfl) rfl
theorem wd_900 : Cond.selects RX10 yX10_wants yX10_wants ∈ wU := wUs (List.mem_of_getElem? (i := 51) rfl) rfl
theorem wd_901 : Cond.selects RX10 yX10_faults yX10_faults ∈ wU := wUs (List.mem_of_getElem? (i := 52) rfl) rfl
theorem wd_902 : Cond.selects RX10 yX10_lookNumbers yX10_lookNumbers ∈ wU := wUs (List.mem_of_getElem? (i := 53) rfl) rfl
theorem wd_903 : Cond.selects RX10 yX10_begins yX10_begins ∈ wU := wUs (List.mem_of_getElem? (i := 54) rfl) rfl
theorem wd_904 : Cond.selects RX10 yX10_isFigureAt yX10_isFigureAt ∈ wU := wUs (List.mem_of_getElem? (i := 55) rfl) rfl
theorem wd_905 : Cond.selects RX10 yX10_placeOf yX10_placeOf ∈ wU := wUs (List.mem_of_getElem? (i := 56) rfl) rfl
theorem wd_906 : Cond.selects RX10 yX10_lengthAt yX10_lengthAt ∈ wU := wUs (List.mem_of_getElem? (i := 57) rfl) rfl
theorem wd_907 : Cond.selects RX10 yX10_valueAt yX10_valueAt ∈ wU := wUs (List.mem_of_getElem? (i := 58) rfl) rfl
theorem wd_908 : Cond.selects RX10 yX10_lookEvents yX10_lookEvents ∈ wU := wUs (List.mem_of_getElem? (i := 59) rfl) rfl
theorem ulX0 : ∀ k, k < 16 → u_lay RX0 TX0 k ∈ wU := fun k hk => match k, hk with
  | 0, _ => wd_115
  | 1, _ => wd_116
  | 2, _ => wd_117
  | 3, _ => wd_118
  | 4, _ => wd_119
  | 5, _ => wd_120
  | 6, _ => wd_121
  | 7, _ => wd_122
  | 8, _ => wd_123
  | 9, _ => wd_124
  | 10, _ => wd_125
  | 11, _ => wd_126
  | 12, _ => wd_127
  | 13, _ => wd_128
  | 14, _ => wd_129
  | 15, _ => wd_130
  | n + 16, h => absurd h (by omega)
theorem inX0 : ∀ w ∈ u_ws RX0 TX0 16, w ∈ wU := fun w h => by
  obtain ⟨k, hk, rfl⟩ := List.mem_map.mp h
  exact ulX0 k (List.mem_range.mp hk)
theorem ulX1 : ∀ k, k < 4 → u_lay RX1 TX1 k ∈ wU := fun k hk => match k, hk with
  | 0, _ => wd_43
  | 1, _ => wd_44
  | 2, _ => wd_45
  | 3, _ => wd_46
  | n + 4, h => absurd h (by omega)
theorem inX1 : ∀ w ∈ u_ws RX1 TX1 4, w ∈ wU := fun w h => by
  obtain ⟨k, hk, rfl⟩ := List.mem_map.mp h
  exact ulX1 k (List.mem_range.mp hk)
theorem ulX2 : ∀ k, k < 5 → u_lay RX2 TX2 k ∈ wU := fun k hk => match k, hk with
  | 0, _ => wd_80
  | 1, _ => wd_81
  | 2, _ => wd_82
  | 3, _ => wd_83
  | 4, _ => wd_84
  | n + 5, h => absurd h (by omega)
theorem inX2 : ∀ w ∈ u_ws RX2 TX2 5, w ∈ wU := fun w h => by
  obtain ⟨k, hk, rfl⟩ := List.mem_map.mp h
  exact ulX2 k (List.mem_range.mp hk)
theorem ulX3 : ∀ k, k < 8 → u_lay RX3 TX3 k ∈ wU := fun k hk => match k, hk with
  | 0, _ => wd_147
  | 1, _ => wd_148
  | 2, _ => wd_149
  | 3, _ => wd_150
  | 4, _ => wd_151
  | 5, _ => wd_152
  | 6, _ => wd_153
  | 7, _ => wd_154
  | n + 8, h => absurd h (by omega)
theorem inX3 : ∀ w ∈ u_ws RX3 TX3 8, w ∈ wU := fun w h => by
  obtain ⟨k, hk, rfl⟩ := List.mem_map.mp h
  exact ulX3 k (List.mem_range.mp hk)
theorem ulX5 : ∀ k, k < 6 → u_lay RX5 TX5 k ∈ wU := fun k hk => match k, hk with
  | 0, _ => wd_196
  | 1, _ => wd_197
  | 2, _ => wd_198
  | 3, _ => wd_199
  | 4, _ => wd_200
  | 5, _ => wd_201
  | n + 6, h => absurd h (by omega)
theorem inX5 : ∀ w ∈ u_ws RX5 TX5 6, w ∈ wU := fun w h => by
  obtain ⟨k, hk, rfl⟩ := List.mem_map.mp h
  exact ulX5 k (List.mem_range.mp hk)
theorem ulX6 : ∀ k, k < 5 → u_lay RX6 TX6 k ∈ wU := fun k hk => match k, hk with
  | 0, _ => wd_178
  | 1, _ => wd_179
  | 2, _ => wd_180
  | 3, _ => wd_181
  | 4, _ => wd_182
  | n + 5, h => absurd h (by omega)
theorem inX6 : ∀ w ∈ u_ws RX6 TX6 5, w ∈ wU := fun w h => by
  obtain ⟨k, hk, rfl⟩ := List.mem_map.mp h
  exact ulX6 k (List.mem_range.mp hk)
theorem ulX7 : ∀ k, k < 2 → u_lay RX7 TX7 k ∈ wU := fun k hk => match k, hk with
  | 0, _ => wd_165
  | 1, _ => wd_166
  | n + 2, h => absurd h (by omega)
theorem inX7 : ∀ w ∈ u_ws RX7 TX7 2, w ∈ wU := fun w h => by
  obtain ⟨k, hk, rfl⟩ := List.mem_map.mp h
  exact ulX7 k (List.mem_range.mp hk)
theorem ulX8 : ∀ k, k < 4 → u_lay RX8 TX8 k ∈ wU := fun k hk => match k, hk with
  | 0, _ => wd_61
  | 1, _ => wd_62
  | 2, _ => wd_63
  | 3, _ => wd_64
  | n + 4, h => absurd h (by omega)
theorem inX8 : ∀ w ∈ u_ws RX8 TX8 4, w ∈ wU := fun w h => by
  obtain ⟨k, hk, rfl⟩ := List.mem_map.mp h
  exact ulX8 k (List.mem_range.mp hk)
theorem ulX9 : ∀ k, k < 9 → u_lay RX9 TX9 k ∈ wU := fun k hk => match k, hk with
  | 0, _ => wd_211
  | 1, _ => wd_212
  | 2, _ => wd_213
  | 3, _ => wd_214
  | 4, _ => wd_215
  | 5, _ => wd_216
  | 6, _ => wd_217
  | 7, _ => wd_218
  | 8, _ => wd_219
  | n + 9, h => absurd h (by omega)
theorem inX9 : ∀ w ∈ u_ws RX9 TX9 9, w ∈ wU := fun w h => by
  obtain ⟨k, hk, rfl⟩ := List.mem_map.mp h
  exact ulX9 k (List.mem_range.mp hk)
theorem ulX10 : ∀ k, k < 33 → u_lay RX10 TX10 k ∈ wU := fun k hk => match k, hk with
  | 0, _ => wd_623
  | 1, _ => wd_624
  | 2, _ => wd_625
  | 3, _ => wd_626
  | 4, _ => wd_627
  | 5, _ => wd_628
  | 6, _ => wd_629
  | 7, _ => wd_630
  | 8, _ => wd_631
  | 9, _ => wd_632
  | 10, _ => wd_633
  | 11, _ => wd_634
  | 12, _ => wd_635
  | 13, _ => wd_636
  | 14, _ => wd_637
  | 15, _ => wd_638
  | 16, _ => wd_639
  | 17, _ => wd_640
  | 18, _ => wd_641
  | 19, _ => wd_642
  | 20, _ => wd_643
  | 21, _ => wd_644
  | 22, _ => wd_645
  | 23, _ => wd_646
  | 24, _ => wd_647
  | 25, _ => wd_648
  | 26, _ => wd_649
  | 27, _ => wd_650
  | 28, _ => wd_651
  | 29, _ => wd_652
  | 30, _ => wd_653
  | 31, _ => wd_654
  | 32, _ => wd_655
  | n + 33, h => absurd h (by omega)
theorem inX10 : ∀ w ∈ u_ws RX10 TX10 33, w ∈ wU := fun w h => by
  obtain ⟨k, hk, rfl⟩ := List.mem_map.mp h
  exact ulX10 k (List.mem_range.mp hk)
end
section
theorem dX0_init_0 : decode cX0_init 0 = .ok (.aload_n 0, 1) := by decide +kernel
theorem dX0_init_1 : decode cX0_init 1 = .ok (.invokespecial 3, 3) := by decide +kernel
theorem dX0_init_4 : decode cX0_init 4 = .ok (.aload_n 0, 1) := by decide +kernel
theorem dX0_init_5 : decode cX0_init 5 = .ok (.bipush 25, 2) := by decide +kernel
theorem dX0_init_7 : decode cX0_init 7 = .ok (.newarray .int, 2) := by decide +kernel
theorem dX0_init_9 : decode cX0_init 9 = .ok (.putfield 9, 3) := by decide +kernel
theorem dX0_init_12 : decode cX0_init 12 = .ok (.aload_n 0, 1) := by decide +kernel
theorem dX0_init_13 : decode cX0_init 13 = .ok (.bipush 25, 2) := by decide +kernel
theorem dX0_init_15 : decode cX0_init 15 = .ok (.newarray .int, 2) := by decide +kernel
theorem dX0_init_17 : decode cX0_init 17 = .ok (.putfield 15, 3) := by decide +kernel
theorem dX0_init_20 : decode cX0_init 20 = .ok (.aload_n 0, 1) := by decide +kernel
theorem dX0_init_21 : decode cX0_init 21 = .ok (.bipush 25, 2) := by decide +kernel
theorem dX0_init_23 : decode cX0_init 23 = .ok (.newarray .int, 2) := by decide +kernel
theorem dX0_init_25 : decode cX0_init 25 = .ok (.putfield 18, 3) := by decide +kernel
theorem dX0_init_28 : decode cX0_init 28 = .ok (.aload_n 0, 1) := by decide +kernel
theorem dX0_init_29 : decode cX0_init 29 = .ok (.bipush 25, 2) := by decide +kernel
theorem dX0_init_31 : decode cX0_init 31 = .ok (.newarray .int, 2) := by decide +kernel
theorem dX0_init_33 : decode cX0_init 33 = .ok (.putfield 21, 3) := by decide +kernel
theorem dX0_init_36 : decode cX0_init 36 = .ok (.aload_n 0, 1) := by decide +kernel
theorem dX0_init_37 : decode cX0_init 37 = .ok (.bipush 25, 2) := by decide +kernel
theorem dX0_init_39 : decode cX0_init 39 = .ok (.newarray .int, 2) := by decide +kernel
theorem dX0_init_41 : decode cX0_init 41 = .ok (.putfield 24, 3) := by decide +kernel
theorem dX0_init_44 : decode cX0_init 44 = .ok (.aload_n 0, 1) := by decide +kernel
theorem dX0_init_45 : decode cX0_init 45 = .ok (.iconst 4, 1) := by decide +kernel
theorem dX0_init_46 : decode cX0_init 46 = .ok (.newarray .int, 2) := by decide +kernel
theorem dX0_init_48 : decode cX0_init 48 = .ok (.putfield 27, 3) := by decide +kernel
theorem dX0_init_51 : decode cX0_init 51 = .ok (.aload_n 0, 1) := by decide +kernel
theorem dX0_init_52 : decode cX0_init 52 = .ok (.iconst 4, 1) := by decide +kernel
theorem dX0_init_53 : decode cX0_init 53 = .ok (.newarray .int, 2) := by decide +kernel
theorem dX0_init_55 : decode cX0_init 55 = .ok (.putfield 30, 3) := by decide +kernel
theorem dX0_init_58 : decode cX0_init 58 = .ok (.aload_n 0, 1) := by decide +kernel
theorem dX0_init_59 : decode cX0_init 59 = .ok (.iconst 4, 1) := by decide +kernel
theorem dX0_init_60 : decode cX0_init 60 = .ok (.newarray .int, 2) := by decide +kernel
theorem dX0_init_62 : decode cX0_init 62 = .ok (.putfield 33, 3) := by decide +kernel
theorem dX0_init_65 : decode cX0_init 65 = .ok (.aload_n 0, 1) := by decide +kernel
theorem dX0_init_66 : decode cX0_init 66 = .ok (.iconst 0, 1) := by decide +kernel
theorem dX0_init_67 : decode cX0_init 67 = .ok (.putfield 36, 3) := by decide +kernel
theorem dX0_init_70 : decode cX0_init 70 = .ok (.aload_n 0, 1) := by decide +kernel
theorem dX0_init_71 : decode cX0_init 71 = .ok (.iconst (-1), 1) := by decide +kernel
theorem dX0_init_72 : decode cX0_init 72 = .ok (.putfield 40, 3) := by decide +kernel
theorem dX0_init_75 : decode cX0_init 75 = .ok (.aload_n 0, 1) := by decide +kernel
theorem dX0_init_76 : decode cX0_init 76 = .ok (.iconst (-1), 1) := by decide +kernel
theorem dX0_init_77 : decode cX0_init 77 = .ok (.putfield 43, 3) := by decide +kernel
theorem dX0_init_80 : decode cX0_init 80 = .ok (.aload_n 0, 1) := by decide +kernel
theorem dX0_init_81 : decode cX0_init 81 = .ok (.iconst 0, 1) := by decide +kernel
theorem dX0_init_82 : decode cX0_init 82 = .ok (.putfield 46, 3) := by decide +kernel
theorem dX0_init_85 : decode cX0_init 85 = .ok (.aload_n 0, 1) := by decide +kernel
theorem dX0_init_86 : decode cX0_init 86 = .ok (.iconst 0, 1) := by decide +kernel
theorem dX0_init_87 : decode cX0_init 87 = .ok (.putfield 49, 3) := by decide +kernel
theorem dX0_init_90 : decode cX0_init 90 = .ok (.aload_n 0, 1) := by decide +kernel
theorem dX0_init_91 : decode cX0_init 91 = .ok (.aload_n 1, 1) := by decide +kernel
theorem dX0_init_92 : decode cX0_init 92 = .ok (.putfield 52, 3) := by decide +kernel
theorem dX0_init_95 : decode cX0_init 95 = .ok (.aload_n 0, 1) := by decide +kernel
theorem dX0_init_96 : decode cX0_init 96 = .ok (.aload_n 2, 1) := by decide +kernel
theorem dX0_init_97 : decode cX0_init 97 = .ok (.putfield 56, 3) := by decide +kernel
theorem dX0_init_100 : decode cX0_init 100 = .ok (.aload_n 0, 1) := by decide +kernel
theorem dX0_init_101 : decode cX0_init 101 = .ok (.aload_n 3, 1) := by decide +kernel
theorem dX0_init_102 : decode cX0_init 102 = .ok (.putfield 59, 3) := by decide +kernel
theorem dX0_init_105 : decode cX0_init 105 = .ok (.return_, 1) := by decide +kernel
theorem dX0_survey_0 : decode cX0_survey 0 = .ok (.aload_n 0, 1) := by decide +kernel
theorem dX0_survey_1 : decode cX0_survey 1 = .ok (.iconst (-1), 1) := by decide +kernel
theorem dX0_survey_2 : decode cX0_survey 2 = .ok (.putfield 40, 3) := by decide +kernel
theorem dX0_survey_5 : decode cX0_survey 5 = .ok (.aload_n 0, 1) := by decide +kernel
theorem dX0_survey_6 : decode cX0_survey 6 = .ok (.iload_n 1, 1) := by decide +kernel
theorem dX0_survey_7 : decode cX0_survey 7 = .ok (.invokevirtual 63, 3) := by decide +kernel
theorem dX0_survey_10 : decode cX0_survey 10 = .ok (.return_, 1) := by decide +kernel
theorem dX0_countBelow_0 : decode cX0_countBelow 0 = .ok (.iconst 0, 1) := by decide +kernel
theorem dX0_countBelow_1 : decode cX0_countBelow 1 = .ok (.istore_n 2, 1) := by decide +kernel
theorem dX0_countBelow_2 : decode cX0_countBelow 2 = .ok (.iconst 0, 1) := by decide +kernel
theorem dX0_countBelow_3 : decode cX0_countBelow 3 = .ok (.istore_n 3, 1) := by decide +kernel
theorem dX0_countBelow_4 : decode cX0_countBelow 4 = .ok (.iload_n 3, 1) := by decide +kernel
theorem dX0_countBelow_5 : decode cX0_countBelow 5 = .ok (.iload_n 1, 1) := by decide +kernel
theorem dX0_countBelow_6 : decode cX0_countBelow 6 = .ok (.if_icmp .ge 24, 3) := by decide +kernel
theorem dX0_countBelow_9 : decode cX0_countBelow 9 = .ok (.iload_n 3, 1) := by decide +kernel
theorem dX0_countBelow_10 : decode cX0_countBelow 10 = .ok (.bipush 25, 2) := by decide +kernel
theorem dX0_countBelow_12 : decode cX0_countBelow 12 = .ok (.if_icmp .ge 18, 3) := by decide +kernel
theorem dX0_countBelow_15 : decode cX0_countBelow 15 = .ok (.iload_n 2, 1) := by decide +kernel
theorem dX0_countBelow_16 : decode cX0_countBelow 16 = .ok (.aload_n 0, 1) := by decide +kernel
theorem dX0_countBelow_17 : decode cX0_countBelow 17 = .ok (.getfield 9, 3) := by decide +kernel
theorem dX0_countBelow_20 : decode cX0_countBelow 20 = .ok (.iload_n 3, 1) := by decide +kernel
theorem dX0_countBelow_21 : decode cX0_countBelow 21 = .ok (.iaload, 1) := by decide +kernel
theorem dX0_countBelow_22 : decode cX0_countBelow 22 = .ok (.iadd, 1) := by decide +kernel
theorem dX0_countBelow_23 : decode cX0_countBelow 23 = .ok (.istore_n 2, 1) := by decide +kernel
theorem dX0_countBelow_24 : decode cX0_countBelow 24 = .ok (.iinc 3 1, 3) := by decide +kernel
theorem dX0_countBelow_27 : decode cX0_countBelow 27 = .ok (.goto (-23), 3) := by decide +kernel
theorem dX0_countBelow_30 : decode cX0_countBelow 30 = .ok (.iload_n 2, 1) := by decide +kernel
theorem dX0_countBelow_31 : decode cX0_countBelow 31 = .ok (.ireturn, 1) := by decide +kernel
theorem dX0_numberOfFirstLeast_0 : decode cX0_numberOfFirstLeast 0 = .ok (.iload_n 1, 1) := by decide +kernel
theorem dX0_numberOfFirstLeast_1 : decode cX0_numberOfFirstLeast 1 = .ok (.ifCond .lt 9, 3) := by decide +kernel
theorem dX0_numberOfFirstLeast_4 : decode cX0_numberOfFirstLeast 4 = .ok (.iload_n 1, 1) := by decide +kernel
theorem dX0_numberOfFirstLeast_5 : decode cX0_numberOfFirstLeast 5 = .ok (.bipush 25, 2) := by decide +kernel
theorem dX0_numberOfFirstLeast_7 : decode cX0_numberOfFirstLeast 7 = .ok (.if_icmp .lt 5, 3) := by decide +kernel
theorem dX0_numberOfFirstLeast_10 : decode cX0_numberOfFirstLeast 10 = .ok (.iconst (-1), 1) := by decide +kernel
theorem dX0_numberOfFirstLeast_11 : decode cX0_numberOfFirstLeast 11 = .ok (.ireturn, 1) := by decide +kernel
theorem dX0_numberOfFirstLeast_12 : decode cX0_numberOfFirstLeast 12 = .ok (.aload_n 0, 1) := by decide +kernel
theorem dX0_numberOfFirstLeast_13 : decode cX0_numberOfFirstLeast 13 = .ok (.iload_n 1, 1) := by decide +kernel
theorem dX0_numberOfFirstLeast_14 : decode cX0_numberOfFirstLeast 14 = .ok (.invokevirtual 67, 3) := by decide +kernel
theorem dX0_numberOfFirstLeast_17 : decode cX0_numberOfFirstLeast 17 = .ok (.aload_n 0, 1) := by decide +kernel
theorem dX0_numberOfFirstLeast_18 : decode cX0_numberOfFirstLeast 18 = .ok (.getfield 24, 3) := by decide +kernel
theorem dX0_numberOfFirstLeast_21 : decode cX0_numberOfFirstLeast 21 = .ok (.iload_n 1, 1) := by decide +kernel
theorem dX0_numberOfFirstLeast_22 : decode cX0_numberOfFirstLeast 22 = .ok (.iaload, 1) := by decide +kernel
theorem dX0_numberOfFirstLeast_23 : decode cX0_numberOfFirstLeast 23 = .ok (.iadd, 1) := by decide +kernel
theorem dX0_numberOfFirstLeast_24 : decode cX0_numberOfFirstLeast 24 = .ok (.ireturn, 1) := by decide +kernel
theorem dX0_findNumber_0 : decode cX0_findNumber 0 = .ok (.aload_n 0, 1) := by decide +kernel
theorem dX0_findNumber_1 : decode cX0_findNumber 1 = .ok (.iload_n 1, 1) := by decide +kernel
theorem dX0_findNumber_2 : decode cX0_findNumber 2 = .ok (.invokevirtual 71, 3) := by decide +kernel
theorem dX0_findNumber_5 : decode cX0_findNumber 5 = .ok (.iload_n 2, 1) := by decide +kernel
theorem dX0_findNumber_6 : decode cX0_findNumber 6 = .ok (.ifCond .ge 5, 3) := by decide +kernel
theorem dX0_findNumber_9 : decode cX0_findNumber 9 = .ok (.iconst 0, 1) := by decide +kernel
theorem dX0_findNumber_10 : decode cX0_findNumber 10 = .ok (.ireturn, 1) := by decide +kernel
theorem dX0_findNumber_11 : decode cX0_findNumber 11 = .ok (.iload_n 2, 1) := by decide +kernel
theorem dX0_findNumber_12 : decode cX0_findNumber 12 = .ok (.istore_n 3, 1) := by decide +kernel
theorem dX0_findNumber_13 : decode cX0_findNumber 13 = .ok (.iconst 0, 1) := by decide +kernel
theorem dX0_findNumber_14 : decode cX0_findNumber 14 = .ok (.istore 4, 2) := by decide +kernel
theorem dX0_findNumber_16 : decode cX0_findNumber 16 = .ok (.iload 4, 2) := by decide +kernel
theorem dX0_findNumber_18 : decode cX0_findNumber 18 = .ok (.bipush 25, 2) := by decide +kernel
theorem dX0_findNumber_20 : decode cX0_findNumber 20 = .ok (.if_icmp .ge 48, 3) := by decide +kernel
theorem dX0_findNumber_23 : decode cX0_findNumber 23 = .ok (.iload_n 3, 1) := by decide +kernel
theorem dX0_findNumber_24 : decode cX0_findNumber 24 = .ok (.aload_n 0, 1) := by decide +kernel
theorem dX0_findNumber_25 : decode cX0_findNumber 25 = .ok (.getfield 9, 3) := by decide +kernel
theorem dX0_findNumber_28 : decode cX0_findNumber 28 = .ok (.iload 4, 2) := by decide +kernel
theorem dX0_findNumber_30 : decode cX0_findNumber 30 = .ok (.iaload, 1) := by decide +kernel
theorem dX0_findNumber_31 : decode cX0_findNumber 31 = .ok (.if_icmp .ge 21, 3) := by decide +kernel
theorem dX0_findNumber_34 : decode cX0_findNumber 34 = .ok (.aload_n 0, 1) := by decide +kernel
theorem dX0_findNumber_35 : decode cX0_findNumber 35 = .ok (.iload 4, 2) := by decide +kernel
theorem dX0_findNumber_37 : decode cX0_findNumber 37 = .ok (.putfield 40, 3) := by decide +kernel
theorem dX0_findNumber_40 : decode cX0_findNumber 40 = .ok (.aload_n 0, 1) := by decide +kernel
theorem dX0_findNumber_41 : decode cX0_findNumber 41 = .ok (.iload_n 3, 1) := by decide +kernel
theorem dX0_findNumber_42 : decode cX0_findNumber 42 = .ok (.putfield 43, 3) := by decide +kernel
theorem dX0_findNumber_45 : decode cX0_findNumber 45 = .ok (.aload_n 0, 1) := by decide +kernel
theorem dX0_findNumber_46 : decode cX0_findNumber 46 = .ok (.iload_n 1, 1) := by decide +kernel
theorem dX0_findNumber_47 : decode cX0_findNumber 47 = .ok (.invokevirtual 63, 3) := by decide +kernel
theorem dX0_findNumber_50 : decode cX0_findNumber 50 = .ok (.iconst 1, 1) := by decide +kernel
theorem dX0_findNumber_51 : decode cX0_findNumber 51 = .ok (.ireturn, 1) := by decide +kernel
theorem dX0_findNumber_52 : decode cX0_findNumber 52 = .ok (.iload_n 3, 1) := by decide +kernel
theorem dX0_findNumber_53 : decode cX0_findNumber 53 = .ok (.aload_n 0, 1) := by decide +kernel
theorem dX0_findNumber_54 : decode cX0_findNumber 54 = .ok (.getfield 9, 3) := by decide +kernel
theorem dX0_findNumber_57 : decode cX0_findNumber 57 = .ok (.iload 4, 2) := by decide +kernel
theorem dX0_findNumber_59 : decode cX0_findNumber 59 = .ok (.iaload, 1) := by decide +kernel
theorem dX0_findNumber_60 : decode cX0_findNumber 60 = .ok (.isub, 1) := by decide +kernel
theorem dX0_findNumber_61 : decode cX0_findNumber 61 = .ok (.istore_n 3, 1) := by decide +kernel
theorem dX0_findNumber_62 : decode cX0_findNumber 62 = .ok (.iinc 4 1, 3) := by decide +kernel
theorem dX0_findNumber_65 : decode cX0_findNumber 65 = .ok (.goto (-49), 3) := by decide +kernel
theorem dX0_findNumber_68 : decode cX0_findNumber 68 = .ok (.iconst 0, 1) := by decide +kernel
theorem dX0_findNumber_69 : decode cX0_findNumber 69 = .ok (.ireturn, 1) := by decide +kernel
theorem dX0_goThrough_0 : decode cX0_goThrough 0 = .ok (.iconst 0, 1) := by decide +kernel
theorem dX0_goThrough_1 : decode cX0_goThrough 1 = .ok (.istore_n 2, 1) := by decide +kernel
theorem dX0_goThrough_2 : decode cX0_goThrough 2 = .ok (.iload_n 2, 1) := by decide +kernel
theorem dX0_goThrough_3 : decode cX0_goThrough 3 = .ok (.bipush 25, 2) := by decide +kernel
theorem dX0_goThrough_5 : decode cX0_goThrough 5 = .ok (.if_icmp .ge 16, 3) := by decide +kernel
theorem dX0_goThrough_8 : decode cX0_goThrough 8 = .ok (.aload_n 0, 1) := by decide +kernel
theorem dX0_goThrough_9 : decode cX0_goThrough 9 = .ok (.getfield 9, 3) := by decide +kernel
theorem dX0_goThrough_12 : decode cX0_goThrough 12 = .ok (.iload_n 2, 1) := by decide +kernel
theorem dX0_goThrough_13 : decode cX0_goThrough 13 = .ok (.iconst 0, 1) := by decide +kernel
theorem dX0_goThrough_14 : decode cX0_goThrough 14 = .ok (.iastore, 1) := by decide +kernel
theorem dX0_goThrough_15 : decode cX0_goThrough 15 = .ok (.iinc 2 1, 3) := by decide +kernel
theorem dX0_goThrough_18 : decode cX0_goThrough 18 = .ok (.goto (-16), 3) := by decide +kernel
theorem dX0_goThrough_21 : decode cX0_goThrough 21 = .ok (.aload_n 0, 1) := by decide +kernel
theorem dX0_goThrough_22 : decode cX0_goThrough 22 = .ok (.aload_n 0, 1) := by decide +kernel
theorem dX0_goThrough_23 : decode cX0_goThrough 23 = .ok (.getfield 59, 3) := by decide +kernel
theorem dX0_goThrough_26 : decode cX0_goThrough 26 = .ok (.iload_n 1, 1) := by decide +kernel
theorem dX0_goThrough_27 : decode cX0_goThrough 27 = .ok (.invokevirtual 74, 3) := by decide +kernel
theorem dX0_goThrough_30 : decode cX0_goThrough 30 = .ok (.iconst 4, 1) := by decide +kernel
theorem dX0_goThrough_31 : decode cX0_goThrough 31 = .ok (.invokestatic 79, 3) := by decide +kernel
theorem dX0_goThrough_34 : decode cX0_goThrough 34 = .ok (.putfield 36, 3) := by decide +kernel
theorem dX0_goThrough_37 : decode cX0_goThrough 37 = .ok (.iconst 0, 1) := by decide +kernel
theorem dX0_goThrough_38 : decode cX0_goThrough 38 = .ok (.istore_n 2, 1) := by decide +kernel
theorem dX0_goThrough_39 : decode cX0_goThrough 39 = .ok (.iload_n 2, 1) := by decide +kernel
theorem dX0_goThrough_40 : decode cX0_goThrough 40 = .ok (.aload_n 0, 1) := by decide +kernel
theorem dX0_goThrough_41 : decode cX0_goThrough 41 = .ok (.getfield 36, 3) := by decide +kernel
theorem dX0_goThrough_44 : decode cX0_goThrough 44 = .ok (.if_icmp .ge 39, 3) := by decide +kernel
theorem dX0_goThrough_47 : decode cX0_goThrough 47 = .ok (.aload_n 0, 1) := by decide +kernel
theorem dX0_goThrough_48 : decode cX0_goThrough 48 = .ok (.getfield 27, 3) := by decide +kernel
theorem dX0_goThrough_51 : decode cX0_goThrough 51 = .ok (.iload_n 2, 1) := by decide +kernel
theorem dX0_goThrough_52 : decode cX0_goThrough 52 = .ok (.aload_n 0, 1) := by decide +kernel
theorem dX0_goThrough_53 : decode cX0_goThrough 53 = .ok (.getfield 59, 3) := by decide +kernel
theorem dX0_goThrough_56 : decode cX0_goThrough 56 = .ok (.iload_n 1, 1) := by decide +kernel
theorem dX0_goThrough_57 : decode cX0_goThrough 57 = .ok (.iload_n 2, 1) := by decide +kernel
theorem dX0_goThrough_58 : decode cX0_goThrough 58 = .ok (.invokevirtual 85, 3) := by decide +kernel
theorem dX0_goThrough_61 : decode cX0_goThrough 61 = .ok (.iastore, 1) := by decide +kernel
theorem dX0_goThrough_62 : decode cX0_goThrough 62 = .ok (.aload_n 0, 1) := by decide +kernel
theorem dX0_goThrough_63 : decode cX0_goThrough 63 = .ok (.getfield 30, 3) := by decide +kernel
theorem dX0_goThrough_66 : decode cX0_goThrough 66 = .ok (.iload_n 2, 1) := by decide +kernel
theorem dX0_goThrough_67 : decode cX0_goThrough 67 = .ok (.aload_n 0, 1) := by decide +kernel
theorem dX0_goThrough_68 : decode cX0_goThrough 68 = .ok (.getfield 59, 3) := by decide +kernel
theorem dX0_goThrough_71 : decode cX0_goThrough 71 = .ok (.iload_n 1, 1) := by decide +kernel
theorem dX0_goThrough_72 : decode cX0_goThrough 72 = .ok (.iload_n 2, 1) := by decide +kernel
theorem dX0_goThrough_73 : decode cX0_goThrough 73 = .ok (.invokevirtual 88, 3) := by decide +kernel
theorem dX0_goThrough_76 : decode cX0_goThrough 76 = .ok (.iastore, 1) := by decide +kernel
theorem dX0_goThrough_77 : decode cX0_goThrough 77 = .ok (.iinc 2 1, 3) := by decide +kernel
theorem dX0_goThrough_80 : decode cX0_goThrough 80 = .ok (.goto (-41), 3) := by decide +kernel
theorem dX0_goThrough_83 : decode cX0_goThrough 83 = .ok (.aload_n 0, 1) := by decide +kernel
theorem dX0_goThrough_84 : decode cX0_goThrough 84 = .ok (.iconst 0, 1) := by decide +kernel
theorem dX0_goThrough_85 : decode cX0_goThrough 85 = .ok (.iconst 0, 1) := by decide +kernel
theorem dX0_goThrough_86 : decode cX0_goThrough 86 = .ok (.iconst 0, 1) := by decide +kernel
theorem dX0_goThrough_87 : decode cX0_goThrough 87 = .ok (.aload_n 0, 1) := by decide +kernel
theorem dX0_goThrough_88 : decode cX0_goThrough 88 = .ok (.getfield 52, 3) := by decide +kernel
theorem dX0_goThrough_91 : decode cX0_goThrough 91 = .ok (.getfield 91, 3) := by decide +kernel
theorem dX0_goThrough_94 : decode cX0_goThrough 94 = .ok (.aload_n 0, 1) := by decide +kernel
theorem dX0_goThrough_95 : decode cX0_goThrough 95 = .ok (.getfield 52, 3) := by decide +kernel
theorem dX0_goThrough_98 : decode cX0_goThrough 98 = .ok (.getfield 96, 3) := by decide +kernel
theorem dX0_goThrough_101 : decode cX0_goThrough 101 = .ok (.iconst 0, 1) := by decide +kernel
theorem dX0_goThrough_102 : decode cX0_goThrough 102 = .ok (.invokevirtual 99, 3) := by decide +kernel
theorem dX0_goThrough_105 : decode cX0_goThrough 105 = .ok (.return_, 1) := by decide +kernel
theorem dX0_layFrom_0 : decode cX0_layFrom 0 = .ok (.iload 5, 2) := by decide +kernel
theorem dX0_layFrom_2 : decode cX0_layFrom 2 = .ok (.iload 4, 2) := by decide +kernel
theorem dX0_layFrom_4 : decode cX0_layFrom 4 = .ok (.isub, 1) := by decide +kernel
theorem dX0_layFrom_5 : decode cX0_layFrom 5 = .ok (.iconst 3, 1) := by decide +kernel
theorem dX0_layFrom_6 : decode cX0_layFrom 6 = .ok (.if_icmp .le 4, 3) := by decide +kernel
theorem dX0_layFrom_9 : decode cX0_layFrom 9 = .ok (.return_, 1) := by decide +kernel
theorem dX0_layFrom_10 : decode cX0_layFrom 10 = .ok (.iload_n 1, 1) := by decide +kernel
theorem dX0_layFrom_11 : decode cX0_layFrom 11 = .ok (.aload_n 0, 1) := by decide +kernel
theorem dX0_layFrom_12 : decode cX0_layFrom 12 = .ok (.getfield 36, 3) := by decide +kernel
theorem dX0_layFrom_15 : decode cX0_layFrom 15 = .ok (.if_icmp .ge 8, 3) := by decide +kernel
theorem dX0_layFrom_18 : decode cX0_layFrom 18 = .ok (.iload_n 1, 1) := by decide +kernel
theorem dX0_layFrom_19 : decode cX0_layFrom 19 = .ok (.iconst 4, 1) := by decide +kernel
theorem dX0_layFrom_20 : decode cX0_layFrom 20 = .ok (.if_icmp .lt 15, 3) := by decide +kernel
theorem dX0_layFrom_23 : decode cX0_layFrom 23 = .ok (.aload_n 0, 1) := by decide +kernel
theorem dX0_layFrom_24 : decode cX0_layFrom 24 = .ok (.iload_n 3, 1) := by decide +kernel
theorem dX0_layFrom_25 : decode cX0_layFrom 25 = .ok (.iload 4, 2) := by decide +kernel
theorem dX0_layFrom_27 : decode cX0_layFrom 27 = .ok (.iload 5, 2) := by decide +kernel
theorem dX0_layFrom_29 : decode cX0_layFrom 29 = .ok (.iload 6, 2) := by decide +kernel
theorem dX0_layFrom_31 : decode cX0_layFrom 31 = .ok (.invokevirtual 103, 3) := by decide +kernel
theorem dX0_layFrom_34 : decode cX0_layFrom 34 = .ok (.return_, 1) := by decide +kernel
theorem dX0_layFrom_35 : decode cX0_layFrom 35 = .ok (.iconst 0, 1) := by decide +kernel
theorem dX0_layFrom_36 : decode cX0_layFrom 36 = .ok (.istore 7, 2) := by decide +kernel
theorem dX0_layFrom_38 : decode cX0_layFrom 38 = .ok (.iload 7, 2) := by decide +kernel
theorem dX0_layFrom_40 : decode cX0_layFrom 40 = .ok (.aload_n 0, 1) := by decide +kernel
theorem dX0_layFrom_41 : decode cX0_layFrom 41 = .ok (.getfield 52, 3) := by decide +kernel
theorem dX0_layFrom_44 : decode cX0_layFrom 44 = .ok (.getfield 107, 3) := by decide +kernel
theorem dX0_layFrom_47 : decode cX0_layFrom 47 = .ok (.if_icmp .ge 202, 3) := by decide +kernel
theorem dX0_layFrom_50 : decode cX0_layFrom 50 = .ok (.iload_n 2, 1) := by decide +kernel
theorem dX0_layFrom_51 : decode cX0_layFrom 51 = .ok (.iconst 1, 1) := by decide +kernel
theorem dX0_layFrom_52 : decode cX0_layFrom 52 = .ok (.iload 7, 2) := by decide +kernel
theorem dX0_layFrom_54 : decode cX0_layFrom 54 = .ok (.ishl, 1) := by decide +kernel
theorem dX0_layFrom_55 : decode cX0_layFrom 55 = .ok (.iand, 1) := by decide +kernel
theorem dX0_layFrom_56 : decode cX0_layFrom 56 = .ok (.ifCond .ne 28, 3) := by decide +kernel
theorem dX0_layFrom_59 : decode cX0_layFrom 59 = .ok (.aload_n 0, 1) := by decide +kernel
theorem dX0_layFrom_60 : decode cX0_layFrom 60 = .ok (.getfield 30, 3) := by decide +kernel
theorem dX0_layFrom_63 : decode cX0_layFrom 63 = .ok (.iload_n 1, 1) := by decide +kernel
theorem dX0_layFrom_64 : decode cX0_layFrom 64 = .ok (.iaload, 1) := by decide +kernel
theorem dX0_layFrom_65 : decode cX0_layFrom 65 = .ok (.iconst (-1), 1) := by decide +kernel
theorem dX0_layFrom_66 : decode cX0_layFrom 66 = .ok (.if_icmp .eq 14, 3) := by decide +kernel
theorem dX0_layFrom_69 : decode cX0_layFrom 69 = .ok (.aload_n 0, 1) := by decide +kernel
theorem dX0_layFrom_70 : decode cX0_layFrom 70 = .ok (.getfield 30, 3) := by decide +kernel
theorem dX0_layFrom_73 : decode cX0_layFrom 73 = .ok (.iload_n 1, 1) := by decide +kernel
theorem dX0_layFrom_74 : decode cX0_layFrom 74 = .ok (.iaload, 1) := by decide +kernel
theorem dX0_layFrom_75 : decode cX0_layFrom 75 = .ok (.iload 7, 2) := by decide +kernel
theorem dX0_layFrom_77 : decode cX0_layFrom 77 = .ok (.if_icmp .ne 7, 3) := by decide +kernel
theorem dX0_layFrom_80 : decode cX0_layFrom 80 = .ok (.iconst 1, 1) := by decide +kernel
theorem dX0_layFrom_81 : decode cX0_layFrom 81 = .ok (.goto 4, 3) := by decide +kernel
theorem dX0_layFrom_84 : decode cX0_layFrom 84 = .ok (.iconst 0, 1) := by decide +kernel
theorem dX0_layFrom_85 : decode cX0_layFrom 85 = .ok (.istore 8, 2) := by decide +kernel
theorem dX0_layFrom_87 : decode cX0_layFrom 87 = .ok (.iload 8, 2) := by decide +kernel
theorem dX0_layFrom_89 : decode cX0_layFrom 89 = .ok (.ifCond .eq 21, 3) := by decide +kernel
theorem dX0_layFrom_92 : decode cX0_layFrom 92 = .ok (.aload_n 0, 1) := by decide +kernel
theorem dX0_layFrom_93 : decode cX0_layFrom 93 = .ok (.getfield 52, 3) := by decide +kernel
theorem dX0_layFrom_96 : decode cX0_layFrom 96 = .ok (.iload 7, 2) := by decide +kernel
theorem dX0_layFrom_98 : decode cX0_layFrom 98 = .ok (.aload_n 0, 1) := by decide +kernel
theorem dX0_layFrom_99 : decode cX0_layFrom 99 = .ok (.getfield 27, 3) := by decide +kernel
theorem dX0_layFrom_102 : decode cX0_layFrom 102 = .ok (.iload_n 1, 1) := by decide +kernel
theorem dX0_layFrom_103 : decode cX0_layFrom 103 = .ok (.iaload, 1) := by decide +kernel
theorem dX0_layFrom_104 : decode cX0_layFrom 104 = .ok (.invokevirtual 110, 3) := by decide +kernel
theorem dX0_layFrom_107 : decode cX0_layFrom 107 = .ok (.goto 4, 3) := by decide +kernel
theorem dX0_layFrom_110 : decode cX0_layFrom 110 = .ok (.iconst (-1), 1) := by decide +kernel
theorem dX0_layFrom_111 : decode cX0_layFrom 111 = .ok (.istore 9, 2) := by decide +kernel
theorem dX0_layFrom_113 : decode cX0_layFrom 113 = .ok (.iload 9, 2) := by decide +kernel
theorem dX0_layFrom_115 : decode cX0_layFrom 115 = .ok (.iconst (-1), 1) := by decide +kernel
theorem dX0_layFrom_116 : decode cX0_layFrom 116 = .ok (.if_icmp .ne 6, 3) := by decide +kernel
theorem dX0_layFrom_119 : decode cX0_layFrom 119 = .ok (.goto 124, 3) := by decide +kernel
theorem dX0_layFrom_122 : decode cX0_layFrom 122 = .ok (.aload_n 0, 1) := by decide +kernel
theorem dX0_layFrom_123 : decode cX0_layFrom 123 = .ok (.getfield 33, 3) := by decide +kernel
theorem dX0_layFrom_126 : decode cX0_layFrom 126 = .ok (.iload_n 1, 1) := by decide +kernel
theorem dX0_layFrom_127 : decode cX0_layFrom 127 = .ok (.iload 9, 2) := by decide +kernel
theorem dX0_layFrom_129 : decode cX0_layFrom 129 = .ok (.iastore, 1) := by decide +kernel
theorem dX0_layFrom_130 : decode cX0_layFrom 130 = .ok (.iload_n 2, 1) := by decide +kernel
theorem dX0_layFrom_131 : decode cX0_layFrom 131 = .ok (.iconst 1, 1) := by decide +kernel
theorem dX0_layFrom_132 : decode cX0_layFrom 132 = .ok (.iload 7, 2) := by decide +kernel
theorem dX0_layFrom_134 : decode cX0_layFrom 134 = .ok (.ishl, 1) := by decide +kernel
theorem dX0_layFrom_135 : decode cX0_layFrom 135 = .ok (.ior, 1) := by decide +kernel
theorem dX0_layFrom_136 : decode cX0_layFrom 136 = .ok (.istore 10, 2) := by decide +kernel
theorem dX0_layFrom_138 : decode cX0_layFrom 138 = .ok (.iload_n 3, 1) := by decide +kernel
theorem dX0_layFrom_139 : decode cX0_layFrom 139 = .ok (.iload_n 1, 1) := by decide +kernel
theorem dX0_layFrom_140 : decode cX0_layFrom 140 = .ok (.iload 7, 2) := by decide +kernel
theorem dX0_layFrom_142 : decode cX0_layFrom 142 = .ok (.invokestatic 113, 3) := by decide +kernel
theorem dX0_layFrom_145 : decode cX0_layFrom 145 = .ok (.istore 11, 2) := by decide +kernel
theorem dX0_layFrom_147 : decode cX0_layFrom 147 = .ok (.iload 9, 2) := by decide +kernel
theorem dX0_layFrom_149 : decode cX0_layFrom 149 = .ok (.aload_n 0, 1) := by decide +kernel
theorem dX0_layFrom_150 : decode cX0_layFrom 150 = .ok (.getfield 52, 3) := by decide +kernel
theorem dX0_layFrom_153 : decode cX0_layFrom 153 = .ok (.getfield 96, 3) := by decide +kernel
theorem dX0_layFrom_156 : decode cX0_layFrom 156 = .ok (.if_icmp .ne 30, 3) := by decide +kernel
theorem dX0_layFrom_159 : decode cX0_layFrom 159 = .ok (.aload_n 0, 1) := by decide +kernel
theorem dX0_layFrom_160 : decode cX0_layFrom 160 = .ok (.iload_n 1, 1) := by decide +kernel
theorem dX0_layFrom_161 : decode cX0_layFrom 161 = .ok (.iconst 1, 1) := by decide +kernel
theorem dX0_layFrom_162 : decode cX0_layFrom 162 = .ok (.iadd, 1) := by decide +kernel
theorem dX0_layFrom_163 : decode cX0_layFrom 163 = .ok (.iload 10, 2) := by decide +kernel
theorem dX0_layFrom_165 : decode cX0_layFrom 165 = .ok (.iload 11, 2) := by decide +kernel
theorem dX0_layFrom_167 : decode cX0_layFrom 167 = .ok (.iload 4, 2) := by decide +kernel
theorem dX0_layFrom_169 : decode cX0_layFrom 169 = .ok (.iload 5, 2) := by decide +kernel
theorem dX0_layFrom_171 : decode cX0_layFrom 171 = .ok (.iload 6, 2) := by decide +kernel
theorem dX0_layFrom_173 : decode cX0_layFrom 173 = .ok (.aload_n 0, 1) := by decide +kernel
theorem dX0_layFrom_174 : decode cX0_layFrom 174 = .ok (.getfield 56, 3) := by decide +kernel
theorem dX0_layFrom_177 : decode cX0_layFrom 177 = .ok (.iconst 3, 1) := by decide +kernel
theorem dX0_layFrom_178 : decode cX0_layFrom 178 = .ok (.iaload, 1) := by decide +kernel
theorem dX0_layFrom_179 : decode cX0_layFrom 179 = .ok (.iadd, 1) := by decide +kernel
theorem dX0_layFrom_180 : decode cX0_layFrom 180 = .ok (.invokevirtual 99, 3) := by decide +kernel
theorem dX0_layFrom_183 : decode cX0_layFrom 183 = .ok (.goto 60, 3) := by decide +kernel
theorem dX0_layFrom_186 : decode cX0_layFrom 186 = .ok (.iload 6, 2) := by decide +kernel
theorem dX0_layFrom_188 : decode cX0_layFrom 188 = .ok (.aload_n 0, 1) := by decide +kernel
theorem dX0_layFrom_189 : decode cX0_layFrom 189 = .ok (.getfield 56, 3) := by decide +kernel
theorem dX0_layFrom_192 : decode cX0_layFrom 192 = .ok (.iconst 1, 1) := by decide +kernel
theorem dX0_layFrom_193 : decode cX0_layFrom 193 = .ok (.iaload, 1) := by decide +kernel
theorem dX0_layFrom_194 : decode cX0_layFrom 194 = .ok (.iload 9, 2) := by decide +kernel
theorem dX0_layFrom_196 : decode cX0_layFrom 196 = .ok (.aload_n 0, 1) := by decide +kernel
theorem dX0_layFrom_197 : decode cX0_layFrom 197 = .ok (.getfield 52, 3) := by decide +kernel
theorem dX0_layFrom_200 : decode cX0_layFrom 200 = .ok (.getfield 96, 3) := by decide +kernel
theorem dX0_layFrom_203 : decode cX0_layFrom 203 = .ok (.isub, 1) := by decide +kernel
theorem dX0_layFrom_204 : decode cX0_layFrom 204 = .ok (.imul, 1) := by decide +kernel
theorem dX0_layFrom_205 : decode cX0_layFrom 205 = .ok (.iadd, 1) := by decide +kernel
theorem dX0_layFrom_206 : decode cX0_layFrom 206 = .ok (.istore 12, 2) := by decide +kernel
theorem dX0_layFrom_208 : decode cX0_layFrom 208 = .ok (.iload 4, 2) := by decide +kernel
theorem dX0_layFrom_210 : decode cX0_layFrom 210 = .ok (.iload 9, 2) := by decide +kernel
theorem dX0_layFrom_212 : decode cX0_layFrom 212 = .ok (.invokestatic 79, 3) := by decide +kernel
theorem dX0_layFrom_215 : decode cX0_layFrom 215 = .ok (.istore 13, 2) := by decide +kernel
theorem dX0_layFrom_217 : decode cX0_layFrom 217 = .ok (.iload 5, 2) := by decide +kernel
theorem dX0_layFrom_219 : decode cX0_layFrom 219 = .ok (.iload 9, 2) := by decide +kernel
theorem dX0_layFrom_221 : decode cX0_layFrom 221 = .ok (.invokestatic 119, 3) := by decide +kernel
theorem dX0_layFrom_224 : decode cX0_layFrom 224 = .ok (.istore 14, 2) := by decide +kernel
theorem dX0_layFrom_226 : decode cX0_layFrom 226 = .ok (.aload_n 0, 1) := by decide +kernel
theorem dX0_layFrom_227 : decode cX0_layFrom 227 = .ok (.iload_n 1, 1) := by decide +kernel
theorem dX0_layFrom_228 : decode cX0_layFrom 228 = .ok (.iconst 1, 1) := by decide +kernel
theorem dX0_layFrom_229 : decode cX0_layFrom 229 = .ok (.iadd, 1) := by decide +kernel
theorem dX0_layFrom_230 : decode cX0_layFrom 230 = .ok (.iload 10, 2) := by decide +kernel
theorem dX0_layFrom_232 : decode cX0_layFrom 232 = .ok (.iload 11, 2) := by decide +kernel
theorem dX0_layFrom_234 : decode cX0_layFrom 234 = .ok (.iload 13, 2) := by decide +kernel
theorem dX0_layFrom_236 : decode cX0_layFrom 236 = .ok (.iload 14, 2) := by decide +kernel
theorem dX0_layFrom_238 : decode cX0_layFrom 238 = .ok (.iload 12, 2) := by decide +kernel
theorem dX0_layFrom_240 : decode cX0_layFrom 240 = .ok (.invokevirtual 99, 3) := by decide +kernel
theorem dX0_layFrom_243 : decode cX0_layFrom 243 = .ok (.iinc 7 1, 3) := by decide +kernel
theorem dX0_layFrom_246 : decode cX0_layFrom 246 = .ok (.goto (-208), 3) := by decide +kernel
theorem dX0_layFrom_249 : decode cX0_layFrom 249 = .ok (.return_, 1) := by decide +kernel
theorem dX0_tellPositions_0 : decode cX0_tellPositions 0 = .ok (.aload_n 0, 1) := by decide +kernel
theorem dX0_tellPositions_1 : decode cX0_tellPositions 1 = .ok (.getfield 52, 3) := by decide +kernel
theorem dX0_tellPositions_4 : decode cX0_tellPositions 4 = .ok (.getfield 96, 3) := by decide +kernel
theorem dX0_tellPositions_7 : decode cX0_tellPositions 7 = .ok (.iconst 1, 1) := by decide +kernel
theorem dX0_tellPositions_8 : decode cX0_tellPositions 8 = .ok (.iadd, 1) := by decide +kernel
theorem dX0_tellPositions_9 : decode cX0_tellPositions 9 = .ok (.iload_n 3, 1) := by decide +kernel
theorem dX0_tellPositions_10 : decode cX0_tellPositions 10 = .ok (.iconst 3, 1) := by decide +kernel
theorem dX0_tellPositions_11 : decode cX0_tellPositions 11 = .ok (.isub, 1) := by decide +kernel
theorem dX0_tellPositions_12 : decode cX0_tellPositions 12 = .ok (.invokestatic 119, 3) := by decide +kernel
theorem dX0_tellPositions_15 : decode cX0_tellPositions 15 = .ok (.istore 5, 2) := by decide +kernel
theorem dX0_tellPositions_17 : decode cX0_tellPositions 17 = .ok (.iload 5, 2) := by decide +kernel
theorem dX0_tellPositions_19 : decode cX0_tellPositions 19 = .ok (.istore 6, 2) := by decide +kernel
theorem dX0_tellPositions_21 : decode cX0_tellPositions 21 = .ok (.iload 6, 2) := by decide +kernel
theorem dX0_tellPositions_23 : decode cX0_tellPositions 23 = .ok (.iload_n 2, 1) := by decide +kernel
theorem dX0_tellPositions_24 : decode cX0_tellPositions 24 = .ok (.if_icmp .gt 34, 3) := by decide +kernel
theorem dX0_tellPositions_27 : decode cX0_tellPositions 27 = .ok (.aload_n 0, 1) := by decide +kernel
theorem dX0_tellPositions_28 : decode cX0_tellPositions 28 = .ok (.iload 6, 2) := by decide +kernel
theorem dX0_tellPositions_30 : decode cX0_tellPositions 30 = .ok (.iload_n 1, 1) := by decide +kernel
theorem dX0_tellPositions_31 : decode cX0_tellPositions 31 = .ok (.iload 4, 2) := by decide +kernel
theorem dX0_tellPositions_33 : decode cX0_tellPositions 33 = .ok (.aload_n 0, 1) := by decide +kernel
theorem dX0_tellPositions_34 : decode cX0_tellPositions 34 = .ok (.getfield 56, 3) := by decide +kernel
theorem dX0_tellPositions_37 : decode cX0_tellPositions 37 = .ok (.iconst 2, 1) := by decide +kernel
theorem dX0_tellPositions_38 : decode cX0_tellPositions 38 = .ok (.iaload, 1) := by decide +kernel
theorem dX0_tellPositions_39 : decode cX0_tellPositions 39 = .ok (.aload_n 0, 1) := by decide +kernel
theorem dX0_tellPositions_40 : decode cX0_tellPositions 40 = .ok (.iload 6, 2) := by decide +kernel
theorem dX0_tellPositions_42 : decode cX0_tellPositions 42 = .ok (.iconst 3, 1) := by decide +kernel
theorem dX0_tellPositions_43 : decode cX0_tellPositions 43 = .ok (.iadd, 1) := by decide +kernel
theorem dX0_tellPositions_44 : decode cX0_tellPositions 44 = .ok (.invokevirtual 122, 3) := by decide +kernel
theorem dX0_tellPositions_47 : decode cX0_tellPositions 47 = .ok (.imul, 1) := by decide +kernel
theorem dX0_tellPositions_48 : decode cX0_tellPositions 48 = .ok (.iadd, 1) := by decide +kernel
theorem dX0_tellPositions_49 : decode cX0_tellPositions 49 = .ok (.invokevirtual 125, 3) := by decide +kernel
theorem dX0_tellPositions_52 : decode cX0_tellPositions 52 = .ok (.iinc 6 1, 3) := by decide +kernel
theorem dX0_tellPositions_55 : decode cX0_tellPositions 55 = .ok (.goto (-34), 3) := by decide +kernel
theorem dX0_tellPositions_58 : decode cX0_tellPositions 58 = .ok (.return_, 1) := by decide +kernel
theorem dX0_pitchesAt_0 : decode cX0_pitchesAt 0 = .ok (.iconst 0, 1) := by decide +kernel
theorem dX0_pitchesAt_1 : decode cX0_pitchesAt 1 = .ok (.istore_n 2, 1) := by decide +kernel
theorem dX0_pitchesAt_2 : decode cX0_pitchesAt 2 = .ok (.iconst 0, 1) := by decide +kernel
theorem dX0_pitchesAt_3 : decode cX0_pitchesAt 3 = .ok (.istore_n 3, 1) := by decide +kernel
theorem dX0_pitchesAt_4 : decode cX0_pitchesAt 4 = .ok (.iload_n 3, 1) := by decide +kernel
theorem dX0_pitchesAt_5 : decode cX0_pitchesAt 5 = .ok (.aload_n 0, 1) := by decide +kernel
theorem dX0_pitchesAt_6 : decode cX0_pitchesAt 6 = .ok (.getfield 36, 3) := by decide +kernel
theorem dX0_pitchesAt_9 : decode cX0_pitchesAt 9 = .ok (.if_icmp .ge 27, 3) := by decide +kernel
theorem dX0_pitchesAt_12 : decode cX0_pitchesAt 12 = .ok (.iload_n 3, 1) := by decide +kernel
theorem dX0_pitchesAt_13 : decode cX0_pitchesAt 13 = .ok (.iconst 4, 1) := by decide +kernel
theorem dX0_pitchesAt_14 : decode cX0_pitchesAt 14 = .ok (.if_icmp .ge 22, 3) := by decide +kernel
theorem dX0_pitchesAt_17 : decode cX0_pitchesAt 17 = .ok (.aload_n 0, 1) := by decide +kernel
theorem dX0_pitchesAt_18 : decode cX0_pitchesAt 18 = .ok (.getfield 33, 3) := by decide +kernel
theorem dX0_pitchesAt_21 : decode cX0_pitchesAt 21 = .ok (.iload_n 3, 1) := by decide +kernel
theorem dX0_pitchesAt_22 : decode cX0_pitchesAt 22 = .ok (.iaload, 1) := by decide +kernel
theorem dX0_pitchesAt_23 : decode cX0_pitchesAt 23 = .ok (.iload_n 1, 1) := by decide +kernel
theorem dX0_pitchesAt_24 : decode cX0_pitchesAt 24 = .ok (.if_icmp .ne 6, 3) := by decide +kernel
theorem dX0_pitchesAt_27 : decode cX0_pitchesAt 27 = .ok (.iinc 2 1, 3) := by decide +kernel
theorem dX0_pitchesAt_30 : decode cX0_pitchesAt 30 = .ok (.iinc 3 1, 3) := by decide +kernel
theorem dX0_pitchesAt_33 : decode cX0_pitchesAt 33 = .ok (.goto (-29), 3) := by decide +kernel
theorem dX0_pitchesAt_36 : decode cX0_pitchesAt 36 = .ok (.iload_n 2, 1) := by decide +kernel
theorem dX0_pitchesAt_37 : decode cX0_pitchesAt 37 = .ok (.ireturn, 1) := by decide +kernel
theorem dX0_tell_0 : decode cX0_tell 0 = .ok (.iload_n 1, 1) := by decide +kernel
theorem dX0_tell_1 : decode cX0_tell 1 = .ok (.ifCond .lt 9, 3) := by decide +kernel
theorem dX0_tell_4 : decode cX0_tell 4 = .ok (.iload_n 1, 1) := by decide +kernel
theorem dX0_tell_5 : decode cX0_tell 5 = .ok (.bipush 25, 2) := by decide +kernel
theorem dX0_tell_7 : decode cX0_tell 7 = .ok (.if_icmp .lt 4, 3) := by decide +kernel
theorem dX0_tell_10 : decode cX0_tell 10 = .ok (.return_, 1) := by decide +kernel
theorem dX0_tell_11 : decode cX0_tell 11 = .ok (.aload_n 0, 1) := by decide +kernel
theorem dX0_tell_12 : decode cX0_tell 12 = .ok (.getfield 9, 3) := by decide +kernel
theorem dX0_tell_15 : decode cX0_tell 15 = .ok (.iload_n 1, 1) := by decide +kernel
theorem dX0_tell_16 : decode cX0_tell 16 = .ok (.iaload, 1) := by decide +kernel
theorem dX0_tell_17 : decode cX0_tell 17 = .ok (.istore 4, 2) := by decide +kernel
theorem dX0_tell_19 : decode cX0_tell 19 = .ok (.aload_n 0, 1) := by decide +kernel
theorem dX0_tell_20 : decode cX0_tell 20 = .ok (.getfield 9, 3) := by decide +kernel
theorem dX0_tell_23 : decode cX0_tell 23 = .ok (.iload_n 1, 1) := by decide +kernel
theorem dX0_tell_24 : decode cX0_tell 24 = .ok (.dup2, 1) := by decide +kernel
theorem dX0_tell_25 : decode cX0_tell 25 = .ok (.iaload, 1) := by decide +kernel
theorem dX0_tell_26 : decode cX0_tell 26 = .ok (.iconst 1, 1) := by decide +kernel
theorem dX0_tell_27 : decode cX0_tell 27 = .ok (.iadd, 1) := by decide +kernel
theorem dX0_tell_28 : decode cX0_tell 28 = .ok (.iastore, 1) := by decide +kernel
theorem dX0_tell_29 : decode cX0_tell 29 = .ok (.iload 4, 2) := by decide +kernel
theorem dX0_tell_31 : decode cX0_tell 31 = .ok (.ifCond .eq 13, 3) := by decide +kernel
theorem dX0_tell_34 : decode cX0_tell 34 = .ok (.iload_n 3, 1) := by decide +kernel
theorem dX0_tell_35 : decode cX0_tell 35 = .ok (.aload_n 0, 1) := by decide +kernel
theorem dX0_tell_36 : decode cX0_tell 36 = .ok (.getfield 15, 3) := by decide +kernel
theorem dX0_tell_39 : decode cX0_tell 39 = .ok (.iload_n 1, 1) := by decide +kernel
theorem dX0_tell_40 : decode cX0_tell 40 = .ok (.iaload, 1) := by decide +kernel
theorem dX0_tell_41 : decode cX0_tell 41 = .ok (.if_icmp .ge 35, 3) := by decide +kernel
theorem dX0_tell_44 : decode cX0_tell 44 = .ok (.aload_n 0, 1) := by decide +kernel
theorem dX0_tell_45 : decode cX0_tell 45 = .ok (.getfield 15, 3) := by decide +kernel
theorem dX0_tell_48 : decode cX0_tell 48 = .ok (.iload_n 1, 1) := by decide +kernel
theorem dX0_tell_49 : decode cX0_tell 49 = .ok (.iload_n 3, 1) := by decide +kernel
theorem dX0_tell_50 : decode cX0_tell 50 = .ok (.iastore, 1) := by decide +kernel
theorem dX0_tell_51 : decode cX0_tell 51 = .ok (.aload_n 0, 1) := by decide +kernel
theorem dX0_tell_52 : decode cX0_tell 52 = .ok (.getfield 18, 3) := by decide +kernel
theorem dX0_tell_55 : decode cX0_tell 55 = .ok (.iload_n 1, 1) := by decide +kernel
theorem dX0_tell_56 : decode cX0_tell 56 = .ok (.iconst 1, 1) := by decide +kernel
theorem dX0_tell_57 : decode cX0_tell 57 = .ok (.iastore, 1) := by decide +kernel
theorem dX0_tell_58 : decode cX0_tell 58 = .ok (.aload_n 0, 1) := by decide +kernel
theorem dX0_tell_59 : decode cX0_tell 59 = .ok (.getfield 24, 3) := by decide +kernel
theorem dX0_tell_62 : decode cX0_tell 62 = .ok (.iload_n 1, 1) := by decide +kernel
theorem dX0_tell_63 : decode cX0_tell 63 = .ok (.iload 4, 2) := by decide +kernel
theorem dX0_tell_65 : decode cX0_tell 65 = .ok (.iastore, 1) := by decide +kernel
theorem dX0_tell_66 : decode cX0_tell 66 = .ok (.aload_n 0, 1) := by decide +kernel
theorem dX0_tell_67 : decode cX0_tell 67 = .ok (.getfield 21, 3) := by decide +kernel
theorem dX0_tell_70 : decode cX0_tell 70 = .ok (.iload_n 1, 1) := by decide +kernel
theorem dX0_tell_71 : decode cX0_tell 71 = .ok (.iload_n 2, 1) := by decide +kernel
theorem dX0_tell_72 : decode cX0_tell 72 = .ok (.iastore, 1) := by decide +kernel
theorem dX0_tell_73 : decode cX0_tell 73 = .ok (.goto 23, 3) := by decide +kernel
theorem dX0_tell_76 : decode cX0_tell 76 = .ok (.iload_n 3, 1) := by decide +kernel
theorem dX0_tell_77 : decode cX0_tell 77 = .ok (.aload_n 0, 1) := by decide +kernel
theorem dX0_tell_78 : decode cX0_tell 78 = .ok (.getfield 15, 3) := by decide +kernel
theorem dX0_tell_81 : decode cX0_tell 81 = .ok (.iload_n 1, 1) := by decide +kernel
theorem dX0_tell_82 : decode cX0_tell 82 = .ok (.iaload, 1) := by decide +kernel
theorem dX0_tell_83 : decode cX0_tell 83 = .ok (.if_icmp .ne 13, 3) := by decide +kernel
theorem dX0_tell_86 : decode cX0_tell 86 = .ok (.aload_n 0, 1) := by decide +kernel
theorem dX0_tell_87 : decode cX0_tell 87 = .ok (.getfield 18, 3) := by decide +kernel
theorem dX0_tell_90 : decode cX0_tell 90 = .ok (.iload_n 1, 1) := by decide +kernel
theorem dX0_tell_91 : decode cX0_tell 91 = .ok (.dup2, 1) := by decide +kernel
theorem dX0_tell_92 : decode cX0_tell 92 = .ok (.iaload, 1) := by decide +kernel
theorem dX0_tell_93 : decode cX0_tell 93 = .ok (.iconst 1, 1) := by decide +kernel
theorem dX0_tell_94 : decode cX0_tell 94 = .ok (.iadd, 1) := by decide +kernel
theorem dX0_tell_95 : decode cX0_tell 95 = .ok (.iastore, 1) := by decide +kernel
theorem dX0_tell_96 : decode cX0_tell 96 = .ok (.iload_n 1, 1) := by decide +kernel
theorem dX0_tell_97 : decode cX0_tell 97 = .ok (.aload_n 0, 1) := by decide +kernel
theorem dX0_tell_98 : decode cX0_tell 98 = .ok (.getfield 40, 3) := by decide +kernel
theorem dX0_tell_101 : decode cX0_tell 101 = .ok (.if_icmp .ne 22, 3) := by decide +kernel
theorem dX0_tell_104 : decode cX0_tell 104 = .ok (.iload 4, 2) := by decide +kernel
theorem dX0_tell_106 : decode cX0_tell 106 = .ok (.aload_n 0, 1) := by decide +kernel
theorem dX0_tell_107 : decode cX0_tell 107 = .ok (.getfield 43, 3) := by decide +kernel
theorem dX0_tell_110 : decode cX0_tell 110 = .ok (.if_icmp .ne 13, 3) := by decide +kernel
theorem dX0_tell_113 : decode cX0_tell 113 = .ok (.aload_n 0, 1) := by decide +kernel
theorem dX0_tell_114 : decode cX0_tell 114 = .ok (.iload_n 2, 1) := by decide +kernel
theorem dX0_tell_115 : decode cX0_tell 115 = .ok (.putfield 46, 3) := by decide +kernel
theorem dX0_tell_118 : decode cX0_tell 118 = .ok (.aload_n 0, 1) := by decide +kernel
theorem dX0_tell_119 : decode cX0_tell 119 = .ok (.iload_n 3, 1) := by decide +kernel
theorem dX0_tell_120 : decode cX0_tell 120 = .ok (.putfield 49, 3) := by decide +kernel
theorem dX0_tell_123 : decode cX0_tell 123 = .ok (.return_, 1) := by decide +kernel
theorem dX1_init_0 : decode cX1_init 0 = .ok (.aload_n 0, 1) := by decide +kernel
theorem dX1_init_1 : decode cX1_init 1 = .ok (.invokespecial 3, 3) := by decide +kernel
theorem dX1_init_4 : decode cX1_init 4 = .ok (.aload_n 0, 1) := by decide +kernel
theorem dX1_init_5 : decode cX1_init 5 = .ok (.bipush 7, 2) := by decide +kernel
theorem dX1_init_7 : decode cX1_init 7 = .ok (.newarray .int, 2) := by decide +kernel
theorem dX1_init_9 : decode cX1_init 9 = .ok (.putfield 9, 3) := by decide +kernel
theorem dX1_init_12 : decode cX1_init 12 = .ok (.aload_n 0, 1) := by decide +kernel
theorem dX1_init_13 : decode cX1_init 13 = .ok (.iconst 0, 1) := by decide +kernel
theorem dX1_init_14 : decode cX1_init 14 = .ok (.putfield 15, 3) := by decide +kernel
theorem dX1_init_17 : decode cX1_init 17 = .ok (.aload_n 0, 1) := by decide +kernel
theorem dX1_init_18 : decode cX1_init 18 = .ok (.bipush 12, 2) := by decide +kernel
theorem dX1_init_20 : decode cX1_init 20 = .ok (.putfield 19, 3) := by decide +kernel
theorem dX1_init_23 : decode cX1_init 23 = .ok (.aload_n 0, 1) := by decide +kernel
theorem dX1_init_24 : decode cX1_init 24 = .ok (.iconst 0, 1) := by decide +kernel
theorem dX1_init_25 : decode cX1_init 25 = .ok (.putfield 22, 3) := by decide +kernel
theorem dX1_init_28 : decode cX1_init 28 = .ok (.return_, 1) := by decide +kernel
theorem dX1_hasString_0 : decode cX1_hasString 0 = .ok (.iload_n 1, 1) := by decide +kernel
theorem dX1_hasString_1 : decode cX1_hasString 1 = .ok (.ifCond .lt 15, 3) := by decide +kernel
theorem dX1_hasString_4 : decode cX1_hasString 4 = .ok (.iload_n 1, 1) := by decide +kernel
theorem dX1_hasString_5 : decode cX1_hasString 5 = .ok (.aload_n 0, 1) := by decide +kernel
theorem dX1_hasString_6 : decode cX1_hasString 6 = .ok (.getfield 15, 3) := by decide +kernel
theorem dX1_hasString_9 : decode cX1_hasString 9 = .ok (.if_icmp .ge 7, 3) := by decide +kernel
theorem dX1_hasString_12 : decode cX1_hasString 12 = .ok (.iconst 1, 1) := by decide +kernel
theorem dX1_hasString_13 : decode cX1_hasString 13 = .ok (.goto 4, 3) := by decide +kernel
theorem dX1_hasString_16 : decode cX1_hasString 16 = .ok (.iconst 0, 1) := by decide +kernel
theorem dX1_hasString_17 : decode cX1_hasString 17 = .ok (.ireturn, 1) := by decide +kernel
theorem dX1_addString_0 : decode cX1_addString 0 = .ok (.aload_n 0, 1) := by decide +kernel
theorem dX1_addString_1 : decode cX1_addString 1 = .ok (.getfield 15, 3) := by decide +kernel
theorem dX1_addString_4 : decode cX1_addString 4 = .ok (.bipush 7, 2) := by decide +kernel
theorem dX1_addString_6 : decode cX1_addString 6 = .ok (.if_icmp .lt 5, 3) := by decide +kernel
theorem dX1_addString_9 : decode cX1_addString 9 = .ok (.iconst 0, 1) := by decide +kernel
theorem dX1_addString_10 : decode cX1_addString 10 = .ok (.ireturn, 1) := by decide +kernel
theorem dX1_addString_11 : decode cX1_addString 11 = .ok (.aload_n 0, 1) := by decide +kernel
theorem dX1_addString_12 : decode cX1_addString 12 = .ok (.getfield 9, 3) := by decide +kernel
theorem dX1_addString_15 : decode cX1_addString 15 = .ok (.aload_n 0, 1) := by decide +kernel
theorem dX1_addString_16 : decode cX1_addString 16 = .ok (.getfield 15, 3) := by decide +kernel
theorem dX1_addString_19 : decode cX1_addString 19 = .ok (.iload_n 1, 1) := by decide +kernel
theorem dX1_addString_20 : decode cX1_addString 20 = .ok (.iastore, 1) := by decide +kernel
theorem dX1_addString_21 : decode cX1_addString 21 = .ok (.aload_n 0, 1) := by decide +kernel
theorem dX1_addString_22 : decode cX1_addString 22 = .ok (.dup, 1) := by decide +kernel
theorem dX1_addString_23 : decode cX1_addString 23 = .ok (.getfield 15, 3) := by decide +kernel
theorem dX1_addString_26 : decode cX1_addString 26 = .ok (.iconst 1, 1) := by decide +kernel
theorem dX1_addString_27 : decode cX1_addString 27 = .ok (.iadd, 1) := by decide +kernel
theorem dX1_addString_28 : decode cX1_addString 28 = .ok (.putfield 15, 3) := by decide +kernel
theorem dX1_addString_31 : decode cX1_addString 31 = .ok (.iconst 1, 1) := by decide +kernel
theorem dX1_addString_32 : decode cX1_addString 32 = .ok (.ireturn, 1) := by decide +kernel
theorem dX1_fretOf_0 : decode cX1_fretOf 0 = .ok (.aload_n 0, 1) := by decide +kernel
theorem dX1_fretOf_1 : decode cX1_fretOf 1 = .ok (.iload_n 1, 1) := by decide +kernel
theorem dX1_fretOf_2 : decode cX1_fretOf 2 = .ok (.invokevirtual 25, 3) := by decide +kernel
theorem dX1_fretOf_5 : decode cX1_fretOf 5 = .ok (.ifCond .ne 5, 3) := by decide +kernel
theorem dX1_fretOf_8 : decode cX1_fretOf 8 = .ok (.iconst (-1), 1) := by decide +kernel
theorem dX1_fretOf_9 : decode cX1_fretOf 9 = .ok (.ireturn, 1) := by decide +kernel
theorem dX1_fretOf_10 : decode cX1_fretOf 10 = .ok (.iload_n 2, 1) := by decide +kernel
theorem dX1_fretOf_11 : decode cX1_fretOf 11 = .ok (.aload_n 0, 1) := by decide +kernel
theorem dX1_fretOf_12 : decode cX1_fretOf 12 = .ok (.getfield 9, 3) := by decide +kernel
theorem dX1_fretOf_15 : decode cX1_fretOf 15 = .ok (.iload_n 1, 1) := by decide +kernel
theorem dX1_fretOf_16 : decode cX1_fretOf 16 = .ok (.iaload, 1) := by decide +kernel
theorem dX1_fretOf_17 : decode cX1_fretOf 17 = .ok (.isub, 1) := by decide +kernel
theorem dX1_fretOf_18 : decode cX1_fretOf 18 = .ok (.istore_n 3, 1) := by decide +kernel
theorem dX1_fretOf_19 : decode cX1_fretOf 19 = .ok (.iload_n 3, 1) := by decide +kernel
theorem dX1_fretOf_20 : decode cX1_fretOf 20 = .ok (.aload_n 0, 1) := by decide +kernel
theorem dX1_fretOf_21 : decode cX1_fretOf 21 = .ok (.getfield 22, 3) := by decide +kernel
theorem dX1_fretOf_24 : decode cX1_fretOf 24 = .ok (.if_icmp .lt 15, 3) := by decide +kernel
theorem dX1_fretOf_27 : decode cX1_fretOf 27 = .ok (.iload_n 3, 1) := by decide +kernel
theorem dX1_fretOf_28 : decode cX1_fretOf 28 = .ok (.aload_n 0, 1) := by decide +kernel
theorem dX1_fretOf_29 : decode cX1_fretOf 29 = .ok (.getfield 19, 3) := by decide +kernel
theorem dX1_fretOf_32 : decode cX1_fretOf 32 = .ok (.if_icmp .gt 7, 3) := by decide +kernel
theorem dX1_fretOf_35 : decode cX1_fretOf 35 = .ok (.iload_n 3, 1) := by decide +kernel
theorem dX1_fretOf_36 : decode cX1_fretOf 36 = .ok (.goto 4, 3) := by decide +kernel
theorem dX1_fretOf_39 : decode cX1_fretOf 39 = .ok (.iconst (-1), 1) := by decide +kernel
theorem dX1_fretOf_40 : decode cX1_fretOf 40 = .ok (.ireturn, 1) := by decide +kernel
theorem dX1_pitchBehindCapo_0 : decode cX1_pitchBehindCapo 0 = .ok (.aload_n 0, 1) := by decide +kernel
theorem dX1_pitchBehindCapo_1 : decode cX1_pitchBehindCapo 1 = .ok (.iload_n 1, 1) := by decide +kernel
theorem dX1_pitchBehindCapo_2 : decode cX1_pitchBehindCapo 2 = .ok (.invokevirtual 25, 3) := by decide +kernel
theorem dX1_pitchBehindCapo_5 : decode cX1_pitchBehindCapo 5 = .ok (.ifCond .eq 19, 3) := by decide +kernel
theorem dX1_pitchBehindCapo_8 : decode cX1_pitchBehindCapo 8 = .ok (.aload_n 0, 1) := by decide +kernel
theorem dX1_pitchBehindCapo_9 : decode cX1_pitchBehindCapo 9 = .ok (.getfield 9, 3) := by decide +kernel
theorem dX1_pitchBehindCapo_12 : decode cX1_pitchBehindCapo 12 = .ok (.iload_n 1, 1) := by decide +kernel
theorem dX1_pitchBehindCapo_13 : decode cX1_pitchBehindCapo 13 = .ok (.iaload, 1) := by decide +kernel
theorem dX1_pitchBehindCapo_14 : decode cX1_pitchBehindCapo 14 = .ok (.aload_n 0, 1) := by decide +kernel
theorem dX1_pitchBehindCapo_15 : decode cX1_pitchBehindCapo 15 = .ok (.getfield 22, 3) := by decide +kernel
theorem dX1_pitchBehindCapo_18 : decode cX1_pitchBehindCapo 18 = .ok (.iadd, 1) := by decide +kernel
theorem dX1_pitchBehindCapo_19 : decode cX1_pitchBehindCapo 19 = .ok (.iload_n 2, 1) := by decide +kernel
theorem dX1_pitchBehindCapo_20 : decode cX1_pitchBehindCapo 20 = .ok (.iadd, 1) := by decide +kernel
theorem dX1_pitchBehindCapo_21 : decode cX1_pitchBehindCapo 21 = .ok (.goto 4, 3) := by decide +kernel
theorem dX1_pitchBehindCapo_24 : decode cX1_pitchBehindCapo 24 = .ok (.iconst (-1), 1) := by decide +kernel
theorem dX1_pitchBehindCapo_25 : decode cX1_pitchBehindCapo 25 = .ok (.ireturn, 1) := by decide +kernel
theorem dX2_init_0 : decode cX2_init 0 = .ok (.aload_n 0, 1) := by decide +kernel
theorem dX2_init_1 : decode cX2_init 1 = .ok (.invokespecial 3, 3) := by decide +kernel
theorem dX2_init_4 : decode cX2_init 4 = .ok (.aload_n 0, 1) := by decide +kernel
theorem dX2_init_5 : decode cX2_init 5 = .ok (.bipush 40, 2) := by decide +kernel
theorem dX2_init_7 : decode cX2_init 7 = .ok (.newarray .int, 2) := by decide +kernel
theorem dX2_init_9 : decode cX2_init 9 = .ok (.putfield 9, 3) := by decide +kernel
theorem dX2_init_12 : decode cX2_init 12 = .ok (.aload_n 0, 1) := by decide +kernel
theorem dX2_init_13 : decode cX2_init 13 = .ok (.bipush 40, 2) := by decide +kernel
theorem dX2_init_15 : decode cX2_init 15 = .ok (.newarray .int, 2) := by decide +kernel
theorem dX2_init_17 : decode cX2_init 17 = .ok (.putfield 15, 3) := by decide +kernel
theorem dX2_init_20 : decode cX2_init 20 = .ok (.aload_n 0, 1) := by decide +kernel
theorem dX2_init_21 : decode cX2_init 21 = .ok (.bipush 40, 2) := by decide +kernel
theorem dX2_init_23 : decode cX2_init 23 = .ok (.newarray .int, 2) := by decide +kernel
theorem dX2_init_25 : decode cX2_init 25 = .ok (.putfield 18, 3) := by decide +kernel
theorem dX2_init_28 : decode cX2_init 28 = .ok (.aload_n 0, 1) := by decide +kernel
theorem dX2_init_29 : decode cX2_init 29 = .ok (.bipush 40, 2) := by decide +kernel
theorem dX2_init_31 : decode cX2_init 31 = .ok (.newarray .int, 2) := by decide +kernel
theorem dX2_init_33 : decode cX2_init 33 = .ok (.putfield 21, 3) := by decide +kernel
theorem dX2_init_36 : decode cX2_init 36 = .ok (.aload_n 0, 1) := by decide +kernel
theorem dX2_init_37 : decode cX2_init 37 = .ok (.iconst 0, 1) := by decide +kernel
theorem dX2_init_38 : decode cX2_init 38 = .ok (.putfield 24, 3) := by decide +kernel
theorem dX2_init_41 : decode cX2_init 41 = .ok (.return_, 1) := by decide +kernel
theorem dX2_forget_0 : decode cX2_forget 0 = .ok (.aload_n 0, 1) := by decide +kernel
theorem dX2_forget_1 : decode cX2_forget 1 = .ok (.iconst 0, 1) := by decide +kernel
theorem dX2_forget_2 : decode cX2_forget 2 = .ok (.putfield 24, 3) := by decide +kernel
theorem dX2_forget_5 : decode cX2_forget 5 = .ok (.return_, 1) := by decide +kernel
theorem dX2_isFound_0 : decode cX2_isFound 0 = .ok (.aload_n 0, 1) := by decide +kernel
theorem dX2_isFound_1 : decode cX2_isFound 1 = .ok (.getfield 24, 3) := by decide +kernel
theorem dX2_isFound_4 : decode cX2_isFound 4 = .ok (.ifCond .le 7, 3) := by decide +kernel
theorem dX2_isFound_7 : decode cX2_isFound 7 = .ok (.iconst 1, 1) := by decide +kernel
theorem dX2_isFound_8 : decode cX2_isFound 8 = .ok (.goto 4, 3) := by decide +kernel
theorem dX2_isFound_11 : decode cX2_isFound 11 = .ok (.iconst 0, 1) := by decide +kernel
theorem dX2_isFound_12 : decode cX2_isFound 12 = .ok (.ireturn, 1) := by decide +kernel
theorem dX2_hasEvent_0 : decode cX2_hasEvent 0 = .ok (.iload_n 1, 1) := by decide +kernel
theorem dX2_hasEvent_1 : decode cX2_hasEvent 1 = .ok (.ifCond .lt 15, 3) := by decide +kernel
theorem dX2_hasEvent_4 : decode cX2_hasEvent 4 = .ok (.iload_n 1, 1) := by decide +kernel
theorem dX2_hasEvent_5 : decode cX2_hasEvent 5 = .ok (.aload_n 0, 1) := by decide +kernel
theorem dX2_hasEvent_6 : decode cX2_hasEvent 6 = .ok (.getfield 24, 3) := by decide +kernel
theorem dX2_hasEvent_9 : decode cX2_hasEvent 9 = .ok (.if_icmp .ge 7, 3) := by decide +kernel
theorem dX2_hasEvent_12 : decode cX2_hasEvent 12 = .ok (.iconst 1, 1) := by decide +kernel
theorem dX2_hasEvent_13 : decode cX2_hasEvent 13 = .ok (.goto 4, 3) := by decide +kernel
theorem dX2_hasEvent_16 : decode cX2_hasEvent 16 = .ok (.iconst 0, 1) := by decide +kernel
theorem dX2_hasEvent_17 : decode cX2_hasEvent 17 = .ok (.ireturn, 1) := by decide +kernel
theorem dX2_addFirstLeast_0 : decode cX2_addFirstLeast 0 = .ok (.aload_n 0, 1) := by decide +kernel
theorem dX2_addFirstLeast_1 : decode cX2_addFirstLeast 1 = .ok (.getfield 24, 3) := by decide +kernel
theorem dX2_addFirstLeast_4 : decode cX2_addFirstLeast 4 = .ok (.bipush 40, 2) := by decide +kernel
theorem dX2_addFirstLeast_6 : decode cX2_addFirstLeast 6 = .ok (.if_icmp .ge 13, 3) := by decide +kernel
theorem dX2_addFirstLeast_9 : decode cX2_addFirstLeast 9 = .ok (.iload_n 2, 1) := by decide +kernel
theorem dX2_addFirstLeast_10 : decode cX2_addFirstLeast 10 = .ok (.ifCond .lt 9, 3) := by decide +kernel
theorem dX2_addFirstLeast_13 : decode cX2_addFirstLeast 13 = .ok (.iload_n 2, 1) := by decide +kernel
theorem dX2_addFirstLeast_14 : decode cX2_addFirstLeast 14 = .ok (.bipush 25, 2) := by decide +kernel
theorem dX2_addFirstLeast_16 : decode cX2_addFirstLeast 16 = .ok (.if_icmp .lt 4, 3) := by decide +kernel
theorem dX2_addFirstLeast_19 : decode cX2_addFirstLeast 19 = .ok (.return_, 1) := by decide +kernel
theorem dX2_addFirstLeast_20 : decode cX2_addFirstLeast 20 = .ok (.aload_n 0, 1) := by decide +kernel
theorem dX2_addFirstLeast_21 : decode cX2_addFirstLeast 21 = .ok (.getfield 9, 3) := by decide +kernel
theorem dX2_addFirstLeast_24 : decode cX2_addFirstLeast 24 = .ok (.aload_n 0, 1) := by decide +kernel
theorem dX2_addFirstLeast_25 : decode cX2_addFirstLeast 25 = .ok (.getfield 24, 3) := by decide +kernel
theorem dX2_addFirstLeast_28 : decode cX2_addFirstLeast 28 = .ok (.iload_n 2, 1) := by decide +kernel
theorem dX2_addFirstLeast_29 : decode cX2_addFirstLeast 29 = .ok (.iastore, 1) := by decide +kernel
theorem dX2_addFirstLeast_30 : decode cX2_addFirstLeast 30 = .ok (.aload_n 0, 1) := by decide +kernel
theorem dX2_addFirstLeast_31 : decode cX2_addFirstLeast 31 = .ok (.getfield 15, 3) := by decide +kernel
theorem dX2_addFirstLeast_34 : decode cX2_addFirstLeast 34 = .ok (.aload_n 0, 1) := by decide +kernel
theorem dX2_addFirstLeast_35 : decode cX2_addFirstLeast 35 = .ok (.getfield 24, 3) := by decide +kernel
theorem dX2_addFirstLeast_38 : decode cX2_addFirstLeast 38 = .ok (.aload_n 1, 1) := by decide +kernel
theorem dX2_addFirstLeast_39 : decode cX2_addFirstLeast 39 = .ok (.getfield 28, 3) := by decide +kernel
theorem dX2_addFirstLeast_42 : decode cX2_addFirstLeast 42 = .ok (.iload_n 2, 1) := by decide +kernel
theorem dX2_addFirstLeast_43 : decode cX2_addFirstLeast 43 = .ok (.iaload, 1) := by decide +kernel
theorem dX2_addFirstLeast_44 : decode cX2_addFirstLeast 44 = .ok (.iastore, 1) := by decide +kernel
theorem dX2_addFirstLeast_45 : decode cX2_addFirstLeast 45 = .ok (.aload_n 0, 1) := by decide +kernel
theorem dX2_addFirstLeast_46 : decode cX2_addFirstLeast 46 = .ok (.getfield 18, 3) := by decide +kernel
theorem dX2_addFirstLeast_49 : decode cX2_addFirstLeast 49 = .ok (.aload_n 0, 1) := by decide +kernel
theorem dX2_addFirstLeast_50 : decode cX2_addFirstLeast 50 = .ok (.getfield 24, 3) := by decide +kernel
theorem dX2_addFirstLeast_53 : decode cX2_addFirstLeast 53 = .ok (.aload_n 1, 1) := by decide +kernel
theorem dX2_addFirstLeast_54 : decode cX2_addFirstLeast 54 = .ok (.getfield 33, 3) := by decide +kernel
theorem dX2_addFirstLeast_57 : decode cX2_addFirstLeast 57 = .ok (.iload_n 2, 1) := by decide +kernel
theorem dX2_addFirstLeast_58 : decode cX2_addFirstLeast 58 = .ok (.iaload, 1) := by decide +kernel
theorem dX2_addFirstLeast_59 : decode cX2_addFirstLeast 59 = .ok (.iastore, 1) := by decide +kernel
theorem dX2_addFirstLeast_60 : decode cX2_addFirstLeast 60 = .ok (.aload_n 0, 1) := by decide +kernel
theorem dX2_addFirstLeast_61 : decode cX2_addFirstLeast 61 = .ok (.getfield 21, 3) := by decide +kernel
theorem dX2_addFirstLeast_64 : decode cX2_addFirstLeast 64 = .ok (.aload_n 0, 1) := by decide +kernel
theorem dX2_addFirstLeast_65 : decode cX2_addFirstLeast 65 = .ok (.getfield 24, 3) := by decide +kernel
theorem dX2_addFirstLeast_68 : decode cX2_addFirstLeast 68 = .ok (.aload_n 1, 1) := by decide +kernel
theorem dX2_addFirstLeast_69 : decode cX2_addFirstLeast 69 = .ok (.iload_n 2, 1) := by decide +kernel
theorem dX2_addFirstLeast_70 : decode cX2_addFirstLeast 70 = .ok (.invokevirtual 36, 3) := by decide +kernel
theorem dX2_addFirstLeast_73 : decode cX2_addFirstLeast 73 = .ok (.iastore, 1) := by decide +kernel
theorem dX2_addFirstLeast_74 : decode cX2_addFirstLeast 74 = .ok (.aload_n 0, 1) := by decide +kernel
theorem dX2_addFirstLeast_75 : decode cX2_addFirstLeast 75 = .ok (.dup, 1) := by decide +kernel
theorem dX2_addFirstLeast_76 : decode cX2_addFirstLeast 76 = .ok (.getfield 24, 3) := by decide +kernel
theorem dX2_addFirstLeast_79 : decode cX2_addFirstLeast 79 = .ok (.iconst 1, 1) := by decide +kernel
theorem dX2_addFirstLeast_80 : decode cX2_addFirstLeast 80 = .ok (.iadd, 1) := by decide +kernel
theorem dX2_addFirstLeast_81 : decode cX2_addFirstLeast 81 = .ok (.putfield 24, 3) := by decide +kernel
theorem dX2_addFirstLeast_84 : decode cX2_addFirstLeast 84 = .ok (.return_, 1) := by decide +kernel
theorem dX3_init_0 : decode cX3_init 0 = .ok (.aload_n 0, 1) := by decide +kernel
theorem dX3_init_1 : decode cX3_init 1 = .ok (.invokespecial 3, 3) := by decide +kernel
theorem dX3_init_4 : decode cX3_init 4 = .ok (.aload_n 0, 1) := by decide +kernel
theorem dX3_init_5 : decode cX3_init 5 = .ok (.sipush 1000, 3) := by decide +kernel
theorem dX3_init_8 : decode cX3_init 8 = .ok (.newarray .int, 2) := by decide +kernel
theorem dX3_init_10 : decode cX3_init 10 = .ok (.putfield 9, 3) := by decide +kernel
theorem dX3_init_13 : decode cX3_init 13 = .ok (.aload_n 0, 1) := by decide +kernel
theorem dX3_init_14 : decode cX3_init 14 = .ok (.sipush 1000, 3) := by decide +kernel
theorem dX3_init_17 : decode cX3_init 17 = .ok (.newarray .int, 2) := by decide +kernel
theorem dX3_init_19 : decode cX3_init 19 = .ok (.putfield 15, 3) := by decide +kernel
theorem dX3_init_22 : decode cX3_init 22 = .ok (.aload_n 0, 1) := by decide +kernel
theorem dX3_init_23 : decode cX3_init 23 = .ok (.iconst (-1), 1) := by decide +kernel
theorem dX3_init_24 : decode cX3_init 24 = .ok (.putfield 18, 3) := by decide +kernel
theorem dX3_init_27 : decode cX3_init 27 = .ok (.aload_n 0, 1) := by decide +kernel
theorem dX3_init_28 : decode cX3_init 28 = .ok (.iconst 0, 1) := by decide +kernel
theorem dX3_init_29 : decode cX3_init 29 = .ok (.putfield 22, 3) := by decide +kernel
theorem dX3_init_32 : decode cX3_init 32 = .ok (.aload_n 0, 1) := by decide +kernel
theorem dX3_init_33 : decode cX3_init 33 = .ok (.aload_n 1, 1) := by decide +kernel
theorem dX3_init_34 : decode cX3_init 34 = .ok (.putfield 25, 3) := by decide +kernel
theorem dX3_init_37 : decode cX3_init 37 = .ok (.aload_n 0, 1) := by decide +kernel
theorem dX3_init_38 : decode cX3_init 38 = .ok (.aload_n 2, 1) := by decide +kernel
theorem dX3_init_39 : decode cX3_init 39 = .ok (.putfield 29, 3) := by decide +kernel
theorem dX3_init_42 : decode cX3_init 42 = .ok (.aload_n 0, 1) := by decide +kernel
theorem dX3_init_43 : decode cX3_init 43 = .ok (.aload_n 3, 1) := by decide +kernel
theorem dX3_init_44 : decode cX3_init 44 = .ok (.putfield 32, 3) := by decide +kernel
theorem dX3_init_47 : decode cX3_init 47 = .ok (.aload_n 0, 1) := by decide +kernel
theorem dX3_init_48 : decode cX3_init 48 = .ok (.aload 4, 2) := by decide +kernel
theorem dX3_init_50 : decode cX3_init 50 = .ok (.putfield 36, 3) := by decide +kernel
theorem dX3_init_53 : decode cX3_init 53 = .ok (.return_, 1) := by decide +kernel
theorem dX3_search_0 : decode cX3_search 0 = .ok (.aload_n 0, 1) := by decide +kernel
theorem dX3_search_1 : decode cX3_search 1 = .ok (.getfield 32, 3) := by decide +kernel
theorem dX3_search_4 : decode cX3_search 4 = .ok (.getfield 40, 3) := by decide +kernel
theorem dX3_search_7 : decode cX3_search 7 = .ok (.iconst 1, 1) := by decide +kernel
theorem dX3_search_8 : decode cX3_search 8 = .ok (.isub, 1) := by decide +kernel
theorem dX3_search_9 : decode cX3_search 9 = .ok (.istore_n 1, 1) := by decide +kernel
theorem dX3_search_10 : decode cX3_search 10 = .ok (.iload_n 1, 1) := by decide +kernel
theorem dX3_search_11 : decode cX3_search 11 = .ok (.ifCond .lt 37, 3) := by decide +kernel
theorem dX3_search_14 : decode cX3_search 14 = .ok (.aload_n 0, 1) := by decide +kernel
theorem dX3_search_15 : decode cX3_search 15 = .ok (.getfield 36, 3) := by decide +kernel
theorem dX3_search_18 : decode cX3_search 18 = .ok (.iload_n 1, 1) := by decide +kernel
theorem dX3_search_19 : decode cX3_search 19 = .ok (.invokevirtual 45, 3) := by decide +kernel
theorem dX3_search_22 : decode cX3_search 22 = .ok (.iconst 0, 1) := by decide +kernel
theorem dX3_search_23 : decode cX3_search 23 = .ok (.istore_n 2, 1) := by decide +kernel
theorem dX3_search_24 : decode cX3_search 24 = .ok (.iload_n 2, 1) := by decide +kernel
theorem dX3_search_25 : decode cX3_search 25 = .ok (.bipush 25, 2) := by decide +kernel
theorem dX3_search_27 : decode cX3_search 27 = .ok (.if_icmp .ge 15, 3) := by decide +kernel
theorem dX3_search_30 : decode cX3_search 30 = .ok (.aload_n 0, 1) := by decide +kernel
theorem dX3_search_31 : decode cX3_search 31 = .ok (.iload_n 1, 1) := by decide +kernel
theorem dX3_search_32 : decode cX3_search 32 = .ok (.iload_n 2, 1) := by decide +kernel
theorem dX3_search_33 : decode cX3_search 33 = .ok (.invokevirtual 51, 3) := by decide +kernel
theorem dX3_search_36 : decode cX3_search 36 = .ok (.iinc 2 1, 3) := by decide +kernel
theorem dX3_search_39 : decode cX3_search 39 = .ok (.goto (-15), 3) := by decide +kernel
theorem dX3_search_42 : decode cX3_search 42 = .ok (.iinc 1 (-1), 3) := by decide +kernel
theorem dX3_search_45 : decode cX3_search 45 = .ok (.goto (-35), 3) := by decide +kernel
theorem dX3_search_48 : decode cX3_search 48 = .ok (.aload_n 0, 1) := by decide +kernel
theorem dX3_search_49 : decode cX3_search 49 = .ok (.iconst 0, 1) := by decide +kernel
theorem dX3_search_50 : decode cX3_search 50 = .ok (.iconst (-1), 1) := by decide +kernel
theorem dX3_search_51 : decode cX3_search 51 = .ok (.invokevirtual 55, 3) := by decide +kernel
theorem dX3_search_54 : decode cX3_search 54 = .ok (.return_, 1) := by decide +kernel
theorem dX3_choose_0 : decode cX3_choose 0 = .ok (.iconst (-1), 1) := by decide +kernel
theorem dX3_choose_1 : decode cX3_choose 1 = .ok (.istore_n 2, 1) := by decide +kernel
theorem dX3_choose_2 : decode cX3_choose 2 = .ok (.iconst 0, 1) := by decide +kernel
theorem dX3_choose_3 : decode cX3_choose 3 = .ok (.istore_n 3, 1) := by decide +kernel
theorem dX3_choose_4 : decode cX3_choose 4 = .ok (.iload_n 3, 1) := by decide +kernel
theorem dX3_choose_5 : decode cX3_choose 5 = .ok (.aload_n 0, 1) := by decide +kernel
theorem dX3_choose_6 : decode cX3_choose 6 = .ok (.getfield 32, 3) := by decide +kernel
theorem dX3_choose_9 : decode cX3_choose 9 = .ok (.getfield 40, 3) := by decide +kernel
theorem dX3_choose_12 : decode cX3_choose 12 = .ok (.if_icmp .ge 38, 3) := by decide +kernel
theorem dX3_choose_15 : decode cX3_choose 15 = .ok (.aload_n 0, 1) := by decide +kernel
theorem dX3_choose_16 : decode cX3_choose 16 = .ok (.iload_n 3, 1) := by decide +kernel
theorem dX3_choose_17 : decode cX3_choose 17 = .ok (.iload_n 2, 1) := by decide +kernel
theorem dX3_choose_18 : decode cX3_choose 18 = .ok (.invokevirtual 58, 3) := by decide +kernel
theorem dX3_choose_21 : decode cX3_choose 21 = .ok (.istore 4, 2) := by decide +kernel
theorem dX3_choose_23 : decode cX3_choose 23 = .ok (.aload_n 0, 1) := by decide +kernel
theorem dX3_choose_24 : decode cX3_choose 24 = .ok (.getfield 36, 3) := by decide +kernel
theorem dX3_choose_27 : decode cX3_choose 27 = .ok (.iload_n 3, 1) := by decide +kernel
theorem dX3_choose_28 : decode cX3_choose 28 = .ok (.invokevirtual 45, 3) := by decide +kernel
theorem dX3_choose_31 : decode cX3_choose 31 = .ok (.aload_n 1, 1) := by decide +kernel
theorem dX3_choose_32 : decode cX3_choose 32 = .ok (.aload_n 0, 1) := by decide +kernel
theorem dX3_choose_33 : decode cX3_choose 33 = .ok (.getfield 36, 3) := by decide +kernel
theorem dX3_choose_36 : decode cX3_choose 36 = .ok (.iload 4, 2) := by decide +kernel
theorem dX3_choose_38 : decode cX3_choose 38 = .ok (.invokevirtual 62, 3) := by decide +kernel
theorem dX3_choose_41 : decode cX3_choose 41 = .ok (.iload 4, 2) := by decide +kernel
theorem dX3_choose_43 : decode cX3_choose 43 = .ok (.istore_n 2, 1) := by decide +kernel
theorem dX3_choose_44 : decode cX3_choose 44 = .ok (.iinc 3 1, 3) := by decide +kernel
theorem dX3_choose_47 : decode cX3_choose 47 = .ok (.goto (-43), 3) := by decide +kernel
theorem dX3_choose_50 : decode cX3_choose 50 = .ok (.return_, 1) := by decide +kernel
theorem dX3_fillCell_0 : decode cX3_fillCell 0 = .ok (.iload_n 1, 1) := by decide +kernel
theorem dX3_fillCell_1 : decode cX3_fillCell 1 = .ok (.iload_n 2, 1) := by decide +kernel
theorem dX3_fillCell_2 : decode cX3_fillCell 2 = .ok (.invokestatic 68, 3) := by decide +kernel
theorem dX3_fillCell_5 : decode cX3_fillCell 5 = .ok (.ifCond .ne 4, 3) := by decide +kernel
theorem dX3_fillCell_8 : decode cX3_fillCell 8 = .ok (.return_, 1) := by decide +kernel
theorem dX3_fillCell_9 : decode cX3_fillCell 9 = .ok (.iload_n 1, 1) := by decide +kernel
theorem dX3_fillCell_10 : decode cX3_fillCell 10 = .ok (.bipush 25, 2) := by decide +kernel
theorem dX3_fillCell_12 : decode cX3_fillCell 12 = .ok (.imul, 1) := by decide +kernel
theorem dX3_fillCell_13 : decode cX3_fillCell 13 = .ok (.iload_n 2, 1) := by decide +kernel
theorem dX3_fillCell_14 : decode cX3_fillCell 14 = .ok (.iadd, 1) := by decide +kernel
theorem dX3_fillCell_15 : decode cX3_fillCell 15 = .ok (.istore_n 3, 1) := by decide +kernel
theorem dX3_fillCell_16 : decode cX3_fillCell 16 = .ok (.aload_n 0, 1) := by decide +kernel
theorem dX3_fillCell_17 : decode cX3_fillCell 17 = .ok (.getfield 9, 3) := by decide +kernel
theorem dX3_fillCell_20 : decode cX3_fillCell 20 = .ok (.iload_n 3, 1) := by decide +kernel
theorem dX3_fillCell_21 : decode cX3_fillCell 21 = .ok (.iconst (-1), 1) := by decide +kernel
theorem dX3_fillCell_22 : decode cX3_fillCell 22 = .ok (.iastore, 1) := by decide +kernel
theorem dX3_fillCell_23 : decode cX3_fillCell 23 = .ok (.aload_n 0, 1) := by decide +kernel
theorem dX3_fillCell_24 : decode cX3_fillCell 24 = .ok (.getfield 36, 3) := by decide +kernel
theorem dX3_fillCell_27 : decode cX3_fillCell 27 = .ok (.getfield 72, 3) := by decide +kernel
theorem dX3_fillCell_30 : decode cX3_fillCell 30 = .ok (.iload_n 2, 1) := by decide +kernel
theorem dX3_fillCell_31 : decode cX3_fillCell 31 = .ok (.iaload, 1) := by decide +kernel
theorem dX3_fillCell_32 : decode cX3_fillCell 32 = .ok (.ifCond .ne 4, 3) := by decide +kernel
theorem dX3_fillCell_35 : decode cX3_fillCell 35 = .ok (.return_, 1) := by decide +kernel
theorem dX3_fillCell_36 : decode cX3_fillCell 36 = .ok (.aload_n 0, 1) := by decide +kernel
theorem dX3_fillCell_37 : decode cX3_fillCell 37 = .ok (.iload_n 1, 1) := by decide +kernel
theorem dX3_fillCell_38 : decode cX3_fillCell 38 = .ok (.iconst 1, 1) := by decide +kernel
theorem dX3_fillCell_39 : decode cX3_fillCell 39 = .ok (.iadd, 1) := by decide +kernel
theorem dX3_fillCell_40 : decode cX3_fillCell 40 = .ok (.iload_n 2, 1) := by decide +kernel
theorem dX3_fillCell_41 : decode cX3_fillCell 41 = .ok (.invokevirtual 55, 3) := by decide +kernel
theorem dX3_fillCell_44 : decode cX3_fillCell 44 = .ok (.aload_n 0, 1) := by decide +kernel
theorem dX3_fillCell_45 : decode cX3_fillCell 45 = .ok (.getfield 18, 3) := by decide +kernel
theorem dX3_fillCell_48 : decode cX3_fillCell 48 = .ok (.iconst (-1), 1) := by decide +kernel
theorem dX3_fillCell_49 : decode cX3_fillCell 49 = .ok (.if_icmp .ne 4, 3) := by decide +kernel
theorem dX3_fillCell_52 : decode cX3_fillCell 52 = .ok (.return_, 1) := by decide +kernel
theorem dX3_fillCell_53 : decode cX3_fillCell 53 = .ok (.aload_n 0, 1) := by decide +kernel
theorem dX3_fillCell_54 : decode cX3_fillCell 54 = .ok (.getfield 9, 3) := by decide +kernel
theorem dX3_fillCell_57 : decode cX3_fillCell 57 = .ok (.iload_n 3, 1) := by decide +kernel
theorem dX3_fillCell_58 : decode cX3_fillCell 58 = .ok (.aload_n 0, 1) := by decide +kernel
theorem dX3_fillCell_59 : decode cX3_fillCell 59 = .ok (.getfield 36, 3) := by decide +kernel
theorem dX3_fillCell_62 : decode cX3_fillCell 62 = .ok (.getfield 75, 3) := by decide +kernel
theorem dX3_fillCell_65 : decode cX3_fillCell 65 = .ok (.iload_n 2, 1) := by decide +kernel
theorem dX3_fillCell_66 : decode cX3_fillCell 66 = .ok (.iaload, 1) := by decide +kernel
theorem dX3_fillCell_67 : decode cX3_fillCell 67 = .ok (.aload_n 0, 1) := by decide +kernel
theorem dX3_fillCell_68 : decode cX3_fillCell 68 = .ok (.getfield 18, 3) := by decide +kernel
theorem dX3_fillCell_71 : decode cX3_fillCell 71 = .ok (.iadd, 1) := by decide +kernel
theorem dX3_fillCell_72 : decode cX3_fillCell 72 = .ok (.iastore, 1) := by decide +kernel
theorem dX3_fillCell_73 : decode cX3_fillCell 73 = .ok (.aload_n 0, 1) := by decide +kernel
theorem dX3_fillCell_74 : decode cX3_fillCell 74 = .ok (.getfield 15, 3) := by decide +kernel
theorem dX3_fillCell_77 : decode cX3_fillCell 77 = .ok (.iload_n 3, 1) := by decide +kernel
theorem dX3_fillCell_78 : decode cX3_fillCell 78 = .ok (.aload_n 0, 1) := by decide +kernel
theorem dX3_fillCell_79 : decode cX3_fillCell 79 = .ok (.getfield 36, 3) := by decide +kernel
theorem dX3_fillCell_82 : decode cX3_fillCell 82 = .ok (.getfield 78, 3) := by decide +kernel
theorem dX3_fillCell_85 : decode cX3_fillCell 85 = .ok (.iload_n 2, 1) := by decide +kernel
theorem dX3_fillCell_86 : decode cX3_fillCell 86 = .ok (.iaload, 1) := by decide +kernel
theorem dX3_fillCell_87 : decode cX3_fillCell 87 = .ok (.i2l, 1) := by decide +kernel
theorem dX3_fillCell_88 : decode cX3_fillCell 88 = .ok (.aload_n 0, 1) := by decide +kernel
theorem dX3_fillCell_89 : decode cX3_fillCell 89 = .ok (.getfield 22, 3) := by decide +kernel
theorem dX3_fillCell_92 : decode cX3_fillCell 92 = .ok (.i2l, 1) := by decide +kernel
theorem dX3_fillCell_93 : decode cX3_fillCell 93 = .ok (.lmul, 1) := by decide +kernel
theorem dX3_fillCell_94 : decode cX3_fillCell 94 = .ok (.invokestatic 81, 3) := by decide +kernel
theorem dX3_fillCell_97 : decode cX3_fillCell 97 = .ok (.iastore, 1) := by decide +kernel
theorem dX3_fillCell_98 : decode cX3_fillCell 98 = .ok (.return_, 1) := by decide +kernel
theorem dX3_weighRest_0 : decode cX3_weighRest 0 = .ok (.iload_n 1, 1) := by decide +kernel
theorem dX3_weighRest_1 : decode cX3_weighRest 1 = .ok (.aload_n 0, 1) := by decide +kernel
theorem dX3_weighRest_2 : decode cX3_weighRest 2 = .ok (.getfield 32, 3) := by decide +kernel
theorem dX3_weighRest_5 : decode cX3_weighRest 5 = .ok (.getfield 40, 3) := by decide +kernel
theorem dX3_weighRest_8 : decode cX3_weighRest 8 = .ok (.if_icmp .lt 14, 3) := by decide +kernel
theorem dX3_weighRest_11 : decode cX3_weighRest 11 = .ok (.aload_n 0, 1) := by decide +kernel
theorem dX3_weighRest_12 : decode cX3_weighRest 12 = .ok (.iconst 0, 1) := by decide +kernel
theorem dX3_weighRest_13 : decode cX3_weighRest 13 = .ok (.putfield 18, 3) := by decide +kernel
theorem dX3_weighRest_16 : decode cX3_weighRest 16 = .ok (.aload_n 0, 1) := by decide +kernel
theorem dX3_weighRest_17 : decode cX3_weighRest 17 = .ok (.iconst 1, 1) := by decide +kernel
theorem dX3_weighRest_18 : decode cX3_weighRest 18 = .ok (.putfield 22, 3) := by decide +kernel
theorem dX3_weighRest_21 : decode cX3_weighRest 21 = .ok (.return_, 1) := by decide +kernel
theorem dX3_weighRest_22 : decode cX3_weighRest 22 = .ok (.aload_n 0, 1) := by decide +kernel
theorem dX3_weighRest_23 : decode cX3_weighRest 23 = .ok (.iconst (-1), 1) := by decide +kernel
theorem dX3_weighRest_24 : decode cX3_weighRest 24 = .ok (.putfield 18, 3) := by decide +kernel
theorem dX3_weighRest_27 : decode cX3_weighRest 27 = .ok (.aload_n 0, 1) := by decide +kernel
theorem dX3_weighRest_28 : decode cX3_weighRest 28 = .ok (.iconst 0, 1) := by decide +kernel
theorem dX3_weighRest_29 : decode cX3_weighRest 29 = .ok (.putfield 22, 3) := by decide +kernel
theorem dX3_weighRest_32 : decode cX3_weighRest 32 = .ok (.aload_n 0, 1) := by decide +kernel
theorem dX3_weighRest_33 : decode cX3_weighRest 33 = .ok (.getfield 25, 3) := by decide +kernel
theorem dX3_weighRest_36 : decode cX3_weighRest 36 = .ok (.getfield 85, 3) := by decide +kernel
theorem dX3_weighRest_39 : decode cX3_weighRest 39 = .ok (.iconst 1, 1) := by decide +kernel
theorem dX3_weighRest_40 : decode cX3_weighRest 40 = .ok (.iadd, 1) := by decide +kernel
theorem dX3_weighRest_41 : decode cX3_weighRest 41 = .ok (.istore_n 3, 1) := by decide +kernel
theorem dX3_weighRest_42 : decode cX3_weighRest 42 = .ok (.iload_n 3, 1) := by decide +kernel
theorem dX3_weighRest_43 : decode cX3_weighRest 43 = .ok (.aload_n 0, 1) := by decide +kernel
theorem dX3_weighRest_44 : decode cX3_weighRest 44 = .ok (.getfield 25, 3) := by decide +kernel
theorem dX3_weighRest_47 : decode cX3_weighRest 47 = .ok (.getfield 90, 3) := by decide +kernel
theorem dX3_weighRest_50 : decode cX3_weighRest 50 = .ok (.if_icmp .gt 92, 3) := by decide +kernel
theorem dX3_weighRest_53 : decode cX3_weighRest 53 = .ok (.aload_n 0, 1) := by decide +kernel
theorem dX3_weighRest_54 : decode cX3_weighRest 54 = .ok (.iload_n 1, 1) := by decide +kernel
theorem dX3_weighRest_55 : decode cX3_weighRest 55 = .ok (.iload_n 2, 1) := by decide +kernel
theorem dX3_weighRest_56 : decode cX3_weighRest 56 = .ok (.iload_n 3, 1) := by decide +kernel
theorem dX3_weighRest_57 : decode cX3_weighRest 57 = .ok (.invokevirtual 93, 3) := by decide +kernel
theorem dX3_weighRest_60 : decode cX3_weighRest 60 = .ok (.istore 4, 2) := by decide +kernel
theorem dX3_weighRest_62 : decode cX3_weighRest 62 = .ok (.iload 4, 2) := by decide +kernel
theorem dX3_weighRest_64 : decode cX3_weighRest 64 = .ok (.iconst (-1), 1) := by decide +kernel
theorem dX3_weighRest_65 : decode cX3_weighRest 65 = .ok (.if_icmp .ne 6, 3) := by decide +kernel
theorem dX3_weighRest_68 : decode cX3_weighRest 68 = .ok (.goto 68, 3) := by decide +kernel
theorem dX3_weighRest_71 : decode cX3_weighRest 71 = .ok (.aload_n 0, 1) := by decide +kernel
theorem dX3_weighRest_72 : decode cX3_weighRest 72 = .ok (.getfield 18, 3) := by decide +kernel
theorem dX3_weighRest_75 : decode cX3_weighRest 75 = .ok (.iconst (-1), 1) := by decide +kernel
theorem dX3_weighRest_76 : decode cX3_weighRest 76 = .ok (.if_icmp .eq 12, 3) := by decide +kernel
theorem dX3_weighRest_79 : decode cX3_weighRest 79 = .ok (.iload 4, 2) := by decide +kernel
theorem dX3_weighRest_81 : decode cX3_weighRest 81 = .ok (.aload_n 0, 1) := by decide +kernel
theorem dX3_weighRest_82 : decode cX3_weighRest 82 = .ok (.getfield 18, 3) := by decide +kernel
theorem dX3_weighRest_85 : decode cX3_weighRest 85 = .ok (.if_icmp .ge 22, 3) := by decide +kernel
theorem dX3_weighRest_88 : decode cX3_weighRest 88 = .ok (.aload_n 0, 1) := by decide +kernel
theorem dX3_weighRest_89 : decode cX3_weighRest 89 = .ok (.iload 4, 2) := by decide +kernel
theorem dX3_weighRest_91 : decode cX3_weighRest 91 = .ok (.putfield 18, 3) := by decide +kernel
theorem dX3_weighRest_94 : decode cX3_weighRest 94 = .ok (.aload_n 0, 1) := by decide +kernel
theorem dX3_weighRest_95 : decode cX3_weighRest 95 = .ok (.aload_n 0, 1) := by decide +kernel
theorem dX3_weighRest_96 : decode cX3_weighRest 96 = .ok (.iload_n 1, 1) := by decide +kernel
theorem dX3_weighRest_97 : decode cX3_weighRest 97 = .ok (.iload_n 3, 1) := by decide +kernel
theorem dX3_weighRest_98 : decode cX3_weighRest 98 = .ok (.invokevirtual 97, 3) := by decide +kernel
theorem dX3_weighRest_101 : decode cX3_weighRest 101 = .ok (.putfield 22, 3) := by decide +kernel
theorem dX3_weighRest_104 : decode cX3_weighRest 104 = .ok (.goto 32, 3) := by decide +kernel
theorem dX3_weighRest_107 : decode cX3_weighRest 107 = .ok (.iload 4, 2) := by decide +kernel
theorem dX3_weighRest_109 : decode cX3_weighRest 109 = .ok (.aload_n 0, 1) := by decide +kernel
theorem dX3_weighRest_110 : decode cX3_weighRest 110 = .ok (.getfield 18, 3) := by decide +kernel
theorem dX3_weighRest_113 : decode cX3_weighRest 113 = .ok (.if_icmp .ne 23, 3) := by decide +kernel
theorem dX3_weighRest_116 : decode cX3_weighRest 116 = .ok (.aload_n 0, 1) := by decide +kernel
theorem dX3_weighRest_117 : decode cX3_weighRest 117 = .ok (.aload_n 0, 1) := by decide +kernel
theorem dX3_weighRest_118 : decode cX3_weighRest 118 = .ok (.getfield 22, 3) := by decide +kernel
theorem dX3_weighRest_121 : decode cX3_weighRest 121 = .ok (.i2l, 1) := by decide +kernel
theorem dX3_weighRest_122 : decode cX3_weighRest 122 = .ok (.aload_n 0, 1) := by decide +kernel
theorem dX3_weighRest_123 : decode cX3_weighRest 123 = .ok (.iload_n 1, 1) := by decide +kernel
theorem dX3_weighRest_124 : decode cX3_weighRest 124 = .ok (.iload_n 3, 1) := by decide +kernel
theorem dX3_weighRest_125 : decode cX3_weighRest 125 = .ok (.invokevirtual 97, 3) := by decide +kernel
theorem dX3_weighRest_128 : decode cX3_weighRest 128 = .ok (.i2l, 1) := by decide +kernel
theorem dX3_weighRest_129 : decode cX3_weighRest 129 = .ok (.ladd, 1) := by decide +kernel
theorem dX3_weighRest_130 : decode cX3_weighRest 130 = .ok (.invokestatic 81, 3) := by decide +kernel
theorem dX3_weighRest_133 : decode cX3_weighRest 133 = .ok (.putfield 22, 3) := by decide +kernel
theorem dX3_weighRest_136 : decode cX3_weighRest 136 = .ok (.iinc 3 1, 3) := by decide +kernel
theorem dX3_weighRest_139 : decode cX3_weighRest 139 = .ok (.goto (-97), 3) := by decide +kernel
theorem dX3_weighRest_142 : decode cX3_weighRest 142 = .ok (.return_, 1) := by decide +kernel
theorem dX3_firstBest_0 : decode cX3_firstBest 0 = .ok (.iconst (-1), 1) := by decide +kernel
theorem dX3_firstBest_1 : decode cX3_firstBest 1 = .ok (.istore_n 3, 1) := by decide +kernel
theorem dX3_firstBest_2 : decode cX3_firstBest 2 = .ok (.iconst (-1), 1) := by decide +kernel
theorem dX3_firstBest_3 : decode cX3_firstBest 3 = .ok (.istore 4, 2) := by decide +kernel
theorem dX3_firstBest_5 : decode cX3_firstBest 5 = .ok (.aload_n 0, 1) := by decide +kernel
theorem dX3_firstBest_6 : decode cX3_firstBest 6 = .ok (.getfield 25, 3) := by decide +kernel
theorem dX3_firstBest_9 : decode cX3_firstBest 9 = .ok (.getfield 85, 3) := by decide +kernel
theorem dX3_firstBest_12 : decode cX3_firstBest 12 = .ok (.iconst 1, 1) := by decide +kernel
theorem dX3_firstBest_13 : decode cX3_firstBest 13 = .ok (.iadd, 1) := by decide +kernel
theorem dX3_firstBest_14 : decode cX3_firstBest 14 = .ok (.istore 5, 2) := by decide +kernel
theorem dX3_firstBest_16 : decode cX3_firstBest 16 = .ok (.iload 5, 2) := by decide +kernel
theorem dX3_firstBest_18 : decode cX3_firstBest 18 = .ok (.aload_n 0, 1) := by decide +kernel
theorem dX3_firstBest_19 : decode cX3_firstBest 19 = .ok (.getfield 25, 3) := by decide +kernel
theorem dX3_firstBest_22 : decode cX3_firstBest 22 = .ok (.getfield 90, 3) := by decide +kernel
theorem dX3_firstBest_25 : decode cX3_firstBest 25 = .ok (.if_icmp .gt 44, 3) := by decide +kernel
theorem dX3_firstBest_28 : decode cX3_firstBest 28 = .ok (.aload_n 0, 1) := by decide +kernel
theorem dX3_firstBest_29 : decode cX3_firstBest 29 = .ok (.iload_n 1, 1) := by decide +kernel
theorem dX3_firstBest_30 : decode cX3_firstBest 30 = .ok (.iload_n 2, 1) := by decide +kernel
theorem dX3_firstBest_31 : decode cX3_firstBest 31 = .ok (.iload 5, 2) := by decide +kernel
theorem dX3_firstBest_33 : decode cX3_firstBest 33 = .ok (.invokevirtual 93, 3) := by decide +kernel
theorem dX3_firstBest_36 : decode cX3_firstBest 36 = .ok (.istore 6, 2) := by decide +kernel
theorem dX3_firstBest_38 : decode cX3_firstBest 38 = .ok (.iload 6, 2) := by decide +kernel
theorem dX3_firstBest_40 : decode cX3_firstBest 40 = .ok (.iconst (-1), 1) := by decide +kernel
theorem dX3_firstBest_41 : decode cX3_firstBest 41 = .ok (.if_icmp .eq 22, 3) := by decide +kernel
theorem dX3_firstBest_44 : decode cX3_firstBest 44 = .ok (.iload_n 3, 1) := by decide +kernel
theorem dX3_firstBest_45 : decode cX3_firstBest 45 = .ok (.iconst (-1), 1) := by decide +kernel
theorem dX3_firstBest_46 : decode cX3_firstBest 46 = .ok (.if_icmp .eq 10, 3) := by decide +kernel
theorem dX3_firstBest_49 : decode cX3_firstBest 49 = .ok (.iload 6, 2) := by decide +kernel
theorem dX3_firstBest_51 : decode cX3_firstBest 51 = .ok (.iload 4, 2) := by decide +kernel
theorem dX3_firstBest_53 : decode cX3_firstBest 53 = .ok (.if_icmp .ge 10, 3) := by decide +kernel
theorem dX3_firstBest_56 : decode cX3_firstBest 56 = .ok (.iload 5, 2) := by decide +kernel
theorem dX3_firstBest_58 : decode cX3_firstBest 58 = .ok (.istore_n 3, 1) := by decide +kernel
theorem dX3_firstBest_59 : decode cX3_firstBest 59 = .ok (.iload 6, 2) := by decide +kernel
theorem dX3_firstBest_61 : decode cX3_firstBest 61 = .ok (.istore 4, 2) := by decide +kernel
theorem dX3_firstBest_63 : decode cX3_firstBest 63 = .ok (.iinc 5 1, 3) := by decide +kernel
theorem dX3_firstBest_66 : decode cX3_firstBest 66 = .ok (.goto (-50), 3) := by decide +kernel
theorem dX3_firstBest_69 : decode cX3_firstBest 69 = .ok (.iload_n 3, 1) := by decide +kernel
theorem dX3_firstBest_70 : decode cX3_firstBest 70 = .ok (.ireturn, 1) := by decide +kernel
theorem dX3_sumFrom_0 : decode cX3_sumFrom 0 = .ok (.iload_n 1, 1) := by decide +kernel
theorem dX3_sumFrom_1 : decode cX3_sumFrom 1 = .ok (.iload_n 3, 1) := by decide +kernel
theorem dX3_sumFrom_2 : decode cX3_sumFrom 2 = .ok (.invokestatic 68, 3) := by decide +kernel
theorem dX3_sumFrom_5 : decode cX3_sumFrom 5 = .ok (.ifCond .eq 17, 3) := by decide +kernel
theorem dX3_sumFrom_8 : decode cX3_sumFrom 8 = .ok (.aload_n 0, 1) := by decide +kernel
theorem dX3_sumFrom_9 : decode cX3_sumFrom 9 = .ok (.getfield 9, 3) := by decide +kernel
theorem dX3_sumFrom_12 : decode cX3_sumFrom 12 = .ok (.iload_n 1, 1) := by decide +kernel
theorem dX3_sumFrom_13 : decode cX3_sumFrom 13 = .ok (.bipush 25, 2) := by decide +kernel
theorem dX3_sumFrom_15 : decode cX3_sumFrom 15 = .ok (.imul, 1) := by decide +kernel
theorem dX3_sumFrom_16 : decode cX3_sumFrom 16 = .ok (.iload_n 3, 1) := by decide +kernel
theorem dX3_sumFrom_17 : decode cX3_sumFrom 17 = .ok (.iadd, 1) := by decide +kernel
theorem dX3_sumFrom_18 : decode cX3_sumFrom 18 = .ok (.iaload, 1) := by decide +kernel
theorem dX3_sumFrom_19 : decode cX3_sumFrom 19 = .ok (.goto 4, 3) := by decide +kernel
theorem dX3_sumFrom_22 : decode cX3_sumFrom 22 = .ok (.iconst (-1), 1) := by decide +kernel
theorem dX3_sumFrom_23 : decode cX3_sumFrom 23 = .ok (.istore 4, 2) := by decide +kernel
theorem dX3_sumFrom_25 : decode cX3_sumFrom 25 = .ok (.iload 4, 2) := by decide +kernel
theorem dX3_sumFrom_27 : decode cX3_sumFrom 27 = .ok (.iconst (-1), 1) := by decide +kernel
theorem dX3_sumFrom_28 : decode cX3_sumFrom 28 = .ok (.if_icmp .eq 8, 3) := by decide +kernel
theorem dX3_sumFrom_31 : decode cX3_sumFrom 31 = .ok (.iload_n 2, 1) := by decide +kernel
theorem dX3_sumFrom_32 : decode cX3_sumFrom 32 = .ok (.iconst (-1), 1) := by decide +kernel
theorem dX3_sumFrom_33 : decode cX3_sumFrom 33 = .ok (.if_icmp .ne 6, 3) := by decide +kernel
theorem dX3_sumFrom_36 : decode cX3_sumFrom 36 = .ok (.iload 4, 2) := by decide +kernel
theorem dX3_sumFrom_38 : decode cX3_sumFrom 38 = .ok (.ireturn, 1) := by decide +kernel
theorem dX3_sumFrom_39 : decode cX3_sumFrom 39 = .ok (.iload 4, 2) := by decide +kernel
theorem dX3_sumFrom_41 : decode cX3_sumFrom 41 = .ok (.aload_n 0, 1) := by decide +kernel
theorem dX3_sumFrom_42 : decode cX3_sumFrom 42 = .ok (.getfield 29, 3) := by decide +kernel
theorem dX3_sumFrom_45 : decode cX3_sumFrom 45 = .ok (.iconst 0, 1) := by decide +kernel
theorem dX3_sumFrom_46 : decode cX3_sumFrom 46 = .ok (.iaload, 1) := by decide +kernel
theorem dX3_sumFrom_47 : decode cX3_sumFrom 47 = .ok (.iload_n 3, 1) := by decide +kernel
theorem dX3_sumFrom_48 : decode cX3_sumFrom 48 = .ok (.iload_n 2, 1) := by decide +kernel
theorem dX3_sumFrom_49 : decode cX3_sumFrom 49 = .ok (.isub, 1) := by decide +kernel
theorem dX3_sumFrom_50 : decode cX3_sumFrom 50 = .ok (.invokestatic 100, 3) := by decide +kernel
theorem dX3_sumFrom_53 : decode cX3_sumFrom 53 = .ok (.imul, 1) := by decide +kernel
theorem dX3_sumFrom_54 : decode cX3_sumFrom 54 = .ok (.iadd, 1) := by decide +kernel
theorem dX3_sumFrom_55 : decode cX3_sumFrom 55 = .ok (.ireturn, 1) := by decide +kernel
theorem dX3_waysAt_0 : decode cX3_waysAt 0 = .ok (.iload_n 1, 1) := by decide +kernel
theorem dX3_waysAt_1 : decode cX3_waysAt 1 = .ok (.iload_n 2, 1) := by decide +kernel
theorem dX3_waysAt_2 : decode cX3_waysAt 2 = .ok (.invokestatic 68, 3) := by decide +kernel
theorem dX3_waysAt_5 : decode cX3_waysAt 5 = .ok (.ifCond .eq 17, 3) := by decide +kernel
theorem dX3_waysAt_8 : decode cX3_waysAt 8 = .ok (.aload_n 0, 1) := by decide +kernel
theorem dX3_waysAt_9 : decode cX3_waysAt 9 = .ok (.getfield 15, 3) := by decide +kernel
theorem dX3_waysAt_12 : decode cX3_waysAt 12 = .ok (.iload_n 1, 1) := by decide +kernel
theorem dX3_waysAt_13 : decode cX3_waysAt 13 = .ok (.bipush 25, 2) := by decide +kernel
theorem dX3_waysAt_15 : decode cX3_waysAt 15 = .ok (.imul, 1) := by decide +kernel
theorem dX3_waysAt_16 : decode cX3_waysAt 16 = .ok (.iload_n 2, 1) := by decide +kernel
theorem dX3_waysAt_17 : decode cX3_waysAt 17 = .ok (.iadd, 1) := by decide +kernel
theorem dX3_waysAt_18 : decode cX3_waysAt 18 = .ok (.iaload, 1) := by decide +kernel
theorem dX3_waysAt_19 : decode cX3_waysAt 19 = .ok (.goto 4, 3) := by decide +kernel
theorem dX3_waysAt_22 : decode cX3_waysAt 22 = .ok (.iconst 0, 1) := by decide +kernel
theorem dX3_waysAt_23 : decode cX3_waysAt 23 = .ok (.ireturn, 1) := by decide +kernel
theorem dX3_isCell_0 : decode cX3_isCell 0 = .ok (.iload_n 0, 1) := by decide +kernel
theorem dX3_isCell_1 : decode cX3_isCell 1 = .ok (.ifCond .lt 23, 3) := by decide +kernel
theorem dX3_isCell_4 : decode cX3_isCell 4 = .ok (.iload_n 0, 1) := by decide +kernel
theorem dX3_isCell_5 : decode cX3_isCell 5 = .ok (.bipush 40, 2) := by decide +kernel
theorem dX3_isCell_7 : decode cX3_isCell 7 = .ok (.if_icmp .ge 17, 3) := by decide +kernel
theorem dX3_isCell_10 : decode cX3_isCell 10 = .ok (.iload_n 1, 1) := by decide +kernel
theorem dX3_isCell_11 : decode cX3_isCell 11 = .ok (.ifCond .lt 13, 3) := by decide +kernel
theorem dX3_isCell_14 : decode cX3_isCell 14 = .ok (.iload_n 1, 1) := by decide +kernel
theorem dX3_isCell_15 : decode cX3_isCell 15 = .ok (.bipush 25, 2) := by decide +kernel
theorem dX3_isCell_17 : decode cX3_isCell 17 = .ok (.if_icmp .ge 7, 3) := by decide +kernel
theorem dX3_isCell_20 : decode cX3_isCell 20 = .ok (.iconst 1, 1) := by decide +kernel
theorem dX3_isCell_21 : decode cX3_isCell 21 = .ok (.goto 4, 3) := by decide +kernel
theorem dX3_isCell_24 : decode cX3_isCell 24 = .ok (.iconst 0, 1) := by decide +kernel
theorem dX3_isCell_25 : decode cX3_isCell 25 = .ok (.ireturn, 1) := by decide +kernel
theorem dX3_atMostTies_0 : decode cX3_atMostTies 0 = .ok (.lload_n 0, 1) := by decide +kernel
theorem dX3_atMostTies_1 : decode cX3_atMostTies 1 = .ok (.ldc2_w 106, 3) := by decide +kernel
theorem dX3_atMostTies_4 : decode cX3_atMostTies 4 = .ok (.lcmp, 1) := by decide +kernel
theorem dX3_atMostTies_5 : decode cX3_atMostTies 5 = .ok (.ifCond .le 8, 3) := by decide +kernel
theorem dX3_atMostTies_8 : decode cX3_atMostTies 8 = .ok (.ldc 108, 2) := by decide +kernel
theorem dX3_atMostTies_10 : decode cX3_atMostTies 10 = .ok (.goto 5, 3) := by decide +kernel
theorem dX3_atMostTies_13 : decode cX3_atMostTies 13 = .ok (.lload_n 0, 1) := by decide +kernel
theorem dX3_atMostTies_14 : decode cX3_atMostTies 14 = .ok (.l2i, 1) := by decide +kernel
theorem dX3_atMostTies_15 : decode cX3_atMostTies 15 = .ok (.ireturn, 1) := by decide +kernel
theorem dX4_with_0 : decode cX4_with 0 = .ok (.iload_n 0, 1) := by decide +kernel
theorem dX4_with_1 : decode cX4_with 1 = .ok (.iload_n 2, 1) := by decide +kernel
theorem dX4_with_2 : decode cX4_with 2 = .ok (.iconst 3, 1) := by decide +kernel
theorem dX4_with_3 : decode cX4_with 3 = .ok (.iload_n 1, 1) := by decide +kernel
theorem dX4_with_4 : decode cX4_with 4 = .ok (.imul, 1) := by decide +kernel
theorem dX4_with_5 : decode cX4_with 5 = .ok (.ishl, 1) := by decide +kernel
theorem dX4_with_6 : decode cX4_with 6 = .ok (.ior, 1) := by decide +kernel
theorem dX4_with_7 : decode cX4_with 7 = .ok (.ireturn, 1) := by decide +kernel
theorem dX4_stringIn_0 : decode cX4_stringIn 0 = .ok (.iload_n 0, 1) := by decide +kernel
theorem dX4_stringIn_1 : decode cX4_stringIn 1 = .ok (.iconst 3, 1) := by decide +kernel
theorem dX4_stringIn_2 : decode cX4_stringIn 2 = .ok (.iload_n 1, 1) := by decide +kernel
theorem dX4_stringIn_3 : decode cX4_stringIn 3 = .ok (.imul, 1) := by decide +kernel
theorem dX4_stringIn_4 : decode cX4_stringIn 4 = .ok (.ishr, 1) := by decide +kernel
theorem dX4_stringIn_5 : decode cX4_stringIn 5 = .ok (.bipush 7, 2) := by decide +kernel
theorem dX4_stringIn_7 : decode cX4_stringIn 7 = .ok (.iand, 1) := by decide +kernel
theorem dX4_stringIn_8 : decode cX4_stringIn 8 = .ok (.ireturn, 1) := by decide +kernel
theorem dX5_init_0 : decode cX5_init 0 = .ok (.aload_n 0, 1) := by decide +kernel
theorem dX5_init_1 : decode cX5_init 1 = .ok (.invokespecial 3, 3) := by decide +kernel
theorem dX5_init_4 : decode cX5_init 4 = .ok (.aload_n 0, 1) := by decide +kernel
theorem dX5_init_5 : decode cX5_init 5 = .ok (.iconst 0, 1) := by decide +kernel
theorem dX5_init_6 : decode cX5_init 6 = .ok (.putfield 9, 3) := by decide +kernel
theorem dX5_init_9 : decode cX5_init 9 = .ok (.aload_n 0, 1) := by decide +kernel
theorem dX5_init_10 : decode cX5_init 10 = .ok (.bipush 7, 2) := by decide +kernel
theorem dX5_init_12 : decode cX5_init 12 = .ok (.newarray .int, 2) := by decide +kernel
theorem dX5_init_14 : decode cX5_init 14 = .ok (.putfield 15, 3) := by decide +kernel
theorem dX5_init_17 : decode cX5_init 17 = .ok (.aload_n 0, 1) := by decide +kernel
theorem dX5_init_18 : decode cX5_init 18 = .ok (.iconst (-1), 1) := by decide +kernel
theorem dX5_init_19 : decode cX5_init 19 = .ok (.putfield 19, 3) := by decide +kernel
theorem dX5_init_22 : decode cX5_init 22 = .ok (.aload_n 0, 1) := by decide +kernel
theorem dX5_init_23 : decode cX5_init 23 = .ok (.aload_n 1, 1) := by decide +kernel
theorem dX5_init_24 : decode cX5_init 24 = .ok (.putfield 22, 3) := by decide +kernel
theorem dX5_init_27 : decode cX5_init 27 = .ok (.aload_n 0, 1) := by decide +kernel
theorem dX5_init_28 : decode cX5_init 28 = .ok (.aload_n 2, 1) := by decide +kernel
theorem dX5_init_29 : decode cX5_init 29 = .ok (.putfield 26, 3) := by decide +kernel
theorem dX5_init_32 : decode cX5_init 32 = .ok (.aload_n 0, 1) := by decide +kernel
theorem dX5_init_33 : decode cX5_init 33 = .ok (.aload_n 3, 1) := by decide +kernel
theorem dX5_init_34 : decode cX5_init 34 = .ok (.putfield 30, 3) := by decide +kernel
theorem dX5_init_37 : decode cX5_init 37 = .ok (.return_, 1) := by decide +kernel
theorem dX5_findFault_0 : decode cX5_findFault 0 = .ok (.aload_n 0, 1) := by decide +kernel
theorem dX5_findFault_1 : decode cX5_findFault 1 = .ok (.aload_n 0, 1) := by decide +kernel
theorem dX5_findFault_2 : decode cX5_findFault 2 = .ok (.invokevirtual 34, 3) := by decide +kernel
theorem dX5_findFault_5 : decode cX5_findFault 5 = .ok (.putfield 19, 3) := by decide +kernel
theorem dX5_findFault_8 : decode cX5_findFault 8 = .ok (.aload_n 0, 1) := by decide +kernel
theorem dX5_findFault_9 : decode cX5_findFault 9 = .ok (.getfield 19, 3) := by decide +kernel
theorem dX5_findFault_12 : decode cX5_findFault 12 = .ok (.iconst (-1), 1) := by decide +kernel
theorem dX5_findFault_13 : decode cX5_findFault 13 = .ok (.if_icmp .eq 5, 3) := by decide +kernel
theorem dX5_findFault_16 : decode cX5_findFault 16 = .ok (.iconst 1, 1) := by decide +kernel
theorem dX5_findFault_17 : decode cX5_findFault 17 = .ok (.ireturn, 1) := by decide +kernel
theorem dX5_findFault_18 : decode cX5_findFault 18 = .ok (.aload_n 0, 1) := by decide +kernel
theorem dX5_findFault_19 : decode cX5_findFault 19 = .ok (.aload_n 0, 1) := by decide +kernel
theorem dX5_findFault_20 : decode cX5_findFault 20 = .ok (.invokevirtual 38, 3) := by decide +kernel
theorem dX5_findFault_23 : decode cX5_findFault 23 = .ok (.putfield 19, 3) := by decide +kernel
theorem dX5_findFault_26 : decode cX5_findFault 26 = .ok (.aload_n 0, 1) := by decide +kernel
theorem dX5_findFault_27 : decode cX5_findFault 27 = .ok (.getfield 19, 3) := by decide +kernel
theorem dX5_findFault_30 : decode cX5_findFault 30 = .ok (.iconst (-1), 1) := by decide +kernel
theorem dX5_findFault_31 : decode cX5_findFault 31 = .ok (.if_icmp .eq 5, 3) := by decide +kernel
theorem dX5_findFault_34 : decode cX5_findFault 34 = .ok (.iconst 2, 1) := by decide +kernel
theorem dX5_findFault_35 : decode cX5_findFault 35 = .ok (.ireturn, 1) := by decide +kernel
theorem dX5_findFault_36 : decode cX5_findFault 36 = .ok (.aload_n 0, 1) := by decide +kernel
theorem dX5_findFault_37 : decode cX5_findFault 37 = .ok (.aload_n 0, 1) := by decide +kernel
theorem dX5_findFault_38 : decode cX5_findFault 38 = .ok (.invokevirtual 41, 3) := by decide +kernel
theorem dX5_findFault_41 : decode cX5_findFault 41 = .ok (.putfield 19, 3) := by decide +kernel
theorem dX5_findFault_44 : decode cX5_findFault 44 = .ok (.aload_n 0, 1) := by decide +kernel
theorem dX5_findFault_45 : decode cX5_findFault 45 = .ok (.getfield 19, 3) := by decide +kernel
theorem dX5_findFault_48 : decode cX5_findFault 48 = .ok (.iconst (-1), 1) := by decide +kernel
theorem dX5_findFault_49 : decode cX5_findFault 49 = .ok (.if_icmp .eq 5, 3) := by decide +kernel
theorem dX5_findFault_52 : decode cX5_findFault 52 = .ok (.iconst 3, 1) := by decide +kernel
theorem dX5_findFault_53 : decode cX5_findFault 53 = .ok (.ireturn, 1) := by decide +kernel
theorem dX5_findFault_54 : decode cX5_findFault 54 = .ok (.aload_n 0, 1) := by decide +kernel
theorem dX5_findFault_55 : decode cX5_findFault 55 = .ok (.aload_n 0, 1) := by decide +kernel
theorem dX5_findFault_56 : decode cX5_findFault 56 = .ok (.invokevirtual 44, 3) := by decide +kernel
theorem dX5_findFault_59 : decode cX5_findFault 59 = .ok (.putfield 19, 3) := by decide +kernel
theorem dX5_findFault_62 : decode cX5_findFault 62 = .ok (.aload_n 0, 1) := by decide +kernel
theorem dX5_findFault_63 : decode cX5_findFault 63 = .ok (.getfield 19, 3) := by decide +kernel
theorem dX5_findFault_66 : decode cX5_findFault 66 = .ok (.iconst (-1), 1) := by decide +kernel
theorem dX5_findFault_67 : decode cX5_findFault 67 = .ok (.if_icmp .eq 5, 3) := by decide +kernel
theorem dX5_findFault_70 : decode cX5_findFault 70 = .ok (.iconst 4, 1) := by decide +kernel
theorem dX5_findFault_71 : decode cX5_findFault 71 = .ok (.ireturn, 1) := by decide +kernel
theorem dX5_findFault_72 : decode cX5_findFault 72 = .ok (.aload_n 0, 1) := by decide +kernel
theorem dX5_findFault_73 : decode cX5_findFault 73 = .ok (.aload_n 0, 1) := by decide +kernel
theorem dX5_findFault_74 : decode cX5_findFault 74 = .ok (.invokevirtual 47, 3) := by decide +kernel
theorem dX5_findFault_77 : decode cX5_findFault 77 = .ok (.putfield 19, 3) := by decide +kernel
theorem dX5_findFault_80 : decode cX5_findFault 80 = .ok (.aload_n 0, 1) := by decide +kernel
theorem dX5_findFault_81 : decode cX5_findFault 81 = .ok (.getfield 19, 3) := by decide +kernel
theorem dX5_findFault_84 : decode cX5_findFault 84 = .ok (.iconst (-1), 1) := by decide +kernel
theorem dX5_findFault_85 : decode cX5_findFault 85 = .ok (.if_icmp .eq 7, 3) := by decide +kernel
theorem dX5_findFault_88 : decode cX5_findFault 88 = .ok (.iconst 5, 1) := by decide +kernel
theorem dX5_findFault_89 : decode cX5_findFault 89 = .ok (.goto 4, 3) := by decide +kernel
theorem dX5_findFault_92 : decode cX5_findFault 92 = .ok (.iconst 0, 1) := by decide +kernel
theorem dX5_findFault_93 : decode cX5_findFault 93 = .ok (.ireturn, 1) := by decide +kernel
theorem dX5_takeEvents_0 : decode cX5_takeEvents 0 = .ok (.aload_n 0, 1) := by decide +kernel
theorem dX5_takeEvents_1 : decode cX5_takeEvents 1 = .ok (.getfield 26, 3) := by decide +kernel
theorem dX5_takeEvents_4 : decode cX5_takeEvents 4 = .ok (.iconst 0, 1) := by decide +kernel
theorem dX5_takeEvents_5 : decode cX5_takeEvents 5 = .ok (.putfield 50, 3) := by decide +kernel
theorem dX5_takeEvents_8 : decode cX5_takeEvents 8 = .ok (.iconst 1, 1) := by decide +kernel
theorem dX5_takeEvents_9 : decode cX5_takeEvents 9 = .ok (.istore_n 1, 1) := by decide +kernel
theorem dX5_takeEvents_10 : decode cX5_takeEvents 10 = .ok (.iload_n 1, 1) := by decide +kernel
theorem dX5_takeEvents_11 : decode cX5_takeEvents 11 = .ok (.aload_n 0, 1) := by decide +kernel
theorem dX5_takeEvents_12 : decode cX5_takeEvents 12 = .ok (.getfield 9, 3) := by decide +kernel
theorem dX5_takeEvents_15 : decode cX5_takeEvents 15 = .ok (.if_icmp .ge 36, 3) := by decide +kernel
theorem dX5_takeEvents_18 : decode cX5_takeEvents 18 = .ok (.aload_n 0, 1) := by decide +kernel
theorem dX5_takeEvents_19 : decode cX5_takeEvents 19 = .ok (.iload_n 1, 1) := by decide +kernel
theorem dX5_takeEvents_20 : decode cX5_takeEvents 20 = .ok (.invokevirtual 55, 3) := by decide +kernel
theorem dX5_takeEvents_23 : decode cX5_takeEvents 23 = .ok (.aload_n 0, 1) := by decide +kernel
theorem dX5_takeEvents_24 : decode cX5_takeEvents 24 = .ok (.invokevirtual 59, 3) := by decide +kernel
theorem dX5_takeEvents_27 : decode cX5_takeEvents 27 = .ok (.iconst (-1), 1) := by decide +kernel
theorem dX5_takeEvents_28 : decode cX5_takeEvents 28 = .ok (.if_icmp .eq 17, 3) := by decide +kernel
theorem dX5_takeEvents_31 : decode cX5_takeEvents 31 = .ok (.aload_n 0, 1) := by decide +kernel
theorem dX5_takeEvents_32 : decode cX5_takeEvents 32 = .ok (.getfield 26, 3) := by decide +kernel
theorem dX5_takeEvents_35 : decode cX5_takeEvents 35 = .ok (.invokevirtual 62, 3) := by decide +kernel
theorem dX5_takeEvents_38 : decode cX5_takeEvents 38 = .ok (.ifCond .eq 7, 3) := by decide +kernel
theorem dX5_takeEvents_41 : decode cX5_takeEvents 41 = .ok (.aload_n 0, 1) := by decide +kernel
theorem dX5_takeEvents_42 : decode cX5_takeEvents 42 = .ok (.invokevirtual 66, 3) := by decide +kernel
theorem dX5_takeEvents_45 : decode cX5_takeEvents 45 = .ok (.iinc 1 1, 3) := by decide +kernel
theorem dX5_takeEvents_48 : decode cX5_takeEvents 48 = .ok (.goto (-38), 3) := by decide +kernel
theorem dX5_takeEvents_51 : decode cX5_takeEvents 51 = .ok (.return_, 1) := by decide +kernel
theorem dX5_takePitches_0 : decode cX5_takePitches 0 = .ok (.iconst 0, 1) := by decide +kernel
theorem dX5_takePitches_1 : decode cX5_takePitches 1 = .ok (.istore_n 1, 1) := by decide +kernel
theorem dX5_takePitches_2 : decode cX5_takePitches 2 = .ok (.iload_n 1, 1) := by decide +kernel
theorem dX5_takePitches_3 : decode cX5_takePitches 3 = .ok (.aload_n 0, 1) := by decide +kernel
theorem dX5_takePitches_4 : decode cX5_takePitches 4 = .ok (.getfield 22, 3) := by decide +kernel
theorem dX5_takePitches_7 : decode cX5_takePitches 7 = .ok (.getfield 69, 3) := by decide +kernel
theorem dX5_takePitches_10 : decode cX5_takePitches 10 = .ok (.if_icmp .ge 34, 3) := by decide +kernel
theorem dX5_takePitches_13 : decode cX5_takePitches 13 = .ok (.aload_n 0, 1) := by decide +kernel
theorem dX5_takePitches_14 : decode cX5_takePitches 14 = .ok (.getfield 15, 3) := by decide +kernel
theorem dX5_takePitches_17 : decode cX5_takePitches 17 = .ok (.iload_n 1, 1) := by decide +kernel
theorem dX5_takePitches_18 : decode cX5_takePitches 18 = .ok (.iaload, 1) := by decide +kernel
theorem dX5_takePitches_19 : decode cX5_takePitches 19 = .ok (.iconst (-1), 1) := by decide +kernel
theorem dX5_takePitches_20 : decode cX5_takePitches 20 = .ok (.if_icmp .eq 18, 3) := by decide +kernel
theorem dX5_takePitches_23 : decode cX5_takePitches 23 = .ok (.aload_n 0, 1) := by decide +kernel
theorem dX5_takePitches_24 : decode cX5_takePitches 24 = .ok (.getfield 26, 3) := by decide +kernel
theorem dX5_takePitches_27 : decode cX5_takePitches 27 = .ok (.aload_n 0, 1) := by decide +kernel
theorem dX5_takePitches_28 : decode cX5_takePitches 28 = .ok (.getfield 15, 3) := by decide +kernel
theorem dX5_takePitches_31 : decode cX5_takePitches 31 = .ok (.iload_n 1, 1) := by decide +kernel
theorem dX5_takePitches_32 : decode cX5_takePitches 32 = .ok (.iaload, 1) := by decide +kernel
theorem dX5_takePitches_33 : decode cX5_takePitches 33 = .ok (.iload_n 1, 1) := by decide +kernel
theorem dX5_takePitches_34 : decode cX5_takePitches 34 = .ok (.invokevirtual 74, 3) := by decide +kernel
theorem dX5_takePitches_37 : decode cX5_takePitches 37 = .ok (.pop, 1) := by decide +kernel
theorem dX5_takePitches_38 : decode cX5_takePitches 38 = .ok (.iinc 1 1, 3) := by decide +kernel
theorem dX5_takePitches_41 : decode cX5_takePitches 41 = .ok (.goto (-39), 3) := by decide +kernel
theorem dX5_takePitches_44 : decode cX5_takePitches 44 = .ok (.return_, 1) := by decide +kernel
theorem dX5_wrongSign_0 : decode cX5_wrongSign 0 = .ok (.aload_n 0, 1) := by decide +kernel
theorem dX5_wrongSign_1 : decode cX5_wrongSign 1 = .ok (.invokevirtual 78, 3) := by decide +kernel
theorem dX5_wrongSign_4 : decode cX5_wrongSign 4 = .ok (.istore_n 1, 1) := by decide +kernel
theorem dX5_wrongSign_5 : decode cX5_wrongSign 5 = .ok (.iload_n 1, 1) := by decide +kernel
theorem dX5_wrongSign_6 : decode cX5_wrongSign 6 = .ok (.iconst (-1), 1) := by decide +kernel
theorem dX5_wrongSign_7 : decode cX5_wrongSign 7 = .ok (.if_icmp .eq 5, 3) := by decide +kernel
theorem dX5_wrongSign_10 : decode cX5_wrongSign 10 = .ok (.iload_n 1, 1) := by decide +kernel
theorem dX5_wrongSign_11 : decode cX5_wrongSign 11 = .ok (.ireturn, 1) := by decide +kernel
theorem dX5_wrongSign_12 : decode cX5_wrongSign 12 = .ok (.aload_n 0, 1) := by decide +kernel
theorem dX5_wrongSign_13 : decode cX5_wrongSign 13 = .ok (.getfield 22, 3) := by decide +kernel
theorem dX5_wrongSign_16 : decode cX5_wrongSign 16 = .ok (.getfield 69, 3) := by decide +kernel
theorem dX5_wrongSign_19 : decode cX5_wrongSign 19 = .ok (.iconst 2, 1) := by decide +kernel
theorem dX5_wrongSign_20 : decode cX5_wrongSign 20 = .ok (.isub, 1) := by decide +kernel
theorem dX5_wrongSign_21 : decode cX5_wrongSign 21 = .ok (.istore_n 2, 1) := by decide +kernel
theorem dX5_wrongSign_22 : decode cX5_wrongSign 22 = .ok (.iload_n 2, 1) := by decide +kernel
theorem dX5_wrongSign_23 : decode cX5_wrongSign 23 = .ok (.ifCond .lt 46, 3) := by decide +kernel
theorem dX5_wrongSign_26 : decode cX5_wrongSign 26 = .ok (.iconst 0, 1) := by decide +kernel
theorem dX5_wrongSign_27 : decode cX5_wrongSign 27 = .ok (.istore_n 3, 1) := by decide +kernel
theorem dX5_wrongSign_28 : decode cX5_wrongSign 28 = .ok (.iload_n 3, 1) := by decide +kernel
theorem dX5_wrongSign_29 : decode cX5_wrongSign 29 = .ok (.aload_n 0, 1) := by decide +kernel
theorem dX5_wrongSign_30 : decode cX5_wrongSign 30 = .ok (.getfield 9, 3) := by decide +kernel
theorem dX5_wrongSign_33 : decode cX5_wrongSign 33 = .ok (.if_icmp .ge 30, 3) := by decide +kernel
theorem dX5_wrongSign_36 : decode cX5_wrongSign 36 = .ok (.aload_n 0, 1) := by decide +kernel
theorem dX5_wrongSign_37 : decode cX5_wrongSign 37 = .ok (.aload_n 0, 1) := by decide +kernel
theorem dX5_wrongSign_38 : decode cX5_wrongSign 38 = .ok (.iload_n 2, 1) := by decide +kernel
theorem dX5_wrongSign_39 : decode cX5_wrongSign 39 = .ok (.iload_n 3, 1) := by decide +kernel
theorem dX5_wrongSign_40 : decode cX5_wrongSign 40 = .ok (.invokevirtual 81, 3) := by decide +kernel
theorem dX5_wrongSign_43 : decode cX5_wrongSign 43 = .ok (.iload_n 3, 1) := by decide +kernel
theorem dX5_wrongSign_44 : decode cX5_wrongSign 44 = .ok (.invokevirtual 85, 3) := by decide +kernel
theorem dX5_wrongSign_47 : decode cX5_wrongSign 47 = .ok (.ifCond .ne 10, 3) := by decide +kernel
theorem dX5_wrongSign_50 : decode cX5_wrongSign 50 = .ok (.aload_n 0, 1) := by decide +kernel
theorem dX5_wrongSign_51 : decode cX5_wrongSign 51 = .ok (.iload_n 2, 1) := by decide +kernel
theorem dX5_wrongSign_52 : decode cX5_wrongSign 52 = .ok (.iload_n 3, 1) := by decide +kernel
theorem dX5_wrongSign_53 : decode cX5_wrongSign 53 = .ok (.invokevirtual 88, 3) := by decide +kernel
theorem dX5_wrongSign_56 : decode cX5_wrongSign 56 = .ok (.ireturn, 1) := by decide +kernel
theorem dX5_wrongSign_57 : decode cX5_wrongSign 57 = .ok (.iinc 3 1, 3) := by decide +kernel
theorem dX5_wrongSign_60 : decode cX5_wrongSign 60 = .ok (.goto (-32), 3) := by decide +kernel
theorem dX5_wrongSign_63 : decode cX5_wrongSign 63 = .ok (.iinc 2 (-1), 3) := by decide +kernel
theorem dX5_wrongSign_66 : decode cX5_wrongSign 66 = .ok (.goto (-44), 3) := by decide +kernel
theorem dX5_wrongSign_69 : decode cX5_wrongSign 69 = .ok (.aload_n 0, 1) := by decide +kernel
theorem dX5_wrongSign_70 : decode cX5_wrongSign 70 = .ok (.getfield 22, 3) := by decide +kernel
theorem dX5_wrongSign_73 : decode cX5_wrongSign 73 = .ok (.getfield 69, 3) := by decide +kernel
theorem dX5_wrongSign_76 : decode cX5_wrongSign 76 = .ok (.aload_n 0, 1) := by decide +kernel
theorem dX5_wrongSign_77 : decode cX5_wrongSign 77 = .ok (.getfield 9, 3) := by decide +kernel
theorem dX5_wrongSign_80 : decode cX5_wrongSign 80 = .ok (.imul, 1) := by decide +kernel
theorem dX5_wrongSign_81 : decode cX5_wrongSign 81 = .ok (.istore_n 2, 1) := by decide +kernel
theorem dX5_wrongSign_82 : decode cX5_wrongSign 82 = .ok (.aload_n 0, 1) := by decide +kernel
theorem dX5_wrongSign_83 : decode cX5_wrongSign 83 = .ok (.getfield 30, 3) := by decide +kernel
theorem dX5_wrongSign_86 : decode cX5_wrongSign 86 = .ok (.getfield 91, 3) := by decide +kernel
theorem dX5_wrongSign_89 : decode cX5_wrongSign 89 = .ok (.iload_n 2, 1) := by decide +kernel
theorem dX5_wrongSign_90 : decode cX5_wrongSign 90 = .ok (.if_icmp .le 7, 3) := by decide +kernel
theorem dX5_wrongSign_93 : decode cX5_wrongSign 93 = .ok (.iload_n 2, 1) := by decide +kernel
theorem dX5_wrongSign_94 : decode cX5_wrongSign 94 = .ok (.goto 4, 3) := by decide +kernel
theorem dX5_wrongSign_97 : decode cX5_wrongSign 97 = .ok (.iconst (-1), 1) := by decide +kernel
theorem dX5_wrongSign_98 : decode cX5_wrongSign 98 = .ok (.ireturn, 1) := by decide +kernel
theorem dX5_measureFirstLine_0 : decode cX5_measureFirstLine 0 = .ok (.aload_n 0, 1) := by decide +kernel
theorem dX5_measureFirstLine_1 : decode cX5_measureFirstLine 1 = .ok (.getfield 30, 3) := by decide +kernel
theorem dX5_measureFirstLine_4 : decode cX5_measureFirstLine 4 = .ok (.iconst 0, 1) := by decide +kernel
theorem dX5_measureFirstLine_5 : decode cX5_measureFirstLine 5 = .ok (.invokevirtual 96, 3) := by decide +kernel
theorem dX5_measureFirstLine_8 : decode cX5_measureFirstLine 8 = .ok (.bipush 124, 2) := by decide +kernel
theorem dX5_measureFirstLine_10 : decode cX5_measureFirstLine 10 = .ok (.if_icmp .eq 5, 3) := by decide +kernel
theorem dX5_measureFirstLine_13 : decode cX5_measureFirstLine 13 = .ok (.iconst 0, 1) := by decide +kernel
theorem dX5_measureFirstLine_14 : decode cX5_measureFirstLine 14 = .ok (.ireturn, 1) := by decide +kernel
theorem dX5_measureFirstLine_15 : decode cX5_measureFirstLine 15 = .ok (.iconst 1, 1) := by decide +kernel
theorem dX5_measureFirstLine_16 : decode cX5_measureFirstLine 16 = .ok (.istore_n 1, 1) := by decide +kernel
theorem dX5_measureFirstLine_17 : decode cX5_measureFirstLine 17 = .ok (.iload_n 1, 1) := by decide +kernel
theorem dX5_measureFirstLine_18 : decode cX5_measureFirstLine 18 = .ok (.aload_n 0, 1) := by decide +kernel
theorem dX5_measureFirstLine_19 : decode cX5_measureFirstLine 19 = .ok (.getfield 30, 3) := by decide +kernel
theorem dX5_measureFirstLine_22 : decode cX5_measureFirstLine 22 = .ok (.getfield 91, 3) := by decide +kernel
theorem dX5_measureFirstLine_25 : decode cX5_measureFirstLine 25 = .ok (.if_icmp .ge 23, 3) := by decide +kernel
theorem dX5_measureFirstLine_28 : decode cX5_measureFirstLine 28 = .ok (.aload_n 0, 1) := by decide +kernel
theorem dX5_measureFirstLine_29 : decode cX5_measureFirstLine 29 = .ok (.getfield 30, 3) := by decide +kernel
theorem dX5_measureFirstLine_32 : decode cX5_measureFirstLine 32 = .ok (.iload_n 1, 1) := by decide +kernel
theorem dX5_measureFirstLine_33 : decode cX5_measureFirstLine 33 = .ok (.invokevirtual 96, 3) := by decide +kernel
theorem dX5_measureFirstLine_36 : decode cX5_measureFirstLine 36 = .ok (.invokestatic 100, 3) := by decide +kernel
theorem dX5_measureFirstLine_39 : decode cX5_measureFirstLine 39 = .ok (.ifCond .eq 9, 3) := by decide +kernel
theorem dX5_measureFirstLine_42 : decode cX5_measureFirstLine 42 = .ok (.iinc 1 1, 3) := by decide +kernel
theorem dX5_measureFirstLine_45 : decode cX5_measureFirstLine 45 = .ok (.goto (-28), 3) := by decide +kernel
theorem dX5_measureFirstLine_48 : decode cX5_measureFirstLine 48 = .ok (.aload_n 0, 1) := by decide +kernel
theorem dX5_measureFirstLine_49 : decode cX5_measureFirstLine 49 = .ok (.getfield 30, 3) := by decide +kernel
theorem dX5_measureFirstLine_52 : decode cX5_measureFirstLine 52 = .ok (.iload_n 1, 1) := by decide +kernel
theorem dX5_measureFirstLine_53 : decode cX5_measureFirstLine 53 = .ok (.invokevirtual 96, 3) := by decide +kernel
theorem dX5_measureFirstLine_56 : decode cX5_measureFirstLine 56 = .ok (.bipush 124, 2) := by decide +kernel
theorem dX5_measureFirstLine_58 : decode cX5_measureFirstLine 58 = .ok (.if_icmp .eq 5, 3) := by decide +kernel
theorem dX5_measureFirstLine_61 : decode cX5_measureFirstLine 61 = .ok (.iload_n 1, 1) := by decide +kernel
theorem dX5_measureFirstLine_62 : decode cX5_measureFirstLine 62 = .ok (.ireturn, 1) := by decide +kernel
theorem dX5_measureFirstLine_63 : decode cX5_measureFirstLine 63 = .ok (.aload_n 0, 1) := by decide +kernel
theorem dX5_measureFirstLine_64 : decode cX5_measureFirstLine 64 = .ok (.getfield 30, 3) := by decide +kernel
theorem dX5_measureFirstLine_67 : decode cX5_measureFirstLine 67 = .ok (.iload_n 1, 1) := by decide +kernel
theorem dX5_measureFirstLine_68 : decode cX5_measureFirstLine 68 = .ok (.iconst 1, 1) := by decide +kernel
theorem dX5_measureFirstLine_69 : decode cX5_measureFirstLine 69 = .ok (.iadd, 1) := by decide +kernel
theorem dX5_measureFirstLine_70 : decode cX5_measureFirstLine 70 = .ok (.invokevirtual 96, 3) := by decide +kernel
theorem dX5_measureFirstLine_73 : decode cX5_measureFirstLine 73 = .ok (.bipush 10, 2) := by decide +kernel
theorem dX5_measureFirstLine_75 : decode cX5_measureFirstLine 75 = .ok (.if_icmp .eq 7, 3) := by decide +kernel
theorem dX5_measureFirstLine_78 : decode cX5_measureFirstLine 78 = .ok (.iload_n 1, 1) := by decide +kernel
theorem dX5_measureFirstLine_79 : decode cX5_measureFirstLine 79 = .ok (.iconst 1, 1) := by decide +kernel
theorem dX5_measureFirstLine_80 : decode cX5_measureFirstLine 80 = .ok (.iadd, 1) := by decide +kernel
theorem dX5_measureFirstLine_81 : decode cX5_measureFirstLine 81 = .ok (.ireturn, 1) := by decide +kernel
theorem dX5_measureFirstLine_82 : decode cX5_measureFirstLine 82 = .ok (.aload_n 0, 1) := by decide +kernel
theorem dX5_measureFirstLine_83 : decode cX5_measureFirstLine 83 = .ok (.iload_n 1, 1) := by decide +kernel
theorem dX5_measureFirstLine_84 : decode cX5_measureFirstLine 84 = .ok (.iconst 2, 1) := by decide +kernel
theorem dX5_measureFirstLine_85 : decode cX5_measureFirstLine 85 = .ok (.iadd, 1) := by decide +kernel
theorem dX5_measureFirstLine_86 : decode cX5_measureFirstLine 86 = .ok (.putfield 9, 3) := by decide +kernel
theorem dX5_measureFirstLine_89 : decode cX5_measureFirstLine 89 = .ok (.iconst (-1), 1) := by decide +kernel
theorem dX5_measureFirstLine_90 : decode cX5_measureFirstLine 90 = .ok (.ireturn, 1) := by decide +kernel
theorem dX5_fitsColumn_0 : decode cX5_fitsColumn 0 = .ok (.iload_n 2, 1) := by decide +kernel
theorem dX5_fitsColumn_1 : decode cX5_fitsColumn 1 = .ok (.aload_n 0, 1) := by decide +kernel
theorem dX5_fitsColumn_2 : decode cX5_fitsColumn 2 = .ok (.getfield 9, 3) := by decide +kernel
theorem dX5_fitsColumn_5 : decode cX5_fitsColumn 5 = .ok (.iconst 1, 1) := by decide +kernel
theorem dX5_fitsColumn_6 : decode cX5_fitsColumn 6 = .ok (.isub, 1) := by decide +kernel
theorem dX5_fitsColumn_7 : decode cX5_fitsColumn 7 = .ok (.if_icmp .ne 15, 3) := by decide +kernel
theorem dX5_fitsColumn_10 : decode cX5_fitsColumn 10 = .ok (.iload_n 1, 1) := by decide +kernel
theorem dX5_fitsColumn_11 : decode cX5_fitsColumn 11 = .ok (.bipush 10, 2) := by decide +kernel
theorem dX5_fitsColumn_13 : decode cX5_fitsColumn 13 = .ok (.if_icmp .ne 7, 3) := by decide +kernel
theorem dX5_fitsColumn_16 : decode cX5_fitsColumn 16 = .ok (.iconst 1, 1) := by decide +kernel
theorem dX5_fitsColumn_17 : decode cX5_fitsColumn 17 = .ok (.goto 4, 3) := by decide +kernel
theorem dX5_fitsColumn_20 : decode cX5_fitsColumn 20 = .ok (.iconst 0, 1) := by decide +kernel
theorem dX5_fitsColumn_21 : decode cX5_fitsColumn 21 = .ok (.ireturn, 1) := by decide +kernel
theorem dX5_fitsColumn_22 : decode cX5_fitsColumn 22 = .ok (.iload_n 2, 1) := by decide +kernel
theorem dX5_fitsColumn_23 : decode cX5_fitsColumn 23 = .ok (.ifCond .eq 13, 3) := by decide +kernel
theorem dX5_fitsColumn_26 : decode cX5_fitsColumn 26 = .ok (.iload_n 2, 1) := by decide +kernel
theorem dX5_fitsColumn_27 : decode cX5_fitsColumn 27 = .ok (.aload_n 0, 1) := by decide +kernel
theorem dX5_fitsColumn_28 : decode cX5_fitsColumn 28 = .ok (.getfield 9, 3) := by decide +kernel
theorem dX5_fitsColumn_31 : decode cX5_fitsColumn 31 = .ok (.iconst 2, 1) := by decide +kernel
theorem dX5_fitsColumn_32 : decode cX5_fitsColumn 32 = .ok (.isub, 1) := by decide +kernel
theorem dX5_fitsColumn_33 : decode cX5_fitsColumn 33 = .ok (.if_icmp .ne 15, 3) := by decide +kernel
theorem dX5_fitsColumn_36 : decode cX5_fitsColumn 36 = .ok (.iload_n 1, 1) := by decide +kernel
theorem dX5_fitsColumn_37 : decode cX5_fitsColumn 37 = .ok (.bipush 124, 2) := by decide +kernel
theorem dX5_fitsColumn_39 : decode cX5_fitsColumn 39 = .ok (.if_icmp .ne 7, 3) := by decide +kernel
theorem dX5_fitsColumn_42 : decode cX5_fitsColumn 42 = .ok (.iconst 1, 1) := by decide +kernel
theorem dX5_fitsColumn_43 : decode cX5_fitsColumn 43 = .ok (.goto 4, 3) := by decide +kernel
theorem dX5_fitsColumn_46 : decode cX5_fitsColumn 46 = .ok (.iconst 0, 1) := by decide +kernel
theorem dX5_fitsColumn_47 : decode cX5_fitsColumn 47 = .ok (.ireturn, 1) := by decide +kernel
theorem dX5_fitsColumn_48 : decode cX5_fitsColumn 48 = .ok (.iload_n 1, 1) := by decide +kernel
theorem dX5_fitsColumn_49 : decode cX5_fitsColumn 49 = .ok (.invokestatic 100, 3) := by decide +kernel
theorem dX5_fitsColumn_52 : decode cX5_fitsColumn 52 = .ok (.ireturn, 1) := by decide +kernel
theorem dX5_wrongNumber_0 : decode cX5_wrongNumber 0 = .ok (.aload_n 0, 1) := by decide +kernel
theorem dX5_wrongNumber_1 : decode cX5_wrongNumber 1 = .ok (.getfield 22, 3) := by decide +kernel
theorem dX5_wrongNumber_4 : decode cX5_wrongNumber 4 = .ok (.getfield 69, 3) := by decide +kernel
theorem dX5_wrongNumber_7 : decode cX5_wrongNumber 7 = .ok (.iconst 1, 1) := by decide +kernel
theorem dX5_wrongNumber_8 : decode cX5_wrongNumber 8 = .ok (.isub, 1) := by decide +kernel
theorem dX5_wrongNumber_9 : decode cX5_wrongNumber 9 = .ok (.istore_n 1, 1) := by decide +kernel
theorem dX5_wrongNumber_10 : decode cX5_wrongNumber 10 = .ok (.iload_n 1, 1) := by decide +kernel
theorem dX5_wrongNumber_11 : decode cX5_wrongNumber 11 = .ok (.ifCond .lt 50, 3) := by decide +kernel
theorem dX5_wrongNumber_14 : decode cX5_wrongNumber 14 = .ok (.iconst 1, 1) := by decide +kernel
theorem dX5_wrongNumber_15 : decode cX5_wrongNumber 15 = .ok (.istore_n 2, 1) := by decide +kernel
theorem dX5_wrongNumber_16 : decode cX5_wrongNumber 16 = .ok (.iload_n 2, 1) := by decide +kernel
theorem dX5_wrongNumber_17 : decode cX5_wrongNumber 17 = .ok (.aload_n 0, 1) := by decide +kernel
theorem dX5_wrongNumber_18 : decode cX5_wrongNumber 18 = .ok (.getfield 9, 3) := by decide +kernel
theorem dX5_wrongNumber_21 : decode cX5_wrongNumber 21 = .ok (.if_icmp .ge 34, 3) := by decide +kernel
theorem dX5_wrongNumber_24 : decode cX5_wrongNumber 24 = .ok (.aload_n 0, 1) := by decide +kernel
theorem dX5_wrongNumber_25 : decode cX5_wrongNumber 25 = .ok (.iload_n 1, 1) := by decide +kernel
theorem dX5_wrongNumber_26 : decode cX5_wrongNumber 26 = .ok (.iload_n 2, 1) := by decide +kernel
theorem dX5_wrongNumber_27 : decode cX5_wrongNumber 27 = .ok (.invokevirtual 104, 3) := by decide +kernel
theorem dX5_wrongNumber_30 : decode cX5_wrongNumber 30 = .ok (.ifCond .eq 19, 3) := by decide +kernel
theorem dX5_wrongNumber_33 : decode cX5_wrongNumber 33 = .ok (.aload_n 0, 1) := by decide +kernel
theorem dX5_wrongNumber_34 : decode cX5_wrongNumber 34 = .ok (.iload_n 1, 1) := by decide +kernel
theorem dX5_wrongNumber_35 : decode cX5_wrongNumber 35 = .ok (.iload_n 2, 1) := by decide +kernel
theorem dX5_wrongNumber_36 : decode cX5_wrongNumber 36 = .ok (.invokevirtual 107, 3) := by decide +kernel
theorem dX5_wrongNumber_39 : decode cX5_wrongNumber 39 = .ok (.ifCond .ne 10, 3) := by decide +kernel
theorem dX5_wrongNumber_42 : decode cX5_wrongNumber 42 = .ok (.aload_n 0, 1) := by decide +kernel
theorem dX5_wrongNumber_43 : decode cX5_wrongNumber 43 = .ok (.iload_n 1, 1) := by decide +kernel
theorem dX5_wrongNumber_44 : decode cX5_wrongNumber 44 = .ok (.iload_n 2, 1) := by decide +kernel
theorem dX5_wrongNumber_45 : decode cX5_wrongNumber 45 = .ok (.invokevirtual 88, 3) := by decide +kernel
theorem dX5_wrongNumber_48 : decode cX5_wrongNumber 48 = .ok (.ireturn, 1) := by decide +kernel
theorem dX5_wrongNumber_49 : decode cX5_wrongNumber 49 = .ok (.iinc 2 1, 3) := by decide +kernel
theorem dX5_wrongNumber_52 : decode cX5_wrongNumber 52 = .ok (.goto (-36), 3) := by decide +kernel
theorem dX5_wrongNumber_55 : decode cX5_wrongNumber 55 = .ok (.iinc 1 (-1), 3) := by decide +kernel
theorem dX5_wrongNumber_58 : decode cX5_wrongNumber 58 = .ok (.goto (-48), 3) := by decide +kernel
theorem dX5_wrongNumber_61 : decode cX5_wrongNumber 61 = .ok (.iconst (-1), 1) := by decide +kernel
theorem dX5_wrongNumber_62 : decode cX5_wrongNumber 62 = .ok (.ireturn, 1) := by decide +kernel
theorem dX5_isFretNumber_0 : decode cX5_isFretNumber 0 = .ok (.aload_n 0, 1) := by decide +kernel
theorem dX5_isFretNumber_1 : decode cX5_isFretNumber 1 = .ok (.iload_n 1, 1) := by decide +kernel
theorem dX5_isFretNumber_2 : decode cX5_isFretNumber 2 = .ok (.iload_n 2, 1) := by decide +kernel
theorem dX5_isFretNumber_3 : decode cX5_isFretNumber 3 = .ok (.iconst 1, 1) := by decide +kernel
theorem dX5_isFretNumber_4 : decode cX5_isFretNumber 4 = .ok (.iadd, 1) := by decide +kernel
theorem dX5_isFretNumber_5 : decode cX5_isFretNumber 5 = .ok (.invokevirtual 81, 3) := by decide +kernel
theorem dX5_isFretNumber_8 : decode cX5_isFretNumber 8 = .ok (.invokestatic 110, 3) := by decide +kernel
theorem dX5_isFretNumber_11 : decode cX5_isFretNumber 11 = .ok (.ifCond .ne 33, 3) := by decide +kernel
theorem dX5_isFretNumber_14 : decode cX5_isFretNumber 14 = .ok (.aload_n 0, 1) := by decide +kernel
theorem dX5_isFretNumber_15 : decode cX5_isFretNumber 15 = .ok (.getfield 22, 3) := by decide +kernel
theorem dX5_isFretNumber_18 : decode cX5_isFretNumber 18 = .ok (.getfield 113, 3) := by decide +kernel
theorem dX5_isFretNumber_21 : decode cX5_isFretNumber 21 = .ok (.aload_n 0, 1) := by decide +kernel
theorem dX5_isFretNumber_22 : decode cX5_isFretNumber 22 = .ok (.iload_n 1, 1) := by decide +kernel
theorem dX5_isFretNumber_23 : decode cX5_isFretNumber 23 = .ok (.iload_n 2, 1) := by decide +kernel
theorem dX5_isFretNumber_24 : decode cX5_isFretNumber 24 = .ok (.invokevirtual 116, 3) := by decide +kernel
theorem dX5_isFretNumber_27 : decode cX5_isFretNumber 27 = .ok (.iadd, 1) := by decide +kernel
theorem dX5_isFretNumber_28 : decode cX5_isFretNumber 28 = .ok (.aload_n 0, 1) := by decide +kernel
theorem dX5_isFretNumber_29 : decode cX5_isFretNumber 29 = .ok (.getfield 22, 3) := by decide +kernel
theorem dX5_isFretNumber_32 : decode cX5_isFretNumber 32 = .ok (.getfield 119, 3) := by decide +kernel
theorem dX5_isFretNumber_35 : decode cX5_isFretNumber 35 = .ok (.if_icmp .gt 7, 3) := by decide +kernel
theorem dX5_isFretNumber_38 : decode cX5_isFretNumber 38 = .ok (.iconst 1, 1) := by decide +kernel
theorem dX5_isFretNumber_39 : decode cX5_isFretNumber 39 = .ok (.goto 4, 3) := by decide +kernel
theorem dX5_isFretNumber_42 : decode cX5_isFretNumber 42 = .ok (.iconst 0, 1) := by decide +kernel
theorem dX5_isFretNumber_43 : decode cX5_isFretNumber 43 = .ok (.ireturn, 1) := by decide +kernel
theorem dX5_isFretNumber_44 : decode cX5_isFretNumber 44 = .ok (.aload_n 0, 1) := by decide +kernel
theorem dX5_isFretNumber_45 : decode cX5_isFretNumber 45 = .ok (.iload_n 1, 1) := by decide +kernel
theorem dX5_isFretNumber_46 : decode cX5_isFretNumber 46 = .ok (.iload_n 2, 1) := by decide +kernel
theorem dX5_isFretNumber_47 : decode cX5_isFretNumber 47 = .ok (.invokevirtual 81, 3) := by decide +kernel
theorem dX5_isFretNumber_50 : decode cX5_isFretNumber 50 = .ok (.bipush 48, 2) := by decide +kernel
theorem dX5_isFretNumber_52 : decode cX5_isFretNumber 52 = .ok (.if_icmp .eq 45, 3) := by decide +kernel
theorem dX5_isFretNumber_55 : decode cX5_isFretNumber 55 = .ok (.aload_n 0, 1) := by decide +kernel
theorem dX5_isFretNumber_56 : decode cX5_isFretNumber 56 = .ok (.iload_n 1, 1) := by decide +kernel
theorem dX5_isFretNumber_57 : decode cX5_isFretNumber 57 = .ok (.iload_n 2, 1) := by decide +kernel
theorem dX5_isFretNumber_58 : decode cX5_isFretNumber 58 = .ok (.iconst 2, 1) := by decide +kernel
theorem dX5_isFretNumber_59 : decode cX5_isFretNumber 59 = .ok (.iadd, 1) := by decide +kernel
theorem dX5_isFretNumber_60 : decode cX5_isFretNumber 60 = .ok (.invokevirtual 81, 3) := by decide +kernel
theorem dX5_isFretNumber_63 : decode cX5_isFretNumber 63 = .ok (.invokestatic 110, 3) := by decide +kernel
theorem dX5_isFretNumber_66 : decode cX5_isFretNumber 66 = .ok (.ifCond .ne 31, 3) := by decide +kernel
theorem dX5_isFretNumber_69 : decode cX5_isFretNumber 69 = .ok (.aload_n 0, 1) := by decide +kernel
theorem dX5_isFretNumber_70 : decode cX5_isFretNumber 70 = .ok (.getfield 22, 3) := by decide +kernel
theorem dX5_isFretNumber_73 : decode cX5_isFretNumber 73 = .ok (.getfield 113, 3) := by decide +kernel
theorem dX5_isFretNumber_76 : decode cX5_isFretNumber 76 = .ok (.aload_n 0, 1) := by decide +kernel
theorem dX5_isFretNumber_77 : decode cX5_isFretNumber 77 = .ok (.iload_n 1, 1) := by decide +kernel
theorem dX5_isFretNumber_78 : decode cX5_isFretNumber 78 = .ok (.iload_n 2, 1) := by decide +kernel
theorem dX5_isFretNumber_79 : decode cX5_isFretNumber 79 = .ok (.invokevirtual 116, 3) := by decide +kernel
theorem dX5_isFretNumber_82 : decode cX5_isFretNumber 82 = .ok (.iadd, 1) := by decide +kernel
theorem dX5_isFretNumber_83 : decode cX5_isFretNumber 83 = .ok (.aload_n 0, 1) := by decide +kernel
theorem dX5_isFretNumber_84 : decode cX5_isFretNumber 84 = .ok (.getfield 22, 3) := by decide +kernel
theorem dX5_isFretNumber_87 : decode cX5_isFretNumber 87 = .ok (.getfield 119, 3) := by decide +kernel
theorem dX5_isFretNumber_90 : decode cX5_isFretNumber 90 = .ok (.if_icmp .gt 7, 3) := by decide +kernel
theorem dX5_isFretNumber_93 : decode cX5_isFretNumber 93 = .ok (.iconst 1, 1) := by decide +kernel
theorem dX5_isFretNumber_94 : decode cX5_isFretNumber 94 = .ok (.goto 4, 3) := by decide +kernel
theorem dX5_isFretNumber_97 : decode cX5_isFretNumber 97 = .ok (.iconst 0, 1) := by decide +kernel
theorem dX5_isFretNumber_98 : decode cX5_isFretNumber 98 = .ok (.ireturn, 1) := by decide +kernel
theorem dX5_shiftedNumber_0 : decode cX5_shiftedNumber 0 = .ok (.aload_n 0, 1) := by decide +kernel
theorem dX5_shiftedNumber_1 : decode cX5_shiftedNumber 1 = .ok (.getfield 22, 3) := by decide +kernel
theorem dX5_shiftedNumber_4 : decode cX5_shiftedNumber 4 = .ok (.getfield 69, 3) := by decide +kernel
theorem dX5_shiftedNumber_7 : decode cX5_shiftedNumber 7 = .ok (.iconst 1, 1) := by decide +kernel
theorem dX5_shiftedNumber_8 : decode cX5_shiftedNumber 8 = .ok (.isub, 1) := by decide +kernel
theorem dX5_shiftedNumber_9 : decode cX5_shiftedNumber 9 = .ok (.istore_n 1, 1) := by decide +kernel
theorem dX5_shiftedNumber_10 : decode cX5_shiftedNumber 10 = .ok (.iload_n 1, 1) := by decide +kernel
theorem dX5_shiftedNumber_11 : decode cX5_shiftedNumber 11 = .ok (.ifCond .lt 49, 3) := by decide +kernel
theorem dX5_shiftedNumber_14 : decode cX5_shiftedNumber 14 = .ok (.iconst 1, 1) := by decide +kernel
theorem dX5_shiftedNumber_15 : decode cX5_shiftedNumber 15 = .ok (.istore_n 2, 1) := by decide +kernel
theorem dX5_shiftedNumber_16 : decode cX5_shiftedNumber 16 = .ok (.iload_n 2, 1) := by decide +kernel
theorem dX5_shiftedNumber_17 : decode cX5_shiftedNumber 17 = .ok (.aload_n 0, 1) := by decide +kernel
theorem dX5_shiftedNumber_18 : decode cX5_shiftedNumber 18 = .ok (.getfield 9, 3) := by decide +kernel
theorem dX5_shiftedNumber_21 : decode cX5_shiftedNumber 21 = .ok (.if_icmp .ge 33, 3) := by decide +kernel
theorem dX5_shiftedNumber_24 : decode cX5_shiftedNumber 24 = .ok (.aload_n 0, 1) := by decide +kernel
theorem dX5_shiftedNumber_25 : decode cX5_shiftedNumber 25 = .ok (.iload_n 1, 1) := by decide +kernel
theorem dX5_shiftedNumber_26 : decode cX5_shiftedNumber 26 = .ok (.iload_n 2, 1) := by decide +kernel
theorem dX5_shiftedNumber_27 : decode cX5_shiftedNumber 27 = .ok (.invokevirtual 104, 3) := by decide +kernel
theorem dX5_shiftedNumber_30 : decode cX5_shiftedNumber 30 = .ok (.ifCond .eq 18, 3) := by decide +kernel
theorem dX5_shiftedNumber_33 : decode cX5_shiftedNumber 33 = .ok (.aload_n 0, 1) := by decide +kernel
theorem dX5_shiftedNumber_34 : decode cX5_shiftedNumber 34 = .ok (.iload_n 2, 1) := by decide +kernel
theorem dX5_shiftedNumber_35 : decode cX5_shiftedNumber 35 = .ok (.invokevirtual 122, 3) := by decide +kernel
theorem dX5_shiftedNumber_38 : decode cX5_shiftedNumber 38 = .ok (.ifCond .eq 10, 3) := by decide +kernel
theorem dX5_shiftedNumber_41 : decode cX5_shiftedNumber 41 = .ok (.aload_n 0, 1) := by decide +kernel
theorem dX5_shiftedNumber_42 : decode cX5_shiftedNumber 42 = .ok (.iload_n 1, 1) := by decide +kernel
theorem dX5_shiftedNumber_43 : decode cX5_shiftedNumber 43 = .ok (.iload_n 2, 1) := by decide +kernel
theorem dX5_shiftedNumber_44 : decode cX5_shiftedNumber 44 = .ok (.invokevirtual 88, 3) := by decide +kernel
theorem dX5_shiftedNumber_47 : decode cX5_shiftedNumber 47 = .ok (.ireturn, 1) := by decide +kernel
theorem dX5_shiftedNumber_48 : decode cX5_shiftedNumber 48 = .ok (.iinc 2 1, 3) := by decide +kernel
theorem dX5_shiftedNumber_51 : decode cX5_shiftedNumber 51 = .ok (.goto (-35), 3) := by decide +kernel
theorem dX5_shiftedNumber_54 : decode cX5_shiftedNumber 54 = .ok (.iinc 1 (-1), 3) := by decide +kernel
theorem dX5_shiftedNumber_57 : decode cX5_shiftedNumber 57 = .ok (.goto (-47), 3) := by decide +kernel
theorem dX5_shiftedNumber_60 : decode cX5_shiftedNumber 60 = .ok (.iconst (-1), 1) := by decide +kernel
theorem dX5_shiftedNumber_61 : decode cX5_shiftedNumber 61 = .ok (.ireturn, 1) := by decide +kernel
theorem dX5_hasSecondDigit_0 : decode cX5_hasSecondDigit 0 = .ok (.iconst 0, 1) := by decide +kernel
theorem dX5_hasSecondDigit_1 : decode cX5_hasSecondDigit 1 = .ok (.istore_n 2, 1) := by decide +kernel
theorem dX5_hasSecondDigit_2 : decode cX5_hasSecondDigit 2 = .ok (.iload_n 2, 1) := by decide +kernel
theorem dX5_hasSecondDigit_3 : decode cX5_hasSecondDigit 3 = .ok (.aload_n 0, 1) := by decide +kernel
theorem dX5_hasSecondDigit_4 : decode cX5_hasSecondDigit 4 = .ok (.getfield 22, 3) := by decide +kernel
theorem dX5_hasSecondDigit_7 : decode cX5_hasSecondDigit 7 = .ok (.getfield 69, 3) := by decide +kernel
theorem dX5_hasSecondDigit_10 : decode cX5_hasSecondDigit 10 = .ok (.if_icmp .ge 32, 3) := by decide +kernel
theorem dX5_hasSecondDigit_13 : decode cX5_hasSecondDigit 13 = .ok (.aload_n 0, 1) := by decide +kernel
theorem dX5_hasSecondDigit_14 : decode cX5_hasSecondDigit 14 = .ok (.iload_n 2, 1) := by decide +kernel
theorem dX5_hasSecondDigit_15 : decode cX5_hasSecondDigit 15 = .ok (.iload_n 1, 1) := by decide +kernel
theorem dX5_hasSecondDigit_16 : decode cX5_hasSecondDigit 16 = .ok (.invokevirtual 81, 3) := by decide +kernel
theorem dX5_hasSecondDigit_19 : decode cX5_hasSecondDigit 19 = .ok (.invokestatic 110, 3) := by decide +kernel
theorem dX5_hasSecondDigit_22 : decode cX5_hasSecondDigit 22 = .ok (.ifCond .eq 14, 3) := by decide +kernel
theorem dX5_hasSecondDigit_25 : decode cX5_hasSecondDigit 25 = .ok (.aload_n 0, 1) := by decide +kernel
theorem dX5_hasSecondDigit_26 : decode cX5_hasSecondDigit 26 = .ok (.iload_n 2, 1) := by decide +kernel
theorem dX5_hasSecondDigit_27 : decode cX5_hasSecondDigit 27 = .ok (.iload_n 1, 1) := by decide +kernel
theorem dX5_hasSecondDigit_28 : decode cX5_hasSecondDigit 28 = .ok (.invokevirtual 104, 3) := by decide +kernel
theorem dX5_hasSecondDigit_31 : decode cX5_hasSecondDigit 31 = .ok (.ifCond .ne 5, 3) := by decide +kernel
theorem dX5_hasSecondDigit_34 : decode cX5_hasSecondDigit 34 = .ok (.iconst 1, 1) := by decide +kernel
theorem dX5_hasSecondDigit_35 : decode cX5_hasSecondDigit 35 = .ok (.ireturn, 1) := by decide +kernel
theorem dX5_hasSecondDigit_36 : decode cX5_hasSecondDigit 36 = .ok (.iinc 2 1, 3) := by decide +kernel
theorem dX5_hasSecondDigit_39 : decode cX5_hasSecondDigit 39 = .ok (.goto (-37), 3) := by decide +kernel
theorem dX5_hasSecondDigit_42 : decode cX5_hasSecondDigit 42 = .ok (.iconst 0, 1) := by decide +kernel
theorem dX5_hasSecondDigit_43 : decode cX5_hasSecondDigit 43 = .ok (.ireturn, 1) := by decide +kernel
theorem dX5_wrongEvent_0 : decode cX5_wrongEvent 0 = .ok (.iconst (-1), 1) := by decide +kernel
theorem dX5_wrongEvent_1 : decode cX5_wrongEvent 1 = .ok (.istore_n 1, 1) := by decide +kernel
theorem dX5_wrongEvent_2 : decode cX5_wrongEvent 2 = .ok (.iconst 1, 1) := by decide +kernel
theorem dX5_wrongEvent_3 : decode cX5_wrongEvent 3 = .ok (.istore_n 2, 1) := by decide +kernel
theorem dX5_wrongEvent_4 : decode cX5_wrongEvent 4 = .ok (.iload_n 2, 1) := by decide +kernel
theorem dX5_wrongEvent_5 : decode cX5_wrongEvent 5 = .ok (.aload_n 0, 1) := by decide +kernel
theorem dX5_wrongEvent_6 : decode cX5_wrongEvent 6 = .ok (.getfield 9, 3) := by decide +kernel
theorem dX5_wrongEvent_9 : decode cX5_wrongEvent 9 = .ok (.if_icmp .ge 51, 3) := by decide +kernel
theorem dX5_wrongEvent_12 : decode cX5_wrongEvent 12 = .ok (.aload_n 0, 1) := by decide +kernel
theorem dX5_wrongEvent_13 : decode cX5_wrongEvent 13 = .ok (.iload_n 2, 1) := by decide +kernel
theorem dX5_wrongEvent_14 : decode cX5_wrongEvent 14 = .ok (.invokevirtual 55, 3) := by decide +kernel
theorem dX5_wrongEvent_17 : decode cX5_wrongEvent 17 = .ok (.aload_n 0, 1) := by decide +kernel
theorem dX5_wrongEvent_18 : decode cX5_wrongEvent 18 = .ok (.invokevirtual 125, 3) := by decide +kernel
theorem dX5_wrongEvent_21 : decode cX5_wrongEvent 21 = .ok (.iconst 4, 1) := by decide +kernel
theorem dX5_wrongEvent_22 : decode cX5_wrongEvent 22 = .ok (.if_icmp .gt 10, 3) := by decide +kernel
theorem dX5_wrongEvent_25 : decode cX5_wrongEvent 25 = .ok (.aload_n 0, 1) := by decide +kernel
theorem dX5_wrongEvent_26 : decode cX5_wrongEvent 26 = .ok (.invokevirtual 128, 3) := by decide +kernel
theorem dX5_wrongEvent_29 : decode cX5_wrongEvent 29 = .ok (.ifCond .eq 25, 3) := by decide +kernel
theorem dX5_wrongEvent_32 : decode cX5_wrongEvent 32 = .ok (.aload_n 0, 1) := by decide +kernel
theorem dX5_wrongEvent_33 : decode cX5_wrongEvent 33 = .ok (.aload_n 0, 1) := by decide +kernel
theorem dX5_wrongEvent_34 : decode cX5_wrongEvent 34 = .ok (.invokevirtual 59, 3) := by decide +kernel
theorem dX5_wrongEvent_37 : decode cX5_wrongEvent 37 = .ok (.iload_n 2, 1) := by decide +kernel
theorem dX5_wrongEvent_38 : decode cX5_wrongEvent 38 = .ok (.invokevirtual 88, 3) := by decide +kernel
theorem dX5_wrongEvent_41 : decode cX5_wrongEvent 41 = .ok (.istore_n 3, 1) := by decide +kernel
theorem dX5_wrongEvent_42 : decode cX5_wrongEvent 42 = .ok (.iload_n 1, 1) := by decide +kernel
theorem dX5_wrongEvent_43 : decode cX5_wrongEvent 43 = .ok (.iconst (-1), 1) := by decide +kernel
theorem dX5_wrongEvent_44 : decode cX5_wrongEvent 44 = .ok (.if_icmp .eq 8, 3) := by decide +kernel
theorem dX5_wrongEvent_47 : decode cX5_wrongEvent 47 = .ok (.iload_n 3, 1) := by decide +kernel
theorem dX5_wrongEvent_48 : decode cX5_wrongEvent 48 = .ok (.iload_n 1, 1) := by decide +kernel
theorem dX5_wrongEvent_49 : decode cX5_wrongEvent 49 = .ok (.if_icmp .ge 5, 3) := by decide +kernel
theorem dX5_wrongEvent_52 : decode cX5_wrongEvent 52 = .ok (.iload_n 3, 1) := by decide +kernel
theorem dX5_wrongEvent_53 : decode cX5_wrongEvent 53 = .ok (.istore_n 1, 1) := by decide +kernel
theorem dX5_wrongEvent_54 : decode cX5_wrongEvent 54 = .ok (.iinc 2 1, 3) := by decide +kernel
theorem dX5_wrongEvent_57 : decode cX5_wrongEvent 57 = .ok (.goto (-53), 3) := by decide +kernel
theorem dX5_wrongEvent_60 : decode cX5_wrongEvent 60 = .ok (.iload_n 1, 1) := by decide +kernel
theorem dX5_wrongEvent_61 : decode cX5_wrongEvent 61 = .ok (.ireturn, 1) := by decide +kernel
theorem dX5_surplusEvent_0 : decode cX5_surplusEvent 0 = .ok (.iconst 0, 1) := by decide +kernel
theorem dX5_surplusEvent_1 : decode cX5_surplusEvent 1 = .ok (.istore_n 1, 1) := by decide +kernel
theorem dX5_surplusEvent_2 : decode cX5_surplusEvent 2 = .ok (.iconst 1, 1) := by decide +kernel
theorem dX5_surplusEvent_3 : decode cX5_surplusEvent 3 = .ok (.istore_n 2, 1) := by decide +kernel
theorem dX5_surplusEvent_4 : decode cX5_surplusEvent 4 = .ok (.iload_n 2, 1) := by decide +kernel
theorem dX5_surplusEvent_5 : decode cX5_surplusEvent 5 = .ok (.aload_n 0, 1) := by decide +kernel
theorem dX5_surplusEvent_6 : decode cX5_surplusEvent 6 = .ok (.getfield 9, 3) := by decide +kernel
theorem dX5_surplusEvent_9 : decode cX5_surplusEvent 9 = .ok (.if_icmp .ge 41, 3) := by decide +kernel
theorem dX5_surplusEvent_12 : decode cX5_surplusEvent 12 = .ok (.aload_n 0, 1) := by decide +kernel
theorem dX5_surplusEvent_13 : decode cX5_surplusEvent 13 = .ok (.iload_n 2, 1) := by decide +kernel
theorem dX5_surplusEvent_14 : decode cX5_surplusEvent 14 = .ok (.invokevirtual 55, 3) := by decide +kernel
theorem dX5_surplusEvent_17 : decode cX5_surplusEvent 17 = .ok (.aload_n 0, 1) := by decide +kernel
theorem dX5_surplusEvent_18 : decode cX5_surplusEvent 18 = .ok (.invokevirtual 59, 3) := by decide +kernel
theorem dX5_surplusEvent_21 : decode cX5_surplusEvent 21 = .ok (.iconst (-1), 1) := by decide +kernel
theorem dX5_surplusEvent_22 : decode cX5_surplusEvent 22 = .ok (.if_icmp .eq 6, 3) := by decide +kernel
theorem dX5_surplusEvent_25 : decode cX5_surplusEvent 25 = .ok (.iinc 1 1, 3) := by decide +kernel
theorem dX5_surplusEvent_28 : decode cX5_surplusEvent 28 = .ok (.iload_n 1, 1) := by decide +kernel
theorem dX5_surplusEvent_29 : decode cX5_surplusEvent 29 = .ok (.bipush 40, 2) := by decide +kernel
theorem dX5_surplusEvent_31 : decode cX5_surplusEvent 31 = .ok (.if_icmp .le 13, 3) := by decide +kernel
theorem dX5_surplusEvent_34 : decode cX5_surplusEvent 34 = .ok (.aload_n 0, 1) := by decide +kernel
theorem dX5_surplusEvent_35 : decode cX5_surplusEvent 35 = .ok (.aload_n 0, 1) := by decide +kernel
theorem dX5_surplusEvent_36 : decode cX5_surplusEvent 36 = .ok (.invokevirtual 59, 3) := by decide +kernel
theorem dX5_surplusEvent_39 : decode cX5_surplusEvent 39 = .ok (.iload_n 2, 1) := by decide +kernel
theorem dX5_surplusEvent_40 : decode cX5_surplusEvent 40 = .ok (.invokevirtual 88, 3) := by decide +kernel
theorem dX5_surplusEvent_43 : decode cX5_surplusEvent 43 = .ok (.ireturn, 1) := by decide +kernel
theorem dX5_surplusEvent_44 : decode cX5_surplusEvent 44 = .ok (.iinc 2 1, 3) := by decide +kernel
theorem dX5_surplusEvent_47 : decode cX5_surplusEvent 47 = .ok (.goto (-43), 3) := by decide +kernel
theorem dX5_surplusEvent_50 : decode cX5_surplusEvent 50 = .ok (.iconst (-1), 1) := by decide +kernel
theorem dX5_surplusEvent_51 : decode cX5_surplusEvent 51 = .ok (.ireturn, 1) := by decide +kernel
theorem dX5_loadColumn_0 : decode cX5_loadColumn 0 = .ok (.iconst 0, 1) := by decide +kernel
theorem dX5_loadColumn_1 : decode cX5_loadColumn 1 = .ok (.istore_n 2, 1) := by decide +kernel
theorem dX5_loadColumn_2 : decode cX5_loadColumn 2 = .ok (.iload_n 2, 1) := by decide +kernel
theorem dX5_loadColumn_3 : decode cX5_loadColumn 3 = .ok (.aload_n 0, 1) := by decide +kernel
theorem dX5_loadColumn_4 : decode cX5_loadColumn 4 = .ok (.getfield 22, 3) := by decide +kernel
theorem dX5_loadColumn_7 : decode cX5_loadColumn 7 = .ok (.getfield 69, 3) := by decide +kernel
theorem dX5_loadColumn_10 : decode cX5_loadColumn 10 = .ok (.if_icmp .ge 45, 3) := by decide +kernel
theorem dX5_loadColumn_13 : decode cX5_loadColumn 13 = .ok (.aload_n 0, 1) := by decide +kernel
theorem dX5_loadColumn_14 : decode cX5_loadColumn 14 = .ok (.getfield 15, 3) := by decide +kernel
theorem dX5_loadColumn_17 : decode cX5_loadColumn 17 = .ok (.iload_n 2, 1) := by decide +kernel
theorem dX5_loadColumn_18 : decode cX5_loadColumn 18 = .ok (.iconst (-1), 1) := by decide +kernel
theorem dX5_loadColumn_19 : decode cX5_loadColumn 19 = .ok (.iastore, 1) := by decide +kernel
theorem dX5_loadColumn_20 : decode cX5_loadColumn 20 = .ok (.aload_n 0, 1) := by decide +kernel
theorem dX5_loadColumn_21 : decode cX5_loadColumn 21 = .ok (.iload_n 2, 1) := by decide +kernel
theorem dX5_loadColumn_22 : decode cX5_loadColumn 22 = .ok (.iload_n 1, 1) := by decide +kernel
theorem dX5_loadColumn_23 : decode cX5_loadColumn 23 = .ok (.invokevirtual 104, 3) := by decide +kernel
theorem dX5_loadColumn_26 : decode cX5_loadColumn 26 = .ok (.ifCond .eq 23, 3) := by decide +kernel
theorem dX5_loadColumn_29 : decode cX5_loadColumn 29 = .ok (.aload_n 0, 1) := by decide +kernel
theorem dX5_loadColumn_30 : decode cX5_loadColumn 30 = .ok (.getfield 15, 3) := by decide +kernel
theorem dX5_loadColumn_33 : decode cX5_loadColumn 33 = .ok (.iload_n 2, 1) := by decide +kernel
theorem dX5_loadColumn_34 : decode cX5_loadColumn 34 = .ok (.aload_n 0, 1) := by decide +kernel
theorem dX5_loadColumn_35 : decode cX5_loadColumn 35 = .ok (.getfield 22, 3) := by decide +kernel
end
section
theorem dX5_loadColumn_38 : decode cX5_loadColumn 38 = .ok (.iload_n 2, 1) := by decide +kernel
theorem dX5_loadColumn_39 : decode cX5_loadColumn 39 = .ok (.aload_n 0, 1) := by decide +kernel
theorem dX5_loadColumn_40 : decode cX5_loadColumn 40 = .ok (.iload_n 2, 1) := by decide +kernel
theorem dX5_loadColumn_41 : decode cX5_loadColumn 41 = .ok (.iload_n 1, 1) := by decide +kernel
theorem dX5_loadColumn_42 : decode cX5_loadColumn 42 = .ok (.invokevirtual 116, 3) := by decide +kernel
theorem dX5_loadColumn_45 : decode cX5_loadColumn 45 = .ok (.invokevirtual 131, 3) := by decide +kernel
theorem dX5_loadColumn_48 : decode cX5_loadColumn 48 = .ok (.iastore, 1) := by decide +kernel
theorem dX5_loadColumn_49 : decode cX5_loadColumn 49 = .ok (.iinc 2 1, 3) := by decide +kernel
theorem dX5_loadColumn_52 : decode cX5_loadColumn 52 = .ok (.goto (-50), 3) := by decide +kernel
theorem dX5_loadColumn_55 : decode cX5_loadColumn 55 = .ok (.return_, 1) := by decide +kernel
theorem dX5_countPitches_0 : decode cX5_countPitches 0 = .ok (.iconst 0, 1) := by decide +kernel
theorem dX5_countPitches_1 : decode cX5_countPitches 1 = .ok (.istore_n 1, 1) := by decide +kernel
theorem dX5_countPitches_2 : decode cX5_countPitches 2 = .ok (.iconst 0, 1) := by decide +kernel
theorem dX5_countPitches_3 : decode cX5_countPitches 3 = .ok (.istore_n 2, 1) := by decide +kernel
theorem dX5_countPitches_4 : decode cX5_countPitches 4 = .ok (.iload_n 2, 1) := by decide +kernel
theorem dX5_countPitches_5 : decode cX5_countPitches 5 = .ok (.aload_n 0, 1) := by decide +kernel
theorem dX5_countPitches_6 : decode cX5_countPitches 6 = .ok (.getfield 22, 3) := by decide +kernel
theorem dX5_countPitches_9 : decode cX5_countPitches 9 = .ok (.getfield 69, 3) := by decide +kernel
theorem dX5_countPitches_12 : decode cX5_countPitches 12 = .ok (.if_icmp .ge 22, 3) := by decide +kernel
theorem dX5_countPitches_15 : decode cX5_countPitches 15 = .ok (.aload_n 0, 1) := by decide +kernel
theorem dX5_countPitches_16 : decode cX5_countPitches 16 = .ok (.getfield 15, 3) := by decide +kernel
theorem dX5_countPitches_19 : decode cX5_countPitches 19 = .ok (.iload_n 2, 1) := by decide +kernel
theorem dX5_countPitches_20 : decode cX5_countPitches 20 = .ok (.iaload, 1) := by decide +kernel
theorem dX5_countPitches_21 : decode cX5_countPitches 21 = .ok (.iconst (-1), 1) := by decide +kernel
theorem dX5_countPitches_22 : decode cX5_countPitches 22 = .ok (.if_icmp .eq 6, 3) := by decide +kernel
theorem dX5_countPitches_25 : decode cX5_countPitches 25 = .ok (.iinc 1 1, 3) := by decide +kernel
theorem dX5_countPitches_28 : decode cX5_countPitches 28 = .ok (.iinc 2 1, 3) := by decide +kernel
theorem dX5_countPitches_31 : decode cX5_countPitches 31 = .ok (.goto (-27), 3) := by decide +kernel
theorem dX5_countPitches_34 : decode cX5_countPitches 34 = .ok (.iload_n 1, 1) := by decide +kernel
theorem dX5_countPitches_35 : decode cX5_countPitches 35 = .ok (.ireturn, 1) := by decide +kernel
theorem dX5_hasPitchTwice_0 : decode cX5_hasPitchTwice 0 = .ok (.iconst 1, 1) := by decide +kernel
theorem dX5_hasPitchTwice_1 : decode cX5_hasPitchTwice 1 = .ok (.istore_n 1, 1) := by decide +kernel
theorem dX5_hasPitchTwice_2 : decode cX5_hasPitchTwice 2 = .ok (.iload_n 1, 1) := by decide +kernel
theorem dX5_hasPitchTwice_3 : decode cX5_hasPitchTwice 3 = .ok (.aload_n 0, 1) := by decide +kernel
theorem dX5_hasPitchTwice_4 : decode cX5_hasPitchTwice 4 = .ok (.getfield 22, 3) := by decide +kernel
theorem dX5_hasPitchTwice_7 : decode cX5_hasPitchTwice 7 = .ok (.getfield 69, 3) := by decide +kernel
theorem dX5_hasPitchTwice_10 : decode cX5_hasPitchTwice 10 = .ok (.if_icmp .ge 49, 3) := by decide +kernel
theorem dX5_hasPitchTwice_13 : decode cX5_hasPitchTwice 13 = .ok (.iconst 0, 1) := by decide +kernel
theorem dX5_hasPitchTwice_14 : decode cX5_hasPitchTwice 14 = .ok (.istore_n 2, 1) := by decide +kernel
theorem dX5_hasPitchTwice_15 : decode cX5_hasPitchTwice 15 = .ok (.iload_n 2, 1) := by decide +kernel
theorem dX5_hasPitchTwice_16 : decode cX5_hasPitchTwice 16 = .ok (.iload_n 1, 1) := by decide +kernel
theorem dX5_hasPitchTwice_17 : decode cX5_hasPitchTwice 17 = .ok (.if_icmp .ge 36, 3) := by decide +kernel
theorem dX5_hasPitchTwice_20 : decode cX5_hasPitchTwice 20 = .ok (.aload_n 0, 1) := by decide +kernel
theorem dX5_hasPitchTwice_21 : decode cX5_hasPitchTwice 21 = .ok (.getfield 15, 3) := by decide +kernel
theorem dX5_hasPitchTwice_24 : decode cX5_hasPitchTwice 24 = .ok (.iload_n 1, 1) := by decide +kernel
theorem dX5_hasPitchTwice_25 : decode cX5_hasPitchTwice 25 = .ok (.iaload, 1) := by decide +kernel
theorem dX5_hasPitchTwice_26 : decode cX5_hasPitchTwice 26 = .ok (.iconst (-1), 1) := by decide +kernel
theorem dX5_hasPitchTwice_27 : decode cX5_hasPitchTwice 27 = .ok (.if_icmp .eq 20, 3) := by decide +kernel
theorem dX5_hasPitchTwice_30 : decode cX5_hasPitchTwice 30 = .ok (.aload_n 0, 1) := by decide +kernel
theorem dX5_hasPitchTwice_31 : decode cX5_hasPitchTwice 31 = .ok (.getfield 15, 3) := by decide +kernel
theorem dX5_hasPitchTwice_34 : decode cX5_hasPitchTwice 34 = .ok (.iload_n 1, 1) := by decide +kernel
theorem dX5_hasPitchTwice_35 : decode cX5_hasPitchTwice 35 = .ok (.iaload, 1) := by decide +kernel
theorem dX5_hasPitchTwice_36 : decode cX5_hasPitchTwice 36 = .ok (.aload_n 0, 1) := by decide +kernel
theorem dX5_hasPitchTwice_37 : decode cX5_hasPitchTwice 37 = .ok (.getfield 15, 3) := by decide +kernel
theorem dX5_hasPitchTwice_40 : decode cX5_hasPitchTwice 40 = .ok (.iload_n 2, 1) := by decide +kernel
theorem dX5_hasPitchTwice_41 : decode cX5_hasPitchTwice 41 = .ok (.iaload, 1) := by decide +kernel
theorem dX5_hasPitchTwice_42 : decode cX5_hasPitchTwice 42 = .ok (.if_icmp .ne 5, 3) := by decide +kernel
theorem dX5_hasPitchTwice_45 : decode cX5_hasPitchTwice 45 = .ok (.iconst 1, 1) := by decide +kernel
theorem dX5_hasPitchTwice_46 : decode cX5_hasPitchTwice 46 = .ok (.ireturn, 1) := by decide +kernel
theorem dX5_hasPitchTwice_47 : decode cX5_hasPitchTwice 47 = .ok (.iinc 2 1, 3) := by decide +kernel
theorem dX5_hasPitchTwice_50 : decode cX5_hasPitchTwice 50 = .ok (.goto (-35), 3) := by decide +kernel
theorem dX5_hasPitchTwice_53 : decode cX5_hasPitchTwice 53 = .ok (.iinc 1 1, 3) := by decide +kernel
theorem dX5_hasPitchTwice_56 : decode cX5_hasPitchTwice 56 = .ok (.goto (-54), 3) := by decide +kernel
theorem dX5_hasPitchTwice_59 : decode cX5_hasPitchTwice 59 = .ok (.iconst 0, 1) := by decide +kernel
theorem dX5_hasPitchTwice_60 : decode cX5_hasPitchTwice 60 = .ok (.ireturn, 1) := by decide +kernel
theorem dX5_lowestString_0 : decode cX5_lowestString 0 = .ok (.iconst 0, 1) := by decide +kernel
theorem dX5_lowestString_1 : decode cX5_lowestString 1 = .ok (.istore_n 1, 1) := by decide +kernel
theorem dX5_lowestString_2 : decode cX5_lowestString 2 = .ok (.iload_n 1, 1) := by decide +kernel
theorem dX5_lowestString_3 : decode cX5_lowestString 3 = .ok (.aload_n 0, 1) := by decide +kernel
theorem dX5_lowestString_4 : decode cX5_lowestString 4 = .ok (.getfield 22, 3) := by decide +kernel
theorem dX5_lowestString_7 : decode cX5_lowestString 7 = .ok (.getfield 69, 3) := by decide +kernel
theorem dX5_lowestString_10 : decode cX5_lowestString 10 = .ok (.if_icmp .ge 21, 3) := by decide +kernel
theorem dX5_lowestString_13 : decode cX5_lowestString 13 = .ok (.aload_n 0, 1) := by decide +kernel
theorem dX5_lowestString_14 : decode cX5_lowestString 14 = .ok (.getfield 15, 3) := by decide +kernel
theorem dX5_lowestString_17 : decode cX5_lowestString 17 = .ok (.iload_n 1, 1) := by decide +kernel
theorem dX5_lowestString_18 : decode cX5_lowestString 18 = .ok (.iaload, 1) := by decide +kernel
theorem dX5_lowestString_19 : decode cX5_lowestString 19 = .ok (.iconst (-1), 1) := by decide +kernel
theorem dX5_lowestString_20 : decode cX5_lowestString 20 = .ok (.if_icmp .eq 5, 3) := by decide +kernel
theorem dX5_lowestString_23 : decode cX5_lowestString 23 = .ok (.iload_n 1, 1) := by decide +kernel
theorem dX5_lowestString_24 : decode cX5_lowestString 24 = .ok (.ireturn, 1) := by decide +kernel
theorem dX5_lowestString_25 : decode cX5_lowestString 25 = .ok (.iinc 1 1, 3) := by decide +kernel
theorem dX5_lowestString_28 : decode cX5_lowestString 28 = .ok (.goto (-26), 3) := by decide +kernel
theorem dX5_lowestString_31 : decode cX5_lowestString 31 = .ok (.iconst (-1), 1) := by decide +kernel
theorem dX5_lowestString_32 : decode cX5_lowestString 32 = .ok (.ireturn, 1) := by decide +kernel
theorem dX5_numberIn_0 : decode cX5_numberIn 0 = .ok (.aload_n 0, 1) := by decide +kernel
theorem dX5_numberIn_1 : decode cX5_numberIn 1 = .ok (.iload_n 1, 1) := by decide +kernel
theorem dX5_numberIn_2 : decode cX5_numberIn 2 = .ok (.iload_n 2, 1) := by decide +kernel
theorem dX5_numberIn_3 : decode cX5_numberIn 3 = .ok (.invokevirtual 81, 3) := by decide +kernel
theorem dX5_numberIn_6 : decode cX5_numberIn 6 = .ok (.bipush 48, 2) := by decide +kernel
theorem dX5_numberIn_8 : decode cX5_numberIn 8 = .ok (.isub, 1) := by decide +kernel
theorem dX5_numberIn_9 : decode cX5_numberIn 9 = .ok (.istore_n 3, 1) := by decide +kernel
theorem dX5_numberIn_10 : decode cX5_numberIn 10 = .ok (.aload_n 0, 1) := by decide +kernel
theorem dX5_numberIn_11 : decode cX5_numberIn 11 = .ok (.iload_n 1, 1) := by decide +kernel
theorem dX5_numberIn_12 : decode cX5_numberIn 12 = .ok (.iload_n 2, 1) := by decide +kernel
theorem dX5_numberIn_13 : decode cX5_numberIn 13 = .ok (.iconst 1, 1) := by decide +kernel
theorem dX5_numberIn_14 : decode cX5_numberIn 14 = .ok (.iadd, 1) := by decide +kernel
theorem dX5_numberIn_15 : decode cX5_numberIn 15 = .ok (.invokevirtual 81, 3) := by decide +kernel
theorem dX5_numberIn_18 : decode cX5_numberIn 18 = .ok (.istore 4, 2) := by decide +kernel
theorem dX5_numberIn_20 : decode cX5_numberIn 20 = .ok (.iload 4, 2) := by decide +kernel
theorem dX5_numberIn_22 : decode cX5_numberIn 22 = .ok (.invokestatic 110, 3) := by decide +kernel
theorem dX5_numberIn_25 : decode cX5_numberIn 25 = .ok (.ifCond .eq 16, 3) := by decide +kernel
theorem dX5_numberIn_28 : decode cX5_numberIn 28 = .ok (.iload_n 3, 1) := by decide +kernel
theorem dX5_numberIn_29 : decode cX5_numberIn 29 = .ok (.bipush 10, 2) := by decide +kernel
theorem dX5_numberIn_31 : decode cX5_numberIn 31 = .ok (.imul, 1) := by decide +kernel
theorem dX5_numberIn_32 : decode cX5_numberIn 32 = .ok (.iload 4, 2) := by decide +kernel
theorem dX5_numberIn_34 : decode cX5_numberIn 34 = .ok (.iadd, 1) := by decide +kernel
theorem dX5_numberIn_35 : decode cX5_numberIn 35 = .ok (.bipush 48, 2) := by decide +kernel
theorem dX5_numberIn_37 : decode cX5_numberIn 37 = .ok (.isub, 1) := by decide +kernel
theorem dX5_numberIn_38 : decode cX5_numberIn 38 = .ok (.goto 4, 3) := by decide +kernel
theorem dX5_numberIn_41 : decode cX5_numberIn 41 = .ok (.iload_n 3, 1) := by decide +kernel
theorem dX5_numberIn_42 : decode cX5_numberIn 42 = .ok (.ireturn, 1) := by decide +kernel
theorem dX5_beginsNumber_0 : decode cX5_beginsNumber 0 = .ok (.aload_n 0, 1) := by decide +kernel
theorem dX5_beginsNumber_1 : decode cX5_beginsNumber 1 = .ok (.iload_n 1, 1) := by decide +kernel
theorem dX5_beginsNumber_2 : decode cX5_beginsNumber 2 = .ok (.iload_n 2, 1) := by decide +kernel
theorem dX5_beginsNumber_3 : decode cX5_beginsNumber 3 = .ok (.invokevirtual 81, 3) := by decide +kernel
theorem dX5_beginsNumber_6 : decode cX5_beginsNumber 6 = .ok (.invokestatic 110, 3) := by decide +kernel
theorem dX5_beginsNumber_9 : decode cX5_beginsNumber 9 = .ok (.ifCond .eq 21, 3) := by decide +kernel
theorem dX5_beginsNumber_12 : decode cX5_beginsNumber 12 = .ok (.aload_n 0, 1) := by decide +kernel
theorem dX5_beginsNumber_13 : decode cX5_beginsNumber 13 = .ok (.iload_n 1, 1) := by decide +kernel
theorem dX5_beginsNumber_14 : decode cX5_beginsNumber 14 = .ok (.iload_n 2, 1) := by decide +kernel
theorem dX5_beginsNumber_15 : decode cX5_beginsNumber 15 = .ok (.iconst 1, 1) := by decide +kernel
theorem dX5_beginsNumber_16 : decode cX5_beginsNumber 16 = .ok (.isub, 1) := by decide +kernel
theorem dX5_beginsNumber_17 : decode cX5_beginsNumber 17 = .ok (.invokevirtual 81, 3) := by decide +kernel
theorem dX5_beginsNumber_20 : decode cX5_beginsNumber 20 = .ok (.invokestatic 110, 3) := by decide +kernel
theorem dX5_beginsNumber_23 : decode cX5_beginsNumber 23 = .ok (.ifCond .ne 7, 3) := by decide +kernel
theorem dX5_beginsNumber_26 : decode cX5_beginsNumber 26 = .ok (.iconst 1, 1) := by decide +kernel
theorem dX5_beginsNumber_27 : decode cX5_beginsNumber 27 = .ok (.goto 4, 3) := by decide +kernel
theorem dX5_beginsNumber_30 : decode cX5_beginsNumber 30 = .ok (.iconst 0, 1) := by decide +kernel
theorem dX5_beginsNumber_31 : decode cX5_beginsNumber 31 = .ok (.ireturn, 1) := by decide +kernel
theorem dX5_signIn_0 : decode cX5_signIn 0 = .ok (.aload_n 0, 1) := by decide +kernel
theorem dX5_signIn_1 : decode cX5_signIn 1 = .ok (.getfield 30, 3) := by decide +kernel
theorem dX5_signIn_4 : decode cX5_signIn 4 = .ok (.aload_n 0, 1) := by decide +kernel
theorem dX5_signIn_5 : decode cX5_signIn 5 = .ok (.iload_n 1, 1) := by decide +kernel
theorem dX5_signIn_6 : decode cX5_signIn 6 = .ok (.iload_n 2, 1) := by decide +kernel
theorem dX5_signIn_7 : decode cX5_signIn 7 = .ok (.invokevirtual 88, 3) := by decide +kernel
theorem dX5_signIn_10 : decode cX5_signIn 10 = .ok (.invokevirtual 96, 3) := by decide +kernel
theorem dX5_signIn_13 : decode cX5_signIn 13 = .ok (.ireturn, 1) := by decide +kernel
theorem dX5_placeOf_0 : decode cX5_placeOf 0 = .ok (.aload_n 0, 1) := by decide +kernel
theorem dX5_placeOf_1 : decode cX5_placeOf 1 = .ok (.getfield 22, 3) := by decide +kernel
theorem dX5_placeOf_4 : decode cX5_placeOf 4 = .ok (.getfield 69, 3) := by decide +kernel
theorem dX5_placeOf_7 : decode cX5_placeOf 7 = .ok (.iconst 1, 1) := by decide +kernel
theorem dX5_placeOf_8 : decode cX5_placeOf 8 = .ok (.isub, 1) := by decide +kernel
theorem dX5_placeOf_9 : decode cX5_placeOf 9 = .ok (.iload_n 1, 1) := by decide +kernel
theorem dX5_placeOf_10 : decode cX5_placeOf 10 = .ok (.isub, 1) := by decide +kernel
theorem dX5_placeOf_11 : decode cX5_placeOf 11 = .ok (.aload_n 0, 1) := by decide +kernel
theorem dX5_placeOf_12 : decode cX5_placeOf 12 = .ok (.getfield 9, 3) := by decide +kernel
theorem dX5_placeOf_15 : decode cX5_placeOf 15 = .ok (.imul, 1) := by decide +kernel
theorem dX5_placeOf_16 : decode cX5_placeOf 16 = .ok (.iload_n 2, 1) := by decide +kernel
theorem dX5_placeOf_17 : decode cX5_placeOf 17 = .ok (.iadd, 1) := by decide +kernel
theorem dX5_placeOf_18 : decode cX5_placeOf 18 = .ok (.ireturn, 1) := by decide +kernel
theorem dX5_isInner_0 : decode cX5_isInner 0 = .ok (.iload_n 0, 1) := by decide +kernel
theorem dX5_isInner_1 : decode cX5_isInner 1 = .ok (.bipush 45, 2) := by decide +kernel
theorem dX5_isInner_3 : decode cX5_isInner 3 = .ok (.if_icmp .eq 10, 3) := by decide +kernel
theorem dX5_isInner_6 : decode cX5_isInner 6 = .ok (.iload_n 0, 1) := by decide +kernel
theorem dX5_isInner_7 : decode cX5_isInner 7 = .ok (.invokestatic 110, 3) := by decide +kernel
theorem dX5_isInner_10 : decode cX5_isInner 10 = .ok (.ifCond .eq 7, 3) := by decide +kernel
theorem dX5_isInner_13 : decode cX5_isInner 13 = .ok (.iconst 1, 1) := by decide +kernel
theorem dX5_isInner_14 : decode cX5_isInner 14 = .ok (.goto 4, 3) := by decide +kernel
theorem dX5_isInner_17 : decode cX5_isInner 17 = .ok (.iconst 0, 1) := by decide +kernel
theorem dX5_isInner_18 : decode cX5_isInner 18 = .ok (.ireturn, 1) := by decide +kernel
theorem dX5_isDigit_0 : decode cX5_isDigit 0 = .ok (.iload_n 0, 1) := by decide +kernel
theorem dX5_isDigit_1 : decode cX5_isDigit 1 = .ok (.bipush 48, 2) := by decide +kernel
theorem dX5_isDigit_3 : decode cX5_isDigit 3 = .ok (.if_icmp .lt 13, 3) := by decide +kernel
theorem dX5_isDigit_6 : decode cX5_isDigit 6 = .ok (.iload_n 0, 1) := by decide +kernel
theorem dX5_isDigit_7 : decode cX5_isDigit 7 = .ok (.bipush 57, 2) := by decide +kernel
theorem dX5_isDigit_9 : decode cX5_isDigit 9 = .ok (.if_icmp .gt 7, 3) := by decide +kernel
theorem dX5_isDigit_12 : decode cX5_isDigit 12 = .ok (.iconst 1, 1) := by decide +kernel
theorem dX5_isDigit_13 : decode cX5_isDigit 13 = .ok (.goto 4, 3) := by decide +kernel
theorem dX5_isDigit_16 : decode cX5_isDigit 16 = .ok (.iconst 0, 1) := by decide +kernel
theorem dX5_isDigit_17 : decode cX5_isDigit 17 = .ok (.ireturn, 1) := by decide +kernel
theorem dX6_init_0 : decode cX6_init 0 = .ok (.aload_n 0, 1) := by decide +kernel
theorem dX6_init_1 : decode cX6_init 1 = .ok (.invokespecial 3, 3) := by decide +kernel
theorem dX6_init_4 : decode cX6_init 4 = .ok (.aload_n 0, 1) := by decide +kernel
theorem dX6_init_5 : decode cX6_init 5 = .ok (.bipush 40, 2) := by decide +kernel
theorem dX6_init_7 : decode cX6_init 7 = .ok (.newarray .int, 2) := by decide +kernel
theorem dX6_init_9 : decode cX6_init 9 = .ok (.putfield 9, 3) := by decide +kernel
theorem dX6_init_12 : decode cX6_init 12 = .ok (.aload_n 0, 1) := by decide +kernel
theorem dX6_init_13 : decode cX6_init 13 = .ok (.aload_n 1, 1) := by decide +kernel
theorem dX6_init_14 : decode cX6_init 14 = .ok (.putfield 15, 3) := by decide +kernel
theorem dX6_init_17 : decode cX6_init 17 = .ok (.aload_n 0, 1) := by decide +kernel
theorem dX6_init_18 : decode cX6_init 18 = .ok (.aload_n 2, 1) := by decide +kernel
theorem dX6_init_19 : decode cX6_init 19 = .ok (.putfield 19, 3) := by decide +kernel
theorem dX6_init_22 : decode cX6_init 22 = .ok (.aload_n 0, 1) := by decide +kernel
theorem dX6_init_23 : decode cX6_init 23 = .ok (.aload_n 3, 1) := by decide +kernel
theorem dX6_init_24 : decode cX6_init 24 = .ok (.putfield 23, 3) := by decide +kernel
theorem dX6_init_27 : decode cX6_init 27 = .ok (.aload_n 0, 1) := by decide +kernel
theorem dX6_init_28 : decode cX6_init 28 = .ok (.aload 4, 2) := by decide +kernel
theorem dX6_init_30 : decode cX6_init 30 = .ok (.putfield 27, 3) := by decide +kernel
theorem dX6_init_33 : decode cX6_init 33 = .ok (.return_, 1) := by decide +kernel
theorem dX6_writeTab_0 : decode cX6_writeTab 0 = .ok (.aload_n 0, 1) := by decide +kernel
theorem dX6_writeTab_1 : decode cX6_writeTab 1 = .ok (.getfield 27, 3) := by decide +kernel
theorem dX6_writeTab_4 : decode cX6_writeTab 4 = .ok (.iconst 0, 1) := by decide +kernel
theorem dX6_writeTab_5 : decode cX6_writeTab 5 = .ok (.putfield 31, 3) := by decide +kernel
theorem dX6_writeTab_8 : decode cX6_writeTab 8 = .ok (.iconst 0, 1) := by decide +kernel
theorem dX6_writeTab_9 : decode cX6_writeTab 9 = .ok (.istore_n 1, 1) := by decide +kernel
theorem dX6_writeTab_10 : decode cX6_writeTab 10 = .ok (.iload_n 1, 1) := by decide +kernel
theorem dX6_writeTab_11 : decode cX6_writeTab 11 = .ok (.aload_n 0, 1) := by decide +kernel
theorem dX6_writeTab_12 : decode cX6_writeTab 12 = .ok (.getfield 19, 3) := by decide +kernel
theorem dX6_writeTab_15 : decode cX6_writeTab 15 = .ok (.getfield 37, 3) := by decide +kernel
theorem dX6_writeTab_18 : decode cX6_writeTab 18 = .ok (.if_icmp .ge 20, 3) := by decide +kernel
theorem dX6_writeTab_21 : decode cX6_writeTab 21 = .ok (.aload_n 0, 1) := by decide +kernel
theorem dX6_writeTab_22 : decode cX6_writeTab 22 = .ok (.getfield 9, 3) := by decide +kernel
theorem dX6_writeTab_25 : decode cX6_writeTab 25 = .ok (.iload_n 1, 1) := by decide +kernel
theorem dX6_writeTab_26 : decode cX6_writeTab 26 = .ok (.aload_n 0, 1) := by decide +kernel
theorem dX6_writeTab_27 : decode cX6_writeTab 27 = .ok (.iload_n 1, 1) := by decide +kernel
theorem dX6_writeTab_28 : decode cX6_writeTab 28 = .ok (.invokevirtual 42, 3) := by decide +kernel
theorem dX6_writeTab_31 : decode cX6_writeTab 31 = .ok (.iastore, 1) := by decide +kernel
theorem dX6_writeTab_32 : decode cX6_writeTab 32 = .ok (.iinc 1 1, 3) := by decide +kernel
theorem dX6_writeTab_35 : decode cX6_writeTab 35 = .ok (.goto (-25), 3) := by decide +kernel
theorem dX6_writeTab_38 : decode cX6_writeTab 38 = .ok (.aload_n 0, 1) := by decide +kernel
theorem dX6_writeTab_39 : decode cX6_writeTab 39 = .ok (.getfield 15, 3) := by decide +kernel
theorem dX6_writeTab_42 : decode cX6_writeTab 42 = .ok (.getfield 46, 3) := by decide +kernel
theorem dX6_writeTab_45 : decode cX6_writeTab 45 = .ok (.iconst 1, 1) := by decide +kernel
theorem dX6_writeTab_46 : decode cX6_writeTab 46 = .ok (.isub, 1) := by decide +kernel
theorem dX6_writeTab_47 : decode cX6_writeTab 47 = .ok (.istore_n 1, 1) := by decide +kernel
theorem dX6_writeTab_48 : decode cX6_writeTab 48 = .ok (.iload_n 1, 1) := by decide +kernel
theorem dX6_writeTab_49 : decode cX6_writeTab 49 = .ok (.ifCond .lt 14, 3) := by decide +kernel
theorem dX6_writeTab_52 : decode cX6_writeTab 52 = .ok (.aload_n 0, 1) := by decide +kernel
theorem dX6_writeTab_53 : decode cX6_writeTab 53 = .ok (.iload_n 1, 1) := by decide +kernel
theorem dX6_writeTab_54 : decode cX6_writeTab 54 = .ok (.invokevirtual 51, 3) := by decide +kernel
theorem dX6_writeTab_57 : decode cX6_writeTab 57 = .ok (.iinc 1 (-1), 3) := by decide +kernel
theorem dX6_writeTab_60 : decode cX6_writeTab 60 = .ok (.goto (-12), 3) := by decide +kernel
theorem dX6_writeTab_63 : decode cX6_writeTab 63 = .ok (.return_, 1) := by decide +kernel
theorem dX6_writeLine_0 : decode cX6_writeLine 0 = .ok (.aload_n 0, 1) := by decide +kernel
theorem dX6_writeLine_1 : decode cX6_writeLine 1 = .ok (.getfield 27, 3) := by decide +kernel
theorem dX6_writeLine_4 : decode cX6_writeLine 4 = .ok (.bipush 124, 2) := by decide +kernel
theorem dX6_writeLine_6 : decode cX6_writeLine 6 = .ok (.invokevirtual 55, 3) := by decide +kernel
theorem dX6_writeLine_9 : decode cX6_writeLine 9 = .ok (.pop, 1) := by decide +kernel
theorem dX6_writeLine_10 : decode cX6_writeLine 10 = .ok (.iconst 0, 1) := by decide +kernel
theorem dX6_writeLine_11 : decode cX6_writeLine 11 = .ok (.istore_n 2, 1) := by decide +kernel
theorem dX6_writeLine_12 : decode cX6_writeLine 12 = .ok (.iload_n 2, 1) := by decide +kernel
theorem dX6_writeLine_13 : decode cX6_writeLine 13 = .ok (.aload_n 0, 1) := by decide +kernel
theorem dX6_writeLine_14 : decode cX6_writeLine 14 = .ok (.getfield 19, 3) := by decide +kernel
theorem dX6_writeLine_17 : decode cX6_writeLine 17 = .ok (.getfield 37, 3) := by decide +kernel
theorem dX6_writeLine_20 : decode cX6_writeLine 20 = .ok (.if_icmp .ge 60, 3) := by decide +kernel
theorem dX6_writeLine_23 : decode cX6_writeLine 23 = .ok (.aload_n 0, 1) := by decide +kernel
theorem dX6_writeLine_24 : decode cX6_writeLine 24 = .ok (.getfield 27, 3) := by decide +kernel
theorem dX6_writeLine_27 : decode cX6_writeLine 27 = .ok (.bipush 45, 2) := by decide +kernel
theorem dX6_writeLine_29 : decode cX6_writeLine 29 = .ok (.invokevirtual 55, 3) := by decide +kernel
theorem dX6_writeLine_32 : decode cX6_writeLine 32 = .ok (.pop, 1) := by decide +kernel
theorem dX6_writeLine_33 : decode cX6_writeLine 33 = .ok (.aload_n 0, 1) := by decide +kernel
theorem dX6_writeLine_34 : decode cX6_writeLine 34 = .ok (.aload_n 0, 1) := by decide +kernel
theorem dX6_writeLine_35 : decode cX6_writeLine 35 = .ok (.iload_n 2, 1) := by decide +kernel
theorem dX6_writeLine_36 : decode cX6_writeLine 36 = .ok (.iload_n 1, 1) := by decide +kernel
theorem dX6_writeLine_37 : decode cX6_writeLine 37 = .ok (.invokevirtual 59, 3) := by decide +kernel
theorem dX6_writeLine_40 : decode cX6_writeLine 40 = .ok (.invokevirtual 63, 3) := by decide +kernel
theorem dX6_writeLine_43 : decode cX6_writeLine 43 = .ok (.istore_n 3, 1) := by decide +kernel
theorem dX6_writeLine_44 : decode cX6_writeLine 44 = .ok (.iload_n 3, 1) := by decide +kernel
theorem dX6_writeLine_45 : decode cX6_writeLine 45 = .ok (.istore 4, 2) := by decide +kernel
theorem dX6_writeLine_47 : decode cX6_writeLine 47 = .ok (.iload 4, 2) := by decide +kernel
theorem dX6_writeLine_49 : decode cX6_writeLine 49 = .ok (.aload_n 0, 1) := by decide +kernel
theorem dX6_writeLine_50 : decode cX6_writeLine 50 = .ok (.getfield 9, 3) := by decide +kernel
theorem dX6_writeLine_53 : decode cX6_writeLine 53 = .ok (.iload_n 2, 1) := by decide +kernel
theorem dX6_writeLine_54 : decode cX6_writeLine 54 = .ok (.iaload, 1) := by decide +kernel
theorem dX6_writeLine_55 : decode cX6_writeLine 55 = .ok (.if_icmp .ge 19, 3) := by decide +kernel
theorem dX6_writeLine_58 : decode cX6_writeLine 58 = .ok (.aload_n 0, 1) := by decide +kernel
theorem dX6_writeLine_59 : decode cX6_writeLine 59 = .ok (.getfield 27, 3) := by decide +kernel
theorem dX6_writeLine_62 : decode cX6_writeLine 62 = .ok (.bipush 45, 2) := by decide +kernel
theorem dX6_writeLine_64 : decode cX6_writeLine 64 = .ok (.invokevirtual 55, 3) := by decide +kernel
theorem dX6_writeLine_67 : decode cX6_writeLine 67 = .ok (.pop, 1) := by decide +kernel
theorem dX6_writeLine_68 : decode cX6_writeLine 68 = .ok (.iinc 4 1, 3) := by decide +kernel
theorem dX6_writeLine_71 : decode cX6_writeLine 71 = .ok (.goto (-24), 3) := by decide +kernel
theorem dX6_writeLine_74 : decode cX6_writeLine 74 = .ok (.iinc 2 1, 3) := by decide +kernel
theorem dX6_writeLine_77 : decode cX6_writeLine 77 = .ok (.goto (-65), 3) := by decide +kernel
theorem dX6_writeLine_80 : decode cX6_writeLine 80 = .ok (.aload_n 0, 1) := by decide +kernel
theorem dX6_writeLine_81 : decode cX6_writeLine 81 = .ok (.getfield 27, 3) := by decide +kernel
theorem dX6_writeLine_84 : decode cX6_writeLine 84 = .ok (.bipush 45, 2) := by decide +kernel
theorem dX6_writeLine_86 : decode cX6_writeLine 86 = .ok (.invokevirtual 55, 3) := by decide +kernel
theorem dX6_writeLine_89 : decode cX6_writeLine 89 = .ok (.pop, 1) := by decide +kernel
theorem dX6_writeLine_90 : decode cX6_writeLine 90 = .ok (.aload_n 0, 1) := by decide +kernel
theorem dX6_writeLine_91 : decode cX6_writeLine 91 = .ok (.getfield 27, 3) := by decide +kernel
theorem dX6_writeLine_94 : decode cX6_writeLine 94 = .ok (.bipush 124, 2) := by decide +kernel
theorem dX6_writeLine_96 : decode cX6_writeLine 96 = .ok (.invokevirtual 55, 3) := by decide +kernel
theorem dX6_writeLine_99 : decode cX6_writeLine 99 = .ok (.pop, 1) := by decide +kernel
theorem dX6_writeLine_100 : decode cX6_writeLine 100 = .ok (.aload_n 0, 1) := by decide +kernel
theorem dX6_writeLine_101 : decode cX6_writeLine 101 = .ok (.getfield 27, 3) := by decide +kernel
theorem dX6_writeLine_104 : decode cX6_writeLine 104 = .ok (.bipush 10, 2) := by decide +kernel
theorem dX6_writeLine_106 : decode cX6_writeLine 106 = .ok (.invokevirtual 55, 3) := by decide +kernel
theorem dX6_writeLine_109 : decode cX6_writeLine 109 = .ok (.pop, 1) := by decide +kernel
theorem dX6_writeLine_110 : decode cX6_writeLine 110 = .ok (.return_, 1) := by decide +kernel
theorem dX6_writeNumber_0 : decode cX6_writeNumber 0 = .ok (.iload_n 1, 1) := by decide +kernel
theorem dX6_writeNumber_1 : decode cX6_writeNumber 1 = .ok (.invokestatic 66, 3) := by decide +kernel
theorem dX6_writeNumber_4 : decode cX6_writeNumber 4 = .ok (.istore_n 2, 1) := by decide +kernel
theorem dX6_writeNumber_5 : decode cX6_writeNumber 5 = .ok (.iload_n 2, 1) := by decide +kernel
theorem dX6_writeNumber_6 : decode cX6_writeNumber 6 = .ok (.iconst 1, 1) := by decide +kernel
theorem dX6_writeNumber_7 : decode cX6_writeNumber 7 = .ok (.if_icmp .le 18, 3) := by decide +kernel
theorem dX6_writeNumber_10 : decode cX6_writeNumber 10 = .ok (.aload_n 0, 1) := by decide +kernel
theorem dX6_writeNumber_11 : decode cX6_writeNumber 11 = .ok (.getfield 27, 3) := by decide +kernel
theorem dX6_writeNumber_14 : decode cX6_writeNumber 14 = .ok (.bipush 48, 2) := by decide +kernel
theorem dX6_writeNumber_16 : decode cX6_writeNumber 16 = .ok (.iload_n 1, 1) := by decide +kernel
theorem dX6_writeNumber_17 : decode cX6_writeNumber 17 = .ok (.bipush 10, 2) := by decide +kernel
theorem dX6_writeNumber_19 : decode cX6_writeNumber 19 = .ok (.idiv, 1) := by decide +kernel
theorem dX6_writeNumber_20 : decode cX6_writeNumber 20 = .ok (.iadd, 1) := by decide +kernel
theorem dX6_writeNumber_21 : decode cX6_writeNumber 21 = .ok (.invokevirtual 55, 3) := by decide +kernel
theorem dX6_writeNumber_24 : decode cX6_writeNumber 24 = .ok (.pop, 1) := by decide +kernel
theorem dX6_writeNumber_25 : decode cX6_writeNumber 25 = .ok (.iload_n 2, 1) := by decide +kernel
theorem dX6_writeNumber_26 : decode cX6_writeNumber 26 = .ok (.ifCond .le 18, 3) := by decide +kernel
theorem dX6_writeNumber_29 : decode cX6_writeNumber 29 = .ok (.aload_n 0, 1) := by decide +kernel
theorem dX6_writeNumber_30 : decode cX6_writeNumber 30 = .ok (.getfield 27, 3) := by decide +kernel
theorem dX6_writeNumber_33 : decode cX6_writeNumber 33 = .ok (.bipush 48, 2) := by decide +kernel
theorem dX6_writeNumber_35 : decode cX6_writeNumber 35 = .ok (.iload_n 1, 1) := by decide +kernel
theorem dX6_writeNumber_36 : decode cX6_writeNumber 36 = .ok (.bipush 10, 2) := by decide +kernel
theorem dX6_writeNumber_38 : decode cX6_writeNumber 38 = .ok (.irem, 1) := by decide +kernel
theorem dX6_writeNumber_39 : decode cX6_writeNumber 39 = .ok (.iadd, 1) := by decide +kernel
theorem dX6_writeNumber_40 : decode cX6_writeNumber 40 = .ok (.invokevirtual 55, 3) := by decide +kernel
theorem dX6_writeNumber_43 : decode cX6_writeNumber 43 = .ok (.pop, 1) := by decide +kernel
theorem dX6_writeNumber_44 : decode cX6_writeNumber 44 = .ok (.iload_n 2, 1) := by decide +kernel
theorem dX6_writeNumber_45 : decode cX6_writeNumber 45 = .ok (.ireturn, 1) := by decide +kernel
theorem dX6_longestNumber_0 : decode cX6_longestNumber 0 = .ok (.iconst 0, 1) := by decide +kernel
theorem dX6_longestNumber_1 : decode cX6_longestNumber 1 = .ok (.istore_n 2, 1) := by decide +kernel
theorem dX6_longestNumber_2 : decode cX6_longestNumber 2 = .ok (.iconst 0, 1) := by decide +kernel
theorem dX6_longestNumber_3 : decode cX6_longestNumber 3 = .ok (.istore_n 3, 1) := by decide +kernel
theorem dX6_longestNumber_4 : decode cX6_longestNumber 4 = .ok (.iload_n 3, 1) := by decide +kernel
theorem dX6_longestNumber_5 : decode cX6_longestNumber 5 = .ok (.aload_n 0, 1) := by decide +kernel
theorem dX6_longestNumber_6 : decode cX6_longestNumber 6 = .ok (.getfield 15, 3) := by decide +kernel
theorem dX6_longestNumber_9 : decode cX6_longestNumber 9 = .ok (.getfield 46, 3) := by decide +kernel
theorem dX6_longestNumber_12 : decode cX6_longestNumber 12 = .ok (.if_icmp .ge 23, 3) := by decide +kernel
theorem dX6_longestNumber_15 : decode cX6_longestNumber 15 = .ok (.iload_n 2, 1) := by decide +kernel
theorem dX6_longestNumber_16 : decode cX6_longestNumber 16 = .ok (.aload_n 0, 1) := by decide +kernel
theorem dX6_longestNumber_17 : decode cX6_longestNumber 17 = .ok (.iload_n 1, 1) := by decide +kernel
theorem dX6_longestNumber_18 : decode cX6_longestNumber 18 = .ok (.iload_n 3, 1) := by decide +kernel
theorem dX6_longestNumber_19 : decode cX6_longestNumber 19 = .ok (.invokevirtual 59, 3) := by decide +kernel
theorem dX6_longestNumber_22 : decode cX6_longestNumber 22 = .ok (.invokestatic 66, 3) := by decide +kernel
theorem dX6_longestNumber_25 : decode cX6_longestNumber 25 = .ok (.invokestatic 69, 3) := by decide +kernel
theorem dX6_longestNumber_28 : decode cX6_longestNumber 28 = .ok (.istore_n 2, 1) := by decide +kernel
theorem dX6_longestNumber_29 : decode cX6_longestNumber 29 = .ok (.iinc 3 1, 3) := by decide +kernel
theorem dX6_longestNumber_32 : decode cX6_longestNumber 32 = .ok (.goto (-28), 3) := by decide +kernel
theorem dX6_longestNumber_35 : decode cX6_longestNumber 35 = .ok (.iload_n 2, 1) := by decide +kernel
theorem dX6_longestNumber_36 : decode cX6_longestNumber 36 = .ok (.ireturn, 1) := by decide +kernel
theorem dX6_lengthOf_0 : decode cX6_lengthOf 0 = .ok (.iload_n 0, 1) := by decide +kernel
theorem dX6_lengthOf_1 : decode cX6_lengthOf 1 = .ok (.iconst (-1), 1) := by decide +kernel
theorem dX6_lengthOf_2 : decode cX6_lengthOf 2 = .ok (.if_icmp .ne 5, 3) := by decide +kernel
theorem dX6_lengthOf_5 : decode cX6_lengthOf 5 = .ok (.iconst 0, 1) := by decide +kernel
theorem dX6_lengthOf_6 : decode cX6_lengthOf 6 = .ok (.ireturn, 1) := by decide +kernel
theorem dX6_lengthOf_7 : decode cX6_lengthOf 7 = .ok (.iload_n 0, 1) := by decide +kernel
theorem dX6_lengthOf_8 : decode cX6_lengthOf 8 = .ok (.bipush 10, 2) := by decide +kernel
theorem dX6_lengthOf_10 : decode cX6_lengthOf 10 = .ok (.if_icmp .ge 7, 3) := by decide +kernel
theorem dX6_lengthOf_13 : decode cX6_lengthOf 13 = .ok (.iconst 1, 1) := by decide +kernel
theorem dX6_lengthOf_14 : decode cX6_lengthOf 14 = .ok (.goto 4, 3) := by decide +kernel
theorem dX6_lengthOf_17 : decode cX6_lengthOf 17 = .ok (.iconst 2, 1) := by decide +kernel
theorem dX6_lengthOf_18 : decode cX6_lengthOf 18 = .ok (.ireturn, 1) := by decide +kernel
theorem dX6_fretsBehindCapo_0 : decode cX6_fretsBehindCapo 0 = .ok (.aload_n 0, 1) := by decide +kernel
theorem dX6_fretsBehindCapo_1 : decode cX6_fretsBehindCapo 1 = .ok (.getfield 23, 3) := by decide +kernel
theorem dX6_fretsBehindCapo_4 : decode cX6_fretsBehindCapo 4 = .ok (.iload_n 1, 1) := by decide +kernel
theorem dX6_fretsBehindCapo_5 : decode cX6_fretsBehindCapo 5 = .ok (.invokevirtual 74, 3) := by decide +kernel
theorem dX6_fretsBehindCapo_8 : decode cX6_fretsBehindCapo 8 = .ok (.ifCond .ne 5, 3) := by decide +kernel
theorem dX6_fretsBehindCapo_11 : decode cX6_fretsBehindCapo 11 = .ok (.iconst (-1), 1) := by decide +kernel
theorem dX6_fretsBehindCapo_12 : decode cX6_fretsBehindCapo 12 = .ok (.ireturn, 1) := by decide +kernel
theorem dX6_fretsBehindCapo_13 : decode cX6_fretsBehindCapo 13 = .ok (.aload_n 0, 1) := by decide +kernel
theorem dX6_fretsBehindCapo_14 : decode cX6_fretsBehindCapo 14 = .ok (.getfield 19, 3) := by decide +kernel
theorem dX6_fretsBehindCapo_17 : decode cX6_fretsBehindCapo 17 = .ok (.iload_n 1, 1) := by decide +kernel
theorem dX6_fretsBehindCapo_18 : decode cX6_fretsBehindCapo 18 = .ok (.invokevirtual 79, 3) := by decide +kernel
theorem dX6_fretsBehindCapo_21 : decode cX6_fretsBehindCapo 21 = .ok (.istore_n 3, 1) := by decide +kernel
theorem dX6_fretsBehindCapo_22 : decode cX6_fretsBehindCapo 22 = .ok (.iconst 0, 1) := by decide +kernel
theorem dX6_fretsBehindCapo_23 : decode cX6_fretsBehindCapo 23 = .ok (.istore 4, 2) := by decide +kernel
theorem dX6_fretsBehindCapo_25 : decode cX6_fretsBehindCapo 25 = .ok (.iload 4, 2) := by decide +kernel
theorem dX6_fretsBehindCapo_27 : decode cX6_fretsBehindCapo 27 = .ok (.iload_n 3, 1) := by decide +kernel
theorem dX6_fretsBehindCapo_28 : decode cX6_fretsBehindCapo 28 = .ok (.if_icmp .ge 54, 3) := by decide +kernel
theorem dX6_fretsBehindCapo_31 : decode cX6_fretsBehindCapo 31 = .ok (.aload_n 0, 1) := by decide +kernel
theorem dX6_fretsBehindCapo_32 : decode cX6_fretsBehindCapo 32 = .ok (.getfield 23, 3) := by decide +kernel
theorem dX6_fretsBehindCapo_35 : decode cX6_fretsBehindCapo 35 = .ok (.getfield 82, 3) := by decide +kernel
theorem dX6_fretsBehindCapo_38 : decode cX6_fretsBehindCapo 38 = .ok (.iload_n 1, 1) := by decide +kernel
theorem dX6_fretsBehindCapo_39 : decode cX6_fretsBehindCapo 39 = .ok (.iaload, 1) := by decide +kernel
theorem dX6_fretsBehindCapo_40 : decode cX6_fretsBehindCapo 40 = .ok (.iload 4, 2) := by decide +kernel
theorem dX6_fretsBehindCapo_42 : decode cX6_fretsBehindCapo 42 = .ok (.invokestatic 84, 3) := by decide +kernel
theorem dX6_fretsBehindCapo_45 : decode cX6_fretsBehindCapo 45 = .ok (.iload_n 2, 1) := by decide +kernel
theorem dX6_fretsBehindCapo_46 : decode cX6_fretsBehindCapo 46 = .ok (.if_icmp .ne 30, 3) := by decide +kernel
theorem dX6_fretsBehindCapo_49 : decode cX6_fretsBehindCapo 49 = .ok (.aload_n 0, 1) := by decide +kernel
theorem dX6_fretsBehindCapo_50 : decode cX6_fretsBehindCapo 50 = .ok (.getfield 15, 3) := by decide +kernel
theorem dX6_fretsBehindCapo_53 : decode cX6_fretsBehindCapo 53 = .ok (.iload_n 2, 1) := by decide +kernel
theorem dX6_fretsBehindCapo_54 : decode cX6_fretsBehindCapo 54 = .ok (.aload_n 0, 1) := by decide +kernel
theorem dX6_fretsBehindCapo_55 : decode cX6_fretsBehindCapo 55 = .ok (.getfield 19, 3) := by decide +kernel
theorem dX6_fretsBehindCapo_58 : decode cX6_fretsBehindCapo 58 = .ok (.iload_n 1, 1) := by decide +kernel
theorem dX6_fretsBehindCapo_59 : decode cX6_fretsBehindCapo 59 = .ok (.iload 4, 2) := by decide +kernel
theorem dX6_fretsBehindCapo_61 : decode cX6_fretsBehindCapo 61 = .ok (.invokevirtual 89, 3) := by decide +kernel
theorem dX6_fretsBehindCapo_64 : decode cX6_fretsBehindCapo 64 = .ok (.invokevirtual 92, 3) := by decide +kernel
theorem dX6_fretsBehindCapo_67 : decode cX6_fretsBehindCapo 67 = .ok (.aload_n 0, 1) := by decide +kernel
theorem dX6_fretsBehindCapo_68 : decode cX6_fretsBehindCapo 68 = .ok (.getfield 15, 3) := by decide +kernel
theorem dX6_fretsBehindCapo_71 : decode cX6_fretsBehindCapo 71 = .ok (.getfield 95, 3) := by decide +kernel
theorem dX6_fretsBehindCapo_74 : decode cX6_fretsBehindCapo 74 = .ok (.isub, 1) := by decide +kernel
theorem dX6_fretsBehindCapo_75 : decode cX6_fretsBehindCapo 75 = .ok (.ireturn, 1) := by decide +kernel
theorem dX6_fretsBehindCapo_76 : decode cX6_fretsBehindCapo 76 = .ok (.iinc 4 1, 3) := by decide +kernel
theorem dX6_fretsBehindCapo_79 : decode cX6_fretsBehindCapo 79 = .ok (.goto (-54), 3) := by decide +kernel
theorem dX6_fretsBehindCapo_82 : decode cX6_fretsBehindCapo 82 = .ok (.iconst (-1), 1) := by decide +kernel
theorem dX6_fretsBehindCapo_83 : decode cX6_fretsBehindCapo 83 = .ok (.ireturn, 1) := by decide +kernel
theorem dX7_init_0 : decode cX7_init 0 = .ok (.aload_n 0, 1) := by decide +kernel
theorem dX7_init_1 : decode cX7_init 1 = .ok (.invokespecial 3, 3) := by decide +kernel
theorem dX7_init_4 : decode cX7_init 4 = .ok (.aload_n 0, 1) := by decide +kernel
theorem dX7_init_5 : decode cX7_init 5 = .ok (.sipush 2000, 3) := by decide +kernel
theorem dX7_init_8 : decode cX7_init 8 = .ok (.newarray .int, 2) := by decide +kernel
theorem dX7_init_10 : decode cX7_init 10 = .ok (.putfield 9, 3) := by decide +kernel
theorem dX7_init_13 : decode cX7_init 13 = .ok (.aload_n 0, 1) := by decide +kernel
theorem dX7_init_14 : decode cX7_init 14 = .ok (.iconst 0, 1) := by decide +kernel
theorem dX7_init_15 : decode cX7_init 15 = .ok (.putfield 15, 3) := by decide +kernel
theorem dX7_init_18 : decode cX7_init 18 = .ok (.return_, 1) := by decide +kernel
theorem dX7_add_0 : decode cX7_add 0 = .ok (.aload_n 0, 1) := by decide +kernel
theorem dX7_add_1 : decode cX7_add 1 = .ok (.getfield 15, 3) := by decide +kernel
theorem dX7_add_4 : decode cX7_add 4 = .ok (.sipush 2000, 3) := by decide +kernel
theorem dX7_add_7 : decode cX7_add 7 = .ok (.if_icmp .lt 5, 3) := by decide +kernel
theorem dX7_add_10 : decode cX7_add 10 = .ok (.iconst 0, 1) := by decide +kernel
theorem dX7_add_11 : decode cX7_add 11 = .ok (.ireturn, 1) := by decide +kernel
theorem dX7_add_12 : decode cX7_add 12 = .ok (.aload_n 0, 1) := by decide +kernel
theorem dX7_add_13 : decode cX7_add 13 = .ok (.getfield 9, 3) := by decide +kernel
theorem dX7_add_16 : decode cX7_add 16 = .ok (.aload_n 0, 1) := by decide +kernel
theorem dX7_add_17 : decode cX7_add 17 = .ok (.getfield 15, 3) := by decide +kernel
theorem dX7_add_20 : decode cX7_add 20 = .ok (.iload_n 1, 1) := by decide +kernel
theorem dX7_add_21 : decode cX7_add 21 = .ok (.iastore, 1) := by decide +kernel
theorem dX7_add_22 : decode cX7_add 22 = .ok (.aload_n 0, 1) := by decide +kernel
theorem dX7_add_23 : decode cX7_add 23 = .ok (.dup, 1) := by decide +kernel
theorem dX7_add_24 : decode cX7_add 24 = .ok (.getfield 15, 3) := by decide +kernel
theorem dX7_add_27 : decode cX7_add 27 = .ok (.iconst 1, 1) := by decide +kernel
theorem dX7_add_28 : decode cX7_add 28 = .ok (.iadd, 1) := by decide +kernel
theorem dX7_add_29 : decode cX7_add 29 = .ok (.putfield 15, 3) := by decide +kernel
theorem dX7_add_32 : decode cX7_add 32 = .ok (.iconst 1, 1) := by decide +kernel
theorem dX7_add_33 : decode cX7_add 33 = .ok (.ireturn, 1) := by decide +kernel
theorem dX7_signAt_0 : decode cX7_signAt 0 = .ok (.iload_n 1, 1) := by decide +kernel
theorem dX7_signAt_1 : decode cX7_signAt 1 = .ok (.ifCond .lt 20, 3) := by decide +kernel
theorem dX7_signAt_4 : decode cX7_signAt 4 = .ok (.iload_n 1, 1) := by decide +kernel
theorem dX7_signAt_5 : decode cX7_signAt 5 = .ok (.aload_n 0, 1) := by decide +kernel
theorem dX7_signAt_6 : decode cX7_signAt 6 = .ok (.getfield 15, 3) := by decide +kernel
theorem dX7_signAt_9 : decode cX7_signAt 9 = .ok (.if_icmp .ge 12, 3) := by decide +kernel
theorem dX7_signAt_12 : decode cX7_signAt 12 = .ok (.aload_n 0, 1) := by decide +kernel
theorem dX7_signAt_13 : decode cX7_signAt 13 = .ok (.getfield 9, 3) := by decide +kernel
theorem dX7_signAt_16 : decode cX7_signAt 16 = .ok (.iload_n 1, 1) := by decide +kernel
theorem dX7_signAt_17 : decode cX7_signAt 17 = .ok (.iaload, 1) := by decide +kernel
theorem dX7_signAt_18 : decode cX7_signAt 18 = .ok (.goto 4, 3) := by decide +kernel
theorem dX7_signAt_21 : decode cX7_signAt 21 = .ok (.iconst (-1), 1) := by decide +kernel
theorem dX7_signAt_22 : decode cX7_signAt 22 = .ok (.ireturn, 1) := by decide +kernel
theorem dX8_init_0 : decode cX8_init 0 = .ok (.aload_n 0, 1) := by decide +kernel
theorem dX8_init_1 : decode cX8_init 1 = .ok (.invokespecial 3, 3) := by decide +kernel
theorem dX8_init_4 : decode cX8_init 4 = .ok (.aload_n 0, 1) := by decide +kernel
theorem dX8_init_5 : decode cX8_init 5 = .ok (.bipush 40, 2) := by decide +kernel
theorem dX8_init_7 : decode cX8_init 7 = .ok (.newarray .int, 2) := by decide +kernel
theorem dX8_init_9 : decode cX8_init 9 = .ok (.putfield 9, 3) := by decide +kernel
theorem dX8_init_12 : decode cX8_init 12 = .ok (.aload_n 0, 1) := by decide +kernel
theorem dX8_init_13 : decode cX8_init 13 = .ok (.sipush 160, 3) := by decide +kernel
theorem dX8_init_16 : decode cX8_init 16 = .ok (.newarray .int, 2) := by decide +kernel
theorem dX8_init_18 : decode cX8_init 18 = .ok (.putfield 15, 3) := by decide +kernel
theorem dX8_init_21 : decode cX8_init 21 = .ok (.aload_n 0, 1) := by decide +kernel
theorem dX8_init_22 : decode cX8_init 22 = .ok (.sipush 160, 3) := by decide +kernel
theorem dX8_init_25 : decode cX8_init 25 = .ok (.newarray .int, 2) := by decide +kernel
theorem dX8_init_27 : decode cX8_init 27 = .ok (.putfield 18, 3) := by decide +kernel
theorem dX8_init_30 : decode cX8_init 30 = .ok (.aload_n 0, 1) := by decide +kernel
theorem dX8_init_31 : decode cX8_init 31 = .ok (.iconst 0, 1) := by decide +kernel
theorem dX8_init_32 : decode cX8_init 32 = .ok (.putfield 21, 3) := by decide +kernel
theorem dX8_init_35 : decode cX8_init 35 = .ok (.return_, 1) := by decide +kernel
theorem dX8_hasEvent_0 : decode cX8_hasEvent 0 = .ok (.iload_n 1, 1) := by decide +kernel
theorem dX8_hasEvent_1 : decode cX8_hasEvent 1 = .ok (.ifCond .lt 15, 3) := by decide +kernel
theorem dX8_hasEvent_4 : decode cX8_hasEvent 4 = .ok (.iload_n 1, 1) := by decide +kernel
theorem dX8_hasEvent_5 : decode cX8_hasEvent 5 = .ok (.aload_n 0, 1) := by decide +kernel
theorem dX8_hasEvent_6 : decode cX8_hasEvent 6 = .ok (.getfield 21, 3) := by decide +kernel
theorem dX8_hasEvent_9 : decode cX8_hasEvent 9 = .ok (.if_icmp .ge 7, 3) := by decide +kernel
theorem dX8_hasEvent_12 : decode cX8_hasEvent 12 = .ok (.iconst 1, 1) := by decide +kernel
theorem dX8_hasEvent_13 : decode cX8_hasEvent 13 = .ok (.goto 4, 3) := by decide +kernel
theorem dX8_hasEvent_16 : decode cX8_hasEvent 16 = .ok (.iconst 0, 1) := by decide +kernel
theorem dX8_hasEvent_17 : decode cX8_hasEvent 17 = .ok (.ireturn, 1) := by decide +kernel
theorem dX8_sizeOf_0 : decode cX8_sizeOf 0 = .ok (.aload_n 0, 1) := by decide +kernel
theorem dX8_sizeOf_1 : decode cX8_sizeOf 1 = .ok (.iload_n 1, 1) := by decide +kernel
theorem dX8_sizeOf_2 : decode cX8_sizeOf 2 = .ok (.invokevirtual 25, 3) := by decide +kernel
theorem dX8_sizeOf_5 : decode cX8_sizeOf 5 = .ok (.ifCond .eq 12, 3) := by decide +kernel
theorem dX8_sizeOf_8 : decode cX8_sizeOf 8 = .ok (.aload_n 0, 1) := by decide +kernel
theorem dX8_sizeOf_9 : decode cX8_sizeOf 9 = .ok (.getfield 9, 3) := by decide +kernel
theorem dX8_sizeOf_12 : decode cX8_sizeOf 12 = .ok (.iload_n 1, 1) := by decide +kernel
theorem dX8_sizeOf_13 : decode cX8_sizeOf 13 = .ok (.iaload, 1) := by decide +kernel
theorem dX8_sizeOf_14 : decode cX8_sizeOf 14 = .ok (.goto 4, 3) := by decide +kernel
theorem dX8_sizeOf_17 : decode cX8_sizeOf 17 = .ok (.iconst 0, 1) := by decide +kernel
theorem dX8_sizeOf_18 : decode cX8_sizeOf 18 = .ok (.ireturn, 1) := by decide +kernel
theorem dX8_hasPitch_0 : decode cX8_hasPitch 0 = .ok (.aload_n 0, 1) := by decide +kernel
theorem dX8_hasPitch_1 : decode cX8_hasPitch 1 = .ok (.iload_n 1, 1) := by decide +kernel
theorem dX8_hasPitch_2 : decode cX8_hasPitch 2 = .ok (.invokevirtual 25, 3) := by decide +kernel
theorem dX8_hasPitch_5 : decode cX8_hasPitch 5 = .ok (.ifCond .eq 21, 3) := by decide +kernel
theorem dX8_hasPitch_8 : decode cX8_hasPitch 8 = .ok (.iload_n 2, 1) := by decide +kernel
theorem dX8_hasPitch_9 : decode cX8_hasPitch 9 = .ok (.ifCond .lt 17, 3) := by decide +kernel
theorem dX8_hasPitch_12 : decode cX8_hasPitch 12 = .ok (.iload_n 2, 1) := by decide +kernel
theorem dX8_hasPitch_13 : decode cX8_hasPitch 13 = .ok (.aload_n 0, 1) := by decide +kernel
theorem dX8_hasPitch_14 : decode cX8_hasPitch 14 = .ok (.getfield 9, 3) := by decide +kernel
theorem dX8_hasPitch_17 : decode cX8_hasPitch 17 = .ok (.iload_n 1, 1) := by decide +kernel
theorem dX8_hasPitch_18 : decode cX8_hasPitch 18 = .ok (.iaload, 1) := by decide +kernel
theorem dX8_hasPitch_19 : decode cX8_hasPitch 19 = .ok (.if_icmp .ge 7, 3) := by decide +kernel
theorem dX8_hasPitch_22 : decode cX8_hasPitch 22 = .ok (.iconst 1, 1) := by decide +kernel
theorem dX8_hasPitch_23 : decode cX8_hasPitch 23 = .ok (.goto 4, 3) := by decide +kernel
theorem dX8_hasPitch_26 : decode cX8_hasPitch 26 = .ok (.iconst 0, 1) := by decide +kernel
theorem dX8_hasPitch_27 : decode cX8_hasPitch 27 = .ok (.ireturn, 1) := by decide +kernel
theorem dX8_pitchOf_0 : decode cX8_pitchOf 0 = .ok (.aload_n 0, 1) := by decide +kernel
theorem dX8_pitchOf_1 : decode cX8_pitchOf 1 = .ok (.iload_n 1, 1) := by decide +kernel
theorem dX8_pitchOf_2 : decode cX8_pitchOf 2 = .ok (.iload_n 2, 1) := by decide +kernel
theorem dX8_pitchOf_3 : decode cX8_pitchOf 3 = .ok (.invokevirtual 29, 3) := by decide +kernel
theorem dX8_pitchOf_6 : decode cX8_pitchOf 6 = .ok (.ifCond .eq 16, 3) := by decide +kernel
theorem dX8_pitchOf_9 : decode cX8_pitchOf 9 = .ok (.aload_n 0, 1) := by decide +kernel
theorem dX8_pitchOf_10 : decode cX8_pitchOf 10 = .ok (.getfield 15, 3) := by decide +kernel
theorem dX8_pitchOf_13 : decode cX8_pitchOf 13 = .ok (.iload_n 1, 1) := by decide +kernel
theorem dX8_pitchOf_14 : decode cX8_pitchOf 14 = .ok (.iconst 4, 1) := by decide +kernel
theorem dX8_pitchOf_15 : decode cX8_pitchOf 15 = .ok (.imul, 1) := by decide +kernel
theorem dX8_pitchOf_16 : decode cX8_pitchOf 16 = .ok (.iload_n 2, 1) := by decide +kernel
theorem dX8_pitchOf_17 : decode cX8_pitchOf 17 = .ok (.iadd, 1) := by decide +kernel
theorem dX8_pitchOf_18 : decode cX8_pitchOf 18 = .ok (.iaload, 1) := by decide +kernel
theorem dX8_pitchOf_19 : decode cX8_pitchOf 19 = .ok (.goto 4, 3) := by decide +kernel
theorem dX8_pitchOf_22 : decode cX8_pitchOf 22 = .ok (.iconst (-1), 1) := by decide +kernel
theorem dX8_pitchOf_23 : decode cX8_pitchOf 23 = .ok (.ireturn, 1) := by decide +kernel
theorem dX8_stringOf_0 : decode cX8_stringOf 0 = .ok (.aload_n 0, 1) := by decide +kernel
theorem dX8_stringOf_1 : decode cX8_stringOf 1 = .ok (.iload_n 1, 1) := by decide +kernel
theorem dX8_stringOf_2 : decode cX8_stringOf 2 = .ok (.iload_n 2, 1) := by decide +kernel
theorem dX8_stringOf_3 : decode cX8_stringOf 3 = .ok (.invokevirtual 29, 3) := by decide +kernel
theorem dX8_stringOf_6 : decode cX8_stringOf 6 = .ok (.ifCond .eq 16, 3) := by decide +kernel
theorem dX8_stringOf_9 : decode cX8_stringOf 9 = .ok (.aload_n 0, 1) := by decide +kernel
theorem dX8_stringOf_10 : decode cX8_stringOf 10 = .ok (.getfield 18, 3) := by decide +kernel
theorem dX8_stringOf_13 : decode cX8_stringOf 13 = .ok (.iload_n 1, 1) := by decide +kernel
theorem dX8_stringOf_14 : decode cX8_stringOf 14 = .ok (.iconst 4, 1) := by decide +kernel
theorem dX8_stringOf_15 : decode cX8_stringOf 15 = .ok (.imul, 1) := by decide +kernel
theorem dX8_stringOf_16 : decode cX8_stringOf 16 = .ok (.iload_n 2, 1) := by decide +kernel
theorem dX8_stringOf_17 : decode cX8_stringOf 17 = .ok (.iadd, 1) := by decide +kernel
theorem dX8_stringOf_18 : decode cX8_stringOf 18 = .ok (.iaload, 1) := by decide +kernel
theorem dX8_stringOf_19 : decode cX8_stringOf 19 = .ok (.goto 4, 3) := by decide +kernel
theorem dX8_stringOf_22 : decode cX8_stringOf 22 = .ok (.iconst (-1), 1) := by decide +kernel
theorem dX8_stringOf_23 : decode cX8_stringOf 23 = .ok (.ireturn, 1) := by decide +kernel
theorem dX8_bindPitch_0 : decode cX8_bindPitch 0 = .ok (.aload_n 0, 1) := by decide +kernel
theorem dX8_bindPitch_1 : decode cX8_bindPitch 1 = .ok (.iload_n 1, 1) := by decide +kernel
theorem dX8_bindPitch_2 : decode cX8_bindPitch 2 = .ok (.iload_n 2, 1) := by decide +kernel
theorem dX8_bindPitch_3 : decode cX8_bindPitch 3 = .ok (.invokevirtual 29, 3) := by decide +kernel
theorem dX8_bindPitch_6 : decode cX8_bindPitch 6 = .ok (.ifCond .eq 14, 3) := by decide +kernel
theorem dX8_bindPitch_9 : decode cX8_bindPitch 9 = .ok (.aload_n 0, 1) := by decide +kernel
theorem dX8_bindPitch_10 : decode cX8_bindPitch 10 = .ok (.getfield 18, 3) := by decide +kernel
theorem dX8_bindPitch_13 : decode cX8_bindPitch 13 = .ok (.iload_n 1, 1) := by decide +kernel
theorem dX8_bindPitch_14 : decode cX8_bindPitch 14 = .ok (.iconst 4, 1) := by decide +kernel
theorem dX8_bindPitch_15 : decode cX8_bindPitch 15 = .ok (.imul, 1) := by decide +kernel
theorem dX8_bindPitch_16 : decode cX8_bindPitch 16 = .ok (.iload_n 2, 1) := by decide +kernel
theorem dX8_bindPitch_17 : decode cX8_bindPitch 17 = .ok (.iadd, 1) := by decide +kernel
theorem dX8_bindPitch_18 : decode cX8_bindPitch 18 = .ok (.iload_n 3, 1) := by decide +kernel
theorem dX8_bindPitch_19 : decode cX8_bindPitch 19 = .ok (.iastore, 1) := by decide +kernel
theorem dX8_bindPitch_20 : decode cX8_bindPitch 20 = .ok (.return_, 1) := by decide +kernel
theorem dX8_contains_0 : decode cX8_contains 0 = .ok (.aload_n 0, 1) := by decide +kernel
theorem dX8_contains_1 : decode cX8_contains 1 = .ok (.iload_n 1, 1) := by decide +kernel
theorem dX8_contains_2 : decode cX8_contains 2 = .ok (.invokevirtual 33, 3) := by decide +kernel
theorem dX8_contains_5 : decode cX8_contains 5 = .ok (.istore_n 3, 1) := by decide +kernel
theorem dX8_contains_6 : decode cX8_contains 6 = .ok (.iconst 0, 1) := by decide +kernel
theorem dX8_contains_7 : decode cX8_contains 7 = .ok (.istore 4, 2) := by decide +kernel
theorem dX8_contains_9 : decode cX8_contains 9 = .ok (.iload 4, 2) := by decide +kernel
theorem dX8_contains_11 : decode cX8_contains 11 = .ok (.iload_n 3, 1) := by decide +kernel
theorem dX8_contains_12 : decode cX8_contains 12 = .ok (.if_icmp .ge 22, 3) := by decide +kernel
theorem dX8_contains_15 : decode cX8_contains 15 = .ok (.aload_n 0, 1) := by decide +kernel
theorem dX8_contains_16 : decode cX8_contains 16 = .ok (.iload_n 1, 1) := by decide +kernel
theorem dX8_contains_17 : decode cX8_contains 17 = .ok (.iload 4, 2) := by decide +kernel
theorem dX8_contains_19 : decode cX8_contains 19 = .ok (.invokevirtual 37, 3) := by decide +kernel
theorem dX8_contains_22 : decode cX8_contains 22 = .ok (.iload_n 2, 1) := by decide +kernel
theorem dX8_contains_23 : decode cX8_contains 23 = .ok (.if_icmp .ne 5, 3) := by decide +kernel
theorem dX8_contains_26 : decode cX8_contains 26 = .ok (.iconst 1, 1) := by decide +kernel
theorem dX8_contains_27 : decode cX8_contains 27 = .ok (.ireturn, 1) := by decide +kernel
theorem dX8_contains_28 : decode cX8_contains 28 = .ok (.iinc 4 1, 3) := by decide +kernel
theorem dX8_contains_31 : decode cX8_contains 31 = .ok (.goto (-22), 3) := by decide +kernel
theorem dX8_contains_34 : decode cX8_contains 34 = .ok (.iconst 0, 1) := by decide +kernel
theorem dX8_contains_35 : decode cX8_contains 35 = .ok (.ireturn, 1) := by decide +kernel
theorem dX8_addEvent_0 : decode cX8_addEvent 0 = .ok (.aload_n 0, 1) := by decide +kernel
theorem dX8_addEvent_1 : decode cX8_addEvent 1 = .ok (.getfield 21, 3) := by decide +kernel
theorem dX8_addEvent_4 : decode cX8_addEvent 4 = .ok (.bipush 40, 2) := by decide +kernel
theorem dX8_addEvent_6 : decode cX8_addEvent 6 = .ok (.if_icmp .lt 5, 3) := by decide +kernel
theorem dX8_addEvent_9 : decode cX8_addEvent 9 = .ok (.iconst 0, 1) := by decide +kernel
theorem dX8_addEvent_10 : decode cX8_addEvent 10 = .ok (.ireturn, 1) := by decide +kernel
theorem dX8_addEvent_11 : decode cX8_addEvent 11 = .ok (.aload_n 0, 1) := by decide +kernel
theorem dX8_addEvent_12 : decode cX8_addEvent 12 = .ok (.getfield 9, 3) := by decide +kernel
theorem dX8_addEvent_15 : decode cX8_addEvent 15 = .ok (.aload_n 0, 1) := by decide +kernel
theorem dX8_addEvent_16 : decode cX8_addEvent 16 = .ok (.getfield 21, 3) := by decide +kernel
theorem dX8_addEvent_19 : decode cX8_addEvent 19 = .ok (.iconst 0, 1) := by decide +kernel
theorem dX8_addEvent_20 : decode cX8_addEvent 20 = .ok (.iastore, 1) := by decide +kernel
theorem dX8_addEvent_21 : decode cX8_addEvent 21 = .ok (.aload_n 0, 1) := by decide +kernel
theorem dX8_addEvent_22 : decode cX8_addEvent 22 = .ok (.dup, 1) := by decide +kernel
theorem dX8_addEvent_23 : decode cX8_addEvent 23 = .ok (.getfield 21, 3) := by decide +kernel
theorem dX8_addEvent_26 : decode cX8_addEvent 26 = .ok (.iconst 1, 1) := by decide +kernel
theorem dX8_addEvent_27 : decode cX8_addEvent 27 = .ok (.iadd, 1) := by decide +kernel
theorem dX8_addEvent_28 : decode cX8_addEvent 28 = .ok (.putfield 21, 3) := by decide +kernel
theorem dX8_addEvent_31 : decode cX8_addEvent 31 = .ok (.iconst 1, 1) := by decide +kernel
theorem dX8_addEvent_32 : decode cX8_addEvent 32 = .ok (.ireturn, 1) := by decide +kernel
theorem dX8_addPitch_0 : decode cX8_addPitch 0 = .ok (.aload_n 0, 1) := by decide +kernel
theorem dX8_addPitch_1 : decode cX8_addPitch 1 = .ok (.getfield 21, 3) := by decide +kernel
theorem dX8_addPitch_4 : decode cX8_addPitch 4 = .ok (.iconst 1, 1) := by decide +kernel
theorem dX8_addPitch_5 : decode cX8_addPitch 5 = .ok (.isub, 1) := by decide +kernel
theorem dX8_addPitch_6 : decode cX8_addPitch 6 = .ok (.istore_n 3, 1) := by decide +kernel
theorem dX8_addPitch_7 : decode cX8_addPitch 7 = .ok (.iload_n 3, 1) := by decide +kernel
theorem dX8_addPitch_8 : decode cX8_addPitch 8 = .ok (.ifCond .lt 13, 3) := by decide +kernel
theorem dX8_addPitch_11 : decode cX8_addPitch 11 = .ok (.aload_n 0, 1) := by decide +kernel
theorem dX8_addPitch_12 : decode cX8_addPitch 12 = .ok (.getfield 9, 3) := by decide +kernel
theorem dX8_addPitch_15 : decode cX8_addPitch 15 = .ok (.iload_n 3, 1) := by decide +kernel
theorem dX8_addPitch_16 : decode cX8_addPitch 16 = .ok (.iaload, 1) := by decide +kernel
theorem dX8_addPitch_17 : decode cX8_addPitch 17 = .ok (.iconst 4, 1) := by decide +kernel
theorem dX8_addPitch_18 : decode cX8_addPitch 18 = .ok (.if_icmp .lt 5, 3) := by decide +kernel
theorem dX8_addPitch_21 : decode cX8_addPitch 21 = .ok (.iconst 0, 1) := by decide +kernel
theorem dX8_addPitch_22 : decode cX8_addPitch 22 = .ok (.ireturn, 1) := by decide +kernel
theorem dX8_addPitch_23 : decode cX8_addPitch 23 = .ok (.iload_n 3, 1) := by decide +kernel
theorem dX8_addPitch_24 : decode cX8_addPitch 24 = .ok (.iconst 4, 1) := by decide +kernel
theorem dX8_addPitch_25 : decode cX8_addPitch 25 = .ok (.imul, 1) := by decide +kernel
theorem dX8_addPitch_26 : decode cX8_addPitch 26 = .ok (.aload_n 0, 1) := by decide +kernel
theorem dX8_addPitch_27 : decode cX8_addPitch 27 = .ok (.getfield 9, 3) := by decide +kernel
theorem dX8_addPitch_30 : decode cX8_addPitch 30 = .ok (.iload_n 3, 1) := by decide +kernel
theorem dX8_addPitch_31 : decode cX8_addPitch 31 = .ok (.iaload, 1) := by decide +kernel
theorem dX8_addPitch_32 : decode cX8_addPitch 32 = .ok (.iadd, 1) := by decide +kernel
theorem dX8_addPitch_33 : decode cX8_addPitch 33 = .ok (.istore 4, 2) := by decide +kernel
theorem dX8_addPitch_35 : decode cX8_addPitch 35 = .ok (.aload_n 0, 1) := by decide +kernel
theorem dX8_addPitch_36 : decode cX8_addPitch 36 = .ok (.getfield 15, 3) := by decide +kernel
theorem dX8_addPitch_39 : decode cX8_addPitch 39 = .ok (.iload 4, 2) := by decide +kernel
theorem dX8_addPitch_41 : decode cX8_addPitch 41 = .ok (.iload_n 1, 1) := by decide +kernel
theorem dX8_addPitch_42 : decode cX8_addPitch 42 = .ok (.iastore, 1) := by decide +kernel
theorem dX8_addPitch_43 : decode cX8_addPitch 43 = .ok (.aload_n 0, 1) := by decide +kernel
theorem dX8_addPitch_44 : decode cX8_addPitch 44 = .ok (.getfield 18, 3) := by decide +kernel
theorem dX8_addPitch_47 : decode cX8_addPitch 47 = .ok (.iload 4, 2) := by decide +kernel
theorem dX8_addPitch_49 : decode cX8_addPitch 49 = .ok (.iload_n 2, 1) := by decide +kernel
theorem dX8_addPitch_50 : decode cX8_addPitch 50 = .ok (.iastore, 1) := by decide +kernel
theorem dX8_addPitch_51 : decode cX8_addPitch 51 = .ok (.aload_n 0, 1) := by decide +kernel
theorem dX8_addPitch_52 : decode cX8_addPitch 52 = .ok (.getfield 9, 3) := by decide +kernel
theorem dX8_addPitch_55 : decode cX8_addPitch 55 = .ok (.iload_n 3, 1) := by decide +kernel
theorem dX8_addPitch_56 : decode cX8_addPitch 56 = .ok (.dup2, 1) := by decide +kernel
theorem dX8_addPitch_57 : decode cX8_addPitch 57 = .ok (.iaload, 1) := by decide +kernel
theorem dX8_addPitch_58 : decode cX8_addPitch 58 = .ok (.iconst 1, 1) := by decide +kernel
theorem dX8_addPitch_59 : decode cX8_addPitch 59 = .ok (.iadd, 1) := by decide +kernel
theorem dX8_addPitch_60 : decode cX8_addPitch 60 = .ok (.iastore, 1) := by decide +kernel
theorem dX8_addPitch_61 : decode cX8_addPitch 61 = .ok (.iconst 1, 1) := by decide +kernel
theorem dX8_addPitch_62 : decode cX8_addPitch 62 = .ok (.ireturn, 1) := by decide +kernel
theorem dX9_init_0 : decode cX9_init 0 = .ok (.aload_n 0, 1) := by decide +kernel
theorem dX9_init_1 : decode cX9_init 1 = .ok (.invokespecial 3, 3) := by decide +kernel
theorem dX9_init_4 : decode cX9_init 4 = .ok (.aload_n 0, 1) := by decide +kernel
theorem dX9_init_5 : decode cX9_init 5 = .ok (.new 9, 3) := by decide +kernel
theorem dX9_init_8 : decode cX9_init 8 = .ok (.dup, 1) := by decide +kernel
theorem dX9_init_9 : decode cX9_init 9 = .ok (.invokespecial 11, 3) := by decide +kernel
theorem dX9_init_12 : decode cX9_init 12 = .ok (.putfield 12, 3) := by decide +kernel
theorem dX9_init_15 : decode cX9_init 15 = .ok (.aload_n 0, 1) := by decide +kernel
theorem dX9_init_16 : decode cX9_init 16 = .ok (.iconst 4, 1) := by decide +kernel
theorem dX9_init_17 : decode cX9_init 17 = .ok (.newarray .int, 2) := by decide +kernel
theorem dX9_init_19 : decode cX9_init 19 = .ok (.dup, 1) := by decide +kernel
theorem dX9_init_20 : decode cX9_init 20 = .ok (.iconst 0, 1) := by decide +kernel
theorem dX9_init_21 : decode cX9_init 21 = .ok (.iconst 1, 1) := by decide +kernel
theorem dX9_init_22 : decode cX9_init 22 = .ok (.iastore, 1) := by decide +kernel
theorem dX9_init_23 : decode cX9_init 23 = .ok (.dup, 1) := by decide +kernel
theorem dX9_init_24 : decode cX9_init 24 = .ok (.iconst 1, 1) := by decide +kernel
theorem dX9_init_25 : decode cX9_init 25 = .ok (.iconst 1, 1) := by decide +kernel
theorem dX9_init_26 : decode cX9_init 26 = .ok (.iastore, 1) := by decide +kernel
theorem dX9_init_27 : decode cX9_init 27 = .ok (.dup, 1) := by decide +kernel
theorem dX9_init_28 : decode cX9_init 28 = .ok (.iconst 2, 1) := by decide +kernel
theorem dX9_init_29 : decode cX9_init 29 = .ok (.iconst 1, 1) := by decide +kernel
theorem dX9_init_30 : decode cX9_init 30 = .ok (.iastore, 1) := by decide +kernel
theorem dX9_init_31 : decode cX9_init 31 = .ok (.dup, 1) := by decide +kernel
theorem dX9_init_32 : decode cX9_init 32 = .ok (.iconst 3, 1) := by decide +kernel
theorem dX9_init_33 : decode cX9_init 33 = .ok (.iconst 1, 1) := by decide +kernel
theorem dX9_init_34 : decode cX9_init 34 = .ok (.iastore, 1) := by decide +kernel
theorem dX9_init_35 : decode cX9_init 35 = .ok (.putfield 16, 3) := by decide +kernel
theorem dX9_init_38 : decode cX9_init 38 = .ok (.aload_n 0, 1) := by decide +kernel
theorem dX9_init_39 : decode cX9_init 39 = .ok (.new 20, 3) := by decide +kernel
theorem dX9_init_42 : decode cX9_init 42 = .ok (.dup, 1) := by decide +kernel
theorem dX9_init_43 : decode cX9_init 43 = .ok (.invokespecial 22, 3) := by decide +kernel
theorem dX9_init_46 : decode cX9_init 46 = .ok (.putfield 23, 3) := by decide +kernel
theorem dX9_init_49 : decode cX9_init 49 = .ok (.aload_n 0, 1) := by decide +kernel
theorem dX9_init_50 : decode cX9_init 50 = .ok (.new 27, 3) := by decide +kernel
theorem dX9_init_53 : decode cX9_init 53 = .ok (.dup, 1) := by decide +kernel
theorem dX9_init_54 : decode cX9_init 54 = .ok (.invokespecial 29, 3) := by decide +kernel
theorem dX9_init_57 : decode cX9_init 57 = .ok (.putfield 30, 3) := by decide +kernel
theorem dX9_init_60 : decode cX9_init 60 = .ok (.aload_n 0, 1) := by decide +kernel
theorem dX9_init_61 : decode cX9_init 61 = .ok (.new 34, 3) := by decide +kernel
theorem dX9_init_64 : decode cX9_init 64 = .ok (.dup, 1) := by decide +kernel
theorem dX9_init_65 : decode cX9_init 65 = .ok (.aload_n 0, 1) := by decide +kernel
theorem dX9_init_66 : decode cX9_init 66 = .ok (.getfield 12, 3) := by decide +kernel
theorem dX9_init_69 : decode cX9_init 69 = .ok (.aload_n 0, 1) := by decide +kernel
theorem dX9_init_70 : decode cX9_init 70 = .ok (.getfield 16, 3) := by decide +kernel
theorem dX9_init_73 : decode cX9_init 73 = .ok (.aload_n 0, 1) := by decide +kernel
theorem dX9_init_74 : decode cX9_init 74 = .ok (.getfield 23, 3) := by decide +kernel
theorem dX9_init_77 : decode cX9_init 77 = .ok (.invokespecial 36, 3) := by decide +kernel
theorem dX9_init_80 : decode cX9_init 80 = .ok (.putfield 39, 3) := by decide +kernel
theorem dX9_init_83 : decode cX9_init 83 = .ok (.aload_n 0, 1) := by decide +kernel
theorem dX9_init_84 : decode cX9_init 84 = .ok (.new 43, 3) := by decide +kernel
theorem dX9_init_87 : decode cX9_init 87 = .ok (.dup, 1) := by decide +kernel
theorem dX9_init_88 : decode cX9_init 88 = .ok (.aload_n 0, 1) := by decide +kernel
theorem dX9_init_89 : decode cX9_init 89 = .ok (.getfield 12, 3) := by decide +kernel
theorem dX9_init_92 : decode cX9_init 92 = .ok (.aload_n 0, 1) := by decide +kernel
theorem dX9_init_93 : decode cX9_init 93 = .ok (.getfield 16, 3) := by decide +kernel
theorem dX9_init_96 : decode cX9_init 96 = .ok (.aload_n 0, 1) := by decide +kernel
theorem dX9_init_97 : decode cX9_init 97 = .ok (.getfield 23, 3) := by decide +kernel
theorem dX9_init_100 : decode cX9_init 100 = .ok (.aload_n 0, 1) := by decide +kernel
theorem dX9_init_101 : decode cX9_init 101 = .ok (.getfield 39, 3) := by decide +kernel
theorem dX9_init_104 : decode cX9_init 104 = .ok (.invokespecial 45, 3) := by decide +kernel
theorem dX9_init_107 : decode cX9_init 107 = .ok (.putfield 48, 3) := by decide +kernel
theorem dX9_init_110 : decode cX9_init 110 = .ok (.aload_n 0, 1) := by decide +kernel
theorem dX9_init_111 : decode cX9_init 111 = .ok (.new 52, 3) := by decide +kernel
theorem dX9_init_114 : decode cX9_init 114 = .ok (.dup, 1) := by decide +kernel
theorem dX9_init_115 : decode cX9_init 115 = .ok (.invokespecial 54, 3) := by decide +kernel
theorem dX9_init_118 : decode cX9_init 118 = .ok (.putfield 55, 3) := by decide +kernel
theorem dX9_init_121 : decode cX9_init 121 = .ok (.aload_n 0, 1) := by decide +kernel
theorem dX9_init_122 : decode cX9_init 122 = .ok (.new 59, 3) := by decide +kernel
theorem dX9_init_125 : decode cX9_init 125 = .ok (.dup, 1) := by decide +kernel
theorem dX9_init_126 : decode cX9_init 126 = .ok (.aload_n 0, 1) := by decide +kernel
theorem dX9_init_127 : decode cX9_init 127 = .ok (.getfield 12, 3) := by decide +kernel
theorem dX9_init_130 : decode cX9_init 130 = .ok (.aload_n 0, 1) := by decide +kernel
theorem dX9_init_131 : decode cX9_init 131 = .ok (.getfield 23, 3) := by decide +kernel
theorem dX9_init_134 : decode cX9_init 134 = .ok (.aload_n 0, 1) := by decide +kernel
theorem dX9_init_135 : decode cX9_init 135 = .ok (.getfield 30, 3) := by decide +kernel
theorem dX9_init_138 : decode cX9_init 138 = .ok (.aload_n 0, 1) := by decide +kernel
theorem dX9_init_139 : decode cX9_init 139 = .ok (.getfield 55, 3) := by decide +kernel
theorem dX9_init_142 : decode cX9_init 142 = .ok (.invokespecial 61, 3) := by decide +kernel
theorem dX9_init_145 : decode cX9_init 145 = .ok (.putfield 64, 3) := by decide +kernel
theorem dX9_init_148 : decode cX9_init 148 = .ok (.aload_n 0, 1) := by decide +kernel
theorem dX9_init_149 : decode cX9_init 149 = .ok (.new 68, 3) := by decide +kernel
theorem dX9_init_152 : decode cX9_init 152 = .ok (.dup, 1) := by decide +kernel
theorem dX9_init_153 : decode cX9_init 153 = .ok (.aload_n 0, 1) := by decide +kernel
theorem dX9_init_154 : decode cX9_init 154 = .ok (.getfield 12, 3) := by decide +kernel
theorem dX9_init_157 : decode cX9_init 157 = .ok (.aload_n 0, 1) := by decide +kernel
theorem dX9_init_158 : decode cX9_init 158 = .ok (.getfield 23, 3) := by decide +kernel
theorem dX9_init_161 : decode cX9_init 161 = .ok (.aload_n 0, 1) := by decide +kernel
theorem dX9_init_162 : decode cX9_init 162 = .ok (.getfield 55, 3) := by decide +kernel
theorem dX9_init_165 : decode cX9_init 165 = .ok (.invokespecial 70, 3) := by decide +kernel
theorem dX9_init_168 : decode cX9_init 168 = .ok (.putfield 73, 3) := by decide +kernel
theorem dX9_init_171 : decode cX9_init 171 = .ok (.return_, 1) := by decide +kernel
theorem dX9_string_0 : decode cX9_string 0 = .ok (.iload_n 1, 1) := by decide +kernel
theorem dX9_string_1 : decode cX9_string 1 = .ok (.ifCond .lt 9, 3) := by decide +kernel
theorem dX9_string_4 : decode cX9_string 4 = .ok (.iload_n 1, 1) := by decide +kernel
theorem dX9_string_5 : decode cX9_string 5 = .ok (.bipush 99, 2) := by decide +kernel
theorem dX9_string_7 : decode cX9_string 7 = .ok (.if_icmp .le 6, 3) := by decide +kernel
theorem dX9_string_10 : decode cX9_string 10 = .ok (.bipush (-2), 2) := by decide +kernel
theorem dX9_string_12 : decode cX9_string 12 = .ok (.ireturn, 1) := by decide +kernel
theorem dX9_string_13 : decode cX9_string 13 = .ok (.aload_n 0, 1) := by decide +kernel
theorem dX9_string_14 : decode cX9_string 14 = .ok (.getfield 23, 3) := by decide +kernel
theorem dX9_string_17 : decode cX9_string 17 = .ok (.getfield 77, 3) := by decide +kernel
theorem dX9_string_20 : decode cX9_string 20 = .ok (.ifCond .le 6, 3) := by decide +kernel
theorem dX9_string_23 : decode cX9_string 23 = .ok (.bipush (-4), 2) := by decide +kernel
theorem dX9_string_25 : decode cX9_string 25 = .ok (.ireturn, 1) := by decide +kernel
theorem dX9_string_26 : decode cX9_string 26 = .ok (.aload_n 0, 1) := by decide +kernel
theorem dX9_string_27 : decode cX9_string 27 = .ok (.getfield 12, 3) := by decide +kernel
theorem dX9_string_30 : decode cX9_string 30 = .ok (.iload_n 1, 1) := by decide +kernel
theorem dX9_string_31 : decode cX9_string 31 = .ok (.invokevirtual 81, 3) := by decide +kernel
theorem dX9_string_34 : decode cX9_string 34 = .ok (.ifCond .ne 6, 3) := by decide +kernel
theorem dX9_string_37 : decode cX9_string 37 = .ok (.bipush (-5), 2) := by decide +kernel
theorem dX9_string_39 : decode cX9_string 39 = .ok (.ireturn, 1) := by decide +kernel
theorem dX9_string_40 : decode cX9_string 40 = .ok (.aload_n 0, 1) := by decide +kernel
theorem dX9_string_41 : decode cX9_string 41 = .ok (.getfield 30, 3) := by decide +kernel
theorem dX9_string_44 : decode cX9_string 44 = .ok (.invokevirtual 85, 3) := by decide +kernel
theorem dX9_string_47 : decode cX9_string 47 = .ok (.aload_n 0, 1) := by decide +kernel
theorem dX9_string_48 : decode cX9_string 48 = .ok (.getfield 12, 3) := by decide +kernel
theorem dX9_string_51 : decode cX9_string 51 = .ok (.getfield 88, 3) := by decide +kernel
theorem dX9_string_54 : decode cX9_string 54 = .ok (.ireturn, 1) := by decide +kernel
theorem dX9_clear_0 : decode cX9_clear 0 = .ok (.aload_n 0, 1) := by decide +kernel
theorem dX9_clear_1 : decode cX9_clear 1 = .ok (.getfield 23, 3) := by decide +kernel
theorem dX9_clear_4 : decode cX9_clear 4 = .ok (.getfield 77, 3) := by decide +kernel
theorem dX9_clear_7 : decode cX9_clear 7 = .ok (.istore_n 1, 1) := by decide +kernel
theorem dX9_clear_8 : decode cX9_clear 8 = .ok (.aload_n 0, 1) := by decide +kernel
theorem dX9_clear_9 : decode cX9_clear 9 = .ok (.getfield 12, 3) := by decide +kernel
theorem dX9_clear_12 : decode cX9_clear 12 = .ok (.iconst 0, 1) := by decide +kernel
theorem dX9_clear_13 : decode cX9_clear 13 = .ok (.putfield 88, 3) := by decide +kernel
theorem dX9_clear_16 : decode cX9_clear 16 = .ok (.aload_n 0, 1) := by decide +kernel
theorem dX9_clear_17 : decode cX9_clear 17 = .ok (.getfield 23, 3) := by decide +kernel
theorem dX9_clear_20 : decode cX9_clear 20 = .ok (.iconst 0, 1) := by decide +kernel
theorem dX9_clear_21 : decode cX9_clear 21 = .ok (.putfield 77, 3) := by decide +kernel
theorem dX9_clear_24 : decode cX9_clear 24 = .ok (.aload_n 0, 1) := by decide +kernel
theorem dX9_clear_25 : decode cX9_clear 25 = .ok (.getfield 30, 3) := by decide +kernel
theorem dX9_clear_28 : decode cX9_clear 28 = .ok (.invokevirtual 85, 3) := by decide +kernel
theorem dX9_clear_31 : decode cX9_clear 31 = .ok (.iload_n 1, 1) := by decide +kernel
theorem dX9_clear_32 : decode cX9_clear 32 = .ok (.ireturn, 1) := by decide +kernel
theorem dX9_neck_0 : decode cX9_neck 0 = .ok (.iload_n 1, 1) := by decide +kernel
theorem dX9_neck_1 : decode cX9_neck 1 = .ok (.iconst 1, 1) := by decide +kernel
theorem dX9_neck_2 : decode cX9_neck 2 = .ok (.if_icmp .lt 20, 3) := by decide +kernel
theorem dX9_neck_5 : decode cX9_neck 5 = .ok (.iload_n 1, 1) := by decide +kernel
theorem dX9_neck_6 : decode cX9_neck 6 = .ok (.bipush 24, 2) := by decide +kernel
theorem dX9_neck_8 : decode cX9_neck 8 = .ok (.if_icmp .gt 14, 3) := by decide +kernel
theorem dX9_neck_11 : decode cX9_neck 11 = .ok (.iload_n 1, 1) := by decide +kernel
theorem dX9_neck_12 : decode cX9_neck 12 = .ok (.aload_n 0, 1) := by decide +kernel
theorem dX9_neck_13 : decode cX9_neck 13 = .ok (.getfield 12, 3) := by decide +kernel
theorem dX9_neck_16 : decode cX9_neck 16 = .ok (.getfield 91, 3) := by decide +kernel
theorem dX9_neck_19 : decode cX9_neck 19 = .ok (.if_icmp .gt 6, 3) := by decide +kernel
theorem dX9_neck_22 : decode cX9_neck 22 = .ok (.bipush (-2), 2) := by decide +kernel
theorem dX9_neck_24 : decode cX9_neck 24 = .ok (.ireturn, 1) := by decide +kernel
theorem dX9_neck_25 : decode cX9_neck 25 = .ok (.aload_n 0, 1) := by decide +kernel
theorem dX9_neck_26 : decode cX9_neck 26 = .ok (.getfield 12, 3) := by decide +kernel
theorem dX9_neck_29 : decode cX9_neck 29 = .ok (.getfield 94, 3) := by decide +kernel
theorem dX9_neck_32 : decode cX9_neck 32 = .ok (.istore_n 2, 1) := by decide +kernel
theorem dX9_neck_33 : decode cX9_neck 33 = .ok (.aload_n 0, 1) := by decide +kernel
theorem dX9_neck_34 : decode cX9_neck 34 = .ok (.getfield 12, 3) := by decide +kernel
theorem dX9_neck_37 : decode cX9_neck 37 = .ok (.iload_n 1, 1) := by decide +kernel
theorem dX9_neck_38 : decode cX9_neck 38 = .ok (.putfield 94, 3) := by decide +kernel
theorem dX9_neck_41 : decode cX9_neck 41 = .ok (.aload_n 0, 1) := by decide +kernel
theorem dX9_neck_42 : decode cX9_neck 42 = .ok (.getfield 30, 3) := by decide +kernel
theorem dX9_neck_45 : decode cX9_neck 45 = .ok (.invokevirtual 85, 3) := by decide +kernel
theorem dX9_neck_48 : decode cX9_neck 48 = .ok (.iload_n 2, 1) := by decide +kernel
theorem dX9_neck_49 : decode cX9_neck 49 = .ok (.ireturn, 1) := by decide +kernel
theorem dX9_capo_0 : decode cX9_capo 0 = .ok (.iload_n 1, 1) := by decide +kernel
theorem dX9_capo_1 : decode cX9_capo 1 = .ok (.ifCond .lt 14, 3) := by decide +kernel
theorem dX9_capo_4 : decode cX9_capo 4 = .ok (.iload_n 1, 1) := by decide +kernel
theorem dX9_capo_5 : decode cX9_capo 5 = .ok (.aload_n 0, 1) := by decide +kernel
theorem dX9_capo_6 : decode cX9_capo 6 = .ok (.getfield 12, 3) := by decide +kernel
theorem dX9_capo_9 : decode cX9_capo 9 = .ok (.getfield 94, 3) := by decide +kernel
theorem dX9_capo_12 : decode cX9_capo 12 = .ok (.if_icmp .lt 6, 3) := by decide +kernel
theorem dX9_capo_15 : decode cX9_capo 15 = .ok (.bipush (-2), 2) := by decide +kernel
theorem dX9_capo_17 : decode cX9_capo 17 = .ok (.ireturn, 1) := by decide +kernel
theorem dX9_capo_18 : decode cX9_capo 18 = .ok (.aload_n 0, 1) := by decide +kernel
theorem dX9_capo_19 : decode cX9_capo 19 = .ok (.getfield 12, 3) := by decide +kernel
theorem dX9_capo_22 : decode cX9_capo 22 = .ok (.getfield 91, 3) := by decide +kernel
theorem dX9_capo_25 : decode cX9_capo 25 = .ok (.istore_n 2, 1) := by decide +kernel
theorem dX9_capo_26 : decode cX9_capo 26 = .ok (.aload_n 0, 1) := by decide +kernel
theorem dX9_capo_27 : decode cX9_capo 27 = .ok (.getfield 12, 3) := by decide +kernel
theorem dX9_capo_30 : decode cX9_capo 30 = .ok (.iload_n 1, 1) := by decide +kernel
theorem dX9_capo_31 : decode cX9_capo 31 = .ok (.putfield 91, 3) := by decide +kernel
theorem dX9_capo_34 : decode cX9_capo 34 = .ok (.aload_n 0, 1) := by decide +kernel
theorem dX9_capo_35 : decode cX9_capo 35 = .ok (.getfield 30, 3) := by decide +kernel
theorem dX9_capo_38 : decode cX9_capo 38 = .ok (.invokevirtual 85, 3) := by decide +kernel
theorem dX9_capo_41 : decode cX9_capo 41 = .ok (.iload_n 2, 1) := by decide +kernel
theorem dX9_capo_42 : decode cX9_capo 42 = .ok (.ireturn, 1) := by decide +kernel
theorem dX9_weight_0 : decode cX9_weight 0 = .ok (.iload_n 1, 1) := by decide +kernel
theorem dX9_weight_1 : decode cX9_weight 1 = .ok (.ifCond .lt 18, 3) := by decide +kernel
theorem dX9_weight_4 : decode cX9_weight 4 = .ok (.iload_n 1, 1) := by decide +kernel
theorem dX9_weight_5 : decode cX9_weight 5 = .ok (.iconst 4, 1) := by decide +kernel
theorem dX9_weight_6 : decode cX9_weight 6 = .ok (.if_icmp .ge 13, 3) := by decide +kernel
theorem dX9_weight_9 : decode cX9_weight 9 = .ok (.iload_n 2, 1) := by decide +kernel
theorem dX9_weight_10 : decode cX9_weight 10 = .ok (.ifCond .lt 9, 3) := by decide +kernel
theorem dX9_weight_13 : decode cX9_weight 13 = .ok (.iload_n 2, 1) := by decide +kernel
theorem dX9_weight_14 : decode cX9_weight 14 = .ok (.bipush 20, 2) := by decide +kernel
theorem dX9_weight_16 : decode cX9_weight 16 = .ok (.if_icmp .le 6, 3) := by decide +kernel
theorem dX9_weight_19 : decode cX9_weight 19 = .ok (.bipush (-2), 2) := by decide +kernel
theorem dX9_weight_21 : decode cX9_weight 21 = .ok (.ireturn, 1) := by decide +kernel
theorem dX9_weight_22 : decode cX9_weight 22 = .ok (.aload_n 0, 1) := by decide +kernel
theorem dX9_weight_23 : decode cX9_weight 23 = .ok (.getfield 16, 3) := by decide +kernel
theorem dX9_weight_26 : decode cX9_weight 26 = .ok (.iload_n 1, 1) := by decide +kernel
theorem dX9_weight_27 : decode cX9_weight 27 = .ok (.iaload, 1) := by decide +kernel
theorem dX9_weight_28 : decode cX9_weight 28 = .ok (.istore_n 3, 1) := by decide +kernel
theorem dX9_weight_29 : decode cX9_weight 29 = .ok (.aload_n 0, 1) := by decide +kernel
theorem dX9_weight_30 : decode cX9_weight 30 = .ok (.getfield 16, 3) := by decide +kernel
theorem dX9_weight_33 : decode cX9_weight 33 = .ok (.iload_n 1, 1) := by decide +kernel
theorem dX9_weight_34 : decode cX9_weight 34 = .ok (.iload_n 2, 1) := by decide +kernel
theorem dX9_weight_35 : decode cX9_weight 35 = .ok (.iastore, 1) := by decide +kernel
theorem dX9_weight_36 : decode cX9_weight 36 = .ok (.aload_n 0, 1) := by decide +kernel
theorem dX9_weight_37 : decode cX9_weight 37 = .ok (.getfield 30, 3) := by decide +kernel
theorem dX9_weight_40 : decode cX9_weight 40 = .ok (.invokevirtual 85, 3) := by decide +kernel
theorem dX9_weight_43 : decode cX9_weight 43 = .ok (.iload_n 3, 1) := by decide +kernel
theorem dX9_weight_44 : decode cX9_weight 44 = .ok (.ireturn, 1) := by decide +kernel
theorem dX9_event_0 : decode cX9_event 0 = .ok (.iload_n 1, 1) := by decide +kernel
theorem dX9_event_1 : decode cX9_event 1 = .ok (.invokestatic 97, 3) := by decide +kernel
theorem dX9_event_4 : decode cX9_event 4 = .ok (.ifCond .ne 6, 3) := by decide +kernel
theorem dX9_event_7 : decode cX9_event 7 = .ok (.bipush (-2), 2) := by decide +kernel
theorem dX9_event_9 : decode cX9_event 9 = .ok (.ireturn, 1) := by decide +kernel
theorem dX9_event_10 : decode cX9_event 10 = .ok (.aload_n 0, 1) := by decide +kernel
theorem dX9_event_11 : decode cX9_event 11 = .ok (.getfield 23, 3) := by decide +kernel
theorem dX9_event_14 : decode cX9_event 14 = .ok (.invokevirtual 100, 3) := by decide +kernel
theorem dX9_event_17 : decode cX9_event 17 = .ok (.ifCond .ne 6, 3) := by decide +kernel
theorem dX9_event_20 : decode cX9_event 20 = .ok (.bipush (-5), 2) := by decide +kernel
theorem dX9_event_22 : decode cX9_event 22 = .ok (.ireturn, 1) := by decide +kernel
theorem dX9_event_23 : decode cX9_event 23 = .ok (.aload_n 0, 1) := by decide +kernel
theorem dX9_event_24 : decode cX9_event 24 = .ok (.getfield 23, 3) := by decide +kernel
theorem dX9_event_27 : decode cX9_event 27 = .ok (.iload_n 1, 1) := by decide +kernel
theorem dX9_event_28 : decode cX9_event 28 = .ok (.iconst (-1), 1) := by decide +kernel
theorem dX9_event_29 : decode cX9_event 29 = .ok (.invokevirtual 104, 3) := by decide +kernel
theorem dX9_event_32 : decode cX9_event 32 = .ok (.pop, 1) := by decide +kernel
theorem dX9_event_33 : decode cX9_event 33 = .ok (.aload_n 0, 1) := by decide +kernel
theorem dX9_event_34 : decode cX9_event 34 = .ok (.getfield 30, 3) := by decide +kernel
theorem dX9_event_37 : decode cX9_event 37 = .ok (.invokevirtual 85, 3) := by decide +kernel
theorem dX9_event_40 : decode cX9_event 40 = .ok (.aload_n 0, 1) := by decide +kernel
theorem dX9_event_41 : decode cX9_event 41 = .ok (.getfield 23, 3) := by decide +kernel
theorem dX9_event_44 : decode cX9_event 44 = .ok (.getfield 77, 3) := by decide +kernel
theorem dX9_event_47 : decode cX9_event 47 = .ok (.iconst 1, 1) := by decide +kernel
theorem dX9_event_48 : decode cX9_event 48 = .ok (.isub, 1) := by decide +kernel
theorem dX9_event_49 : decode cX9_event 49 = .ok (.ireturn, 1) := by decide +kernel
theorem dX9_pitch_0 : decode cX9_pitch 0 = .ok (.aload_n 0, 1) := by decide +kernel
theorem dX9_pitch_1 : decode cX9_pitch 1 = .ok (.getfield 23, 3) := by decide +kernel
theorem dX9_pitch_4 : decode cX9_pitch 4 = .ok (.getfield 77, 3) := by decide +kernel
theorem dX9_pitch_7 : decode cX9_pitch 7 = .ok (.iconst 1, 1) := by decide +kernel
theorem dX9_pitch_8 : decode cX9_pitch 8 = .ok (.isub, 1) := by decide +kernel
theorem dX9_pitch_9 : decode cX9_pitch 9 = .ok (.istore_n 2, 1) := by decide +kernel
theorem dX9_pitch_10 : decode cX9_pitch 10 = .ok (.iload_n 1, 1) := by decide +kernel
theorem dX9_pitch_11 : decode cX9_pitch 11 = .ok (.invokestatic 97, 3) := by decide +kernel
theorem dX9_pitch_14 : decode cX9_pitch 14 = .ok (.ifCond .eq 15, 3) := by decide +kernel
theorem dX9_pitch_17 : decode cX9_pitch 17 = .ok (.aload_n 0, 1) := by decide +kernel
theorem dX9_pitch_18 : decode cX9_pitch 18 = .ok (.getfield 23, 3) := by decide +kernel
theorem dX9_pitch_21 : decode cX9_pitch 21 = .ok (.iload_n 2, 1) := by decide +kernel
theorem dX9_pitch_22 : decode cX9_pitch 22 = .ok (.iload_n 1, 1) := by decide +kernel
theorem dX9_pitch_23 : decode cX9_pitch 23 = .ok (.invokevirtual 108, 3) := by decide +kernel
theorem dX9_pitch_26 : decode cX9_pitch 26 = .ok (.ifCond .eq 6, 3) := by decide +kernel
theorem dX9_pitch_29 : decode cX9_pitch 29 = .ok (.bipush (-2), 2) := by decide +kernel
theorem dX9_pitch_31 : decode cX9_pitch 31 = .ok (.ireturn, 1) := by decide +kernel
theorem dX9_pitch_32 : decode cX9_pitch 32 = .ok (.iload_n 2, 1) := by decide +kernel
theorem dX9_pitch_33 : decode cX9_pitch 33 = .ok (.ifCond .ge 6, 3) := by decide +kernel
theorem dX9_pitch_36 : decode cX9_pitch 36 = .ok (.bipush (-4), 2) := by decide +kernel
theorem dX9_pitch_38 : decode cX9_pitch 38 = .ok (.ireturn, 1) := by decide +kernel
theorem dX9_pitch_39 : decode cX9_pitch 39 = .ok (.aload_n 0, 1) := by decide +kernel
theorem dX9_pitch_40 : decode cX9_pitch 40 = .ok (.getfield 23, 3) := by decide +kernel
theorem dX9_pitch_43 : decode cX9_pitch 43 = .ok (.iload_n 1, 1) := by decide +kernel
theorem dX9_pitch_44 : decode cX9_pitch 44 = .ok (.iconst (-1), 1) := by decide +kernel
theorem dX9_pitch_45 : decode cX9_pitch 45 = .ok (.invokevirtual 104, 3) := by decide +kernel
theorem dX9_pitch_48 : decode cX9_pitch 48 = .ok (.ifCond .ne 6, 3) := by decide +kernel
theorem dX9_pitch_51 : decode cX9_pitch 51 = .ok (.bipush (-5), 2) := by decide +kernel
theorem dX9_pitch_53 : decode cX9_pitch 53 = .ok (.ireturn, 1) := by decide +kernel
theorem dX9_pitch_54 : decode cX9_pitch 54 = .ok (.aload_n 0, 1) := by decide +kernel
theorem dX9_pitch_55 : decode cX9_pitch 55 = .ok (.getfield 30, 3) := by decide +kernel
theorem dX9_pitch_58 : decode cX9_pitch 58 = .ok (.invokevirtual 85, 3) := by decide +kernel
theorem dX9_pitch_61 : decode cX9_pitch 61 = .ok (.aload_n 0, 1) := by decide +kernel
theorem dX9_pitch_62 : decode cX9_pitch 62 = .ok (.getfield 23, 3) := by decide +kernel
theorem dX9_pitch_65 : decode cX9_pitch 65 = .ok (.iload_n 2, 1) := by decide +kernel
theorem dX9_pitch_66 : decode cX9_pitch 66 = .ok (.invokevirtual 111, 3) := by decide +kernel
theorem dX9_pitch_69 : decode cX9_pitch 69 = .ok (.ireturn, 1) := by decide +kernel
theorem dX9_bind_0 : decode cX9_bind 0 = .ok (.aload_n 0, 1) := by decide +kernel
theorem dX9_bind_1 : decode cX9_bind 1 = .ok (.getfield 23, 3) := by decide +kernel
theorem dX9_bind_4 : decode cX9_bind 4 = .ok (.iload_n 1, 1) := by decide +kernel
theorem dX9_bind_5 : decode cX9_bind 5 = .ok (.invokevirtual 115, 3) := by decide +kernel
theorem dX9_bind_8 : decode cX9_bind 8 = .ok (.ifCond .ne 6, 3) := by decide +kernel
theorem dX9_bind_11 : decode cX9_bind 11 = .ok (.bipush (-3), 2) := by decide +kernel
theorem dX9_bind_13 : decode cX9_bind 13 = .ok (.ireturn, 1) := by decide +kernel
theorem dX9_bind_14 : decode cX9_bind 14 = .ok (.aload_n 0, 1) := by decide +kernel
theorem dX9_bind_15 : decode cX9_bind 15 = .ok (.getfield 23, 3) := by decide +kernel
theorem dX9_bind_18 : decode cX9_bind 18 = .ok (.iload_n 1, 1) := by decide +kernel
theorem dX9_bind_19 : decode cX9_bind 19 = .ok (.iload_n 2, 1) := by decide +kernel
theorem dX9_bind_20 : decode cX9_bind 20 = .ok (.invokevirtual 118, 3) := by decide +kernel
theorem dX9_bind_23 : decode cX9_bind 23 = .ok (.ifCond .eq 19, 3) := by decide +kernel
theorem dX9_bind_26 : decode cX9_bind 26 = .ok (.iload_n 3, 1) := by decide +kernel
theorem dX9_bind_27 : decode cX9_bind 27 = .ok (.iconst (-1), 1) := by decide +kernel
theorem dX9_bind_28 : decode cX9_bind 28 = .ok (.if_icmp .eq 17, 3) := by decide +kernel
theorem dX9_bind_31 : decode cX9_bind 31 = .ok (.aload_n 0, 1) := by decide +kernel
theorem dX9_bind_32 : decode cX9_bind 32 = .ok (.getfield 12, 3) := by decide +kernel
theorem dX9_bind_35 : decode cX9_bind 35 = .ok (.iload_n 3, 1) := by decide +kernel
theorem dX9_bind_36 : decode cX9_bind 36 = .ok (.invokevirtual 121, 3) := by decide +kernel
theorem dX9_bind_39 : decode cX9_bind 39 = .ok (.ifCond .ne 6, 3) := by decide +kernel
theorem dX9_bind_42 : decode cX9_bind 42 = .ok (.bipush (-2), 2) := by decide +kernel
theorem dX9_bind_44 : decode cX9_bind 44 = .ok (.ireturn, 1) := by decide +kernel
theorem dX9_bind_45 : decode cX9_bind 45 = .ok (.aload_n 0, 1) := by decide +kernel
theorem dX9_bind_46 : decode cX9_bind 46 = .ok (.getfield 23, 3) := by decide +kernel
theorem dX9_bind_49 : decode cX9_bind 49 = .ok (.iload_n 1, 1) := by decide +kernel
theorem dX9_bind_50 : decode cX9_bind 50 = .ok (.iload_n 2, 1) := by decide +kernel
theorem dX9_bind_51 : decode cX9_bind 51 = .ok (.invokevirtual 124, 3) := by decide +kernel
theorem dX9_bind_54 : decode cX9_bind 54 = .ok (.istore 4, 2) := by decide +kernel
theorem dX9_bind_56 : decode cX9_bind 56 = .ok (.aload_n 0, 1) := by decide +kernel
theorem dX9_bind_57 : decode cX9_bind 57 = .ok (.getfield 23, 3) := by decide +kernel
theorem dX9_bind_60 : decode cX9_bind 60 = .ok (.iload_n 1, 1) := by decide +kernel
theorem dX9_bind_61 : decode cX9_bind 61 = .ok (.iload_n 2, 1) := by decide +kernel
theorem dX9_bind_62 : decode cX9_bind 62 = .ok (.iload_n 3, 1) := by decide +kernel
theorem dX9_bind_63 : decode cX9_bind 63 = .ok (.invokevirtual 128, 3) := by decide +kernel
theorem dX9_bind_66 : decode cX9_bind 66 = .ok (.aload_n 0, 1) := by decide +kernel
theorem dX9_bind_67 : decode cX9_bind 67 = .ok (.getfield 30, 3) := by decide +kernel
theorem dX9_bind_70 : decode cX9_bind 70 = .ok (.invokevirtual 85, 3) := by decide +kernel
theorem dX9_bind_73 : decode cX9_bind 73 = .ok (.iload 4, 2) := by decide +kernel
theorem dX9_bind_75 : decode cX9_bind 75 = .ok (.ireturn, 1) := by decide +kernel
theorem dX9_drop_0 : decode cX9_drop 0 = .ok (.aload_n 0, 1) := by decide +kernel
theorem dX9_drop_1 : decode cX9_drop 1 = .ok (.getfield 23, 3) := by decide +kernel
theorem dX9_drop_4 : decode cX9_drop 4 = .ok (.getfield 77, 3) := by decide +kernel
theorem dX9_drop_7 : decode cX9_drop 7 = .ok (.ifCond .ne 6, 3) := by decide +kernel
theorem dX9_drop_10 : decode cX9_drop 10 = .ok (.bipush (-4), 2) := by decide +kernel
theorem dX9_drop_12 : decode cX9_drop 12 = .ok (.ireturn, 1) := by decide +kernel
theorem dX9_drop_13 : decode cX9_drop 13 = .ok (.aload_n 0, 1) := by decide +kernel
theorem dX9_drop_14 : decode cX9_drop 14 = .ok (.getfield 23, 3) := by decide +kernel
theorem dX9_drop_17 : decode cX9_drop 17 = .ok (.dup, 1) := by decide +kernel
theorem dX9_drop_18 : decode cX9_drop 18 = .ok (.getfield 77, 3) := by decide +kernel
theorem dX9_drop_21 : decode cX9_drop 21 = .ok (.iconst 1, 1) := by decide +kernel
theorem dX9_drop_22 : decode cX9_drop 22 = .ok (.isub, 1) := by decide +kernel
theorem dX9_drop_23 : decode cX9_drop 23 = .ok (.putfield 77, 3) := by decide +kernel
theorem dX9_drop_26 : decode cX9_drop 26 = .ok (.aload_n 0, 1) := by decide +kernel
theorem dX9_drop_27 : decode cX9_drop 27 = .ok (.getfield 30, 3) := by decide +kernel
theorem dX9_drop_30 : decode cX9_drop 30 = .ok (.invokevirtual 85, 3) := by decide +kernel
theorem dX9_drop_33 : decode cX9_drop 33 = .ok (.aload_n 0, 1) := by decide +kernel
theorem dX9_drop_34 : decode cX9_drop 34 = .ok (.getfield 23, 3) := by decide +kernel
theorem dX9_drop_37 : decode cX9_drop 37 = .ok (.getfield 77, 3) := by decide +kernel
theorem dX9_drop_40 : decode cX9_drop 40 = .ok (.ireturn, 1) := by decide +kernel
theorem dX9_told_0 : decode cX9_told 0 = .ok (.iload_n 1, 1) := by decide +kernel
theorem dX9_told_1 : decode cX9_told 1 = .ok (.tableswitch 75 0 4 #[35, 43, 51, 59, 67], 35) := by decide +kernel
theorem dX9_told_36 : decode cX9_told 36 = .ok (.aload_n 0, 1) := by decide +kernel
theorem dX9_told_37 : decode cX9_told 37 = .ok (.getfield 12, 3) := by decide +kernel
theorem dX9_told_40 : decode cX9_told 40 = .ok (.getfield 88, 3) := by decide +kernel
theorem dX9_told_43 : decode cX9_told 43 = .ok (.ireturn, 1) := by decide +kernel
theorem dX9_told_44 : decode cX9_told 44 = .ok (.aload_n 0, 1) := by decide +kernel
theorem dX9_told_45 : decode cX9_told 45 = .ok (.getfield 12, 3) := by decide +kernel
theorem dX9_told_48 : decode cX9_told 48 = .ok (.getfield 94, 3) := by decide +kernel
theorem dX9_told_51 : decode cX9_told 51 = .ok (.ireturn, 1) := by decide +kernel
theorem dX9_told_52 : decode cX9_told 52 = .ok (.aload_n 0, 1) := by decide +kernel
theorem dX9_told_53 : decode cX9_told 53 = .ok (.getfield 12, 3) := by decide +kernel
theorem dX9_told_56 : decode cX9_told 56 = .ok (.getfield 91, 3) := by decide +kernel
theorem dX9_told_59 : decode cX9_told 59 = .ok (.ireturn, 1) := by decide +kernel
theorem dX9_told_60 : decode cX9_told 60 = .ok (.aload_n 0, 1) := by decide +kernel
theorem dX9_told_61 : decode cX9_told 61 = .ok (.getfield 23, 3) := by decide +kernel
theorem dX9_told_64 : decode cX9_told 64 = .ok (.getfield 77, 3) := by decide +kernel
theorem dX9_told_67 : decode cX9_told 67 = .ok (.ireturn, 1) := by decide +kernel
theorem dX9_told_68 : decode cX9_told 68 = .ok (.aload_n 0, 1) := by decide +kernel
theorem dX9_told_69 : decode cX9_told 69 = .ok (.getfield 55, 3) := by decide +kernel
theorem dX9_told_72 : decode cX9_told 72 = .ok (.getfield 132, 3) := by decide +kernel
theorem dX9_told_75 : decode cX9_told 75 = .ok (.ireturn, 1) := by decide +kernel
theorem dX9_told_76 : decode cX9_told 76 = .ok (.bipush (-2), 2) := by decide +kernel
theorem dX9_told_78 : decode cX9_told 78 = .ok (.ireturn, 1) := by decide +kernel
theorem dX9_at_0 : decode cX9_at 0 = .ok (.aload_n 0, 1) := by decide +kernel
theorem dX9_at_1 : decode cX9_at 1 = .ok (.getfield 23, 3) := by decide +kernel
theorem dX9_at_4 : decode cX9_at 4 = .ok (.iload_n 1, 1) := by decide +kernel
theorem dX9_at_5 : decode cX9_at 5 = .ok (.invokevirtual 115, 3) := by decide +kernel
theorem dX9_at_8 : decode cX9_at 8 = .ok (.ifCond .eq 15, 3) := by decide +kernel
theorem dX9_at_11 : decode cX9_at 11 = .ok (.aload_n 0, 1) := by decide +kernel
theorem dX9_at_12 : decode cX9_at 12 = .ok (.getfield 23, 3) := by decide +kernel
theorem dX9_at_15 : decode cX9_at 15 = .ok (.iload_n 1, 1) := by decide +kernel
theorem dX9_at_16 : decode cX9_at 16 = .ok (.iload_n 2, 1) := by decide +kernel
theorem dX9_at_17 : decode cX9_at 17 = .ok (.invokevirtual 135, 3) := by decide +kernel
theorem dX9_at_20 : decode cX9_at 20 = .ok (.goto 5, 3) := by decide +kernel
theorem dX9_at_23 : decode cX9_at 23 = .ok (.bipush (-3), 2) := by decide +kernel
theorem dX9_at_25 : decode cX9_at 25 = .ok (.ireturn, 1) := by decide +kernel
theorem dX9_bound_0 : decode cX9_bound 0 = .ok (.aload_n 0, 1) := by decide +kernel
theorem dX9_bound_1 : decode cX9_bound 1 = .ok (.getfield 23, 3) := by decide +kernel
theorem dX9_bound_4 : decode cX9_bound 4 = .ok (.iload_n 1, 1) := by decide +kernel
theorem dX9_bound_5 : decode cX9_bound 5 = .ok (.invokevirtual 115, 3) := by decide +kernel
theorem dX9_bound_8 : decode cX9_bound 8 = .ok (.ifCond .eq 15, 3) := by decide +kernel
theorem dX9_bound_11 : decode cX9_bound 11 = .ok (.aload_n 0, 1) := by decide +kernel
theorem dX9_bound_12 : decode cX9_bound 12 = .ok (.getfield 23, 3) := by decide +kernel
theorem dX9_bound_15 : decode cX9_bound 15 = .ok (.iload_n 1, 1) := by decide +kernel
theorem dX9_bound_16 : decode cX9_bound 16 = .ok (.iload_n 2, 1) := by decide +kernel
theorem dX9_bound_17 : decode cX9_bound 17 = .ok (.invokevirtual 124, 3) := by decide +kernel
theorem dX9_bound_20 : decode cX9_bound 20 = .ok (.goto 5, 3) := by decide +kernel
theorem dX9_bound_23 : decode cX9_bound 23 = .ok (.bipush (-3), 2) := by decide +kernel
theorem dX9_bound_25 : decode cX9_bound 25 = .ok (.ireturn, 1) := by decide +kernel
theorem dX9_fret_0 : decode cX9_fret 0 = .ok (.aload_n 0, 1) := by decide +kernel
theorem dX9_fret_1 : decode cX9_fret 1 = .ok (.getfield 12, 3) := by decide +kernel
theorem dX9_fret_4 : decode cX9_fret 4 = .ok (.iload_n 1, 1) := by decide +kernel
theorem dX9_fret_5 : decode cX9_fret 5 = .ok (.invokevirtual 121, 3) := by decide +kernel
theorem dX9_fret_8 : decode cX9_fret 8 = .ok (.ifCond .eq 15, 3) := by decide +kernel
theorem dX9_fret_11 : decode cX9_fret 11 = .ok (.aload_n 0, 1) := by decide +kernel
theorem dX9_fret_12 : decode cX9_fret 12 = .ok (.getfield 12, 3) := by decide +kernel
theorem dX9_fret_15 : decode cX9_fret 15 = .ok (.iload_n 1, 1) := by decide +kernel
theorem dX9_fret_16 : decode cX9_fret 16 = .ok (.iload_n 2, 1) := by decide +kernel
theorem dX9_fret_17 : decode cX9_fret 17 = .ok (.invokevirtual 138, 3) := by decide +kernel
theorem dX9_fret_20 : decode cX9_fret 20 = .ok (.goto 5, 3) := by decide +kernel
theorem dX9_fret_23 : decode cX9_fret 23 = .ok (.bipush (-2), 2) := by decide +kernel
theorem dX9_fret_25 : decode cX9_fret 25 = .ok (.ireturn, 1) := by decide +kernel
theorem dX9_grips_0 : decode cX9_grips 0 = .ok (.aload_n 0, 1) := by decide +kernel
theorem dX9_grips_1 : decode cX9_grips 1 = .ok (.getfield 23, 3) := by decide +kernel
theorem dX9_grips_4 : decode cX9_grips 4 = .ok (.iload_n 1, 1) := by decide +kernel
theorem dX9_grips_5 : decode cX9_grips 5 = .ok (.invokevirtual 115, 3) := by decide +kernel
theorem dX9_grips_8 : decode cX9_grips 8 = .ok (.ifCond .ne 6, 3) := by decide +kernel
theorem dX9_grips_11 : decode cX9_grips 11 = .ok (.bipush (-3), 2) := by decide +kernel
theorem dX9_grips_13 : decode cX9_grips 13 = .ok (.ireturn, 1) := by decide +kernel
theorem dX9_grips_14 : decode cX9_grips 14 = .ok (.aload_n 0, 1) := by decide +kernel
theorem dX9_grips_15 : decode cX9_grips 15 = .ok (.getfield 39, 3) := by decide +kernel
theorem dX9_grips_18 : decode cX9_grips 18 = .ok (.iload_n 1, 1) := by decide +kernel
theorem dX9_grips_19 : decode cX9_grips 19 = .ok (.invokevirtual 141, 3) := by decide +kernel
theorem dX9_grips_22 : decode cX9_grips 22 = .ok (.aload_n 0, 1) := by decide +kernel
theorem dX9_grips_23 : decode cX9_grips 23 = .ok (.getfield 39, 3) := by decide +kernel
theorem dX9_grips_26 : decode cX9_grips 26 = .ok (.bipush 25, 2) := by decide +kernel
theorem dX9_grips_28 : decode cX9_grips 28 = .ok (.invokevirtual 145, 3) := by decide +kernel
theorem dX9_grips_31 : decode cX9_grips 31 = .ok (.ireturn, 1) := by decide +kernel
theorem dX9_grip_0 : decode cX9_grip 0 = .ok (.aload_n 0, 1) := by decide +kernel
theorem dX9_grip_1 : decode cX9_grip 1 = .ok (.getfield 23, 3) := by decide +kernel
theorem dX9_grip_4 : decode cX9_grip 4 = .ok (.iload_n 1, 1) := by decide +kernel
theorem dX9_grip_5 : decode cX9_grip 5 = .ok (.invokevirtual 115, 3) := by decide +kernel
theorem dX9_grip_8 : decode cX9_grip 8 = .ok (.ifCond .ne 6, 3) := by decide +kernel
theorem dX9_grip_11 : decode cX9_grip 11 = .ok (.bipush (-3), 2) := by decide +kernel
theorem dX9_grip_13 : decode cX9_grip 13 = .ok (.ireturn, 1) := by decide +kernel
theorem dX9_grip_14 : decode cX9_grip 14 = .ok (.iload_n 3, 1) := by decide +kernel
theorem dX9_grip_15 : decode cX9_grip 15 = .ok (.ifCond .lt 8, 3) := by decide +kernel
theorem dX9_grip_18 : decode cX9_grip 18 = .ok (.iload_n 3, 1) := by decide +kernel
theorem dX9_grip_19 : decode cX9_grip 19 = .ok (.iconst 5, 1) := by decide +kernel
theorem dX9_grip_20 : decode cX9_grip 20 = .ok (.if_icmp .le 6, 3) := by decide +kernel
theorem dX9_grip_23 : decode cX9_grip 23 = .ok (.bipush (-2), 2) := by decide +kernel
theorem dX9_grip_25 : decode cX9_grip 25 = .ok (.ireturn, 1) := by decide +kernel
theorem dX9_grip_26 : decode cX9_grip 26 = .ok (.aload_n 0, 1) := by decide +kernel
theorem dX9_grip_27 : decode cX9_grip 27 = .ok (.getfield 39, 3) := by decide +kernel
theorem dX9_grip_30 : decode cX9_grip 30 = .ok (.iload_n 1, 1) := by decide +kernel
theorem dX9_grip_31 : decode cX9_grip 31 = .ok (.iload_n 2, 1) := by decide +kernel
theorem dX9_grip_32 : decode cX9_grip 32 = .ok (.invokevirtual 148, 3) := by decide +kernel
theorem dX9_grip_35 : decode cX9_grip 35 = .ok (.ifCond .ne 5, 3) := by decide +kernel
theorem dX9_grip_38 : decode cX9_grip 38 = .ok (.iconst (-1), 1) := by decide +kernel
theorem dX9_grip_39 : decode cX9_grip 39 = .ok (.ireturn, 1) := by decide +kernel
theorem dX9_grip_40 : decode cX9_grip 40 = .ok (.aload_n 0, 1) := by decide +kernel
theorem dX9_grip_41 : decode cX9_grip 41 = .ok (.iload_n 1, 1) := by decide +kernel
theorem dX9_grip_42 : decode cX9_grip 42 = .ok (.iload_n 3, 1) := by decide +kernel
theorem dX9_grip_43 : decode cX9_grip 43 = .ok (.aload_n 0, 1) := by decide +kernel
theorem dX9_grip_44 : decode cX9_grip 44 = .ok (.getfield 39, 3) := by decide +kernel
theorem dX9_grip_47 : decode cX9_grip 47 = .ok (.getfield 151, 3) := by decide +kernel
theorem dX9_grip_50 : decode cX9_grip 50 = .ok (.aload_n 0, 1) := by decide +kernel
theorem dX9_grip_51 : decode cX9_grip 51 = .ok (.getfield 39, 3) := by decide +kernel
theorem dX9_grip_54 : decode cX9_grip 54 = .ok (.getfield 154, 3) := by decide +kernel
theorem dX9_grip_57 : decode cX9_grip 57 = .ok (.aload_n 0, 1) := by decide +kernel
theorem dX9_grip_58 : decode cX9_grip 58 = .ok (.getfield 39, 3) := by decide +kernel
theorem dX9_grip_61 : decode cX9_grip 61 = .ok (.getfield 157, 3) := by decide +kernel
theorem dX9_grip_64 : decode cX9_grip 64 = .ok (.invokevirtual 160, 3) := by decide +kernel
theorem dX9_grip_67 : decode cX9_grip 67 = .ok (.ireturn, 1) := by decide +kernel
theorem dX9_plan_0 : decode cX9_plan 0 = .ok (.aload_n 0, 1) := by decide +kernel
theorem dX9_plan_1 : decode cX9_plan 1 = .ok (.getfield 23, 3) := by decide +kernel
theorem dX9_plan_4 : decode cX9_plan 4 = .ok (.getfield 77, 3) := by decide +kernel
theorem dX9_plan_7 : decode cX9_plan 7 = .ok (.ifCond .ne 6, 3) := by decide +kernel
theorem dX9_plan_10 : decode cX9_plan 10 = .ok (.bipush (-4), 2) := by decide +kernel
theorem dX9_plan_12 : decode cX9_plan 12 = .ok (.ireturn, 1) := by decide +kernel
theorem dX9_plan_13 : decode cX9_plan 13 = .ok (.aload_n 0, 1) := by decide +kernel
theorem dX9_plan_14 : decode cX9_plan 14 = .ok (.getfield 30, 3) := by decide +kernel
theorem dX9_plan_17 : decode cX9_plan 17 = .ok (.invokevirtual 85, 3) := by decide +kernel
theorem dX9_plan_20 : decode cX9_plan 20 = .ok (.aload_n 0, 1) := by decide +kernel
theorem dX9_plan_21 : decode cX9_plan 21 = .ok (.getfield 48, 3) := by decide +kernel
theorem dX9_plan_24 : decode cX9_plan 24 = .ok (.invokevirtual 164, 3) := by decide +kernel
theorem dX9_plan_27 : decode cX9_plan 27 = .ok (.aload_n 0, 1) := by decide +kernel
theorem dX9_plan_28 : decode cX9_plan 28 = .ok (.getfield 48, 3) := by decide +kernel
theorem dX9_plan_31 : decode cX9_plan 31 = .ok (.getfield 167, 3) := by decide +kernel
theorem dX9_plan_34 : decode cX9_plan 34 = .ok (.iconst (-1), 1) := by decide +kernel
theorem dX9_plan_35 : decode cX9_plan 35 = .ok (.if_icmp .eq 14, 3) := by decide +kernel
theorem dX9_plan_38 : decode cX9_plan 38 = .ok (.aload_n 0, 1) := by decide +kernel
theorem dX9_plan_39 : decode cX9_plan 39 = .ok (.getfield 48, 3) := by decide +kernel
theorem dX9_plan_42 : decode cX9_plan 42 = .ok (.aload_n 0, 1) := by decide +kernel
theorem dX9_plan_43 : decode cX9_plan 43 = .ok (.getfield 30, 3) := by decide +kernel
theorem dX9_plan_46 : decode cX9_plan 46 = .ok (.invokevirtual 170, 3) := by decide +kernel
theorem dX9_plan_49 : decode cX9_plan 49 = .ok (.aload_n 0, 1) := by decide +kernel
theorem dX9_plan_50 : decode cX9_plan 50 = .ok (.getfield 48, 3) := by decide +kernel
theorem dX9_plan_53 : decode cX9_plan 53 = .ok (.getfield 167, 3) := by decide +kernel
theorem dX9_plan_56 : decode cX9_plan 56 = .ok (.ireturn, 1) := by decide +kernel
theorem dX9_planned_0 : decode cX9_planned 0 = .ok (.iload_n 2, 1) := by decide +kernel
theorem dX9_planned_1 : decode cX9_planned 1 = .ok (.ifCond .lt 9, 3) := by decide +kernel
theorem dX9_planned_4 : decode cX9_planned 4 = .ok (.iload_n 2, 1) := by decide +kernel
theorem dX9_planned_5 : decode cX9_planned 5 = .ok (.bipush 6, 2) := by decide +kernel
theorem dX9_planned_7 : decode cX9_planned 7 = .ok (.if_icmp .le 6, 3) := by decide +kernel
theorem dX9_planned_10 : decode cX9_planned 10 = .ok (.bipush (-2), 2) := by decide +kernel
theorem dX9_planned_12 : decode cX9_planned 12 = .ok (.ireturn, 1) := by decide +kernel
theorem dX9_planned_13 : decode cX9_planned 13 = .ok (.aload_n 0, 1) := by decide +kernel
theorem dX9_planned_14 : decode cX9_planned 14 = .ok (.getfield 30, 3) := by decide +kernel
theorem dX9_planned_17 : decode cX9_planned 17 = .ok (.iload_n 1, 1) := by decide +kernel
theorem dX9_planned_18 : decode cX9_planned 18 = .ok (.invokevirtual 174, 3) := by decide +kernel
theorem dX9_planned_21 : decode cX9_planned 21 = .ok (.ifCond .ne 5, 3) := by decide +kernel
theorem dX9_planned_24 : decode cX9_planned 24 = .ok (.iconst (-1), 1) := by decide +kernel
theorem dX9_planned_25 : decode cX9_planned 25 = .ok (.ireturn, 1) := by decide +kernel
theorem dX9_planned_26 : decode cX9_planned 26 = .ok (.iload_n 2, 1) := by decide +kernel
theorem dX9_planned_27 : decode cX9_planned 27 = .ok (.bipush 6, 2) := by decide +kernel
theorem dX9_planned_29 : decode cX9_planned 29 = .ok (.if_icmp .ne 13, 3) := by decide +kernel
theorem dX9_planned_32 : decode cX9_planned 32 = .ok (.aload_n 0, 1) := by decide +kernel
theorem dX9_planned_33 : decode cX9_planned 33 = .ok (.getfield 30, 3) := by decide +kernel
theorem dX9_planned_36 : decode cX9_planned 36 = .ok (.getfield 175, 3) := by decide +kernel
theorem dX9_planned_39 : decode cX9_planned 39 = .ok (.iload_n 1, 1) := by decide +kernel
theorem dX9_planned_40 : decode cX9_planned 40 = .ok (.iaload, 1) := by decide +kernel
theorem dX9_planned_41 : decode cX9_planned 41 = .ok (.ireturn, 1) := by decide +kernel
theorem dX9_planned_42 : decode cX9_planned 42 = .ok (.aload_n 0, 1) := by decide +kernel
theorem dX9_planned_43 : decode cX9_planned 43 = .ok (.iload_n 1, 1) := by decide +kernel
theorem dX9_planned_44 : decode cX9_planned 44 = .ok (.iload_n 2, 1) := by decide +kernel
theorem dX9_planned_45 : decode cX9_planned 45 = .ok (.aload_n 0, 1) := by decide +kernel
theorem dX9_planned_46 : decode cX9_planned 46 = .ok (.getfield 30, 3) := by decide +kernel
theorem dX9_planned_49 : decode cX9_planned 49 = .ok (.getfield 178, 3) := by decide +kernel
theorem dX9_planned_52 : decode cX9_planned 52 = .ok (.iload_n 1, 1) := by decide +kernel
theorem dX9_planned_53 : decode cX9_planned 53 = .ok (.iaload, 1) := by decide +kernel
theorem dX9_planned_54 : decode cX9_planned 54 = .ok (.aload_n 0, 1) := by decide +kernel
theorem dX9_planned_55 : decode cX9_planned 55 = .ok (.getfield 30, 3) := by decide +kernel
theorem dX9_planned_58 : decode cX9_planned 58 = .ok (.getfield 181, 3) := by decide +kernel
theorem dX9_planned_61 : decode cX9_planned 61 = .ok (.iload_n 1, 1) := by decide +kernel
theorem dX9_planned_62 : decode cX9_planned 62 = .ok (.iaload, 1) := by decide +kernel
theorem dX9_planned_63 : decode cX9_planned 63 = .ok (.aload_n 0, 1) := by decide +kernel
theorem dX9_planned_64 : decode cX9_planned 64 = .ok (.getfield 30, 3) := by decide +kernel
theorem dX9_planned_67 : decode cX9_planned 67 = .ok (.getfield 183, 3) := by decide +kernel
theorem dX9_planned_70 : decode cX9_planned 70 = .ok (.iload_n 1, 1) := by decide +kernel
theorem dX9_planned_71 : decode cX9_planned 71 = .ok (.iaload, 1) := by decide +kernel
theorem dX9_planned_72 : decode cX9_planned 72 = .ok (.invokevirtual 160, 3) := by decide +kernel
theorem dX9_planned_75 : decode cX9_planned 75 = .ok (.ireturn, 1) := by decide +kernel
theorem dX9_ties_0 : decode cX9_ties 0 = .ok (.aload_n 0, 1) := by decide +kernel
theorem dX9_ties_1 : decode cX9_ties 1 = .ok (.getfield 23, 3) := by decide +kernel
theorem dX9_ties_4 : decode cX9_ties 4 = .ok (.getfield 77, 3) := by decide +kernel
theorem dX9_ties_7 : decode cX9_ties 7 = .ok (.ifCond .ne 6, 3) := by decide +kernel
theorem dX9_ties_10 : decode cX9_ties 10 = .ok (.bipush (-4), 2) := by decide +kernel
theorem dX9_ties_12 : decode cX9_ties 12 = .ok (.ireturn, 1) := by decide +kernel
theorem dX9_ties_13 : decode cX9_ties 13 = .ok (.aload_n 0, 1) := by decide +kernel
theorem dX9_ties_14 : decode cX9_ties 14 = .ok (.getfield 48, 3) := by decide +kernel
theorem dX9_ties_17 : decode cX9_ties 17 = .ok (.invokevirtual 164, 3) := by decide +kernel
theorem dX9_ties_20 : decode cX9_ties 20 = .ok (.aload_n 0, 1) := by decide +kernel
theorem dX9_ties_21 : decode cX9_ties 21 = .ok (.getfield 48, 3) := by decide +kernel
theorem dX9_ties_24 : decode cX9_ties 24 = .ok (.getfield 167, 3) := by decide +kernel
theorem dX9_ties_27 : decode cX9_ties 27 = .ok (.iconst (-1), 1) := by decide +kernel
theorem dX9_ties_28 : decode cX9_ties 28 = .ok (.if_icmp .ne 7, 3) := by decide +kernel
theorem dX9_ties_31 : decode cX9_ties 31 = .ok (.iconst 0, 1) := by decide +kernel
theorem dX9_ties_32 : decode cX9_ties 32 = .ok (.goto 10, 3) := by decide +kernel
theorem dX9_ties_35 : decode cX9_ties 35 = .ok (.aload_n 0, 1) := by decide +kernel
theorem dX9_ties_36 : decode cX9_ties 36 = .ok (.getfield 48, 3) := by decide +kernel
theorem dX9_ties_39 : decode cX9_ties 39 = .ok (.getfield 186, 3) := by decide +kernel
theorem dX9_ties_42 : decode cX9_ties 42 = .ok (.ireturn, 1) := by decide +kernel
theorem dX9_sign_0 : decode cX9_sign 0 = .ok (.iload_n 1, 1) := by decide +kernel
theorem dX9_sign_1 : decode cX9_sign 1 = .ok (.iconst 1, 1) := by decide +kernel
theorem dX9_sign_2 : decode cX9_sign 2 = .ok (.if_icmp .lt 9, 3) := by decide +kernel
theorem dX9_sign_5 : decode cX9_sign 5 = .ok (.iload_n 1, 1) := by decide +kernel
theorem dX9_sign_6 : decode cX9_sign 6 = .ok (.bipush 127, 2) := by decide +kernel
theorem dX9_sign_8 : decode cX9_sign 8 = .ok (.if_icmp .le 6, 3) := by decide +kernel
theorem dX9_sign_11 : decode cX9_sign 11 = .ok (.bipush (-2), 2) := by decide +kernel
theorem dX9_sign_13 : decode cX9_sign 13 = .ok (.ireturn, 1) := by decide +kernel
theorem dX9_sign_14 : decode cX9_sign 14 = .ok (.aload_n 0, 1) := by decide +kernel
theorem dX9_sign_15 : decode cX9_sign 15 = .ok (.getfield 55, 3) := by decide +kernel
theorem dX9_sign_18 : decode cX9_sign 18 = .ok (.iload_n 1, 1) := by decide +kernel
theorem dX9_sign_19 : decode cX9_sign 19 = .ok (.invokevirtual 189, 3) := by decide +kernel
theorem dX9_sign_22 : decode cX9_sign 22 = .ok (.ifCond .eq 13, 3) := by decide +kernel
theorem dX9_sign_25 : decode cX9_sign 25 = .ok (.aload_n 0, 1) := by decide +kernel
theorem dX9_sign_26 : decode cX9_sign 26 = .ok (.getfield 55, 3) := by decide +kernel
theorem dX9_sign_29 : decode cX9_sign 29 = .ok (.getfield 132, 3) := by decide +kernel
theorem dX9_sign_32 : decode cX9_sign 32 = .ok (.goto 5, 3) := by decide +kernel
theorem dX9_sign_35 : decode cX9_sign 35 = .ok (.bipush (-5), 2) := by decide +kernel
theorem dX9_sign_37 : decode cX9_sign 37 = .ok (.ireturn, 1) := by decide +kernel
theorem dX9_tape_0 : decode cX9_tape 0 = .ok (.aload_n 0, 1) := by decide +kernel
theorem dX9_tape_1 : decode cX9_tape 1 = .ok (.getfield 55, 3) := by decide +kernel
theorem dX9_tape_4 : decode cX9_tape 4 = .ok (.iload_n 1, 1) := by decide +kernel
theorem dX9_tape_5 : decode cX9_tape 5 = .ok (.invokevirtual 192, 3) := by decide +kernel
theorem dX9_tape_8 : decode cX9_tape 8 = .ok (.ireturn, 1) := by decide +kernel
theorem dX9_empty_0 : decode cX9_empty 0 = .ok (.aload_n 0, 1) := by decide +kernel
theorem dX9_empty_1 : decode cX9_empty 1 = .ok (.getfield 55, 3) := by decide +kernel
theorem dX9_empty_4 : decode cX9_empty 4 = .ok (.getfield 132, 3) := by decide +kernel
theorem dX9_empty_7 : decode cX9_empty 7 = .ok (.istore_n 1, 1) := by decide +kernel
theorem dX9_empty_8 : decode cX9_empty 8 = .ok (.aload_n 0, 1) := by decide +kernel
theorem dX9_empty_9 : decode cX9_empty 9 = .ok (.getfield 55, 3) := by decide +kernel
theorem dX9_empty_12 : decode cX9_empty 12 = .ok (.iconst 0, 1) := by decide +kernel
theorem dX9_empty_13 : decode cX9_empty 13 = .ok (.putfield 132, 3) := by decide +kernel
theorem dX9_empty_16 : decode cX9_empty 16 = .ok (.iload_n 1, 1) := by decide +kernel
theorem dX9_empty_17 : decode cX9_empty 17 = .ok (.ireturn, 1) := by decide +kernel
theorem dX9_write_0 : decode cX9_write 0 = .ok (.aload_n 0, 1) := by decide +kernel
theorem dX9_write_1 : decode cX9_write 1 = .ok (.getfield 30, 3) := by decide +kernel
theorem dX9_write_4 : decode cX9_write 4 = .ok (.invokevirtual 195, 3) := by decide +kernel
theorem dX9_write_7 : decode cX9_write 7 = .ok (.ifCond .ne 6, 3) := by decide +kernel
theorem dX9_write_10 : decode cX9_write 10 = .ok (.bipush (-4), 2) := by decide +kernel
theorem dX9_write_12 : decode cX9_write 12 = .ok (.ireturn, 1) := by decide +kernel
theorem dX9_write_13 : decode cX9_write 13 = .ok (.aload_n 0, 1) := by decide +kernel
theorem dX9_write_14 : decode cX9_write 14 = .ok (.getfield 64, 3) := by decide +kernel
theorem dX9_write_17 : decode cX9_write 17 = .ok (.invokevirtual 198, 3) := by decide +kernel
theorem dX9_write_20 : decode cX9_write 20 = .ok (.aload_n 0, 1) := by decide +kernel
theorem dX9_write_21 : decode cX9_write 21 = .ok (.getfield 55, 3) := by decide +kernel
theorem dX9_write_24 : decode cX9_write 24 = .ok (.getfield 132, 3) := by decide +kernel
theorem dX9_write_27 : decode cX9_write 27 = .ok (.ireturn, 1) := by decide +kernel
theorem dX9_read_0 : decode cX9_read 0 = .ok (.aload_n 0, 1) := by decide +kernel
theorem dX9_read_1 : decode cX9_read 1 = .ok (.getfield 12, 3) := by decide +kernel
theorem dX9_read_4 : decode cX9_read 4 = .ok (.getfield 88, 3) := by decide +kernel
theorem dX9_read_7 : decode cX9_read 7 = .ok (.ifCond .ne 6, 3) := by decide +kernel
theorem dX9_read_10 : decode cX9_read 10 = .ok (.bipush (-4), 2) := by decide +kernel
theorem dX9_read_12 : decode cX9_read 12 = .ok (.ireturn, 1) := by decide +kernel
theorem dX9_read_13 : decode cX9_read 13 = .ok (.aload_n 0, 1) := by decide +kernel
theorem dX9_read_14 : decode cX9_read 14 = .ok (.getfield 73, 3) := by decide +kernel
theorem dX9_read_17 : decode cX9_read 17 = .ok (.invokevirtual 201, 3) := by decide +kernel
theorem dX9_read_20 : decode cX9_read 20 = .ok (.istore_n 1, 1) := by decide +kernel
theorem dX9_read_21 : decode cX9_read 21 = .ok (.iload_n 1, 1) := by decide +kernel
theorem dX9_read_22 : decode cX9_read 22 = .ok (.ifCond .ne 17, 3) := by decide +kernel
theorem dX9_read_25 : decode cX9_read 25 = .ok (.aload_n 0, 1) := by decide +kernel
theorem dX9_read_26 : decode cX9_read 26 = .ok (.getfield 73, 3) := by decide +kernel
theorem dX9_read_29 : decode cX9_read 29 = .ok (.invokevirtual 205, 3) := by decide +kernel
theorem dX9_read_32 : decode cX9_read 32 = .ok (.aload_n 0, 1) := by decide +kernel
theorem dX9_read_33 : decode cX9_read 33 = .ok (.getfield 30, 3) := by decide +kernel
theorem dX9_read_36 : decode cX9_read 36 = .ok (.invokevirtual 85, 3) := by decide +kernel
theorem dX9_read_39 : decode cX9_read 39 = .ok (.aload_n 0, 1) := by decide +kernel
theorem dX9_read_40 : decode cX9_read 40 = .ok (.getfield 55, 3) := by decide +kernel
theorem dX9_read_43 : decode cX9_read 43 = .ok (.iconst 0, 1) := by decide +kernel
theorem dX9_read_44 : decode cX9_read 44 = .ok (.putfield 132, 3) := by decide +kernel
theorem dX9_read_47 : decode cX9_read 47 = .ok (.iload_n 1, 1) := by decide +kernel
theorem dX9_read_48 : decode cX9_read 48 = .ok (.ifCond .ne 13, 3) := by decide +kernel
theorem dX9_read_51 : decode cX9_read 51 = .ok (.aload_n 0, 1) := by decide +kernel
theorem dX9_read_52 : decode cX9_read 52 = .ok (.getfield 23, 3) := by decide +kernel
theorem dX9_read_55 : decode cX9_read 55 = .ok (.getfield 77, 3) := by decide +kernel
theorem dX9_read_58 : decode cX9_read 58 = .ok (.goto 7, 3) := by decide +kernel
theorem dX9_read_61 : decode cX9_read 61 = .ok (.bipush (-10), 2) := by decide +kernel
theorem dX9_read_63 : decode cX9_read 63 = .ok (.iload_n 1, 1) := by decide +kernel
theorem dX9_read_64 : decode cX9_read 64 = .ok (.isub, 1) := by decide +kernel
theorem dX9_read_65 : decode cX9_read 65 = .ok (.ireturn, 1) := by decide +kernel
theorem dX9_place_0 : decode cX9_place 0 = .ok (.aload_n 0, 1) := by decide +kernel
theorem dX9_place_1 : decode cX9_place 1 = .ok (.getfield 73, 3) := by decide +kernel
theorem dX9_place_4 : decode cX9_place 4 = .ok (.getfield 208, 3) := by decide +kernel
theorem dX9_place_7 : decode cX9_place 7 = .ok (.ireturn, 1) := by decide +kernel
theorem dX9_isPitch_0 : decode cX9_isPitch 0 = .ok (.iload_n 0, 1) := by decide +kernel
theorem dX9_isPitch_1 : decode cX9_isPitch 1 = .ok (.ifCond .lt 13, 3) := by decide +kernel
theorem dX9_isPitch_4 : decode cX9_isPitch 4 = .ok (.iload_n 0, 1) := by decide +kernel
theorem dX9_isPitch_5 : decode cX9_isPitch 5 = .ok (.bipush 123, 2) := by decide +kernel
theorem dX9_isPitch_7 : decode cX9_isPitch 7 = .ok (.if_icmp .gt 7, 3) := by decide +kernel
theorem dX9_isPitch_10 : decode cX9_isPitch 10 = .ok (.iconst 1, 1) := by decide +kernel
theorem dX9_isPitch_11 : decode cX9_isPitch 11 = .ok (.goto 4, 3) := by decide +kernel
theorem dX9_isPitch_14 : decode cX9_isPitch 14 = .ok (.iconst 0, 1) := by decide +kernel
theorem dX9_isPitch_15 : decode cX9_isPitch 15 = .ok (.ireturn, 1) := by decide +kernel
theorem dX9_partOf_0 : decode cX9_partOf 0 = .ok (.iload_n 2, 1) := by decide +kernel
theorem dX9_partOf_1 : decode cX9_partOf 1 = .ok (.ifCond .ne 5, 3) := by decide +kernel
theorem dX9_partOf_4 : decode cX9_partOf 4 = .ok (.iload_n 3, 1) := by decide +kernel
theorem dX9_partOf_5 : decode cX9_partOf 5 = .ok (.ireturn, 1) := by decide +kernel
theorem dX9_partOf_6 : decode cX9_partOf 6 = .ok (.iload_n 2, 1) := by decide +kernel
theorem dX9_partOf_7 : decode cX9_partOf 7 = .ok (.iconst 5, 1) := by decide +kernel
theorem dX9_partOf_8 : decode cX9_partOf 8 = .ok (.if_icmp .ne 6, 3) := by decide +kernel
theorem dX9_partOf_11 : decode cX9_partOf 11 = .ok (.iload 5, 2) := by decide +kernel
theorem dX9_partOf_13 : decode cX9_partOf 13 = .ok (.ireturn, 1) := by decide +kernel
theorem dX9_partOf_14 : decode cX9_partOf 14 = .ok (.aload_n 0, 1) := by decide +kernel
theorem dX9_partOf_15 : decode cX9_partOf 15 = .ok (.getfield 23, 3) := by decide +kernel
theorem dX9_partOf_18 : decode cX9_partOf 18 = .ok (.iload_n 1, 1) := by decide +kernel
theorem dX9_partOf_19 : decode cX9_partOf 19 = .ok (.iload_n 2, 1) := by decide +kernel
theorem dX9_partOf_20 : decode cX9_partOf 20 = .ok (.iconst 1, 1) := by decide +kernel
theorem dX9_partOf_21 : decode cX9_partOf 21 = .ok (.isub, 1) := by decide +kernel
theorem dX9_partOf_22 : decode cX9_partOf 22 = .ok (.invokevirtual 118, 3) := by decide +kernel
theorem dX9_partOf_25 : decode cX9_partOf 25 = .ok (.ifCond .eq 14, 3) := by decide +kernel
theorem dX9_partOf_28 : decode cX9_partOf 28 = .ok (.iload 4, 2) := by decide +kernel
theorem dX9_partOf_30 : decode cX9_partOf 30 = .ok (.iload_n 2, 1) := by decide +kernel
theorem dX9_partOf_31 : decode cX9_partOf 31 = .ok (.iconst 1, 1) := by decide +kernel
theorem dX9_partOf_32 : decode cX9_partOf 32 = .ok (.isub, 1) := by decide +kernel
theorem dX9_partOf_33 : decode cX9_partOf 33 = .ok (.invokestatic 211, 3) := by decide +kernel
theorem dX9_partOf_36 : decode cX9_partOf 36 = .ok (.goto 4, 3) := by decide +kernel
theorem dX9_partOf_39 : decode cX9_partOf 39 = .ok (.iconst (-1), 1) := by decide +kernel
theorem dX9_partOf_40 : decode cX9_partOf 40 = .ok (.ireturn, 1) := by decide +kernel
theorem dX10_init_0 : decode cX10_init 0 = .ok (.aload_n 0, 1) := by decide +kernel
theorem dX10_init_1 : decode cX10_init 1 = .ok (.invokespecial 1, 3) := by decide +kernel
theorem dX10_init_4 : decode cX10_init 4 = .ok (.aload_n 0, 1) := by decide +kernel
theorem dX10_init_5 : decode cX10_init 5 = .ok (.bipush 7, 2) := by decide +kernel
theorem dX10_init_7 : decode cX10_init 7 = .ok (.newarray .int, 2) := by decide +kernel
theorem dX10_init_9 : decode cX10_init 9 = .ok (.putfield 7, 3) := by decide +kernel
theorem dX10_init_12 : decode cX10_init 12 = .ok (.aload_n 0, 1) := by decide +kernel
theorem dX10_init_13 : decode cX10_init 13 = .ok (.bipush 12, 2) := by decide +kernel
theorem dX10_init_15 : decode cX10_init 15 = .ok (.putfield 13, 3) := by decide +kernel
theorem dX10_init_18 : decode cX10_init 18 = .ok (.aload_n 0, 1) := by decide +kernel
theorem dX10_init_19 : decode cX10_init 19 = .ok (.iconst 4, 1) := by decide +kernel
theorem dX10_init_20 : decode cX10_init 20 = .ok (.newarray .int, 2) := by decide +kernel
theorem dX10_init_22 : decode cX10_init 22 = .ok (.dup, 1) := by decide +kernel
theorem dX10_init_23 : decode cX10_init 23 = .ok (.iconst 0, 1) := by decide +kernel
theorem dX10_init_24 : decode cX10_init 24 = .ok (.iconst 1, 1) := by decide +kernel
theorem dX10_init_25 : decode cX10_init 25 = .ok (.iastore, 1) := by decide +kernel
theorem dX10_init_26 : decode cX10_init 26 = .ok (.dup, 1) := by decide +kernel
theorem dX10_init_27 : decode cX10_init 27 = .ok (.iconst 1, 1) := by decide +kernel
theorem dX10_init_28 : decode cX10_init 28 = .ok (.iconst 1, 1) := by decide +kernel
theorem dX10_init_29 : decode cX10_init 29 = .ok (.iastore, 1) := by decide +kernel
theorem dX10_init_30 : decode cX10_init 30 = .ok (.dup, 1) := by decide +kernel
theorem dX10_init_31 : decode cX10_init 31 = .ok (.iconst 2, 1) := by decide +kernel
theorem dX10_init_32 : decode cX10_init 32 = .ok (.iconst 1, 1) := by decide +kernel
theorem dX10_init_33 : decode cX10_init 33 = .ok (.iastore, 1) := by decide +kernel
theorem dX10_init_34 : decode cX10_init 34 = .ok (.dup, 1) := by decide +kernel
theorem dX10_init_35 : decode cX10_init 35 = .ok (.iconst 3, 1) := by decide +kernel
theorem dX10_init_36 : decode cX10_init 36 = .ok (.iconst 1, 1) := by decide +kernel
theorem dX10_init_37 : decode cX10_init 37 = .ok (.iastore, 1) := by decide +kernel
theorem dX10_init_38 : decode cX10_init 38 = .ok (.putfield 17, 3) := by decide +kernel
theorem dX10_init_41 : decode cX10_init 41 = .ok (.aload_n 0, 1) := by decide +kernel
theorem dX10_init_42 : decode cX10_init 42 = .ok (.bipush 40, 2) := by decide +kernel
theorem dX10_init_44 : decode cX10_init 44 = .ok (.newarray .int, 2) := by decide +kernel
theorem dX10_init_46 : decode cX10_init 46 = .ok (.putfield 20, 3) := by decide +kernel
theorem dX10_init_49 : decode cX10_init 49 = .ok (.aload_n 0, 1) := by decide +kernel
theorem dX10_init_50 : decode cX10_init 50 = .ok (.sipush 160, 3) := by decide +kernel
theorem dX10_init_53 : decode cX10_init 53 = .ok (.newarray .int, 2) := by decide +kernel
theorem dX10_init_55 : decode cX10_init 55 = .ok (.putfield 23, 3) := by decide +kernel
theorem dX10_init_58 : decode cX10_init 58 = .ok (.aload_n 0, 1) := by decide +kernel
theorem dX10_init_59 : decode cX10_init 59 = .ok (.sipush 160, 3) := by decide +kernel
theorem dX10_init_62 : decode cX10_init 62 = .ok (.newarray .int, 2) := by decide +kernel
theorem dX10_init_64 : decode cX10_init 64 = .ok (.putfield 26, 3) := by decide +kernel
theorem dX10_init_67 : decode cX10_init 67 = .ok (.aload_n 0, 1) := by decide +kernel
theorem dX10_init_68 : decode cX10_init 68 = .ok (.bipush 40, 2) := by decide +kernel
theorem dX10_init_70 : decode cX10_init 70 = .ok (.newarray .int, 2) := by decide +kernel
theorem dX10_init_72 : decode cX10_init 72 = .ok (.putfield 29, 3) := by decide +kernel
theorem dX10_init_75 : decode cX10_init 75 = .ok (.aload_n 0, 1) := by decide +kernel
theorem dX10_init_76 : decode cX10_init 76 = .ok (.sipush 160, 3) := by decide +kernel
theorem dX10_init_79 : decode cX10_init 79 = .ok (.newarray .int, 2) := by decide +kernel
theorem dX10_init_81 : decode cX10_init 81 = .ok (.putfield 32, 3) := by decide +kernel
theorem dX10_init_84 : decode cX10_init 84 = .ok (.aload_n 0, 1) := by decide +kernel
theorem dX10_init_85 : decode cX10_init 85 = .ok (.bipush 40, 2) := by decide +kernel
theorem dX10_init_87 : decode cX10_init 87 = .ok (.newarray .int, 2) := by decide +kernel
theorem dX10_init_89 : decode cX10_init 89 = .ok (.putfield 35, 3) := by decide +kernel
theorem dX10_init_92 : decode cX10_init 92 = .ok (.aload_n 0, 1) := by decide +kernel
theorem dX10_init_93 : decode cX10_init 93 = .ok (.bipush 40, 2) := by decide +kernel
theorem dX10_init_95 : decode cX10_init 95 = .ok (.newarray .int, 2) := by decide +kernel
theorem dX10_init_97 : decode cX10_init 97 = .ok (.putfield 38, 3) := by decide +kernel
theorem dX10_init_100 : decode cX10_init 100 = .ok (.aload_n 0, 1) := by decide +kernel
theorem dX10_init_101 : decode cX10_init 101 = .ok (.sipush 2000, 3) := by decide +kernel
theorem dX10_init_104 : decode cX10_init 104 = .ok (.newarray .int, 2) := by decide +kernel
theorem dX10_init_106 : decode cX10_init 106 = .ok (.putfield 41, 3) := by decide +kernel
theorem dX10_init_109 : decode cX10_init 109 = .ok (.aload_n 0, 1) := by decide +kernel
theorem dX10_init_110 : decode cX10_init 110 = .ok (.iconst (-1), 1) := by decide +kernel
theorem dX10_init_111 : decode cX10_init 111 = .ok (.putfield 44, 3) := by decide +kernel
theorem dX10_init_114 : decode cX10_init 114 = .ok (.aload_n 0, 1) := by decide +kernel
theorem dX10_init_115 : decode cX10_init 115 = .ok (.sipush 3364, 3) := by decide +kernel
theorem dX10_init_118 : decode cX10_init 118 = .ok (.newarray .int, 2) := by decide +kernel
theorem dX10_init_120 : decode cX10_init 120 = .ok (.putfield 47, 3) := by decide +kernel
theorem dX10_init_123 : decode cX10_init 123 = .ok (.aload_n 0, 1) := by decide +kernel
theorem dX10_init_124 : decode cX10_init 124 = .ok (.sipush 3364, 3) := by decide +kernel
theorem dX10_init_127 : decode cX10_init 127 = .ok (.newarray .int, 2) := by decide +kernel
theorem dX10_init_129 : decode cX10_init 129 = .ok (.putfield 50, 3) := by decide +kernel
theorem dX10_init_132 : decode cX10_init 132 = .ok (.aload_n 0, 1) := by decide +kernel
theorem dX10_init_133 : decode cX10_init 133 = .ok (.sipush 1000, 3) := by decide +kernel
theorem dX10_init_136 : decode cX10_init 136 = .ok (.newarray .int, 2) := by decide +kernel
theorem dX10_init_138 : decode cX10_init 138 = .ok (.putfield 53, 3) := by decide +kernel
theorem dX10_init_141 : decode cX10_init 141 = .ok (.aload_n 0, 1) := by decide +kernel
theorem dX10_init_142 : decode cX10_init 142 = .ok (.sipush 1000, 3) := by decide +kernel
theorem dX10_init_145 : decode cX10_init 145 = .ok (.newarray .int, 2) := by decide +kernel
theorem dX10_init_147 : decode cX10_init 147 = .ok (.putfield 56, 3) := by decide +kernel
theorem dX10_init_150 : decode cX10_init 150 = .ok (.aload_n 0, 1) := by decide +kernel
theorem dX10_init_151 : decode cX10_init 151 = .ok (.sipush 1000, 3) := by decide +kernel
theorem dX10_init_154 : decode cX10_init 154 = .ok (.newarray .int, 2) := by decide +kernel
theorem dX10_init_156 : decode cX10_init 156 = .ok (.putfield 59, 3) := by decide +kernel
theorem dX10_init_159 : decode cX10_init 159 = .ok (.aload_n 0, 1) := by decide +kernel
theorem dX10_init_160 : decode cX10_init 160 = .ok (.sipush 1000, 3) := by decide +kernel
theorem dX10_init_163 : decode cX10_init 163 = .ok (.newarray .int, 2) := by decide +kernel
theorem dX10_init_165 : decode cX10_init 165 = .ok (.putfield 62, 3) := by decide +kernel
theorem dX10_init_168 : decode cX10_init 168 = .ok (.aload_n 0, 1) := by decide +kernel
theorem dX10_init_169 : decode cX10_init 169 = .ok (.sipush 1000, 3) := by decide +kernel
theorem dX10_init_172 : decode cX10_init 172 = .ok (.newarray .boolean, 2) := by decide +kernel
theorem dX10_init_174 : decode cX10_init 174 = .ok (.putfield 65, 3) := by decide +kernel
theorem dX10_init_177 : decode cX10_init 177 = .ok (.aload_n 0, 1) := by decide +kernel
theorem dX10_init_178 : decode cX10_init 178 = .ok (.bipush 41, 2) := by decide +kernel
theorem dX10_init_180 : decode cX10_init 180 = .ok (.newarray .int, 2) := by decide +kernel
theorem dX10_init_182 : decode cX10_init 182 = .ok (.putfield 69, 3) := by decide +kernel
theorem dX10_init_185 : decode cX10_init 185 = .ok (.aload_n 0, 1) := by decide +kernel
theorem dX10_init_186 : decode cX10_init 186 = .ok (.sipush 164, 3) := by decide +kernel
theorem dX10_init_189 : decode cX10_init 189 = .ok (.newarray .int, 2) := by decide +kernel
theorem dX10_init_191 : decode cX10_init 191 = .ok (.putfield 72, 3) := by decide +kernel
theorem dX10_init_194 : decode cX10_init 194 = .ok (.aload_n 0, 1) := by decide +kernel
theorem dX10_init_195 : decode cX10_init 195 = .ok (.sipush 164, 3) := by decide +kernel
theorem dX10_init_198 : decode cX10_init 198 = .ok (.newarray .int, 2) := by decide +kernel
theorem dX10_init_200 : decode cX10_init 200 = .ok (.putfield 75, 3) := by decide +kernel
theorem dX10_init_203 : decode cX10_init 203 = .ok (.aload_n 0, 1) := by decide +kernel
theorem dX10_init_204 : decode cX10_init 204 = .ok (.iconst 0, 1) := by decide +kernel
theorem dX10_init_205 : decode cX10_init 205 = .ok (.putfield 78, 3) := by decide +kernel
theorem dX10_init_208 : decode cX10_init 208 = .ok (.return_, 1) := by decide +kernel
theorem dX10_within_0 : decode cX10_within 0 = .ok (.iload_n 0, 1) := by decide +kernel
theorem dX10_within_1 : decode cX10_within 1 = .ok (.iload_n 1, 1) := by decide +kernel
theorem dX10_within_2 : decode cX10_within 2 = .ok (.if_icmp .lt 12, 3) := by decide +kernel
theorem dX10_within_5 : decode cX10_within 5 = .ok (.iload_n 0, 1) := by decide +kernel
theorem dX10_within_6 : decode cX10_within 6 = .ok (.iload_n 2, 1) := by decide +kernel
theorem dX10_within_7 : decode cX10_within 7 = .ok (.if_icmp .gt 7, 3) := by decide +kernel
theorem dX10_within_10 : decode cX10_within 10 = .ok (.iconst 1, 1) := by decide +kernel
theorem dX10_within_11 : decode cX10_within 11 = .ok (.goto 4, 3) := by decide +kernel
theorem dX10_within_14 : decode cX10_within 14 = .ok (.iconst 0, 1) := by decide +kernel
theorem dX10_within_15 : decode cX10_within 15 = .ok (.ireturn, 1) := by decide +kernel
theorem dX10_isEvent_0 : decode cX10_isEvent 0 = .ok (.iload_n 1, 1) := by decide +kernel
theorem dX10_isEvent_1 : decode cX10_isEvent 1 = .ok (.iconst 0, 1) := by decide +kernel
theorem dX10_isEvent_2 : decode cX10_isEvent 2 = .ok (.aload_n 0, 1) := by decide +kernel
theorem dX10_isEvent_3 : decode cX10_isEvent 3 = .ok (.getfield 81, 3) := by decide +kernel
theorem dX10_isEvent_6 : decode cX10_isEvent 6 = .ok (.iconst 1, 1) := by decide +kernel
theorem dX10_isEvent_7 : decode cX10_isEvent 7 = .ok (.isub, 1) := by decide +kernel
theorem dX10_isEvent_8 : decode cX10_isEvent 8 = .ok (.invokestatic 84, 3) := by decide +kernel
theorem dX10_isEvent_11 : decode cX10_isEvent 11 = .ok (.ireturn, 1) := by decide +kernel
theorem dX10_isString_0 : decode cX10_isString 0 = .ok (.iload_n 1, 1) := by decide +kernel
theorem dX10_isString_1 : decode cX10_isString 1 = .ok (.iconst 0, 1) := by decide +kernel
theorem dX10_isString_2 : decode cX10_isString 2 = .ok (.aload_n 0, 1) := by decide +kernel
theorem dX10_isString_3 : decode cX10_isString 3 = .ok (.getfield 78, 3) := by decide +kernel
theorem dX10_isString_6 : decode cX10_isString 6 = .ok (.iconst 1, 1) := by decide +kernel
theorem dX10_isString_7 : decode cX10_isString 7 = .ok (.isub, 1) := by decide +kernel
theorem dX10_isString_8 : decode cX10_isString 8 = .ok (.invokestatic 84, 3) := by decide +kernel
theorem dX10_isString_11 : decode cX10_isString 11 = .ok (.ireturn, 1) := by decide +kernel
theorem dX10_string_0 : decode cX10_string 0 = .ok (.iload_n 1, 1) := by decide +kernel
theorem dX10_string_1 : decode cX10_string 1 = .ok (.iconst 0, 1) := by decide +kernel
theorem dX10_string_2 : decode cX10_string 2 = .ok (.bipush 99, 2) := by decide +kernel
theorem dX10_string_4 : decode cX10_string 4 = .ok (.invokestatic 84, 3) := by decide +kernel
theorem dX10_string_7 : decode cX10_string 7 = .ok (.ifCond .ne 6, 3) := by decide +kernel
theorem dX10_string_10 : decode cX10_string 10 = .ok (.bipush (-2), 2) := by decide +kernel
theorem dX10_string_12 : decode cX10_string 12 = .ok (.ireturn, 1) := by decide +kernel
theorem dX10_string_13 : decode cX10_string 13 = .ok (.aload_n 0, 1) := by decide +kernel
theorem dX10_string_14 : decode cX10_string 14 = .ok (.getfield 81, 3) := by decide +kernel
theorem dX10_string_17 : decode cX10_string 17 = .ok (.ifCond .le 6, 3) := by decide +kernel
theorem dX10_string_20 : decode cX10_string 20 = .ok (.bipush (-4), 2) := by decide +kernel
theorem dX10_string_22 : decode cX10_string 22 = .ok (.ireturn, 1) := by decide +kernel
theorem dX10_string_23 : decode cX10_string 23 = .ok (.aload_n 0, 1) := by decide +kernel
theorem dX10_string_24 : decode cX10_string 24 = .ok (.getfield 78, 3) := by decide +kernel
theorem dX10_string_27 : decode cX10_string 27 = .ok (.bipush 7, 2) := by decide +kernel
theorem dX10_string_29 : decode cX10_string 29 = .ok (.if_icmp .ne 6, 3) := by decide +kernel
theorem dX10_string_32 : decode cX10_string 32 = .ok (.bipush (-5), 2) := by decide +kernel
theorem dX10_string_34 : decode cX10_string 34 = .ok (.ireturn, 1) := by decide +kernel
theorem dX10_string_35 : decode cX10_string 35 = .ok (.aload_n 0, 1) := by decide +kernel
theorem dX10_string_36 : decode cX10_string 36 = .ok (.getfield 7, 3) := by decide +kernel
theorem dX10_string_39 : decode cX10_string 39 = .ok (.aload_n 0, 1) := by decide +kernel
theorem dX10_string_40 : decode cX10_string 40 = .ok (.getfield 78, 3) := by decide +kernel
theorem dX10_string_43 : decode cX10_string 43 = .ok (.iload_n 1, 1) := by decide +kernel
theorem dX10_string_44 : decode cX10_string 44 = .ok (.iastore, 1) := by decide +kernel
theorem dX10_string_45 : decode cX10_string 45 = .ok (.aload_n 0, 1) := by decide +kernel
theorem dX10_string_46 : decode cX10_string 46 = .ok (.dup, 1) := by decide +kernel
theorem dX10_string_47 : decode cX10_string 47 = .ok (.getfield 78, 3) := by decide +kernel
theorem dX10_string_50 : decode cX10_string 50 = .ok (.iconst 1, 1) := by decide +kernel
theorem dX10_string_51 : decode cX10_string 51 = .ok (.iadd, 1) := by decide +kernel
theorem dX10_string_52 : decode cX10_string 52 = .ok (.putfield 78, 3) := by decide +kernel
theorem dX10_string_55 : decode cX10_string 55 = .ok (.aload_n 0, 1) := by decide +kernel
theorem dX10_string_56 : decode cX10_string 56 = .ok (.iconst 0, 1) := by decide +kernel
theorem dX10_string_57 : decode cX10_string 57 = .ok (.putfield 88, 3) := by decide +kernel
theorem dX10_string_60 : decode cX10_string 60 = .ok (.aload_n 0, 1) := by decide +kernel
theorem dX10_string_61 : decode cX10_string 61 = .ok (.getfield 78, 3) := by decide +kernel
theorem dX10_string_64 : decode cX10_string 64 = .ok (.ireturn, 1) := by decide +kernel
theorem dX10_clear_0 : decode cX10_clear 0 = .ok (.aload_n 0, 1) := by decide +kernel
theorem dX10_clear_1 : decode cX10_clear 1 = .ok (.getfield 81, 3) := by decide +kernel
theorem dX10_clear_4 : decode cX10_clear 4 = .ok (.istore_n 1, 1) := by decide +kernel
theorem dX10_clear_5 : decode cX10_clear 5 = .ok (.aload_n 0, 1) := by decide +kernel
theorem dX10_clear_6 : decode cX10_clear 6 = .ok (.iconst 0, 1) := by decide +kernel
theorem dX10_clear_7 : decode cX10_clear 7 = .ok (.putfield 78, 3) := by decide +kernel
theorem dX10_clear_10 : decode cX10_clear 10 = .ok (.aload_n 0, 1) := by decide +kernel
theorem dX10_clear_11 : decode cX10_clear 11 = .ok (.iconst 0, 1) := by decide +kernel
theorem dX10_clear_12 : decode cX10_clear 12 = .ok (.putfield 81, 3) := by decide +kernel
theorem dX10_clear_15 : decode cX10_clear 15 = .ok (.aload_n 0, 1) := by decide +kernel
theorem dX10_clear_16 : decode cX10_clear 16 = .ok (.iconst 0, 1) := by decide +kernel
theorem dX10_clear_17 : decode cX10_clear 17 = .ok (.putfield 88, 3) := by decide +kernel
theorem dX10_clear_20 : decode cX10_clear 20 = .ok (.iload_n 1, 1) := by decide +kernel
theorem dX10_clear_21 : decode cX10_clear 21 = .ok (.ireturn, 1) := by decide +kernel
theorem dX10_neck_0 : decode cX10_neck 0 = .ok (.iload_n 1, 1) := by decide +kernel
theorem dX10_neck_1 : decode cX10_neck 1 = .ok (.iconst 1, 1) := by decide +kernel
theorem dX10_neck_2 : decode cX10_neck 2 = .ok (.bipush 24, 2) := by decide +kernel
theorem dX10_neck_4 : decode cX10_neck 4 = .ok (.invokestatic 84, 3) := by decide +kernel
theorem dX10_neck_7 : decode cX10_neck 7 = .ok (.ifCond .eq 11, 3) := by decide +kernel
theorem dX10_neck_10 : decode cX10_neck 10 = .ok (.iload_n 1, 1) := by decide +kernel
theorem dX10_neck_11 : decode cX10_neck 11 = .ok (.aload_n 0, 1) := by decide +kernel
theorem dX10_neck_12 : decode cX10_neck 12 = .ok (.getfield 92, 3) := by decide +kernel
theorem dX10_neck_15 : decode cX10_neck 15 = .ok (.if_icmp .gt 6, 3) := by decide +kernel
theorem dX10_neck_18 : decode cX10_neck 18 = .ok (.bipush (-2), 2) := by decide +kernel
theorem dX10_neck_20 : decode cX10_neck 20 = .ok (.ireturn, 1) := by decide +kernel
theorem dX10_neck_21 : decode cX10_neck 21 = .ok (.aload_n 0, 1) := by decide +kernel
theorem dX10_neck_22 : decode cX10_neck 22 = .ok (.getfield 13, 3) := by decide +kernel
theorem dX10_neck_25 : decode cX10_neck 25 = .ok (.istore_n 2, 1) := by decide +kernel
theorem dX10_neck_26 : decode cX10_neck 26 = .ok (.aload_n 0, 1) := by decide +kernel
theorem dX10_neck_27 : decode cX10_neck 27 = .ok (.iload_n 1, 1) := by decide +kernel
theorem dX10_neck_28 : decode cX10_neck 28 = .ok (.putfield 13, 3) := by decide +kernel
theorem dX10_neck_31 : decode cX10_neck 31 = .ok (.aload_n 0, 1) := by decide +kernel
theorem dX10_neck_32 : decode cX10_neck 32 = .ok (.iconst 0, 1) := by decide +kernel
theorem dX10_neck_33 : decode cX10_neck 33 = .ok (.putfield 88, 3) := by decide +kernel
theorem dX10_neck_36 : decode cX10_neck 36 = .ok (.iload_n 2, 1) := by decide +kernel
theorem dX10_neck_37 : decode cX10_neck 37 = .ok (.ireturn, 1) := by decide +kernel
theorem dX10_capo_0 : decode cX10_capo 0 = .ok (.iload_n 1, 1) := by decide +kernel
theorem dX10_capo_1 : decode cX10_capo 1 = .ok (.iconst 0, 1) := by decide +kernel
theorem dX10_capo_2 : decode cX10_capo 2 = .ok (.aload_n 0, 1) := by decide +kernel
theorem dX10_capo_3 : decode cX10_capo 3 = .ok (.getfield 13, 3) := by decide +kernel
theorem dX10_capo_6 : decode cX10_capo 6 = .ok (.iconst 1, 1) := by decide +kernel
theorem dX10_capo_7 : decode cX10_capo 7 = .ok (.isub, 1) := by decide +kernel
theorem dX10_capo_8 : decode cX10_capo 8 = .ok (.invokestatic 84, 3) := by decide +kernel
theorem dX10_capo_11 : decode cX10_capo 11 = .ok (.ifCond .ne 6, 3) := by decide +kernel
theorem dX10_capo_14 : decode cX10_capo 14 = .ok (.bipush (-2), 2) := by decide +kernel
theorem dX10_capo_16 : decode cX10_capo 16 = .ok (.ireturn, 1) := by decide +kernel
theorem dX10_capo_17 : decode cX10_capo 17 = .ok (.aload_n 0, 1) := by decide +kernel
theorem dX10_capo_18 : decode cX10_capo 18 = .ok (.getfield 92, 3) := by decide +kernel
theorem dX10_capo_21 : decode cX10_capo 21 = .ok (.istore_n 2, 1) := by decide +kernel
theorem dX10_capo_22 : decode cX10_capo 22 = .ok (.aload_n 0, 1) := by decide +kernel
theorem dX10_capo_23 : decode cX10_capo 23 = .ok (.iload_n 1, 1) := by decide +kernel
theorem dX10_capo_24 : decode cX10_capo 24 = .ok (.putfield 92, 3) := by decide +kernel
theorem dX10_capo_27 : decode cX10_capo 27 = .ok (.aload_n 0, 1) := by decide +kernel
theorem dX10_capo_28 : decode cX10_capo 28 = .ok (.iconst 0, 1) := by decide +kernel
theorem dX10_capo_29 : decode cX10_capo 29 = .ok (.putfield 88, 3) := by decide +kernel
theorem dX10_capo_32 : decode cX10_capo 32 = .ok (.iload_n 2, 1) := by decide +kernel
theorem dX10_capo_33 : decode cX10_capo 33 = .ok (.ireturn, 1) := by decide +kernel
theorem dX10_weight_0 : decode cX10_weight 0 = .ok (.iload_n 1, 1) := by decide +kernel
theorem dX10_weight_1 : decode cX10_weight 1 = .ok (.iconst 0, 1) := by decide +kernel
theorem dX10_weight_2 : decode cX10_weight 2 = .ok (.iconst 3, 1) := by decide +kernel
theorem dX10_weight_3 : decode cX10_weight 3 = .ok (.invokestatic 84, 3) := by decide +kernel
end
section
theorem dX10_weight_6 : decode cX10_weight 6 = .ok (.ifCond .eq 13, 3) := by decide +kernel
theorem dX10_weight_9 : decode cX10_weight 9 = .ok (.iload_n 2, 1) := by decide +kernel
theorem dX10_weight_10 : decode cX10_weight 10 = .ok (.iconst 0, 1) := by decide +kernel
theorem dX10_weight_11 : decode cX10_weight 11 = .ok (.bipush 20, 2) := by decide +kernel
theorem dX10_weight_13 : decode cX10_weight 13 = .ok (.invokestatic 84, 3) := by decide +kernel
theorem dX10_weight_16 : decode cX10_weight 16 = .ok (.ifCond .ne 6, 3) := by decide +kernel
theorem dX10_weight_19 : decode cX10_weight 19 = .ok (.bipush (-2), 2) := by decide +kernel
theorem dX10_weight_21 : decode cX10_weight 21 = .ok (.ireturn, 1) := by decide +kernel
theorem dX10_weight_22 : decode cX10_weight 22 = .ok (.aload_n 0, 1) := by decide +kernel
theorem dX10_weight_23 : decode cX10_weight 23 = .ok (.getfield 17, 3) := by decide +kernel
theorem dX10_weight_26 : decode cX10_weight 26 = .ok (.iload_n 1, 1) := by decide +kernel
theorem dX10_weight_27 : decode cX10_weight 27 = .ok (.iaload, 1) := by decide +kernel
theorem dX10_weight_28 : decode cX10_weight 28 = .ok (.istore_n 3, 1) := by decide +kernel
theorem dX10_weight_29 : decode cX10_weight 29 = .ok (.aload_n 0, 1) := by decide +kernel
theorem dX10_weight_30 : decode cX10_weight 30 = .ok (.getfield 17, 3) := by decide +kernel
theorem dX10_weight_33 : decode cX10_weight 33 = .ok (.iload_n 1, 1) := by decide +kernel
theorem dX10_weight_34 : decode cX10_weight 34 = .ok (.iload_n 2, 1) := by decide +kernel
theorem dX10_weight_35 : decode cX10_weight 35 = .ok (.iastore, 1) := by decide +kernel
theorem dX10_weight_36 : decode cX10_weight 36 = .ok (.aload_n 0, 1) := by decide +kernel
theorem dX10_weight_37 : decode cX10_weight 37 = .ok (.iconst 0, 1) := by decide +kernel
theorem dX10_weight_38 : decode cX10_weight 38 = .ok (.putfield 88, 3) := by decide +kernel
theorem dX10_weight_41 : decode cX10_weight 41 = .ok (.iload_n 3, 1) := by decide +kernel
theorem dX10_weight_42 : decode cX10_weight 42 = .ok (.ireturn, 1) := by decide +kernel
theorem dX10_event_0 : decode cX10_event 0 = .ok (.iload_n 1, 1) := by decide +kernel
theorem dX10_event_1 : decode cX10_event 1 = .ok (.iconst 0, 1) := by decide +kernel
theorem dX10_event_2 : decode cX10_event 2 = .ok (.bipush 123, 2) := by decide +kernel
theorem dX10_event_4 : decode cX10_event 4 = .ok (.invokestatic 84, 3) := by decide +kernel
theorem dX10_event_7 : decode cX10_event 7 = .ok (.ifCond .ne 6, 3) := by decide +kernel
theorem dX10_event_10 : decode cX10_event 10 = .ok (.bipush (-2), 2) := by decide +kernel
theorem dX10_event_12 : decode cX10_event 12 = .ok (.ireturn, 1) := by decide +kernel
theorem dX10_event_13 : decode cX10_event 13 = .ok (.aload_n 0, 1) := by decide +kernel
theorem dX10_event_14 : decode cX10_event 14 = .ok (.getfield 81, 3) := by decide +kernel
theorem dX10_event_17 : decode cX10_event 17 = .ok (.bipush 40, 2) := by decide +kernel
theorem dX10_event_19 : decode cX10_event 19 = .ok (.if_icmp .ne 6, 3) := by decide +kernel
theorem dX10_event_22 : decode cX10_event 22 = .ok (.bipush (-5), 2) := by decide +kernel
theorem dX10_event_24 : decode cX10_event 24 = .ok (.ireturn, 1) := by decide +kernel
theorem dX10_event_25 : decode cX10_event 25 = .ok (.aload_n 0, 1) := by decide +kernel
theorem dX10_event_26 : decode cX10_event 26 = .ok (.getfield 20, 3) := by decide +kernel
theorem dX10_event_29 : decode cX10_event 29 = .ok (.aload_n 0, 1) := by decide +kernel
theorem dX10_event_30 : decode cX10_event 30 = .ok (.getfield 81, 3) := by decide +kernel
theorem dX10_event_33 : decode cX10_event 33 = .ok (.iconst 1, 1) := by decide +kernel
theorem dX10_event_34 : decode cX10_event 34 = .ok (.iastore, 1) := by decide +kernel
theorem dX10_event_35 : decode cX10_event 35 = .ok (.aload_n 0, 1) := by decide +kernel
theorem dX10_event_36 : decode cX10_event 36 = .ok (.getfield 23, 3) := by decide +kernel
theorem dX10_event_39 : decode cX10_event 39 = .ok (.iconst 4, 1) := by decide +kernel
theorem dX10_event_40 : decode cX10_event 40 = .ok (.aload_n 0, 1) := by decide +kernel
theorem dX10_event_41 : decode cX10_event 41 = .ok (.getfield 81, 3) := by decide +kernel
theorem dX10_event_44 : decode cX10_event 44 = .ok (.imul, 1) := by decide +kernel
theorem dX10_event_45 : decode cX10_event 45 = .ok (.iload_n 1, 1) := by decide +kernel
theorem dX10_event_46 : decode cX10_event 46 = .ok (.iastore, 1) := by decide +kernel
theorem dX10_event_47 : decode cX10_event 47 = .ok (.aload_n 0, 1) := by decide +kernel
theorem dX10_event_48 : decode cX10_event 48 = .ok (.getfield 26, 3) := by decide +kernel
theorem dX10_event_51 : decode cX10_event 51 = .ok (.iconst 4, 1) := by decide +kernel
theorem dX10_event_52 : decode cX10_event 52 = .ok (.aload_n 0, 1) := by decide +kernel
theorem dX10_event_53 : decode cX10_event 53 = .ok (.getfield 81, 3) := by decide +kernel
theorem dX10_event_56 : decode cX10_event 56 = .ok (.imul, 1) := by decide +kernel
theorem dX10_event_57 : decode cX10_event 57 = .ok (.iconst (-1), 1) := by decide +kernel
theorem dX10_event_58 : decode cX10_event 58 = .ok (.iastore, 1) := by decide +kernel
theorem dX10_event_59 : decode cX10_event 59 = .ok (.aload_n 0, 1) := by decide +kernel
theorem dX10_event_60 : decode cX10_event 60 = .ok (.dup, 1) := by decide +kernel
theorem dX10_event_61 : decode cX10_event 61 = .ok (.getfield 81, 3) := by decide +kernel
theorem dX10_event_64 : decode cX10_event 64 = .ok (.iconst 1, 1) := by decide +kernel
theorem dX10_event_65 : decode cX10_event 65 = .ok (.iadd, 1) := by decide +kernel
theorem dX10_event_66 : decode cX10_event 66 = .ok (.putfield 81, 3) := by decide +kernel
theorem dX10_event_69 : decode cX10_event 69 = .ok (.aload_n 0, 1) := by decide +kernel
theorem dX10_event_70 : decode cX10_event 70 = .ok (.iconst 0, 1) := by decide +kernel
theorem dX10_event_71 : decode cX10_event 71 = .ok (.putfield 88, 3) := by decide +kernel
theorem dX10_event_74 : decode cX10_event 74 = .ok (.aload_n 0, 1) := by decide +kernel
theorem dX10_event_75 : decode cX10_event 75 = .ok (.getfield 81, 3) := by decide +kernel
theorem dX10_event_78 : decode cX10_event 78 = .ok (.iconst 1, 1) := by decide +kernel
theorem dX10_event_79 : decode cX10_event 79 = .ok (.isub, 1) := by decide +kernel
theorem dX10_event_80 : decode cX10_event 80 = .ok (.ireturn, 1) := by decide +kernel
theorem dX10_hasPitch_0 : decode cX10_hasPitch 0 = .ok (.iconst 0, 1) := by decide +kernel
theorem dX10_hasPitch_1 : decode cX10_hasPitch 1 = .ok (.istore_n 3, 1) := by decide +kernel
theorem dX10_hasPitch_2 : decode cX10_hasPitch 2 = .ok (.iconst 0, 1) := by decide +kernel
theorem dX10_hasPitch_3 : decode cX10_hasPitch 3 = .ok (.istore 4, 2) := by decide +kernel
theorem dX10_hasPitch_5 : decode cX10_hasPitch 5 = .ok (.iload 4, 2) := by decide +kernel
theorem dX10_hasPitch_7 : decode cX10_hasPitch 7 = .ok (.aload_n 0, 1) := by decide +kernel
theorem dX10_hasPitch_8 : decode cX10_hasPitch 8 = .ok (.getfield 20, 3) := by decide +kernel
theorem dX10_hasPitch_11 : decode cX10_hasPitch 11 = .ok (.iload_n 1, 1) := by decide +kernel
theorem dX10_hasPitch_12 : decode cX10_hasPitch 12 = .ok (.iaload, 1) := by decide +kernel
theorem dX10_hasPitch_13 : decode cX10_hasPitch 13 = .ok (.if_icmp .ge 34, 3) := by decide +kernel
theorem dX10_hasPitch_16 : decode cX10_hasPitch 16 = .ok (.iload_n 3, 1) := by decide +kernel
theorem dX10_hasPitch_17 : decode cX10_hasPitch 17 = .ok (.ifCond .ne 18, 3) := by decide +kernel
theorem dX10_hasPitch_20 : decode cX10_hasPitch 20 = .ok (.aload_n 0, 1) := by decide +kernel
theorem dX10_hasPitch_21 : decode cX10_hasPitch 21 = .ok (.getfield 23, 3) := by decide +kernel
theorem dX10_hasPitch_24 : decode cX10_hasPitch 24 = .ok (.iconst 4, 1) := by decide +kernel
theorem dX10_hasPitch_25 : decode cX10_hasPitch 25 = .ok (.iload_n 1, 1) := by decide +kernel
theorem dX10_hasPitch_26 : decode cX10_hasPitch 26 = .ok (.imul, 1) := by decide +kernel
theorem dX10_hasPitch_27 : decode cX10_hasPitch 27 = .ok (.iload 4, 2) := by decide +kernel
theorem dX10_hasPitch_29 : decode cX10_hasPitch 29 = .ok (.iadd, 1) := by decide +kernel
theorem dX10_hasPitch_30 : decode cX10_hasPitch 30 = .ok (.iaload, 1) := by decide +kernel
theorem dX10_hasPitch_31 : decode cX10_hasPitch 31 = .ok (.iload_n 2, 1) := by decide +kernel
theorem dX10_hasPitch_32 : decode cX10_hasPitch 32 = .ok (.if_icmp .ne 7, 3) := by decide +kernel
theorem dX10_hasPitch_35 : decode cX10_hasPitch 35 = .ok (.iconst 1, 1) := by decide +kernel
theorem dX10_hasPitch_36 : decode cX10_hasPitch 36 = .ok (.goto 4, 3) := by decide +kernel
theorem dX10_hasPitch_39 : decode cX10_hasPitch 39 = .ok (.iconst 0, 1) := by decide +kernel
theorem dX10_hasPitch_40 : decode cX10_hasPitch 40 = .ok (.istore_n 3, 1) := by decide +kernel
theorem dX10_hasPitch_41 : decode cX10_hasPitch 41 = .ok (.iinc 4 1, 3) := by decide +kernel
theorem dX10_hasPitch_44 : decode cX10_hasPitch 44 = .ok (.goto (-39), 3) := by decide +kernel
theorem dX10_hasPitch_47 : decode cX10_hasPitch 47 = .ok (.iload_n 3, 1) := by decide +kernel
theorem dX10_hasPitch_48 : decode cX10_hasPitch 48 = .ok (.ireturn, 1) := by decide +kernel
theorem dX10_pitch_0 : decode cX10_pitch 0 = .ok (.aload_n 0, 1) := by decide +kernel
theorem dX10_pitch_1 : decode cX10_pitch 1 = .ok (.getfield 81, 3) := by decide +kernel
theorem dX10_pitch_4 : decode cX10_pitch 4 = .ok (.iconst 1, 1) := by decide +kernel
theorem dX10_pitch_5 : decode cX10_pitch 5 = .ok (.isub, 1) := by decide +kernel
theorem dX10_pitch_6 : decode cX10_pitch 6 = .ok (.istore_n 2, 1) := by decide +kernel
theorem dX10_pitch_7 : decode cX10_pitch 7 = .ok (.iload_n 1, 1) := by decide +kernel
theorem dX10_pitch_8 : decode cX10_pitch 8 = .ok (.iconst 0, 1) := by decide +kernel
theorem dX10_pitch_9 : decode cX10_pitch 9 = .ok (.bipush 123, 2) := by decide +kernel
theorem dX10_pitch_11 : decode cX10_pitch 11 = .ok (.invokestatic 84, 3) := by decide +kernel
theorem dX10_pitch_14 : decode cX10_pitch 14 = .ok (.ifCond .eq 16, 3) := by decide +kernel
theorem dX10_pitch_17 : decode cX10_pitch 17 = .ok (.iload_n 2, 1) := by decide +kernel
theorem dX10_pitch_18 : decode cX10_pitch 18 = .ok (.ifCond .lt 15, 3) := by decide +kernel
theorem dX10_pitch_21 : decode cX10_pitch 21 = .ok (.aload_n 0, 1) := by decide +kernel
theorem dX10_pitch_22 : decode cX10_pitch 22 = .ok (.iload_n 2, 1) := by decide +kernel
theorem dX10_pitch_23 : decode cX10_pitch 23 = .ok (.iload_n 1, 1) := by decide +kernel
theorem dX10_pitch_24 : decode cX10_pitch 24 = .ok (.invokevirtual 95, 3) := by decide +kernel
theorem dX10_pitch_27 : decode cX10_pitch 27 = .ok (.ifCond .eq 6, 3) := by decide +kernel
theorem dX10_pitch_30 : decode cX10_pitch 30 = .ok (.bipush (-2), 2) := by decide +kernel
theorem dX10_pitch_32 : decode cX10_pitch 32 = .ok (.ireturn, 1) := by decide +kernel
theorem dX10_pitch_33 : decode cX10_pitch 33 = .ok (.iload_n 2, 1) := by decide +kernel
theorem dX10_pitch_34 : decode cX10_pitch 34 = .ok (.ifCond .ge 6, 3) := by decide +kernel
theorem dX10_pitch_37 : decode cX10_pitch 37 = .ok (.bipush (-4), 2) := by decide +kernel
theorem dX10_pitch_39 : decode cX10_pitch 39 = .ok (.ireturn, 1) := by decide +kernel
theorem dX10_pitch_40 : decode cX10_pitch 40 = .ok (.aload_n 0, 1) := by decide +kernel
theorem dX10_pitch_41 : decode cX10_pitch 41 = .ok (.getfield 20, 3) := by decide +kernel
theorem dX10_pitch_44 : decode cX10_pitch 44 = .ok (.iload_n 2, 1) := by decide +kernel
theorem dX10_pitch_45 : decode cX10_pitch 45 = .ok (.iaload, 1) := by decide +kernel
theorem dX10_pitch_46 : decode cX10_pitch 46 = .ok (.iconst 4, 1) := by decide +kernel
theorem dX10_pitch_47 : decode cX10_pitch 47 = .ok (.if_icmp .ne 6, 3) := by decide +kernel
theorem dX10_pitch_50 : decode cX10_pitch 50 = .ok (.bipush (-5), 2) := by decide +kernel
theorem dX10_pitch_52 : decode cX10_pitch 52 = .ok (.ireturn, 1) := by decide +kernel
theorem dX10_pitch_53 : decode cX10_pitch 53 = .ok (.aload_n 0, 1) := by decide +kernel
theorem dX10_pitch_54 : decode cX10_pitch 54 = .ok (.getfield 23, 3) := by decide +kernel
theorem dX10_pitch_57 : decode cX10_pitch 57 = .ok (.iconst 4, 1) := by decide +kernel
theorem dX10_pitch_58 : decode cX10_pitch 58 = .ok (.iload_n 2, 1) := by decide +kernel
theorem dX10_pitch_59 : decode cX10_pitch 59 = .ok (.imul, 1) := by decide +kernel
theorem dX10_pitch_60 : decode cX10_pitch 60 = .ok (.aload_n 0, 1) := by decide +kernel
theorem dX10_pitch_61 : decode cX10_pitch 61 = .ok (.getfield 20, 3) := by decide +kernel
theorem dX10_pitch_64 : decode cX10_pitch 64 = .ok (.iload_n 2, 1) := by decide +kernel
theorem dX10_pitch_65 : decode cX10_pitch 65 = .ok (.iaload, 1) := by decide +kernel
theorem dX10_pitch_66 : decode cX10_pitch 66 = .ok (.iadd, 1) := by decide +kernel
theorem dX10_pitch_67 : decode cX10_pitch 67 = .ok (.iload_n 1, 1) := by decide +kernel
theorem dX10_pitch_68 : decode cX10_pitch 68 = .ok (.iastore, 1) := by decide +kernel
theorem dX10_pitch_69 : decode cX10_pitch 69 = .ok (.aload_n 0, 1) := by decide +kernel
theorem dX10_pitch_70 : decode cX10_pitch 70 = .ok (.getfield 26, 3) := by decide +kernel
theorem dX10_pitch_73 : decode cX10_pitch 73 = .ok (.iconst 4, 1) := by decide +kernel
theorem dX10_pitch_74 : decode cX10_pitch 74 = .ok (.iload_n 2, 1) := by decide +kernel
theorem dX10_pitch_75 : decode cX10_pitch 75 = .ok (.imul, 1) := by decide +kernel
theorem dX10_pitch_76 : decode cX10_pitch 76 = .ok (.aload_n 0, 1) := by decide +kernel
theorem dX10_pitch_77 : decode cX10_pitch 77 = .ok (.getfield 20, 3) := by decide +kernel
theorem dX10_pitch_80 : decode cX10_pitch 80 = .ok (.iload_n 2, 1) := by decide +kernel
theorem dX10_pitch_81 : decode cX10_pitch 81 = .ok (.iaload, 1) := by decide +kernel
theorem dX10_pitch_82 : decode cX10_pitch 82 = .ok (.iadd, 1) := by decide +kernel
theorem dX10_pitch_83 : decode cX10_pitch 83 = .ok (.iconst (-1), 1) := by decide +kernel
theorem dX10_pitch_84 : decode cX10_pitch 84 = .ok (.iastore, 1) := by decide +kernel
theorem dX10_pitch_85 : decode cX10_pitch 85 = .ok (.aload_n 0, 1) := by decide +kernel
theorem dX10_pitch_86 : decode cX10_pitch 86 = .ok (.getfield 20, 3) := by decide +kernel
theorem dX10_pitch_89 : decode cX10_pitch 89 = .ok (.iload_n 2, 1) := by decide +kernel
theorem dX10_pitch_90 : decode cX10_pitch 90 = .ok (.dup2, 1) := by decide +kernel
theorem dX10_pitch_91 : decode cX10_pitch 91 = .ok (.iaload, 1) := by decide +kernel
theorem dX10_pitch_92 : decode cX10_pitch 92 = .ok (.iconst 1, 1) := by decide +kernel
theorem dX10_pitch_93 : decode cX10_pitch 93 = .ok (.iadd, 1) := by decide +kernel
theorem dX10_pitch_94 : decode cX10_pitch 94 = .ok (.iastore, 1) := by decide +kernel
theorem dX10_pitch_95 : decode cX10_pitch 95 = .ok (.aload_n 0, 1) := by decide +kernel
theorem dX10_pitch_96 : decode cX10_pitch 96 = .ok (.iconst 0, 1) := by decide +kernel
theorem dX10_pitch_97 : decode cX10_pitch 97 = .ok (.putfield 88, 3) := by decide +kernel
theorem dX10_pitch_100 : decode cX10_pitch 100 = .ok (.aload_n 0, 1) := by decide +kernel
theorem dX10_pitch_101 : decode cX10_pitch 101 = .ok (.getfield 20, 3) := by decide +kernel
theorem dX10_pitch_104 : decode cX10_pitch 104 = .ok (.iload_n 2, 1) := by decide +kernel
theorem dX10_pitch_105 : decode cX10_pitch 105 = .ok (.iaload, 1) := by decide +kernel
theorem dX10_pitch_106 : decode cX10_pitch 106 = .ok (.ireturn, 1) := by decide +kernel
theorem dX10_bind_0 : decode cX10_bind 0 = .ok (.aload_n 0, 1) := by decide +kernel
theorem dX10_bind_1 : decode cX10_bind 1 = .ok (.iload_n 1, 1) := by decide +kernel
theorem dX10_bind_2 : decode cX10_bind 2 = .ok (.invokevirtual 99, 3) := by decide +kernel
theorem dX10_bind_5 : decode cX10_bind 5 = .ok (.ifCond .ne 6, 3) := by decide +kernel
theorem dX10_bind_8 : decode cX10_bind 8 = .ok (.bipush (-3), 2) := by decide +kernel
theorem dX10_bind_10 : decode cX10_bind 10 = .ok (.ireturn, 1) := by decide +kernel
theorem dX10_bind_11 : decode cX10_bind 11 = .ok (.iload_n 2, 1) := by decide +kernel
theorem dX10_bind_12 : decode cX10_bind 12 = .ok (.iconst 0, 1) := by decide +kernel
theorem dX10_bind_13 : decode cX10_bind 13 = .ok (.aload_n 0, 1) := by decide +kernel
theorem dX10_bind_14 : decode cX10_bind 14 = .ok (.getfield 20, 3) := by decide +kernel
theorem dX10_bind_17 : decode cX10_bind 17 = .ok (.iload_n 1, 1) := by decide +kernel
theorem dX10_bind_18 : decode cX10_bind 18 = .ok (.iaload, 1) := by decide +kernel
theorem dX10_bind_19 : decode cX10_bind 19 = .ok (.iconst 1, 1) := by decide +kernel
theorem dX10_bind_20 : decode cX10_bind 20 = .ok (.isub, 1) := by decide +kernel
theorem dX10_bind_21 : decode cX10_bind 21 = .ok (.invokestatic 84, 3) := by decide +kernel
theorem dX10_bind_24 : decode cX10_bind 24 = .ok (.ifCond .eq 16, 3) := by decide +kernel
theorem dX10_bind_27 : decode cX10_bind 27 = .ok (.iload_n 3, 1) := by decide +kernel
theorem dX10_bind_28 : decode cX10_bind 28 = .ok (.iconst (-1), 1) := by decide +kernel
theorem dX10_bind_29 : decode cX10_bind 29 = .ok (.if_icmp .eq 14, 3) := by decide +kernel
theorem dX10_bind_32 : decode cX10_bind 32 = .ok (.aload_n 0, 1) := by decide +kernel
theorem dX10_bind_33 : decode cX10_bind 33 = .ok (.iload_n 3, 1) := by decide +kernel
theorem dX10_bind_34 : decode cX10_bind 34 = .ok (.invokevirtual 103, 3) := by decide +kernel
theorem dX10_bind_37 : decode cX10_bind 37 = .ok (.ifCond .ne 6, 3) := by decide +kernel
theorem dX10_bind_40 : decode cX10_bind 40 = .ok (.bipush (-2), 2) := by decide +kernel
theorem dX10_bind_42 : decode cX10_bind 42 = .ok (.ireturn, 1) := by decide +kernel
theorem dX10_bind_43 : decode cX10_bind 43 = .ok (.aload_n 0, 1) := by decide +kernel
theorem dX10_bind_44 : decode cX10_bind 44 = .ok (.getfield 26, 3) := by decide +kernel
theorem dX10_bind_47 : decode cX10_bind 47 = .ok (.iconst 4, 1) := by decide +kernel
theorem dX10_bind_48 : decode cX10_bind 48 = .ok (.iload_n 1, 1) := by decide +kernel
theorem dX10_bind_49 : decode cX10_bind 49 = .ok (.imul, 1) := by decide +kernel
theorem dX10_bind_50 : decode cX10_bind 50 = .ok (.iload_n 2, 1) := by decide +kernel
theorem dX10_bind_51 : decode cX10_bind 51 = .ok (.iadd, 1) := by decide +kernel
theorem dX10_bind_52 : decode cX10_bind 52 = .ok (.iaload, 1) := by decide +kernel
theorem dX10_bind_53 : decode cX10_bind 53 = .ok (.istore 4, 2) := by decide +kernel
theorem dX10_bind_55 : decode cX10_bind 55 = .ok (.aload_n 0, 1) := by decide +kernel
theorem dX10_bind_56 : decode cX10_bind 56 = .ok (.getfield 26, 3) := by decide +kernel
theorem dX10_bind_59 : decode cX10_bind 59 = .ok (.iconst 4, 1) := by decide +kernel
theorem dX10_bind_60 : decode cX10_bind 60 = .ok (.iload_n 1, 1) := by decide +kernel
theorem dX10_bind_61 : decode cX10_bind 61 = .ok (.imul, 1) := by decide +kernel
theorem dX10_bind_62 : decode cX10_bind 62 = .ok (.iload_n 2, 1) := by decide +kernel
theorem dX10_bind_63 : decode cX10_bind 63 = .ok (.iadd, 1) := by decide +kernel
theorem dX10_bind_64 : decode cX10_bind 64 = .ok (.iload_n 3, 1) := by decide +kernel
theorem dX10_bind_65 : decode cX10_bind 65 = .ok (.iastore, 1) := by decide +kernel
theorem dX10_bind_66 : decode cX10_bind 66 = .ok (.aload_n 0, 1) := by decide +kernel
theorem dX10_bind_67 : decode cX10_bind 67 = .ok (.iconst 0, 1) := by decide +kernel
theorem dX10_bind_68 : decode cX10_bind 68 = .ok (.putfield 88, 3) := by decide +kernel
theorem dX10_bind_71 : decode cX10_bind 71 = .ok (.iload 4, 2) := by decide +kernel
theorem dX10_bind_73 : decode cX10_bind 73 = .ok (.ireturn, 1) := by decide +kernel
theorem dX10_drop_0 : decode cX10_drop 0 = .ok (.aload_n 0, 1) := by decide +kernel
theorem dX10_drop_1 : decode cX10_drop 1 = .ok (.getfield 81, 3) := by decide +kernel
theorem dX10_drop_4 : decode cX10_drop 4 = .ok (.ifCond .ne 6, 3) := by decide +kernel
theorem dX10_drop_7 : decode cX10_drop 7 = .ok (.bipush (-4), 2) := by decide +kernel
theorem dX10_drop_9 : decode cX10_drop 9 = .ok (.ireturn, 1) := by decide +kernel
theorem dX10_drop_10 : decode cX10_drop 10 = .ok (.aload_n 0, 1) := by decide +kernel
theorem dX10_drop_11 : decode cX10_drop 11 = .ok (.dup, 1) := by decide +kernel
theorem dX10_drop_12 : decode cX10_drop 12 = .ok (.getfield 81, 3) := by decide +kernel
theorem dX10_drop_15 : decode cX10_drop 15 = .ok (.iconst 1, 1) := by decide +kernel
theorem dX10_drop_16 : decode cX10_drop 16 = .ok (.isub, 1) := by decide +kernel
theorem dX10_drop_17 : decode cX10_drop 17 = .ok (.putfield 81, 3) := by decide +kernel
theorem dX10_drop_20 : decode cX10_drop 20 = .ok (.aload_n 0, 1) := by decide +kernel
theorem dX10_drop_21 : decode cX10_drop 21 = .ok (.iconst 0, 1) := by decide +kernel
theorem dX10_drop_22 : decode cX10_drop 22 = .ok (.putfield 88, 3) := by decide +kernel
theorem dX10_drop_25 : decode cX10_drop 25 = .ok (.aload_n 0, 1) := by decide +kernel
theorem dX10_drop_26 : decode cX10_drop 26 = .ok (.getfield 81, 3) := by decide +kernel
theorem dX10_drop_29 : decode cX10_drop 29 = .ok (.ireturn, 1) := by decide +kernel
theorem dX10_told_0 : decode cX10_told 0 = .ok (.iload_n 1, 1) := by decide +kernel
theorem dX10_told_1 : decode cX10_told 1 = .ok (.ifCond .ne 10, 3) := by decide +kernel
theorem dX10_told_4 : decode cX10_told 4 = .ok (.aload_n 0, 1) := by decide +kernel
theorem dX10_told_5 : decode cX10_told 5 = .ok (.getfield 78, 3) := by decide +kernel
theorem dX10_told_8 : decode cX10_told 8 = .ok (.goto 53, 3) := by decide +kernel
theorem dX10_told_11 : decode cX10_told 11 = .ok (.iload_n 1, 1) := by decide +kernel
theorem dX10_told_12 : decode cX10_told 12 = .ok (.iconst 1, 1) := by decide +kernel
theorem dX10_told_13 : decode cX10_told 13 = .ok (.if_icmp .ne 10, 3) := by decide +kernel
theorem dX10_told_16 : decode cX10_told 16 = .ok (.aload_n 0, 1) := by decide +kernel
theorem dX10_told_17 : decode cX10_told 17 = .ok (.getfield 13, 3) := by decide +kernel
theorem dX10_told_20 : decode cX10_told 20 = .ok (.goto 41, 3) := by decide +kernel
theorem dX10_told_23 : decode cX10_told 23 = .ok (.iload_n 1, 1) := by decide +kernel
theorem dX10_told_24 : decode cX10_told 24 = .ok (.iconst 2, 1) := by decide +kernel
theorem dX10_told_25 : decode cX10_told 25 = .ok (.if_icmp .ne 10, 3) := by decide +kernel
theorem dX10_told_28 : decode cX10_told 28 = .ok (.aload_n 0, 1) := by decide +kernel
theorem dX10_told_29 : decode cX10_told 29 = .ok (.getfield 92, 3) := by decide +kernel
theorem dX10_told_32 : decode cX10_told 32 = .ok (.goto 29, 3) := by decide +kernel
theorem dX10_told_35 : decode cX10_told 35 = .ok (.iload_n 1, 1) := by decide +kernel
theorem dX10_told_36 : decode cX10_told 36 = .ok (.iconst 3, 1) := by decide +kernel
theorem dX10_told_37 : decode cX10_told 37 = .ok (.if_icmp .ne 10, 3) := by decide +kernel
theorem dX10_told_40 : decode cX10_told 40 = .ok (.aload_n 0, 1) := by decide +kernel
theorem dX10_told_41 : decode cX10_told 41 = .ok (.getfield 81, 3) := by decide +kernel
theorem dX10_told_44 : decode cX10_told 44 = .ok (.goto 17, 3) := by decide +kernel
theorem dX10_told_47 : decode cX10_told 47 = .ok (.iload_n 1, 1) := by decide +kernel
theorem dX10_told_48 : decode cX10_told 48 = .ok (.iconst 4, 1) := by decide +kernel
theorem dX10_told_49 : decode cX10_told 49 = .ok (.if_icmp .ne 10, 3) := by decide +kernel
theorem dX10_told_52 : decode cX10_told 52 = .ok (.aload_n 0, 1) := by decide +kernel
theorem dX10_told_53 : decode cX10_told 53 = .ok (.getfield 106, 3) := by decide +kernel
theorem dX10_told_56 : decode cX10_told 56 = .ok (.goto 5, 3) := by decide +kernel
theorem dX10_told_59 : decode cX10_told 59 = .ok (.bipush (-2), 2) := by decide +kernel
theorem dX10_told_61 : decode cX10_told 61 = .ok (.ireturn, 1) := by decide +kernel
theorem dX10_at_0 : decode cX10_at 0 = .ok (.aload_n 0, 1) := by decide +kernel
theorem dX10_at_1 : decode cX10_at 1 = .ok (.iload_n 1, 1) := by decide +kernel
theorem dX10_at_2 : decode cX10_at 2 = .ok (.invokevirtual 99, 3) := by decide +kernel
theorem dX10_at_5 : decode cX10_at 5 = .ok (.ifCond .ne 6, 3) := by decide +kernel
theorem dX10_at_8 : decode cX10_at 8 = .ok (.bipush (-3), 2) := by decide +kernel
theorem dX10_at_10 : decode cX10_at 10 = .ok (.ireturn, 1) := by decide +kernel
theorem dX10_at_11 : decode cX10_at 11 = .ok (.iload_n 2, 1) := by decide +kernel
theorem dX10_at_12 : decode cX10_at 12 = .ok (.iconst 0, 1) := by decide +kernel
theorem dX10_at_13 : decode cX10_at 13 = .ok (.aload_n 0, 1) := by decide +kernel
theorem dX10_at_14 : decode cX10_at 14 = .ok (.getfield 20, 3) := by decide +kernel
theorem dX10_at_17 : decode cX10_at 17 = .ok (.iload_n 1, 1) := by decide +kernel
theorem dX10_at_18 : decode cX10_at 18 = .ok (.iaload, 1) := by decide +kernel
theorem dX10_at_19 : decode cX10_at 19 = .ok (.iconst 1, 1) := by decide +kernel
theorem dX10_at_20 : decode cX10_at 20 = .ok (.isub, 1) := by decide +kernel
theorem dX10_at_21 : decode cX10_at 21 = .ok (.invokestatic 84, 3) := by decide +kernel
theorem dX10_at_24 : decode cX10_at 24 = .ok (.ifCond .eq 16, 3) := by decide +kernel
theorem dX10_at_27 : decode cX10_at 27 = .ok (.aload_n 0, 1) := by decide +kernel
theorem dX10_at_28 : decode cX10_at 28 = .ok (.getfield 23, 3) := by decide +kernel
theorem dX10_at_31 : decode cX10_at 31 = .ok (.iconst 4, 1) := by decide +kernel
theorem dX10_at_32 : decode cX10_at 32 = .ok (.iload_n 1, 1) := by decide +kernel
theorem dX10_at_33 : decode cX10_at 33 = .ok (.imul, 1) := by decide +kernel
theorem dX10_at_34 : decode cX10_at 34 = .ok (.iload_n 2, 1) := by decide +kernel
theorem dX10_at_35 : decode cX10_at 35 = .ok (.iadd, 1) := by decide +kernel
theorem dX10_at_36 : decode cX10_at 36 = .ok (.iaload, 1) := by decide +kernel
theorem dX10_at_37 : decode cX10_at 37 = .ok (.goto 4, 3) := by decide +kernel
theorem dX10_at_40 : decode cX10_at 40 = .ok (.iconst (-1), 1) := by decide +kernel
theorem dX10_at_41 : decode cX10_at 41 = .ok (.ireturn, 1) := by decide +kernel
theorem dX10_bound_0 : decode cX10_bound 0 = .ok (.aload_n 0, 1) := by decide +kernel
theorem dX10_bound_1 : decode cX10_bound 1 = .ok (.iload_n 1, 1) := by decide +kernel
theorem dX10_bound_2 : decode cX10_bound 2 = .ok (.invokevirtual 99, 3) := by decide +kernel
theorem dX10_bound_5 : decode cX10_bound 5 = .ok (.ifCond .ne 6, 3) := by decide +kernel
theorem dX10_bound_8 : decode cX10_bound 8 = .ok (.bipush (-3), 2) := by decide +kernel
theorem dX10_bound_10 : decode cX10_bound 10 = .ok (.ireturn, 1) := by decide +kernel
theorem dX10_bound_11 : decode cX10_bound 11 = .ok (.iload_n 2, 1) := by decide +kernel
theorem dX10_bound_12 : decode cX10_bound 12 = .ok (.iconst 0, 1) := by decide +kernel
theorem dX10_bound_13 : decode cX10_bound 13 = .ok (.aload_n 0, 1) := by decide +kernel
theorem dX10_bound_14 : decode cX10_bound 14 = .ok (.getfield 20, 3) := by decide +kernel
theorem dX10_bound_17 : decode cX10_bound 17 = .ok (.iload_n 1, 1) := by decide +kernel
theorem dX10_bound_18 : decode cX10_bound 18 = .ok (.iaload, 1) := by decide +kernel
theorem dX10_bound_19 : decode cX10_bound 19 = .ok (.iconst 1, 1) := by decide +kernel
theorem dX10_bound_20 : decode cX10_bound 20 = .ok (.isub, 1) := by decide +kernel
theorem dX10_bound_21 : decode cX10_bound 21 = .ok (.invokestatic 84, 3) := by decide +kernel
theorem dX10_bound_24 : decode cX10_bound 24 = .ok (.ifCond .eq 16, 3) := by decide +kernel
theorem dX10_bound_27 : decode cX10_bound 27 = .ok (.aload_n 0, 1) := by decide +kernel
theorem dX10_bound_28 : decode cX10_bound 28 = .ok (.getfield 26, 3) := by decide +kernel
theorem dX10_bound_31 : decode cX10_bound 31 = .ok (.iconst 4, 1) := by decide +kernel
theorem dX10_bound_32 : decode cX10_bound 32 = .ok (.iload_n 1, 1) := by decide +kernel
theorem dX10_bound_33 : decode cX10_bound 33 = .ok (.imul, 1) := by decide +kernel
theorem dX10_bound_34 : decode cX10_bound 34 = .ok (.iload_n 2, 1) := by decide +kernel
theorem dX10_bound_35 : decode cX10_bound 35 = .ok (.iadd, 1) := by decide +kernel
theorem dX10_bound_36 : decode cX10_bound 36 = .ok (.iaload, 1) := by decide +kernel
theorem dX10_bound_37 : decode cX10_bound 37 = .ok (.goto 4, 3) := by decide +kernel
theorem dX10_bound_40 : decode cX10_bound 40 = .ok (.iconst (-1), 1) := by decide +kernel
theorem dX10_bound_41 : decode cX10_bound 41 = .ok (.ireturn, 1) := by decide +kernel
theorem dX10_fretOf_0 : decode cX10_fretOf 0 = .ok (.iload_n 2, 1) := by decide +kernel
theorem dX10_fretOf_1 : decode cX10_fretOf 1 = .ok (.i2l, 1) := by decide +kernel
theorem dX10_fretOf_2 : decode cX10_fretOf 2 = .ok (.aload_n 0, 1) := by decide +kernel
theorem dX10_fretOf_3 : decode cX10_fretOf 3 = .ok (.getfield 7, 3) := by decide +kernel
theorem dX10_fretOf_6 : decode cX10_fretOf 6 = .ok (.iload_n 1, 1) := by decide +kernel
theorem dX10_fretOf_7 : decode cX10_fretOf 7 = .ok (.iaload, 1) := by decide +kernel
theorem dX10_fretOf_8 : decode cX10_fretOf 8 = .ok (.i2l, 1) := by decide +kernel
theorem dX10_fretOf_9 : decode cX10_fretOf 9 = .ok (.lsub, 1) := by decide +kernel
theorem dX10_fretOf_10 : decode cX10_fretOf 10 = .ok (.lstore_n 3, 1) := by decide +kernel
theorem dX10_fretOf_11 : decode cX10_fretOf 11 = .ok (.lload_n 3, 1) := by decide +kernel
theorem dX10_fretOf_12 : decode cX10_fretOf 12 = .ok (.aload_n 0, 1) := by decide +kernel
theorem dX10_fretOf_13 : decode cX10_fretOf 13 = .ok (.getfield 92, 3) := by decide +kernel
theorem dX10_fretOf_16 : decode cX10_fretOf 16 = .ok (.i2l, 1) := by decide +kernel
theorem dX10_fretOf_17 : decode cX10_fretOf 17 = .ok (.lcmp, 1) := by decide +kernel
theorem dX10_fretOf_18 : decode cX10_fretOf 18 = .ok (.ifCond .lt 18, 3) := by decide +kernel
theorem dX10_fretOf_21 : decode cX10_fretOf 21 = .ok (.lload_n 3, 1) := by decide +kernel
theorem dX10_fretOf_22 : decode cX10_fretOf 22 = .ok (.aload_n 0, 1) := by decide +kernel
theorem dX10_fretOf_23 : decode cX10_fretOf 23 = .ok (.getfield 13, 3) := by decide +kernel
theorem dX10_fretOf_26 : decode cX10_fretOf 26 = .ok (.i2l, 1) := by decide +kernel
theorem dX10_fretOf_27 : decode cX10_fretOf 27 = .ok (.lcmp, 1) := by decide +kernel
theorem dX10_fretOf_28 : decode cX10_fretOf 28 = .ok (.ifCond .gt 8, 3) := by decide +kernel
theorem dX10_fretOf_31 : decode cX10_fretOf 31 = .ok (.lload_n 3, 1) := by decide +kernel
theorem dX10_fretOf_32 : decode cX10_fretOf 32 = .ok (.l2i, 1) := by decide +kernel
theorem dX10_fretOf_33 : decode cX10_fretOf 33 = .ok (.goto 4, 3) := by decide +kernel
theorem dX10_fretOf_36 : decode cX10_fretOf 36 = .ok (.iconst (-1), 1) := by decide +kernel
theorem dX10_fretOf_37 : decode cX10_fretOf 37 = .ok (.ireturn, 1) := by decide +kernel
theorem dX10_fret_0 : decode cX10_fret 0 = .ok (.aload_n 0, 1) := by decide +kernel
theorem dX10_fret_1 : decode cX10_fret 1 = .ok (.iload_n 1, 1) := by decide +kernel
theorem dX10_fret_2 : decode cX10_fret 2 = .ok (.invokevirtual 103, 3) := by decide +kernel
theorem dX10_fret_5 : decode cX10_fret 5 = .ok (.ifCond .eq 12, 3) := by decide +kernel
theorem dX10_fret_8 : decode cX10_fret 8 = .ok (.aload_n 0, 1) := by decide +kernel
theorem dX10_fret_9 : decode cX10_fret 9 = .ok (.iload_n 1, 1) := by decide +kernel
theorem dX10_fret_10 : decode cX10_fret 10 = .ok (.iload_n 2, 1) := by decide +kernel
theorem dX10_fret_11 : decode cX10_fret 11 = .ok (.invokevirtual 109, 3) := by decide +kernel
theorem dX10_fret_14 : decode cX10_fret 14 = .ok (.goto 5, 3) := by decide +kernel
theorem dX10_fret_17 : decode cX10_fret 17 = .ok (.bipush (-2), 2) := by decide +kernel
theorem dX10_fret_19 : decode cX10_fret 19 = .ok (.ireturn, 1) := by decide +kernel
theorem dX10_findWays_0 : decode cX10_findWays 0 = .ok (.aload_n 0, 1) := by decide +kernel
theorem dX10_findWays_1 : decode cX10_findWays 1 = .ok (.getfield 20, 3) := by decide +kernel
theorem dX10_findWays_4 : decode cX10_findWays 4 = .ok (.iload_n 1, 1) := by decide +kernel
theorem dX10_findWays_5 : decode cX10_findWays 5 = .ok (.iaload, 1) := by decide +kernel
theorem dX10_findWays_6 : decode cX10_findWays 6 = .ok (.istore_n 2, 1) := by decide +kernel
theorem dX10_findWays_7 : decode cX10_findWays 7 = .ok (.aload_n 0, 1) := by decide +kernel
theorem dX10_findWays_8 : decode cX10_findWays 8 = .ok (.getfield 78, 3) := by decide +kernel
theorem dX10_findWays_11 : decode cX10_findWays 11 = .ok (.ifCond .ne 7, 3) := by decide +kernel
theorem dX10_findWays_14 : decode cX10_findWays 14 = .ok (.iconst 0, 1) := by decide +kernel
theorem dX10_findWays_15 : decode cX10_findWays 15 = .ok (.goto 4, 3) := by decide +kernel
theorem dX10_findWays_18 : decode cX10_findWays 18 = .ok (.iconst 1, 1) := by decide +kernel
theorem dX10_findWays_19 : decode cX10_findWays 19 = .ok (.istore_n 3, 1) := by decide +kernel
theorem dX10_findWays_20 : decode cX10_findWays 20 = .ok (.iconst 0, 1) := by decide +kernel
theorem dX10_findWays_21 : decode cX10_findWays 21 = .ok (.istore 4, 2) := by decide +kernel
theorem dX10_findWays_23 : decode cX10_findWays 23 = .ok (.iload 4, 2) := by decide +kernel
theorem dX10_findWays_25 : decode cX10_findWays 25 = .ok (.iload_n 2, 1) := by decide +kernel
theorem dX10_findWays_26 : decode cX10_findWays 26 = .ok (.if_icmp .ge 16, 3) := by decide +kernel
theorem dX10_findWays_29 : decode cX10_findWays 29 = .ok (.iload_n 3, 1) := by decide +kernel
theorem dX10_findWays_30 : decode cX10_findWays 30 = .ok (.aload_n 0, 1) := by decide +kernel
theorem dX10_findWays_31 : decode cX10_findWays 31 = .ok (.getfield 78, 3) := by decide +kernel
theorem dX10_findWays_34 : decode cX10_findWays 34 = .ok (.imul, 1) := by decide +kernel
theorem dX10_findWays_35 : decode cX10_findWays 35 = .ok (.istore_n 3, 1) := by decide +kernel
theorem dX10_findWays_36 : decode cX10_findWays 36 = .ok (.iinc 4 1, 3) := by decide +kernel
theorem dX10_findWays_39 : decode cX10_findWays 39 = .ok (.goto (-16), 3) := by decide +kernel
theorem dX10_findWays_42 : decode cX10_findWays 42 = .ok (.aload_n 0, 1) := by decide +kernel
theorem dX10_findWays_43 : decode cX10_findWays 43 = .ok (.iconst 0, 1) := by decide +kernel
theorem dX10_findWays_44 : decode cX10_findWays 44 = .ok (.putfield 113, 3) := by decide +kernel
theorem dX10_findWays_47 : decode cX10_findWays 47 = .ok (.iconst 0, 1) := by decide +kernel
theorem dX10_findWays_48 : decode cX10_findWays 48 = .ok (.istore 4, 2) := by decide +kernel
theorem dX10_findWays_50 : decode cX10_findWays 50 = .ok (.iload 4, 2) := by decide +kernel
theorem dX10_findWays_52 : decode cX10_findWays 52 = .ok (.iload_n 3, 1) := by decide +kernel
theorem dX10_findWays_53 : decode cX10_findWays 53 = .ok (.if_icmp .ge 208, 3) := by decide +kernel
theorem dX10_findWays_56 : decode cX10_findWays 56 = .ok (.iload 4, 2) := by decide +kernel
theorem dX10_findWays_58 : decode cX10_findWays 58 = .ok (.istore 5, 2) := by decide +kernel
theorem dX10_findWays_60 : decode cX10_findWays 60 = .ok (.iconst 0, 1) := by decide +kernel
theorem dX10_findWays_61 : decode cX10_findWays 61 = .ok (.istore 6, 2) := by decide +kernel
theorem dX10_findWays_63 : decode cX10_findWays 63 = .ok (.iconst 1, 1) := by decide +kernel
theorem dX10_findWays_64 : decode cX10_findWays 64 = .ok (.istore 7, 2) := by decide +kernel
theorem dX10_findWays_66 : decode cX10_findWays 66 = .ok (.iload_n 2, 1) := by decide +kernel
theorem dX10_findWays_67 : decode cX10_findWays 67 = .ok (.iconst 1, 1) := by decide +kernel
theorem dX10_findWays_68 : decode cX10_findWays 68 = .ok (.isub, 1) := by decide +kernel
theorem dX10_findWays_69 : decode cX10_findWays 69 = .ok (.istore 8, 2) := by decide +kernel
theorem dX10_findWays_71 : decode cX10_findWays 71 = .ok (.iload 8, 2) := by decide +kernel
theorem dX10_findWays_73 : decode cX10_findWays 73 = .ok (.ifCond .lt 163, 3) := by decide +kernel
theorem dX10_findWays_76 : decode cX10_findWays 76 = .ok (.iload 5, 2) := by decide +kernel
theorem dX10_findWays_78 : decode cX10_findWays 78 = .ok (.aload_n 0, 1) := by decide +kernel
theorem dX10_findWays_79 : decode cX10_findWays 79 = .ok (.getfield 78, 3) := by decide +kernel
theorem dX10_findWays_82 : decode cX10_findWays 82 = .ok (.irem, 1) := by decide +kernel
theorem dX10_findWays_83 : decode cX10_findWays 83 = .ok (.istore 9, 2) := by decide +kernel
theorem dX10_findWays_85 : decode cX10_findWays 85 = .ok (.iload 5, 2) := by decide +kernel
theorem dX10_findWays_87 : decode cX10_findWays 87 = .ok (.aload_n 0, 1) := by decide +kernel
theorem dX10_findWays_88 : decode cX10_findWays 88 = .ok (.getfield 78, 3) := by decide +kernel
theorem dX10_findWays_91 : decode cX10_findWays 91 = .ok (.idiv, 1) := by decide +kernel
theorem dX10_findWays_92 : decode cX10_findWays 92 = .ok (.istore 5, 2) := by decide +kernel
theorem dX10_findWays_94 : decode cX10_findWays 94 = .ok (.aload_n 0, 1) := by decide +kernel
theorem dX10_findWays_95 : decode cX10_findWays 95 = .ok (.iload 9, 2) := by decide +kernel
theorem dX10_findWays_97 : decode cX10_findWays 97 = .ok (.aload_n 0, 1) := by decide +kernel
theorem dX10_findWays_98 : decode cX10_findWays 98 = .ok (.getfield 23, 3) := by decide +kernel
theorem dX10_findWays_101 : decode cX10_findWays 101 = .ok (.iconst 4, 1) := by decide +kernel
theorem dX10_findWays_102 : decode cX10_findWays 102 = .ok (.iload_n 1, 1) := by decide +kernel
theorem dX10_findWays_103 : decode cX10_findWays 103 = .ok (.imul, 1) := by decide +kernel
theorem dX10_findWays_104 : decode cX10_findWays 104 = .ok (.iload 8, 2) := by decide +kernel
theorem dX10_findWays_106 : decode cX10_findWays 106 = .ok (.iadd, 1) := by decide +kernel
theorem dX10_findWays_107 : decode cX10_findWays 107 = .ok (.iaload, 1) := by decide +kernel
theorem dX10_findWays_108 : decode cX10_findWays 108 = .ok (.invokevirtual 109, 3) := by decide +kernel
theorem dX10_findWays_111 : decode cX10_findWays 111 = .ok (.istore 10, 2) := by decide +kernel
theorem dX10_findWays_113 : decode cX10_findWays 113 = .ok (.aload_n 0, 1) := by decide +kernel
theorem dX10_findWays_114 : decode cX10_findWays 114 = .ok (.getfield 26, 3) := by decide +kernel
theorem dX10_findWays_117 : decode cX10_findWays 117 = .ok (.iconst 4, 1) := by decide +kernel
theorem dX10_findWays_118 : decode cX10_findWays 118 = .ok (.iload_n 1, 1) := by decide +kernel
theorem dX10_findWays_119 : decode cX10_findWays 119 = .ok (.imul, 1) := by decide +kernel
theorem dX10_findWays_120 : decode cX10_findWays 120 = .ok (.iload 8, 2) := by decide +kernel
theorem dX10_findWays_122 : decode cX10_findWays 122 = .ok (.iadd, 1) := by decide +kernel
theorem dX10_findWays_123 : decode cX10_findWays 123 = .ok (.iaload, 1) := by decide +kernel
theorem dX10_findWays_124 : decode cX10_findWays 124 = .ok (.iconst (-1), 1) := by decide +kernel
theorem dX10_findWays_125 : decode cX10_findWays 125 = .ok (.if_icmp .eq 19, 3) := by decide +kernel
theorem dX10_findWays_128 : decode cX10_findWays 128 = .ok (.aload_n 0, 1) := by decide +kernel
theorem dX10_findWays_129 : decode cX10_findWays 129 = .ok (.getfield 26, 3) := by decide +kernel
theorem dX10_findWays_132 : decode cX10_findWays 132 = .ok (.iconst 4, 1) := by decide +kernel
theorem dX10_findWays_133 : decode cX10_findWays 133 = .ok (.iload_n 1, 1) := by decide +kernel
theorem dX10_findWays_134 : decode cX10_findWays 134 = .ok (.imul, 1) := by decide +kernel
theorem dX10_findWays_135 : decode cX10_findWays 135 = .ok (.iload 8, 2) := by decide +kernel
theorem dX10_findWays_137 : decode cX10_findWays 137 = .ok (.iadd, 1) := by decide +kernel
theorem dX10_findWays_138 : decode cX10_findWays 138 = .ok (.iaload, 1) := by decide +kernel
theorem dX10_findWays_139 : decode cX10_findWays 139 = .ok (.iload 9, 2) := by decide +kernel
theorem dX10_findWays_141 : decode cX10_findWays 141 = .ok (.if_icmp .ne 7, 3) := by decide +kernel
theorem dX10_findWays_144 : decode cX10_findWays 144 = .ok (.iconst 1, 1) := by decide +kernel
theorem dX10_findWays_145 : decode cX10_findWays 145 = .ok (.goto 4, 3) := by decide +kernel
theorem dX10_findWays_148 : decode cX10_findWays 148 = .ok (.iconst 0, 1) := by decide +kernel
theorem dX10_findWays_149 : decode cX10_findWays 149 = .ok (.istore 11, 2) := by decide +kernel
theorem dX10_findWays_151 : decode cX10_findWays 151 = .ok (.iload 7, 2) := by decide +kernel
theorem dX10_findWays_153 : decode cX10_findWays 153 = .ok (.ifCond .eq 28, 3) := by decide +kernel
theorem dX10_findWays_156 : decode cX10_findWays 156 = .ok (.iload 11, 2) := by decide +kernel
theorem dX10_findWays_158 : decode cX10_findWays 158 = .ok (.ifCond .eq 23, 3) := by decide +kernel
theorem dX10_findWays_161 : decode cX10_findWays 161 = .ok (.iload 10, 2) := by decide +kernel
theorem dX10_findWays_163 : decode cX10_findWays 163 = .ok (.iconst (-1), 1) := by decide +kernel
theorem dX10_findWays_164 : decode cX10_findWays 164 = .ok (.if_icmp .eq 17, 3) := by decide +kernel
theorem dX10_findWays_167 : decode cX10_findWays 167 = .ok (.iload 6, 2) := by decide +kernel
theorem dX10_findWays_169 : decode cX10_findWays 169 = .ok (.iload 9, 2) := by decide +kernel
theorem dX10_findWays_171 : decode cX10_findWays 171 = .ok (.ishr, 1) := by decide +kernel
theorem dX10_findWays_172 : decode cX10_findWays 172 = .ok (.iconst 1, 1) := by decide +kernel
theorem dX10_findWays_173 : decode cX10_findWays 173 = .ok (.iand, 1) := by decide +kernel
theorem dX10_findWays_174 : decode cX10_findWays 174 = .ok (.ifCond .ne 7, 3) := by decide +kernel
theorem dX10_findWays_177 : decode cX10_findWays 177 = .ok (.iconst 1, 1) := by decide +kernel
theorem dX10_findWays_178 : decode cX10_findWays 178 = .ok (.goto 4, 3) := by decide +kernel
theorem dX10_findWays_181 : decode cX10_findWays 181 = .ok (.iconst 0, 1) := by decide +kernel
theorem dX10_findWays_182 : decode cX10_findWays 182 = .ok (.istore 7, 2) := by decide +kernel
theorem dX10_findWays_184 : decode cX10_findWays 184 = .ok (.iload 6, 2) := by decide +kernel
theorem dX10_findWays_186 : decode cX10_findWays 186 = .ok (.iconst 1, 1) := by decide +kernel
theorem dX10_findWays_187 : decode cX10_findWays 187 = .ok (.iload 9, 2) := by decide +kernel
theorem dX10_findWays_189 : decode cX10_findWays 189 = .ok (.ishl, 1) := by decide +kernel
theorem dX10_findWays_190 : decode cX10_findWays 190 = .ok (.ior, 1) := by decide +kernel
theorem dX10_findWays_191 : decode cX10_findWays 191 = .ok (.istore 6, 2) := by decide +kernel
theorem dX10_findWays_193 : decode cX10_findWays 193 = .ok (.iload 7, 2) := by decide +kernel
theorem dX10_findWays_195 : decode cX10_findWays 195 = .ok (.ifCond .eq 35, 3) := by decide +kernel
theorem dX10_findWays_198 : decode cX10_findWays 198 = .ok (.aload_n 0, 1) := by decide +kernel
theorem dX10_findWays_199 : decode cX10_findWays 199 = .ok (.getfield 47, 3) := by decide +kernel
theorem dX10_findWays_202 : decode cX10_findWays 202 = .ok (.iconst 4, 1) := by decide +kernel
theorem dX10_findWays_203 : decode cX10_findWays 203 = .ok (.aload_n 0, 1) := by decide +kernel
theorem dX10_findWays_204 : decode cX10_findWays 204 = .ok (.getfield 113, 3) := by decide +kernel
theorem dX10_findWays_207 : decode cX10_findWays 207 = .ok (.imul, 1) := by decide +kernel
theorem dX10_findWays_208 : decode cX10_findWays 208 = .ok (.iload 8, 2) := by decide +kernel
theorem dX10_findWays_210 : decode cX10_findWays 210 = .ok (.iadd, 1) := by decide +kernel
theorem dX10_findWays_211 : decode cX10_findWays 211 = .ok (.iload 9, 2) := by decide +kernel
theorem dX10_findWays_213 : decode cX10_findWays 213 = .ok (.iastore, 1) := by decide +kernel
theorem dX10_findWays_214 : decode cX10_findWays 214 = .ok (.aload_n 0, 1) := by decide +kernel
theorem dX10_findWays_215 : decode cX10_findWays 215 = .ok (.getfield 50, 3) := by decide +kernel
theorem dX10_findWays_218 : decode cX10_findWays 218 = .ok (.iconst 4, 1) := by decide +kernel
theorem dX10_findWays_219 : decode cX10_findWays 219 = .ok (.aload_n 0, 1) := by decide +kernel
theorem dX10_findWays_220 : decode cX10_findWays 220 = .ok (.getfield 113, 3) := by decide +kernel
theorem dX10_findWays_223 : decode cX10_findWays 223 = .ok (.imul, 1) := by decide +kernel
theorem dX10_findWays_224 : decode cX10_findWays 224 = .ok (.iload 8, 2) := by decide +kernel
theorem dX10_findWays_226 : decode cX10_findWays 226 = .ok (.iadd, 1) := by decide +kernel
theorem dX10_findWays_227 : decode cX10_findWays 227 = .ok (.iload 10, 2) := by decide +kernel
theorem dX10_findWays_229 : decode cX10_findWays 229 = .ok (.iastore, 1) := by decide +kernel
theorem dX10_findWays_230 : decode cX10_findWays 230 = .ok (.iinc 8 (-1), 3) := by decide +kernel
theorem dX10_findWays_233 : decode cX10_findWays 233 = .ok (.goto (-162), 3) := by decide +kernel
theorem dX10_findWays_236 : decode cX10_findWays 236 = .ok (.aload_n 0, 1) := by decide +kernel
theorem dX10_findWays_237 : decode cX10_findWays 237 = .ok (.dup, 1) := by decide +kernel
theorem dX10_findWays_238 : decode cX10_findWays 238 = .ok (.getfield 113, 3) := by decide +kernel
theorem dX10_findWays_241 : decode cX10_findWays 241 = .ok (.iload 7, 2) := by decide +kernel
theorem dX10_findWays_243 : decode cX10_findWays 243 = .ok (.ifCond .eq 7, 3) := by decide +kernel
theorem dX10_findWays_246 : decode cX10_findWays 246 = .ok (.iconst 1, 1) := by decide +kernel
theorem dX10_findWays_247 : decode cX10_findWays 247 = .ok (.goto 4, 3) := by decide +kernel
theorem dX10_findWays_250 : decode cX10_findWays 250 = .ok (.iconst 0, 1) := by decide +kernel
theorem dX10_findWays_251 : decode cX10_findWays 251 = .ok (.iadd, 1) := by decide +kernel
theorem dX10_findWays_252 : decode cX10_findWays 252 = .ok (.putfield 113, 3) := by decide +kernel
theorem dX10_findWays_255 : decode cX10_findWays 255 = .ok (.iinc 4 1, 3) := by decide +kernel
theorem dX10_findWays_258 : decode cX10_findWays 258 = .ok (.goto (-208), 3) := by decide +kernel
theorem dX10_findWays_261 : decode cX10_findWays 261 = .ok (.return_, 1) := by decide +kernel
theorem dX10_isGrip_0 : decode cX10_isGrip 0 = .ok (.iconst 1, 1) := by decide +kernel
theorem dX10_isGrip_1 : decode cX10_isGrip 1 = .ok (.istore 4, 2) := by decide +kernel
theorem dX10_isGrip_3 : decode cX10_isGrip 3 = .ok (.iconst 0, 1) := by decide +kernel
theorem dX10_isGrip_4 : decode cX10_isGrip 4 = .ok (.istore 5, 2) := by decide +kernel
theorem dX10_isGrip_6 : decode cX10_isGrip 6 = .ok (.iload 5, 2) := by decide +kernel
theorem dX10_isGrip_8 : decode cX10_isGrip 8 = .ok (.aload_n 0, 1) := by decide +kernel
theorem dX10_isGrip_9 : decode cX10_isGrip 9 = .ok (.getfield 20, 3) := by decide +kernel
theorem dX10_isGrip_12 : decode cX10_isGrip 12 = .ok (.iload_n 1, 1) := by decide +kernel
theorem dX10_isGrip_13 : decode cX10_isGrip 13 = .ok (.iaload, 1) := by decide +kernel
theorem dX10_isGrip_14 : decode cX10_isGrip 14 = .ok (.if_icmp .ge 55, 3) := by decide +kernel
theorem dX10_isGrip_17 : decode cX10_isGrip 17 = .ok (.aload_n 0, 1) := by decide +kernel
theorem dX10_isGrip_18 : decode cX10_isGrip 18 = .ok (.getfield 50, 3) := by decide +kernel
theorem dX10_isGrip_21 : decode cX10_isGrip 21 = .ok (.iconst 4, 1) := by decide +kernel
theorem dX10_isGrip_22 : decode cX10_isGrip 22 = .ok (.iload_n 2, 1) := by decide +kernel
theorem dX10_isGrip_23 : decode cX10_isGrip 23 = .ok (.imul, 1) := by decide +kernel
theorem dX10_isGrip_24 : decode cX10_isGrip 24 = .ok (.iload 5, 2) := by decide +kernel
theorem dX10_isGrip_26 : decode cX10_isGrip 26 = .ok (.iadd, 1) := by decide +kernel
theorem dX10_isGrip_27 : decode cX10_isGrip 27 = .ok (.iaload, 1) := by decide +kernel
theorem dX10_isGrip_28 : decode cX10_isGrip 28 = .ok (.istore 6, 2) := by decide +kernel
theorem dX10_isGrip_30 : decode cX10_isGrip 30 = .ok (.iload 4, 2) := by decide +kernel
theorem dX10_isGrip_32 : decode cX10_isGrip 32 = .ok (.ifCond .eq 28, 3) := by decide +kernel
theorem dX10_isGrip_35 : decode cX10_isGrip 35 = .ok (.iload 6, 2) := by decide +kernel
theorem dX10_isGrip_37 : decode cX10_isGrip 37 = .ok (.aload_n 0, 1) := by decide +kernel
theorem dX10_isGrip_38 : decode cX10_isGrip 38 = .ok (.getfield 92, 3) := by decide +kernel
theorem dX10_isGrip_41 : decode cX10_isGrip 41 = .ok (.if_icmp .eq 15, 3) := by decide +kernel
theorem dX10_isGrip_44 : decode cX10_isGrip 44 = .ok (.iload 6, 2) := by decide +kernel
theorem dX10_isGrip_46 : decode cX10_isGrip 46 = .ok (.iload_n 3, 1) := by decide +kernel
theorem dX10_isGrip_47 : decode cX10_isGrip 47 = .ok (.iload_n 3, 1) := by decide +kernel
theorem dX10_isGrip_48 : decode cX10_isGrip 48 = .ok (.iconst 3, 1) := by decide +kernel
theorem dX10_isGrip_49 : decode cX10_isGrip 49 = .ok (.iadd, 1) := by decide +kernel
theorem dX10_isGrip_50 : decode cX10_isGrip 50 = .ok (.invokestatic 84, 3) := by decide +kernel
theorem dX10_isGrip_53 : decode cX10_isGrip 53 = .ok (.ifCond .eq 7, 3) := by decide +kernel
theorem dX10_isGrip_56 : decode cX10_isGrip 56 = .ok (.iconst 1, 1) := by decide +kernel
theorem dX10_isGrip_57 : decode cX10_isGrip 57 = .ok (.goto 4, 3) := by decide +kernel
theorem dX10_isGrip_60 : decode cX10_isGrip 60 = .ok (.iconst 0, 1) := by decide +kernel
theorem dX10_isGrip_61 : decode cX10_isGrip 61 = .ok (.istore 4, 2) := by decide +kernel
theorem dX10_isGrip_63 : decode cX10_isGrip 63 = .ok (.iinc 5 1, 3) := by decide +kernel
theorem dX10_isGrip_66 : decode cX10_isGrip 66 = .ok (.goto (-60), 3) := by decide +kernel
theorem dX10_isGrip_69 : decode cX10_isGrip 69 = .ok (.iload 4, 2) := by decide +kernel
theorem dX10_isGrip_71 : decode cX10_isGrip 71 = .ok (.ireturn, 1) := by decide +kernel
theorem dX10_costOf_0 : decode cX10_costOf 0 = .ok (.iconst 0, 1) := by decide +kernel
theorem dX10_costOf_1 : decode cX10_costOf 1 = .ok (.istore 4, 2) := by decide +kernel
theorem dX10_costOf_3 : decode cX10_costOf 3 = .ok (.iconst 0, 1) := by decide +kernel
theorem dX10_costOf_4 : decode cX10_costOf 4 = .ok (.istore 5, 2) := by decide +kernel
theorem dX10_costOf_6 : decode cX10_costOf 6 = .ok (.iload 5, 2) := by decide +kernel
theorem dX10_costOf_8 : decode cX10_costOf 8 = .ok (.aload_n 0, 1) := by decide +kernel
theorem dX10_costOf_9 : decode cX10_costOf 9 = .ok (.getfield 20, 3) := by decide +kernel
theorem dX10_costOf_12 : decode cX10_costOf 12 = .ok (.iload_n 1, 1) := by decide +kernel
theorem dX10_costOf_13 : decode cX10_costOf 13 = .ok (.iaload, 1) := by decide +kernel
theorem dX10_costOf_14 : decode cX10_costOf 14 = .ok (.if_icmp .ge 78, 3) := by decide +kernel
theorem dX10_costOf_17 : decode cX10_costOf 17 = .ok (.aload_n 0, 1) := by decide +kernel
theorem dX10_costOf_18 : decode cX10_costOf 18 = .ok (.getfield 50, 3) := by decide +kernel
theorem dX10_costOf_21 : decode cX10_costOf 21 = .ok (.iconst 4, 1) := by decide +kernel
theorem dX10_costOf_22 : decode cX10_costOf 22 = .ok (.iload_n 2, 1) := by decide +kernel
theorem dX10_costOf_23 : decode cX10_costOf 23 = .ok (.imul, 1) := by decide +kernel
theorem dX10_costOf_24 : decode cX10_costOf 24 = .ok (.iload 5, 2) := by decide +kernel
theorem dX10_costOf_26 : decode cX10_costOf 26 = .ok (.iadd, 1) := by decide +kernel
theorem dX10_costOf_27 : decode cX10_costOf 27 = .ok (.iaload, 1) := by decide +kernel
theorem dX10_costOf_28 : decode cX10_costOf 28 = .ok (.istore 6, 2) := by decide +kernel
theorem dX10_costOf_30 : decode cX10_costOf 30 = .ok (.iload 4, 2) := by decide +kernel
theorem dX10_costOf_32 : decode cX10_costOf 32 = .ok (.iload 6, 2) := by decide +kernel
theorem dX10_costOf_34 : decode cX10_costOf 34 = .ok (.aload_n 0, 1) := by decide +kernel
theorem dX10_costOf_35 : decode cX10_costOf 35 = .ok (.getfield 92, 3) := by decide +kernel
theorem dX10_costOf_38 : decode cX10_costOf 38 = .ok (.if_icmp .ne 12, 3) := by decide +kernel
theorem dX10_costOf_41 : decode cX10_costOf 41 = .ok (.aload_n 0, 1) := by decide +kernel
theorem dX10_costOf_42 : decode cX10_costOf 42 = .ok (.getfield 17, 3) := by decide +kernel
theorem dX10_costOf_45 : decode cX10_costOf 45 = .ok (.iconst 3, 1) := by decide +kernel
theorem dX10_costOf_46 : decode cX10_costOf 46 = .ok (.iaload, 1) := by decide +kernel
theorem dX10_costOf_47 : decode cX10_costOf 47 = .ok (.goto 36, 3) := by decide +kernel
theorem dX10_costOf_50 : decode cX10_costOf 50 = .ok (.aload_n 0, 1) := by decide +kernel
theorem dX10_costOf_51 : decode cX10_costOf 51 = .ok (.getfield 17, 3) := by decide +kernel
theorem dX10_costOf_54 : decode cX10_costOf 54 = .ok (.iconst 1, 1) := by decide +kernel
theorem dX10_costOf_55 : decode cX10_costOf 55 = .ok (.iaload, 1) := by decide +kernel
theorem dX10_costOf_56 : decode cX10_costOf 56 = .ok (.iload 6, 2) := by decide +kernel
theorem dX10_costOf_58 : decode cX10_costOf 58 = .ok (.aload_n 0, 1) := by decide +kernel
theorem dX10_costOf_59 : decode cX10_costOf 59 = .ok (.getfield 92, 3) := by decide +kernel
theorem dX10_costOf_62 : decode cX10_costOf 62 = .ok (.isub, 1) := by decide +kernel
theorem dX10_costOf_63 : decode cX10_costOf 63 = .ok (.imul, 1) := by decide +kernel
theorem dX10_costOf_64 : decode cX10_costOf 64 = .ok (.iload 6, 2) := by decide +kernel
theorem dX10_costOf_66 : decode cX10_costOf 66 = .ok (.iload_n 3, 1) := by decide +kernel
theorem dX10_costOf_67 : decode cX10_costOf 67 = .ok (.iconst 3, 1) := by decide +kernel
theorem dX10_costOf_68 : decode cX10_costOf 68 = .ok (.iadd, 1) := by decide +kernel
theorem dX10_costOf_69 : decode cX10_costOf 69 = .ok (.if_icmp .ne 12, 3) := by decide +kernel
theorem dX10_costOf_72 : decode cX10_costOf 72 = .ok (.aload_n 0, 1) := by decide +kernel
theorem dX10_costOf_73 : decode cX10_costOf 73 = .ok (.getfield 17, 3) := by decide +kernel
theorem dX10_costOf_76 : decode cX10_costOf 76 = .ok (.iconst 2, 1) := by decide +kernel
theorem dX10_costOf_77 : decode cX10_costOf 77 = .ok (.iaload, 1) := by decide +kernel
theorem dX10_costOf_78 : decode cX10_costOf 78 = .ok (.goto 4, 3) := by decide +kernel
theorem dX10_costOf_81 : decode cX10_costOf 81 = .ok (.iconst 0, 1) := by decide +kernel
theorem dX10_costOf_82 : decode cX10_costOf 82 = .ok (.iadd, 1) := by decide +kernel
theorem dX10_costOf_83 : decode cX10_costOf 83 = .ok (.iadd, 1) := by decide +kernel
theorem dX10_costOf_84 : decode cX10_costOf 84 = .ok (.istore 4, 2) := by decide +kernel
theorem dX10_costOf_86 : decode cX10_costOf 86 = .ok (.iinc 5 1, 3) := by decide +kernel
theorem dX10_costOf_89 : decode cX10_costOf 89 = .ok (.goto (-83), 3) := by decide +kernel
theorem dX10_costOf_92 : decode cX10_costOf 92 = .ok (.iload 4, 2) := by decide +kernel
theorem dX10_costOf_94 : decode cX10_costOf 94 = .ok (.ireturn, 1) := by decide +kernel
theorem dX10_grips_0 : decode cX10_grips 0 = .ok (.aload_n 0, 1) := by decide +kernel
theorem dX10_grips_1 : decode cX10_grips 1 = .ok (.iload_n 1, 1) := by decide +kernel
theorem dX10_grips_2 : decode cX10_grips 2 = .ok (.invokevirtual 99, 3) := by decide +kernel
theorem dX10_grips_5 : decode cX10_grips 5 = .ok (.ifCond .ne 6, 3) := by decide +kernel
theorem dX10_grips_8 : decode cX10_grips 8 = .ok (.bipush (-3), 2) := by decide +kernel
theorem dX10_grips_10 : decode cX10_grips 10 = .ok (.ireturn, 1) := by decide +kernel
theorem dX10_grips_11 : decode cX10_grips 11 = .ok (.aload_n 0, 1) := by decide +kernel
theorem dX10_grips_12 : decode cX10_grips 12 = .ok (.iload_n 1, 1) := by decide +kernel
theorem dX10_grips_13 : decode cX10_grips 13 = .ok (.invokevirtual 116, 3) := by decide +kernel
theorem dX10_grips_16 : decode cX10_grips 16 = .ok (.iconst 0, 1) := by decide +kernel
theorem dX10_grips_17 : decode cX10_grips 17 = .ok (.istore_n 2, 1) := by decide +kernel
theorem dX10_grips_18 : decode cX10_grips 18 = .ok (.aload_n 0, 1) := by decide +kernel
theorem dX10_grips_19 : decode cX10_grips 19 = .ok (.getfield 92, 3) := by decide +kernel
theorem dX10_grips_22 : decode cX10_grips 22 = .ok (.iconst 1, 1) := by decide +kernel
theorem dX10_grips_23 : decode cX10_grips 23 = .ok (.iadd, 1) := by decide +kernel
theorem dX10_grips_24 : decode cX10_grips 24 = .ok (.istore_n 3, 1) := by decide +kernel
theorem dX10_grips_25 : decode cX10_grips 25 = .ok (.iload_n 3, 1) := by decide +kernel
theorem dX10_grips_26 : decode cX10_grips 26 = .ok (.aload_n 0, 1) := by decide +kernel
theorem dX10_grips_27 : decode cX10_grips 27 = .ok (.getfield 13, 3) := by decide +kernel
theorem dX10_grips_30 : decode cX10_grips 30 = .ok (.if_icmp .gt 46, 3) := by decide +kernel
theorem dX10_grips_33 : decode cX10_grips 33 = .ok (.iconst 0, 1) := by decide +kernel
theorem dX10_grips_34 : decode cX10_grips 34 = .ok (.istore 4, 2) := by decide +kernel
theorem dX10_grips_36 : decode cX10_grips 36 = .ok (.iload 4, 2) := by decide +kernel
theorem dX10_grips_38 : decode cX10_grips 38 = .ok (.aload_n 0, 1) := by decide +kernel
theorem dX10_grips_39 : decode cX10_grips 39 = .ok (.getfield 113, 3) := by decide +kernel
theorem dX10_grips_42 : decode cX10_grips 42 = .ok (.if_icmp .ge 28, 3) := by decide +kernel
theorem dX10_grips_45 : decode cX10_grips 45 = .ok (.iload_n 2, 1) := by decide +kernel
theorem dX10_grips_46 : decode cX10_grips 46 = .ok (.aload_n 0, 1) := by decide +kernel
theorem dX10_grips_47 : decode cX10_grips 47 = .ok (.iload_n 1, 1) := by decide +kernel
theorem dX10_grips_48 : decode cX10_grips 48 = .ok (.iload 4, 2) := by decide +kernel
theorem dX10_grips_50 : decode cX10_grips 50 = .ok (.iload_n 3, 1) := by decide +kernel
theorem dX10_grips_51 : decode cX10_grips 51 = .ok (.invokevirtual 120, 3) := by decide +kernel
theorem dX10_grips_54 : decode cX10_grips 54 = .ok (.ifCond .eq 7, 3) := by decide +kernel
theorem dX10_grips_57 : decode cX10_grips 57 = .ok (.iconst 1, 1) := by decide +kernel
theorem dX10_grips_58 : decode cX10_grips 58 = .ok (.goto 4, 3) := by decide +kernel
theorem dX10_grips_61 : decode cX10_grips 61 = .ok (.iconst 0, 1) := by decide +kernel
theorem dX10_grips_62 : decode cX10_grips 62 = .ok (.iadd, 1) := by decide +kernel
theorem dX10_grips_63 : decode cX10_grips 63 = .ok (.istore_n 2, 1) := by decide +kernel
theorem dX10_grips_64 : decode cX10_grips 64 = .ok (.iinc 4 1, 3) := by decide +kernel
theorem dX10_grips_67 : decode cX10_grips 67 = .ok (.goto (-31), 3) := by decide +kernel
theorem dX10_grips_70 : decode cX10_grips 70 = .ok (.iinc 3 1, 3) := by decide +kernel
theorem dX10_grips_73 : decode cX10_grips 73 = .ok (.goto (-48), 3) := by decide +kernel
theorem dX10_grips_76 : decode cX10_grips 76 = .ok (.iload_n 2, 1) := by decide +kernel
theorem dX10_grips_77 : decode cX10_grips 77 = .ok (.ireturn, 1) := by decide +kernel
theorem dX10_grip_0 : decode cX10_grip 0 = .ok (.aload_n 0, 1) := by decide +kernel
theorem dX10_grip_1 : decode cX10_grip 1 = .ok (.iload_n 1, 1) := by decide +kernel
theorem dX10_grip_2 : decode cX10_grip 2 = .ok (.invokevirtual 99, 3) := by decide +kernel
theorem dX10_grip_5 : decode cX10_grip 5 = .ok (.ifCond .ne 6, 3) := by decide +kernel
theorem dX10_grip_8 : decode cX10_grip 8 = .ok (.bipush (-3), 2) := by decide +kernel
theorem dX10_grip_10 : decode cX10_grip 10 = .ok (.ireturn, 1) := by decide +kernel
theorem dX10_grip_11 : decode cX10_grip 11 = .ok (.iload_n 3, 1) := by decide +kernel
theorem dX10_grip_12 : decode cX10_grip 12 = .ok (.iconst 0, 1) := by decide +kernel
theorem dX10_grip_13 : decode cX10_grip 13 = .ok (.iconst 5, 1) := by decide +kernel
theorem dX10_grip_14 : decode cX10_grip 14 = .ok (.invokestatic 84, 3) := by decide +kernel
theorem dX10_grip_17 : decode cX10_grip 17 = .ok (.ifCond .ne 6, 3) := by decide +kernel
theorem dX10_grip_20 : decode cX10_grip 20 = .ok (.bipush (-2), 2) := by decide +kernel
theorem dX10_grip_22 : decode cX10_grip 22 = .ok (.ireturn, 1) := by decide +kernel
theorem dX10_grip_23 : decode cX10_grip 23 = .ok (.aload_n 0, 1) := by decide +kernel
theorem dX10_grip_24 : decode cX10_grip 24 = .ok (.iload_n 1, 1) := by decide +kernel
theorem dX10_grip_25 : decode cX10_grip 25 = .ok (.invokevirtual 116, 3) := by decide +kernel
theorem dX10_grip_28 : decode cX10_grip 28 = .ok (.iload_n 2, 1) := by decide +kernel
theorem dX10_grip_29 : decode cX10_grip 29 = .ok (.istore 4, 2) := by decide +kernel
theorem dX10_grip_31 : decode cX10_grip 31 = .ok (.aload_n 0, 1) := by decide +kernel
theorem dX10_grip_32 : decode cX10_grip 32 = .ok (.getfield 92, 3) := by decide +kernel
theorem dX10_grip_35 : decode cX10_grip 35 = .ok (.iconst 1, 1) := by decide +kernel
theorem dX10_grip_36 : decode cX10_grip 36 = .ok (.iadd, 1) := by decide +kernel
theorem dX10_grip_37 : decode cX10_grip 37 = .ok (.istore 5, 2) := by decide +kernel
theorem dX10_grip_39 : decode cX10_grip 39 = .ok (.iload 5, 2) := by decide +kernel
theorem dX10_grip_41 : decode cX10_grip 41 = .ok (.aload_n 0, 1) := by decide +kernel
theorem dX10_grip_42 : decode cX10_grip 42 = .ok (.getfield 13, 3) := by decide +kernel
theorem dX10_grip_45 : decode cX10_grip 45 = .ok (.if_icmp .gt 62, 3) := by decide +kernel
theorem dX10_grip_48 : decode cX10_grip 48 = .ok (.iload_n 2, 1) := by decide +kernel
theorem dX10_grip_49 : decode cX10_grip 49 = .ok (.ifCond .lt 58, 3) := by decide +kernel
theorem dX10_grip_52 : decode cX10_grip 52 = .ok (.iconst 0, 1) := by decide +kernel
theorem dX10_grip_53 : decode cX10_grip 53 = .ok (.istore 6, 2) := by decide +kernel
theorem dX10_grip_55 : decode cX10_grip 55 = .ok (.iload 6, 2) := by decide +kernel
theorem dX10_grip_57 : decode cX10_grip 57 = .ok (.aload_n 0, 1) := by decide +kernel
theorem dX10_grip_58 : decode cX10_grip 58 = .ok (.getfield 113, 3) := by decide +kernel
theorem dX10_grip_61 : decode cX10_grip 61 = .ok (.if_icmp .ge 40, 3) := by decide +kernel
theorem dX10_grip_64 : decode cX10_grip 64 = .ok (.aload_n 0, 1) := by decide +kernel
theorem dX10_grip_65 : decode cX10_grip 65 = .ok (.iload_n 1, 1) := by decide +kernel
theorem dX10_grip_66 : decode cX10_grip 66 = .ok (.iload 6, 2) := by decide +kernel
theorem dX10_grip_68 : decode cX10_grip 68 = .ok (.iload 5, 2) := by decide +kernel
theorem dX10_grip_70 : decode cX10_grip 70 = .ok (.invokevirtual 120, 3) := by decide +kernel
theorem dX10_grip_73 : decode cX10_grip 73 = .ok (.ifCond .eq 22, 3) := by decide +kernel
theorem dX10_grip_76 : decode cX10_grip 76 = .ok (.iload 4, 2) := by decide +kernel
theorem dX10_grip_78 : decode cX10_grip 78 = .ok (.ifCond .ne 14, 3) := by decide +kernel
theorem dX10_grip_81 : decode cX10_grip 81 = .ok (.aload_n 0, 1) := by decide +kernel
theorem dX10_grip_82 : decode cX10_grip 82 = .ok (.iload_n 1, 1) := by decide +kernel
theorem dX10_grip_83 : decode cX10_grip 83 = .ok (.iload 6, 2) := by decide +kernel
theorem dX10_grip_85 : decode cX10_grip 85 = .ok (.iload 5, 2) := by decide +kernel
theorem dX10_grip_87 : decode cX10_grip 87 = .ok (.iload_n 3, 1) := by decide +kernel
theorem dX10_grip_88 : decode cX10_grip 88 = .ok (.invokevirtual 123, 3) := by decide +kernel
theorem dX10_grip_91 : decode cX10_grip 91 = .ok (.ireturn, 1) := by decide +kernel
theorem dX10_grip_92 : decode cX10_grip 92 = .ok (.iinc 4 (-1), 3) := by decide +kernel
theorem dX10_grip_95 : decode cX10_grip 95 = .ok (.iinc 6 1, 3) := by decide +kernel
theorem dX10_grip_98 : decode cX10_grip 98 = .ok (.goto (-43), 3) := by decide +kernel
theorem dX10_grip_101 : decode cX10_grip 101 = .ok (.iinc 5 1, 3) := by decide +kernel
theorem dX10_grip_104 : decode cX10_grip 104 = .ok (.goto (-65), 3) := by decide +kernel
theorem dX10_grip_107 : decode cX10_grip 107 = .ok (.iconst (-1), 1) := by decide +kernel
theorem dX10_grip_108 : decode cX10_grip 108 = .ok (.ireturn, 1) := by decide +kernel
theorem dX10_told__0 : decode cX10_told_ 0 = .ok (.iload 4, 2) := by decide +kernel
theorem dX10_told__2 : decode cX10_told_ 2 = .ok (.ifCond .ne 5, 3) := by decide +kernel
theorem dX10_told__5 : decode cX10_told_ 5 = .ok (.iload_n 3, 1) := by decide +kernel
theorem dX10_told__6 : decode cX10_told_ 6 = .ok (.ireturn, 1) := by decide +kernel
theorem dX10_told__7 : decode cX10_told_ 7 = .ok (.iload 4, 2) := by decide +kernel
theorem dX10_told__9 : decode cX10_told_ 9 = .ok (.iconst 5, 1) := by decide +kernel
theorem dX10_told__10 : decode cX10_told_ 10 = .ok (.if_icmp .ne 11, 3) := by decide +kernel
theorem dX10_told__13 : decode cX10_told_ 13 = .ok (.aload_n 0, 1) := by decide +kernel
theorem dX10_told__14 : decode cX10_told_ 14 = .ok (.iload_n 1, 1) := by decide +kernel
theorem dX10_told__15 : decode cX10_told_ 15 = .ok (.iload_n 2, 1) := by decide +kernel
theorem dX10_told__16 : decode cX10_told_ 16 = .ok (.iload_n 3, 1) := by decide +kernel
theorem dX10_told__17 : decode cX10_told_ 17 = .ok (.invokevirtual 127, 3) := by decide +kernel
theorem dX10_told__20 : decode cX10_told_ 20 = .ok (.ireturn, 1) := by decide +kernel
theorem dX10_told__21 : decode cX10_told_ 21 = .ok (.iload 4, 2) := by decide +kernel
theorem dX10_told__23 : decode cX10_told_ 23 = .ok (.aload_n 0, 1) := by decide +kernel
theorem dX10_told__24 : decode cX10_told_ 24 = .ok (.getfield 20, 3) := by decide +kernel
theorem dX10_told__27 : decode cX10_told_ 27 = .ok (.iload_n 1, 1) := by decide +kernel
theorem dX10_told__28 : decode cX10_told_ 28 = .ok (.iaload, 1) := by decide +kernel
theorem dX10_told__29 : decode cX10_told_ 29 = .ok (.if_icmp .gt 19, 3) := by decide +kernel
theorem dX10_told__32 : decode cX10_told_ 32 = .ok (.aload_n 0, 1) := by decide +kernel
theorem dX10_told__33 : decode cX10_told_ 33 = .ok (.getfield 47, 3) := by decide +kernel
theorem dX10_told__36 : decode cX10_told_ 36 = .ok (.iconst 4, 1) := by decide +kernel
theorem dX10_told__37 : decode cX10_told_ 37 = .ok (.iload_n 2, 1) := by decide +kernel
theorem dX10_told__38 : decode cX10_told_ 38 = .ok (.imul, 1) := by decide +kernel
theorem dX10_told__39 : decode cX10_told_ 39 = .ok (.iload 4, 2) := by decide +kernel
theorem dX10_told__41 : decode cX10_told_ 41 = .ok (.iadd, 1) := by decide +kernel
theorem dX10_told__42 : decode cX10_told_ 42 = .ok (.iconst 1, 1) := by decide +kernel
theorem dX10_told__43 : decode cX10_told_ 43 = .ok (.isub, 1) := by decide +kernel
theorem dX10_told__44 : decode cX10_told_ 44 = .ok (.iaload, 1) := by decide +kernel
theorem dX10_told__45 : decode cX10_told_ 45 = .ok (.goto 4, 3) := by decide +kernel
theorem dX10_told__48 : decode cX10_told_ 48 = .ok (.iconst (-1), 1) := by decide +kernel
theorem dX10_told__49 : decode cX10_told_ 49 = .ok (.ireturn, 1) := by decide +kernel
theorem dX10_at__0 : decode cX10_at_ 0 = .ok (.bipush 25, 2) := by decide +kernel
theorem dX10_at__2 : decode cX10_at_ 2 = .ok (.iload_n 0, 1) := by decide +kernel
theorem dX10_at__3 : decode cX10_at_ 3 = .ok (.imul, 1) := by decide +kernel
theorem dX10_at__4 : decode cX10_at_ 4 = .ok (.ireturn, 1) := by decide +kernel
theorem dX10_findCosts_0 : decode cX10_findCosts 0 = .ok (.aload_n 0, 1) := by decide +kernel
theorem dX10_findCosts_1 : decode cX10_findCosts 1 = .ok (.iload_n 1, 1) := by decide +kernel
theorem dX10_findCosts_2 : decode cX10_findCosts 2 = .ok (.invokevirtual 116, 3) := by decide +kernel
theorem dX10_findCosts_5 : decode cX10_findCosts 5 = .ok (.aload_n 0, 1) := by decide +kernel
theorem dX10_findCosts_6 : decode cX10_findCosts 6 = .ok (.getfield 92, 3) := by decide +kernel
theorem dX10_findCosts_9 : decode cX10_findCosts 9 = .ok (.iconst 1, 1) := by decide +kernel
theorem dX10_findCosts_10 : decode cX10_findCosts 10 = .ok (.iadd, 1) := by decide +kernel
theorem dX10_findCosts_11 : decode cX10_findCosts 11 = .ok (.istore_n 2, 1) := by decide +kernel
theorem dX10_findCosts_12 : decode cX10_findCosts 12 = .ok (.iload_n 2, 1) := by decide +kernel
theorem dX10_findCosts_13 : decode cX10_findCosts 13 = .ok (.aload_n 0, 1) := by decide +kernel
theorem dX10_findCosts_14 : decode cX10_findCosts 14 = .ok (.getfield 13, 3) := by decide +kernel
theorem dX10_findCosts_17 : decode cX10_findCosts 17 = .ok (.if_icmp .gt 119, 3) := by decide +kernel
theorem dX10_findCosts_20 : decode cX10_findCosts 20 = .ok (.ldc 131, 2) := by decide +kernel
theorem dX10_findCosts_22 : decode cX10_findCosts 22 = .ok (.istore_n 3, 1) := by decide +kernel
theorem dX10_findCosts_23 : decode cX10_findCosts 23 = .ok (.iconst 0, 1) := by decide +kernel
theorem dX10_findCosts_24 : decode cX10_findCosts 24 = .ok (.istore 4, 2) := by decide +kernel
theorem dX10_findCosts_26 : decode cX10_findCosts 26 = .ok (.iconst 0, 1) := by decide +kernel
theorem dX10_findCosts_27 : decode cX10_findCosts 27 = .ok (.istore 5, 2) := by decide +kernel
theorem dX10_findCosts_29 : decode cX10_findCosts 29 = .ok (.iload 5, 2) := by decide +kernel
theorem dX10_findCosts_31 : decode cX10_findCosts 31 = .ok (.aload_n 0, 1) := by decide +kernel
theorem dX10_findCosts_32 : decode cX10_findCosts 32 = .ok (.getfield 113, 3) := by decide +kernel
theorem dX10_findCosts_35 : decode cX10_findCosts 35 = .ok (.if_icmp .ge 70, 3) := by decide +kernel
theorem dX10_findCosts_38 : decode cX10_findCosts 38 = .ok (.aload_n 0, 1) := by decide +kernel
theorem dX10_findCosts_39 : decode cX10_findCosts 39 = .ok (.iload_n 1, 1) := by decide +kernel
theorem dX10_findCosts_40 : decode cX10_findCosts 40 = .ok (.iload 5, 2) := by decide +kernel
theorem dX10_findCosts_42 : decode cX10_findCosts 42 = .ok (.iload_n 2, 1) := by decide +kernel
theorem dX10_findCosts_43 : decode cX10_findCosts 43 = .ok (.invokevirtual 120, 3) := by decide +kernel
theorem dX10_findCosts_46 : decode cX10_findCosts 46 = .ok (.ifCond .eq 53, 3) := by decide +kernel
theorem dX10_findCosts_49 : decode cX10_findCosts 49 = .ok (.aload_n 0, 1) := by decide +kernel
theorem dX10_findCosts_50 : decode cX10_findCosts 50 = .ok (.iload_n 1, 1) := by decide +kernel
theorem dX10_findCosts_51 : decode cX10_findCosts 51 = .ok (.iload 5, 2) := by decide +kernel
theorem dX10_findCosts_53 : decode cX10_findCosts 53 = .ok (.iload_n 2, 1) := by decide +kernel
theorem dX10_findCosts_54 : decode cX10_findCosts 54 = .ok (.invokevirtual 127, 3) := by decide +kernel
theorem dX10_findCosts_57 : decode cX10_findCosts 57 = .ok (.istore 6, 2) := by decide +kernel
theorem dX10_findCosts_59 : decode cX10_findCosts 59 = .ok (.iload 6, 2) := by decide +kernel
theorem dX10_findCosts_61 : decode cX10_findCosts 61 = .ok (.iload_n 3, 1) := by decide +kernel
theorem dX10_findCosts_62 : decode cX10_findCosts 62 = .ok (.if_icmp .ge 7, 3) := by decide +kernel
theorem dX10_findCosts_65 : decode cX10_findCosts 65 = .ok (.iconst 1, 1) := by decide +kernel
theorem dX10_findCosts_66 : decode cX10_findCosts 66 = .ok (.goto 18, 3) := by decide +kernel
theorem dX10_findCosts_69 : decode cX10_findCosts 69 = .ok (.iload 6, 2) := by decide +kernel
theorem dX10_findCosts_71 : decode cX10_findCosts 71 = .ok (.iload_n 3, 1) := by decide +kernel
theorem dX10_findCosts_72 : decode cX10_findCosts 72 = .ok (.if_icmp .ne 10, 3) := by decide +kernel
theorem dX10_findCosts_75 : decode cX10_findCosts 75 = .ok (.iload 4, 2) := by decide +kernel
theorem dX10_findCosts_77 : decode cX10_findCosts 77 = .ok (.iconst 1, 1) := by decide +kernel
theorem dX10_findCosts_78 : decode cX10_findCosts 78 = .ok (.iadd, 1) := by decide +kernel
theorem dX10_findCosts_79 : decode cX10_findCosts 79 = .ok (.goto 5, 3) := by decide +kernel
theorem dX10_findCosts_82 : decode cX10_findCosts 82 = .ok (.iload 4, 2) := by decide +kernel
theorem dX10_findCosts_84 : decode cX10_findCosts 84 = .ok (.istore 4, 2) := by decide +kernel
theorem dX10_findCosts_86 : decode cX10_findCosts 86 = .ok (.iload 6, 2) := by decide +kernel
theorem dX10_findCosts_88 : decode cX10_findCosts 88 = .ok (.iload_n 3, 1) := by decide +kernel
theorem dX10_findCosts_89 : decode cX10_findCosts 89 = .ok (.if_icmp .ge 8, 3) := by decide +kernel
theorem dX10_findCosts_92 : decode cX10_findCosts 92 = .ok (.iload 6, 2) := by decide +kernel
theorem dX10_findCosts_94 : decode cX10_findCosts 94 = .ok (.goto 4, 3) := by decide +kernel
theorem dX10_findCosts_97 : decode cX10_findCosts 97 = .ok (.iload_n 3, 1) := by decide +kernel
theorem dX10_findCosts_98 : decode cX10_findCosts 98 = .ok (.istore_n 3, 1) := by decide +kernel
theorem dX10_findCosts_99 : decode cX10_findCosts 99 = .ok (.iinc 5 1, 3) := by decide +kernel
theorem dX10_findCosts_102 : decode cX10_findCosts 102 = .ok (.goto (-73), 3) := by decide +kernel
theorem dX10_findCosts_105 : decode cX10_findCosts 105 = .ok (.aload_n 0, 1) := by decide +kernel
theorem dX10_findCosts_106 : decode cX10_findCosts 106 = .ok (.getfield 53, 3) := by decide +kernel
theorem dX10_findCosts_109 : decode cX10_findCosts 109 = .ok (.iload_n 1, 1) := by decide +kernel
theorem dX10_findCosts_110 : decode cX10_findCosts 110 = .ok (.invokestatic 132, 3) := by decide +kernel
theorem dX10_findCosts_113 : decode cX10_findCosts 113 = .ok (.iload_n 2, 1) := by decide +kernel
theorem dX10_findCosts_114 : decode cX10_findCosts 114 = .ok (.iadd, 1) := by decide +kernel
theorem dX10_findCosts_115 : decode cX10_findCosts 115 = .ok (.iload_n 3, 1) := by decide +kernel
theorem dX10_findCosts_116 : decode cX10_findCosts 116 = .ok (.iastore, 1) := by decide +kernel
theorem dX10_findCosts_117 : decode cX10_findCosts 117 = .ok (.aload_n 0, 1) := by decide +kernel
theorem dX10_findCosts_118 : decode cX10_findCosts 118 = .ok (.getfield 56, 3) := by decide +kernel
theorem dX10_findCosts_121 : decode cX10_findCosts 121 = .ok (.iload_n 1, 1) := by decide +kernel
theorem dX10_findCosts_122 : decode cX10_findCosts 122 = .ok (.invokestatic 132, 3) := by decide +kernel
theorem dX10_findCosts_125 : decode cX10_findCosts 125 = .ok (.iload_n 2, 1) := by decide +kernel
theorem dX10_findCosts_126 : decode cX10_findCosts 126 = .ok (.iadd, 1) := by decide +kernel
theorem dX10_findCosts_127 : decode cX10_findCosts 127 = .ok (.iload 4, 2) := by decide +kernel
theorem dX10_findCosts_129 : decode cX10_findCosts 129 = .ok (.iastore, 1) := by decide +kernel
theorem dX10_findCosts_130 : decode cX10_findCosts 130 = .ok (.iinc 2 1, 3) := by decide +kernel
theorem dX10_findCosts_133 : decode cX10_findCosts 133 = .ok (.goto (-121), 3) := by decide +kernel
theorem dX10_findCosts_136 : decode cX10_findCosts 136 = .ok (.return_, 1) := by decide +kernel
theorem dX10_move_0 : decode cX10_move 0 = .ok (.aload_n 0, 1) := by decide +kernel
theorem dX10_move_1 : decode cX10_move 1 = .ok (.getfield 17, 3) := by decide +kernel
theorem dX10_move_4 : decode cX10_move 4 = .ok (.iconst 0, 1) := by decide +kernel
theorem dX10_move_5 : decode cX10_move 5 = .ok (.iaload, 1) := by decide +kernel
theorem dX10_move_6 : decode cX10_move 6 = .ok (.iload_n 1, 1) := by decide +kernel
theorem dX10_move_7 : decode cX10_move 7 = .ok (.iload_n 2, 1) := by decide +kernel
theorem dX10_move_8 : decode cX10_move 8 = .ok (.if_icmp .le 9, 3) := by decide +kernel
theorem dX10_move_11 : decode cX10_move 11 = .ok (.iload_n 1, 1) := by decide +kernel
theorem dX10_move_12 : decode cX10_move 12 = .ok (.iload_n 2, 1) := by decide +kernel
theorem dX10_move_13 : decode cX10_move 13 = .ok (.isub, 1) := by decide +kernel
theorem dX10_move_14 : decode cX10_move 14 = .ok (.goto 6, 3) := by decide +kernel
theorem dX10_move_17 : decode cX10_move 17 = .ok (.iload_n 2, 1) := by decide +kernel
theorem dX10_move_18 : decode cX10_move 18 = .ok (.iload_n 1, 1) := by decide +kernel
theorem dX10_move_19 : decode cX10_move 19 = .ok (.isub, 1) := by decide +kernel
theorem dX10_move_20 : decode cX10_move 20 = .ok (.imul, 1) := by decide +kernel
theorem dX10_move_21 : decode cX10_move 21 = .ok (.ireturn, 1) := by decide +kernel
theorem dX10_few_0 : decode cX10_few 0 = .ok (.lload_n 0, 1) := by decide +kernel
theorem dX10_few_1 : decode cX10_few 1 = .ok (.ldc2_w 136, 3) := by decide +kernel
theorem dX10_few_4 : decode cX10_few 4 = .ok (.lcmp, 1) := by decide +kernel
theorem dX10_few_5 : decode cX10_few 5 = .ok (.ifCond .le 8, 3) := by decide +kernel
theorem dX10_few_8 : decode cX10_few 8 = .ok (.ldc 138, 2) := by decide +kernel
theorem dX10_few_10 : decode cX10_few 10 = .ok (.goto 5, 3) := by decide +kernel
theorem dX10_few_13 : decode cX10_few 13 = .ok (.lload_n 0, 1) := by decide +kernel
theorem dX10_few_14 : decode cX10_few 14 = .ok (.l2i, 1) := by decide +kernel
theorem dX10_few_15 : decode cX10_few 15 = .ok (.ireturn, 1) := by decide +kernel
theorem dX10_findSums_0 : decode cX10_findSums 0 = .ok (.iconst 0, 1) := by decide +kernel
theorem dX10_findSums_1 : decode cX10_findSums 1 = .ok (.istore_n 1, 1) := by decide +kernel
theorem dX10_findSums_2 : decode cX10_findSums 2 = .ok (.iload_n 1, 1) := by decide +kernel
theorem dX10_findSums_3 : decode cX10_findSums 3 = .ok (.aload_n 0, 1) := by decide +kernel
theorem dX10_findSums_4 : decode cX10_findSums 4 = .ok (.getfield 81, 3) := by decide +kernel
theorem dX10_findSums_7 : decode cX10_findSums 7 = .ok (.if_icmp .ge 281, 3) := by decide +kernel
theorem dX10_findSums_10 : decode cX10_findSums 10 = .ok (.aload_n 0, 1) := by decide +kernel
theorem dX10_findSums_11 : decode cX10_findSums 11 = .ok (.iload_n 1, 1) := by decide +kernel
theorem dX10_findSums_12 : decode cX10_findSums 12 = .ok (.invokevirtual 139, 3) := by decide +kernel
theorem dX10_findSums_15 : decode cX10_findSums 15 = .ok (.aload_n 0, 1) := by decide +kernel
theorem dX10_findSums_16 : decode cX10_findSums 16 = .ok (.getfield 92, 3) := by decide +kernel
theorem dX10_findSums_19 : decode cX10_findSums 19 = .ok (.iconst 1, 1) := by decide +kernel
theorem dX10_findSums_20 : decode cX10_findSums 20 = .ok (.iadd, 1) := by decide +kernel
theorem dX10_findSums_21 : decode cX10_findSums 21 = .ok (.istore_n 2, 1) := by decide +kernel
theorem dX10_findSums_22 : decode cX10_findSums 22 = .ok (.iload_n 2, 1) := by decide +kernel
theorem dX10_findSums_23 : decode cX10_findSums 23 = .ok (.aload_n 0, 1) := by decide +kernel
theorem dX10_findSums_24 : decode cX10_findSums 24 = .ok (.getfield 13, 3) := by decide +kernel
theorem dX10_findSums_27 : decode cX10_findSums 27 = .ok (.if_icmp .gt 255, 3) := by decide +kernel
theorem dX10_findSums_30 : decode cX10_findSums 30 = .ok (.iload_n 1, 1) := by decide +kernel
theorem dX10_findSums_31 : decode cX10_findSums 31 = .ok (.ifCond .ne 7, 3) := by decide +kernel
theorem dX10_findSums_34 : decode cX10_findSums 34 = .ok (.iconst 0, 1) := by decide +kernel
theorem dX10_findSums_35 : decode cX10_findSums 35 = .ok (.goto 5, 3) := by decide +kernel
theorem dX10_findSums_38 : decode cX10_findSums 38 = .ok (.ldc 131, 2) := by decide +kernel
theorem dX10_findSums_40 : decode cX10_findSums 40 = .ok (.istore_n 3, 1) := by decide +kernel
theorem dX10_findSums_41 : decode cX10_findSums 41 = .ok (.iload_n 1, 1) := by decide +kernel
theorem dX10_findSums_42 : decode cX10_findSums 42 = .ok (.ifCond .ne 7, 3) := by decide +kernel
theorem dX10_findSums_45 : decode cX10_findSums 45 = .ok (.lconst 1, 1) := by decide +kernel
theorem dX10_findSums_46 : decode cX10_findSums 46 = .ok (.goto 4, 3) := by decide +kernel
theorem dX10_findSums_49 : decode cX10_findSums 49 = .ok (.lconst 0, 1) := by decide +kernel
theorem dX10_findSums_50 : decode cX10_findSums 50 = .ok (.lstore 4, 2) := by decide +kernel
theorem dX10_findSums_52 : decode cX10_findSums 52 = .ok (.aload_n 0, 1) := by decide +kernel
theorem dX10_findSums_53 : decode cX10_findSums 53 = .ok (.getfield 92, 3) := by decide +kernel
theorem dX10_findSums_56 : decode cX10_findSums 56 = .ok (.iconst 1, 1) := by decide +kernel
theorem dX10_findSums_57 : decode cX10_findSums 57 = .ok (.iadd, 1) := by decide +kernel
theorem dX10_findSums_58 : decode cX10_findSums 58 = .ok (.istore 6, 2) := by decide +kernel
theorem dX10_findSums_60 : decode cX10_findSums 60 = .ok (.iload 6, 2) := by decide +kernel
theorem dX10_findSums_62 : decode cX10_findSums 62 = .ok (.aload_n 0, 1) := by decide +kernel
theorem dX10_findSums_63 : decode cX10_findSums 63 = .ok (.getfield 13, 3) := by decide +kernel
theorem dX10_findSums_66 : decode cX10_findSums 66 = .ok (.if_icmp .gt 105, 3) := by decide +kernel
theorem dX10_findSums_69 : decode cX10_findSums 69 = .ok (.iload_n 1, 1) := by decide +kernel
theorem dX10_findSums_70 : decode cX10_findSums 70 = .ok (.ifCond .le 101, 3) := by decide +kernel
theorem dX10_findSums_73 : decode cX10_findSums 73 = .ok (.aload_n 0, 1) := by decide +kernel
theorem dX10_findSums_74 : decode cX10_findSums 74 = .ok (.getfield 59, 3) := by decide +kernel
theorem dX10_findSums_77 : decode cX10_findSums 77 = .ok (.iload_n 1, 1) := by decide +kernel
theorem dX10_findSums_78 : decode cX10_findSums 78 = .ok (.iconst 1, 1) := by decide +kernel
theorem dX10_findSums_79 : decode cX10_findSums 79 = .ok (.isub, 1) := by decide +kernel
theorem dX10_findSums_80 : decode cX10_findSums 80 = .ok (.invokestatic 132, 3) := by decide +kernel
theorem dX10_findSums_83 : decode cX10_findSums 83 = .ok (.iload 6, 2) := by decide +kernel
theorem dX10_findSums_85 : decode cX10_findSums 85 = .ok (.iadd, 1) := by decide +kernel
theorem dX10_findSums_86 : decode cX10_findSums 86 = .ok (.iaload, 1) := by decide +kernel
theorem dX10_findSums_87 : decode cX10_findSums 87 = .ok (.aload_n 0, 1) := by decide +kernel
theorem dX10_findSums_88 : decode cX10_findSums 88 = .ok (.iload 6, 2) := by decide +kernel
theorem dX10_findSums_90 : decode cX10_findSums 90 = .ok (.iload_n 2, 1) := by decide +kernel
theorem dX10_findSums_91 : decode cX10_findSums 91 = .ok (.invokevirtual 142, 3) := by decide +kernel
theorem dX10_findSums_94 : decode cX10_findSums 94 = .ok (.iadd, 1) := by decide +kernel
theorem dX10_findSums_95 : decode cX10_findSums 95 = .ok (.istore 7, 2) := by decide +kernel
theorem dX10_findSums_97 : decode cX10_findSums 97 = .ok (.iload 7, 2) := by decide +kernel
theorem dX10_findSums_99 : decode cX10_findSums 99 = .ok (.iload_n 3, 1) := by decide +kernel
theorem dX10_findSums_100 : decode cX10_findSums 100 = .ok (.if_icmp .ge 21, 3) := by decide +kernel
theorem dX10_findSums_103 : decode cX10_findSums 103 = .ok (.aload_n 0, 1) := by decide +kernel
theorem dX10_findSums_104 : decode cX10_findSums 104 = .ok (.getfield 62, 3) := by decide +kernel
theorem dX10_findSums_107 : decode cX10_findSums 107 = .ok (.iload_n 1, 1) := by decide +kernel
theorem dX10_findSums_108 : decode cX10_findSums 108 = .ok (.iconst 1, 1) := by decide +kernel
theorem dX10_findSums_109 : decode cX10_findSums 109 = .ok (.isub, 1) := by decide +kernel
theorem dX10_findSums_110 : decode cX10_findSums 110 = .ok (.invokestatic 132, 3) := by decide +kernel
theorem dX10_findSums_113 : decode cX10_findSums 113 = .ok (.iload 6, 2) := by decide +kernel
theorem dX10_findSums_115 : decode cX10_findSums 115 = .ok (.iadd, 1) := by decide +kernel
theorem dX10_findSums_116 : decode cX10_findSums 116 = .ok (.iaload, 1) := by decide +kernel
theorem dX10_findSums_117 : decode cX10_findSums 117 = .ok (.i2l, 1) := by decide +kernel
theorem dX10_findSums_118 : decode cX10_findSums 118 = .ok (.goto 32, 3) := by decide +kernel
theorem dX10_findSums_121 : decode cX10_findSums 121 = .ok (.iload 7, 2) := by decide +kernel
theorem dX10_findSums_123 : decode cX10_findSums 123 = .ok (.iload_n 3, 1) := by decide +kernel
theorem dX10_findSums_124 : decode cX10_findSums 124 = .ok (.if_icmp .ne 24, 3) := by decide +kernel
theorem dX10_findSums_127 : decode cX10_findSums 127 = .ok (.lload 4, 2) := by decide +kernel
theorem dX10_findSums_129 : decode cX10_findSums 129 = .ok (.aload_n 0, 1) := by decide +kernel
theorem dX10_findSums_130 : decode cX10_findSums 130 = .ok (.getfield 62, 3) := by decide +kernel
theorem dX10_findSums_133 : decode cX10_findSums 133 = .ok (.iload_n 1, 1) := by decide +kernel
theorem dX10_findSums_134 : decode cX10_findSums 134 = .ok (.iconst 1, 1) := by decide +kernel
theorem dX10_findSums_135 : decode cX10_findSums 135 = .ok (.isub, 1) := by decide +kernel
theorem dX10_findSums_136 : decode cX10_findSums 136 = .ok (.invokestatic 132, 3) := by decide +kernel
theorem dX10_findSums_139 : decode cX10_findSums 139 = .ok (.iload 6, 2) := by decide +kernel
theorem dX10_findSums_141 : decode cX10_findSums 141 = .ok (.iadd, 1) := by decide +kernel
theorem dX10_findSums_142 : decode cX10_findSums 142 = .ok (.iaload, 1) := by decide +kernel
theorem dX10_findSums_143 : decode cX10_findSums 143 = .ok (.i2l, 1) := by decide +kernel
theorem dX10_findSums_144 : decode cX10_findSums 144 = .ok (.ladd, 1) := by decide +kernel
theorem dX10_findSums_145 : decode cX10_findSums 145 = .ok (.goto 5, 3) := by decide +kernel
theorem dX10_findSums_148 : decode cX10_findSums 148 = .ok (.lload 4, 2) := by decide +kernel
theorem dX10_findSums_150 : decode cX10_findSums 150 = .ok (.lstore 4, 2) := by decide +kernel
theorem dX10_findSums_152 : decode cX10_findSums 152 = .ok (.iload 7, 2) := by decide +kernel
theorem dX10_findSums_154 : decode cX10_findSums 154 = .ok (.iload_n 3, 1) := by decide +kernel
theorem dX10_findSums_155 : decode cX10_findSums 155 = .ok (.if_icmp .ge 8, 3) := by decide +kernel
theorem dX10_findSums_158 : decode cX10_findSums 158 = .ok (.iload 7, 2) := by decide +kernel
theorem dX10_findSums_160 : decode cX10_findSums 160 = .ok (.goto 4, 3) := by decide +kernel
theorem dX10_findSums_163 : decode cX10_findSums 163 = .ok (.iload_n 3, 1) := by decide +kernel
theorem dX10_findSums_164 : decode cX10_findSums 164 = .ok (.istore_n 3, 1) := by decide +kernel
theorem dX10_findSums_165 : decode cX10_findSums 165 = .ok (.iinc 6 1, 3) := by decide +kernel
theorem dX10_findSums_168 : decode cX10_findSums 168 = .ok (.goto (-108), 3) := by decide +kernel
theorem dX10_findSums_171 : decode cX10_findSums 171 = .ok (.aload_n 0, 1) := by decide +kernel
theorem dX10_findSums_172 : decode cX10_findSums 172 = .ok (.getfield 53, 3) := by decide +kernel
theorem dX10_findSums_175 : decode cX10_findSums 175 = .ok (.iload_n 1, 1) := by decide +kernel
theorem dX10_findSums_176 : decode cX10_findSums 176 = .ok (.invokestatic 132, 3) := by decide +kernel
theorem dX10_findSums_179 : decode cX10_findSums 179 = .ok (.iload_n 2, 1) := by decide +kernel
theorem dX10_findSums_180 : decode cX10_findSums 180 = .ok (.iadd, 1) := by decide +kernel
theorem dX10_findSums_181 : decode cX10_findSums 181 = .ok (.iaload, 1) := by decide +kernel
theorem dX10_findSums_182 : decode cX10_findSums 182 = .ok (.ldc 131, 2) := by decide +kernel
theorem dX10_findSums_184 : decode cX10_findSums 184 = .ok (.if_icmp .ge 13, 3) := by decide +kernel
theorem dX10_findSums_187 : decode cX10_findSums 187 = .ok (.iload_n 3, 1) := by decide +kernel
theorem dX10_findSums_188 : decode cX10_findSums 188 = .ok (.ldc 131, 2) := by decide +kernel
theorem dX10_findSums_190 : decode cX10_findSums 190 = .ok (.if_icmp .ge 7, 3) := by decide +kernel
theorem dX10_findSums_193 : decode cX10_findSums 193 = .ok (.iconst 1, 1) := by decide +kernel
theorem dX10_findSums_194 : decode cX10_findSums 194 = .ok (.goto 4, 3) := by decide +kernel
theorem dX10_findSums_197 : decode cX10_findSums 197 = .ok (.iconst 0, 1) := by decide +kernel
theorem dX10_findSums_198 : decode cX10_findSums 198 = .ok (.istore 6, 2) := by decide +kernel
theorem dX10_findSums_200 : decode cX10_findSums 200 = .ok (.aload_n 0, 1) := by decide +kernel
theorem dX10_findSums_201 : decode cX10_findSums 201 = .ok (.getfield 59, 3) := by decide +kernel
theorem dX10_findSums_204 : decode cX10_findSums 204 = .ok (.iload_n 1, 1) := by decide +kernel
theorem dX10_findSums_205 : decode cX10_findSums 205 = .ok (.invokestatic 132, 3) := by decide +kernel
theorem dX10_findSums_208 : decode cX10_findSums 208 = .ok (.iload_n 2, 1) := by decide +kernel
theorem dX10_findSums_209 : decode cX10_findSums 209 = .ok (.iadd, 1) := by decide +kernel
theorem dX10_findSums_210 : decode cX10_findSums 210 = .ok (.iload 6, 2) := by decide +kernel
theorem dX10_findSums_212 : decode cX10_findSums 212 = .ok (.ifCond .eq 19, 3) := by decide +kernel
theorem dX10_findSums_215 : decode cX10_findSums 215 = .ok (.iload_n 3, 1) := by decide +kernel
theorem dX10_findSums_216 : decode cX10_findSums 216 = .ok (.aload_n 0, 1) := by decide +kernel
theorem dX10_findSums_217 : decode cX10_findSums 217 = .ok (.getfield 53, 3) := by decide +kernel
theorem dX10_findSums_220 : decode cX10_findSums 220 = .ok (.iload_n 1, 1) := by decide +kernel
theorem dX10_findSums_221 : decode cX10_findSums 221 = .ok (.invokestatic 132, 3) := by decide +kernel
theorem dX10_findSums_224 : decode cX10_findSums 224 = .ok (.iload_n 2, 1) := by decide +kernel
theorem dX10_findSums_225 : decode cX10_findSums 225 = .ok (.iadd, 1) := by decide +kernel
theorem dX10_findSums_226 : decode cX10_findSums 226 = .ok (.iaload, 1) := by decide +kernel
theorem dX10_findSums_227 : decode cX10_findSums 227 = .ok (.iadd, 1) := by decide +kernel
theorem dX10_findSums_228 : decode cX10_findSums 228 = .ok (.goto 5, 3) := by decide +kernel
theorem dX10_findSums_231 : decode cX10_findSums 231 = .ok (.ldc 131, 2) := by decide +kernel
theorem dX10_findSums_233 : decode cX10_findSums 233 = .ok (.iastore, 1) := by decide +kernel
theorem dX10_findSums_234 : decode cX10_findSums 234 = .ok (.aload_n 0, 1) := by decide +kernel
theorem dX10_findSums_235 : decode cX10_findSums 235 = .ok (.getfield 62, 3) := by decide +kernel
theorem dX10_findSums_238 : decode cX10_findSums 238 = .ok (.iload_n 1, 1) := by decide +kernel
theorem dX10_findSums_239 : decode cX10_findSums 239 = .ok (.invokestatic 132, 3) := by decide +kernel
theorem dX10_findSums_242 : decode cX10_findSums 242 = .ok (.iload_n 2, 1) := by decide +kernel
theorem dX10_findSums_243 : decode cX10_findSums 243 = .ok (.iadd, 1) := by decide +kernel
theorem dX10_findSums_244 : decode cX10_findSums 244 = .ok (.iload 6, 2) := by decide +kernel
theorem dX10_findSums_246 : decode cX10_findSums 246 = .ok (.ifCond .eq 28, 3) := by decide +kernel
theorem dX10_findSums_249 : decode cX10_findSums 249 = .ok (.lload 4, 2) := by decide +kernel
theorem dX10_findSums_251 : decode cX10_findSums 251 = .ok (.invokestatic 145, 3) := by decide +kernel
theorem dX10_findSums_254 : decode cX10_findSums 254 = .ok (.i2l, 1) := by decide +kernel
theorem dX10_findSums_255 : decode cX10_findSums 255 = .ok (.aload_n 0, 1) := by decide +kernel
theorem dX10_findSums_256 : decode cX10_findSums 256 = .ok (.getfield 56, 3) := by decide +kernel
theorem dX10_findSums_259 : decode cX10_findSums 259 = .ok (.iload_n 1, 1) := by decide +kernel
theorem dX10_findSums_260 : decode cX10_findSums 260 = .ok (.invokestatic 132, 3) := by decide +kernel
theorem dX10_findSums_263 : decode cX10_findSums 263 = .ok (.iload_n 2, 1) := by decide +kernel
theorem dX10_findSums_264 : decode cX10_findSums 264 = .ok (.iadd, 1) := by decide +kernel
theorem dX10_findSums_265 : decode cX10_findSums 265 = .ok (.iaload, 1) := by decide +kernel
theorem dX10_findSums_266 : decode cX10_findSums 266 = .ok (.i2l, 1) := by decide +kernel
theorem dX10_findSums_267 : decode cX10_findSums 267 = .ok (.lmul, 1) := by decide +kernel
theorem dX10_findSums_268 : decode cX10_findSums 268 = .ok (.invokestatic 145, 3) := by decide +kernel
theorem dX10_findSums_271 : decode cX10_findSums 271 = .ok (.goto 4, 3) := by decide +kernel
theorem dX10_findSums_274 : decode cX10_findSums 274 = .ok (.iconst 0, 1) := by decide +kernel
theorem dX10_findSums_275 : decode cX10_findSums 275 = .ok (.iastore, 1) := by decide +kernel
theorem dX10_findSums_276 : decode cX10_findSums 276 = .ok (.iinc 2 1, 3) := by decide +kernel
theorem dX10_findSums_279 : decode cX10_findSums 279 = .ok (.goto (-257), 3) := by decide +kernel
theorem dX10_findSums_282 : decode cX10_findSums 282 = .ok (.iinc 1 1, 3) := by decide +kernel
theorem dX10_findSums_285 : decode cX10_findSums 285 = .ok (.goto (-283), 3) := by decide +kernel
theorem dX10_findSums_288 : decode cX10_findSums 288 = .ok (.ldc 131, 2) := by decide +kernel
theorem dX10_findSums_290 : decode cX10_findSums 290 = .ok (.istore_n 1, 1) := by decide +kernel
theorem dX10_findSums_291 : decode cX10_findSums 291 = .ok (.aload_n 0, 1) := by decide +kernel
theorem dX10_findSums_292 : decode cX10_findSums 292 = .ok (.getfield 92, 3) := by decide +kernel
theorem dX10_findSums_295 : decode cX10_findSums 295 = .ok (.iconst 1, 1) := by decide +kernel
theorem dX10_findSums_296 : decode cX10_findSums 296 = .ok (.iadd, 1) := by decide +kernel
theorem dX10_findSums_297 : decode cX10_findSums 297 = .ok (.istore_n 2, 1) := by decide +kernel
theorem dX10_findSums_298 : decode cX10_findSums 298 = .ok (.iload_n 2, 1) := by decide +kernel
theorem dX10_findSums_299 : decode cX10_findSums 299 = .ok (.aload_n 0, 1) := by decide +kernel
theorem dX10_findSums_300 : decode cX10_findSums 300 = .ok (.getfield 13, 3) := by decide +kernel
theorem dX10_findSums_303 : decode cX10_findSums 303 = .ok (.if_icmp .gt 50, 3) := by decide +kernel
theorem dX10_findSums_306 : decode cX10_findSums 306 = .ok (.aload_n 0, 1) := by decide +kernel
theorem dX10_findSums_307 : decode cX10_findSums 307 = .ok (.getfield 59, 3) := by decide +kernel
theorem dX10_findSums_310 : decode cX10_findSums 310 = .ok (.aload_n 0, 1) := by decide +kernel
theorem dX10_findSums_311 : decode cX10_findSums 311 = .ok (.getfield 81, 3) := by decide +kernel
theorem dX10_findSums_314 : decode cX10_findSums 314 = .ok (.iconst 1, 1) := by decide +kernel
theorem dX10_findSums_315 : decode cX10_findSums 315 = .ok (.isub, 1) := by decide +kernel
theorem dX10_findSums_316 : decode cX10_findSums 316 = .ok (.invokestatic 132, 3) := by decide +kernel
theorem dX10_findSums_319 : decode cX10_findSums 319 = .ok (.iload_n 2, 1) := by decide +kernel
theorem dX10_findSums_320 : decode cX10_findSums 320 = .ok (.iadd, 1) := by decide +kernel
theorem dX10_findSums_321 : decode cX10_findSums 321 = .ok (.iaload, 1) := by decide +kernel
theorem dX10_findSums_322 : decode cX10_findSums 322 = .ok (.iload_n 1, 1) := by decide +kernel
theorem dX10_findSums_323 : decode cX10_findSums 323 = .ok (.if_icmp .ge 22, 3) := by decide +kernel
theorem dX10_findSums_326 : decode cX10_findSums 326 = .ok (.aload_n 0, 1) := by decide +kernel
theorem dX10_findSums_327 : decode cX10_findSums 327 = .ok (.getfield 59, 3) := by decide +kernel
theorem dX10_findSums_330 : decode cX10_findSums 330 = .ok (.aload_n 0, 1) := by decide +kernel
theorem dX10_findSums_331 : decode cX10_findSums 331 = .ok (.getfield 81, 3) := by decide +kernel
theorem dX10_findSums_334 : decode cX10_findSums 334 = .ok (.iconst 1, 1) := by decide +kernel
theorem dX10_findSums_335 : decode cX10_findSums 335 = .ok (.isub, 1) := by decide +kernel
theorem dX10_findSums_336 : decode cX10_findSums 336 = .ok (.invokestatic 132, 3) := by decide +kernel
theorem dX10_findSums_339 : decode cX10_findSums 339 = .ok (.iload_n 2, 1) := by decide +kernel
theorem dX10_findSums_340 : decode cX10_findSums 340 = .ok (.iadd, 1) := by decide +kernel
theorem dX10_findSums_341 : decode cX10_findSums 341 = .ok (.iaload, 1) := by decide +kernel
theorem dX10_findSums_342 : decode cX10_findSums 342 = .ok (.goto 4, 3) := by decide +kernel
theorem dX10_findSums_345 : decode cX10_findSums 345 = .ok (.iload_n 1, 1) := by decide +kernel
theorem dX10_findSums_346 : decode cX10_findSums 346 = .ok (.istore_n 1, 1) := by decide +kernel
theorem dX10_findSums_347 : decode cX10_findSums 347 = .ok (.iinc 2 1, 3) := by decide +kernel
theorem dX10_findSums_350 : decode cX10_findSums 350 = .ok (.goto (-52), 3) := by decide +kernel
theorem dX10_findSums_353 : decode cX10_findSums 353 = .ok (.iload_n 1, 1) := by decide +kernel
theorem dX10_findSums_354 : decode cX10_findSums 354 = .ok (.ireturn, 1) := by decide +kernel
theorem dX10_goesOn_0 : decode cX10_goesOn 0 = .ok (.aload_n 0, 1) := by decide +kernel
theorem dX10_goesOn_1 : decode cX10_goesOn 1 = .ok (.getfield 59, 3) := by decide +kernel
theorem dX10_goesOn_4 : decode cX10_goesOn 4 = .ok (.iload_n 1, 1) := by decide +kernel
theorem dX10_goesOn_5 : decode cX10_goesOn 5 = .ok (.invokestatic 132, 3) := by decide +kernel
theorem dX10_goesOn_8 : decode cX10_goesOn 8 = .ok (.iload_n 2, 1) := by decide +kernel
theorem dX10_goesOn_9 : decode cX10_goesOn 9 = .ok (.iadd, 1) := by decide +kernel
theorem dX10_goesOn_10 : decode cX10_goesOn 10 = .ok (.iaload, 1) := by decide +kernel
theorem dX10_goesOn_11 : decode cX10_goesOn 11 = .ok (.ldc 131, 2) := by decide +kernel
theorem dX10_goesOn_13 : decode cX10_goesOn 13 = .ok (.if_icmp .ge 73, 3) := by decide +kernel
theorem dX10_goesOn_16 : decode cX10_goesOn 16 = .ok (.aload_n 0, 1) := by decide +kernel
theorem dX10_goesOn_17 : decode cX10_goesOn 17 = .ok (.getfield 59, 3) := by decide +kernel
theorem dX10_goesOn_20 : decode cX10_goesOn 20 = .ok (.iload_n 1, 1) := by decide +kernel
theorem dX10_goesOn_21 : decode cX10_goesOn 21 = .ok (.iconst 1, 1) := by decide +kernel
theorem dX10_goesOn_22 : decode cX10_goesOn 22 = .ok (.iadd, 1) := by decide +kernel
theorem dX10_goesOn_23 : decode cX10_goesOn 23 = .ok (.invokestatic 132, 3) := by decide +kernel
theorem dX10_goesOn_26 : decode cX10_goesOn 26 = .ok (.iload_n 3, 1) := by decide +kernel
theorem dX10_goesOn_27 : decode cX10_goesOn 27 = .ok (.iadd, 1) := by decide +kernel
theorem dX10_goesOn_28 : decode cX10_goesOn 28 = .ok (.iaload, 1) := by decide +kernel
theorem dX10_goesOn_29 : decode cX10_goesOn 29 = .ok (.ldc 131, 2) := by decide +kernel
theorem dX10_goesOn_31 : decode cX10_goesOn 31 = .ok (.if_icmp .ge 55, 3) := by decide +kernel
theorem dX10_goesOn_34 : decode cX10_goesOn 34 = .ok (.aload_n 0, 1) := by decide +kernel
theorem dX10_goesOn_35 : decode cX10_goesOn 35 = .ok (.getfield 59, 3) := by decide +kernel
theorem dX10_goesOn_38 : decode cX10_goesOn 38 = .ok (.iload_n 1, 1) := by decide +kernel
theorem dX10_goesOn_39 : decode cX10_goesOn 39 = .ok (.invokestatic 132, 3) := by decide +kernel
theorem dX10_goesOn_42 : decode cX10_goesOn 42 = .ok (.iload_n 2, 1) := by decide +kernel
theorem dX10_goesOn_43 : decode cX10_goesOn 43 = .ok (.iadd, 1) := by decide +kernel
theorem dX10_goesOn_44 : decode cX10_goesOn 44 = .ok (.iaload, 1) := by decide +kernel
theorem dX10_goesOn_45 : decode cX10_goesOn 45 = .ok (.aload_n 0, 1) := by decide +kernel
theorem dX10_goesOn_46 : decode cX10_goesOn 46 = .ok (.iload_n 2, 1) := by decide +kernel
theorem dX10_goesOn_47 : decode cX10_goesOn 47 = .ok (.iload_n 3, 1) := by decide +kernel
theorem dX10_goesOn_48 : decode cX10_goesOn 48 = .ok (.invokevirtual 142, 3) := by decide +kernel
theorem dX10_goesOn_51 : decode cX10_goesOn 51 = .ok (.iadd, 1) := by decide +kernel
theorem dX10_goesOn_52 : decode cX10_goesOn 52 = .ok (.aload_n 0, 1) := by decide +kernel
theorem dX10_goesOn_53 : decode cX10_goesOn 53 = .ok (.getfield 53, 3) := by decide +kernel
theorem dX10_goesOn_56 : decode cX10_goesOn 56 = .ok (.iload_n 1, 1) := by decide +kernel
theorem dX10_goesOn_57 : decode cX10_goesOn 57 = .ok (.iconst 1, 1) := by decide +kernel
theorem dX10_goesOn_58 : decode cX10_goesOn 58 = .ok (.iadd, 1) := by decide +kernel
theorem dX10_goesOn_59 : decode cX10_goesOn 59 = .ok (.invokestatic 132, 3) := by decide +kernel
theorem dX10_goesOn_62 : decode cX10_goesOn 62 = .ok (.iload_n 3, 1) := by decide +kernel
theorem dX10_goesOn_63 : decode cX10_goesOn 63 = .ok (.iadd, 1) := by decide +kernel
theorem dX10_goesOn_64 : decode cX10_goesOn 64 = .ok (.iaload, 1) := by decide +kernel
theorem dX10_goesOn_65 : decode cX10_goesOn 65 = .ok (.iadd, 1) := by decide +kernel
theorem dX10_goesOn_66 : decode cX10_goesOn 66 = .ok (.aload_n 0, 1) := by decide +kernel
theorem dX10_goesOn_67 : decode cX10_goesOn 67 = .ok (.getfield 59, 3) := by decide +kernel
theorem dX10_goesOn_70 : decode cX10_goesOn 70 = .ok (.iload_n 1, 1) := by decide +kernel
theorem dX10_goesOn_71 : decode cX10_goesOn 71 = .ok (.iconst 1, 1) := by decide +kernel
theorem dX10_goesOn_72 : decode cX10_goesOn 72 = .ok (.iadd, 1) := by decide +kernel
theorem dX10_goesOn_73 : decode cX10_goesOn 73 = .ok (.invokestatic 132, 3) := by decide +kernel
theorem dX10_goesOn_76 : decode cX10_goesOn 76 = .ok (.iload_n 3, 1) := by decide +kernel
theorem dX10_goesOn_77 : decode cX10_goesOn 77 = .ok (.iadd, 1) := by decide +kernel
theorem dX10_goesOn_78 : decode cX10_goesOn 78 = .ok (.iaload, 1) := by decide +kernel
theorem dX10_goesOn_79 : decode cX10_goesOn 79 = .ok (.if_icmp .ne 7, 3) := by decide +kernel
theorem dX10_goesOn_82 : decode cX10_goesOn 82 = .ok (.iconst 1, 1) := by decide +kernel
theorem dX10_goesOn_83 : decode cX10_goesOn 83 = .ok (.goto 4, 3) := by decide +kernel
theorem dX10_goesOn_86 : decode cX10_goesOn 86 = .ok (.iconst 0, 1) := by decide +kernel
theorem dX10_goesOn_87 : decode cX10_goesOn 87 = .ok (.ireturn, 1) := by decide +kernel
theorem dX10_markBack_0 : decode cX10_markBack 0 = .ok (.aload_n 0, 1) := by decide +kernel
theorem dX10_markBack_1 : decode cX10_markBack 1 = .ok (.getfield 81, 3) := by decide +kernel
theorem dX10_markBack_4 : decode cX10_markBack 4 = .ok (.iconst 1, 1) := by decide +kernel
theorem dX10_markBack_5 : decode cX10_markBack 5 = .ok (.isub, 1) := by decide +kernel
theorem dX10_markBack_6 : decode cX10_markBack 6 = .ok (.istore_n 2, 1) := by decide +kernel
theorem dX10_markBack_7 : decode cX10_markBack 7 = .ok (.iload_n 2, 1) := by decide +kernel
theorem dX10_markBack_8 : decode cX10_markBack 8 = .ok (.ifCond .lt 148, 3) := by decide +kernel
theorem dX10_markBack_11 : decode cX10_markBack 11 = .ok (.aload_n 0, 1) := by decide +kernel
theorem dX10_markBack_12 : decode cX10_markBack 12 = .ok (.getfield 92, 3) := by decide +kernel
theorem dX10_markBack_15 : decode cX10_markBack 15 = .ok (.iconst 1, 1) := by decide +kernel
theorem dX10_markBack_16 : decode cX10_markBack 16 = .ok (.iadd, 1) := by decide +kernel
theorem dX10_markBack_17 : decode cX10_markBack 17 = .ok (.istore_n 3, 1) := by decide +kernel
theorem dX10_markBack_18 : decode cX10_markBack 18 = .ok (.iload_n 3, 1) := by decide +kernel
theorem dX10_markBack_19 : decode cX10_markBack 19 = .ok (.aload_n 0, 1) := by decide +kernel
theorem dX10_markBack_20 : decode cX10_markBack 20 = .ok (.getfield 13, 3) := by decide +kernel
theorem dX10_markBack_23 : decode cX10_markBack 23 = .ok (.if_icmp .gt 127, 3) := by decide +kernel
theorem dX10_markBack_26 : decode cX10_markBack 26 = .ok (.iload_n 2, 1) := by decide +kernel
theorem dX10_markBack_27 : decode cX10_markBack 27 = .ok (.aload_n 0, 1) := by decide +kernel
theorem dX10_markBack_28 : decode cX10_markBack 28 = .ok (.getfield 81, 3) := by decide +kernel
theorem dX10_markBack_31 : decode cX10_markBack 31 = .ok (.iconst 1, 1) := by decide +kernel
theorem dX10_markBack_32 : decode cX10_markBack 32 = .ok (.isub, 1) := by decide +kernel
theorem dX10_markBack_33 : decode cX10_markBack 33 = .ok (.if_icmp .ne 22, 3) := by decide +kernel
theorem dX10_markBack_36 : decode cX10_markBack 36 = .ok (.aload_n 0, 1) := by decide +kernel
theorem dX10_markBack_37 : decode cX10_markBack 37 = .ok (.getfield 59, 3) := by decide +kernel
theorem dX10_markBack_40 : decode cX10_markBack 40 = .ok (.iload_n 2, 1) := by decide +kernel
theorem dX10_markBack_41 : decode cX10_markBack 41 = .ok (.invokestatic 132, 3) := by decide +kernel
theorem dX10_markBack_44 : decode cX10_markBack 44 = .ok (.iload_n 3, 1) := by decide +kernel
theorem dX10_markBack_45 : decode cX10_markBack 45 = .ok (.iadd, 1) := by decide +kernel
theorem dX10_markBack_46 : decode cX10_markBack 46 = .ok (.iaload, 1) := by decide +kernel
theorem dX10_markBack_47 : decode cX10_markBack 47 = .ok (.iload_n 1, 1) := by decide +kernel
theorem dX10_markBack_48 : decode cX10_markBack 48 = .ok (.if_icmp .ne 7, 3) := by decide +kernel
theorem dX10_markBack_51 : decode cX10_markBack 51 = .ok (.iconst 1, 1) := by decide +kernel
theorem dX10_markBack_52 : decode cX10_markBack 52 = .ok (.goto 4, 3) := by decide +kernel
theorem dX10_markBack_55 : decode cX10_markBack 55 = .ok (.iconst 0, 1) := by decide +kernel
theorem dX10_markBack_56 : decode cX10_markBack 56 = .ok (.istore 4, 2) := by decide +kernel
theorem dX10_markBack_58 : decode cX10_markBack 58 = .ok (.aload_n 0, 1) := by decide +kernel
theorem dX10_markBack_59 : decode cX10_markBack 59 = .ok (.getfield 92, 3) := by decide +kernel
theorem dX10_markBack_62 : decode cX10_markBack 62 = .ok (.iconst 1, 1) := by decide +kernel
theorem dX10_markBack_63 : decode cX10_markBack 63 = .ok (.iadd, 1) := by decide +kernel
theorem dX10_markBack_64 : decode cX10_markBack 64 = .ok (.istore 5, 2) := by decide +kernel
theorem dX10_markBack_66 : decode cX10_markBack 66 = .ok (.iload 5, 2) := by decide +kernel
theorem dX10_markBack_68 : decode cX10_markBack 68 = .ok (.aload_n 0, 1) := by decide +kernel
theorem dX10_markBack_69 : decode cX10_markBack 69 = .ok (.getfield 13, 3) := by decide +kernel
theorem dX10_markBack_72 : decode cX10_markBack 72 = .ok (.if_icmp .gt 59, 3) := by decide +kernel
theorem dX10_markBack_75 : decode cX10_markBack 75 = .ok (.iload_n 2, 1) := by decide +kernel
theorem dX10_markBack_76 : decode cX10_markBack 76 = .ok (.aload_n 0, 1) := by decide +kernel
theorem dX10_markBack_77 : decode cX10_markBack 77 = .ok (.getfield 81, 3) := by decide +kernel
theorem dX10_markBack_80 : decode cX10_markBack 80 = .ok (.iconst 1, 1) := by decide +kernel
theorem dX10_markBack_81 : decode cX10_markBack 81 = .ok (.isub, 1) := by decide +kernel
theorem dX10_markBack_82 : decode cX10_markBack 82 = .ok (.if_icmp .ge 49, 3) := by decide +kernel
theorem dX10_markBack_85 : decode cX10_markBack 85 = .ok (.iload 4, 2) := by decide +kernel
theorem dX10_markBack_87 : decode cX10_markBack 87 = .ok (.ifCond .ne 31, 3) := by decide +kernel
theorem dX10_markBack_90 : decode cX10_markBack 90 = .ok (.aload_n 0, 1) := by decide +kernel
theorem dX10_markBack_91 : decode cX10_markBack 91 = .ok (.getfield 65, 3) := by decide +kernel
theorem dX10_markBack_94 : decode cX10_markBack 94 = .ok (.iload_n 2, 1) := by decide +kernel
theorem dX10_markBack_95 : decode cX10_markBack 95 = .ok (.iconst 1, 1) := by decide +kernel
theorem dX10_markBack_96 : decode cX10_markBack 96 = .ok (.iadd, 1) := by decide +kernel
theorem dX10_markBack_97 : decode cX10_markBack 97 = .ok (.invokestatic 132, 3) := by decide +kernel
theorem dX10_markBack_100 : decode cX10_markBack 100 = .ok (.iload 5, 2) := by decide +kernel
theorem dX10_markBack_102 : decode cX10_markBack 102 = .ok (.iadd, 1) := by decide +kernel
theorem dX10_markBack_103 : decode cX10_markBack 103 = .ok (.baload, 1) := by decide +kernel
theorem dX10_markBack_104 : decode cX10_markBack 104 = .ok (.ifCond .eq 18, 3) := by decide +kernel
theorem dX10_markBack_107 : decode cX10_markBack 107 = .ok (.aload_n 0, 1) := by decide +kernel
theorem dX10_markBack_108 : decode cX10_markBack 108 = .ok (.iload_n 2, 1) := by decide +kernel
theorem dX10_markBack_109 : decode cX10_markBack 109 = .ok (.iload_n 3, 1) := by decide +kernel
theorem dX10_markBack_110 : decode cX10_markBack 110 = .ok (.iload 5, 2) := by decide +kernel
theorem dX10_markBack_112 : decode cX10_markBack 112 = .ok (.invokevirtual 149, 3) := by decide +kernel
theorem dX10_markBack_115 : decode cX10_markBack 115 = .ok (.ifCond .eq 7, 3) := by decide +kernel
theorem dX10_markBack_118 : decode cX10_markBack 118 = .ok (.iconst 1, 1) := by decide +kernel
theorem dX10_markBack_119 : decode cX10_markBack 119 = .ok (.goto 4, 3) := by decide +kernel
theorem dX10_markBack_122 : decode cX10_markBack 122 = .ok (.iconst 0, 1) := by decide +kernel
theorem dX10_markBack_123 : decode cX10_markBack 123 = .ok (.istore 4, 2) := by decide +kernel
theorem dX10_markBack_125 : decode cX10_markBack 125 = .ok (.iinc 5 1, 3) := by decide +kernel
theorem dX10_markBack_128 : decode cX10_markBack 128 = .ok (.goto (-62), 3) := by decide +kernel
theorem dX10_markBack_131 : decode cX10_markBack 131 = .ok (.aload_n 0, 1) := by decide +kernel
theorem dX10_markBack_132 : decode cX10_markBack 132 = .ok (.getfield 65, 3) := by decide +kernel
theorem dX10_markBack_135 : decode cX10_markBack 135 = .ok (.iload_n 2, 1) := by decide +kernel
theorem dX10_markBack_136 : decode cX10_markBack 136 = .ok (.invokestatic 132, 3) := by decide +kernel
theorem dX10_markBack_139 : decode cX10_markBack 139 = .ok (.iload_n 3, 1) := by decide +kernel
theorem dX10_markBack_140 : decode cX10_markBack 140 = .ok (.iadd, 1) := by decide +kernel
theorem dX10_markBack_141 : decode cX10_markBack 141 = .ok (.iload 4, 2) := by decide +kernel
theorem dX10_markBack_143 : decode cX10_markBack 143 = .ok (.bastore, 1) := by decide +kernel
theorem dX10_markBack_144 : decode cX10_markBack 144 = .ok (.iinc 3 1, 3) := by decide +kernel
theorem dX10_markBack_147 : decode cX10_markBack 147 = .ok (.goto (-129), 3) := by decide +kernel
theorem dX10_markBack_150 : decode cX10_markBack 150 = .ok (.iinc 2 (-1), 3) := by decide +kernel
theorem dX10_markBack_153 : decode cX10_markBack 153 = .ok (.goto (-146), 3) := by decide +kernel
theorem dX10_markBack_156 : decode cX10_markBack 156 = .ok (.return_, 1) := by decide +kernel
theorem dX10_takes_0 : decode cX10_takes 0 = .ok (.aload_n 0, 1) := by decide +kernel
theorem dX10_takes_1 : decode cX10_takes 1 = .ok (.iload_n 1, 1) := by decide +kernel
theorem dX10_takes_2 : decode cX10_takes 2 = .ok (.invokevirtual 116, 3) := by decide +kernel
theorem dX10_takes_5 : decode cX10_takes 5 = .ok (.iconst 0, 1) := by decide +kernel
theorem dX10_takes_6 : decode cX10_takes 6 = .ok (.istore_n 3, 1) := by decide +kernel
theorem dX10_takes_7 : decode cX10_takes 7 = .ok (.iconst 0, 1) := by decide +kernel
theorem dX10_takes_8 : decode cX10_takes 8 = .ok (.istore 4, 2) := by decide +kernel
theorem dX10_takes_10 : decode cX10_takes 10 = .ok (.aload_n 0, 1) := by decide +kernel
theorem dX10_takes_11 : decode cX10_takes 11 = .ok (.getfield 92, 3) := by decide +kernel
theorem dX10_takes_14 : decode cX10_takes 14 = .ok (.iconst 1, 1) := by decide +kernel
theorem dX10_takes_15 : decode cX10_takes 15 = .ok (.iadd, 1) := by decide +kernel
theorem dX10_takes_16 : decode cX10_takes 16 = .ok (.istore 5, 2) := by decide +kernel
theorem dX10_takes_18 : decode cX10_takes 18 = .ok (.iload 5, 2) := by decide +kernel
theorem dX10_takes_20 : decode cX10_takes 20 = .ok (.iload_n 2, 1) := by decide +kernel
theorem dX10_takes_21 : decode cX10_takes 21 = .ok (.if_icmp .gt 180, 3) := by decide +kernel
theorem dX10_takes_24 : decode cX10_takes 24 = .ok (.iload 4, 2) := by decide +kernel
theorem dX10_takes_26 : decode cX10_takes 26 = .ok (.ifCond .ne 175, 3) := by decide +kernel
theorem dX10_takes_29 : decode cX10_takes 29 = .ok (.iconst 0, 1) := by decide +kernel
theorem dX10_takes_30 : decode cX10_takes 30 = .ok (.istore 6, 2) := by decide +kernel
theorem dX10_takes_32 : decode cX10_takes 32 = .ok (.iload 6, 2) := by decide +kernel
theorem dX10_takes_34 : decode cX10_takes 34 = .ok (.aload_n 0, 1) := by decide +kernel
theorem dX10_takes_35 : decode cX10_takes 35 = .ok (.getfield 113, 3) := by decide +kernel
theorem dX10_takes_38 : decode cX10_takes 38 = .ok (.if_icmp .ge 157, 3) := by decide +kernel
theorem dX10_takes_41 : decode cX10_takes 41 = .ok (.iload 4, 2) := by decide +kernel
theorem dX10_takes_43 : decode cX10_takes 43 = .ok (.ifCond .ne 152, 3) := by decide +kernel
theorem dX10_takes_46 : decode cX10_takes 46 = .ok (.aload_n 0, 1) := by decide +kernel
theorem dX10_takes_47 : decode cX10_takes 47 = .ok (.iload_n 1, 1) := by decide +kernel
theorem dX10_takes_48 : decode cX10_takes 48 = .ok (.iload 6, 2) := by decide +kernel
theorem dX10_takes_50 : decode cX10_takes 50 = .ok (.iload 5, 2) := by decide +kernel
theorem dX10_takes_52 : decode cX10_takes 52 = .ok (.invokevirtual 120, 3) := by decide +kernel
theorem dX10_takes_55 : decode cX10_takes 55 = .ok (.ifCond .eq 134, 3) := by decide +kernel
theorem dX10_takes_58 : decode cX10_takes 58 = .ok (.iload 5, 2) := by decide +kernel
theorem dX10_takes_60 : decode cX10_takes 60 = .ok (.iload_n 2, 1) := by decide +kernel
theorem dX10_takes_61 : decode cX10_takes 61 = .ok (.if_icmp .ne 31, 3) := by decide +kernel
theorem dX10_takes_64 : decode cX10_takes 64 = .ok (.aload_n 0, 1) := by decide +kernel
theorem dX10_takes_65 : decode cX10_takes 65 = .ok (.iload_n 1, 1) := by decide +kernel
theorem dX10_takes_66 : decode cX10_takes 66 = .ok (.iload 6, 2) := by decide +kernel
theorem dX10_takes_68 : decode cX10_takes 68 = .ok (.iload 5, 2) := by decide +kernel
theorem dX10_takes_70 : decode cX10_takes 70 = .ok (.invokevirtual 127, 3) := by decide +kernel
theorem dX10_takes_73 : decode cX10_takes 73 = .ok (.aload_n 0, 1) := by decide +kernel
theorem dX10_takes_74 : decode cX10_takes 74 = .ok (.getfield 53, 3) := by decide +kernel
theorem dX10_takes_77 : decode cX10_takes 77 = .ok (.iload_n 1, 1) := by decide +kernel
theorem dX10_takes_78 : decode cX10_takes 78 = .ok (.invokestatic 132, 3) := by decide +kernel
theorem dX10_takes_81 : decode cX10_takes 81 = .ok (.iload 5, 2) := by decide +kernel
theorem dX10_takes_83 : decode cX10_takes 83 = .ok (.iadd, 1) := by decide +kernel
theorem dX10_takes_84 : decode cX10_takes 84 = .ok (.iaload, 1) := by decide +kernel
theorem dX10_takes_85 : decode cX10_takes 85 = .ok (.if_icmp .ne 7, 3) := by decide +kernel
theorem dX10_takes_88 : decode cX10_takes 88 = .ok (.iconst 1, 1) := by decide +kernel
theorem dX10_takes_89 : decode cX10_takes 89 = .ok (.goto 4, 3) := by decide +kernel
theorem dX10_takes_92 : decode cX10_takes 92 = .ok (.iconst 0, 1) := by decide +kernel
theorem dX10_takes_93 : decode cX10_takes 93 = .ok (.istore 4, 2) := by decide +kernel
theorem dX10_takes_95 : decode cX10_takes 95 = .ok (.iload 4, 2) := by decide +kernel
theorem dX10_takes_97 : decode cX10_takes 97 = .ok (.ifCond .eq 89, 3) := by decide +kernel
theorem dX10_takes_100 : decode cX10_takes 100 = .ok (.aload_n 0, 1) := by decide +kernel
theorem dX10_takes_101 : decode cX10_takes 101 = .ok (.getfield 29, 3) := by decide +kernel
theorem dX10_takes_104 : decode cX10_takes 104 = .ok (.iload_n 1, 1) := by decide +kernel
theorem dX10_takes_105 : decode cX10_takes 105 = .ok (.iload 5, 2) := by decide +kernel
theorem dX10_takes_107 : decode cX10_takes 107 = .ok (.iastore, 1) := by decide +kernel
theorem dX10_takes_108 : decode cX10_takes 108 = .ok (.aload_n 0, 1) := by decide +kernel
theorem dX10_takes_109 : decode cX10_takes 109 = .ok (.getfield 35, 3) := by decide +kernel
theorem dX10_takes_112 : decode cX10_takes 112 = .ok (.iload_n 1, 1) := by decide +kernel
theorem dX10_takes_113 : decode cX10_takes 113 = .ok (.aload_n 0, 1) := by decide +kernel
theorem dX10_takes_114 : decode cX10_takes 114 = .ok (.getfield 53, 3) := by decide +kernel
theorem dX10_takes_117 : decode cX10_takes 117 = .ok (.iload_n 1, 1) := by decide +kernel
theorem dX10_takes_118 : decode cX10_takes 118 = .ok (.invokestatic 132, 3) := by decide +kernel
theorem dX10_takes_121 : decode cX10_takes 121 = .ok (.iload 5, 2) := by decide +kernel
theorem dX10_takes_123 : decode cX10_takes 123 = .ok (.iadd, 1) := by decide +kernel
theorem dX10_takes_124 : decode cX10_takes 124 = .ok (.iaload, 1) := by decide +kernel
theorem dX10_takes_125 : decode cX10_takes 125 = .ok (.iastore, 1) := by decide +kernel
theorem dX10_takes_126 : decode cX10_takes 126 = .ok (.aload_n 0, 1) := by decide +kernel
theorem dX10_takes_127 : decode cX10_takes 127 = .ok (.getfield 38, 3) := by decide +kernel
theorem dX10_takes_130 : decode cX10_takes 130 = .ok (.iload_n 1, 1) := by decide +kernel
theorem dX10_takes_131 : decode cX10_takes 131 = .ok (.iload_n 3, 1) := by decide +kernel
theorem dX10_takes_132 : decode cX10_takes 132 = .ok (.iastore, 1) := by decide +kernel
theorem dX10_takes_133 : decode cX10_takes 133 = .ok (.iconst 0, 1) := by decide +kernel
theorem dX10_takes_134 : decode cX10_takes 134 = .ok (.istore 7, 2) := by decide +kernel
theorem dX10_takes_136 : decode cX10_takes 136 = .ok (.iload 7, 2) := by decide +kernel
theorem dX10_takes_138 : decode cX10_takes 138 = .ok (.iconst 4, 1) := by decide +kernel
theorem dX10_takes_139 : decode cX10_takes 139 = .ok (.if_icmp .ge 47, 3) := by decide +kernel
theorem dX10_takes_142 : decode cX10_takes 142 = .ok (.aload_n 0, 1) := by decide +kernel
theorem dX10_takes_143 : decode cX10_takes 143 = .ok (.getfield 32, 3) := by decide +kernel
theorem dX10_takes_146 : decode cX10_takes 146 = .ok (.iconst 4, 1) := by decide +kernel
theorem dX10_takes_147 : decode cX10_takes 147 = .ok (.iload_n 1, 1) := by decide +kernel
theorem dX10_takes_148 : decode cX10_takes 148 = .ok (.imul, 1) := by decide +kernel
theorem dX10_takes_149 : decode cX10_takes 149 = .ok (.iload 7, 2) := by decide +kernel
theorem dX10_takes_151 : decode cX10_takes 151 = .ok (.iadd, 1) := by decide +kernel
theorem dX10_takes_152 : decode cX10_takes 152 = .ok (.iload 7, 2) := by decide +kernel
theorem dX10_takes_154 : decode cX10_takes 154 = .ok (.aload_n 0, 1) := by decide +kernel
theorem dX10_takes_155 : decode cX10_takes 155 = .ok (.getfield 20, 3) := by decide +kernel
theorem dX10_takes_158 : decode cX10_takes 158 = .ok (.iload_n 1, 1) := by decide +kernel
theorem dX10_takes_159 : decode cX10_takes 159 = .ok (.iaload, 1) := by decide +kernel
theorem dX10_takes_160 : decode cX10_takes 160 = .ok (.if_icmp .ge 18, 3) := by decide +kernel
theorem dX10_takes_163 : decode cX10_takes 163 = .ok (.aload_n 0, 1) := by decide +kernel
theorem dX10_takes_164 : decode cX10_takes 164 = .ok (.getfield 47, 3) := by decide +kernel
theorem dX10_takes_167 : decode cX10_takes 167 = .ok (.iconst 4, 1) := by decide +kernel
theorem dX10_takes_168 : decode cX10_takes 168 = .ok (.iload 6, 2) := by decide +kernel
theorem dX10_takes_170 : decode cX10_takes 170 = .ok (.imul, 1) := by decide +kernel
theorem dX10_takes_171 : decode cX10_takes 171 = .ok (.iload 7, 2) := by decide +kernel
theorem dX10_takes_173 : decode cX10_takes 173 = .ok (.iadd, 1) := by decide +kernel
theorem dX10_takes_174 : decode cX10_takes 174 = .ok (.iaload, 1) := by decide +kernel
theorem dX10_takes_175 : decode cX10_takes 175 = .ok (.goto 4, 3) := by decide +kernel
theorem dX10_takes_178 : decode cX10_takes 178 = .ok (.iconst (-1), 1) := by decide +kernel
theorem dX10_takes_179 : decode cX10_takes 179 = .ok (.iastore, 1) := by decide +kernel
theorem dX10_takes_180 : decode cX10_takes 180 = .ok (.iinc 7 1, 3) := by decide +kernel
theorem dX10_takes_183 : decode cX10_takes 183 = .ok (.goto (-47), 3) := by decide +kernel
theorem dX10_takes_186 : decode cX10_takes 186 = .ok (.iinc 3 1, 3) := by decide +kernel
theorem dX10_takes_189 : decode cX10_takes 189 = .ok (.iinc 6 1, 3) := by decide +kernel
theorem dX10_takes_192 : decode cX10_takes 192 = .ok (.goto (-160), 3) := by decide +kernel
theorem dX10_takes_195 : decode cX10_takes 195 = .ok (.iinc 5 1, 3) := by decide +kernel
theorem dX10_takes_198 : decode cX10_takes 198 = .ok (.goto (-180), 3) := by decide +kernel
theorem dX10_takes_201 : decode cX10_takes 201 = .ok (.return_, 1) := by decide +kernel
theorem dX10_plan_0 : decode cX10_plan 0 = .ok (.aload_n 0, 1) := by decide +kernel
theorem dX10_plan_1 : decode cX10_plan 1 = .ok (.getfield 81, 3) := by decide +kernel
theorem dX10_plan_4 : decode cX10_plan 4 = .ok (.ifCond .ne 6, 3) := by decide +kernel
theorem dX10_plan_7 : decode cX10_plan 7 = .ok (.bipush (-4), 2) := by decide +kernel
theorem dX10_plan_9 : decode cX10_plan 9 = .ok (.ireturn, 1) := by decide +kernel
theorem dX10_plan_10 : decode cX10_plan 10 = .ok (.aload_n 0, 1) := by decide +kernel
theorem dX10_plan_11 : decode cX10_plan 11 = .ok (.iconst 0, 1) := by decide +kernel
theorem dX10_plan_12 : decode cX10_plan 12 = .ok (.putfield 88, 3) := by decide +kernel
theorem dX10_plan_15 : decode cX10_plan 15 = .ok (.aload_n 0, 1) := by decide +kernel
theorem dX10_plan_16 : decode cX10_plan 16 = .ok (.invokevirtual 152, 3) := by decide +kernel
theorem dX10_plan_19 : decode cX10_plan 19 = .ok (.istore_n 1, 1) := by decide +kernel
theorem dX10_plan_20 : decode cX10_plan 20 = .ok (.iload_n 1, 1) := by decide +kernel
theorem dX10_plan_21 : decode cX10_plan 21 = .ok (.ldc 131, 2) := by decide +kernel
theorem dX10_plan_23 : decode cX10_plan 23 = .ok (.if_icmp .ne 5, 3) := by decide +kernel
theorem dX10_plan_26 : decode cX10_plan 26 = .ok (.iconst (-1), 1) := by decide +kernel
theorem dX10_plan_27 : decode cX10_plan 27 = .ok (.ireturn, 1) := by decide +kernel
theorem dX10_plan_28 : decode cX10_plan 28 = .ok (.aload_n 0, 1) := by decide +kernel
theorem dX10_plan_29 : decode cX10_plan 29 = .ok (.iconst 1, 1) := by decide +kernel
theorem dX10_plan_30 : decode cX10_plan 30 = .ok (.putfield 88, 3) := by decide +kernel
theorem dX10_plan_33 : decode cX10_plan 33 = .ok (.aload_n 0, 1) := by decide +kernel
theorem dX10_plan_34 : decode cX10_plan 34 = .ok (.iload_n 1, 1) := by decide +kernel
theorem dX10_plan_35 : decode cX10_plan 35 = .ok (.invokevirtual 156, 3) := by decide +kernel
theorem dX10_plan_38 : decode cX10_plan 38 = .ok (.iconst (-1), 1) := by decide +kernel
theorem dX10_plan_39 : decode cX10_plan 39 = .ok (.istore_n 2, 1) := by decide +kernel
theorem dX10_plan_40 : decode cX10_plan 40 = .ok (.iconst 0, 1) := by decide +kernel
theorem dX10_plan_41 : decode cX10_plan 41 = .ok (.istore_n 3, 1) := by decide +kernel
theorem dX10_plan_42 : decode cX10_plan 42 = .ok (.iload_n 3, 1) := by decide +kernel
theorem dX10_plan_43 : decode cX10_plan 43 = .ok (.aload_n 0, 1) := by decide +kernel
theorem dX10_plan_44 : decode cX10_plan 44 = .ok (.getfield 81, 3) := by decide +kernel
theorem dX10_plan_47 : decode cX10_plan 47 = .ok (.if_icmp .ge 66, 3) := by decide +kernel
theorem dX10_plan_50 : decode cX10_plan 50 = .ok (.aload_n 0, 1) := by decide +kernel
theorem dX10_plan_51 : decode cX10_plan 51 = .ok (.getfield 92, 3) := by decide +kernel
theorem dX10_plan_54 : decode cX10_plan 54 = .ok (.iconst 1, 1) := by decide +kernel
theorem dX10_plan_55 : decode cX10_plan 55 = .ok (.iadd, 1) := by decide +kernel
theorem dX10_plan_56 : decode cX10_plan 56 = .ok (.istore 4, 2) := by decide +kernel
theorem dX10_plan_58 : decode cX10_plan 58 = .ok (.aload_n 0, 1) := by decide +kernel
theorem dX10_plan_59 : decode cX10_plan 59 = .ok (.getfield 65, 3) := by decide +kernel
theorem dX10_plan_62 : decode cX10_plan 62 = .ok (.iload_n 3, 1) := by decide +kernel
theorem dX10_plan_63 : decode cX10_plan 63 = .ok (.invokestatic 132, 3) := by decide +kernel
theorem dX10_plan_66 : decode cX10_plan 66 = .ok (.iload 4, 2) := by decide +kernel
theorem dX10_plan_68 : decode cX10_plan 68 = .ok (.iadd, 1) := by decide +kernel
theorem dX10_plan_69 : decode cX10_plan 69 = .ok (.baload, 1) := by decide +kernel
theorem dX10_plan_70 : decode cX10_plan 70 = .ok (.ifCond .eq 21, 3) := by decide +kernel
theorem dX10_plan_73 : decode cX10_plan 73 = .ok (.iload_n 2, 1) := by decide +kernel
theorem dX10_plan_74 : decode cX10_plan 74 = .ok (.iconst (-1), 1) := by decide +kernel
theorem dX10_plan_75 : decode cX10_plan 75 = .ok (.if_icmp .eq 22, 3) := by decide +kernel
theorem dX10_plan_78 : decode cX10_plan 78 = .ok (.aload_n 0, 1) := by decide +kernel
theorem dX10_plan_79 : decode cX10_plan 79 = .ok (.iload_n 3, 1) := by decide +kernel
theorem dX10_plan_80 : decode cX10_plan 80 = .ok (.iconst 1, 1) := by decide +kernel
theorem dX10_plan_81 : decode cX10_plan 81 = .ok (.isub, 1) := by decide +kernel
theorem dX10_plan_82 : decode cX10_plan 82 = .ok (.iload_n 2, 1) := by decide +kernel
theorem dX10_plan_83 : decode cX10_plan 83 = .ok (.iload 4, 2) := by decide +kernel
theorem dX10_plan_85 : decode cX10_plan 85 = .ok (.invokevirtual 149, 3) := by decide +kernel
theorem dX10_plan_88 : decode cX10_plan 88 = .ok (.ifCond .ne 9, 3) := by decide +kernel
theorem dX10_plan_91 : decode cX10_plan 91 = .ok (.iinc 4 1, 3) := by decide +kernel
theorem dX10_plan_94 : decode cX10_plan 94 = .ok (.goto (-36), 3) := by decide +kernel
theorem dX10_plan_97 : decode cX10_plan 97 = .ok (.aload_n 0, 1) := by decide +kernel
theorem dX10_plan_98 : decode cX10_plan 98 = .ok (.iload_n 3, 1) := by decide +kernel
theorem dX10_plan_99 : decode cX10_plan 99 = .ok (.iload 4, 2) := by decide +kernel
theorem dX10_plan_101 : decode cX10_plan 101 = .ok (.invokevirtual 159, 3) := by decide +kernel
theorem dX10_plan_104 : decode cX10_plan 104 = .ok (.iload 4, 2) := by decide +kernel
theorem dX10_plan_106 : decode cX10_plan 106 = .ok (.istore_n 2, 1) := by decide +kernel
theorem dX10_plan_107 : decode cX10_plan 107 = .ok (.iinc 3 1, 3) := by decide +kernel
theorem dX10_plan_110 : decode cX10_plan 110 = .ok (.goto (-68), 3) := by decide +kernel
theorem dX10_plan_113 : decode cX10_plan 113 = .ok (.iload_n 1, 1) := by decide +kernel
theorem dX10_plan_114 : decode cX10_plan 114 = .ok (.ireturn, 1) := by decide +kernel
theorem dX10_planned_0 : decode cX10_planned 0 = .ok (.iload_n 2, 1) := by decide +kernel
theorem dX10_planned_1 : decode cX10_planned 1 = .ok (.iconst 0, 1) := by decide +kernel
theorem dX10_planned_2 : decode cX10_planned 2 = .ok (.bipush 6, 2) := by decide +kernel
theorem dX10_planned_4 : decode cX10_planned 4 = .ok (.invokestatic 84, 3) := by decide +kernel
theorem dX10_planned_7 : decode cX10_planned 7 = .ok (.ifCond .ne 6, 3) := by decide +kernel
theorem dX10_planned_10 : decode cX10_planned 10 = .ok (.bipush (-2), 2) := by decide +kernel
theorem dX10_planned_12 : decode cX10_planned 12 = .ok (.ireturn, 1) := by decide +kernel
theorem dX10_planned_13 : decode cX10_planned 13 = .ok (.aload_n 0, 1) := by decide +kernel
theorem dX10_planned_14 : decode cX10_planned 14 = .ok (.getfield 88, 3) := by decide +kernel
theorem dX10_planned_17 : decode cX10_planned 17 = .ok (.ifCond .eq 11, 3) := by decide +kernel
theorem dX10_planned_20 : decode cX10_planned 20 = .ok (.aload_n 0, 1) := by decide +kernel
theorem dX10_planned_21 : decode cX10_planned 21 = .ok (.iload_n 1, 1) := by decide +kernel
theorem dX10_planned_22 : decode cX10_planned 22 = .ok (.invokevirtual 99, 3) := by decide +kernel
theorem dX10_planned_25 : decode cX10_planned 25 = .ok (.ifCond .ne 5, 3) := by decide +kernel
theorem dX10_planned_28 : decode cX10_planned 28 = .ok (.iconst (-1), 1) := by decide +kernel
theorem dX10_planned_29 : decode cX10_planned 29 = .ok (.ireturn, 1) := by decide +kernel
theorem dX10_planned_30 : decode cX10_planned 30 = .ok (.iload_n 2, 1) := by decide +kernel
theorem dX10_planned_31 : decode cX10_planned 31 = .ok (.ifCond .ne 12, 3) := by decide +kernel
theorem dX10_planned_34 : decode cX10_planned 34 = .ok (.aload_n 0, 1) := by decide +kernel
theorem dX10_planned_35 : decode cX10_planned 35 = .ok (.getfield 29, 3) := by decide +kernel
theorem dX10_planned_38 : decode cX10_planned 38 = .ok (.iload_n 1, 1) := by decide +kernel
theorem dX10_planned_39 : decode cX10_planned 39 = .ok (.iaload, 1) := by decide +kernel
theorem dX10_planned_40 : decode cX10_planned 40 = .ok (.goto 44, 3) := by decide +kernel
theorem dX10_planned_43 : decode cX10_planned 43 = .ok (.iload_n 2, 1) := by decide +kernel
theorem dX10_planned_44 : decode cX10_planned 44 = .ok (.iconst 5, 1) := by decide +kernel
theorem dX10_planned_45 : decode cX10_planned 45 = .ok (.if_icmp .ne 12, 3) := by decide +kernel
theorem dX10_planned_48 : decode cX10_planned 48 = .ok (.aload_n 0, 1) := by decide +kernel
theorem dX10_planned_49 : decode cX10_planned 49 = .ok (.getfield 35, 3) := by decide +kernel
theorem dX10_planned_52 : decode cX10_planned 52 = .ok (.iload_n 1, 1) := by decide +kernel
theorem dX10_planned_53 : decode cX10_planned 53 = .ok (.iaload, 1) := by decide +kernel
theorem dX10_planned_54 : decode cX10_planned 54 = .ok (.goto 30, 3) := by decide +kernel
theorem dX10_planned_57 : decode cX10_planned 57 = .ok (.iload_n 2, 1) := by decide +kernel
theorem dX10_planned_58 : decode cX10_planned 58 = .ok (.bipush 6, 2) := by decide +kernel
theorem dX10_planned_60 : decode cX10_planned 60 = .ok (.if_icmp .ne 12, 3) := by decide +kernel
theorem dX10_planned_63 : decode cX10_planned 63 = .ok (.aload_n 0, 1) := by decide +kernel
theorem dX10_planned_64 : decode cX10_planned 64 = .ok (.getfield 38, 3) := by decide +kernel
theorem dX10_planned_67 : decode cX10_planned 67 = .ok (.iload_n 1, 1) := by decide +kernel
theorem dX10_planned_68 : decode cX10_planned 68 = .ok (.iaload, 1) := by decide +kernel
theorem dX10_planned_69 : decode cX10_planned 69 = .ok (.goto 15, 3) := by decide +kernel
theorem dX10_planned_72 : decode cX10_planned 72 = .ok (.aload_n 0, 1) := by decide +kernel
theorem dX10_planned_73 : decode cX10_planned 73 = .ok (.getfield 32, 3) := by decide +kernel
theorem dX10_planned_76 : decode cX10_planned 76 = .ok (.iconst 4, 1) := by decide +kernel
theorem dX10_planned_77 : decode cX10_planned 77 = .ok (.iload_n 1, 1) := by decide +kernel
theorem dX10_planned_78 : decode cX10_planned 78 = .ok (.imul, 1) := by decide +kernel
theorem dX10_planned_79 : decode cX10_planned 79 = .ok (.iload_n 2, 1) := by decide +kernel
theorem dX10_planned_80 : decode cX10_planned 80 = .ok (.iadd, 1) := by decide +kernel
theorem dX10_planned_81 : decode cX10_planned 81 = .ok (.iconst 1, 1) := by decide +kernel
theorem dX10_planned_82 : decode cX10_planned 82 = .ok (.isub, 1) := by decide +kernel
theorem dX10_planned_83 : decode cX10_planned 83 = .ok (.iaload, 1) := by decide +kernel
theorem dX10_planned_84 : decode cX10_planned 84 = .ok (.ireturn, 1) := by decide +kernel
theorem dX10_ties_0 : decode cX10_ties 0 = .ok (.aload_n 0, 1) := by decide +kernel
theorem dX10_ties_1 : decode cX10_ties 1 = .ok (.getfield 81, 3) := by decide +kernel
theorem dX10_ties_4 : decode cX10_ties 4 = .ok (.ifCond .ne 6, 3) := by decide +kernel
theorem dX10_ties_7 : decode cX10_ties 7 = .ok (.bipush (-4), 2) := by decide +kernel
theorem dX10_ties_9 : decode cX10_ties 9 = .ok (.ireturn, 1) := by decide +kernel
theorem dX10_ties_10 : decode cX10_ties 10 = .ok (.aload_n 0, 1) := by decide +kernel
theorem dX10_ties_11 : decode cX10_ties 11 = .ok (.invokevirtual 152, 3) := by decide +kernel
theorem dX10_ties_14 : decode cX10_ties 14 = .ok (.istore_n 1, 1) := by decide +kernel
theorem dX10_ties_15 : decode cX10_ties 15 = .ok (.iload_n 1, 1) := by decide +kernel
theorem dX10_ties_16 : decode cX10_ties 16 = .ok (.ldc 131, 2) := by decide +kernel
theorem dX10_ties_18 : decode cX10_ties 18 = .ok (.if_icmp .ne 5, 3) := by decide +kernel
theorem dX10_ties_21 : decode cX10_ties 21 = .ok (.iconst 0, 1) := by decide +kernel
theorem dX10_ties_22 : decode cX10_ties 22 = .ok (.ireturn, 1) := by decide +kernel
theorem dX10_ties_23 : decode cX10_ties 23 = .ok (.lconst 0, 1) := by decide +kernel
theorem dX10_ties_24 : decode cX10_ties 24 = .ok (.lstore_n 2, 1) := by decide +kernel
theorem dX10_ties_25 : decode cX10_ties 25 = .ok (.aload_n 0, 1) := by decide +kernel
theorem dX10_ties_26 : decode cX10_ties 26 = .ok (.getfield 92, 3) := by decide +kernel
theorem dX10_ties_29 : decode cX10_ties 29 = .ok (.iconst 1, 1) := by decide +kernel
theorem dX10_ties_30 : decode cX10_ties 30 = .ok (.iadd, 1) := by decide +kernel
theorem dX10_ties_31 : decode cX10_ties 31 = .ok (.istore 4, 2) := by decide +kernel
theorem dX10_ties_33 : decode cX10_ties 33 = .ok (.iload 4, 2) := by decide +kernel
theorem dX10_ties_35 : decode cX10_ties 35 = .ok (.aload_n 0, 1) := by decide +kernel
theorem dX10_ties_36 : decode cX10_ties 36 = .ok (.getfield 13, 3) := by decide +kernel
theorem dX10_ties_39 : decode cX10_ties 39 = .ok (.if_icmp .gt 55, 3) := by decide +kernel
theorem dX10_ties_42 : decode cX10_ties 42 = .ok (.lload_n 2, 1) := by decide +kernel
theorem dX10_ties_43 : decode cX10_ties 43 = .ok (.aload_n 0, 1) := by decide +kernel
theorem dX10_ties_44 : decode cX10_ties 44 = .ok (.getfield 59, 3) := by decide +kernel
theorem dX10_ties_47 : decode cX10_ties 47 = .ok (.aload_n 0, 1) := by decide +kernel
theorem dX10_ties_48 : decode cX10_ties 48 = .ok (.getfield 81, 3) := by decide +kernel
theorem dX10_ties_51 : decode cX10_ties 51 = .ok (.iconst 1, 1) := by decide +kernel
theorem dX10_ties_52 : decode cX10_ties 52 = .ok (.isub, 1) := by decide +kernel
theorem dX10_ties_53 : decode cX10_ties 53 = .ok (.invokestatic 132, 3) := by decide +kernel
theorem dX10_ties_56 : decode cX10_ties 56 = .ok (.iload 4, 2) := by decide +kernel
theorem dX10_ties_58 : decode cX10_ties 58 = .ok (.iadd, 1) := by decide +kernel
theorem dX10_ties_59 : decode cX10_ties 59 = .ok (.iaload, 1) := by decide +kernel
theorem dX10_ties_60 : decode cX10_ties 60 = .ok (.iload_n 1, 1) := by decide +kernel
theorem dX10_ties_61 : decode cX10_ties 61 = .ok (.if_icmp .ne 24, 3) := by decide +kernel
theorem dX10_ties_64 : decode cX10_ties 64 = .ok (.aload_n 0, 1) := by decide +kernel
theorem dX10_ties_65 : decode cX10_ties 65 = .ok (.getfield 62, 3) := by decide +kernel
theorem dX10_ties_68 : decode cX10_ties 68 = .ok (.aload_n 0, 1) := by decide +kernel
theorem dX10_ties_69 : decode cX10_ties 69 = .ok (.getfield 81, 3) := by decide +kernel
theorem dX10_ties_72 : decode cX10_ties 72 = .ok (.iconst 1, 1) := by decide +kernel
theorem dX10_ties_73 : decode cX10_ties 73 = .ok (.isub, 1) := by decide +kernel
theorem dX10_ties_74 : decode cX10_ties 74 = .ok (.invokestatic 132, 3) := by decide +kernel
theorem dX10_ties_77 : decode cX10_ties 77 = .ok (.iload 4, 2) := by decide +kernel
theorem dX10_ties_79 : decode cX10_ties 79 = .ok (.iadd, 1) := by decide +kernel
theorem dX10_ties_80 : decode cX10_ties 80 = .ok (.iaload, 1) := by decide +kernel
theorem dX10_ties_81 : decode cX10_ties 81 = .ok (.i2l, 1) := by decide +kernel
theorem dX10_ties_82 : decode cX10_ties 82 = .ok (.goto 4, 3) := by decide +kernel
theorem dX10_ties_85 : decode cX10_ties 85 = .ok (.lconst 0, 1) := by decide +kernel
theorem dX10_ties_86 : decode cX10_ties 86 = .ok (.ladd, 1) := by decide +kernel
theorem dX10_ties_87 : decode cX10_ties 87 = .ok (.lstore_n 2, 1) := by decide +kernel
theorem dX10_ties_88 : decode cX10_ties 88 = .ok (.iinc 4 1, 3) := by decide +kernel
theorem dX10_ties_91 : decode cX10_ties 91 = .ok (.goto (-58), 3) := by decide +kernel
theorem dX10_ties_94 : decode cX10_ties 94 = .ok (.lload_n 2, 1) := by decide +kernel
theorem dX10_ties_95 : decode cX10_ties 95 = .ok (.invokestatic 145, 3) := by decide +kernel
theorem dX10_ties_98 : decode cX10_ties 98 = .ok (.ireturn, 1) := by decide +kernel
theorem dX10_sign_0 : decode cX10_sign 0 = .ok (.iload_n 1, 1) := by decide +kernel
theorem dX10_sign_1 : decode cX10_sign 1 = .ok (.iconst 1, 1) := by decide +kernel
theorem dX10_sign_2 : decode cX10_sign 2 = .ok (.bipush 127, 2) := by decide +kernel
theorem dX10_sign_4 : decode cX10_sign 4 = .ok (.invokestatic 84, 3) := by decide +kernel
theorem dX10_sign_7 : decode cX10_sign 7 = .ok (.ifCond .ne 6, 3) := by decide +kernel
theorem dX10_sign_10 : decode cX10_sign 10 = .ok (.bipush (-2), 2) := by decide +kernel
theorem dX10_sign_12 : decode cX10_sign 12 = .ok (.ireturn, 1) := by decide +kernel
theorem dX10_sign_13 : decode cX10_sign 13 = .ok (.aload_n 0, 1) := by decide +kernel
theorem dX10_sign_14 : decode cX10_sign 14 = .ok (.getfield 106, 3) := by decide +kernel
theorem dX10_sign_17 : decode cX10_sign 17 = .ok (.sipush 2000, 3) := by decide +kernel
theorem dX10_sign_20 : decode cX10_sign 20 = .ok (.if_icmp .ne 6, 3) := by decide +kernel
theorem dX10_sign_23 : decode cX10_sign 23 = .ok (.bipush (-5), 2) := by decide +kernel
theorem dX10_sign_25 : decode cX10_sign 25 = .ok (.ireturn, 1) := by decide +kernel
theorem dX10_sign_26 : decode cX10_sign 26 = .ok (.aload_n 0, 1) := by decide +kernel
theorem dX10_sign_27 : decode cX10_sign 27 = .ok (.iload_n 1, 1) := by decide +kernel
theorem dX10_sign_28 : decode cX10_sign 28 = .ok (.invokevirtual 163, 3) := by decide +kernel
theorem dX10_sign_31 : decode cX10_sign 31 = .ok (.aload_n 0, 1) := by decide +kernel
theorem dX10_sign_32 : decode cX10_sign 32 = .ok (.getfield 106, 3) := by decide +kernel
theorem dX10_sign_35 : decode cX10_sign 35 = .ok (.ireturn, 1) := by decide +kernel
theorem dX10_put_0 : decode cX10_put 0 = .ok (.aload_n 0, 1) := by decide +kernel
theorem dX10_put_1 : decode cX10_put 1 = .ok (.getfield 41, 3) := by decide +kernel
theorem dX10_put_4 : decode cX10_put 4 = .ok (.aload_n 0, 1) := by decide +kernel
theorem dX10_put_5 : decode cX10_put 5 = .ok (.getfield 106, 3) := by decide +kernel
theorem dX10_put_8 : decode cX10_put 8 = .ok (.iload_n 1, 1) := by decide +kernel
theorem dX10_put_9 : decode cX10_put 9 = .ok (.iastore, 1) := by decide +kernel
theorem dX10_put_10 : decode cX10_put 10 = .ok (.aload_n 0, 1) := by decide +kernel
theorem dX10_put_11 : decode cX10_put 11 = .ok (.dup, 1) := by decide +kernel
theorem dX10_put_12 : decode cX10_put 12 = .ok (.getfield 106, 3) := by decide +kernel
end
section
theorem dX10_put_15 : decode cX10_put 15 = .ok (.iconst 1, 1) := by decide +kernel
theorem dX10_put_16 : decode cX10_put 16 = .ok (.iadd, 1) := by decide +kernel
theorem dX10_put_17 : decode cX10_put 17 = .ok (.putfield 106, 3) := by decide +kernel
theorem dX10_put_20 : decode cX10_put 20 = .ok (.return_, 1) := by decide +kernel
theorem dX10_tape_0 : decode cX10_tape 0 = .ok (.iload_n 1, 1) := by decide +kernel
theorem dX10_tape_1 : decode cX10_tape 1 = .ok (.iconst 0, 1) := by decide +kernel
theorem dX10_tape_2 : decode cX10_tape 2 = .ok (.aload_n 0, 1) := by decide +kernel
theorem dX10_tape_3 : decode cX10_tape 3 = .ok (.getfield 106, 3) := by decide +kernel
theorem dX10_tape_6 : decode cX10_tape 6 = .ok (.iconst 1, 1) := by decide +kernel
theorem dX10_tape_7 : decode cX10_tape 7 = .ok (.isub, 1) := by decide +kernel
theorem dX10_tape_8 : decode cX10_tape 8 = .ok (.invokestatic 84, 3) := by decide +kernel
theorem dX10_tape_11 : decode cX10_tape 11 = .ok (.ifCond .eq 12, 3) := by decide +kernel
theorem dX10_tape_14 : decode cX10_tape 14 = .ok (.aload_n 0, 1) := by decide +kernel
theorem dX10_tape_15 : decode cX10_tape 15 = .ok (.getfield 41, 3) := by decide +kernel
theorem dX10_tape_18 : decode cX10_tape 18 = .ok (.iload_n 1, 1) := by decide +kernel
theorem dX10_tape_19 : decode cX10_tape 19 = .ok (.iaload, 1) := by decide +kernel
theorem dX10_tape_20 : decode cX10_tape 20 = .ok (.goto 4, 3) := by decide +kernel
theorem dX10_tape_23 : decode cX10_tape 23 = .ok (.iconst (-1), 1) := by decide +kernel
theorem dX10_tape_24 : decode cX10_tape 24 = .ok (.ireturn, 1) := by decide +kernel
theorem dX10_empty_0 : decode cX10_empty 0 = .ok (.aload_n 0, 1) := by decide +kernel
theorem dX10_empty_1 : decode cX10_empty 1 = .ok (.getfield 106, 3) := by decide +kernel
theorem dX10_empty_4 : decode cX10_empty 4 = .ok (.istore_n 1, 1) := by decide +kernel
theorem dX10_empty_5 : decode cX10_empty 5 = .ok (.aload_n 0, 1) := by decide +kernel
theorem dX10_empty_6 : decode cX10_empty 6 = .ok (.iconst 0, 1) := by decide +kernel
theorem dX10_empty_7 : decode cX10_empty 7 = .ok (.putfield 106, 3) := by decide +kernel
theorem dX10_empty_10 : decode cX10_empty 10 = .ok (.iload_n 1, 1) := by decide +kernel
theorem dX10_empty_11 : decode cX10_empty 11 = .ok (.ireturn, 1) := by decide +kernel
theorem dX10_numberOn_0 : decode cX10_numberOn 0 = .ok (.iconst 0, 1) := by decide +kernel
theorem dX10_numberOn_1 : decode cX10_numberOn 1 = .ok (.istore_n 3, 1) := by decide +kernel
theorem dX10_numberOn_2 : decode cX10_numberOn 2 = .ok (.iload_n 3, 1) := by decide +kernel
theorem dX10_numberOn_3 : decode cX10_numberOn 3 = .ok (.aload_n 0, 1) := by decide +kernel
theorem dX10_numberOn_4 : decode cX10_numberOn 4 = .ok (.getfield 20, 3) := by decide +kernel
theorem dX10_numberOn_7 : decode cX10_numberOn 7 = .ok (.iload_n 1, 1) := by decide +kernel
theorem dX10_numberOn_8 : decode cX10_numberOn 8 = .ok (.iaload, 1) := by decide +kernel
theorem dX10_numberOn_9 : decode cX10_numberOn 9 = .ok (.if_icmp .ge 44, 3) := by decide +kernel
theorem dX10_numberOn_12 : decode cX10_numberOn 12 = .ok (.aload_n 0, 1) := by decide +kernel
theorem dX10_numberOn_13 : decode cX10_numberOn 13 = .ok (.getfield 32, 3) := by decide +kernel
theorem dX10_numberOn_16 : decode cX10_numberOn 16 = .ok (.iconst 4, 1) := by decide +kernel
theorem dX10_numberOn_17 : decode cX10_numberOn 17 = .ok (.iload_n 1, 1) := by decide +kernel
theorem dX10_numberOn_18 : decode cX10_numberOn 18 = .ok (.imul, 1) := by decide +kernel
theorem dX10_numberOn_19 : decode cX10_numberOn 19 = .ok (.iload_n 3, 1) := by decide +kernel
theorem dX10_numberOn_20 : decode cX10_numberOn 20 = .ok (.iadd, 1) := by decide +kernel
theorem dX10_numberOn_21 : decode cX10_numberOn 21 = .ok (.iaload, 1) := by decide +kernel
theorem dX10_numberOn_22 : decode cX10_numberOn 22 = .ok (.iload_n 2, 1) := by decide +kernel
theorem dX10_numberOn_23 : decode cX10_numberOn 23 = .ok (.if_icmp .ne 24, 3) := by decide +kernel
theorem dX10_numberOn_26 : decode cX10_numberOn 26 = .ok (.aload_n 0, 1) := by decide +kernel
theorem dX10_numberOn_27 : decode cX10_numberOn 27 = .ok (.iload_n 2, 1) := by decide +kernel
theorem dX10_numberOn_28 : decode cX10_numberOn 28 = .ok (.aload_n 0, 1) := by decide +kernel
theorem dX10_numberOn_29 : decode cX10_numberOn 29 = .ok (.getfield 23, 3) := by decide +kernel
theorem dX10_numberOn_32 : decode cX10_numberOn 32 = .ok (.iconst 4, 1) := by decide +kernel
theorem dX10_numberOn_33 : decode cX10_numberOn 33 = .ok (.iload_n 1, 1) := by decide +kernel
theorem dX10_numberOn_34 : decode cX10_numberOn 34 = .ok (.imul, 1) := by decide +kernel
theorem dX10_numberOn_35 : decode cX10_numberOn 35 = .ok (.iload_n 3, 1) := by decide +kernel
theorem dX10_numberOn_36 : decode cX10_numberOn 36 = .ok (.iadd, 1) := by decide +kernel
theorem dX10_numberOn_37 : decode cX10_numberOn 37 = .ok (.iaload, 1) := by decide +kernel
theorem dX10_numberOn_38 : decode cX10_numberOn 38 = .ok (.invokevirtual 109, 3) := by decide +kernel
theorem dX10_numberOn_41 : decode cX10_numberOn 41 = .ok (.aload_n 0, 1) := by decide +kernel
theorem dX10_numberOn_42 : decode cX10_numberOn 42 = .ok (.getfield 92, 3) := by decide +kernel
theorem dX10_numberOn_45 : decode cX10_numberOn 45 = .ok (.isub, 1) := by decide +kernel
theorem dX10_numberOn_46 : decode cX10_numberOn 46 = .ok (.ireturn, 1) := by decide +kernel
theorem dX10_numberOn_47 : decode cX10_numberOn 47 = .ok (.iinc 3 1, 3) := by decide +kernel
theorem dX10_numberOn_50 : decode cX10_numberOn 50 = .ok (.goto (-48), 3) := by decide +kernel
theorem dX10_numberOn_53 : decode cX10_numberOn 53 = .ok (.iconst (-1), 1) := by decide +kernel
theorem dX10_numberOn_54 : decode cX10_numberOn 54 = .ok (.ireturn, 1) := by decide +kernel
theorem dX10_write_0 : decode cX10_write 0 = .ok (.aload_n 0, 1) := by decide +kernel
theorem dX10_write_1 : decode cX10_write 1 = .ok (.getfield 88, 3) := by decide +kernel
theorem dX10_write_4 : decode cX10_write 4 = .ok (.ifCond .ne 6, 3) := by decide +kernel
theorem dX10_write_7 : decode cX10_write 7 = .ok (.bipush (-4), 2) := by decide +kernel
theorem dX10_write_9 : decode cX10_write 9 = .ok (.ireturn, 1) := by decide +kernel
theorem dX10_write_10 : decode cX10_write 10 = .ok (.aload_n 0, 1) := by decide +kernel
theorem dX10_write_11 : decode cX10_write 11 = .ok (.iconst 0, 1) := by decide +kernel
theorem dX10_write_12 : decode cX10_write 12 = .ok (.putfield 106, 3) := by decide +kernel
theorem dX10_write_15 : decode cX10_write 15 = .ok (.aload_n 0, 1) := by decide +kernel
theorem dX10_write_16 : decode cX10_write 16 = .ok (.getfield 78, 3) := by decide +kernel
theorem dX10_write_19 : decode cX10_write 19 = .ok (.iconst 1, 1) := by decide +kernel
theorem dX10_write_20 : decode cX10_write 20 = .ok (.isub, 1) := by decide +kernel
theorem dX10_write_21 : decode cX10_write 21 = .ok (.istore_n 1, 1) := by decide +kernel
theorem dX10_write_22 : decode cX10_write 22 = .ok (.iload_n 1, 1) := by decide +kernel
theorem dX10_write_23 : decode cX10_write 23 = .ok (.ifCond .lt 165, 3) := by decide +kernel
theorem dX10_write_26 : decode cX10_write 26 = .ok (.aload_n 0, 1) := by decide +kernel
theorem dX10_write_27 : decode cX10_write 27 = .ok (.bipush 124, 2) := by decide +kernel
theorem dX10_write_29 : decode cX10_write 29 = .ok (.invokevirtual 163, 3) := by decide +kernel
theorem dX10_write_32 : decode cX10_write 32 = .ok (.iconst 0, 1) := by decide +kernel
theorem dX10_write_33 : decode cX10_write 33 = .ok (.istore_n 2, 1) := by decide +kernel
theorem dX10_write_34 : decode cX10_write 34 = .ok (.iload_n 2, 1) := by decide +kernel
theorem dX10_write_35 : decode cX10_write 35 = .ok (.aload_n 0, 1) := by decide +kernel
theorem dX10_write_36 : decode cX10_write 36 = .ok (.getfield 81, 3) := by decide +kernel
theorem dX10_write_39 : decode cX10_write 39 = .ok (.if_icmp .ge 125, 3) := by decide +kernel
theorem dX10_write_42 : decode cX10_write 42 = .ok (.iconst 1, 1) := by decide +kernel
theorem dX10_write_43 : decode cX10_write 43 = .ok (.istore_n 3, 1) := by decide +kernel
theorem dX10_write_44 : decode cX10_write 44 = .ok (.iconst 0, 1) := by decide +kernel
theorem dX10_write_45 : decode cX10_write 45 = .ok (.istore 4, 2) := by decide +kernel
theorem dX10_write_47 : decode cX10_write 47 = .ok (.iload 4, 2) := by decide +kernel
theorem dX10_write_49 : decode cX10_write 49 = .ok (.aload_n 0, 1) := by decide +kernel
theorem dX10_write_50 : decode cX10_write 50 = .ok (.getfield 78, 3) := by decide +kernel
theorem dX10_write_53 : decode cX10_write 53 = .ok (.if_icmp .ge 27, 3) := by decide +kernel
theorem dX10_write_56 : decode cX10_write 56 = .ok (.aload_n 0, 1) := by decide +kernel
theorem dX10_write_57 : decode cX10_write 57 = .ok (.iload_n 2, 1) := by decide +kernel
theorem dX10_write_58 : decode cX10_write 58 = .ok (.iload 4, 2) := by decide +kernel
theorem dX10_write_60 : decode cX10_write 60 = .ok (.invokevirtual 166, 3) := by decide +kernel
theorem dX10_write_63 : decode cX10_write 63 = .ok (.bipush 9, 2) := by decide +kernel
theorem dX10_write_65 : decode cX10_write 65 = .ok (.if_icmp .le 7, 3) := by decide +kernel
theorem dX10_write_68 : decode cX10_write 68 = .ok (.iconst 2, 1) := by decide +kernel
theorem dX10_write_69 : decode cX10_write 69 = .ok (.goto 4, 3) := by decide +kernel
theorem dX10_write_72 : decode cX10_write 72 = .ok (.iload_n 3, 1) := by decide +kernel
theorem dX10_write_73 : decode cX10_write 73 = .ok (.istore_n 3, 1) := by decide +kernel
theorem dX10_write_74 : decode cX10_write 74 = .ok (.iinc 4 1, 3) := by decide +kernel
theorem dX10_write_77 : decode cX10_write 77 = .ok (.goto (-30), 3) := by decide +kernel
theorem dX10_write_80 : decode cX10_write 80 = .ok (.aload_n 0, 1) := by decide +kernel
theorem dX10_write_81 : decode cX10_write 81 = .ok (.bipush 45, 2) := by decide +kernel
theorem dX10_write_83 : decode cX10_write 83 = .ok (.invokevirtual 163, 3) := by decide +kernel
theorem dX10_write_86 : decode cX10_write 86 = .ok (.aload_n 0, 1) := by decide +kernel
theorem dX10_write_87 : decode cX10_write 87 = .ok (.iload_n 2, 1) := by decide +kernel
theorem dX10_write_88 : decode cX10_write 88 = .ok (.iload_n 1, 1) := by decide +kernel
theorem dX10_write_89 : decode cX10_write 89 = .ok (.invokevirtual 166, 3) := by decide +kernel
theorem dX10_write_92 : decode cX10_write 92 = .ok (.istore 4, 2) := by decide +kernel
theorem dX10_write_94 : decode cX10_write 94 = .ok (.iconst 0, 1) := by decide +kernel
theorem dX10_write_95 : decode cX10_write 95 = .ok (.istore 5, 2) := by decide +kernel
theorem dX10_write_97 : decode cX10_write 97 = .ok (.iload 4, 2) := by decide +kernel
theorem dX10_write_99 : decode cX10_write 99 = .ok (.bipush 9, 2) := by decide +kernel
theorem dX10_write_101 : decode cX10_write 101 = .ok (.if_icmp .le 18, 3) := by decide +kernel
theorem dX10_write_104 : decode cX10_write 104 = .ok (.aload_n 0, 1) := by decide +kernel
theorem dX10_write_105 : decode cX10_write 105 = .ok (.bipush 48, 2) := by decide +kernel
theorem dX10_write_107 : decode cX10_write 107 = .ok (.iload 4, 2) := by decide +kernel
theorem dX10_write_109 : decode cX10_write 109 = .ok (.bipush 10, 2) := by decide +kernel
theorem dX10_write_111 : decode cX10_write 111 = .ok (.idiv, 1) := by decide +kernel
theorem dX10_write_112 : decode cX10_write 112 = .ok (.iadd, 1) := by decide +kernel
theorem dX10_write_113 : decode cX10_write 113 = .ok (.invokevirtual 163, 3) := by decide +kernel
theorem dX10_write_116 : decode cX10_write 116 = .ok (.iinc 5 1, 3) := by decide +kernel
theorem dX10_write_119 : decode cX10_write 119 = .ok (.iload 4, 2) := by decide +kernel
theorem dX10_write_121 : decode cX10_write 121 = .ok (.iconst (-1), 1) := by decide +kernel
theorem dX10_write_122 : decode cX10_write 122 = .ok (.if_icmp .eq 18, 3) := by decide +kernel
theorem dX10_write_125 : decode cX10_write 125 = .ok (.aload_n 0, 1) := by decide +kernel
theorem dX10_write_126 : decode cX10_write 126 = .ok (.bipush 48, 2) := by decide +kernel
theorem dX10_write_128 : decode cX10_write 128 = .ok (.iload 4, 2) := by decide +kernel
theorem dX10_write_130 : decode cX10_write 130 = .ok (.bipush 10, 2) := by decide +kernel
theorem dX10_write_132 : decode cX10_write 132 = .ok (.irem, 1) := by decide +kernel
theorem dX10_write_133 : decode cX10_write 133 = .ok (.iadd, 1) := by decide +kernel
theorem dX10_write_134 : decode cX10_write 134 = .ok (.invokevirtual 163, 3) := by decide +kernel
theorem dX10_write_137 : decode cX10_write 137 = .ok (.iinc 5 1, 3) := by decide +kernel
theorem dX10_write_140 : decode cX10_write 140 = .ok (.iload 5, 2) := by decide +kernel
theorem dX10_write_142 : decode cX10_write 142 = .ok (.iload_n 3, 1) := by decide +kernel
theorem dX10_write_143 : decode cX10_write 143 = .ok (.if_icmp .ge 15, 3) := by decide +kernel
theorem dX10_write_146 : decode cX10_write 146 = .ok (.aload_n 0, 1) := by decide +kernel
theorem dX10_write_147 : decode cX10_write 147 = .ok (.bipush 45, 2) := by decide +kernel
theorem dX10_write_149 : decode cX10_write 149 = .ok (.invokevirtual 163, 3) := by decide +kernel
theorem dX10_write_152 : decode cX10_write 152 = .ok (.iinc 5 1, 3) := by decide +kernel
theorem dX10_write_155 : decode cX10_write 155 = .ok (.goto (-15), 3) := by decide +kernel
theorem dX10_write_158 : decode cX10_write 158 = .ok (.iinc 2 1, 3) := by decide +kernel
theorem dX10_write_161 : decode cX10_write 161 = .ok (.goto (-127), 3) := by decide +kernel
theorem dX10_write_164 : decode cX10_write 164 = .ok (.aload_n 0, 1) := by decide +kernel
theorem dX10_write_165 : decode cX10_write 165 = .ok (.bipush 45, 2) := by decide +kernel
theorem dX10_write_167 : decode cX10_write 167 = .ok (.invokevirtual 163, 3) := by decide +kernel
theorem dX10_write_170 : decode cX10_write 170 = .ok (.aload_n 0, 1) := by decide +kernel
theorem dX10_write_171 : decode cX10_write 171 = .ok (.bipush 124, 2) := by decide +kernel
theorem dX10_write_173 : decode cX10_write 173 = .ok (.invokevirtual 163, 3) := by decide +kernel
theorem dX10_write_176 : decode cX10_write 176 = .ok (.aload_n 0, 1) := by decide +kernel
theorem dX10_write_177 : decode cX10_write 177 = .ok (.bipush 10, 2) := by decide +kernel
theorem dX10_write_179 : decode cX10_write 179 = .ok (.invokevirtual 163, 3) := by decide +kernel
theorem dX10_write_182 : decode cX10_write 182 = .ok (.iinc 1 (-1), 3) := by decide +kernel
theorem dX10_write_185 : decode cX10_write 185 = .ok (.goto (-163), 3) := by decide +kernel
theorem dX10_write_188 : decode cX10_write 188 = .ok (.aload_n 0, 1) := by decide +kernel
theorem dX10_write_189 : decode cX10_write 189 = .ok (.getfield 106, 3) := by decide +kernel
theorem dX10_write_192 : decode cX10_write 192 = .ok (.ireturn, 1) := by decide +kernel
theorem dX10_look_0 : decode cX10_look 0 = .ok (.aload_n 0, 1) := by decide +kernel
theorem dX10_look_1 : decode cX10_look 1 = .ok (.getfield 169, 3) := by decide +kernel
theorem dX10_look_4 : decode cX10_look 4 = .ok (.aload_n 0, 1) := by decide +kernel
theorem dX10_look_5 : decode cX10_look 5 = .ok (.getfield 106, 3) := by decide +kernel
theorem dX10_look_8 : decode cX10_look 8 = .ok (.if_icmp .ge 15, 3) := by decide +kernel
theorem dX10_look_11 : decode cX10_look 11 = .ok (.aload_n 0, 1) := by decide +kernel
theorem dX10_look_12 : decode cX10_look 12 = .ok (.getfield 41, 3) := by decide +kernel
theorem dX10_look_15 : decode cX10_look 15 = .ok (.aload_n 0, 1) := by decide +kernel
theorem dX10_look_16 : decode cX10_look 16 = .ok (.getfield 169, 3) := by decide +kernel
theorem dX10_look_19 : decode cX10_look 19 = .ok (.iaload, 1) := by decide +kernel
theorem dX10_look_20 : decode cX10_look 20 = .ok (.goto 4, 3) := by decide +kernel
theorem dX10_look_23 : decode cX10_look 23 = .ok (.iconst (-1), 1) := by decide +kernel
theorem dX10_look_24 : decode cX10_look 24 = .ok (.ireturn, 1) := by decide +kernel
theorem dX10_isFigure_0 : decode cX10_isFigure 0 = .ok (.iload_n 0, 1) := by decide +kernel
theorem dX10_isFigure_1 : decode cX10_isFigure 1 = .ok (.bipush 48, 2) := by decide +kernel
theorem dX10_isFigure_3 : decode cX10_isFigure 3 = .ok (.bipush 57, 2) := by decide +kernel
theorem dX10_isFigure_5 : decode cX10_isFigure 5 = .ok (.invokestatic 84, 3) := by decide +kernel
theorem dX10_isFigure_8 : decode cX10_isFigure 8 = .ok (.ireturn, 1) := by decide +kernel
theorem dX10_faults_0 : decode cX10_faults 0 = .ok (.aload_n 0, 1) := by decide +kernel
theorem dX10_faults_1 : decode cX10_faults 1 = .ok (.getfield 171, 3) := by decide +kernel
theorem dX10_faults_4 : decode cX10_faults 4 = .ok (.ifCond .eq 27, 3) := by decide +kernel
theorem dX10_faults_7 : decode cX10_faults 7 = .ok (.iload_n 1, 1) := by decide +kernel
theorem dX10_faults_8 : decode cX10_faults 8 = .ok (.aload_n 0, 1) := by decide +kernel
theorem dX10_faults_9 : decode cX10_faults 9 = .ok (.getfield 171, 3) := by decide +kernel
theorem dX10_faults_12 : decode cX10_faults 12 = .ok (.if_icmp .lt 19, 3) := by decide +kernel
theorem dX10_faults_15 : decode cX10_faults 15 = .ok (.iload_n 1, 1) := by decide +kernel
theorem dX10_faults_16 : decode cX10_faults 16 = .ok (.aload_n 0, 1) := by decide +kernel
theorem dX10_faults_17 : decode cX10_faults 17 = .ok (.getfield 171, 3) := by decide +kernel
theorem dX10_faults_20 : decode cX10_faults 20 = .ok (.if_icmp .ne 21, 3) := by decide +kernel
theorem dX10_faults_23 : decode cX10_faults 23 = .ok (.iload_n 2, 1) := by decide +kernel
theorem dX10_faults_24 : decode cX10_faults 24 = .ok (.aload_n 0, 1) := by decide +kernel
theorem dX10_faults_25 : decode cX10_faults 25 = .ok (.getfield 174, 3) := by decide +kernel
theorem dX10_faults_28 : decode cX10_faults 28 = .ok (.if_icmp .ge 13, 3) := by decide +kernel
theorem dX10_faults_31 : decode cX10_faults 31 = .ok (.aload_n 0, 1) := by decide +kernel
theorem dX10_faults_32 : decode cX10_faults 32 = .ok (.iload_n 1, 1) := by decide +kernel
theorem dX10_faults_33 : decode cX10_faults 33 = .ok (.putfield 171, 3) := by decide +kernel
theorem dX10_faults_36 : decode cX10_faults 36 = .ok (.aload_n 0, 1) := by decide +kernel
theorem dX10_faults_37 : decode cX10_faults 37 = .ok (.iload_n 2, 1) := by decide +kernel
theorem dX10_faults_38 : decode cX10_faults 38 = .ok (.putfield 174, 3) := by decide +kernel
theorem dX10_faults_41 : decode cX10_faults 41 = .ok (.return_, 1) := by decide +kernel
theorem dX10_wants_0 : decode cX10_wants 0 = .ok (.aload_n 0, 1) := by decide +kernel
theorem dX10_wants_1 : decode cX10_wants 1 = .ok (.getfield 171, 3) := by decide +kernel
theorem dX10_wants_4 : decode cX10_wants 4 = .ok (.ifCond .ne 16, 3) := by decide +kernel
theorem dX10_wants_7 : decode cX10_wants 7 = .ok (.iload_n 1, 1) := by decide +kernel
theorem dX10_wants_8 : decode cX10_wants 8 = .ok (.ifCond .ne 12, 3) := by decide +kernel
theorem dX10_wants_11 : decode cX10_wants 11 = .ok (.aload_n 0, 1) := by decide +kernel
theorem dX10_wants_12 : decode cX10_wants 12 = .ok (.iconst 1, 1) := by decide +kernel
theorem dX10_wants_13 : decode cX10_wants 13 = .ok (.aload_n 0, 1) := by decide +kernel
theorem dX10_wants_14 : decode cX10_wants 14 = .ok (.getfield 169, 3) := by decide +kernel
theorem dX10_wants_17 : decode cX10_wants 17 = .ok (.invokevirtual 177, 3) := by decide +kernel
theorem dX10_wants_20 : decode cX10_wants 20 = .ok (.aload_n 0, 1) := by decide +kernel
theorem dX10_wants_21 : decode cX10_wants 21 = .ok (.dup, 1) := by decide +kernel
theorem dX10_wants_22 : decode cX10_wants 22 = .ok (.getfield 169, 3) := by decide +kernel
theorem dX10_wants_25 : decode cX10_wants 25 = .ok (.iconst 1, 1) := by decide +kernel
theorem dX10_wants_26 : decode cX10_wants 26 = .ok (.iadd, 1) := by decide +kernel
theorem dX10_wants_27 : decode cX10_wants 27 = .ok (.putfield 169, 3) := by decide +kernel
theorem dX10_wants_30 : decode cX10_wants 30 = .ok (.return_, 1) := by decide +kernel
theorem dX10_readLines_0 : decode cX10_readLines 0 = .ok (.aload_n 0, 1) := by decide +kernel
theorem dX10_readLines_1 : decode cX10_readLines 1 = .ok (.iconst 0, 1) := by decide +kernel
theorem dX10_readLines_2 : decode cX10_readLines 2 = .ok (.putfield 169, 3) := by decide +kernel
theorem dX10_readLines_5 : decode cX10_readLines 5 = .ok (.aload_n 0, 1) := by decide +kernel
theorem dX10_readLines_6 : decode cX10_readLines 6 = .ok (.iconst 0, 1) := by decide +kernel
theorem dX10_readLines_7 : decode cX10_readLines 7 = .ok (.putfield 180, 3) := by decide +kernel
theorem dX10_readLines_10 : decode cX10_readLines 10 = .ok (.iconst 0, 1) := by decide +kernel
theorem dX10_readLines_11 : decode cX10_readLines 11 = .ok (.istore_n 1, 1) := by decide +kernel
theorem dX10_readLines_12 : decode cX10_readLines 12 = .ok (.iload_n 1, 1) := by decide +kernel
theorem dX10_readLines_13 : decode cX10_readLines 13 = .ok (.aload_n 0, 1) := by decide +kernel
theorem dX10_readLines_14 : decode cX10_readLines 14 = .ok (.getfield 78, 3) := by decide +kernel
theorem dX10_readLines_17 : decode cX10_readLines 17 = .ok (.if_icmp .ge 185, 3) := by decide +kernel
theorem dX10_readLines_20 : decode cX10_readLines 20 = .ok (.aload_n 0, 1) := by decide +kernel
theorem dX10_readLines_21 : decode cX10_readLines 21 = .ok (.getfield 171, 3) := by decide +kernel
theorem dX10_readLines_24 : decode cX10_readLines 24 = .ok (.ifCond .ne 178, 3) := by decide +kernel
theorem dX10_readLines_27 : decode cX10_readLines 27 = .ok (.aload_n 0, 1) := by decide +kernel
theorem dX10_readLines_28 : decode cX10_readLines 28 = .ok (.aload_n 0, 1) := by decide +kernel
theorem dX10_readLines_29 : decode cX10_readLines 29 = .ok (.invokevirtual 183, 3) := by decide +kernel
theorem dX10_readLines_32 : decode cX10_readLines 32 = .ok (.bipush 124, 2) := by decide +kernel
theorem dX10_readLines_34 : decode cX10_readLines 34 = .ok (.if_icmp .ne 7, 3) := by decide +kernel
theorem dX10_readLines_37 : decode cX10_readLines 37 = .ok (.iconst 1, 1) := by decide +kernel
theorem dX10_readLines_38 : decode cX10_readLines 38 = .ok (.goto 4, 3) := by decide +kernel
theorem dX10_readLines_41 : decode cX10_readLines 41 = .ok (.iconst 0, 1) := by decide +kernel
theorem dX10_readLines_42 : decode cX10_readLines 42 = .ok (.invokevirtual 186, 3) := by decide +kernel
theorem dX10_readLines_45 : decode cX10_readLines 45 = .ok (.iload_n 1, 1) := by decide +kernel
theorem dX10_readLines_46 : decode cX10_readLines 46 = .ok (.ifCond .ne 45, 3) := by decide +kernel
theorem dX10_readLines_49 : decode cX10_readLines 49 = .ok (.aload_n 0, 1) := by decide +kernel
theorem dX10_readLines_50 : decode cX10_readLines 50 = .ok (.invokevirtual 183, 3) := by decide +kernel
theorem dX10_readLines_53 : decode cX10_readLines 53 = .ok (.bipush 45, 2) := by decide +kernel
theorem dX10_readLines_55 : decode cX10_readLines 55 = .ok (.if_icmp .eq 13, 3) := by decide +kernel
theorem dX10_readLines_58 : decode cX10_readLines 58 = .ok (.aload_n 0, 1) := by decide +kernel
theorem dX10_readLines_59 : decode cX10_readLines 59 = .ok (.invokevirtual 183, 3) := by decide +kernel
theorem dX10_readLines_62 : decode cX10_readLines 62 = .ok (.invokestatic 190, 3) := by decide +kernel
theorem dX10_readLines_65 : decode cX10_readLines 65 = .ok (.ifCond .eq 26, 3) := by decide +kernel
theorem dX10_readLines_68 : decode cX10_readLines 68 = .ok (.aload_n 0, 1) := by decide +kernel
theorem dX10_readLines_69 : decode cX10_readLines 69 = .ok (.dup, 1) := by decide +kernel
theorem dX10_readLines_70 : decode cX10_readLines 70 = .ok (.getfield 180, 3) := by decide +kernel
theorem dX10_readLines_73 : decode cX10_readLines 73 = .ok (.iconst 1, 1) := by decide +kernel
theorem dX10_readLines_74 : decode cX10_readLines 74 = .ok (.iadd, 1) := by decide +kernel
theorem dX10_readLines_75 : decode cX10_readLines 75 = .ok (.putfield 180, 3) := by decide +kernel
theorem dX10_readLines_78 : decode cX10_readLines 78 = .ok (.aload_n 0, 1) := by decide +kernel
theorem dX10_readLines_79 : decode cX10_readLines 79 = .ok (.dup, 1) := by decide +kernel
theorem dX10_readLines_80 : decode cX10_readLines 80 = .ok (.getfield 169, 3) := by decide +kernel
theorem dX10_readLines_83 : decode cX10_readLines 83 = .ok (.iconst 1, 1) := by decide +kernel
theorem dX10_readLines_84 : decode cX10_readLines 84 = .ok (.iadd, 1) := by decide +kernel
theorem dX10_readLines_85 : decode cX10_readLines 85 = .ok (.putfield 169, 3) := by decide +kernel
theorem dX10_readLines_88 : decode cX10_readLines 88 = .ok (.goto (-39), 3) := by decide +kernel
theorem dX10_readLines_91 : decode cX10_readLines 91 = .ok (.iconst 0, 1) := by decide +kernel
theorem dX10_readLines_92 : decode cX10_readLines 92 = .ok (.istore_n 2, 1) := by decide +kernel
theorem dX10_readLines_93 : decode cX10_readLines 93 = .ok (.iload_n 2, 1) := by decide +kernel
theorem dX10_readLines_94 : decode cX10_readLines 94 = .ok (.aload_n 0, 1) := by decide +kernel
theorem dX10_readLines_95 : decode cX10_readLines 95 = .ok (.getfield 180, 3) := by decide +kernel
theorem dX10_readLines_98 : decode cX10_readLines 98 = .ok (.if_icmp .ge 48, 3) := by decide +kernel
theorem dX10_readLines_101 : decode cX10_readLines 101 = .ok (.iload_n 1, 1) := by decide +kernel
theorem dX10_readLines_102 : decode cX10_readLines 102 = .ok (.ifCond .le 44, 3) := by decide +kernel
theorem dX10_readLines_105 : decode cX10_readLines 105 = .ok (.aload_n 0, 1) := by decide +kernel
theorem dX10_readLines_106 : decode cX10_readLines 106 = .ok (.getfield 171, 3) := by decide +kernel
theorem dX10_readLines_109 : decode cX10_readLines 109 = .ok (.ifCond .ne 37, 3) := by decide +kernel
theorem dX10_readLines_112 : decode cX10_readLines 112 = .ok (.aload_n 0, 1) := by decide +kernel
theorem dX10_readLines_113 : decode cX10_readLines 113 = .ok (.aload_n 0, 1) := by decide +kernel
theorem dX10_readLines_114 : decode cX10_readLines 114 = .ok (.invokevirtual 183, 3) := by decide +kernel
theorem dX10_readLines_117 : decode cX10_readLines 117 = .ok (.bipush 45, 2) := by decide +kernel
theorem dX10_readLines_119 : decode cX10_readLines 119 = .ok (.if_icmp .eq 13, 3) := by decide +kernel
theorem dX10_readLines_122 : decode cX10_readLines 122 = .ok (.aload_n 0, 1) := by decide +kernel
theorem dX10_readLines_123 : decode cX10_readLines 123 = .ok (.invokevirtual 183, 3) := by decide +kernel
theorem dX10_readLines_126 : decode cX10_readLines 126 = .ok (.invokestatic 190, 3) := by decide +kernel
theorem dX10_readLines_129 : decode cX10_readLines 129 = .ok (.ifCond .eq 7, 3) := by decide +kernel
theorem dX10_readLines_132 : decode cX10_readLines 132 = .ok (.iconst 1, 1) := by decide +kernel
theorem dX10_readLines_133 : decode cX10_readLines 133 = .ok (.goto 4, 3) := by decide +kernel
theorem dX10_readLines_136 : decode cX10_readLines 136 = .ok (.iconst 0, 1) := by decide +kernel
theorem dX10_readLines_137 : decode cX10_readLines 137 = .ok (.invokevirtual 186, 3) := by decide +kernel
theorem dX10_readLines_140 : decode cX10_readLines 140 = .ok (.iinc 2 1, 3) := by decide +kernel
theorem dX10_readLines_143 : decode cX10_readLines 143 = .ok (.goto (-50), 3) := by decide +kernel
theorem dX10_readLines_146 : decode cX10_readLines 146 = .ok (.aload_n 0, 1) := by decide +kernel
theorem dX10_readLines_147 : decode cX10_readLines 147 = .ok (.getfield 171, 3) := by decide +kernel
theorem dX10_readLines_150 : decode cX10_readLines 150 = .ok (.ifCond .ne 21, 3) := by decide +kernel
theorem dX10_readLines_153 : decode cX10_readLines 153 = .ok (.aload_n 0, 1) := by decide +kernel
theorem dX10_readLines_154 : decode cX10_readLines 154 = .ok (.aload_n 0, 1) := by decide +kernel
theorem dX10_readLines_155 : decode cX10_readLines 155 = .ok (.invokevirtual 183, 3) := by decide +kernel
theorem dX10_readLines_158 : decode cX10_readLines 158 = .ok (.bipush 124, 2) := by decide +kernel
theorem dX10_readLines_160 : decode cX10_readLines 160 = .ok (.if_icmp .ne 7, 3) := by decide +kernel
theorem dX10_readLines_163 : decode cX10_readLines 163 = .ok (.iconst 1, 1) := by decide +kernel
theorem dX10_readLines_164 : decode cX10_readLines 164 = .ok (.goto 4, 3) := by decide +kernel
theorem dX10_readLines_167 : decode cX10_readLines 167 = .ok (.iconst 0, 1) := by decide +kernel
theorem dX10_readLines_168 : decode cX10_readLines 168 = .ok (.invokevirtual 186, 3) := by decide +kernel
theorem dX10_readLines_171 : decode cX10_readLines 171 = .ok (.aload_n 0, 1) := by decide +kernel
theorem dX10_readLines_172 : decode cX10_readLines 172 = .ok (.getfield 171, 3) := by decide +kernel
theorem dX10_readLines_175 : decode cX10_readLines 175 = .ok (.ifCond .ne 21, 3) := by decide +kernel
theorem dX10_readLines_178 : decode cX10_readLines 178 = .ok (.aload_n 0, 1) := by decide +kernel
theorem dX10_readLines_179 : decode cX10_readLines 179 = .ok (.aload_n 0, 1) := by decide +kernel
theorem dX10_readLines_180 : decode cX10_readLines 180 = .ok (.invokevirtual 183, 3) := by decide +kernel
theorem dX10_readLines_183 : decode cX10_readLines 183 = .ok (.bipush 10, 2) := by decide +kernel
theorem dX10_readLines_185 : decode cX10_readLines 185 = .ok (.if_icmp .ne 7, 3) := by decide +kernel
theorem dX10_readLines_188 : decode cX10_readLines 188 = .ok (.iconst 1, 1) := by decide +kernel
theorem dX10_readLines_189 : decode cX10_readLines 189 = .ok (.goto 4, 3) := by decide +kernel
theorem dX10_readLines_192 : decode cX10_readLines 192 = .ok (.iconst 0, 1) := by decide +kernel
theorem dX10_readLines_193 : decode cX10_readLines 193 = .ok (.invokevirtual 186, 3) := by decide +kernel
theorem dX10_readLines_196 : decode cX10_readLines 196 = .ok (.iinc 1 1, 3) := by decide +kernel
theorem dX10_readLines_199 : decode cX10_readLines 199 = .ok (.goto (-187), 3) := by decide +kernel
theorem dX10_readLines_202 : decode cX10_readLines 202 = .ok (.aload_n 0, 1) := by decide +kernel
theorem dX10_readLines_203 : decode cX10_readLines 203 = .ok (.getfield 171, 3) := by decide +kernel
theorem dX10_readLines_206 : decode cX10_readLines 206 = .ok (.ifCond .ne 23, 3) := by decide +kernel
theorem dX10_readLines_209 : decode cX10_readLines 209 = .ok (.aload_n 0, 1) := by decide +kernel
theorem dX10_readLines_210 : decode cX10_readLines 210 = .ok (.aload_n 0, 1) := by decide +kernel
theorem dX10_readLines_211 : decode cX10_readLines 211 = .ok (.getfield 169, 3) := by decide +kernel
theorem dX10_readLines_214 : decode cX10_readLines 214 = .ok (.aload_n 0, 1) := by decide +kernel
theorem dX10_readLines_215 : decode cX10_readLines 215 = .ok (.getfield 106, 3) := by decide +kernel
theorem dX10_readLines_218 : decode cX10_readLines 218 = .ok (.if_icmp .ne 7, 3) := by decide +kernel
theorem dX10_readLines_221 : decode cX10_readLines 221 = .ok (.iconst 1, 1) := by decide +kernel
theorem dX10_readLines_222 : decode cX10_readLines 222 = .ok (.goto 4, 3) := by decide +kernel
theorem dX10_readLines_225 : decode cX10_readLines 225 = .ok (.iconst 0, 1) := by decide +kernel
theorem dX10_readLines_226 : decode cX10_readLines 226 = .ok (.invokevirtual 186, 3) := by decide +kernel
theorem dX10_readLines_229 : decode cX10_readLines 229 = .ok (.return_, 1) := by decide +kernel
theorem dX10_placeOf_0 : decode cX10_placeOf 0 = .ok (.aload_n 0, 1) := by decide +kernel
theorem dX10_placeOf_1 : decode cX10_placeOf 1 = .ok (.getfield 78, 3) := by decide +kernel
theorem dX10_placeOf_4 : decode cX10_placeOf 4 = .ok (.iconst 1, 1) := by decide +kernel
theorem dX10_placeOf_5 : decode cX10_placeOf 5 = .ok (.isub, 1) := by decide +kernel
theorem dX10_placeOf_6 : decode cX10_placeOf 6 = .ok (.iload_n 1, 1) := by decide +kernel
theorem dX10_placeOf_7 : decode cX10_placeOf 7 = .ok (.isub, 1) := by decide +kernel
theorem dX10_placeOf_8 : decode cX10_placeOf 8 = .ok (.aload_n 0, 1) := by decide +kernel
theorem dX10_placeOf_9 : decode cX10_placeOf 9 = .ok (.getfield 180, 3) := by decide +kernel
theorem dX10_placeOf_12 : decode cX10_placeOf 12 = .ok (.iconst 3, 1) := by decide +kernel
theorem dX10_placeOf_13 : decode cX10_placeOf 13 = .ok (.iadd, 1) := by decide +kernel
theorem dX10_placeOf_14 : decode cX10_placeOf 14 = .ok (.imul, 1) := by decide +kernel
theorem dX10_placeOf_15 : decode cX10_placeOf 15 = .ok (.iconst 1, 1) := by decide +kernel
theorem dX10_placeOf_16 : decode cX10_placeOf 16 = .ok (.iadd, 1) := by decide +kernel
theorem dX10_placeOf_17 : decode cX10_placeOf 17 = .ok (.iload_n 2, 1) := by decide +kernel
theorem dX10_placeOf_18 : decode cX10_placeOf 18 = .ok (.iadd, 1) := by decide +kernel
theorem dX10_placeOf_19 : decode cX10_placeOf 19 = .ok (.ireturn, 1) := by decide +kernel
theorem dX10_isFigureAt_0 : decode cX10_isFigureAt 0 = .ok (.iload_n 2, 1) := by decide +kernel
theorem dX10_isFigureAt_1 : decode cX10_isFigureAt 1 = .ok (.iconst 0, 1) := by decide +kernel
theorem dX10_isFigureAt_2 : decode cX10_isFigureAt 2 = .ok (.aload_n 0, 1) := by decide +kernel
theorem dX10_isFigureAt_3 : decode cX10_isFigureAt 3 = .ok (.getfield 180, 3) := by decide +kernel
theorem dX10_isFigureAt_6 : decode cX10_isFigureAt 6 = .ok (.iconst 1, 1) := by decide +kernel
theorem dX10_isFigureAt_7 : decode cX10_isFigureAt 7 = .ok (.isub, 1) := by decide +kernel
theorem dX10_isFigureAt_8 : decode cX10_isFigureAt 8 = .ok (.invokestatic 84, 3) := by decide +kernel
theorem dX10_isFigureAt_11 : decode cX10_isFigureAt 11 = .ok (.ifCond .eq 24, 3) := by decide +kernel
theorem dX10_isFigureAt_14 : decode cX10_isFigureAt 14 = .ok (.aload_n 0, 1) := by decide +kernel
theorem dX10_isFigureAt_15 : decode cX10_isFigureAt 15 = .ok (.getfield 41, 3) := by decide +kernel
theorem dX10_isFigureAt_18 : decode cX10_isFigureAt 18 = .ok (.aload_n 0, 1) := by decide +kernel
theorem dX10_isFigureAt_19 : decode cX10_isFigureAt 19 = .ok (.iload_n 1, 1) := by decide +kernel
theorem dX10_isFigureAt_20 : decode cX10_isFigureAt 20 = .ok (.iload_n 2, 1) := by decide +kernel
theorem dX10_isFigureAt_21 : decode cX10_isFigureAt 21 = .ok (.invokevirtual 193, 3) := by decide +kernel
theorem dX10_isFigureAt_24 : decode cX10_isFigureAt 24 = .ok (.iaload, 1) := by decide +kernel
theorem dX10_isFigureAt_25 : decode cX10_isFigureAt 25 = .ok (.invokestatic 190, 3) := by decide +kernel
theorem dX10_isFigureAt_28 : decode cX10_isFigureAt 28 = .ok (.ifCond .eq 7, 3) := by decide +kernel
theorem dX10_isFigureAt_31 : decode cX10_isFigureAt 31 = .ok (.iconst 1, 1) := by decide +kernel
theorem dX10_isFigureAt_32 : decode cX10_isFigureAt 32 = .ok (.goto 4, 3) := by decide +kernel
theorem dX10_isFigureAt_35 : decode cX10_isFigureAt 35 = .ok (.iconst 0, 1) := by decide +kernel
theorem dX10_isFigureAt_36 : decode cX10_isFigureAt 36 = .ok (.ireturn, 1) := by decide +kernel
theorem dX10_begins_0 : decode cX10_begins 0 = .ok (.aload_n 0, 1) := by decide +kernel
theorem dX10_begins_1 : decode cX10_begins 1 = .ok (.iload_n 1, 1) := by decide +kernel
theorem dX10_begins_2 : decode cX10_begins 2 = .ok (.iload_n 2, 1) := by decide +kernel
theorem dX10_begins_3 : decode cX10_begins 3 = .ok (.invokevirtual 196, 3) := by decide +kernel
theorem dX10_begins_6 : decode cX10_begins 6 = .ok (.ifCond .eq 18, 3) := by decide +kernel
theorem dX10_begins_9 : decode cX10_begins 9 = .ok (.aload_n 0, 1) := by decide +kernel
theorem dX10_begins_10 : decode cX10_begins 10 = .ok (.iload_n 1, 1) := by decide +kernel
theorem dX10_begins_11 : decode cX10_begins 11 = .ok (.iload_n 2, 1) := by decide +kernel
theorem dX10_begins_12 : decode cX10_begins 12 = .ok (.iconst 1, 1) := by decide +kernel
theorem dX10_begins_13 : decode cX10_begins 13 = .ok (.isub, 1) := by decide +kernel
theorem dX10_begins_14 : decode cX10_begins 14 = .ok (.invokevirtual 196, 3) := by decide +kernel
theorem dX10_begins_17 : decode cX10_begins 17 = .ok (.ifCond .ne 7, 3) := by decide +kernel
theorem dX10_begins_20 : decode cX10_begins 20 = .ok (.iconst 1, 1) := by decide +kernel
theorem dX10_begins_21 : decode cX10_begins 21 = .ok (.goto 4, 3) := by decide +kernel
theorem dX10_begins_24 : decode cX10_begins 24 = .ok (.iconst 0, 1) := by decide +kernel
theorem dX10_begins_25 : decode cX10_begins 25 = .ok (.ireturn, 1) := by decide +kernel
theorem dX10_lengthAt_0 : decode cX10_lengthAt 0 = .ok (.iconst 0, 1) := by decide +kernel
theorem dX10_lengthAt_1 : decode cX10_lengthAt 1 = .ok (.istore_n 3, 1) := by decide +kernel
theorem dX10_lengthAt_2 : decode cX10_lengthAt 2 = .ok (.aload_n 0, 1) := by decide +kernel
theorem dX10_lengthAt_3 : decode cX10_lengthAt 3 = .ok (.iload_n 1, 1) := by decide +kernel
theorem dX10_lengthAt_4 : decode cX10_lengthAt 4 = .ok (.iload_n 2, 1) := by decide +kernel
theorem dX10_lengthAt_5 : decode cX10_lengthAt 5 = .ok (.iload_n 3, 1) := by decide +kernel
theorem dX10_lengthAt_6 : decode cX10_lengthAt 6 = .ok (.iadd, 1) := by decide +kernel
theorem dX10_lengthAt_7 : decode cX10_lengthAt 7 = .ok (.invokevirtual 196, 3) := by decide +kernel
theorem dX10_lengthAt_10 : decode cX10_lengthAt 10 = .ok (.ifCond .eq 9, 3) := by decide +kernel
theorem dX10_lengthAt_13 : decode cX10_lengthAt 13 = .ok (.iinc 3 1, 3) := by decide +kernel
theorem dX10_lengthAt_16 : decode cX10_lengthAt 16 = .ok (.goto (-14), 3) := by decide +kernel
theorem dX10_lengthAt_19 : decode cX10_lengthAt 19 = .ok (.iload_n 3, 1) := by decide +kernel
theorem dX10_lengthAt_20 : decode cX10_lengthAt 20 = .ok (.ireturn, 1) := by decide +kernel
theorem dX10_valueAt_0 : decode cX10_valueAt 0 = .ok (.aload_n 0, 1) := by decide +kernel
theorem dX10_valueAt_1 : decode cX10_valueAt 1 = .ok (.getfield 41, 3) := by decide +kernel
theorem dX10_valueAt_4 : decode cX10_valueAt 4 = .ok (.aload_n 0, 1) := by decide +kernel
theorem dX10_valueAt_5 : decode cX10_valueAt 5 = .ok (.iload_n 1, 1) := by decide +kernel
theorem dX10_valueAt_6 : decode cX10_valueAt 6 = .ok (.iload_n 2, 1) := by decide +kernel
theorem dX10_valueAt_7 : decode cX10_valueAt 7 = .ok (.invokevirtual 193, 3) := by decide +kernel
theorem dX10_valueAt_10 : decode cX10_valueAt 10 = .ok (.iaload, 1) := by decide +kernel
theorem dX10_valueAt_11 : decode cX10_valueAt 11 = .ok (.bipush 48, 2) := by decide +kernel
theorem dX10_valueAt_13 : decode cX10_valueAt 13 = .ok (.isub, 1) := by decide +kernel
theorem dX10_valueAt_14 : decode cX10_valueAt 14 = .ok (.istore_n 3, 1) := by decide +kernel
theorem dX10_valueAt_15 : decode cX10_valueAt 15 = .ok (.aload_n 0, 1) := by decide +kernel
theorem dX10_valueAt_16 : decode cX10_valueAt 16 = .ok (.iload_n 1, 1) := by decide +kernel
theorem dX10_valueAt_17 : decode cX10_valueAt 17 = .ok (.iload_n 2, 1) := by decide +kernel
theorem dX10_valueAt_18 : decode cX10_valueAt 18 = .ok (.invokevirtual 199, 3) := by decide +kernel
theorem dX10_valueAt_21 : decode cX10_valueAt 21 = .ok (.iconst 2, 1) := by decide +kernel
theorem dX10_valueAt_22 : decode cX10_valueAt 22 = .ok (.if_icmp .ne 27, 3) := by decide +kernel
theorem dX10_valueAt_25 : decode cX10_valueAt 25 = .ok (.bipush 10, 2) := by decide +kernel
theorem dX10_valueAt_27 : decode cX10_valueAt 27 = .ok (.iload_n 3, 1) := by decide +kernel
theorem dX10_valueAt_28 : decode cX10_valueAt 28 = .ok (.imul, 1) := by decide +kernel
theorem dX10_valueAt_29 : decode cX10_valueAt 29 = .ok (.aload_n 0, 1) := by decide +kernel
theorem dX10_valueAt_30 : decode cX10_valueAt 30 = .ok (.getfield 41, 3) := by decide +kernel
theorem dX10_valueAt_33 : decode cX10_valueAt 33 = .ok (.aload_n 0, 1) := by decide +kernel
theorem dX10_valueAt_34 : decode cX10_valueAt 34 = .ok (.iload_n 1, 1) := by decide +kernel
theorem dX10_valueAt_35 : decode cX10_valueAt 35 = .ok (.iload_n 2, 1) := by decide +kernel
theorem dX10_valueAt_36 : decode cX10_valueAt 36 = .ok (.iconst 1, 1) := by decide +kernel
theorem dX10_valueAt_37 : decode cX10_valueAt 37 = .ok (.iadd, 1) := by decide +kernel
theorem dX10_valueAt_38 : decode cX10_valueAt 38 = .ok (.invokevirtual 193, 3) := by decide +kernel
theorem dX10_valueAt_41 : decode cX10_valueAt 41 = .ok (.iaload, 1) := by decide +kernel
theorem dX10_valueAt_42 : decode cX10_valueAt 42 = .ok (.iadd, 1) := by decide +kernel
theorem dX10_valueAt_43 : decode cX10_valueAt 43 = .ok (.bipush 48, 2) := by decide +kernel
theorem dX10_valueAt_45 : decode cX10_valueAt 45 = .ok (.isub, 1) := by decide +kernel
theorem dX10_valueAt_46 : decode cX10_valueAt 46 = .ok (.goto 4, 3) := by decide +kernel
theorem dX10_valueAt_49 : decode cX10_valueAt 49 = .ok (.iload_n 3, 1) := by decide +kernel
theorem dX10_valueAt_50 : decode cX10_valueAt 50 = .ok (.ireturn, 1) := by decide +kernel
theorem dX10_lookNumbers_0 : decode cX10_lookNumbers 0 = .ok (.iconst 0, 1) := by decide +kernel
theorem dX10_lookNumbers_1 : decode cX10_lookNumbers 1 = .ok (.istore_n 1, 1) := by decide +kernel
theorem dX10_lookNumbers_2 : decode cX10_lookNumbers 2 = .ok (.iload_n 1, 1) := by decide +kernel
theorem dX10_lookNumbers_3 : decode cX10_lookNumbers 3 = .ok (.aload_n 0, 1) := by decide +kernel
theorem dX10_lookNumbers_4 : decode cX10_lookNumbers 4 = .ok (.getfield 78, 3) := by decide +kernel
theorem dX10_lookNumbers_7 : decode cX10_lookNumbers 7 = .ok (.if_icmp .ge 165, 3) := by decide +kernel
theorem dX10_lookNumbers_10 : decode cX10_lookNumbers 10 = .ok (.iconst 0, 1) := by decide +kernel
theorem dX10_lookNumbers_11 : decode cX10_lookNumbers 11 = .ok (.istore_n 2, 1) := by decide +kernel
theorem dX10_lookNumbers_12 : decode cX10_lookNumbers 12 = .ok (.iload_n 2, 1) := by decide +kernel
theorem dX10_lookNumbers_13 : decode cX10_lookNumbers 13 = .ok (.aload_n 0, 1) := by decide +kernel
theorem dX10_lookNumbers_14 : decode cX10_lookNumbers 14 = .ok (.getfield 180, 3) := by decide +kernel
theorem dX10_lookNumbers_17 : decode cX10_lookNumbers 17 = .ok (.if_icmp .ge 149, 3) := by decide +kernel
theorem dX10_lookNumbers_20 : decode cX10_lookNumbers 20 = .ok (.aload_n 0, 1) := by decide +kernel
theorem dX10_lookNumbers_21 : decode cX10_lookNumbers 21 = .ok (.iload_n 1, 1) := by decide +kernel
theorem dX10_lookNumbers_22 : decode cX10_lookNumbers 22 = .ok (.iload_n 2, 1) := by decide +kernel
theorem dX10_lookNumbers_23 : decode cX10_lookNumbers 23 = .ok (.invokevirtual 202, 3) := by decide +kernel
theorem dX10_lookNumbers_26 : decode cX10_lookNumbers 26 = .ok (.ifCond .eq 134, 3) := by decide +kernel
theorem dX10_lookNumbers_29 : decode cX10_lookNumbers 29 = .ok (.aload_n 0, 1) := by decide +kernel
theorem dX10_lookNumbers_30 : decode cX10_lookNumbers 30 = .ok (.iload_n 1, 1) := by decide +kernel
theorem dX10_lookNumbers_31 : decode cX10_lookNumbers 31 = .ok (.iload_n 2, 1) := by decide +kernel
theorem dX10_lookNumbers_32 : decode cX10_lookNumbers 32 = .ok (.invokevirtual 199, 3) := by decide +kernel
theorem dX10_lookNumbers_35 : decode cX10_lookNumbers 35 = .ok (.istore_n 3, 1) := by decide +kernel
theorem dX10_lookNumbers_36 : decode cX10_lookNumbers 36 = .ok (.iload_n 3, 1) := by decide +kernel
theorem dX10_lookNumbers_37 : decode cX10_lookNumbers 37 = .ok (.iconst 2, 1) := by decide +kernel
theorem dX10_lookNumbers_38 : decode cX10_lookNumbers 38 = .ok (.if_icmp .gt 24, 3) := by decide +kernel
theorem dX10_lookNumbers_41 : decode cX10_lookNumbers 41 = .ok (.iload_n 3, 1) := by decide +kernel
theorem dX10_lookNumbers_42 : decode cX10_lookNumbers 42 = .ok (.iconst 2, 1) := by decide +kernel
theorem dX10_lookNumbers_43 : decode cX10_lookNumbers 43 = .ok (.if_icmp .ne 23, 3) := by decide +kernel
theorem dX10_lookNumbers_46 : decode cX10_lookNumbers 46 = .ok (.aload_n 0, 1) := by decide +kernel
theorem dX10_lookNumbers_47 : decode cX10_lookNumbers 47 = .ok (.getfield 41, 3) := by decide +kernel
theorem dX10_lookNumbers_50 : decode cX10_lookNumbers 50 = .ok (.aload_n 0, 1) := by decide +kernel
theorem dX10_lookNumbers_51 : decode cX10_lookNumbers 51 = .ok (.iload_n 1, 1) := by decide +kernel
theorem dX10_lookNumbers_52 : decode cX10_lookNumbers 52 = .ok (.iload_n 2, 1) := by decide +kernel
theorem dX10_lookNumbers_53 : decode cX10_lookNumbers 53 = .ok (.invokevirtual 193, 3) := by decide +kernel
theorem dX10_lookNumbers_56 : decode cX10_lookNumbers 56 = .ok (.iaload, 1) := by decide +kernel
theorem dX10_lookNumbers_57 : decode cX10_lookNumbers 57 = .ok (.bipush 48, 2) := by decide +kernel
theorem dX10_lookNumbers_59 : decode cX10_lookNumbers 59 = .ok (.if_icmp .ne 7, 3) := by decide +kernel
theorem dX10_lookNumbers_62 : decode cX10_lookNumbers 62 = .ok (.iconst 1, 1) := by decide +kernel
theorem dX10_lookNumbers_63 : decode cX10_lookNumbers 63 = .ok (.goto 4, 3) := by decide +kernel
theorem dX10_lookNumbers_66 : decode cX10_lookNumbers 66 = .ok (.iconst 0, 1) := by decide +kernel
theorem dX10_lookNumbers_67 : decode cX10_lookNumbers 67 = .ok (.istore 4, 2) := by decide +kernel
theorem dX10_lookNumbers_69 : decode cX10_lookNumbers 69 = .ok (.iload 4, 2) := by decide +kernel
theorem dX10_lookNumbers_71 : decode cX10_lookNumbers 71 = .ok (.ifCond .ne 21, 3) := by decide +kernel
theorem dX10_lookNumbers_74 : decode cX10_lookNumbers 74 = .ok (.aload_n 0, 1) := by decide +kernel
theorem dX10_lookNumbers_75 : decode cX10_lookNumbers 75 = .ok (.iload_n 1, 1) := by decide +kernel
theorem dX10_lookNumbers_76 : decode cX10_lookNumbers 76 = .ok (.iload_n 2, 1) := by decide +kernel
theorem dX10_lookNumbers_77 : decode cX10_lookNumbers 77 = .ok (.invokevirtual 205, 3) := by decide +kernel
theorem dX10_lookNumbers_80 : decode cX10_lookNumbers 80 = .ok (.aload_n 0, 1) := by decide +kernel
theorem dX10_lookNumbers_81 : decode cX10_lookNumbers 81 = .ok (.getfield 92, 3) := by decide +kernel
theorem dX10_lookNumbers_84 : decode cX10_lookNumbers 84 = .ok (.iadd, 1) := by decide +kernel
theorem dX10_lookNumbers_85 : decode cX10_lookNumbers 85 = .ok (.aload_n 0, 1) := by decide +kernel
theorem dX10_lookNumbers_86 : decode cX10_lookNumbers 86 = .ok (.getfield 13, 3) := by decide +kernel
theorem dX10_lookNumbers_89 : decode cX10_lookNumbers 89 = .ok (.if_icmp .le 14, 3) := by decide +kernel
theorem dX10_lookNumbers_92 : decode cX10_lookNumbers 92 = .ok (.aload_n 0, 1) := by decide +kernel
theorem dX10_lookNumbers_93 : decode cX10_lookNumbers 93 = .ok (.iconst 2, 1) := by decide +kernel
theorem dX10_lookNumbers_94 : decode cX10_lookNumbers 94 = .ok (.aload_n 0, 1) := by decide +kernel
theorem dX10_lookNumbers_95 : decode cX10_lookNumbers 95 = .ok (.iload_n 1, 1) := by decide +kernel
theorem dX10_lookNumbers_96 : decode cX10_lookNumbers 96 = .ok (.iload_n 2, 1) := by decide +kernel
theorem dX10_lookNumbers_97 : decode cX10_lookNumbers 97 = .ok (.invokevirtual 193, 3) := by decide +kernel
theorem dX10_lookNumbers_100 : decode cX10_lookNumbers 100 = .ok (.invokevirtual 177, 3) := by decide +kernel
theorem dX10_lookNumbers_103 : decode cX10_lookNumbers 103 = .ok (.iconst 0, 1) := by decide +kernel
theorem dX10_lookNumbers_104 : decode cX10_lookNumbers 104 = .ok (.istore 5, 2) := by decide +kernel
theorem dX10_lookNumbers_106 : decode cX10_lookNumbers 106 = .ok (.iload 5, 2) := by decide +kernel
theorem dX10_lookNumbers_108 : decode cX10_lookNumbers 108 = .ok (.aload_n 0, 1) := by decide +kernel
theorem dX10_lookNumbers_109 : decode cX10_lookNumbers 109 = .ok (.getfield 78, 3) := by decide +kernel
theorem dX10_lookNumbers_112 : decode cX10_lookNumbers 112 = .ok (.if_icmp .ge 48, 3) := by decide +kernel
theorem dX10_lookNumbers_115 : decode cX10_lookNumbers 115 = .ok (.iload 5, 2) := by decide +kernel
theorem dX10_lookNumbers_117 : decode cX10_lookNumbers 117 = .ok (.iload_n 1, 1) := by decide +kernel
theorem dX10_lookNumbers_118 : decode cX10_lookNumbers 118 = .ok (.if_icmp .eq 36, 3) := by decide +kernel
theorem dX10_lookNumbers_121 : decode cX10_lookNumbers 121 = .ok (.aload_n 0, 1) := by decide +kernel
theorem dX10_lookNumbers_122 : decode cX10_lookNumbers 122 = .ok (.iload 5, 2) := by decide +kernel
theorem dX10_lookNumbers_124 : decode cX10_lookNumbers 124 = .ok (.iload_n 2, 1) := by decide +kernel
theorem dX10_lookNumbers_125 : decode cX10_lookNumbers 125 = .ok (.invokevirtual 196, 3) := by decide +kernel
theorem dX10_lookNumbers_128 : decode cX10_lookNumbers 128 = .ok (.ifCond .eq 26, 3) := by decide +kernel
theorem dX10_lookNumbers_131 : decode cX10_lookNumbers 131 = .ok (.aload_n 0, 1) := by decide +kernel
theorem dX10_lookNumbers_132 : decode cX10_lookNumbers 132 = .ok (.iload 5, 2) := by decide +kernel
theorem dX10_lookNumbers_134 : decode cX10_lookNumbers 134 = .ok (.iload_n 2, 1) := by decide +kernel
theorem dX10_lookNumbers_135 : decode cX10_lookNumbers 135 = .ok (.iconst 1, 1) := by decide +kernel
theorem dX10_lookNumbers_136 : decode cX10_lookNumbers 136 = .ok (.isub, 1) := by decide +kernel
theorem dX10_lookNumbers_137 : decode cX10_lookNumbers 137 = .ok (.invokevirtual 202, 3) := by decide +kernel
theorem dX10_lookNumbers_140 : decode cX10_lookNumbers 140 = .ok (.ifCond .eq 14, 3) := by decide +kernel
theorem dX10_lookNumbers_143 : decode cX10_lookNumbers 143 = .ok (.aload_n 0, 1) := by decide +kernel
theorem dX10_lookNumbers_144 : decode cX10_lookNumbers 144 = .ok (.iconst 3, 1) := by decide +kernel
theorem dX10_lookNumbers_145 : decode cX10_lookNumbers 145 = .ok (.aload_n 0, 1) := by decide +kernel
theorem dX10_lookNumbers_146 : decode cX10_lookNumbers 146 = .ok (.iload_n 1, 1) := by decide +kernel
theorem dX10_lookNumbers_147 : decode cX10_lookNumbers 147 = .ok (.iload_n 2, 1) := by decide +kernel
theorem dX10_lookNumbers_148 : decode cX10_lookNumbers 148 = .ok (.invokevirtual 193, 3) := by decide +kernel
theorem dX10_lookNumbers_151 : decode cX10_lookNumbers 151 = .ok (.invokevirtual 177, 3) := by decide +kernel
theorem dX10_lookNumbers_154 : decode cX10_lookNumbers 154 = .ok (.iinc 5 1, 3) := by decide +kernel
theorem dX10_lookNumbers_157 : decode cX10_lookNumbers 157 = .ok (.goto (-51), 3) := by decide +kernel
theorem dX10_lookNumbers_160 : decode cX10_lookNumbers 160 = .ok (.iinc 2 1, 3) := by decide +kernel
theorem dX10_lookNumbers_163 : decode cX10_lookNumbers 163 = .ok (.goto (-151), 3) := by decide +kernel
theorem dX10_lookNumbers_166 : decode cX10_lookNumbers 166 = .ok (.iinc 1 1, 3) := by decide +kernel
theorem dX10_lookNumbers_169 : decode cX10_lookNumbers 169 = .ok (.goto (-167), 3) := by decide +kernel
theorem dX10_lookNumbers_172 : decode cX10_lookNumbers 172 = .ok (.return_, 1) := by decide +kernel
theorem dX10_lookEvents_0 : decode cX10_lookEvents 0 = .ok (.aload_n 0, 1) := by decide +kernel
theorem dX10_lookEvents_1 : decode cX10_lookEvents 1 = .ok (.iconst 0, 1) := by decide +kernel
theorem dX10_lookEvents_2 : decode cX10_lookEvents 2 = .ok (.putfield 208, 3) := by decide +kernel
theorem dX10_lookEvents_5 : decode cX10_lookEvents 5 = .ok (.iconst 0, 1) := by decide +kernel
theorem dX10_lookEvents_6 : decode cX10_lookEvents 6 = .ok (.istore_n 1, 1) := by decide +kernel
theorem dX10_lookEvents_7 : decode cX10_lookEvents 7 = .ok (.iconst 0, 1) := by decide +kernel
theorem dX10_lookEvents_8 : decode cX10_lookEvents 8 = .ok (.istore_n 2, 1) := by decide +kernel
theorem dX10_lookEvents_9 : decode cX10_lookEvents 9 = .ok (.iload_n 2, 1) := by decide +kernel
theorem dX10_lookEvents_10 : decode cX10_lookEvents 10 = .ok (.aload_n 0, 1) := by decide +kernel
theorem dX10_lookEvents_11 : decode cX10_lookEvents 11 = .ok (.getfield 180, 3) := by decide +kernel
theorem dX10_lookEvents_14 : decode cX10_lookEvents 14 = .ok (.if_icmp .ge 271, 3) := by decide +kernel
theorem dX10_lookEvents_17 : decode cX10_lookEvents 17 = .ok (.iconst 0, 1) := by decide +kernel
theorem dX10_lookEvents_18 : decode cX10_lookEvents 18 = .ok (.istore_n 3, 1) := by decide +kernel
theorem dX10_lookEvents_19 : decode cX10_lookEvents 19 = .ok (.iconst (-1), 1) := by decide +kernel
theorem dX10_lookEvents_20 : decode cX10_lookEvents 20 = .ok (.istore 4, 2) := by decide +kernel
theorem dX10_lookEvents_22 : decode cX10_lookEvents 22 = .ok (.iconst 0, 1) := by decide +kernel
theorem dX10_lookEvents_23 : decode cX10_lookEvents 23 = .ok (.istore 5, 2) := by decide +kernel
theorem dX10_lookEvents_25 : decode cX10_lookEvents 25 = .ok (.iconst 0, 1) := by decide +kernel
theorem dX10_lookEvents_26 : decode cX10_lookEvents 26 = .ok (.istore 6, 2) := by decide +kernel
theorem dX10_lookEvents_28 : decode cX10_lookEvents 28 = .ok (.iload 6, 2) := by decide +kernel
theorem dX10_lookEvents_30 : decode cX10_lookEvents 30 = .ok (.aload_n 0, 1) := by decide +kernel
theorem dX10_lookEvents_31 : decode cX10_lookEvents 31 = .ok (.getfield 78, 3) := by decide +kernel
theorem dX10_lookEvents_34 : decode cX10_lookEvents 34 = .ok (.if_icmp .ge 169, 3) := by decide +kernel
theorem dX10_lookEvents_37 : decode cX10_lookEvents 37 = .ok (.aload_n 0, 1) := by decide +kernel
theorem dX10_lookEvents_38 : decode cX10_lookEvents 38 = .ok (.iload 6, 2) := by decide +kernel
theorem dX10_lookEvents_40 : decode cX10_lookEvents 40 = .ok (.iload_n 2, 1) := by decide +kernel
theorem dX10_lookEvents_41 : decode cX10_lookEvents 41 = .ok (.invokevirtual 202, 3) := by decide +kernel
theorem dX10_lookEvents_44 : decode cX10_lookEvents 44 = .ok (.ifCond .eq 153, 3) := by decide +kernel
theorem dX10_lookEvents_47 : decode cX10_lookEvents 47 = .ok (.iload_n 3, 1) := by decide +kernel
theorem dX10_lookEvents_48 : decode cX10_lookEvents 48 = .ok (.ifCond .ne 13, 3) := by decide +kernel
theorem dX10_lookEvents_51 : decode cX10_lookEvents 51 = .ok (.aload_n 0, 1) := by decide +kernel
theorem dX10_lookEvents_52 : decode cX10_lookEvents 52 = .ok (.iload 6, 2) := by decide +kernel
theorem dX10_lookEvents_54 : decode cX10_lookEvents 54 = .ok (.iload_n 2, 1) := by decide +kernel
theorem dX10_lookEvents_55 : decode cX10_lookEvents 55 = .ok (.invokevirtual 193, 3) := by decide +kernel
theorem dX10_lookEvents_58 : decode cX10_lookEvents 58 = .ok (.goto 5, 3) := by decide +kernel
theorem dX10_lookEvents_61 : decode cX10_lookEvents 61 = .ok (.iload 4, 2) := by decide +kernel
theorem dX10_lookEvents_63 : decode cX10_lookEvents 63 = .ok (.istore 4, 2) := by decide +kernel
theorem dX10_lookEvents_65 : decode cX10_lookEvents 65 = .ok (.aload_n 0, 1) := by decide +kernel
theorem dX10_lookEvents_66 : decode cX10_lookEvents 66 = .ok (.getfield 7, 3) := by decide +kernel
theorem dX10_lookEvents_69 : decode cX10_lookEvents 69 = .ok (.iload 6, 2) := by decide +kernel
theorem dX10_lookEvents_71 : decode cX10_lookEvents 71 = .ok (.iaload, 1) := by decide +kernel
theorem dX10_lookEvents_72 : decode cX10_lookEvents 72 = .ok (.aload_n 0, 1) := by decide +kernel
theorem dX10_lookEvents_73 : decode cX10_lookEvents 73 = .ok (.getfield 92, 3) := by decide +kernel
theorem dX10_lookEvents_76 : decode cX10_lookEvents 76 = .ok (.iadd, 1) := by decide +kernel
theorem dX10_lookEvents_77 : decode cX10_lookEvents 77 = .ok (.aload_n 0, 1) := by decide +kernel
theorem dX10_lookEvents_78 : decode cX10_lookEvents 78 = .ok (.iload 6, 2) := by decide +kernel
theorem dX10_lookEvents_80 : decode cX10_lookEvents 80 = .ok (.iload_n 2, 1) := by decide +kernel
theorem dX10_lookEvents_81 : decode cX10_lookEvents 81 = .ok (.invokevirtual 205, 3) := by decide +kernel
theorem dX10_lookEvents_84 : decode cX10_lookEvents 84 = .ok (.iadd, 1) := by decide +kernel
theorem dX10_lookEvents_85 : decode cX10_lookEvents 85 = .ok (.istore 7, 2) := by decide +kernel
theorem dX10_lookEvents_87 : decode cX10_lookEvents 87 = .ok (.iconst 0, 1) := by decide +kernel
theorem dX10_lookEvents_88 : decode cX10_lookEvents 88 = .ok (.istore 8, 2) := by decide +kernel
theorem dX10_lookEvents_90 : decode cX10_lookEvents 90 = .ok (.iload 8, 2) := by decide +kernel
theorem dX10_lookEvents_92 : decode cX10_lookEvents 92 = .ok (.iload 6, 2) := by decide +kernel
theorem dX10_lookEvents_94 : decode cX10_lookEvents 94 = .ok (.if_icmp .ge 56, 3) := by decide +kernel
theorem dX10_lookEvents_97 : decode cX10_lookEvents 97 = .ok (.iload 5, 2) := by decide +kernel
theorem dX10_lookEvents_99 : decode cX10_lookEvents 99 = .ok (.ifCond .ne 38, 3) := by decide +kernel
theorem dX10_lookEvents_102 : decode cX10_lookEvents 102 = .ok (.aload_n 0, 1) := by decide +kernel
theorem dX10_lookEvents_103 : decode cX10_lookEvents 103 = .ok (.iload 8, 2) := by decide +kernel
theorem dX10_lookEvents_105 : decode cX10_lookEvents 105 = .ok (.iload_n 2, 1) := by decide +kernel
theorem dX10_lookEvents_106 : decode cX10_lookEvents 106 = .ok (.invokevirtual 202, 3) := by decide +kernel
theorem dX10_lookEvents_109 : decode cX10_lookEvents 109 = .ok (.ifCond .eq 32, 3) := by decide +kernel
theorem dX10_lookEvents_112 : decode cX10_lookEvents 112 = .ok (.aload_n 0, 1) := by decide +kernel
theorem dX10_lookEvents_113 : decode cX10_lookEvents 113 = .ok (.getfield 7, 3) := by decide +kernel
theorem dX10_lookEvents_116 : decode cX10_lookEvents 116 = .ok (.iload 8, 2) := by decide +kernel
theorem dX10_lookEvents_118 : decode cX10_lookEvents 118 = .ok (.iaload, 1) := by decide +kernel
theorem dX10_lookEvents_119 : decode cX10_lookEvents 119 = .ok (.aload_n 0, 1) := by decide +kernel
theorem dX10_lookEvents_120 : decode cX10_lookEvents 120 = .ok (.getfield 92, 3) := by decide +kernel
theorem dX10_lookEvents_123 : decode cX10_lookEvents 123 = .ok (.iadd, 1) := by decide +kernel
theorem dX10_lookEvents_124 : decode cX10_lookEvents 124 = .ok (.aload_n 0, 1) := by decide +kernel
theorem dX10_lookEvents_125 : decode cX10_lookEvents 125 = .ok (.iload 8, 2) := by decide +kernel
theorem dX10_lookEvents_127 : decode cX10_lookEvents 127 = .ok (.iload_n 2, 1) := by decide +kernel
theorem dX10_lookEvents_128 : decode cX10_lookEvents 128 = .ok (.invokevirtual 205, 3) := by decide +kernel
theorem dX10_lookEvents_131 : decode cX10_lookEvents 131 = .ok (.iadd, 1) := by decide +kernel
theorem dX10_lookEvents_132 : decode cX10_lookEvents 132 = .ok (.iload 7, 2) := by decide +kernel
theorem dX10_lookEvents_134 : decode cX10_lookEvents 134 = .ok (.if_icmp .ne 7, 3) := by decide +kernel
theorem dX10_lookEvents_137 : decode cX10_lookEvents 137 = .ok (.iconst 1, 1) := by decide +kernel
theorem dX10_lookEvents_138 : decode cX10_lookEvents 138 = .ok (.goto 4, 3) := by decide +kernel
theorem dX10_lookEvents_141 : decode cX10_lookEvents 141 = .ok (.iconst 0, 1) := by decide +kernel
theorem dX10_lookEvents_142 : decode cX10_lookEvents 142 = .ok (.istore 5, 2) := by decide +kernel
theorem dX10_lookEvents_144 : decode cX10_lookEvents 144 = .ok (.iinc 8 1, 3) := by decide +kernel
theorem dX10_lookEvents_147 : decode cX10_lookEvents 147 = .ok (.goto (-57), 3) := by decide +kernel
theorem dX10_lookEvents_150 : decode cX10_lookEvents 150 = .ok (.iload_n 3, 1) := by decide +kernel
theorem dX10_lookEvents_151 : decode cX10_lookEvents 151 = .ok (.iconst 4, 1) := by decide +kernel
theorem dX10_lookEvents_152 : decode cX10_lookEvents 152 = .ok (.if_icmp .ge 42, 3) := by decide +kernel
theorem dX10_lookEvents_155 : decode cX10_lookEvents 155 = .ok (.aload_n 0, 1) := by decide +kernel
theorem dX10_lookEvents_156 : decode cX10_lookEvents 156 = .ok (.getfield 208, 3) := by decide +kernel
theorem dX10_lookEvents_159 : decode cX10_lookEvents 159 = .ok (.bipush 40, 2) := by decide +kernel
theorem dX10_lookEvents_161 : decode cX10_lookEvents 161 = .ok (.if_icmp .ge 33, 3) := by decide +kernel
theorem dX10_lookEvents_164 : decode cX10_lookEvents 164 = .ok (.aload_n 0, 1) := by decide +kernel
theorem dX10_lookEvents_165 : decode cX10_lookEvents 165 = .ok (.getfield 72, 3) := by decide +kernel
theorem dX10_lookEvents_168 : decode cX10_lookEvents 168 = .ok (.iconst 4, 1) := by decide +kernel
theorem dX10_lookEvents_169 : decode cX10_lookEvents 169 = .ok (.aload_n 0, 1) := by decide +kernel
theorem dX10_lookEvents_170 : decode cX10_lookEvents 170 = .ok (.getfield 208, 3) := by decide +kernel
theorem dX10_lookEvents_173 : decode cX10_lookEvents 173 = .ok (.imul, 1) := by decide +kernel
theorem dX10_lookEvents_174 : decode cX10_lookEvents 174 = .ok (.iload_n 3, 1) := by decide +kernel
theorem dX10_lookEvents_175 : decode cX10_lookEvents 175 = .ok (.iadd, 1) := by decide +kernel
theorem dX10_lookEvents_176 : decode cX10_lookEvents 176 = .ok (.iload 7, 2) := by decide +kernel
theorem dX10_lookEvents_178 : decode cX10_lookEvents 178 = .ok (.iastore, 1) := by decide +kernel
theorem dX10_lookEvents_179 : decode cX10_lookEvents 179 = .ok (.aload_n 0, 1) := by decide +kernel
theorem dX10_lookEvents_180 : decode cX10_lookEvents 180 = .ok (.getfield 75, 3) := by decide +kernel
theorem dX10_lookEvents_183 : decode cX10_lookEvents 183 = .ok (.iconst 4, 1) := by decide +kernel
theorem dX10_lookEvents_184 : decode cX10_lookEvents 184 = .ok (.aload_n 0, 1) := by decide +kernel
theorem dX10_lookEvents_185 : decode cX10_lookEvents 185 = .ok (.getfield 208, 3) := by decide +kernel
theorem dX10_lookEvents_188 : decode cX10_lookEvents 188 = .ok (.imul, 1) := by decide +kernel
theorem dX10_lookEvents_189 : decode cX10_lookEvents 189 = .ok (.iload_n 3, 1) := by decide +kernel
theorem dX10_lookEvents_190 : decode cX10_lookEvents 190 = .ok (.iadd, 1) := by decide +kernel
theorem dX10_lookEvents_191 : decode cX10_lookEvents 191 = .ok (.iload 6, 2) := by decide +kernel
theorem dX10_lookEvents_193 : decode cX10_lookEvents 193 = .ok (.iastore, 1) := by decide +kernel
theorem dX10_lookEvents_194 : decode cX10_lookEvents 194 = .ok (.iinc 3 1, 3) := by decide +kernel
theorem dX10_lookEvents_197 : decode cX10_lookEvents 197 = .ok (.iinc 6 1, 3) := by decide +kernel
theorem dX10_lookEvents_200 : decode cX10_lookEvents 200 = .ok (.goto (-172), 3) := by decide +kernel
theorem dX10_lookEvents_203 : decode cX10_lookEvents 203 = .ok (.iload_n 3, 1) := by decide +kernel
theorem dX10_lookEvents_204 : decode cX10_lookEvents 204 = .ok (.iconst 4, 1) := by decide +kernel
theorem dX10_lookEvents_205 : decode cX10_lookEvents 205 = .ok (.if_icmp .gt 8, 3) := by decide +kernel
theorem dX10_lookEvents_208 : decode cX10_lookEvents 208 = .ok (.iload 5, 2) := by decide +kernel
theorem dX10_lookEvents_210 : decode cX10_lookEvents 210 = .ok (.ifCond .eq 10, 3) := by decide +kernel
theorem dX10_lookEvents_213 : decode cX10_lookEvents 213 = .ok (.aload_n 0, 1) := by decide +kernel
theorem dX10_lookEvents_214 : decode cX10_lookEvents 214 = .ok (.iconst 4, 1) := by decide +kernel
theorem dX10_lookEvents_215 : decode cX10_lookEvents 215 = .ok (.iload 4, 2) := by decide +kernel
theorem dX10_lookEvents_217 : decode cX10_lookEvents 217 = .ok (.invokevirtual 177, 3) := by decide +kernel
theorem dX10_lookEvents_220 : decode cX10_lookEvents 220 = .ok (.iload_n 3, 1) := by decide +kernel
theorem dX10_lookEvents_221 : decode cX10_lookEvents 221 = .ok (.ifCond .le 25, 3) := by decide +kernel
theorem dX10_lookEvents_224 : decode cX10_lookEvents 224 = .ok (.aload_n 0, 1) := by decide +kernel
theorem dX10_lookEvents_225 : decode cX10_lookEvents 225 = .ok (.getfield 208, 3) := by decide +kernel
theorem dX10_lookEvents_228 : decode cX10_lookEvents 228 = .ok (.bipush 40, 2) := by decide +kernel
theorem dX10_lookEvents_230 : decode cX10_lookEvents 230 = .ok (.if_icmp .ne 16, 3) := by decide +kernel
theorem dX10_lookEvents_233 : decode cX10_lookEvents 233 = .ok (.iload_n 1, 1) := by decide +kernel
theorem dX10_lookEvents_234 : decode cX10_lookEvents 234 = .ok (.ifCond .ne 12, 3) := by decide +kernel
theorem dX10_lookEvents_237 : decode cX10_lookEvents 237 = .ok (.aload_n 0, 1) := by decide +kernel
theorem dX10_lookEvents_238 : decode cX10_lookEvents 238 = .ok (.iconst 5, 1) := by decide +kernel
theorem dX10_lookEvents_239 : decode cX10_lookEvents 239 = .ok (.iload 4, 2) := by decide +kernel
theorem dX10_lookEvents_241 : decode cX10_lookEvents 241 = .ok (.invokevirtual 177, 3) := by decide +kernel
theorem dX10_lookEvents_244 : decode cX10_lookEvents 244 = .ok (.iconst 1, 1) := by decide +kernel
theorem dX10_lookEvents_245 : decode cX10_lookEvents 245 = .ok (.istore_n 1, 1) := by decide +kernel
theorem dX10_lookEvents_246 : decode cX10_lookEvents 246 = .ok (.iload_n 3, 1) := by decide +kernel
theorem dX10_lookEvents_247 : decode cX10_lookEvents 247 = .ok (.ifCond .le 32, 3) := by decide +kernel
theorem dX10_lookEvents_250 : decode cX10_lookEvents 250 = .ok (.aload_n 0, 1) := by decide +kernel
theorem dX10_lookEvents_251 : decode cX10_lookEvents 251 = .ok (.getfield 208, 3) := by decide +kernel
theorem dX10_lookEvents_254 : decode cX10_lookEvents 254 = .ok (.bipush 40, 2) := by decide +kernel
theorem dX10_lookEvents_256 : decode cX10_lookEvents 256 = .ok (.if_icmp .ge 23, 3) := by decide +kernel
theorem dX10_lookEvents_259 : decode cX10_lookEvents 259 = .ok (.aload_n 0, 1) := by decide +kernel
theorem dX10_lookEvents_260 : decode cX10_lookEvents 260 = .ok (.getfield 69, 3) := by decide +kernel
theorem dX10_lookEvents_263 : decode cX10_lookEvents 263 = .ok (.aload_n 0, 1) := by decide +kernel
theorem dX10_lookEvents_264 : decode cX10_lookEvents 264 = .ok (.getfield 208, 3) := by decide +kernel
theorem dX10_lookEvents_267 : decode cX10_lookEvents 267 = .ok (.iload_n 3, 1) := by decide +kernel
theorem dX10_lookEvents_268 : decode cX10_lookEvents 268 = .ok (.iastore, 1) := by decide +kernel
theorem dX10_lookEvents_269 : decode cX10_lookEvents 269 = .ok (.aload_n 0, 1) := by decide +kernel
theorem dX10_lookEvents_270 : decode cX10_lookEvents 270 = .ok (.dup, 1) := by decide +kernel
theorem dX10_lookEvents_271 : decode cX10_lookEvents 271 = .ok (.getfield 208, 3) := by decide +kernel
theorem dX10_lookEvents_274 : decode cX10_lookEvents 274 = .ok (.iconst 1, 1) := by decide +kernel
theorem dX10_lookEvents_275 : decode cX10_lookEvents 275 = .ok (.iadd, 1) := by decide +kernel
theorem dX10_lookEvents_276 : decode cX10_lookEvents 276 = .ok (.putfield 208, 3) := by decide +kernel
theorem dX10_lookEvents_279 : decode cX10_lookEvents 279 = .ok (.iinc 2 1, 3) := by decide +kernel
theorem dX10_lookEvents_282 : decode cX10_lookEvents 282 = .ok (.goto (-273), 3) := by decide +kernel
theorem dX10_lookEvents_285 : decode cX10_lookEvents 285 = .ok (.return_, 1) := by decide +kernel
theorem dX10_read_0 : decode cX10_read 0 = .ok (.aload_n 0, 1) := by decide +kernel
theorem dX10_read_1 : decode cX10_read 1 = .ok (.getfield 78, 3) := by decide +kernel
theorem dX10_read_4 : decode cX10_read 4 = .ok (.ifCond .ne 6, 3) := by decide +kernel
theorem dX10_read_7 : decode cX10_read 7 = .ok (.bipush (-4), 2) := by decide +kernel
theorem dX10_read_9 : decode cX10_read 9 = .ok (.ireturn, 1) := by decide +kernel
theorem dX10_read_10 : decode cX10_read 10 = .ok (.aload_n 0, 1) := by decide +kernel
theorem dX10_read_11 : decode cX10_read 11 = .ok (.iconst 0, 1) := by decide +kernel
theorem dX10_read_12 : decode cX10_read 12 = .ok (.putfield 171, 3) := by decide +kernel
theorem dX10_read_15 : decode cX10_read 15 = .ok (.aload_n 0, 1) := by decide +kernel
theorem dX10_read_16 : decode cX10_read 16 = .ok (.iconst (-1), 1) := by decide +kernel
theorem dX10_read_17 : decode cX10_read 17 = .ok (.putfield 174, 3) := by decide +kernel
theorem dX10_read_20 : decode cX10_read 20 = .ok (.aload_n 0, 1) := by decide +kernel
theorem dX10_read_21 : decode cX10_read 21 = .ok (.invokevirtual 211, 3) := by decide +kernel
theorem dX10_read_24 : decode cX10_read 24 = .ok (.aload_n 0, 1) := by decide +kernel
theorem dX10_read_25 : decode cX10_read 25 = .ok (.getfield 171, 3) := by decide +kernel
theorem dX10_read_28 : decode cX10_read 28 = .ok (.ifCond .ne 7, 3) := by decide +kernel
theorem dX10_read_31 : decode cX10_read 31 = .ok (.aload_n 0, 1) := by decide +kernel
theorem dX10_read_32 : decode cX10_read 32 = .ok (.invokevirtual 214, 3) := by decide +kernel
theorem dX10_read_35 : decode cX10_read 35 = .ok (.aload_n 0, 1) := by decide +kernel
theorem dX10_read_36 : decode cX10_read 36 = .ok (.getfield 171, 3) := by decide +kernel
theorem dX10_read_39 : decode cX10_read 39 = .ok (.ifCond .ne 7, 3) := by decide +kernel
theorem dX10_read_42 : decode cX10_read 42 = .ok (.aload_n 0, 1) := by decide +kernel
theorem dX10_read_43 : decode cX10_read 43 = .ok (.invokevirtual 217, 3) := by decide +kernel
theorem dX10_read_46 : decode cX10_read 46 = .ok (.aload_n 0, 1) := by decide +kernel
theorem dX10_read_47 : decode cX10_read 47 = .ok (.aload_n 0, 1) := by decide +kernel
theorem dX10_read_48 : decode cX10_read 48 = .ok (.getfield 171, 3) := by decide +kernel
theorem dX10_read_51 : decode cX10_read 51 = .ok (.ifCond .ne 7, 3) := by decide +kernel
theorem dX10_read_54 : decode cX10_read 54 = .ok (.iconst (-1), 1) := by decide +kernel
theorem dX10_read_55 : decode cX10_read 55 = .ok (.goto 7, 3) := by decide +kernel
theorem dX10_read_58 : decode cX10_read 58 = .ok (.aload_n 0, 1) := by decide +kernel
theorem dX10_read_59 : decode cX10_read 59 = .ok (.getfield 174, 3) := by decide +kernel
theorem dX10_read_62 : decode cX10_read 62 = .ok (.putfield 44, 3) := by decide +kernel
theorem dX10_read_65 : decode cX10_read 65 = .ok (.aload_n 0, 1) := by decide +kernel
theorem dX10_read_66 : decode cX10_read 66 = .ok (.iconst 0, 1) := by decide +kernel
theorem dX10_read_67 : decode cX10_read 67 = .ok (.putfield 106, 3) := by decide +kernel
theorem dX10_read_70 : decode cX10_read 70 = .ok (.aload_n 0, 1) := by decide +kernel
theorem dX10_read_71 : decode cX10_read 71 = .ok (.getfield 171, 3) := by decide +kernel
theorem dX10_read_74 : decode cX10_read 74 = .ok (.ifCond .le 11, 3) := by decide +kernel
theorem dX10_read_77 : decode cX10_read 77 = .ok (.bipush (-10), 2) := by decide +kernel
theorem dX10_read_79 : decode cX10_read 79 = .ok (.aload_n 0, 1) := by decide +kernel
theorem dX10_read_80 : decode cX10_read 80 = .ok (.getfield 171, 3) := by decide +kernel
theorem dX10_read_83 : decode cX10_read 83 = .ok (.isub, 1) := by decide +kernel
theorem dX10_read_84 : decode cX10_read 84 = .ok (.ireturn, 1) := by decide +kernel
theorem dX10_read_85 : decode cX10_read 85 = .ok (.aload_n 0, 1) := by decide +kernel
theorem dX10_read_86 : decode cX10_read 86 = .ok (.aload_n 0, 1) := by decide +kernel
theorem dX10_read_87 : decode cX10_read 87 = .ok (.getfield 208, 3) := by decide +kernel
theorem dX10_read_90 : decode cX10_read 90 = .ok (.putfield 81, 3) := by decide +kernel
theorem dX10_read_93 : decode cX10_read 93 = .ok (.iconst 0, 1) := by decide +kernel
theorem dX10_read_94 : decode cX10_read 94 = .ok (.istore_n 1, 1) := by decide +kernel
theorem dX10_read_95 : decode cX10_read 95 = .ok (.iload_n 1, 1) := by decide +kernel
theorem dX10_read_96 : decode cX10_read 96 = .ok (.aload_n 0, 1) := by decide +kernel
theorem dX10_read_97 : decode cX10_read 97 = .ok (.getfield 81, 3) := by decide +kernel
theorem dX10_read_100 : decode cX10_read 100 = .ok (.if_icmp .ge 79, 3) := by decide +kernel
theorem dX10_read_103 : decode cX10_read 103 = .ok (.aload_n 0, 1) := by decide +kernel
theorem dX10_read_104 : decode cX10_read 104 = .ok (.getfield 20, 3) := by decide +kernel
theorem dX10_read_107 : decode cX10_read 107 = .ok (.iload_n 1, 1) := by decide +kernel
theorem dX10_read_108 : decode cX10_read 108 = .ok (.aload_n 0, 1) := by decide +kernel
theorem dX10_read_109 : decode cX10_read 109 = .ok (.getfield 69, 3) := by decide +kernel
theorem dX10_read_112 : decode cX10_read 112 = .ok (.iload_n 1, 1) := by decide +kernel
theorem dX10_read_113 : decode cX10_read 113 = .ok (.iaload, 1) := by decide +kernel
theorem dX10_read_114 : decode cX10_read 114 = .ok (.iastore, 1) := by decide +kernel
theorem dX10_read_115 : decode cX10_read 115 = .ok (.iconst 0, 1) := by decide +kernel
theorem dX10_read_116 : decode cX10_read 116 = .ok (.istore_n 2, 1) := by decide +kernel
theorem dX10_read_117 : decode cX10_read 117 = .ok (.iload_n 2, 1) := by decide +kernel
theorem dX10_read_118 : decode cX10_read 118 = .ok (.aload_n 0, 1) := by decide +kernel
theorem dX10_read_119 : decode cX10_read 119 = .ok (.getfield 69, 3) := by decide +kernel
theorem dX10_read_122 : decode cX10_read 122 = .ok (.iload_n 1, 1) := by decide +kernel
theorem dX10_read_123 : decode cX10_read 123 = .ok (.iaload, 1) := by decide +kernel
theorem dX10_read_124 : decode cX10_read 124 = .ok (.if_icmp .ge 49, 3) := by decide +kernel
theorem dX10_read_127 : decode cX10_read 127 = .ok (.aload_n 0, 1) := by decide +kernel
theorem dX10_read_128 : decode cX10_read 128 = .ok (.getfield 23, 3) := by decide +kernel
theorem dX10_read_131 : decode cX10_read 131 = .ok (.iconst 4, 1) := by decide +kernel
theorem dX10_read_132 : decode cX10_read 132 = .ok (.iload_n 1, 1) := by decide +kernel
theorem dX10_read_133 : decode cX10_read 133 = .ok (.imul, 1) := by decide +kernel
theorem dX10_read_134 : decode cX10_read 134 = .ok (.iload_n 2, 1) := by decide +kernel
theorem dX10_read_135 : decode cX10_read 135 = .ok (.iadd, 1) := by decide +kernel
theorem dX10_read_136 : decode cX10_read 136 = .ok (.aload_n 0, 1) := by decide +kernel
theorem dX10_read_137 : decode cX10_read 137 = .ok (.getfield 72, 3) := by decide +kernel
theorem dX10_read_140 : decode cX10_read 140 = .ok (.iconst 4, 1) := by decide +kernel
theorem dX10_read_141 : decode cX10_read 141 = .ok (.iload_n 1, 1) := by decide +kernel
theorem dX10_read_142 : decode cX10_read 142 = .ok (.imul, 1) := by decide +kernel
theorem dX10_read_143 : decode cX10_read 143 = .ok (.iload_n 2, 1) := by decide +kernel
theorem dX10_read_144 : decode cX10_read 144 = .ok (.iadd, 1) := by decide +kernel
theorem dX10_read_145 : decode cX10_read 145 = .ok (.iaload, 1) := by decide +kernel
theorem dX10_read_146 : decode cX10_read 146 = .ok (.iastore, 1) := by decide +kernel
theorem dX10_read_147 : decode cX10_read 147 = .ok (.aload_n 0, 1) := by decide +kernel
theorem dX10_read_148 : decode cX10_read 148 = .ok (.getfield 26, 3) := by decide +kernel
theorem dX10_read_151 : decode cX10_read 151 = .ok (.iconst 4, 1) := by decide +kernel
theorem dX10_read_152 : decode cX10_read 152 = .ok (.iload_n 1, 1) := by decide +kernel
theorem dX10_read_153 : decode cX10_read 153 = .ok (.imul, 1) := by decide +kernel
theorem dX10_read_154 : decode cX10_read 154 = .ok (.iload_n 2, 1) := by decide +kernel
theorem dX10_read_155 : decode cX10_read 155 = .ok (.iadd, 1) := by decide +kernel
theorem dX10_read_156 : decode cX10_read 156 = .ok (.aload_n 0, 1) := by decide +kernel
theorem dX10_read_157 : decode cX10_read 157 = .ok (.getfield 75, 3) := by decide +kernel
theorem dX10_read_160 : decode cX10_read 160 = .ok (.iconst 4, 1) := by decide +kernel
theorem dX10_read_161 : decode cX10_read 161 = .ok (.iload_n 1, 1) := by decide +kernel
theorem dX10_read_162 : decode cX10_read 162 = .ok (.imul, 1) := by decide +kernel
theorem dX10_read_163 : decode cX10_read 163 = .ok (.iload_n 2, 1) := by decide +kernel
theorem dX10_read_164 : decode cX10_read 164 = .ok (.iadd, 1) := by decide +kernel
theorem dX10_read_165 : decode cX10_read 165 = .ok (.iaload, 1) := by decide +kernel
theorem dX10_read_166 : decode cX10_read 166 = .ok (.iastore, 1) := by decide +kernel
theorem dX10_read_167 : decode cX10_read 167 = .ok (.iinc 2 1, 3) := by decide +kernel
theorem dX10_read_170 : decode cX10_read 170 = .ok (.goto (-53), 3) := by decide +kernel
theorem dX10_read_173 : decode cX10_read 173 = .ok (.iinc 1 1, 3) := by decide +kernel
theorem dX10_read_176 : decode cX10_read 176 = .ok (.goto (-81), 3) := by decide +kernel
theorem dX10_read_179 : decode cX10_read 179 = .ok (.aload_n 0, 1) := by decide +kernel
theorem dX10_read_180 : decode cX10_read 180 = .ok (.iconst 0, 1) := by decide +kernel
theorem dX10_read_181 : decode cX10_read 181 = .ok (.putfield 88, 3) := by decide +kernel
theorem dX10_read_184 : decode cX10_read 184 = .ok (.aload_n 0, 1) := by decide +kernel
theorem dX10_read_185 : decode cX10_read 185 = .ok (.getfield 81, 3) := by decide +kernel
theorem dX10_read_188 : decode cX10_read 188 = .ok (.ireturn, 1) := by decide +kernel
theorem dX10_place_0 : decode cX10_place 0 = .ok (.aload_n 0, 1) := by decide +kernel
theorem dX10_place_1 : decode cX10_place 1 = .ok (.getfield 44, 3) := by decide +kernel
theorem dX10_place_4 : decode cX10_place 4 = .ok (.ireturn, 1) := by decide +kernel
theorem dL_law_0 : decode cL_law 0 = .ok (.new 7, 3) := by decide +kernel
theorem dL_law_3 : decode cL_law 3 = .ok (.dup, 1) := by decide +kernel
theorem dL_law_4 : decode cL_law 4 = .ok (.invokespecial 9, 3) := by decide +kernel
theorem dL_law_7 : decode cL_law 7 = .ok (.astore_n 1, 1) := by decide +kernel
theorem dL_law_8 : decode cL_law 8 = .ok (.new 10, 3) := by decide +kernel
theorem dL_law_11 : decode cL_law 11 = .ok (.dup, 1) := by decide +kernel
theorem dL_law_12 : decode cL_law 12 = .ok (.invokespecial 12, 3) := by decide +kernel
theorem dL_law_15 : decode cL_law 15 = .ok (.astore_n 2, 1) := by decide +kernel
theorem dL_law_16 : decode cL_law 16 = .ok (.iconst 0, 1) := by decide +kernel
theorem dL_law_17 : decode cL_law 17 = .ok (.istore_n 3, 1) := by decide +kernel
theorem dL_law_18 : decode cL_law 18 = .ok (.iload_n 3, 1) := by decide +kernel
theorem dL_law_19 : decode cL_law 19 = .ok (.aload_n 0, 1) := by decide +kernel
theorem dL_law_20 : decode cL_law 20 = .ok (.arraylength, 1) := by decide +kernel
theorem dL_law_21 : decode cL_law 21 = .ok (.iconst 4, 1) := by decide +kernel
theorem dL_law_22 : decode cL_law 22 = .ok (.isub, 1) := by decide +kernel
theorem dL_law_23 : decode cL_law 23 = .ok (.if_icmp .gt 689, 3) := by decide +kernel
theorem dL_law_26 : decode cL_law 26 = .ok (.aload_n 0, 1) := by decide +kernel
theorem dL_law_27 : decode cL_law 27 = .ok (.iload_n 3, 1) := by decide +kernel
theorem dL_law_28 : decode cL_law 28 = .ok (.iaload, 1) := by decide +kernel
theorem dL_law_29 : decode cL_law 29 = .ok (.bipush 31, 2) := by decide +kernel
theorem dL_law_31 : decode cL_law 31 = .ok (.iand, 1) := by decide +kernel
theorem dL_law_32 : decode cL_law 32 = .ok (.tableswitch 674 0 23 #[112, 135, 148, 171, 194, 227, 250, 273, 316, 329, 352, 385, 418, 451, 474, 517, 530, 563, 576, 599, 622, 635, 648, 661], 112) := by decide +kernel
theorem dL_law_144 : decode cL_law 144 = .ok (.aload_n 1, 1) := by decide +kernel
theorem dL_law_145 : decode cL_law 145 = .ok (.aload_n 0, 1) := by decide +kernel
theorem dL_law_146 : decode cL_law 146 = .ok (.iload_n 3, 1) := by decide +kernel
theorem dL_law_147 : decode cL_law 147 = .ok (.iconst 1, 1) := by decide +kernel
theorem dL_law_148 : decode cL_law 148 = .ok (.iadd, 1) := by decide +kernel
theorem dL_law_149 : decode cL_law 149 = .ok (.iaload, 1) := by decide +kernel
theorem dL_law_150 : decode cL_law 150 = .ok (.invokevirtual 13, 3) := by decide +kernel
theorem dL_law_153 : decode cL_law 153 = .ok (.aload_n 2, 1) := by decide +kernel
theorem dL_law_154 : decode cL_law 154 = .ok (.aload_n 0, 1) := by decide +kernel
theorem dL_law_155 : decode cL_law 155 = .ok (.iload_n 3, 1) := by decide +kernel
theorem dL_law_156 : decode cL_law 156 = .ok (.iconst 1, 1) := by decide +kernel
theorem dL_law_157 : decode cL_law 157 = .ok (.iadd, 1) := by decide +kernel
theorem dL_law_158 : decode cL_law 158 = .ok (.iaload, 1) := by decide +kernel
theorem dL_law_159 : decode cL_law 159 = .ok (.invokevirtual 17, 3) := by decide +kernel
theorem dL_law_162 : decode cL_law 162 = .ok (.if_icmp .eq 544, 3) := by decide +kernel
theorem dL_law_165 : decode cL_law 165 = .ok (.iconst 0, 1) := by decide +kernel
theorem dL_law_166 : decode cL_law 166 = .ok (.ireturn, 1) := by decide +kernel
theorem dL_law_167 : decode cL_law 167 = .ok (.aload_n 1, 1) := by decide +kernel
theorem dL_law_168 : decode cL_law 168 = .ok (.invokevirtual 18, 3) := by decide +kernel
theorem dL_law_171 : decode cL_law 171 = .ok (.aload_n 2, 1) := by decide +kernel
theorem dL_law_172 : decode cL_law 172 = .ok (.invokevirtual 22, 3) := by decide +kernel
theorem dL_law_175 : decode cL_law 175 = .ok (.if_icmp .eq 531, 3) := by decide +kernel
theorem dL_law_178 : decode cL_law 178 = .ok (.iconst 0, 1) := by decide +kernel
theorem dL_law_179 : decode cL_law 179 = .ok (.ireturn, 1) := by decide +kernel
theorem dL_law_180 : decode cL_law 180 = .ok (.aload_n 1, 1) := by decide +kernel
theorem dL_law_181 : decode cL_law 181 = .ok (.aload_n 0, 1) := by decide +kernel
theorem dL_law_182 : decode cL_law 182 = .ok (.iload_n 3, 1) := by decide +kernel
theorem dL_law_183 : decode cL_law 183 = .ok (.iconst 1, 1) := by decide +kernel
theorem dL_law_184 : decode cL_law 184 = .ok (.iadd, 1) := by decide +kernel
theorem dL_law_185 : decode cL_law 185 = .ok (.iaload, 1) := by decide +kernel
theorem dL_law_186 : decode cL_law 186 = .ok (.invokevirtual 23, 3) := by decide +kernel
theorem dL_law_189 : decode cL_law 189 = .ok (.aload_n 2, 1) := by decide +kernel
theorem dL_law_190 : decode cL_law 190 = .ok (.aload_n 0, 1) := by decide +kernel
theorem dL_law_191 : decode cL_law 191 = .ok (.iload_n 3, 1) := by decide +kernel
theorem dL_law_192 : decode cL_law 192 = .ok (.iconst 1, 1) := by decide +kernel
theorem dL_law_193 : decode cL_law 193 = .ok (.iadd, 1) := by decide +kernel
theorem dL_law_194 : decode cL_law 194 = .ok (.iaload, 1) := by decide +kernel
theorem dL_law_195 : decode cL_law 195 = .ok (.invokevirtual 26, 3) := by decide +kernel
theorem dL_law_198 : decode cL_law 198 = .ok (.if_icmp .eq 508, 3) := by decide +kernel
theorem dL_law_201 : decode cL_law 201 = .ok (.iconst 0, 1) := by decide +kernel
theorem dL_law_202 : decode cL_law 202 = .ok (.ireturn, 1) := by decide +kernel
theorem dL_law_203 : decode cL_law 203 = .ok (.aload_n 1, 1) := by decide +kernel
theorem dL_law_204 : decode cL_law 204 = .ok (.aload_n 0, 1) := by decide +kernel
theorem dL_law_205 : decode cL_law 205 = .ok (.iload_n 3, 1) := by decide +kernel
theorem dL_law_206 : decode cL_law 206 = .ok (.iconst 1, 1) := by decide +kernel
theorem dL_law_207 : decode cL_law 207 = .ok (.iadd, 1) := by decide +kernel
theorem dL_law_208 : decode cL_law 208 = .ok (.iaload, 1) := by decide +kernel
theorem dL_law_209 : decode cL_law 209 = .ok (.invokevirtual 27, 3) := by decide +kernel
theorem dL_law_212 : decode cL_law 212 = .ok (.aload_n 2, 1) := by decide +kernel
theorem dL_law_213 : decode cL_law 213 = .ok (.aload_n 0, 1) := by decide +kernel
theorem dL_law_214 : decode cL_law 214 = .ok (.iload_n 3, 1) := by decide +kernel
theorem dL_law_215 : decode cL_law 215 = .ok (.iconst 1, 1) := by decide +kernel
theorem dL_law_216 : decode cL_law 216 = .ok (.iadd, 1) := by decide +kernel
theorem dL_law_217 : decode cL_law 217 = .ok (.iaload, 1) := by decide +kernel
theorem dL_law_218 : decode cL_law 218 = .ok (.invokevirtual 30, 3) := by decide +kernel
theorem dL_law_221 : decode cL_law 221 = .ok (.if_icmp .eq 485, 3) := by decide +kernel
theorem dL_law_224 : decode cL_law 224 = .ok (.iconst 0, 1) := by decide +kernel
theorem dL_law_225 : decode cL_law 225 = .ok (.ireturn, 1) := by decide +kernel
theorem dL_law_226 : decode cL_law 226 = .ok (.aload_n 1, 1) := by decide +kernel
theorem dL_law_227 : decode cL_law 227 = .ok (.aload_n 0, 1) := by decide +kernel
theorem dL_law_228 : decode cL_law 228 = .ok (.iload_n 3, 1) := by decide +kernel
theorem dL_law_229 : decode cL_law 229 = .ok (.iconst 1, 1) := by decide +kernel
theorem dL_law_230 : decode cL_law 230 = .ok (.iadd, 1) := by decide +kernel
theorem dL_law_231 : decode cL_law 231 = .ok (.iaload, 1) := by decide +kernel
theorem dL_law_232 : decode cL_law 232 = .ok (.aload_n 0, 1) := by decide +kernel
theorem dL_law_233 : decode cL_law 233 = .ok (.iload_n 3, 1) := by decide +kernel
theorem dL_law_234 : decode cL_law 234 = .ok (.iconst 2, 1) := by decide +kernel
theorem dL_law_235 : decode cL_law 235 = .ok (.iadd, 1) := by decide +kernel
theorem dL_law_236 : decode cL_law 236 = .ok (.iaload, 1) := by decide +kernel
theorem dL_law_237 : decode cL_law 237 = .ok (.invokevirtual 31, 3) := by decide +kernel
theorem dL_law_240 : decode cL_law 240 = .ok (.aload_n 2, 1) := by decide +kernel
theorem dL_law_241 : decode cL_law 241 = .ok (.aload_n 0, 1) := by decide +kernel
theorem dL_law_242 : decode cL_law 242 = .ok (.iload_n 3, 1) := by decide +kernel
theorem dL_law_243 : decode cL_law 243 = .ok (.iconst 1, 1) := by decide +kernel
theorem dL_law_244 : decode cL_law 244 = .ok (.iadd, 1) := by decide +kernel
theorem dL_law_245 : decode cL_law 245 = .ok (.iaload, 1) := by decide +kernel
theorem dL_law_246 : decode cL_law 246 = .ok (.aload_n 0, 1) := by decide +kernel
theorem dL_law_247 : decode cL_law 247 = .ok (.iload_n 3, 1) := by decide +kernel
theorem dL_law_248 : decode cL_law 248 = .ok (.iconst 2, 1) := by decide +kernel
theorem dL_law_249 : decode cL_law 249 = .ok (.iadd, 1) := by decide +kernel
theorem dL_law_250 : decode cL_law 250 = .ok (.iaload, 1) := by decide +kernel
theorem dL_law_251 : decode cL_law 251 = .ok (.invokevirtual 35, 3) := by decide +kernel
theorem dL_law_254 : decode cL_law 254 = .ok (.if_icmp .eq 452, 3) := by decide +kernel
theorem dL_law_257 : decode cL_law 257 = .ok (.iconst 0, 1) := by decide +kernel
theorem dL_law_258 : decode cL_law 258 = .ok (.ireturn, 1) := by decide +kernel
theorem dL_law_259 : decode cL_law 259 = .ok (.aload_n 1, 1) := by decide +kernel
theorem dL_law_260 : decode cL_law 260 = .ok (.aload_n 0, 1) := by decide +kernel
theorem dL_law_261 : decode cL_law 261 = .ok (.iload_n 3, 1) := by decide +kernel
theorem dL_law_262 : decode cL_law 262 = .ok (.iconst 1, 1) := by decide +kernel
theorem dL_law_263 : decode cL_law 263 = .ok (.iadd, 1) := by decide +kernel
theorem dL_law_264 : decode cL_law 264 = .ok (.iaload, 1) := by decide +kernel
theorem dL_law_265 : decode cL_law 265 = .ok (.invokevirtual 36, 3) := by decide +kernel
theorem dL_law_268 : decode cL_law 268 = .ok (.aload_n 2, 1) := by decide +kernel
theorem dL_law_269 : decode cL_law 269 = .ok (.aload_n 0, 1) := by decide +kernel
theorem dL_law_270 : decode cL_law 270 = .ok (.iload_n 3, 1) := by decide +kernel
theorem dL_law_271 : decode cL_law 271 = .ok (.iconst 1, 1) := by decide +kernel
theorem dL_law_272 : decode cL_law 272 = .ok (.iadd, 1) := by decide +kernel
theorem dL_law_273 : decode cL_law 273 = .ok (.iaload, 1) := by decide +kernel
theorem dL_law_274 : decode cL_law 274 = .ok (.invokevirtual 39, 3) := by decide +kernel
theorem dL_law_277 : decode cL_law 277 = .ok (.if_icmp .eq 429, 3) := by decide +kernel
theorem dL_law_280 : decode cL_law 280 = .ok (.iconst 0, 1) := by decide +kernel
theorem dL_law_281 : decode cL_law 281 = .ok (.ireturn, 1) := by decide +kernel
theorem dL_law_282 : decode cL_law 282 = .ok (.aload_n 1, 1) := by decide +kernel
theorem dL_law_283 : decode cL_law 283 = .ok (.aload_n 0, 1) := by decide +kernel
theorem dL_law_284 : decode cL_law 284 = .ok (.iload_n 3, 1) := by decide +kernel
theorem dL_law_285 : decode cL_law 285 = .ok (.iconst 1, 1) := by decide +kernel
theorem dL_law_286 : decode cL_law 286 = .ok (.iadd, 1) := by decide +kernel
theorem dL_law_287 : decode cL_law 287 = .ok (.iaload, 1) := by decide +kernel
theorem dL_law_288 : decode cL_law 288 = .ok (.invokevirtual 40, 3) := by decide +kernel
theorem dL_law_291 : decode cL_law 291 = .ok (.aload_n 2, 1) := by decide +kernel
theorem dL_law_292 : decode cL_law 292 = .ok (.aload_n 0, 1) := by decide +kernel
theorem dL_law_293 : decode cL_law 293 = .ok (.iload_n 3, 1) := by decide +kernel
theorem dL_law_294 : decode cL_law 294 = .ok (.iconst 1, 1) := by decide +kernel
theorem dL_law_295 : decode cL_law 295 = .ok (.iadd, 1) := by decide +kernel
theorem dL_law_296 : decode cL_law 296 = .ok (.iaload, 1) := by decide +kernel
theorem dL_law_297 : decode cL_law 297 = .ok (.invokevirtual 43, 3) := by decide +kernel
theorem dL_law_300 : decode cL_law 300 = .ok (.if_icmp .eq 406, 3) := by decide +kernel
theorem dL_law_303 : decode cL_law 303 = .ok (.iconst 0, 1) := by decide +kernel
theorem dL_law_304 : decode cL_law 304 = .ok (.ireturn, 1) := by decide +kernel
theorem dL_law_305 : decode cL_law 305 = .ok (.aload_n 1, 1) := by decide +kernel
theorem dL_law_306 : decode cL_law 306 = .ok (.aload_n 0, 1) := by decide +kernel
theorem dL_law_307 : decode cL_law 307 = .ok (.iload_n 3, 1) := by decide +kernel
theorem dL_law_308 : decode cL_law 308 = .ok (.iconst 1, 1) := by decide +kernel
theorem dL_law_309 : decode cL_law 309 = .ok (.iadd, 1) := by decide +kernel
theorem dL_law_310 : decode cL_law 310 = .ok (.iaload, 1) := by decide +kernel
theorem dL_law_311 : decode cL_law 311 = .ok (.aload_n 0, 1) := by decide +kernel
theorem dL_law_312 : decode cL_law 312 = .ok (.iload_n 3, 1) := by decide +kernel
theorem dL_law_313 : decode cL_law 313 = .ok (.iconst 2, 1) := by decide +kernel
theorem dL_law_314 : decode cL_law 314 = .ok (.iadd, 1) := by decide +kernel
theorem dL_law_315 : decode cL_law 315 = .ok (.iaload, 1) := by decide +kernel
theorem dL_law_316 : decode cL_law 316 = .ok (.aload_n 0, 1) := by decide +kernel
theorem dL_law_317 : decode cL_law 317 = .ok (.iload_n 3, 1) := by decide +kernel
theorem dL_law_318 : decode cL_law 318 = .ok (.iconst 3, 1) := by decide +kernel
theorem dL_law_319 : decode cL_law 319 = .ok (.iadd, 1) := by decide +kernel
theorem dL_law_320 : decode cL_law 320 = .ok (.iaload, 1) := by decide +kernel
theorem dL_law_321 : decode cL_law 321 = .ok (.invokevirtual 44, 3) := by decide +kernel
theorem dL_law_324 : decode cL_law 324 = .ok (.aload_n 2, 1) := by decide +kernel
theorem dL_law_325 : decode cL_law 325 = .ok (.aload_n 0, 1) := by decide +kernel
theorem dL_law_326 : decode cL_law 326 = .ok (.iload_n 3, 1) := by decide +kernel
theorem dL_law_327 : decode cL_law 327 = .ok (.iconst 1, 1) := by decide +kernel
theorem dL_law_328 : decode cL_law 328 = .ok (.iadd, 1) := by decide +kernel
theorem dL_law_329 : decode cL_law 329 = .ok (.iaload, 1) := by decide +kernel
theorem dL_law_330 : decode cL_law 330 = .ok (.aload_n 0, 1) := by decide +kernel
theorem dL_law_331 : decode cL_law 331 = .ok (.iload_n 3, 1) := by decide +kernel
theorem dL_law_332 : decode cL_law 332 = .ok (.iconst 2, 1) := by decide +kernel
theorem dL_law_333 : decode cL_law 333 = .ok (.iadd, 1) := by decide +kernel
theorem dL_law_334 : decode cL_law 334 = .ok (.iaload, 1) := by decide +kernel
theorem dL_law_335 : decode cL_law 335 = .ok (.aload_n 0, 1) := by decide +kernel
theorem dL_law_336 : decode cL_law 336 = .ok (.iload_n 3, 1) := by decide +kernel
theorem dL_law_337 : decode cL_law 337 = .ok (.iconst 3, 1) := by decide +kernel
theorem dL_law_338 : decode cL_law 338 = .ok (.iadd, 1) := by decide +kernel
theorem dL_law_339 : decode cL_law 339 = .ok (.iaload, 1) := by decide +kernel
theorem dL_law_340 : decode cL_law 340 = .ok (.invokevirtual 48, 3) := by decide +kernel
theorem dL_law_343 : decode cL_law 343 = .ok (.if_icmp .eq 363, 3) := by decide +kernel
theorem dL_law_346 : decode cL_law 346 = .ok (.iconst 0, 1) := by decide +kernel
theorem dL_law_347 : decode cL_law 347 = .ok (.ireturn, 1) := by decide +kernel
theorem dL_law_348 : decode cL_law 348 = .ok (.aload_n 1, 1) := by decide +kernel
theorem dL_law_349 : decode cL_law 349 = .ok (.invokevirtual 49, 3) := by decide +kernel
theorem dL_law_352 : decode cL_law 352 = .ok (.aload_n 2, 1) := by decide +kernel
theorem dL_law_353 : decode cL_law 353 = .ok (.invokevirtual 52, 3) := by decide +kernel
theorem dL_law_356 : decode cL_law 356 = .ok (.if_icmp .eq 350, 3) := by decide +kernel
theorem dL_law_359 : decode cL_law 359 = .ok (.iconst 0, 1) := by decide +kernel
theorem dL_law_360 : decode cL_law 360 = .ok (.ireturn, 1) := by decide +kernel
theorem dL_law_361 : decode cL_law 361 = .ok (.aload_n 1, 1) := by decide +kernel
theorem dL_law_362 : decode cL_law 362 = .ok (.aload_n 0, 1) := by decide +kernel
theorem dL_law_363 : decode cL_law 363 = .ok (.iload_n 3, 1) := by decide +kernel
theorem dL_law_364 : decode cL_law 364 = .ok (.iconst 1, 1) := by decide +kernel
theorem dL_law_365 : decode cL_law 365 = .ok (.iadd, 1) := by decide +kernel
theorem dL_law_366 : decode cL_law 366 = .ok (.iaload, 1) := by decide +kernel
theorem dL_law_367 : decode cL_law 367 = .ok (.invokevirtual 53, 3) := by decide +kernel
theorem dL_law_370 : decode cL_law 370 = .ok (.aload_n 2, 1) := by decide +kernel
theorem dL_law_371 : decode cL_law 371 = .ok (.aload_n 0, 1) := by decide +kernel
theorem dL_law_372 : decode cL_law 372 = .ok (.iload_n 3, 1) := by decide +kernel
theorem dL_law_373 : decode cL_law 373 = .ok (.iconst 1, 1) := by decide +kernel
theorem dL_law_374 : decode cL_law 374 = .ok (.iadd, 1) := by decide +kernel
theorem dL_law_375 : decode cL_law 375 = .ok (.iaload, 1) := by decide +kernel
theorem dL_law_376 : decode cL_law 376 = .ok (.invokevirtual 56, 3) := by decide +kernel
theorem dL_law_379 : decode cL_law 379 = .ok (.if_icmp .eq 327, 3) := by decide +kernel
theorem dL_law_382 : decode cL_law 382 = .ok (.iconst 0, 1) := by decide +kernel
theorem dL_law_383 : decode cL_law 383 = .ok (.ireturn, 1) := by decide +kernel
theorem dL_law_384 : decode cL_law 384 = .ok (.aload_n 1, 1) := by decide +kernel
theorem dL_law_385 : decode cL_law 385 = .ok (.aload_n 0, 1) := by decide +kernel
theorem dL_law_386 : decode cL_law 386 = .ok (.iload_n 3, 1) := by decide +kernel
theorem dL_law_387 : decode cL_law 387 = .ok (.iconst 1, 1) := by decide +kernel
theorem dL_law_388 : decode cL_law 388 = .ok (.iadd, 1) := by decide +kernel
theorem dL_law_389 : decode cL_law 389 = .ok (.iaload, 1) := by decide +kernel
theorem dL_law_390 : decode cL_law 390 = .ok (.aload_n 0, 1) := by decide +kernel
theorem dL_law_391 : decode cL_law 391 = .ok (.iload_n 3, 1) := by decide +kernel
theorem dL_law_392 : decode cL_law 392 = .ok (.iconst 2, 1) := by decide +kernel
theorem dL_law_393 : decode cL_law 393 = .ok (.iadd, 1) := by decide +kernel
theorem dL_law_394 : decode cL_law 394 = .ok (.iaload, 1) := by decide +kernel
theorem dL_law_395 : decode cL_law 395 = .ok (.invokevirtual 57, 3) := by decide +kernel
theorem dL_law_398 : decode cL_law 398 = .ok (.aload_n 2, 1) := by decide +kernel
theorem dL_law_399 : decode cL_law 399 = .ok (.aload_n 0, 1) := by decide +kernel
theorem dL_law_400 : decode cL_law 400 = .ok (.iload_n 3, 1) := by decide +kernel
theorem dL_law_401 : decode cL_law 401 = .ok (.iconst 1, 1) := by decide +kernel
theorem dL_law_402 : decode cL_law 402 = .ok (.iadd, 1) := by decide +kernel
theorem dL_law_403 : decode cL_law 403 = .ok (.iaload, 1) := by decide +kernel
theorem dL_law_404 : decode cL_law 404 = .ok (.aload_n 0, 1) := by decide +kernel
theorem dL_law_405 : decode cL_law 405 = .ok (.iload_n 3, 1) := by decide +kernel
theorem dL_law_406 : decode cL_law 406 = .ok (.iconst 2, 1) := by decide +kernel
theorem dL_law_407 : decode cL_law 407 = .ok (.iadd, 1) := by decide +kernel
theorem dL_law_408 : decode cL_law 408 = .ok (.iaload, 1) := by decide +kernel
theorem dL_law_409 : decode cL_law 409 = .ok (.invokevirtual 60, 3) := by decide +kernel
theorem dL_law_412 : decode cL_law 412 = .ok (.if_icmp .eq 294, 3) := by decide +kernel
theorem dL_law_415 : decode cL_law 415 = .ok (.iconst 0, 1) := by decide +kernel
theorem dL_law_416 : decode cL_law 416 = .ok (.ireturn, 1) := by decide +kernel
theorem dL_law_417 : decode cL_law 417 = .ok (.aload_n 1, 1) := by decide +kernel
theorem dL_law_418 : decode cL_law 418 = .ok (.aload_n 0, 1) := by decide +kernel
theorem dL_law_419 : decode cL_law 419 = .ok (.iload_n 3, 1) := by decide +kernel
theorem dL_law_420 : decode cL_law 420 = .ok (.iconst 1, 1) := by decide +kernel
theorem dL_law_421 : decode cL_law 421 = .ok (.iadd, 1) := by decide +kernel
theorem dL_law_422 : decode cL_law 422 = .ok (.iaload, 1) := by decide +kernel
theorem dL_law_423 : decode cL_law 423 = .ok (.aload_n 0, 1) := by decide +kernel
theorem dL_law_424 : decode cL_law 424 = .ok (.iload_n 3, 1) := by decide +kernel
theorem dL_law_425 : decode cL_law 425 = .ok (.iconst 2, 1) := by decide +kernel
theorem dL_law_426 : decode cL_law 426 = .ok (.iadd, 1) := by decide +kernel
theorem dL_law_427 : decode cL_law 427 = .ok (.iaload, 1) := by decide +kernel
theorem dL_law_428 : decode cL_law 428 = .ok (.invokevirtual 61, 3) := by decide +kernel
theorem dL_law_431 : decode cL_law 431 = .ok (.aload_n 2, 1) := by decide +kernel
theorem dL_law_432 : decode cL_law 432 = .ok (.aload_n 0, 1) := by decide +kernel
theorem dL_law_433 : decode cL_law 433 = .ok (.iload_n 3, 1) := by decide +kernel
theorem dL_law_434 : decode cL_law 434 = .ok (.iconst 1, 1) := by decide +kernel
theorem dL_law_435 : decode cL_law 435 = .ok (.iadd, 1) := by decide +kernel
theorem dL_law_436 : decode cL_law 436 = .ok (.iaload, 1) := by decide +kernel
theorem dL_law_437 : decode cL_law 437 = .ok (.aload_n 0, 1) := by decide +kernel
theorem dL_law_438 : decode cL_law 438 = .ok (.iload_n 3, 1) := by decide +kernel
theorem dL_law_439 : decode cL_law 439 = .ok (.iconst 2, 1) := by decide +kernel
theorem dL_law_440 : decode cL_law 440 = .ok (.iadd, 1) := by decide +kernel
theorem dL_law_441 : decode cL_law 441 = .ok (.iaload, 1) := by decide +kernel
theorem dL_law_442 : decode cL_law 442 = .ok (.invokevirtual 64, 3) := by decide +kernel
theorem dL_law_445 : decode cL_law 445 = .ok (.if_icmp .eq 261, 3) := by decide +kernel
theorem dL_law_448 : decode cL_law 448 = .ok (.iconst 0, 1) := by decide +kernel
theorem dL_law_449 : decode cL_law 449 = .ok (.ireturn, 1) := by decide +kernel
theorem dL_law_450 : decode cL_law 450 = .ok (.aload_n 1, 1) := by decide +kernel
theorem dL_law_451 : decode cL_law 451 = .ok (.aload_n 0, 1) := by decide +kernel
theorem dL_law_452 : decode cL_law 452 = .ok (.iload_n 3, 1) := by decide +kernel
theorem dL_law_453 : decode cL_law 453 = .ok (.iconst 1, 1) := by decide +kernel
theorem dL_law_454 : decode cL_law 454 = .ok (.iadd, 1) := by decide +kernel
theorem dL_law_455 : decode cL_law 455 = .ok (.iaload, 1) := by decide +kernel
theorem dL_law_456 : decode cL_law 456 = .ok (.aload_n 0, 1) := by decide +kernel
theorem dL_law_457 : decode cL_law 457 = .ok (.iload_n 3, 1) := by decide +kernel
theorem dL_law_458 : decode cL_law 458 = .ok (.iconst 2, 1) := by decide +kernel
theorem dL_law_459 : decode cL_law 459 = .ok (.iadd, 1) := by decide +kernel
theorem dL_law_460 : decode cL_law 460 = .ok (.iaload, 1) := by decide +kernel
theorem dL_law_461 : decode cL_law 461 = .ok (.invokevirtual 65, 3) := by decide +kernel
theorem dL_law_464 : decode cL_law 464 = .ok (.aload_n 2, 1) := by decide +kernel
theorem dL_law_465 : decode cL_law 465 = .ok (.aload_n 0, 1) := by decide +kernel
theorem dL_law_466 : decode cL_law 466 = .ok (.iload_n 3, 1) := by decide +kernel
theorem dL_law_467 : decode cL_law 467 = .ok (.iconst 1, 1) := by decide +kernel
theorem dL_law_468 : decode cL_law 468 = .ok (.iadd, 1) := by decide +kernel
theorem dL_law_469 : decode cL_law 469 = .ok (.iaload, 1) := by decide +kernel
theorem dL_law_470 : decode cL_law 470 = .ok (.aload_n 0, 1) := by decide +kernel
theorem dL_law_471 : decode cL_law 471 = .ok (.iload_n 3, 1) := by decide +kernel
theorem dL_law_472 : decode cL_law 472 = .ok (.iconst 2, 1) := by decide +kernel
theorem dL_law_473 : decode cL_law 473 = .ok (.iadd, 1) := by decide +kernel
theorem dL_law_474 : decode cL_law 474 = .ok (.iaload, 1) := by decide +kernel
theorem dL_law_475 : decode cL_law 475 = .ok (.invokevirtual 68, 3) := by decide +kernel
theorem dL_law_478 : decode cL_law 478 = .ok (.if_icmp .eq 228, 3) := by decide +kernel
theorem dL_law_481 : decode cL_law 481 = .ok (.iconst 0, 1) := by decide +kernel
theorem dL_law_482 : decode cL_law 482 = .ok (.ireturn, 1) := by decide +kernel
theorem dL_law_483 : decode cL_law 483 = .ok (.aload_n 1, 1) := by decide +kernel
theorem dL_law_484 : decode cL_law 484 = .ok (.aload_n 0, 1) := by decide +kernel
theorem dL_law_485 : decode cL_law 485 = .ok (.iload_n 3, 1) := by decide +kernel
theorem dL_law_486 : decode cL_law 486 = .ok (.iconst 1, 1) := by decide +kernel
theorem dL_law_487 : decode cL_law 487 = .ok (.iadd, 1) := by decide +kernel
theorem dL_law_488 : decode cL_law 488 = .ok (.iaload, 1) := by decide +kernel
theorem dL_law_489 : decode cL_law 489 = .ok (.invokevirtual 69, 3) := by decide +kernel
theorem dL_law_492 : decode cL_law 492 = .ok (.aload_n 2, 1) := by decide +kernel
theorem dL_law_493 : decode cL_law 493 = .ok (.aload_n 0, 1) := by decide +kernel
theorem dL_law_494 : decode cL_law 494 = .ok (.iload_n 3, 1) := by decide +kernel
theorem dL_law_495 : decode cL_law 495 = .ok (.iconst 1, 1) := by decide +kernel
theorem dL_law_496 : decode cL_law 496 = .ok (.iadd, 1) := by decide +kernel
theorem dL_law_497 : decode cL_law 497 = .ok (.iaload, 1) := by decide +kernel
theorem dL_law_498 : decode cL_law 498 = .ok (.invokevirtual 72, 3) := by decide +kernel
theorem dL_law_501 : decode cL_law 501 = .ok (.if_icmp .eq 205, 3) := by decide +kernel
theorem dL_law_504 : decode cL_law 504 = .ok (.iconst 0, 1) := by decide +kernel
theorem dL_law_505 : decode cL_law 505 = .ok (.ireturn, 1) := by decide +kernel
theorem dL_law_506 : decode cL_law 506 = .ok (.aload_n 1, 1) := by decide +kernel
theorem dL_law_507 : decode cL_law 507 = .ok (.aload_n 0, 1) := by decide +kernel
theorem dL_law_508 : decode cL_law 508 = .ok (.iload_n 3, 1) := by decide +kernel
theorem dL_law_509 : decode cL_law 509 = .ok (.iconst 1, 1) := by decide +kernel
theorem dL_law_510 : decode cL_law 510 = .ok (.iadd, 1) := by decide +kernel
theorem dL_law_511 : decode cL_law 511 = .ok (.iaload, 1) := by decide +kernel
theorem dL_law_512 : decode cL_law 512 = .ok (.aload_n 0, 1) := by decide +kernel
theorem dL_law_513 : decode cL_law 513 = .ok (.iload_n 3, 1) := by decide +kernel
theorem dL_law_514 : decode cL_law 514 = .ok (.iconst 2, 1) := by decide +kernel
theorem dL_law_515 : decode cL_law 515 = .ok (.iadd, 1) := by decide +kernel
theorem dL_law_516 : decode cL_law 516 = .ok (.iaload, 1) := by decide +kernel
theorem dL_law_517 : decode cL_law 517 = .ok (.aload_n 0, 1) := by decide +kernel
theorem dL_law_518 : decode cL_law 518 = .ok (.iload_n 3, 1) := by decide +kernel
theorem dL_law_519 : decode cL_law 519 = .ok (.iconst 3, 1) := by decide +kernel
theorem dL_law_520 : decode cL_law 520 = .ok (.iadd, 1) := by decide +kernel
theorem dL_law_521 : decode cL_law 521 = .ok (.iaload, 1) := by decide +kernel
theorem dL_law_522 : decode cL_law 522 = .ok (.invokevirtual 73, 3) := by decide +kernel
theorem dL_law_525 : decode cL_law 525 = .ok (.aload_n 2, 1) := by decide +kernel
theorem dL_law_526 : decode cL_law 526 = .ok (.aload_n 0, 1) := by decide +kernel
theorem dL_law_527 : decode cL_law 527 = .ok (.iload_n 3, 1) := by decide +kernel
theorem dL_law_528 : decode cL_law 528 = .ok (.iconst 1, 1) := by decide +kernel
theorem dL_law_529 : decode cL_law 529 = .ok (.iadd, 1) := by decide +kernel
theorem dL_law_530 : decode cL_law 530 = .ok (.iaload, 1) := by decide +kernel
theorem dL_law_531 : decode cL_law 531 = .ok (.aload_n 0, 1) := by decide +kernel
theorem dL_law_532 : decode cL_law 532 = .ok (.iload_n 3, 1) := by decide +kernel
theorem dL_law_533 : decode cL_law 533 = .ok (.iconst 2, 1) := by decide +kernel
theorem dL_law_534 : decode cL_law 534 = .ok (.iadd, 1) := by decide +kernel
theorem dL_law_535 : decode cL_law 535 = .ok (.iaload, 1) := by decide +kernel
theorem dL_law_536 : decode cL_law 536 = .ok (.aload_n 0, 1) := by decide +kernel
theorem dL_law_537 : decode cL_law 537 = .ok (.iload_n 3, 1) := by decide +kernel
theorem dL_law_538 : decode cL_law 538 = .ok (.iconst 3, 1) := by decide +kernel
theorem dL_law_539 : decode cL_law 539 = .ok (.iadd, 1) := by decide +kernel
theorem dL_law_540 : decode cL_law 540 = .ok (.iaload, 1) := by decide +kernel
theorem dL_law_541 : decode cL_law 541 = .ok (.invokevirtual 76, 3) := by decide +kernel
theorem dL_law_544 : decode cL_law 544 = .ok (.if_icmp .eq 162, 3) := by decide +kernel
theorem dL_law_547 : decode cL_law 547 = .ok (.iconst 0, 1) := by decide +kernel
theorem dL_law_548 : decode cL_law 548 = .ok (.ireturn, 1) := by decide +kernel
theorem dL_law_549 : decode cL_law 549 = .ok (.aload_n 1, 1) := by decide +kernel
theorem dL_law_550 : decode cL_law 550 = .ok (.invokevirtual 77, 3) := by decide +kernel
theorem dL_law_553 : decode cL_law 553 = .ok (.aload_n 2, 1) := by decide +kernel
theorem dL_law_554 : decode cL_law 554 = .ok (.invokevirtual 80, 3) := by decide +kernel
theorem dL_law_557 : decode cL_law 557 = .ok (.if_icmp .eq 149, 3) := by decide +kernel
theorem dL_law_560 : decode cL_law 560 = .ok (.iconst 0, 1) := by decide +kernel
theorem dL_law_561 : decode cL_law 561 = .ok (.ireturn, 1) := by decide +kernel
theorem dL_law_562 : decode cL_law 562 = .ok (.aload_n 1, 1) := by decide +kernel
theorem dL_law_563 : decode cL_law 563 = .ok (.aload_n 0, 1) := by decide +kernel
theorem dL_law_564 : decode cL_law 564 = .ok (.iload_n 3, 1) := by decide +kernel
theorem dL_law_565 : decode cL_law 565 = .ok (.iconst 1, 1) := by decide +kernel
theorem dL_law_566 : decode cL_law 566 = .ok (.iadd, 1) := by decide +kernel
theorem dL_law_567 : decode cL_law 567 = .ok (.iaload, 1) := by decide +kernel
theorem dL_law_568 : decode cL_law 568 = .ok (.aload_n 0, 1) := by decide +kernel
theorem dL_law_569 : decode cL_law 569 = .ok (.iload_n 3, 1) := by decide +kernel
theorem dL_law_570 : decode cL_law 570 = .ok (.iconst 2, 1) := by decide +kernel
theorem dL_law_571 : decode cL_law 571 = .ok (.iadd, 1) := by decide +kernel
theorem dL_law_572 : decode cL_law 572 = .ok (.iaload, 1) := by decide +kernel
theorem dL_law_573 : decode cL_law 573 = .ok (.invokevirtual 81, 3) := by decide +kernel
theorem dL_law_576 : decode cL_law 576 = .ok (.aload_n 2, 1) := by decide +kernel
theorem dL_law_577 : decode cL_law 577 = .ok (.aload_n 0, 1) := by decide +kernel
theorem dL_law_578 : decode cL_law 578 = .ok (.iload_n 3, 1) := by decide +kernel
theorem dL_law_579 : decode cL_law 579 = .ok (.iconst 1, 1) := by decide +kernel
theorem dL_law_580 : decode cL_law 580 = .ok (.iadd, 1) := by decide +kernel
theorem dL_law_581 : decode cL_law 581 = .ok (.iaload, 1) := by decide +kernel
theorem dL_law_582 : decode cL_law 582 = .ok (.aload_n 0, 1) := by decide +kernel
theorem dL_law_583 : decode cL_law 583 = .ok (.iload_n 3, 1) := by decide +kernel
theorem dL_law_584 : decode cL_law 584 = .ok (.iconst 2, 1) := by decide +kernel
theorem dL_law_585 : decode cL_law 585 = .ok (.iadd, 1) := by decide +kernel
theorem dL_law_586 : decode cL_law 586 = .ok (.iaload, 1) := by decide +kernel
theorem dL_law_587 : decode cL_law 587 = .ok (.invokevirtual 84, 3) := by decide +kernel
theorem dL_law_590 : decode cL_law 590 = .ok (.if_icmp .eq 116, 3) := by decide +kernel
theorem dL_law_593 : decode cL_law 593 = .ok (.iconst 0, 1) := by decide +kernel
theorem dL_law_594 : decode cL_law 594 = .ok (.ireturn, 1) := by decide +kernel
theorem dL_law_595 : decode cL_law 595 = .ok (.aload_n 1, 1) := by decide +kernel
theorem dL_law_596 : decode cL_law 596 = .ok (.invokevirtual 85, 3) := by decide +kernel
theorem dL_law_599 : decode cL_law 599 = .ok (.aload_n 2, 1) := by decide +kernel
theorem dL_law_600 : decode cL_law 600 = .ok (.invokevirtual 88, 3) := by decide +kernel
theorem dL_law_603 : decode cL_law 603 = .ok (.if_icmp .eq 103, 3) := by decide +kernel
theorem dL_law_606 : decode cL_law 606 = .ok (.iconst 0, 1) := by decide +kernel
theorem dL_law_607 : decode cL_law 607 = .ok (.ireturn, 1) := by decide +kernel
theorem dL_law_608 : decode cL_law 608 = .ok (.aload_n 1, 1) := by decide +kernel
theorem dL_law_609 : decode cL_law 609 = .ok (.aload_n 0, 1) := by decide +kernel
theorem dL_law_610 : decode cL_law 610 = .ok (.iload_n 3, 1) := by decide +kernel
theorem dL_law_611 : decode cL_law 611 = .ok (.iconst 1, 1) := by decide +kernel
theorem dL_law_612 : decode cL_law 612 = .ok (.iadd, 1) := by decide +kernel
theorem dL_law_613 : decode cL_law 613 = .ok (.iaload, 1) := by decide +kernel
theorem dL_law_614 : decode cL_law 614 = .ok (.invokevirtual 89, 3) := by decide +kernel
theorem dL_law_617 : decode cL_law 617 = .ok (.aload_n 2, 1) := by decide +kernel
theorem dL_law_618 : decode cL_law 618 = .ok (.aload_n 0, 1) := by decide +kernel
theorem dL_law_619 : decode cL_law 619 = .ok (.iload_n 3, 1) := by decide +kernel
theorem dL_law_620 : decode cL_law 620 = .ok (.iconst 1, 1) := by decide +kernel
theorem dL_law_621 : decode cL_law 621 = .ok (.iadd, 1) := by decide +kernel
theorem dL_law_622 : decode cL_law 622 = .ok (.iaload, 1) := by decide +kernel
theorem dL_law_623 : decode cL_law 623 = .ok (.invokevirtual 92, 3) := by decide +kernel
theorem dL_law_626 : decode cL_law 626 = .ok (.if_icmp .eq 80, 3) := by decide +kernel
theorem dL_law_629 : decode cL_law 629 = .ok (.iconst 0, 1) := by decide +kernel
theorem dL_law_630 : decode cL_law 630 = .ok (.ireturn, 1) := by decide +kernel
theorem dL_law_631 : decode cL_law 631 = .ok (.aload_n 1, 1) := by decide +kernel
theorem dL_law_632 : decode cL_law 632 = .ok (.aload_n 0, 1) := by decide +kernel
theorem dL_law_633 : decode cL_law 633 = .ok (.iload_n 3, 1) := by decide +kernel
theorem dL_law_634 : decode cL_law 634 = .ok (.iconst 1, 1) := by decide +kernel
theorem dL_law_635 : decode cL_law 635 = .ok (.iadd, 1) := by decide +kernel
theorem dL_law_636 : decode cL_law 636 = .ok (.iaload, 1) := by decide +kernel
theorem dL_law_637 : decode cL_law 637 = .ok (.invokevirtual 93, 3) := by decide +kernel
theorem dL_law_640 : decode cL_law 640 = .ok (.aload_n 2, 1) := by decide +kernel
theorem dL_law_641 : decode cL_law 641 = .ok (.aload_n 0, 1) := by decide +kernel
theorem dL_law_642 : decode cL_law 642 = .ok (.iload_n 3, 1) := by decide +kernel
theorem dL_law_643 : decode cL_law 643 = .ok (.iconst 1, 1) := by decide +kernel
theorem dL_law_644 : decode cL_law 644 = .ok (.iadd, 1) := by decide +kernel
theorem dL_law_645 : decode cL_law 645 = .ok (.iaload, 1) := by decide +kernel
theorem dL_law_646 : decode cL_law 646 = .ok (.invokevirtual 96, 3) := by decide +kernel
theorem dL_law_649 : decode cL_law 649 = .ok (.if_icmp .eq 57, 3) := by decide +kernel
theorem dL_law_652 : decode cL_law 652 = .ok (.iconst 0, 1) := by decide +kernel
theorem dL_law_653 : decode cL_law 653 = .ok (.ireturn, 1) := by decide +kernel
theorem dL_law_654 : decode cL_law 654 = .ok (.aload_n 1, 1) := by decide +kernel
theorem dL_law_655 : decode cL_law 655 = .ok (.invokevirtual 97, 3) := by decide +kernel
theorem dL_law_658 : decode cL_law 658 = .ok (.aload_n 2, 1) := by decide +kernel
theorem dL_law_659 : decode cL_law 659 = .ok (.invokevirtual 100, 3) := by decide +kernel
theorem dL_law_662 : decode cL_law 662 = .ok (.if_icmp .eq 44, 3) := by decide +kernel
theorem dL_law_665 : decode cL_law 665 = .ok (.iconst 0, 1) := by decide +kernel
theorem dL_law_666 : decode cL_law 666 = .ok (.ireturn, 1) := by decide +kernel
theorem dL_law_667 : decode cL_law 667 = .ok (.aload_n 1, 1) := by decide +kernel
theorem dL_law_668 : decode cL_law 668 = .ok (.invokevirtual 101, 3) := by decide +kernel
theorem dL_law_671 : decode cL_law 671 = .ok (.aload_n 2, 1) := by decide +kernel
theorem dL_law_672 : decode cL_law 672 = .ok (.invokevirtual 104, 3) := by decide +kernel
theorem dL_law_675 : decode cL_law 675 = .ok (.if_icmp .eq 31, 3) := by decide +kernel
theorem dL_law_678 : decode cL_law 678 = .ok (.iconst 0, 1) := by decide +kernel
theorem dL_law_679 : decode cL_law 679 = .ok (.ireturn, 1) := by decide +kernel
theorem dL_law_680 : decode cL_law 680 = .ok (.aload_n 1, 1) := by decide +kernel
theorem dL_law_681 : decode cL_law 681 = .ok (.invokevirtual 105, 3) := by decide +kernel
theorem dL_law_684 : decode cL_law 684 = .ok (.aload_n 2, 1) := by decide +kernel
theorem dL_law_685 : decode cL_law 685 = .ok (.invokevirtual 108, 3) := by decide +kernel
theorem dL_law_688 : decode cL_law 688 = .ok (.if_icmp .eq 18, 3) := by decide +kernel
theorem dL_law_691 : decode cL_law 691 = .ok (.iconst 0, 1) := by decide +kernel
theorem dL_law_692 : decode cL_law 692 = .ok (.ireturn, 1) := by decide +kernel
theorem dL_law_693 : decode cL_law 693 = .ok (.aload_n 1, 1) := by decide +kernel
theorem dL_law_694 : decode cL_law 694 = .ok (.invokevirtual 109, 3) := by decide +kernel
theorem dL_law_697 : decode cL_law 697 = .ok (.aload_n 2, 1) := by decide +kernel
theorem dL_law_698 : decode cL_law 698 = .ok (.invokevirtual 112, 3) := by decide +kernel
theorem dL_law_701 : decode cL_law 701 = .ok (.if_icmp .eq 5, 3) := by decide +kernel
theorem dL_law_704 : decode cL_law 704 = .ok (.iconst 0, 1) := by decide +kernel
theorem dL_law_705 : decode cL_law 705 = .ok (.ireturn, 1) := by decide +kernel
theorem dL_law_706 : decode cL_law 706 = .ok (.iinc 3 4, 3) := by decide +kernel
theorem dL_law_709 : decode cL_law 709 = .ok (.goto (-691), 3) := by decide +kernel
theorem dL_law_712 : decode cL_law 712 = .ok (.iconst 1, 1) := by decide +kernel
theorem dL_law_713 : decode cL_law 713 = .ok (.ireturn, 1) := by decide +kernel
end
section
/-! the machine's contracts tied to pure functions: a world is a list of cells given by numbers g (fields) and rows f (arrays) -/
abbrev sG : Type := Nat → Int32
abbrev sF : Type := Nat → Nat → Int32
def FUEL : Nat := 6000
def up2 (f : sF) (j k : Nat) (x : Int32) : sF := fun a => if a = j then upd (f j) k x else f a
def itr {σ ρ : Type} (B : (σ → Option ρ) → σ → Option ρ) : Nat → σ → Option ρ
  | 0, _ => none
  | n + 1, s => B (itr B n) s
theorem itr_all {σ ρ : Type} {B : (σ → Option ρ) → σ → Option ρ} {r : ρ} (P : σ → Prop) (h : ∀ K : σ → Option ρ, (∀ s, K s = some r → P s) → ∀ s, B K s = some r → P s) : ∀ n s, itr B n s = some r → P s := by
  intro n
  induction n with
  | zero => intro s hs; cases hs
  | succ n ih => intro s hs; exact h (itr B n) ih s hs
def lt_ {α β : Type} (x : α) (k : α → β) : β := k x
theorem lt_e {α β : Type} {x : α} {k : α → Option β} {R : β} (h : lt_ x k = some R) : ∃ y, y = x ∧ k y = some R := ⟨x, rfl, h⟩
theorem gd_e {c : Prop} [Decidable c] {β : Type} {A : Option β} {R : β} (h : (if c then none else A) = some R) : ¬ c ∧ A = some R := by
  by_cases hc : c
  · rw [if_pos hc] at h; cases h
  · rw [if_neg hc] at h; exact ⟨hc, h⟩
theorem bd_e {α β : Type} {x : Option α} {k : α → Option β} {R : β} (h : x.bind k = some R) : ∃ u, x = some u ∧ k u = some R := by
  cases x with
  | none => cases h
  | some u => exact ⟨u, rfl, h⟩
theorem ift {c : Prop} [Decidable c] {β : Type} {A B R : β} (h : c) (e : (if c then A else B) = R) : A = R := by rw [if_pos h] at e; exact e
theorem iff_ {c : Prop} [Decidable c] {β : Type} {A B R : β} (h : ¬ c) (e : (if c then A else B) = R) : B = R := by rw [if_neg h] at e; exact e
theorem bo_nar {x : Int32} (h : ¬ (¬ x = 0 ∧ ¬ x = 1)) : narrow .boolean (.int x) = .int x := by
  by_cases h0 : x = 0
  · subst h0; rfl
  · by_cases h1 : x = 1
    · subst h1; rfl
    · exact absurd ⟨h0, h1⟩ h
theorem bo_vp {x : Int32} (h : ¬ (¬ x = 0 ∧ ¬ x = 1)) : vp_nar .boolean x = x := by
  unfold vp_nar; rw [bo_nar h]
def wH (D : va_G) (tys : List (ClassId × FieldType)) (w : sG → sF → va_W) (A : Nat → Prop) (H0 : Heap) (s : State) (g : sG) (f : sF) (H : Heap) (locs : List Loc) : Prop :=
  va_K D vwCl tys s ∧ va_P D vwCl (w g f) H ∧ va_D A (w g f) ∧ va_S A H0 H locs ∧ ∀ q : Nat, H0.size ≤ q → A q
def mPre (D : va_G) (tys : List (ClassId × FieldType)) (w : sG → sF → va_W) (g : sG) (f : sF) (sz : Nat) : State → Prop := fun U => U.heap.size = sz ∧ va_P D vwCl (w g f) U.heap ∧ va_K D vwCl tys U ∧ va_D (fun _ => True) (w g f)
def mPost (D : va_G) (tys : List (ClassId × FieldType)) (w : sG → sF → va_W) (A : Nat → Prop) (g : sG) (f : sF) : Unit → State → Prop := fun _ t => va_P D vwCl (w g f) t.heap ∧ va_K D vwCl tys t ∧ va_D A (w g f)
/-- a method that answers an int -/
def mMi (l : Launch) (y : MethodName) (ws : List Cond) (rm : Room) (D : va_G) (tys : List (ClassId × FieldType)) (w : sG → sF → va_W) (avs : List Value) (g : sG) (f : sF) (u : Int32 × sG × sF) : Prop :=
  ∀ sz : Nat, Met l y ws rm (va_Pc avs (mPre D tys w g f sz)) (va_Qi (fun r (_ : Unit) => r = u.1) (mPost D tys w (va_A (w g f) sz) u.2.1 u.2.2) (va_A (w g f) sz)) 0 0 (va_A (w g f) sz)
/-- a method that answers nothing -/
def mMv (l : Launch) (y : MethodName) (ws : List Cond) (rm : Room) (D : va_G) (tys : List (ClassId × FieldType)) (w : sG → sF → va_W) (avs : List Value) (g : sG) (f : sF) (u : sG × sF) : Prop :=
  ∀ sz : Nat, Met l y ws rm (va_Pc avs (mPre D tys w g f sz)) (va_Qv (fun (_ : Unit) => True) (mPost D tys w (va_A (w g f) sz) u.1 u.2) (va_A (w g f) sz)) 0 0 (va_A (w g f) sz)
section BB
variable {p : Program} {l : Launch} {e : Env} {R : Room} {s : State} {m : MethodId} {args : Array Value} {below : List Frame} {meth : Method} {c : Code} {H : Heap} {locs : List Loc} {Q : State → Prop}
variable {D : va_G} {tys : List (ClassId × FieldType)} {w : sG → sF → va_W} {A : Nat → Prop} {H0 : Heap} {g : sG} {f : sF} {cc : ByteArray} {pc : Nat} {ls : Array Slot} {rest st0 : List Value} {nL : Nat} {Ts : List Cond} {own : String}
/-- where a walk of the body may end: the answer u.1, the world u.2 -/
def mRi (p : Program) (l : Launch) (e : Env) (R : Room) (s : State) (m : MethodId) (args : Array Value) (below : List Frame) (meth : Method) (c : Code) (Q : State → Prop) (D : va_G) (tys : List (ClassId × FieldType)) (w : sG → sF → va_W) (A : Nat → Prop) (H0 : Heap) (cc : ByteArray) (u : Int32 × sG × sF) : Prop :=
  ∀ (pc : Nat) (ls : Array Slot) (H : Heap) (locs : List Loc), decode cc pc = .ok (.ireturn, 1) → wH D tys w A H0 s u.2.1 u.2.2 H locs → W p l e R s m args below meth c H locs 0 0 Q (F0 m pc ls [.int u.1])
def mRz (p : Program) (l : Launch) (e : Env) (R : Room) (s : State) (m : MethodId) (args : Array Value) (below : List Frame) (meth : Method) (c : Code) (Q : State → Prop) (D : va_G) (tys : List (ClassId × FieldType)) (w : sG → sF → va_W) (A : Nat → Prop) (H0 : Heap) (cc : ByteArray) (u : Int32 × sG × sF) : Prop :=
  ∀ (pc : Nat) (ls : Array Slot) (H : Heap) (locs : List Loc), decode cc pc = .ok (.ireturn, 1) → ¬ (¬ u.1 = 0 ∧ ¬ u.1 = 1) → wH D tys w A H0 s u.2.1 u.2.2 H locs → W p l e R s m args below meth c H locs 0 0 Q (F0 m pc ls [.int u.1])
def mRv (p : Program) (l : Launch) (e : Env) (R : Room) (s : State) (m : MethodId) (args : Array Value) (below : List Frame) (meth : Method) (c : Code) (Q : State → Prop) (D : va_G) (tys : List (ClassId × FieldType)) (w : sG → sF → va_W) (A : Nat → Prop) (H0 : Heap) (cc : ByteArray) (u : sG × sF) : Prop :=
  ∀ (pc : Nat) (ls : Array Slot) (H : Heap) (locs : List Loc), decode cc pc = .ok (.return_, 1) → wH D tys w A H0 s u.1 u.2 H locs → W p l e R s m args below meth c H locs 0 0 Q (F0 m pc ls [])
theorem tpi {x y : Int32} (h : y = x) (k : W p l e R s m args below meth c H locs 0 0 Q (F0 m pc ls (.int y :: rest))) : W p l e R s m args below meth c H locs 0 0 Q (F0 m pc ls (.int x :: rest)) := by subst h; exact k
theorem tpl {x y : Int64} (h : y = x) (k : W p l e R s m args below meth c H locs 0 0 Q (F0 m pc ls (.long y :: rest))) : W p l e R s m args below meth c H locs 0 0 Q (F0 m pc ls (.long x :: rest)) := by subst h; exact k
theorem g_get (Fx : CallFix p m c cc nL s args Ts own) (hC : wH D tys w A H0 s g f H locs) {ref C : String} {T : u_T} {N ci index a : Nat} (q0 : Nat) {fs : List Value} (he : (w g f)[q0]? = some (a, .inr (ci, fs))) (hc : vwCl[ci]? = some (C, T, N)) (hin : ∀ w ∈ u_ws C T N, w ∈ Ts) (k : Nat) (hk : k < N) (hlink : (Cond.fieldLink own index ref (T k).2.1 (T k).2.2.1).before args s = true) (hr : ref = (T k).1) {v : Value} (hv : fs[k]? = some v) (hdg : decode cc pc = .ok (.getfield index, 3))
    (kk : W p l e R s m args below meth c H locs 0 0 Q (F0 m (pc + 3) ls (v :: rest))) : W p l e R s m args below meth c H locs 0 0 Q (F0 m pc ls (.ref a :: rest)) :=
  va_get (D := D) Fx.1 Fx.2.1 Fx.2.2.2.2 hin Fx.2.2.2.1 hC.1 hC.2.1 q0 he hc k hk hlink (fun x h => by rw [hr]; exact h) hv hdg kk
theorem g_put (Fx : CallFix p m c cc nL s args Ts own) (hC : wH D tys w A H0 s g f H locs) {ref C : String} {T : u_T} {N ci index a : Nat} (q0 : Nat) {fs : List Value} (he : (w g f)[q0]? = some (a, .inr (ci, fs))) (hc : vwCl[ci]? = some (C, T, N)) (hin : ∀ w ∈ u_ws C T N, w ∈ Ts) (ty0 : Nat → FieldType) (hty : ∀ k, k < N → parseFieldDescriptor (T k).2.2.1 = some (ty0 k)) (hnm : ∀ a, a < N → ∀ b, b < N → a ≠ b → (T a).2.1 ≠ (T b).2.1) (k : Nat) (hk : k < N) (hlink : (Cond.fieldLink own index ref (T k).2.1 (T k).2.2.1).before args s = true) (hr : ref = (T k).1) (hfin : (T k).2.2.2 = false) {ty : FieldType} {v : Value} (hd : parseFieldDescriptor (T k).2.2.1 = some ty) (hn : narrow ty v = v) (hfit : fits ty v = true) (hl : k < fs.length) {g1 : sG} (hw : (w g f).set q0 (a, .inr (ci, fs.set k v)) = w g1 f) (hdg : decode cc pc = .ok (.putfield index, 3))
    (kk : ∀ (H : Heap) (locs : List Loc), wH D tys w A H0 s g1 f H locs → W p l e R s m args below meth c H locs 0 0 Q (F0 m (pc + 3) ls rest)) : W p l e R s m args below meth c H locs 0 0 Q (F0 m pc ls (v :: .ref a :: rest)) :=
  va_put (D := D) Fx.1 Fx.2.1 Fx.2.2.2.2 hin ty0 hty hnm Fx.2.2.2.1 hC.1 hC.2.1 hC.2.2.1 hC.2.2.2.1 q0 he hc k hk hlink (fun x h => by rw [hr]; exact h) hfin hd hn hfit hl hdg (fun H1 locs1 hP hD hS => kk H1 locs1 ⟨hC.1, hw ▸ hP, hw ▸ hD, hS, hC.2.2.2.2⟩)
theorem g_ld (Fx : CallFix p m c cc nL s args Ts own) (hC : wH D tys w A H0 s g f H locs) (q0 t0 : Nat) {a n j : Nat} {cA : ClassId} (he : (w g f)[q0]? = some (a, .inl (cA, n, .inl (f j)))) (ht : tys[t0]? = some (cA, .int)) {i : Int32} (hi : ¬ (i < 0 ∨ n ≤ i.toNatClampNeg)) (hdg : decode cc pc = .ok (.iaload, 1))
    (kk : W p l e R s m args below meth c H locs 0 0 Q (F0 m (pc + 1) ls (.int (f j i.toNatClampNeg) :: rest))) : W p l e R s m args below meth c H locs 0 0 Q (F0 m pc ls (.int i :: .ref a :: rest)) :=
  va_iald (D := D) Fx.1 Fx.2.1 hC.1 hC.2.1 q0 t0 he ht hi hdg kk
theorem g_zld (Fx : CallFix p m c cc nL s args Ts own) (hC : wH D tys w A H0 s g f H locs) (q0 t0 : Nat) {a n j : Nat} {cA : ClassId} (he : (w g f)[q0]? = some (a, .inl (cA, n, .inl (f j)))) (ht : tys[t0]? = some (cA, .boolean)) {i : Int32} (hi : ¬ (i < 0 ∨ n ≤ i.toNatClampNeg)) (hdg : decode cc pc = .ok (.baload, 1))
    (kk : W p l e R s m args below meth c H locs 0 0 Q (F0 m (pc + 1) ls (.int (f j i.toNatClampNeg) :: rest))) : W p l e R s m args below meth c H locs 0 0 Q (F0 m pc ls (.int i :: .ref a :: rest)) :=
  va_zald (D := D) Fx.1 Fx.2.1 hC.1 hC.2.1 q0 t0 he ht hi hdg kk
theorem g_st (Fx : CallFix p m c cc nL s args Ts own) (hC : wH D tys w A H0 s g f H locs) (q0 t0 : Nat) {a n j : Nat} {cA : ClassId} (he : (w g f)[q0]? = some (a, .inl (cA, n, .inl (f j)))) (ht : tys[t0]? = some (cA, .int)) {i x : Int32} (hi : ¬ (i < 0 ∨ n ≤ i.toNatClampNeg)) {f1 : sF} (hw : (w g f).set q0 (a, .inl (cA, n, .inl (upd (f j) i.toNatClampNeg x))) = w g f1) (hdg : decode cc pc = .ok (.iastore, 1))
    (kk : ∀ (H : Heap) (locs : List Loc), wH D tys w A H0 s g f1 H locs → W p l e R s m args below meth c H locs 0 0 Q (F0 m (pc + 1) ls rest)) : W p l e R s m args below meth c H locs 0 0 Q (F0 m pc ls (.int x :: .int i :: .ref a :: rest)) :=
  va_iast (D := D) Fx.1 Fx.2.1 hC.1 hC.2.1 hC.2.2.1 hC.2.2.2.1 q0 t0 he ht hi hdg (fun H1 locs1 hP hD hS => kk H1 locs1 ⟨hC.1, hw ▸ hP, hw ▸ hD, hS, hC.2.2.2.2⟩)
theorem g_zst (Fx : CallFix p m c cc nL s args Ts own) (hC : wH D tys w A H0 s g f H locs) (q0 t0 : Nat) {a n j : Nat} {cA : ClassId} (he : (w g f)[q0]? = some (a, .inl (cA, n, .inl (f j)))) (ht : tys[t0]? = some (cA, .boolean)) {i x : Int32} (hi : ¬ (i < 0 ∨ n ≤ i.toNatClampNeg)) (hx : ¬ (¬ x = 0 ∧ ¬ x = 1)) {f1 : sF} (hw : (w g f).set q0 (a, .inl (cA, n, .inl (upd (f j) i.toNatClampNeg x))) = w g f1) (hdg : decode cc pc = .ok (.bastore, 1))
    (kk : ∀ (H : Heap) (locs : List Loc), wH D tys w A H0 s g f1 H locs → W p l e R s m args below meth c H locs 0 0 Q (F0 m (pc + 1) ls rest)) : W p l e R s m args below meth c H locs 0 0 Q (F0 m pc ls (.int x :: .int i :: .ref a :: rest)) :=
  va_zast (D := D) Fx.1 Fx.2.1 hC.1 hC.2.1 hC.2.2.1 hC.2.2.2.1 q0 t0 he ht hi hdg (fun H1 locs1 hP hD hS => by rw [bo_vp hx, hw] at hP hD; exact kk H1 locs1 ⟨hC.1, hP, hD, hS, hC.2.2.2.2⟩)
theorem mPre_blind {avs : List Value} {sz : Nat} : FrameBlind (va_Pc avs (mPre D tys w g f sz)) := fun a U gg mk q => by
  obtain ⟨q0, q1, qP, qK, qD⟩ := q
  exact ⟨q0, q1, qP, va_K.moved (u := U) (U := U.calling gg mk a) (Vm.Alike.refl U.vm) qK, qD⟩
theorem wH_sub (hC : wH D tys w A H0 s g f H locs) : ∀ q : Nat, va_A (w g f) H.size q → A q := by
  intro q hq
  rcases hq with ⟨k, e, hk⟩ | hq
  · exact hC.2.2.1.2 k _ hk
  · exact hC.2.2.2.2 q (Nat.le_trans hC.2.2.2.1.1 hq)
theorem wH_back {g1 : sG} {f1 : sF} {t : State} {H1 : Heap} {locs1 : List Loc} {A1 : Nat → Prop} (hC : wH D tys w A H0 s g f H locs) (hsub : ∀ q : Nat, A1 q → A q) (ht : t.heap = H1) (hvm : s.vm.Alike t.vm) (hB : mPost D tys w A1 g1 f1 () t) (hS : va_S A H0 H1 locs1) : wH D tys w A H0 s g1 f1 H1 locs1 := by
  obtain ⟨hP, hK, hD⟩ := hB
  rw [ht] at hP
  exact ⟨hC.1, hP, hD.weaken (fun k q hk h => hsub _ h), hS, hC.2.2.2.2⟩
variable {y : MethodName} {bytes : ByteArray} {maxL n index b ci q0 : Nat} {ret : Option FieldType} {ws : List Cond} {rm : Room} {C : String} {As fs : List Value} {qq : vw_C}
theorem ca_i {u : Int32 × sG × sF} (Fx : CallFix p m c cc nL s args Ts own) (hC : wH D tys w A H0 s g f H locs) (hM : mMi l y ws rm D tys w (.ref b :: As) g f u) (cw : CallW R s args own qq.1 index y bytes maxL ret ws rm 0 0 n) (q0 : Nat) (he : (w g f)[q0]? = some (b, .inr (ci, fs))) (hc : vwCl[ci]? = some qq) (hn : As.length = n) (hsz : ls.size = nL) (hst : st0 = As.reverse ++ .ref b :: rest) (hroom : (rest.map fun v => v.category).sum ≤ 8) (hdg : decode cc pc = .ok (.invokevirtual index, 3))
    (kk : ∀ (H : Heap) (locs : List Loc), wH D tys w A H0 s u.2.1 u.2.2 H locs → W p l e R s m args below meth c H locs 0 0 Q (F0 m (pc + 3) ls (.int u.1 :: rest))) : W p l e R s m args below meth c H locs 0 0 Q (F0 m pc ls st0) := by
  subst hst
  refine va_calli (va_runV (As := As) (rest := rest) Fx (hM H.size) cw ⟨mPre_blind, va_recv hC.1 hC.2.1 hc he, fun U hU hW => ⟨rfl, by rw [hU], by rw [hU]; exact hC.2.1, va_K.moved hW.alike hC.1, hC.2.2.1.weaken (fun _ _ _ _ => trivial)⟩⟩ rfl hn hsz rfl (lv_room hroom) hdg ⟨Nat.zero_le _, Nat.zero_le _⟩) hC.2.2.2.1 (fun q _ h => wH_sub hC q h) (wH_sub hC) (fun r u t H1 locs1 ht hvm hw hB hz1 hk1 hS => ?_)
  subst hw
  exact kk H1 locs1 (wH_back hC (wH_sub hC) ht hvm hB hS)
theorem ca_v {u : sG × sF} (Fx : CallFix p m c cc nL s args Ts own) (hC : wH D tys w A H0 s g f H locs) (hM : mMv l y ws rm D tys w (.ref b :: As) g f u) (cw : CallW R s args own qq.1 index y bytes maxL ret ws rm 0 0 n) (q0 : Nat) (he : (w g f)[q0]? = some (b, .inr (ci, fs))) (hc : vwCl[ci]? = some qq) (hn : As.length = n) (hsz : ls.size = nL) (hst : st0 = As.reverse ++ .ref b :: rest) (hroom : (rest.map fun v => v.category).sum ≤ 8) (hdg : decode cc pc = .ok (.invokevirtual index, 3))
    (kk : ∀ (H : Heap) (locs : List Loc), wH D tys w A H0 s u.1 u.2 H locs → W p l e R s m args below meth c H locs 0 0 Q (F0 m (pc + 3) ls rest)) : W p l e R s m args below meth c H locs 0 0 Q (F0 m pc ls st0) := by
  subst hst
  refine va_callv (va_runV (As := As) (rest := rest) Fx (hM H.size) cw ⟨mPre_blind, va_recv hC.1 hC.2.1 hc he, fun U hU hW => ⟨rfl, by rw [hU], by rw [hU]; exact hC.2.1, va_K.moved hW.alike hC.1, hC.2.2.1.weaken (fun _ _ _ _ => trivial)⟩⟩ rfl hn hsz rfl (lv_room hroom) hdg ⟨Nat.zero_le _, Nat.zero_le _⟩) hC.2.2.2.1 (fun q _ h => wH_sub hC q h) (wH_sub hC) (fun u t H1 locs1 ht hvm hw hB hz1 hk1 hS => ?_)
  exact kk H1 locs1 (wH_back hC (wH_sub hC) ht hvm hB hS)
theorem ca_s {u : Int32 × sG × sF} (Fx : CallFix p m c cc nL s args Ts own) (hC : wH D tys w A H0 s g f H locs) (hM : mMi l y ws rm D tys w As g f u) (cw : CallB R s args own index y bytes maxL ret ws rm 0 0 n ∧ (Cond.static y).before args s = true) (hn : As.length = n) (hsz : ls.size = nL) (hst : st0 = As.reverse ++ rest) (hroom : (rest.map fun v => v.category).sum ≤ 8) (hdg : decode cc pc = .ok (.invokestatic index, 3))
    (kk : ∀ (H : Heap) (locs : List Loc), wH D tys w A H0 s u.2.1 u.2.2 H locs → W p l e R s m args below meth c H locs 0 0 Q (F0 m (pc + 3) ls (.int u.1 :: rest))) : W p l e R s m args below meth c H locs 0 0 Q (F0 m pc ls st0) := by
  subst hst
  refine va_calli (va_runS (As := As) (rest := rest) Fx (hM H.size) cw ⟨mPre_blind, fun U hU hW => ⟨rfl, by rw [hU], by rw [hU]; exact hC.2.1, va_K.moved hW.alike hC.1, hC.2.2.1.weaken (fun _ _ _ _ => trivial)⟩⟩ rfl hn hsz rfl (lv_room hroom) hdg ⟨Nat.zero_le _, Nat.zero_le _⟩) hC.2.2.2.1 (fun q _ h => wH_sub hC q h) (wH_sub hC) (fun r u t H1 locs1 ht hvm hw hB hz1 hk1 hS => ?_)
  subst hw
  exact kk H1 locs1 (wH_back hC (wH_sub hC) ht hvm hB hS)
end BB
section BM
variable {l : Launch} {y : MethodName} {ws ws' : List Cond} {rm : Room} {D : va_G} {tys : List (ClassId × FieldType)} {w : sG → sF → va_W} {avs : List Value} {g : sG} {f : sF} {cc : ByteArray} {maxL : Nat}
theorem mk_i {u : Int32 × sG × sF} (hy : plainName y.cls = true) (hw : ws = Cond.code y cc maxL (some .int) :: ws') (hn : (lg_sl avs).length ≤ maxL)
    (body : ∀ (p : Program) (e : Env) (s : State) (m : MethodId) (below : List Frame) (meth : Method) (c : Code) (Q : State → Prop) (A : Nat → Prop) (H0 : Heap), CallFix p m c cc maxL s avs.toArray ws y.cls → mRi p l e rm s m avs.toArray below meth c Q D tys w A H0 cc u → ∀ (ls : Array Slot) (H : Heap) (locs : List Loc), lv_has ls maxL (lv_args 0 avs) → wH D tys w A H0 s g f H locs → W p l e rm s m avs.toArray below meth c H locs 0 0 Q (F0 m 0 ls [])) :
    mMi l y ws rm D tys w avs g f u := by
  intro sz
  refine Met.ofW (cc := cc) (maxL := maxL) (ret := some .int) hy hw ?_
  intro p e s m args below meth c s₁ B hml hv
  obtain ⟨rfl, hsz, hP, hK, hD0⟩ := hv
  have hl := lv_entry avs (n := maxL) hn
  rw [lg_entry_eq]
  subst hsz
  have hD := hD0.self (sz := s.heap.size)
  have hlocks := B.notSynchronized
  refine body p e s m below meth c _ (va_A (w g f) s.heap.size) s.heap ⟨B.exec, B.bytes, hml, findClass_of_methodNamed B.named, atoms_spec (ws := ws) B.pre⟩ ?_ _ _ _ hl ⟨hK, hP, hD, va_S.rf, fun q h => Or.inr h⟩
  intro pc ls H locs hdg hC
  exact W.iret (v := u.1) B.exec B.bytes B.returns (fun t ht hW => ⟨⟨u.1, (), rfl, rfl, by rw [ht]; exact hC.2.1, va_K.moved hW.alike hC.1, hC.2.2.1⟩, hC.2.2.2.1.F ht⟩) hC.2.2.2.1.2.2 hdg
theorem mk_z {u : Int32 × sG × sF} (hy : plainName y.cls = true) (hw : ws = Cond.code y cc maxL (some .boolean) :: ws') (hn : (lg_sl avs).length ≤ maxL)
    (body : ∀ (p : Program) (e : Env) (s : State) (m : MethodId) (below : List Frame) (meth : Method) (c : Code) (Q : State → Prop) (A : Nat → Prop) (H0 : Heap), CallFix p m c cc maxL s avs.toArray ws y.cls → mRz p l e rm s m avs.toArray below meth c Q D tys w A H0 cc u → ∀ (ls : Array Slot) (H : Heap) (locs : List Loc), lv_has ls maxL (lv_args 0 avs) → wH D tys w A H0 s g f H locs → W p l e rm s m avs.toArray below meth c H locs 0 0 Q (F0 m 0 ls [])) :
    mMi l y ws rm D tys w avs g f u := by
  intro sz
  refine Met.ofW (cc := cc) (maxL := maxL) (ret := some .boolean) hy hw ?_
  intro p e s m args below meth c s₁ B hml hv
  obtain ⟨rfl, hsz, hP, hK, hD0⟩ := hv
  have hl := lv_entry avs (n := maxL) hn
  rw [lg_entry_eq]
  subst hsz
  have hD := hD0.self (sz := s.heap.size)
  have hlocks := B.notSynchronized
  refine body p e s m below meth c _ (va_A (w g f) s.heap.size) s.heap ⟨B.exec, B.bytes, hml, findClass_of_methodNamed B.named, atoms_spec (ws := ws) B.pre⟩ ?_ _ _ _ hl ⟨hK, hP, hD, va_S.rf, fun q h => Or.inr h⟩
  intro pc ls H locs hdg hz hC
  exact W.zret (v := u.1) B.exec B.bytes B.returns (bo_nar hz) (fun t ht hW => ⟨⟨u.1, (), rfl, rfl, by rw [ht]; exact hC.2.1, va_K.moved hW.alike hC.1, hC.2.2.1⟩, hC.2.2.2.1.F ht⟩) hC.2.2.2.1.2.2 hdg
theorem mk_v {u : sG × sF} (hy : plainName y.cls = true) (hw : ws = Cond.code y cc maxL none :: ws') (hn : (lg_sl avs).length ≤ maxL)
    (body : ∀ (p : Program) (e : Env) (s : State) (m : MethodId) (below : List Frame) (meth : Method) (c : Code) (Q : State → Prop) (A : Nat → Prop) (H0 : Heap), CallFix p m c cc maxL s avs.toArray ws y.cls → mRv p l e rm s m avs.toArray below meth c Q D tys w A H0 cc u → ∀ (ls : Array Slot) (H : Heap) (locs : List Loc), lv_has ls maxL (lv_args 0 avs) → wH D tys w A H0 s g f H locs → W p l e rm s m avs.toArray below meth c H locs 0 0 Q (F0 m 0 ls [])) :
    mMv l y ws rm D tys w avs g f u := by
  intro sz
  refine Met.ofW (cc := cc) (maxL := maxL) (ret := none) hy hw ?_
  intro p e s m args below meth c s₁ B hml hv
  obtain ⟨rfl, hsz, hP, hK, hD0⟩ := hv
  have hl := lv_entry avs (n := maxL) hn
  rw [lg_entry_eq]
  subst hsz
  have hD := hD0.self (sz := s.heap.size)
  have hlocks := B.notSynchronized
  refine body p e s m below meth c _ (va_A (w g f) s.heap.size) s.heap ⟨B.exec, B.bytes, hml, findClass_of_methodNamed B.named, atoms_spec (ws := ws) B.pre⟩ ?_ _ _ _ hl ⟨hK, hP, hD, va_S.rf, fun q h => Or.inr h⟩
  intro pc ls H locs hdg hC
  exact W.vret B.exec B.bytes B.returns (fun t ht hW => ⟨⟨(), rfl, trivial, by rw [ht]; exact hC.2.1, va_K.moved hW.alike hC.1, hC.2.2.1⟩, hC.2.2.2.1.F ht⟩) hC.2.2.2.1.2.2 hdg
end BM
end
section
theorem bo_fit {x : Int32} (h : ¬ (¬ x = 0 ∧ ¬ x = 1)) : fits .boolean (.int x) = true := by
  by_cases h0 : x = 0
  · subst h0; rfl
  · by_cases h1 : x = 1
    · subst h1; rfl
    · exact absurd ⟨h0, h1⟩ h
section WQ
variable {s : State} {args : Array Value} {own C : String} {index maxL : Nat} {y : MethodName} {bytes : ByteArray} {ret : Option FieldType} {c0 : Cond} {R rm : Room}
theorem goodU {ws : List Cond} (h : ∀ w ∈ ws, w ∈ wU) : GoodIn (c0 :: wU) ws := fun w hw => ⟨List.mem_cons_of_mem _ (h w hw), good_of_word (List.mem_filter.mp (h w hw)).2⟩
theorem goodL {ws : List Cond} (h : ∀ w ∈ ws, w ∈ wU) : GoodIn wU ws := fun w hw => ⟨h w hw, good_of_word (List.mem_filter.mp (h w hw)).2⟩
theorem inV (h1 : Cond.methodLink own index y ∈ wU) (h2 : Cond.instanceMethod y ∈ wU) (h3 : Cond.selects C y y ∈ wU) (h4 : Cond.initialized C ∈ wU) (h5 : Cond.code y bytes maxL ret ∈ wU) : ∀ w ∈ wsV own index C y (Cond.code y bytes maxL ret :: wU), w ∈ wU := by
  intro w hw
  unfold wsV at hw
  simp only [List.cons_append, List.nil_append, List.mem_cons] at hw
  rcases hw with rfl | rfl | rfl | rfl | rfl | hw
  · exact h1
  · exact h2
  · exact h3
  · exact h4
  · exact h5
  · exact hw
theorem inS (h1 : Cond.methodLink own index y ∈ wU) (h2 : Cond.static y ∈ wU) (h4 : Cond.initialized y.cls ∈ wU) (h5 : Cond.code y bytes maxL ret ∈ wU) : ∀ w ∈ va_wsS own index y (Cond.code y bytes maxL ret :: wU), w ∈ wU := by
  intro w hw
  unfold va_wsS at hw
  simp only [List.cons_append, List.nil_append, List.mem_cons] at hw
  rcases hw with rfl | rfl | rfl | rfl | hw
  · exact h1
  · exact h2
  · exact h4
  · exact h5
  · exact hw
theorem cVU (n : Nat) (ht : ∀ w ∈ c0 :: wU, w.before args s = true) (h1 : Cond.methodLink own index y ∈ wU) (h2 : Cond.instanceMethod y ∈ wU) (h3 : Cond.selects C y y ∈ wU) (h4 : Cond.initialized C ∈ wU) (h5 : Cond.code y bytes maxL ret ∈ wU) (hrc : rm.cells = 0) (hrs : rm.slots = 0) (hd : y.cls = C ∧ y.cls ≠ "java/lang/invoke/MethodHandle" ∧ y.cls ≠ "java/lang/invoke/VarHandle" ∧ (parseMethodDescriptor y.desc).map (fun d => d.parameters.length) = some n) (hR : rm.frames + 1 ≤ R.frames ∧ 8 + (maxL + 11) + rm.locals ≤ R.locals) : CallW R s args own C index y bytes maxL ret (Cond.code y bytes maxL ret :: wU) rm 0 0 n :=
  cwV n ht (goodU (inV h1 h2 h3 h4 h5)) rfl hrc hrs hd hR
theorem cSU (n : Nat) (ht : ∀ w ∈ c0 :: wU, w.before args s = true) (h1 : Cond.methodLink own index y ∈ wU) (h2 : Cond.static y ∈ wU) (h4 : Cond.initialized y.cls ∈ wU) (h5 : Cond.code y bytes maxL ret ∈ wU) (hrc : rm.cells = 0) (hrs : rm.slots = 0) (hd : y.cls ≠ "java/lang/invoke/MethodHandle" ∧ y.cls ≠ "java/lang/invoke/VarHandle" ∧ (parseMethodDescriptor y.desc).map (fun d => d.parameters.length) = some n) (hR : rm.frames + 1 ≤ R.frames ∧ 8 + (maxL + 11) + rm.locals ≤ R.locals) : CallB R s args own index y bytes maxL ret (Cond.code y bytes maxL ret :: wU) rm 0 0 n ∧ (Cond.static y).before args s = true :=
  va_cwS n ht (goodU (inS h1 h2 h4 h5)) rfl hrc hrs hd hR
end WQ
/-! side c: numbers: 0 In.strings, 1 In.lastFret, 2 In.capoFret, 3 Tu.events, 4 Pl.events, 5 GF.size, 6 GF.wantedPosition, 7 GF.wantedPlace, 8 GF.wantedStrings, 9 GF.wantedCost, 10 Pr.leastSum, 11 Pr.leastWays, 12 Ta.size, 13 TR.lineLength, 14 TR.faultPlace; rows: 0 FH.weights[4], 1 In.openPitches[7], 2 Tu.sizes[40], 3 Tu.pitches[160], 4 Tu.bonds[160], 5 Pl.positions[40], 6 Pl.strings[40], 7 Pl.costs[40], 8 Pl.numbers[40], 9 GF.counts[25], 10 GF.leastCosts[25], 11 GF.leastCounts[25], 12 GF.firstStrings[25], 13 GF.firstPlaces[25], 14 GF.pitches[4], 15 GF.bonds[4], 16 GF.frets[4], 17 Pr.sums[1000], 18 Pr.ways[1000], 19 Ta.row[2000], 20 TW.widths[40], 21 TR.columnPitches[7] -/
def cW (ad : Nat → Nat) (cy : Nat → ClassId) (g : sG) (f : sF) : va_W := [(ad 0, .inr (8, [.ref (ad 2), .ref (ad 1), .ref (ad 4), .ref (ad 8), .ref (ad 13), .ref (ad 22), .ref (ad 25), .ref (ad 27), .ref (ad 29)])), (ad 1, .inl (cy 0, 4, .inl (f 0))), (ad 2, .inr (1, [.ref (ad 3), .int (g 0), .int (g 1), .int (g 2)])), (ad 3, .inl (cy 1, 7, .inl (f 1))), (ad 4, .inr (7, [.ref (ad 5), .ref (ad 6), .ref (ad 7), .int (g 3)])), (ad 5, .inl (cy 2, 40, .inl (f 2))), (ad 6, .inl (cy 3, 160, .inl (f 3))), (ad 7, .inl (cy 4, 160, .inl (f 4))), (ad 8, .inr (2, [.ref (ad 9), .ref (ad 10), .ref (ad 11), .ref (ad 12), .int (g 4)])), (ad 9, .inl (cy 5, 40, .inl (f 5))), (ad 10, .inl (cy 6, 40, .inl (f 6))), (ad 11, .inl (cy 7, 40, .inl (f 7))), (ad 12, .inl (cy 8, 40, .inl (f 8))), (ad 13, .inr (0, [.ref (ad 2), .ref (ad 1), .ref (ad 4), .ref (ad 14), .ref (ad 15), .ref (ad 16), .ref (ad 17), .ref (ad 18), .ref (ad 19), .ref (ad 20), .ref (ad 21), .int (g 5), .int (g 6), .int (g 7), .int (g 8), .int (g 9)])), (ad 14, .inl (cy 9, 25, .inl (f 9))), (ad 15, .inl (cy 10, 25, .inl (f 10))), (ad 16, .inl (cy 11, 25, .inl (f 11))), (ad 17, .inl (cy 12, 25, .inl (f 12))), (ad 18, .inl (cy 13, 25, .inl (f 13))), (ad 19, .inl (cy 14, 4, .inl (f 14))), (ad 20, .inl (cy 15, 4, .inl (f 15))), (ad 21, .inl (cy 16, 4, .inl (f 16))), (ad 22, .inr (3, [.ref (ad 2), .ref (ad 1), .ref (ad 4), .ref (ad 13), .ref (ad 23), .ref (ad 24), .int (g 10), .int (g 11)])), (ad 23, .inl (cy 17, 1000, .inl (f 17))), (ad 24, .inl (cy 18, 1000, .inl (f 18))), (ad 25, .inr (6, [.ref (ad 26), .int (g 12)])), (ad 26, .inl (cy 19, 2000, .inl (f 19))), (ad 27, .inr (5, [.ref (ad 2), .ref (ad 4), .ref (ad 8), .ref (ad 25), .ref (ad 28)])), (ad 28, .inl (cy 20, 40, .inl (f 20))), (ad 29, .inr (4, [.ref (ad 2), .ref (ad 4), .ref (ad 25), .int (g 13), .ref (ad 30), .int (g 14)])), (ad 30, .inl (cy 21, 7, .inl (f 21)))]
def cT (cy : Nat → ClassId) : List (ClassId × FieldType) := [(cy 0, .int), (cy 1, .int), (cy 2, .int), (cy 3, .int), (cy 4, .int), (cy 5, .int), (cy 6, .int), (cy 7, .int), (cy 8, .int), (cy 9, .int), (cy 10, .int), (cy 11, .int), (cy 12, .int), (cy 13, .int), (cy 14, .int), (cy 15, .int), (cy 16, .int), (cy 17, .int), (cy 18, .int), (cy 19, .int), (cy 20, .int), (cy 21, .int)]
/-! side m: numbers: 0 M.strings, 1 M.neck, 2 M.capo, 3 M.events, 4 M.isFound, 5 M.signs, 6 M.faultPlace, 7 M.ways, 8 M.at, 9 M.columns, 10 M.fault, 11 M.faultAt, 12 M.newEvents; rows: 0 M.tuned[7], 1 M.weights[4], 2 M.pitchMany[40], 3 M.pitches[160], 4 M.bounds[160], 5 M.foundAt[40], 6 M.foundStrings[160], 7 M.foundCost[40], 8 M.foundNumber[40], 9 M.tape[2000], 10 M.wayStrings[3364], 11 M.wayFrets[3364], 12 M.least[1000], 13 M.manyLeast[1000], 14 M.sums[1000], 15 M.rows[1000], 16 M.isOn[1000], 17 M.newMany[41], 18 M.newPitches[164], 19 M.newBounds[164] -/
def mW (ad : Nat → Nat) (cy : Nat → ClassId) (g : sG) (f : sF) : va_W := [(ad 0, .inr (9, [.int (g 0), .ref (ad 1), .int (g 1), .int (g 2), .ref (ad 2), .int (g 3), .ref (ad 3), .ref (ad 4), .ref (ad 5), .int (g 4), .ref (ad 6), .ref (ad 7), .ref (ad 8), .ref (ad 9), .int (g 5), .ref (ad 10), .int (g 6), .int (g 7), .ref (ad 11), .ref (ad 12), .ref (ad 13), .ref (ad 14), .ref (ad 15), .ref (ad 16), .ref (ad 17), .int (g 8), .int (g 9), .int (g 10), .int (g 11), .int (g 12), .ref (ad 18), .ref (ad 19), .ref (ad 20)])), (ad 1, .inl (cy 0, 7, .inl (f 0))), (ad 2, .inl (cy 1, 4, .inl (f 1))), (ad 3, .inl (cy 2, 40, .inl (f 2))), (ad 4, .inl (cy 3, 160, .inl (f 3))), (ad 5, .inl (cy 4, 160, .inl (f 4))), (ad 6, .inl (cy 5, 40, .inl (f 5))), (ad 7, .inl (cy 6, 160, .inl (f 6))), (ad 8, .inl (cy 7, 40, .inl (f 7))), (ad 9, .inl (cy 8, 40, .inl (f 8))), (ad 10, .inl (cy 9, 2000, .inl (f 9))), (ad 11, .inl (cy 10, 3364, .inl (f 10))), (ad 12, .inl (cy 11, 3364, .inl (f 11))), (ad 13, .inl (cy 12, 1000, .inl (f 12))), (ad 14, .inl (cy 13, 1000, .inl (f 13))), (ad 15, .inl (cy 14, 1000, .inl (f 14))), (ad 16, .inl (cy 15, 1000, .inl (f 15))), (ad 17, .inl (cy 16, 1000, .inl (f 16))), (ad 18, .inl (cy 17, 41, .inl (f 17))), (ad 19, .inl (cy 18, 164, .inl (f 18))), (ad 20, .inl (cy 19, 164, .inl (f 19)))]
def mT (cy : Nat → ClassId) : List (ClassId × FieldType) := [(cy 0, .int), (cy 1, .int), (cy 2, .int), (cy 3, .int), (cy 4, .int), (cy 5, .int), (cy 6, .int), (cy 7, .int), (cy 8, .int), (cy 9, .int), (cy 10, .int), (cy 11, .int), (cy 12, .int), (cy 13, .int), (cy 14, .int), (cy 15, .int), (cy 16, .boolean), (cy 17, .int), (cy 18, .int), (cy 19, .int)]
section WR
variable {p : Program} {l : Launch} {e : Env} {R : Room} {s : State} {m : MethodId} {args : Array Value} {below : List Frame} {meth : Method} {c : Code} {H : Heap} {locs : List Loc} {Q : State → Prop}
variable {D : va_G} {ad : Nat → Nat} {cy : Nat → ClassId} {A : Nat → Prop} {H0 : Heap} {g : sG} {f : sF} {cc : ByteArray} {pc : Nat} {ls : Array Slot} {rest : List Value} {nL : Nat} {c0 : Cond} {own : String} {index : Nat}
theorem gg_FH_instrument (Fx : CallFix p m c cc nL s args (c0 :: wU) own) (hC : wH D (cT cy) (cW ad cy) A H0 s g f H locs) (hw : Cond.fieldLink own index "FretHands" "instrument" "LFretHands$Instrument;" ∈ wU) (hdg : decode cc pc = .ok (.getfield index, 3)) (kk : W p l e R s m args below meth c H locs 0 0 Q (F0 m (pc + 3) ls (.ref (ad 2) :: rest))) : W p l e R s m args below meth c H locs 0 0 Q (F0 m pc ls (.ref (ad 0) :: rest)) :=
  g_get Fx hC 0 rfl rfl (fun w h => List.mem_cons_of_mem _ (inX9 w h)) 0 (by decide) (Fx.2.2.2.2 _ (List.mem_cons_of_mem _ hw)) rfl rfl hdg kk
theorem gg_FH_weights (Fx : CallFix p m c cc nL s args (c0 :: wU) own) (hC : wH D (cT cy) (cW ad cy) A H0 s g f H locs) (hw : Cond.fieldLink own index "FretHands" "weights" "[I" ∈ wU) (hdg : decode cc pc = .ok (.getfield index, 3)) (kk : W p l e R s m args below meth c H locs 0 0 Q (F0 m (pc + 3) ls (.ref (ad 1) :: rest))) : W p l e R s m args below meth c H locs 0 0 Q (F0 m pc ls (.ref (ad 0) :: rest)) :=
  g_get Fx hC 0 rfl rfl (fun w h => List.mem_cons_of_mem _ (inX9 w h)) 1 (by decide) (Fx.2.2.2.2 _ (List.mem_cons_of_mem _ hw)) rfl rfl hdg kk
theorem gg_FH_tune (Fx : CallFix p m c cc nL s args (c0 :: wU) own) (hC : wH D (cT cy) (cW ad cy) A H0 s g f H locs) (hw : Cond.fieldLink own index "FretHands" "tune" "LFretHands$Tune;" ∈ wU) (hdg : decode cc pc = .ok (.getfield index, 3)) (kk : W p l e R s m args below meth c H locs 0 0 Q (F0 m (pc + 3) ls (.ref (ad 4) :: rest))) : W p l e R s m args below meth c H locs 0 0 Q (F0 m pc ls (.ref (ad 0) :: rest)) :=
  g_get Fx hC 0 rfl rfl (fun w h => List.mem_cons_of_mem _ (inX9 w h)) 2 (by decide) (Fx.2.2.2.2 _ (List.mem_cons_of_mem _ hw)) rfl rfl hdg kk
theorem gg_FH_latest (Fx : CallFix p m c cc nL s args (c0 :: wU) own) (hC : wH D (cT cy) (cW ad cy) A H0 s g f H locs) (hw : Cond.fieldLink own index "FretHands" "latest" "LFretHands$Plan;" ∈ wU) (hdg : decode cc pc = .ok (.getfield index, 3)) (kk : W p l e R s m args below meth c H locs 0 0 Q (F0 m (pc + 3) ls (.ref (ad 8) :: rest))) : W p l e R s m args below meth c H locs 0 0 Q (F0 m pc ls (.ref (ad 0) :: rest)) :=
  g_get Fx hC 0 rfl rfl (fun w h => List.mem_cons_of_mem _ (inX9 w h)) 3 (by decide) (Fx.2.2.2.2 _ (List.mem_cons_of_mem _ hw)) rfl rfl hdg kk
theorem gg_FH_finder (Fx : CallFix p m c cc nL s args (c0 :: wU) own) (hC : wH D (cT cy) (cW ad cy) A H0 s g f H locs) (hw : Cond.fieldLink own index "FretHands" "finder" "LFretHands$GripFinder;" ∈ wU) (hdg : decode cc pc = .ok (.getfield index, 3)) (kk : W p l e R s m args below meth c H locs 0 0 Q (F0 m (pc + 3) ls (.ref (ad 13) :: rest))) : W p l e R s m args below meth c H locs 0 0 Q (F0 m pc ls (.ref (ad 0) :: rest)) :=
  g_get Fx hC 0 rfl rfl (fun w h => List.mem_cons_of_mem _ (inX9 w h)) 4 (by decide) (Fx.2.2.2.2 _ (List.mem_cons_of_mem _ hw)) rfl rfl hdg kk
theorem gg_FH_planner (Fx : CallFix p m c cc nL s args (c0 :: wU) own) (hC : wH D (cT cy) (cW ad cy) A H0 s g f H locs) (hw : Cond.fieldLink own index "FretHands" "planner" "LFretHands$Planner;" ∈ wU) (hdg : decode cc pc = .ok (.getfield index, 3)) (kk : W p l e R s m args below meth c H locs 0 0 Q (F0 m (pc + 3) ls (.ref (ad 22) :: rest))) : W p l e R s m args below meth c H locs 0 0 Q (F0 m pc ls (.ref (ad 0) :: rest)) :=
  g_get Fx hC 0 rfl rfl (fun w h => List.mem_cons_of_mem _ (inX9 w h)) 5 (by decide) (Fx.2.2.2.2 _ (List.mem_cons_of_mem _ hw)) rfl rfl hdg kk
theorem gg_FH_signs (Fx : CallFix p m c cc nL s args (c0 :: wU) own) (hC : wH D (cT cy) (cW ad cy) A H0 s g f H locs) (hw : Cond.fieldLink own index "FretHands" "signs" "LFretHands$Tape;" ∈ wU) (hdg : decode cc pc = .ok (.getfield index, 3)) (kk : W p l e R s m args below meth c H locs 0 0 Q (F0 m (pc + 3) ls (.ref (ad 25) :: rest))) : W p l e R s m args below meth c H locs 0 0 Q (F0 m pc ls (.ref (ad 0) :: rest)) :=
  g_get Fx hC 0 rfl rfl (fun w h => List.mem_cons_of_mem _ (inX9 w h)) 6 (by decide) (Fx.2.2.2.2 _ (List.mem_cons_of_mem _ hw)) rfl rfl hdg kk
theorem gg_FH_writer (Fx : CallFix p m c cc nL s args (c0 :: wU) own) (hC : wH D (cT cy) (cW ad cy) A H0 s g f H locs) (hw : Cond.fieldLink own index "FretHands" "writer" "LFretHands$TabWriter;" ∈ wU) (hdg : decode cc pc = .ok (.getfield index, 3)) (kk : W p l e R s m args below meth c H locs 0 0 Q (F0 m (pc + 3) ls (.ref (ad 27) :: rest))) : W p l e R s m args below meth c H locs 0 0 Q (F0 m pc ls (.ref (ad 0) :: rest)) :=
  g_get Fx hC 0 rfl rfl (fun w h => List.mem_cons_of_mem _ (inX9 w h)) 7 (by decide) (Fx.2.2.2.2 _ (List.mem_cons_of_mem _ hw)) rfl rfl hdg kk
theorem gg_FH_reader (Fx : CallFix p m c cc nL s args (c0 :: wU) own) (hC : wH D (cT cy) (cW ad cy) A H0 s g f H locs) (hw : Cond.fieldLink own index "FretHands" "reader" "LFretHands$TabReader;" ∈ wU) (hdg : decode cc pc = .ok (.getfield index, 3)) (kk : W p l e R s m args below meth c H locs 0 0 Q (F0 m (pc + 3) ls (.ref (ad 29) :: rest))) : W p l e R s m args below meth c H locs 0 0 Q (F0 m pc ls (.ref (ad 0) :: rest)) :=
  g_get Fx hC 0 rfl rfl (fun w h => List.mem_cons_of_mem _ (inX9 w h)) 8 (by decide) (Fx.2.2.2.2 _ (List.mem_cons_of_mem _ hw)) rfl rfl hdg kk
theorem gg_In_openPitches (Fx : CallFix p m c cc nL s args (c0 :: wU) own) (hC : wH D (cT cy) (cW ad cy) A H0 s g f H locs) (hw : Cond.fieldLink own index "FretHands$Instrument" "openPitches" "[I" ∈ wU) (hdg : decode cc pc = .ok (.getfield index, 3)) (kk : W p l e R s m args below meth c H locs 0 0 Q (F0 m (pc + 3) ls (.ref (ad 3) :: rest))) : W p l e R s m args below meth c H locs 0 0 Q (F0 m pc ls (.ref (ad 2) :: rest)) :=
  g_get Fx hC 2 rfl rfl (fun w h => List.mem_cons_of_mem _ (inX1 w h)) 0 (by decide) (Fx.2.2.2.2 _ (List.mem_cons_of_mem _ hw)) rfl rfl hdg kk
theorem gg_In_strings (Fx : CallFix p m c cc nL s args (c0 :: wU) own) (hC : wH D (cT cy) (cW ad cy) A H0 s g f H locs) (hw : Cond.fieldLink own index "FretHands$Instrument" "strings" "I" ∈ wU) (hdg : decode cc pc = .ok (.getfield index, 3)) (kk : W p l e R s m args below meth c H locs 0 0 Q (F0 m (pc + 3) ls (.int (g 0) :: rest))) : W p l e R s m args below meth c H locs 0 0 Q (F0 m pc ls (.ref (ad 2) :: rest)) :=
  g_get Fx hC 2 rfl rfl (fun w h => List.mem_cons_of_mem _ (inX1 w h)) 1 (by decide) (Fx.2.2.2.2 _ (List.mem_cons_of_mem _ hw)) rfl rfl hdg kk
theorem gp_In_strings (Fx : CallFix p m c cc nL s args (c0 :: wU) own) (hC : wH D (cT cy) (cW ad cy) A H0 s g f H locs) (hw : Cond.fieldLink own index "FretHands$Instrument" "strings" "I" ∈ wU) {v : Int32} {g1 : sG} (hg : g1 = upd g 0 v) (hdg : decode cc pc = .ok (.putfield index, 3)) (kk : ∀ (H : Heap) (locs : List Loc), wH D (cT cy) (cW ad cy) A H0 s g1 f H locs → W p l e R s m args below meth c H locs 0 0 Q (F0 m (pc + 3) ls rest)) : W p l e R s m args below meth c H locs 0 0 Q (F0 m pc ls (.int v :: .ref (ad 2) :: rest)) := by
  subst hg
  exact g_put (ty := .int) Fx hC 2 rfl rfl (fun w h => List.mem_cons_of_mem _ (inX1 w h)) tyX1 tyX1_ok nmX1 1 (by decide) (Fx.2.2.2.2 _ (List.mem_cons_of_mem _ hw)) rfl rfl rfl rfl rfl (Nat.le_of_ble_eq_true rfl) rfl hdg kk
theorem gg_In_lastFret (Fx : CallFix p m c cc nL s args (c0 :: wU) own) (hC : wH D (cT cy) (cW ad cy) A H0 s g f H locs) (hw : Cond.fieldLink own index "FretHands$Instrument" "lastFret" "I" ∈ wU) (hdg : decode cc pc = .ok (.getfield index, 3)) (kk : W p l e R s m args below meth c H locs 0 0 Q (F0 m (pc + 3) ls (.int (g 1) :: rest))) : W p l e R s m args below meth c H locs 0 0 Q (F0 m pc ls (.ref (ad 2) :: rest)) :=
  g_get Fx hC 2 rfl rfl (fun w h => List.mem_cons_of_mem _ (inX1 w h)) 2 (by decide) (Fx.2.2.2.2 _ (List.mem_cons_of_mem _ hw)) rfl rfl hdg kk
theorem gp_In_lastFret (Fx : CallFix p m c cc nL s args (c0 :: wU) own) (hC : wH D (cT cy) (cW ad cy) A H0 s g f H locs) (hw : Cond.fieldLink own index "FretHands$Instrument" "lastFret" "I" ∈ wU) {v : Int32} {g1 : sG} (hg : g1 = upd g 1 v) (hdg : decode cc pc = .ok (.putfield index, 3)) (kk : ∀ (H : Heap) (locs : List Loc), wH D (cT cy) (cW ad cy) A H0 s g1 f H locs → W p l e R s m args below meth c H locs 0 0 Q (F0 m (pc + 3) ls rest)) : W p l e R s m args below meth c H locs 0 0 Q (F0 m pc ls (.int v :: .ref (ad 2) :: rest)) := by
  subst hg
  exact g_put (ty := .int) Fx hC 2 rfl rfl (fun w h => List.mem_cons_of_mem _ (inX1 w h)) tyX1 tyX1_ok nmX1 2 (by decide) (Fx.2.2.2.2 _ (List.mem_cons_of_mem _ hw)) rfl rfl rfl rfl rfl (Nat.le_of_ble_eq_true rfl) rfl hdg kk
theorem gg_In_capoFret (Fx : CallFix p m c cc nL s args (c0 :: wU) own) (hC : wH D (cT cy) (cW ad cy) A H0 s g f H locs) (hw : Cond.fieldLink own index "FretHands$Instrument" "capoFret" "I" ∈ wU) (hdg : decode cc pc = .ok (.getfield index, 3)) (kk : W p l e R s m args below meth c H locs 0 0 Q (F0 m (pc + 3) ls (.int (g 2) :: rest))) : W p l e R s m args below meth c H locs 0 0 Q (F0 m pc ls (.ref (ad 2) :: rest)) :=
  g_get Fx hC 2 rfl rfl (fun w h => List.mem_cons_of_mem _ (inX1 w h)) 3 (by decide) (Fx.2.2.2.2 _ (List.mem_cons_of_mem _ hw)) rfl rfl hdg kk
theorem gp_In_capoFret (Fx : CallFix p m c cc nL s args (c0 :: wU) own) (hC : wH D (cT cy) (cW ad cy) A H0 s g f H locs) (hw : Cond.fieldLink own index "FretHands$Instrument" "capoFret" "I" ∈ wU) {v : Int32} {g1 : sG} (hg : g1 = upd g 2 v) (hdg : decode cc pc = .ok (.putfield index, 3)) (kk : ∀ (H : Heap) (locs : List Loc), wH D (cT cy) (cW ad cy) A H0 s g1 f H locs → W p l e R s m args below meth c H locs 0 0 Q (F0 m (pc + 3) ls rest)) : W p l e R s m args below meth c H locs 0 0 Q (F0 m pc ls (.int v :: .ref (ad 2) :: rest)) := by
  subst hg
  exact g_put (ty := .int) Fx hC 2 rfl rfl (fun w h => List.mem_cons_of_mem _ (inX1 w h)) tyX1 tyX1_ok nmX1 3 (by decide) (Fx.2.2.2.2 _ (List.mem_cons_of_mem _ hw)) rfl rfl rfl rfl rfl (Nat.le_of_ble_eq_true rfl) rfl hdg kk
theorem gg_Tu_sizes (Fx : CallFix p m c cc nL s args (c0 :: wU) own) (hC : wH D (cT cy) (cW ad cy) A H0 s g f H locs) (hw : Cond.fieldLink own index "FretHands$Tune" "sizes" "[I" ∈ wU) (hdg : decode cc pc = .ok (.getfield index, 3)) (kk : W p l e R s m args below meth c H locs 0 0 Q (F0 m (pc + 3) ls (.ref (ad 5) :: rest))) : W p l e R s m args below meth c H locs 0 0 Q (F0 m pc ls (.ref (ad 4) :: rest)) :=
  g_get Fx hC 4 rfl rfl (fun w h => List.mem_cons_of_mem _ (inX8 w h)) 0 (by decide) (Fx.2.2.2.2 _ (List.mem_cons_of_mem _ hw)) rfl rfl hdg kk
theorem gg_Tu_pitches (Fx : CallFix p m c cc nL s args (c0 :: wU) own) (hC : wH D (cT cy) (cW ad cy) A H0 s g f H locs) (hw : Cond.fieldLink own index "FretHands$Tune" "pitches" "[I" ∈ wU) (hdg : decode cc pc = .ok (.getfield index, 3)) (kk : W p l e R s m args below meth c H locs 0 0 Q (F0 m (pc + 3) ls (.ref (ad 6) :: rest))) : W p l e R s m args below meth c H locs 0 0 Q (F0 m pc ls (.ref (ad 4) :: rest)) :=
  g_get Fx hC 4 rfl rfl (fun w h => List.mem_cons_of_mem _ (inX8 w h)) 1 (by decide) (Fx.2.2.2.2 _ (List.mem_cons_of_mem _ hw)) rfl rfl hdg kk
theorem gg_Tu_bonds (Fx : CallFix p m c cc nL s args (c0 :: wU) own) (hC : wH D (cT cy) (cW ad cy) A H0 s g f H locs) (hw : Cond.fieldLink own index "FretHands$Tune" "bonds" "[I" ∈ wU) (hdg : decode cc pc = .ok (.getfield index, 3)) (kk : W p l e R s m args below meth c H locs 0 0 Q (F0 m (pc + 3) ls (.ref (ad 7) :: rest))) : W p l e R s m args below meth c H locs 0 0 Q (F0 m pc ls (.ref (ad 4) :: rest)) :=
  g_get Fx hC 4 rfl rfl (fun w h => List.mem_cons_of_mem _ (inX8 w h)) 2 (by decide) (Fx.2.2.2.2 _ (List.mem_cons_of_mem _ hw)) rfl rfl hdg kk
theorem gg_Tu_events (Fx : CallFix p m c cc nL s args (c0 :: wU) own) (hC : wH D (cT cy) (cW ad cy) A H0 s g f H locs) (hw : Cond.fieldLink own index "FretHands$Tune" "events" "I" ∈ wU) (hdg : decode cc pc = .ok (.getfield index, 3)) (kk : W p l e R s m args below meth c H locs 0 0 Q (F0 m (pc + 3) ls (.int (g 3) :: rest))) : W p l e R s m args below meth c H locs 0 0 Q (F0 m pc ls (.ref (ad 4) :: rest)) :=
  g_get Fx hC 4 rfl rfl (fun w h => List.mem_cons_of_mem _ (inX8 w h)) 3 (by decide) (Fx.2.2.2.2 _ (List.mem_cons_of_mem _ hw)) rfl rfl hdg kk
theorem gp_Tu_events (Fx : CallFix p m c cc nL s args (c0 :: wU) own) (hC : wH D (cT cy) (cW ad cy) A H0 s g f H locs) (hw : Cond.fieldLink own index "FretHands$Tune" "events" "I" ∈ wU) {v : Int32} {g1 : sG} (hg : g1 = upd g 3 v) (hdg : decode cc pc = .ok (.putfield index, 3)) (kk : ∀ (H : Heap) (locs : List Loc), wH D (cT cy) (cW ad cy) A H0 s g1 f H locs → W p l e R s m args below meth c H locs 0 0 Q (F0 m (pc + 3) ls rest)) : W p l e R s m args below meth c H locs 0 0 Q (F0 m pc ls (.int v :: .ref (ad 4) :: rest)) := by
  subst hg
  exact g_put (ty := .int) Fx hC 4 rfl rfl (fun w h => List.mem_cons_of_mem _ (inX8 w h)) tyX8 tyX8_ok nmX8 3 (by decide) (Fx.2.2.2.2 _ (List.mem_cons_of_mem _ hw)) rfl rfl rfl rfl rfl (Nat.le_of_ble_eq_true rfl) rfl hdg kk
theorem gg_Pl_positions (Fx : CallFix p m c cc nL s args (c0 :: wU) own) (hC : wH D (cT cy) (cW ad cy) A H0 s g f H locs) (hw : Cond.fieldLink own index "FretHands$Plan" "positions" "[I" ∈ wU) (hdg : decode cc pc = .ok (.getfield index, 3)) (kk : W p l e R s m args below meth c H locs 0 0 Q (F0 m (pc + 3) ls (.ref (ad 9) :: rest))) : W p l e R s m args below meth c H locs 0 0 Q (F0 m pc ls (.ref (ad 8) :: rest)) :=
  g_get Fx hC 8 rfl rfl (fun w h => List.mem_cons_of_mem _ (inX2 w h)) 0 (by decide) (Fx.2.2.2.2 _ (List.mem_cons_of_mem _ hw)) rfl rfl hdg kk
theorem gg_Pl_strings (Fx : CallFix p m c cc nL s args (c0 :: wU) own) (hC : wH D (cT cy) (cW ad cy) A H0 s g f H locs) (hw : Cond.fieldLink own index "FretHands$Plan" "strings" "[I" ∈ wU) (hdg : decode cc pc = .ok (.getfield index, 3)) (kk : W p l e R s m args below meth c H locs 0 0 Q (F0 m (pc + 3) ls (.ref (ad 10) :: rest))) : W p l e R s m args below meth c H locs 0 0 Q (F0 m pc ls (.ref (ad 8) :: rest)) :=
  g_get Fx hC 8 rfl rfl (fun w h => List.mem_cons_of_mem _ (inX2 w h)) 1 (by decide) (Fx.2.2.2.2 _ (List.mem_cons_of_mem _ hw)) rfl rfl hdg kk
theorem gg_Pl_costs (Fx : CallFix p m c cc nL s args (c0 :: wU) own) (hC : wH D (cT cy) (cW ad cy) A H0 s g f H locs) (hw : Cond.fieldLink own index "FretHands$Plan" "costs" "[I" ∈ wU) (hdg : decode cc pc = .ok (.getfield index, 3)) (kk : W p l e R s m args below meth c H locs 0 0 Q (F0 m (pc + 3) ls (.ref (ad 11) :: rest))) : W p l e R s m args below meth c H locs 0 0 Q (F0 m pc ls (.ref (ad 8) :: rest)) :=
  g_get Fx hC 8 rfl rfl (fun w h => List.mem_cons_of_mem _ (inX2 w h)) 2 (by decide) (Fx.2.2.2.2 _ (List.mem_cons_of_mem _ hw)) rfl rfl hdg kk
theorem gg_Pl_numbers (Fx : CallFix p m c cc nL s args (c0 :: wU) own) (hC : wH D (cT cy) (cW ad cy) A H0 s g f H locs) (hw : Cond.fieldLink own index "FretHands$Plan" "numbers" "[I" ∈ wU) (hdg : decode cc pc = .ok (.getfield index, 3)) (kk : W p l e R s m args below meth c H locs 0 0 Q (F0 m (pc + 3) ls (.ref (ad 12) :: rest))) : W p l e R s m args below meth c H locs 0 0 Q (F0 m pc ls (.ref (ad 8) :: rest)) :=
  g_get Fx hC 8 rfl rfl (fun w h => List.mem_cons_of_mem _ (inX2 w h)) 3 (by decide) (Fx.2.2.2.2 _ (List.mem_cons_of_mem _ hw)) rfl rfl hdg kk
theorem gg_Pl_events (Fx : CallFix p m c cc nL s args (c0 :: wU) own) (hC : wH D (cT cy) (cW ad cy) A H0 s g f H locs) (hw : Cond.fieldLink own index "FretHands$Plan" "events" "I" ∈ wU) (hdg : decode cc pc = .ok (.getfield index, 3)) (kk : W p l e R s m args below meth c H locs 0 0 Q (F0 m (pc + 3) ls (.int (g 4) :: rest))) : W p l e R s m args below meth c H locs 0 0 Q (F0 m pc ls (.ref (ad 8) :: rest)) :=
  g_get Fx hC 8 rfl rfl (fun w h => List.mem_cons_of_mem _ (inX2 w h)) 4 (by decide) (Fx.2.2.2.2 _ (List.mem_cons_of_mem _ hw)) rfl rfl hdg kk
theorem gp_Pl_events (Fx : CallFix p m c cc nL s args (c0 :: wU) own) (hC : wH D (cT cy) (cW ad cy) A H0 s g f H locs) (hw : Cond.fieldLink own index "FretHands$Plan" "events" "I" ∈ wU) {v : Int32} {g1 : sG} (hg : g1 = upd g 4 v) (hdg : decode cc pc = .ok (.putfield index, 3)) (kk : ∀ (H : Heap) (locs : List Loc), wH D (cT cy) (cW ad cy) A H0 s g1 f H locs → W p l e R s m args below meth c H locs 0 0 Q (F0 m (pc + 3) ls rest)) : W p l e R s m args below meth c H locs 0 0 Q (F0 m pc ls (.int v :: .ref (ad 8) :: rest)) := by
  subst hg
  exact g_put (ty := .int) Fx hC 8 rfl rfl (fun w h => List.mem_cons_of_mem _ (inX2 w h)) tyX2 tyX2_ok nmX2 4 (by decide) (Fx.2.2.2.2 _ (List.mem_cons_of_mem _ hw)) rfl rfl rfl rfl rfl (Nat.le_of_ble_eq_true rfl) rfl hdg kk
theorem gg_GF_instrument (Fx : CallFix p m c cc nL s args (c0 :: wU) own) (hC : wH D (cT cy) (cW ad cy) A H0 s g f H locs) (hw : Cond.fieldLink own index "FretHands$GripFinder" "instrument" "LFretHands$Instrument;" ∈ wU) (hdg : decode cc pc = .ok (.getfield index, 3)) (kk : W p l e R s m args below meth c H locs 0 0 Q (F0 m (pc + 3) ls (.ref (ad 2) :: rest))) : W p l e R s m args below meth c H locs 0 0 Q (F0 m pc ls (.ref (ad 13) :: rest)) :=
  g_get Fx hC 13 rfl rfl (fun w h => List.mem_cons_of_mem _ (inX0 w h)) 0 (by decide) (Fx.2.2.2.2 _ (List.mem_cons_of_mem _ hw)) rfl rfl hdg kk
theorem gg_GF_weights (Fx : CallFix p m c cc nL s args (c0 :: wU) own) (hC : wH D (cT cy) (cW ad cy) A H0 s g f H locs) (hw : Cond.fieldLink own index "FretHands$GripFinder" "weights" "[I" ∈ wU) (hdg : decode cc pc = .ok (.getfield index, 3)) (kk : W p l e R s m args below meth c H locs 0 0 Q (F0 m (pc + 3) ls (.ref (ad 1) :: rest))) : W p l e R s m args below meth c H locs 0 0 Q (F0 m pc ls (.ref (ad 13) :: rest)) :=
  g_get Fx hC 13 rfl rfl (fun w h => List.mem_cons_of_mem _ (inX0 w h)) 1 (by decide) (Fx.2.2.2.2 _ (List.mem_cons_of_mem _ hw)) rfl rfl hdg kk
theorem gg_GF_tune (Fx : CallFix p m c cc nL s args (c0 :: wU) own) (hC : wH D (cT cy) (cW ad cy) A H0 s g f H locs) (hw : Cond.fieldLink own index "FretHands$GripFinder" "tune" "LFretHands$Tune;" ∈ wU) (hdg : decode cc pc = .ok (.getfield index, 3)) (kk : W p l e R s m args below meth c H locs 0 0 Q (F0 m (pc + 3) ls (.ref (ad 4) :: rest))) : W p l e R s m args below meth c H locs 0 0 Q (F0 m pc ls (.ref (ad 13) :: rest)) :=
  g_get Fx hC 13 rfl rfl (fun w h => List.mem_cons_of_mem _ (inX0 w h)) 2 (by decide) (Fx.2.2.2.2 _ (List.mem_cons_of_mem _ hw)) rfl rfl hdg kk
theorem gg_GF_counts (Fx : CallFix p m c cc nL s args (c0 :: wU) own) (hC : wH D (cT cy) (cW ad cy) A H0 s g f H locs) (hw : Cond.fieldLink own index "FretHands$GripFinder" "counts" "[I" ∈ wU) (hdg : decode cc pc = .ok (.getfield index, 3)) (kk : W p l e R s m args below meth c H locs 0 0 Q (F0 m (pc + 3) ls (.ref (ad 14) :: rest))) : W p l e R s m args below meth c H locs 0 0 Q (F0 m pc ls (.ref (ad 13) :: rest)) :=
  g_get Fx hC 13 rfl rfl (fun w h => List.mem_cons_of_mem _ (inX0 w h)) 3 (by decide) (Fx.2.2.2.2 _ (List.mem_cons_of_mem _ hw)) rfl rfl hdg kk
theorem gg_GF_leastCosts (Fx : CallFix p m c cc nL s args (c0 :: wU) own) (hC : wH D (cT cy) (cW ad cy) A H0 s g f H locs) (hw : Cond.fieldLink own index "FretHands$GripFinder" "leastCosts" "[I" ∈ wU) (hdg : decode cc pc = .ok (.getfield index, 3)) (kk : W p l e R s m args below meth c H locs 0 0 Q (F0 m (pc + 3) ls (.ref (ad 15) :: rest))) : W p l e R s m args below meth c H locs 0 0 Q (F0 m pc ls (.ref (ad 13) :: rest)) :=
  g_get Fx hC 13 rfl rfl (fun w h => List.mem_cons_of_mem _ (inX0 w h)) 4 (by decide) (Fx.2.2.2.2 _ (List.mem_cons_of_mem _ hw)) rfl rfl hdg kk
theorem gg_GF_leastCounts (Fx : CallFix p m c cc nL s args (c0 :: wU) own) (hC : wH D (cT cy) (cW ad cy) A H0 s g f H locs) (hw : Cond.fieldLink own index "FretHands$GripFinder" "leastCounts" "[I" ∈ wU) (hdg : decode cc pc = .ok (.getfield index, 3)) (kk : W p l e R s m args below meth c H locs 0 0 Q (F0 m (pc + 3) ls (.ref (ad 16) :: rest))) : W p l e R s m args below meth c H locs 0 0 Q (F0 m pc ls (.ref (ad 13) :: rest)) :=
  g_get Fx hC 13 rfl rfl (fun w h => List.mem_cons_of_mem _ (inX0 w h)) 5 (by decide) (Fx.2.2.2.2 _ (List.mem_cons_of_mem _ hw)) rfl rfl hdg kk
theorem gg_GF_firstStrings (Fx : CallFix p m c cc nL s args (c0 :: wU) own) (hC : wH D (cT cy) (cW ad cy) A H0 s g f H locs) (hw : Cond.fieldLink own index "FretHands$GripFinder" "firstStrings" "[I" ∈ wU) (hdg : decode cc pc = .ok (.getfield index, 3)) (kk : W p l e R s m args below meth c H locs 0 0 Q (F0 m (pc + 3) ls (.ref (ad 17) :: rest))) : W p l e R s m args below meth c H locs 0 0 Q (F0 m pc ls (.ref (ad 13) :: rest)) :=
  g_get Fx hC 13 rfl rfl (fun w h => List.mem_cons_of_mem _ (inX0 w h)) 6 (by decide) (Fx.2.2.2.2 _ (List.mem_cons_of_mem _ hw)) rfl rfl hdg kk
theorem gg_GF_firstPlaces (Fx : CallFix p m c cc nL s args (c0 :: wU) own) (hC : wH D (cT cy) (cW ad cy) A H0 s g f H locs) (hw : Cond.fieldLink own index "FretHands$GripFinder" "firstPlaces" "[I" ∈ wU) (hdg : decode cc pc = .ok (.getfield index, 3)) (kk : W p l e R s m args below meth c H locs 0 0 Q (F0 m (pc + 3) ls (.ref (ad 18) :: rest))) : W p l e R s m args below meth c H locs 0 0 Q (F0 m pc ls (.ref (ad 13) :: rest)) :=
  g_get Fx hC 13 rfl rfl (fun w h => List.mem_cons_of_mem _ (inX0 w h)) 7 (by decide) (Fx.2.2.2.2 _ (List.mem_cons_of_mem _ hw)) rfl rfl hdg kk
theorem gg_GF_pitches (Fx : CallFix p m c cc nL s args (c0 :: wU) own) (hC : wH D (cT cy) (cW ad cy) A H0 s g f H locs) (hw : Cond.fieldLink own index "FretHands$GripFinder" "pitches" "[I" ∈ wU) (hdg : decode cc pc = .ok (.getfield index, 3)) (kk : W p l e R s m args below meth c H locs 0 0 Q (F0 m (pc + 3) ls (.ref (ad 19) :: rest))) : W p l e R s m args below meth c H locs 0 0 Q (F0 m pc ls (.ref (ad 13) :: rest)) :=
  g_get Fx hC 13 rfl rfl (fun w h => List.mem_cons_of_mem _ (inX0 w h)) 8 (by decide) (Fx.2.2.2.2 _ (List.mem_cons_of_mem _ hw)) rfl rfl hdg kk
theorem gg_GF_bonds (Fx : CallFix p m c cc nL s args (c0 :: wU) own) (hC : wH D (cT cy) (cW ad cy) A H0 s g f H locs) (hw : Cond.fieldLink own index "FretHands$GripFinder" "bonds" "[I" ∈ wU) (hdg : decode cc pc = .ok (.getfield index, 3)) (kk : W p l e R s m args below meth c H locs 0 0 Q (F0 m (pc + 3) ls (.ref (ad 20) :: rest))) : W p l e R s m args below meth c H locs 0 0 Q (F0 m pc ls (.ref (ad 13) :: rest)) :=
  g_get Fx hC 13 rfl rfl (fun w h => List.mem_cons_of_mem _ (inX0 w h)) 9 (by decide) (Fx.2.2.2.2 _ (List.mem_cons_of_mem _ hw)) rfl rfl hdg kk
theorem gg_GF_frets (Fx : CallFix p m c cc nL s args (c0 :: wU) own) (hC : wH D (cT cy) (cW ad cy) A H0 s g f H locs) (hw : Cond.fieldLink own index "FretHands$GripFinder" "frets" "[I" ∈ wU) (hdg : decode cc pc = .ok (.getfield index, 3)) (kk : W p l e R s m args below meth c H locs 0 0 Q (F0 m (pc + 3) ls (.ref (ad 21) :: rest))) : W p l e R s m args below meth c H locs 0 0 Q (F0 m pc ls (.ref (ad 13) :: rest)) :=
  g_get Fx hC 13 rfl rfl (fun w h => List.mem_cons_of_mem _ (inX0 w h)) 10 (by decide) (Fx.2.2.2.2 _ (List.mem_cons_of_mem _ hw)) rfl rfl hdg kk
theorem gg_GF_size (Fx : CallFix p m c cc nL s args (c0 :: wU) own) (hC : wH D (cT cy) (cW ad cy) A H0 s g f H locs) (hw : Cond.fieldLink own index "FretHands$GripFinder" "size" "I" ∈ wU) (hdg : decode cc pc = .ok (.getfield index, 3)) (kk : W p l e R s m args below meth c H locs 0 0 Q (F0 m (pc + 3) ls (.int (g 5) :: rest))) : W p l e R s m args below meth c H locs 0 0 Q (F0 m pc ls (.ref (ad 13) :: rest)) :=
  g_get Fx hC 13 rfl rfl (fun w h => List.mem_cons_of_mem _ (inX0 w h)) 11 (by decide) (Fx.2.2.2.2 _ (List.mem_cons_of_mem _ hw)) rfl rfl hdg kk
theorem gp_GF_size (Fx : CallFix p m c cc nL s args (c0 :: wU) own) (hC : wH D (cT cy) (cW ad cy) A H0 s g f H locs) (hw : Cond.fieldLink own index "FretHands$GripFinder" "size" "I" ∈ wU) {v : Int32} {g1 : sG} (hg : g1 = upd g 5 v) (hdg : decode cc pc = .ok (.putfield index, 3)) (kk : ∀ (H : Heap) (locs : List Loc), wH D (cT cy) (cW ad cy) A H0 s g1 f H locs → W p l e R s m args below meth c H locs 0 0 Q (F0 m (pc + 3) ls rest)) : W p l e R s m args below meth c H locs 0 0 Q (F0 m pc ls (.int v :: .ref (ad 13) :: rest)) := by
  subst hg
  exact g_put (ty := .int) Fx hC 13 rfl rfl (fun w h => List.mem_cons_of_mem _ (inX0 w h)) tyX0 tyX0_ok nmX0 11 (by decide) (Fx.2.2.2.2 _ (List.mem_cons_of_mem _ hw)) rfl rfl rfl rfl rfl (Nat.le_of_ble_eq_true rfl) rfl hdg kk
theorem gg_GF_wantedPosition (Fx : CallFix p m c cc nL s args (c0 :: wU) own) (hC : wH D (cT cy) (cW ad cy) A H0 s g f H locs) (hw : Cond.fieldLink own index "FretHands$GripFinder" "wantedPosition" "I" ∈ wU) (hdg : decode cc pc = .ok (.getfield index, 3)) (kk : W p l e R s m args below meth c H locs 0 0 Q (F0 m (pc + 3) ls (.int (g 6) :: rest))) : W p l e R s m args below meth c H locs 0 0 Q (F0 m pc ls (.ref (ad 13) :: rest)) :=
  g_get Fx hC 13 rfl rfl (fun w h => List.mem_cons_of_mem _ (inX0 w h)) 12 (by decide) (Fx.2.2.2.2 _ (List.mem_cons_of_mem _ hw)) rfl rfl hdg kk
theorem gp_GF_wantedPosition (Fx : CallFix p m c cc nL s args (c0 :: wU) own) (hC : wH D (cT cy) (cW ad cy) A H0 s g f H locs) (hw : Cond.fieldLink own index "FretHands$GripFinder" "wantedPosition" "I" ∈ wU) {v : Int32} {g1 : sG} (hg : g1 = upd g 6 v) (hdg : decode cc pc = .ok (.putfield index, 3)) (kk : ∀ (H : Heap) (locs : List Loc), wH D (cT cy) (cW ad cy) A H0 s g1 f H locs → W p l e R s m args below meth c H locs 0 0 Q (F0 m (pc + 3) ls rest)) : W p l e R s m args below meth c H locs 0 0 Q (F0 m pc ls (.int v :: .ref (ad 13) :: rest)) := by
  subst hg
  exact g_put (ty := .int) Fx hC 13 rfl rfl (fun w h => List.mem_cons_of_mem _ (inX0 w h)) tyX0 tyX0_ok nmX0 12 (by decide) (Fx.2.2.2.2 _ (List.mem_cons_of_mem _ hw)) rfl rfl rfl rfl rfl (Nat.le_of_ble_eq_true rfl) rfl hdg kk
theorem gg_GF_wantedPlace (Fx : CallFix p m c cc nL s args (c0 :: wU) own) (hC : wH D (cT cy) (cW ad cy) A H0 s g f H locs) (hw : Cond.fieldLink own index "FretHands$GripFinder" "wantedPlace" "I" ∈ wU) (hdg : decode cc pc = .ok (.getfield index, 3)) (kk : W p l e R s m args below meth c H locs 0 0 Q (F0 m (pc + 3) ls (.int (g 7) :: rest))) : W p l e R s m args below meth c H locs 0 0 Q (F0 m pc ls (.ref (ad 13) :: rest)) :=
  g_get Fx hC 13 rfl rfl (fun w h => List.mem_cons_of_mem _ (inX0 w h)) 13 (by decide) (Fx.2.2.2.2 _ (List.mem_cons_of_mem _ hw)) rfl rfl hdg kk
theorem gp_GF_wantedPlace (Fx : CallFix p m c cc nL s args (c0 :: wU) own) (hC : wH D (cT cy) (cW ad cy) A H0 s g f H locs) (hw : Cond.fieldLink own index "FretHands$GripFinder" "wantedPlace" "I" ∈ wU) {v : Int32} {g1 : sG} (hg : g1 = upd g 7 v) (hdg : decode cc pc = .ok (.putfield index, 3)) (kk : ∀ (H : Heap) (locs : List Loc), wH D (cT cy) (cW ad cy) A H0 s g1 f H locs → W p l e R s m args below meth c H locs 0 0 Q (F0 m (pc + 3) ls rest)) : W p l e R s m args below meth c H locs 0 0 Q (F0 m pc ls (.int v :: .ref (ad 13) :: rest)) := by
  subst hg
  exact g_put (ty := .int) Fx hC 13 rfl rfl (fun w h => List.mem_cons_of_mem _ (inX0 w h)) tyX0 tyX0_ok nmX0 13 (by decide) (Fx.2.2.2.2 _ (List.mem_cons_of_mem _ hw)) rfl rfl rfl rfl rfl (Nat.le_of_ble_eq_true rfl) rfl hdg kk
theorem gg_GF_wantedStrings (Fx : CallFix p m c cc nL s args (c0 :: wU) own) (hC : wH D (cT cy) (cW ad cy) A H0 s g f H locs) (hw : Cond.fieldLink own index "FretHands$GripFinder" "wantedStrings" "I" ∈ wU) (hdg : decode cc pc = .ok (.getfield index, 3)) (kk : W p l e R s m args below meth c H locs 0 0 Q (F0 m (pc + 3) ls (.int (g 8) :: rest))) : W p l e R s m args below meth c H locs 0 0 Q (F0 m pc ls (.ref (ad 13) :: rest)) :=
  g_get Fx hC 13 rfl rfl (fun w h => List.mem_cons_of_mem _ (inX0 w h)) 14 (by decide) (Fx.2.2.2.2 _ (List.mem_cons_of_mem _ hw)) rfl rfl hdg kk
theorem gp_GF_wantedStrings (Fx : CallFix p m c cc nL s args (c0 :: wU) own) (hC : wH D (cT cy) (cW ad cy) A H0 s g f H locs) (hw : Cond.fieldLink own index "FretHands$GripFinder" "wantedStrings" "I" ∈ wU) {v : Int32} {g1 : sG} (hg : g1 = upd g 8 v) (hdg : decode cc pc = .ok (.putfield index, 3)) (kk : ∀ (H : Heap) (locs : List Loc), wH D (cT cy) (cW ad cy) A H0 s g1 f H locs → W p l e R s m args below meth c H locs 0 0 Q (F0 m (pc + 3) ls rest)) : W p l e R s m args below meth c H locs 0 0 Q (F0 m pc ls (.int v :: .ref (ad 13) :: rest)) := by
  subst hg
  exact g_put (ty := .int) Fx hC 13 rfl rfl (fun w h => List.mem_cons_of_mem _ (inX0 w h)) tyX0 tyX0_ok nmX0 14 (by decide) (Fx.2.2.2.2 _ (List.mem_cons_of_mem _ hw)) rfl rfl rfl rfl rfl (Nat.le_of_ble_eq_true rfl) rfl hdg kk
theorem gg_GF_wantedCost (Fx : CallFix p m c cc nL s args (c0 :: wU) own) (hC : wH D (cT cy) (cW ad cy) A H0 s g f H locs) (hw : Cond.fieldLink own index "FretHands$GripFinder" "wantedCost" "I" ∈ wU) (hdg : decode cc pc = .ok (.getfield index, 3)) (kk : W p l e R s m args below meth c H locs 0 0 Q (F0 m (pc + 3) ls (.int (g 9) :: rest))) : W p l e R s m args below meth c H locs 0 0 Q (F0 m pc ls (.ref (ad 13) :: rest)) :=
  g_get Fx hC 13 rfl rfl (fun w h => List.mem_cons_of_mem _ (inX0 w h)) 15 (by decide) (Fx.2.2.2.2 _ (List.mem_cons_of_mem _ hw)) rfl rfl hdg kk
theorem gp_GF_wantedCost (Fx : CallFix p m c cc nL s args (c0 :: wU) own) (hC : wH D (cT cy) (cW ad cy) A H0 s g f H locs) (hw : Cond.fieldLink own index "FretHands$GripFinder" "wantedCost" "I" ∈ wU) {v : Int32} {g1 : sG} (hg : g1 = upd g 9 v) (hdg : decode cc pc = .ok (.putfield index, 3)) (kk : ∀ (H : Heap) (locs : List Loc), wH D (cT cy) (cW ad cy) A H0 s g1 f H locs → W p l e R s m args below meth c H locs 0 0 Q (F0 m (pc + 3) ls rest)) : W p l e R s m args below meth c H locs 0 0 Q (F0 m pc ls (.int v :: .ref (ad 13) :: rest)) := by
  subst hg
  exact g_put (ty := .int) Fx hC 13 rfl rfl (fun w h => List.mem_cons_of_mem _ (inX0 w h)) tyX0 tyX0_ok nmX0 15 (by decide) (Fx.2.2.2.2 _ (List.mem_cons_of_mem _ hw)) rfl rfl rfl rfl rfl (Nat.le_of_ble_eq_true rfl) rfl hdg kk
theorem gg_Pr_instrument (Fx : CallFix p m c cc nL s args (c0 :: wU) own) (hC : wH D (cT cy) (cW ad cy) A H0 s g f H locs) (hw : Cond.fieldLink own index "FretHands$Planner" "instrument" "LFretHands$Instrument;" ∈ wU) (hdg : decode cc pc = .ok (.getfield index, 3)) (kk : W p l e R s m args below meth c H locs 0 0 Q (F0 m (pc + 3) ls (.ref (ad 2) :: rest))) : W p l e R s m args below meth c H locs 0 0 Q (F0 m pc ls (.ref (ad 22) :: rest)) :=
  g_get Fx hC 22 rfl rfl (fun w h => List.mem_cons_of_mem _ (inX3 w h)) 0 (by decide) (Fx.2.2.2.2 _ (List.mem_cons_of_mem _ hw)) rfl rfl hdg kk
theorem gg_Pr_weights (Fx : CallFix p m c cc nL s args (c0 :: wU) own) (hC : wH D (cT cy) (cW ad cy) A H0 s g f H locs) (hw : Cond.fieldLink own index "FretHands$Planner" "weights" "[I" ∈ wU) (hdg : decode cc pc = .ok (.getfield index, 3)) (kk : W p l e R s m args below meth c H locs 0 0 Q (F0 m (pc + 3) ls (.ref (ad 1) :: rest))) : W p l e R s m args below meth c H locs 0 0 Q (F0 m pc ls (.ref (ad 22) :: rest)) :=
  g_get Fx hC 22 rfl rfl (fun w h => List.mem_cons_of_mem _ (inX3 w h)) 1 (by decide) (Fx.2.2.2.2 _ (List.mem_cons_of_mem _ hw)) rfl rfl hdg kk
theorem gg_Pr_tune (Fx : CallFix p m c cc nL s args (c0 :: wU) own) (hC : wH D (cT cy) (cW ad cy) A H0 s g f H locs) (hw : Cond.fieldLink own index "FretHands$Planner" "tune" "LFretHands$Tune;" ∈ wU) (hdg : decode cc pc = .ok (.getfield index, 3)) (kk : W p l e R s m args below meth c H locs 0 0 Q (F0 m (pc + 3) ls (.ref (ad 4) :: rest))) : W p l e R s m args below meth c H locs 0 0 Q (F0 m pc ls (.ref (ad 22) :: rest)) :=
  g_get Fx hC 22 rfl rfl (fun w h => List.mem_cons_of_mem _ (inX3 w h)) 2 (by decide) (Fx.2.2.2.2 _ (List.mem_cons_of_mem _ hw)) rfl rfl hdg kk
theorem gg_Pr_finder (Fx : CallFix p m c cc nL s args (c0 :: wU) own) (hC : wH D (cT cy) (cW ad cy) A H0 s g f H locs) (hw : Cond.fieldLink own index "FretHands$Planner" "finder" "LFretHands$GripFinder;" ∈ wU) (hdg : decode cc pc = .ok (.getfield index, 3)) (kk : W p l e R s m args below meth c H locs 0 0 Q (F0 m (pc + 3) ls (.ref (ad 13) :: rest))) : W p l e R s m args below meth c H locs 0 0 Q (F0 m pc ls (.ref (ad 22) :: rest)) :=
  g_get Fx hC 22 rfl rfl (fun w h => List.mem_cons_of_mem _ (inX3 w h)) 3 (by decide) (Fx.2.2.2.2 _ (List.mem_cons_of_mem _ hw)) rfl rfl hdg kk
theorem gg_Pr_sums (Fx : CallFix p m c cc nL s args (c0 :: wU) own) (hC : wH D (cT cy) (cW ad cy) A H0 s g f H locs) (hw : Cond.fieldLink own index "FretHands$Planner" "sums" "[I" ∈ wU) (hdg : decode cc pc = .ok (.getfield index, 3)) (kk : W p l e R s m args below meth c H locs 0 0 Q (F0 m (pc + 3) ls (.ref (ad 23) :: rest))) : W p l e R s m args below meth c H locs 0 0 Q (F0 m pc ls (.ref (ad 22) :: rest)) :=
  g_get Fx hC 22 rfl rfl (fun w h => List.mem_cons_of_mem _ (inX3 w h)) 4 (by decide) (Fx.2.2.2.2 _ (List.mem_cons_of_mem _ hw)) rfl rfl hdg kk
theorem gg_Pr_ways (Fx : CallFix p m c cc nL s args (c0 :: wU) own) (hC : wH D (cT cy) (cW ad cy) A H0 s g f H locs) (hw : Cond.fieldLink own index "FretHands$Planner" "ways" "[I" ∈ wU) (hdg : decode cc pc = .ok (.getfield index, 3)) (kk : W p l e R s m args below meth c H locs 0 0 Q (F0 m (pc + 3) ls (.ref (ad 24) :: rest))) : W p l e R s m args below meth c H locs 0 0 Q (F0 m pc ls (.ref (ad 22) :: rest)) :=
  g_get Fx hC 22 rfl rfl (fun w h => List.mem_cons_of_mem _ (inX3 w h)) 5 (by decide) (Fx.2.2.2.2 _ (List.mem_cons_of_mem _ hw)) rfl rfl hdg kk
theorem gg_Pr_leastSum (Fx : CallFix p m c cc nL s args (c0 :: wU) own) (hC : wH D (cT cy) (cW ad cy) A H0 s g f H locs) (hw : Cond.fieldLink own index "FretHands$Planner" "leastSum" "I" ∈ wU) (hdg : decode cc pc = .ok (.getfield index, 3)) (kk : W p l e R s m args below meth c H locs 0 0 Q (F0 m (pc + 3) ls (.int (g 10) :: rest))) : W p l e R s m args below meth c H locs 0 0 Q (F0 m pc ls (.ref (ad 22) :: rest)) :=
  g_get Fx hC 22 rfl rfl (fun w h => List.mem_cons_of_mem _ (inX3 w h)) 6 (by decide) (Fx.2.2.2.2 _ (List.mem_cons_of_mem _ hw)) rfl rfl hdg kk
theorem gp_Pr_leastSum (Fx : CallFix p m c cc nL s args (c0 :: wU) own) (hC : wH D (cT cy) (cW ad cy) A H0 s g f H locs) (hw : Cond.fieldLink own index "FretHands$Planner" "leastSum" "I" ∈ wU) {v : Int32} {g1 : sG} (hg : g1 = upd g 10 v) (hdg : decode cc pc = .ok (.putfield index, 3)) (kk : ∀ (H : Heap) (locs : List Loc), wH D (cT cy) (cW ad cy) A H0 s g1 f H locs → W p l e R s m args below meth c H locs 0 0 Q (F0 m (pc + 3) ls rest)) : W p l e R s m args below meth c H locs 0 0 Q (F0 m pc ls (.int v :: .ref (ad 22) :: rest)) := by
  subst hg
  exact g_put (ty := .int) Fx hC 22 rfl rfl (fun w h => List.mem_cons_of_mem _ (inX3 w h)) tyX3 tyX3_ok nmX3 6 (by decide) (Fx.2.2.2.2 _ (List.mem_cons_of_mem _ hw)) rfl rfl rfl rfl rfl (Nat.le_of_ble_eq_true rfl) rfl hdg kk
theorem gg_Pr_leastWays (Fx : CallFix p m c cc nL s args (c0 :: wU) own) (hC : wH D (cT cy) (cW ad cy) A H0 s g f H locs) (hw : Cond.fieldLink own index "FretHands$Planner" "leastWays" "I" ∈ wU) (hdg : decode cc pc = .ok (.getfield index, 3)) (kk : W p l e R s m args below meth c H locs 0 0 Q (F0 m (pc + 3) ls (.int (g 11) :: rest))) : W p l e R s m args below meth c H locs 0 0 Q (F0 m pc ls (.ref (ad 22) :: rest)) :=
  g_get Fx hC 22 rfl rfl (fun w h => List.mem_cons_of_mem _ (inX3 w h)) 7 (by decide) (Fx.2.2.2.2 _ (List.mem_cons_of_mem _ hw)) rfl rfl hdg kk
theorem gp_Pr_leastWays (Fx : CallFix p m c cc nL s args (c0 :: wU) own) (hC : wH D (cT cy) (cW ad cy) A H0 s g f H locs) (hw : Cond.fieldLink own index "FretHands$Planner" "leastWays" "I" ∈ wU) {v : Int32} {g1 : sG} (hg : g1 = upd g 11 v) (hdg : decode cc pc = .ok (.putfield index, 3)) (kk : ∀ (H : Heap) (locs : List Loc), wH D (cT cy) (cW ad cy) A H0 s g1 f H locs → W p l e R s m args below meth c H locs 0 0 Q (F0 m (pc + 3) ls rest)) : W p l e R s m args below meth c H locs 0 0 Q (F0 m pc ls (.int v :: .ref (ad 22) :: rest)) := by
  subst hg
  exact g_put (ty := .int) Fx hC 22 rfl rfl (fun w h => List.mem_cons_of_mem _ (inX3 w h)) tyX3 tyX3_ok nmX3 7 (by decide) (Fx.2.2.2.2 _ (List.mem_cons_of_mem _ hw)) rfl rfl rfl rfl rfl (Nat.le_of_ble_eq_true rfl) rfl hdg kk
theorem gg_Ta_row (Fx : CallFix p m c cc nL s args (c0 :: wU) own) (hC : wH D (cT cy) (cW ad cy) A H0 s g f H locs) (hw : Cond.fieldLink own index "FretHands$Tape" "row" "[I" ∈ wU) (hdg : decode cc pc = .ok (.getfield index, 3)) (kk : W p l e R s m args below meth c H locs 0 0 Q (F0 m (pc + 3) ls (.ref (ad 26) :: rest))) : W p l e R s m args below meth c H locs 0 0 Q (F0 m pc ls (.ref (ad 25) :: rest)) :=
  g_get Fx hC 25 rfl rfl (fun w h => List.mem_cons_of_mem _ (inX7 w h)) 0 (by decide) (Fx.2.2.2.2 _ (List.mem_cons_of_mem _ hw)) rfl rfl hdg kk
theorem gg_Ta_size (Fx : CallFix p m c cc nL s args (c0 :: wU) own) (hC : wH D (cT cy) (cW ad cy) A H0 s g f H locs) (hw : Cond.fieldLink own index "FretHands$Tape" "size" "I" ∈ wU) (hdg : decode cc pc = .ok (.getfield index, 3)) (kk : W p l e R s m args below meth c H locs 0 0 Q (F0 m (pc + 3) ls (.int (g 12) :: rest))) : W p l e R s m args below meth c H locs 0 0 Q (F0 m pc ls (.ref (ad 25) :: rest)) :=
  g_get Fx hC 25 rfl rfl (fun w h => List.mem_cons_of_mem _ (inX7 w h)) 1 (by decide) (Fx.2.2.2.2 _ (List.mem_cons_of_mem _ hw)) rfl rfl hdg kk
theorem gp_Ta_size (Fx : CallFix p m c cc nL s args (c0 :: wU) own) (hC : wH D (cT cy) (cW ad cy) A H0 s g f H locs) (hw : Cond.fieldLink own index "FretHands$Tape" "size" "I" ∈ wU) {v : Int32} {g1 : sG} (hg : g1 = upd g 12 v) (hdg : decode cc pc = .ok (.putfield index, 3)) (kk : ∀ (H : Heap) (locs : List Loc), wH D (cT cy) (cW ad cy) A H0 s g1 f H locs → W p l e R s m args below meth c H locs 0 0 Q (F0 m (pc + 3) ls rest)) : W p l e R s m args below meth c H locs 0 0 Q (F0 m pc ls (.int v :: .ref (ad 25) :: rest)) := by
  subst hg
  exact g_put (ty := .int) Fx hC 25 rfl rfl (fun w h => List.mem_cons_of_mem _ (inX7 w h)) tyX7 tyX7_ok nmX7 1 (by decide) (Fx.2.2.2.2 _ (List.mem_cons_of_mem _ hw)) rfl rfl rfl rfl rfl (Nat.le_of_ble_eq_true rfl) rfl hdg kk
theorem gg_TW_instrument (Fx : CallFix p m c cc nL s args (c0 :: wU) own) (hC : wH D (cT cy) (cW ad cy) A H0 s g f H locs) (hw : Cond.fieldLink own index "FretHands$TabWriter" "instrument" "LFretHands$Instrument;" ∈ wU) (hdg : decode cc pc = .ok (.getfield index, 3)) (kk : W p l e R s m args below meth c H locs 0 0 Q (F0 m (pc + 3) ls (.ref (ad 2) :: rest))) : W p l e R s m args below meth c H locs 0 0 Q (F0 m pc ls (.ref (ad 27) :: rest)) :=
  g_get Fx hC 27 rfl rfl (fun w h => List.mem_cons_of_mem _ (inX6 w h)) 0 (by decide) (Fx.2.2.2.2 _ (List.mem_cons_of_mem _ hw)) rfl rfl hdg kk
theorem gg_TW_tune (Fx : CallFix p m c cc nL s args (c0 :: wU) own) (hC : wH D (cT cy) (cW ad cy) A H0 s g f H locs) (hw : Cond.fieldLink own index "FretHands$TabWriter" "tune" "LFretHands$Tune;" ∈ wU) (hdg : decode cc pc = .ok (.getfield index, 3)) (kk : W p l e R s m args below meth c H locs 0 0 Q (F0 m (pc + 3) ls (.ref (ad 4) :: rest))) : W p l e R s m args below meth c H locs 0 0 Q (F0 m pc ls (.ref (ad 27) :: rest)) :=
  g_get Fx hC 27 rfl rfl (fun w h => List.mem_cons_of_mem _ (inX6 w h)) 1 (by decide) (Fx.2.2.2.2 _ (List.mem_cons_of_mem _ hw)) rfl rfl hdg kk
theorem gg_TW_plan (Fx : CallFix p m c cc nL s args (c0 :: wU) own) (hC : wH D (cT cy) (cW ad cy) A H0 s g f H locs) (hw : Cond.fieldLink own index "FretHands$TabWriter" "plan" "LFretHands$Plan;" ∈ wU) (hdg : decode cc pc = .ok (.getfield index, 3)) (kk : W p l e R s m args below meth c H locs 0 0 Q (F0 m (pc + 3) ls (.ref (ad 8) :: rest))) : W p l e R s m args below meth c H locs 0 0 Q (F0 m pc ls (.ref (ad 27) :: rest)) :=
  g_get Fx hC 27 rfl rfl (fun w h => List.mem_cons_of_mem _ (inX6 w h)) 2 (by decide) (Fx.2.2.2.2 _ (List.mem_cons_of_mem _ hw)) rfl rfl hdg kk
theorem gg_TW_tape (Fx : CallFix p m c cc nL s args (c0 :: wU) own) (hC : wH D (cT cy) (cW ad cy) A H0 s g f H locs) (hw : Cond.fieldLink own index "FretHands$TabWriter" "tape" "LFretHands$Tape;" ∈ wU) (hdg : decode cc pc = .ok (.getfield index, 3)) (kk : W p l e R s m args below meth c H locs 0 0 Q (F0 m (pc + 3) ls (.ref (ad 25) :: rest))) : W p l e R s m args below meth c H locs 0 0 Q (F0 m pc ls (.ref (ad 27) :: rest)) :=
  g_get Fx hC 27 rfl rfl (fun w h => List.mem_cons_of_mem _ (inX6 w h)) 3 (by decide) (Fx.2.2.2.2 _ (List.mem_cons_of_mem _ hw)) rfl rfl hdg kk
theorem gg_TW_widths (Fx : CallFix p m c cc nL s args (c0 :: wU) own) (hC : wH D (cT cy) (cW ad cy) A H0 s g f H locs) (hw : Cond.fieldLink own index "FretHands$TabWriter" "widths" "[I" ∈ wU) (hdg : decode cc pc = .ok (.getfield index, 3)) (kk : W p l e R s m args below meth c H locs 0 0 Q (F0 m (pc + 3) ls (.ref (ad 28) :: rest))) : W p l e R s m args below meth c H locs 0 0 Q (F0 m pc ls (.ref (ad 27) :: rest)) :=
  g_get Fx hC 27 rfl rfl (fun w h => List.mem_cons_of_mem _ (inX6 w h)) 4 (by decide) (Fx.2.2.2.2 _ (List.mem_cons_of_mem _ hw)) rfl rfl hdg kk
theorem gg_TR_instrument (Fx : CallFix p m c cc nL s args (c0 :: wU) own) (hC : wH D (cT cy) (cW ad cy) A H0 s g f H locs) (hw : Cond.fieldLink own index "FretHands$TabReader" "instrument" "LFretHands$Instrument;" ∈ wU) (hdg : decode cc pc = .ok (.getfield index, 3)) (kk : W p l e R s m args below meth c H locs 0 0 Q (F0 m (pc + 3) ls (.ref (ad 2) :: rest))) : W p l e R s m args below meth c H locs 0 0 Q (F0 m pc ls (.ref (ad 29) :: rest)) :=
  g_get Fx hC 29 rfl rfl (fun w h => List.mem_cons_of_mem _ (inX5 w h)) 0 (by decide) (Fx.2.2.2.2 _ (List.mem_cons_of_mem _ hw)) rfl rfl hdg kk
theorem gg_TR_tune (Fx : CallFix p m c cc nL s args (c0 :: wU) own) (hC : wH D (cT cy) (cW ad cy) A H0 s g f H locs) (hw : Cond.fieldLink own index "FretHands$TabReader" "tune" "LFretHands$Tune;" ∈ wU) (hdg : decode cc pc = .ok (.getfield index, 3)) (kk : W p l e R s m args below meth c H locs 0 0 Q (F0 m (pc + 3) ls (.ref (ad 4) :: rest))) : W p l e R s m args below meth c H locs 0 0 Q (F0 m pc ls (.ref (ad 29) :: rest)) :=
  g_get Fx hC 29 rfl rfl (fun w h => List.mem_cons_of_mem _ (inX5 w h)) 1 (by decide) (Fx.2.2.2.2 _ (List.mem_cons_of_mem _ hw)) rfl rfl hdg kk
theorem gg_TR_tape (Fx : CallFix p m c cc nL s args (c0 :: wU) own) (hC : wH D (cT cy) (cW ad cy) A H0 s g f H locs) (hw : Cond.fieldLink own index "FretHands$TabReader" "tape" "LFretHands$Tape;" ∈ wU) (hdg : decode cc pc = .ok (.getfield index, 3)) (kk : W p l e R s m args below meth c H locs 0 0 Q (F0 m (pc + 3) ls (.ref (ad 25) :: rest))) : W p l e R s m args below meth c H locs 0 0 Q (F0 m pc ls (.ref (ad 29) :: rest)) :=
  g_get Fx hC 29 rfl rfl (fun w h => List.mem_cons_of_mem _ (inX5 w h)) 2 (by decide) (Fx.2.2.2.2 _ (List.mem_cons_of_mem _ hw)) rfl rfl hdg kk
theorem gg_TR_lineLength (Fx : CallFix p m c cc nL s args (c0 :: wU) own) (hC : wH D (cT cy) (cW ad cy) A H0 s g f H locs) (hw : Cond.fieldLink own index "FretHands$TabReader" "lineLength" "I" ∈ wU) (hdg : decode cc pc = .ok (.getfield index, 3)) (kk : W p l e R s m args below meth c H locs 0 0 Q (F0 m (pc + 3) ls (.int (g 13) :: rest))) : W p l e R s m args below meth c H locs 0 0 Q (F0 m pc ls (.ref (ad 29) :: rest)) :=
  g_get Fx hC 29 rfl rfl (fun w h => List.mem_cons_of_mem _ (inX5 w h)) 3 (by decide) (Fx.2.2.2.2 _ (List.mem_cons_of_mem _ hw)) rfl rfl hdg kk
theorem gp_TR_lineLength (Fx : CallFix p m c cc nL s args (c0 :: wU) own) (hC : wH D (cT cy) (cW ad cy) A H0 s g f H locs) (hw : Cond.fieldLink own index "FretHands$TabReader" "lineLength" "I" ∈ wU) {v : Int32} {g1 : sG} (hg : g1 = upd g 13 v) (hdg : decode cc pc = .ok (.putfield index, 3)) (kk : ∀ (H : Heap) (locs : List Loc), wH D (cT cy) (cW ad cy) A H0 s g1 f H locs → W p l e R s m args below meth c H locs 0 0 Q (F0 m (pc + 3) ls rest)) : W p l e R s m args below meth c H locs 0 0 Q (F0 m pc ls (.int v :: .ref (ad 29) :: rest)) := by
  subst hg
  exact g_put (ty := .int) Fx hC 29 rfl rfl (fun w h => List.mem_cons_of_mem _ (inX5 w h)) tyX5 tyX5_ok nmX5 3 (by decide) (Fx.2.2.2.2 _ (List.mem_cons_of_mem _ hw)) rfl rfl rfl rfl rfl (Nat.le_of_ble_eq_true rfl) rfl hdg kk
theorem gg_TR_columnPitches (Fx : CallFix p m c cc nL s args (c0 :: wU) own) (hC : wH D (cT cy) (cW ad cy) A H0 s g f H locs) (hw : Cond.fieldLink own index "FretHands$TabReader" "columnPitches" "[I" ∈ wU) (hdg : decode cc pc = .ok (.getfield index, 3)) (kk : W p l e R s m args below meth c H locs 0 0 Q (F0 m (pc + 3) ls (.ref (ad 30) :: rest))) : W p l e R s m args below meth c H locs 0 0 Q (F0 m pc ls (.ref (ad 29) :: rest)) :=
  g_get Fx hC 29 rfl rfl (fun w h => List.mem_cons_of_mem _ (inX5 w h)) 4 (by decide) (Fx.2.2.2.2 _ (List.mem_cons_of_mem _ hw)) rfl rfl hdg kk
theorem gg_TR_faultPlace (Fx : CallFix p m c cc nL s args (c0 :: wU) own) (hC : wH D (cT cy) (cW ad cy) A H0 s g f H locs) (hw : Cond.fieldLink own index "FretHands$TabReader" "faultPlace" "I" ∈ wU) (hdg : decode cc pc = .ok (.getfield index, 3)) (kk : W p l e R s m args below meth c H locs 0 0 Q (F0 m (pc + 3) ls (.int (g 14) :: rest))) : W p l e R s m args below meth c H locs 0 0 Q (F0 m pc ls (.ref (ad 29) :: rest)) :=
  g_get Fx hC 29 rfl rfl (fun w h => List.mem_cons_of_mem _ (inX5 w h)) 5 (by decide) (Fx.2.2.2.2 _ (List.mem_cons_of_mem _ hw)) rfl rfl hdg kk
theorem gp_TR_faultPlace (Fx : CallFix p m c cc nL s args (c0 :: wU) own) (hC : wH D (cT cy) (cW ad cy) A H0 s g f H locs) (hw : Cond.fieldLink own index "FretHands$TabReader" "faultPlace" "I" ∈ wU) {v : Int32} {g1 : sG} (hg : g1 = upd g 14 v) (hdg : decode cc pc = .ok (.putfield index, 3)) (kk : ∀ (H : Heap) (locs : List Loc), wH D (cT cy) (cW ad cy) A H0 s g1 f H locs → W p l e R s m args below meth c H locs 0 0 Q (F0 m (pc + 3) ls rest)) : W p l e R s m args below meth c H locs 0 0 Q (F0 m pc ls (.int v :: .ref (ad 29) :: rest)) := by
  subst hg
  exact g_put (ty := .int) Fx hC 29 rfl rfl (fun w h => List.mem_cons_of_mem _ (inX5 w h)) tyX5 tyX5_ok nmX5 5 (by decide) (Fx.2.2.2.2 _ (List.mem_cons_of_mem _ hw)) rfl rfl rfl rfl rfl (Nat.le_of_ble_eq_true rfl) rfl hdg kk
theorem ld_FH_weights (Fx : CallFix p m c cc nL s args (c0 :: wU) own) (hC : wH D (cT cy) (cW ad cy) A H0 s g f H locs) {i : Int32} (hi : ¬ (i < 0 ∨ 4 ≤ i.toNatClampNeg)) (hdg : decode cc pc = .ok (.iaload, 1)) (kk : W p l e R s m args below meth c H locs 0 0 Q (F0 m (pc + 1) ls (.int (f 0 i.toNatClampNeg) :: rest))) : W p l e R s m args below meth c H locs 0 0 Q (F0 m pc ls (.int i :: .ref (ad 1) :: rest)) :=
  g_ld Fx hC 1 0 rfl rfl hi hdg kk
theorem st_FH_weights (Fx : CallFix p m c cc nL s args (c0 :: wU) own) (hC : wH D (cT cy) (cW ad cy) A H0 s g f H locs) {i x : Int32} (hi : ¬ (i < 0 ∨ 4 ≤ i.toNatClampNeg)) {f1 : sF} (hf : f1 = up2 f 0 i.toNatClampNeg x) (hdg : decode cc pc = .ok (.iastore, 1)) (kk : ∀ (H : Heap) (locs : List Loc), wH D (cT cy) (cW ad cy) A H0 s g f1 H locs → W p l e R s m args below meth c H locs 0 0 Q (F0 m (pc + 1) ls rest)) : W p l e R s m args below meth c H locs 0 0 Q (F0 m pc ls (.int x :: .int i :: .ref (ad 1) :: rest)) := by
  subst hf
  exact g_st Fx hC 1 0 rfl rfl hi rfl hdg kk
theorem ld_In_openPitches (Fx : CallFix p m c cc nL s args (c0 :: wU) own) (hC : wH D (cT cy) (cW ad cy) A H0 s g f H locs) {i : Int32} (hi : ¬ (i < 0 ∨ 7 ≤ i.toNatClampNeg)) (hdg : decode cc pc = .ok (.iaload, 1)) (kk : W p l e R s m args below meth c H locs 0 0 Q (F0 m (pc + 1) ls (.int (f 1 i.toNatClampNeg) :: rest))) : W p l e R s m args below meth c H locs 0 0 Q (F0 m pc ls (.int i :: .ref (ad 3) :: rest)) :=
  g_ld Fx hC 3 1 rfl rfl hi hdg kk
theorem st_In_openPitches (Fx : CallFix p m c cc nL s args (c0 :: wU) own) (hC : wH D (cT cy) (cW ad cy) A H0 s g f H locs) {i x : Int32} (hi : ¬ (i < 0 ∨ 7 ≤ i.toNatClampNeg)) {f1 : sF} (hf : f1 = up2 f 1 i.toNatClampNeg x) (hdg : decode cc pc = .ok (.iastore, 1)) (kk : ∀ (H : Heap) (locs : List Loc), wH D (cT cy) (cW ad cy) A H0 s g f1 H locs → W p l e R s m args below meth c H locs 0 0 Q (F0 m (pc + 1) ls rest)) : W p l e R s m args below meth c H locs 0 0 Q (F0 m pc ls (.int x :: .int i :: .ref (ad 3) :: rest)) := by
  subst hf
  exact g_st Fx hC 3 1 rfl rfl hi rfl hdg kk
theorem ld_Tu_sizes (Fx : CallFix p m c cc nL s args (c0 :: wU) own) (hC : wH D (cT cy) (cW ad cy) A H0 s g f H locs) {i : Int32} (hi : ¬ (i < 0 ∨ 40 ≤ i.toNatClampNeg)) (hdg : decode cc pc = .ok (.iaload, 1)) (kk : W p l e R s m args below meth c H locs 0 0 Q (F0 m (pc + 1) ls (.int (f 2 i.toNatClampNeg) :: rest))) : W p l e R s m args below meth c H locs 0 0 Q (F0 m pc ls (.int i :: .ref (ad 5) :: rest)) :=
  g_ld Fx hC 5 2 rfl rfl hi hdg kk
theorem st_Tu_sizes (Fx : CallFix p m c cc nL s args (c0 :: wU) own) (hC : wH D (cT cy) (cW ad cy) A H0 s g f H locs) {i x : Int32} (hi : ¬ (i < 0 ∨ 40 ≤ i.toNatClampNeg)) {f1 : sF} (hf : f1 = up2 f 2 i.toNatClampNeg x) (hdg : decode cc pc = .ok (.iastore, 1)) (kk : ∀ (H : Heap) (locs : List Loc), wH D (cT cy) (cW ad cy) A H0 s g f1 H locs → W p l e R s m args below meth c H locs 0 0 Q (F0 m (pc + 1) ls rest)) : W p l e R s m args below meth c H locs 0 0 Q (F0 m pc ls (.int x :: .int i :: .ref (ad 5) :: rest)) := by
  subst hf
  exact g_st Fx hC 5 2 rfl rfl hi rfl hdg kk
theorem ld_Tu_pitches (Fx : CallFix p m c cc nL s args (c0 :: wU) own) (hC : wH D (cT cy) (cW ad cy) A H0 s g f H locs) {i : Int32} (hi : ¬ (i < 0 ∨ 160 ≤ i.toNatClampNeg)) (hdg : decode cc pc = .ok (.iaload, 1)) (kk : W p l e R s m args below meth c H locs 0 0 Q (F0 m (pc + 1) ls (.int (f 3 i.toNatClampNeg) :: rest))) : W p l e R s m args below meth c H locs 0 0 Q (F0 m pc ls (.int i :: .ref (ad 6) :: rest)) :=
  g_ld Fx hC 6 3 rfl rfl hi hdg kk
theorem st_Tu_pitches (Fx : CallFix p m c cc nL s args (c0 :: wU) own) (hC : wH D (cT cy) (cW ad cy) A H0 s g f H locs) {i x : Int32} (hi : ¬ (i < 0 ∨ 160 ≤ i.toNatClampNeg)) {f1 : sF} (hf : f1 = up2 f 3 i.toNatClampNeg x) (hdg : decode cc pc = .ok (.iastore, 1)) (kk : ∀ (H : Heap) (locs : List Loc), wH D (cT cy) (cW ad cy) A H0 s g f1 H locs → W p l e R s m args below meth c H locs 0 0 Q (F0 m (pc + 1) ls rest)) : W p l e R s m args below meth c H locs 0 0 Q (F0 m pc ls (.int x :: .int i :: .ref (ad 6) :: rest)) := by
  subst hf
  exact g_st Fx hC 6 3 rfl rfl hi rfl hdg kk
theorem ld_Tu_bonds (Fx : CallFix p m c cc nL s args (c0 :: wU) own) (hC : wH D (cT cy) (cW ad cy) A H0 s g f H locs) {i : Int32} (hi : ¬ (i < 0 ∨ 160 ≤ i.toNatClampNeg)) (hdg : decode cc pc = .ok (.iaload, 1)) (kk : W p l e R s m args below meth c H locs 0 0 Q (F0 m (pc + 1) ls (.int (f 4 i.toNatClampNeg) :: rest))) : W p l e R s m args below meth c H locs 0 0 Q (F0 m pc ls (.int i :: .ref (ad 7) :: rest)) :=
  g_ld Fx hC 7 4 rfl rfl hi hdg kk
theorem st_Tu_bonds (Fx : CallFix p m c cc nL s args (c0 :: wU) own) (hC : wH D (cT cy) (cW ad cy) A H0 s g f H locs) {i x : Int32} (hi : ¬ (i < 0 ∨ 160 ≤ i.toNatClampNeg)) {f1 : sF} (hf : f1 = up2 f 4 i.toNatClampNeg x) (hdg : decode cc pc = .ok (.iastore, 1)) (kk : ∀ (H : Heap) (locs : List Loc), wH D (cT cy) (cW ad cy) A H0 s g f1 H locs → W p l e R s m args below meth c H locs 0 0 Q (F0 m (pc + 1) ls rest)) : W p l e R s m args below meth c H locs 0 0 Q (F0 m pc ls (.int x :: .int i :: .ref (ad 7) :: rest)) := by
  subst hf
  exact g_st Fx hC 7 4 rfl rfl hi rfl hdg kk
theorem ld_Pl_positions (Fx : CallFix p m c cc nL s args (c0 :: wU) own) (hC : wH D (cT cy) (cW ad cy) A H0 s g f H locs) {i : Int32} (hi : ¬ (i < 0 ∨ 40 ≤ i.toNatClampNeg)) (hdg : decode cc pc = .ok (.iaload, 1)) (kk : W p l e R s m args below meth c H locs 0 0 Q (F0 m (pc + 1) ls (.int (f 5 i.toNatClampNeg) :: rest))) : W p l e R s m args below meth c H locs 0 0 Q (F0 m pc ls (.int i :: .ref (ad 9) :: rest)) :=
  g_ld Fx hC 9 5 rfl rfl hi hdg kk
theorem st_Pl_positions (Fx : CallFix p m c cc nL s args (c0 :: wU) own) (hC : wH D (cT cy) (cW ad cy) A H0 s g f H locs) {i x : Int32} (hi : ¬ (i < 0 ∨ 40 ≤ i.toNatClampNeg)) {f1 : sF} (hf : f1 = up2 f 5 i.toNatClampNeg x) (hdg : decode cc pc = .ok (.iastore, 1)) (kk : ∀ (H : Heap) (locs : List Loc), wH D (cT cy) (cW ad cy) A H0 s g f1 H locs → W p l e R s m args below meth c H locs 0 0 Q (F0 m (pc + 1) ls rest)) : W p l e R s m args below meth c H locs 0 0 Q (F0 m pc ls (.int x :: .int i :: .ref (ad 9) :: rest)) := by
  subst hf
  exact g_st Fx hC 9 5 rfl rfl hi rfl hdg kk
theorem ld_Pl_strings (Fx : CallFix p m c cc nL s args (c0 :: wU) own) (hC : wH D (cT cy) (cW ad cy) A H0 s g f H locs) {i : Int32} (hi : ¬ (i < 0 ∨ 40 ≤ i.toNatClampNeg)) (hdg : decode cc pc = .ok (.iaload, 1)) (kk : W p l e R s m args below meth c H locs 0 0 Q (F0 m (pc + 1) ls (.int (f 6 i.toNatClampNeg) :: rest))) : W p l e R s m args below meth c H locs 0 0 Q (F0 m pc ls (.int i :: .ref (ad 10) :: rest)) :=
  g_ld Fx hC 10 6 rfl rfl hi hdg kk
theorem st_Pl_strings (Fx : CallFix p m c cc nL s args (c0 :: wU) own) (hC : wH D (cT cy) (cW ad cy) A H0 s g f H locs) {i x : Int32} (hi : ¬ (i < 0 ∨ 40 ≤ i.toNatClampNeg)) {f1 : sF} (hf : f1 = up2 f 6 i.toNatClampNeg x) (hdg : decode cc pc = .ok (.iastore, 1)) (kk : ∀ (H : Heap) (locs : List Loc), wH D (cT cy) (cW ad cy) A H0 s g f1 H locs → W p l e R s m args below meth c H locs 0 0 Q (F0 m (pc + 1) ls rest)) : W p l e R s m args below meth c H locs 0 0 Q (F0 m pc ls (.int x :: .int i :: .ref (ad 10) :: rest)) := by
  subst hf
  exact g_st Fx hC 10 6 rfl rfl hi rfl hdg kk
theorem ld_Pl_costs (Fx : CallFix p m c cc nL s args (c0 :: wU) own) (hC : wH D (cT cy) (cW ad cy) A H0 s g f H locs) {i : Int32} (hi : ¬ (i < 0 ∨ 40 ≤ i.toNatClampNeg)) (hdg : decode cc pc = .ok (.iaload, 1)) (kk : W p l e R s m args below meth c H locs 0 0 Q (F0 m (pc + 1) ls (.int (f 7 i.toNatClampNeg) :: rest))) : W p l e R s m args below meth c H locs 0 0 Q (F0 m pc ls (.int i :: .ref (ad 11) :: rest)) :=
  g_ld Fx hC 11 7 rfl rfl hi hdg kk
theorem st_Pl_costs (Fx : CallFix p m c cc nL s args (c0 :: wU) own) (hC : wH D (cT cy) (cW ad cy) A H0 s g f H locs) {i x : Int32} (hi : ¬ (i < 0 ∨ 40 ≤ i.toNatClampNeg)) {f1 : sF} (hf : f1 = up2 f 7 i.toNatClampNeg x) (hdg : decode cc pc = .ok (.iastore, 1)) (kk : ∀ (H : Heap) (locs : List Loc), wH D (cT cy) (cW ad cy) A H0 s g f1 H locs → W p l e R s m args below meth c H locs 0 0 Q (F0 m (pc + 1) ls rest)) : W p l e R s m args below meth c H locs 0 0 Q (F0 m pc ls (.int x :: .int i :: .ref (ad 11) :: rest)) := by
  subst hf
  exact g_st Fx hC 11 7 rfl rfl hi rfl hdg kk
theorem ld_Pl_numbers (Fx : CallFix p m c cc nL s args (c0 :: wU) own) (hC : wH D (cT cy) (cW ad cy) A H0 s g f H locs) {i : Int32} (hi : ¬ (i < 0 ∨ 40 ≤ i.toNatClampNeg)) (hdg : decode cc pc = .ok (.iaload, 1)) (kk : W p l e R s m args below meth c H locs 0 0 Q (F0 m (pc + 1) ls (.int (f 8 i.toNatClampNeg) :: rest))) : W p l e R s m args below meth c H locs 0 0 Q (F0 m pc ls (.int i :: .ref (ad 12) :: rest)) :=
  g_ld Fx hC 12 8 rfl rfl hi hdg kk
theorem st_Pl_numbers (Fx : CallFix p m c cc nL s args (c0 :: wU) own) (hC : wH D (cT cy) (cW ad cy) A H0 s g f H locs) {i x : Int32} (hi : ¬ (i < 0 ∨ 40 ≤ i.toNatClampNeg)) {f1 : sF} (hf : f1 = up2 f 8 i.toNatClampNeg x) (hdg : decode cc pc = .ok (.iastore, 1)) (kk : ∀ (H : Heap) (locs : List Loc), wH D (cT cy) (cW ad cy) A H0 s g f1 H locs → W p l e R s m args below meth c H locs 0 0 Q (F0 m (pc + 1) ls rest)) : W p l e R s m args below meth c H locs 0 0 Q (F0 m pc ls (.int x :: .int i :: .ref (ad 12) :: rest)) := by
  subst hf
  exact g_st Fx hC 12 8 rfl rfl hi rfl hdg kk
theorem ld_GF_counts (Fx : CallFix p m c cc nL s args (c0 :: wU) own) (hC : wH D (cT cy) (cW ad cy) A H0 s g f H locs) {i : Int32} (hi : ¬ (i < 0 ∨ 25 ≤ i.toNatClampNeg)) (hdg : decode cc pc = .ok (.iaload, 1)) (kk : W p l e R s m args below meth c H locs 0 0 Q (F0 m (pc + 1) ls (.int (f 9 i.toNatClampNeg) :: rest))) : W p l e R s m args below meth c H locs 0 0 Q (F0 m pc ls (.int i :: .ref (ad 14) :: rest)) :=
  g_ld Fx hC 14 9 rfl rfl hi hdg kk
theorem st_GF_counts (Fx : CallFix p m c cc nL s args (c0 :: wU) own) (hC : wH D (cT cy) (cW ad cy) A H0 s g f H locs) {i x : Int32} (hi : ¬ (i < 0 ∨ 25 ≤ i.toNatClampNeg)) {f1 : sF} (hf : f1 = up2 f 9 i.toNatClampNeg x) (hdg : decode cc pc = .ok (.iastore, 1)) (kk : ∀ (H : Heap) (locs : List Loc), wH D (cT cy) (cW ad cy) A H0 s g f1 H locs → W p l e R s m args below meth c H locs 0 0 Q (F0 m (pc + 1) ls rest)) : W p l e R s m args below meth c H locs 0 0 Q (F0 m pc ls (.int x :: .int i :: .ref (ad 14) :: rest)) := by
  subst hf
  exact g_st Fx hC 14 9 rfl rfl hi rfl hdg kk
theorem ld_GF_leastCosts (Fx : CallFix p m c cc nL s args (c0 :: wU) own) (hC : wH D (cT cy) (cW ad cy) A H0 s g f H locs) {i : Int32} (hi : ¬ (i < 0 ∨ 25 ≤ i.toNatClampNeg)) (hdg : decode cc pc = .ok (.iaload, 1)) (kk : W p l e R s m args below meth c H locs 0 0 Q (F0 m (pc + 1) ls (.int (f 10 i.toNatClampNeg) :: rest))) : W p l e R s m args below meth c H locs 0 0 Q (F0 m pc ls (.int i :: .ref (ad 15) :: rest)) :=
  g_ld Fx hC 15 10 rfl rfl hi hdg kk
theorem st_GF_leastCosts (Fx : CallFix p m c cc nL s args (c0 :: wU) own) (hC : wH D (cT cy) (cW ad cy) A H0 s g f H locs) {i x : Int32} (hi : ¬ (i < 0 ∨ 25 ≤ i.toNatClampNeg)) {f1 : sF} (hf : f1 = up2 f 10 i.toNatClampNeg x) (hdg : decode cc pc = .ok (.iastore, 1)) (kk : ∀ (H : Heap) (locs : List Loc), wH D (cT cy) (cW ad cy) A H0 s g f1 H locs → W p l e R s m args below meth c H locs 0 0 Q (F0 m (pc + 1) ls rest)) : W p l e R s m args below meth c H locs 0 0 Q (F0 m pc ls (.int x :: .int i :: .ref (ad 15) :: rest)) := by
  subst hf
  exact g_st Fx hC 15 10 rfl rfl hi rfl hdg kk
theorem ld_GF_leastCounts (Fx : CallFix p m c cc nL s args (c0 :: wU) own) (hC : wH D (cT cy) (cW ad cy) A H0 s g f H locs) {i : Int32} (hi : ¬ (i < 0 ∨ 25 ≤ i.toNatClampNeg)) (hdg : decode cc pc = .ok (.iaload, 1)) (kk : W p l e R s m args below meth c H locs 0 0 Q (F0 m (pc + 1) ls (.int (f 11 i.toNatClampNeg) :: rest))) : W p l e R s m args below meth c H locs 0 0 Q (F0 m pc ls (.int i :: .ref (ad 16) :: rest)) :=
  g_ld Fx hC 16 11 rfl rfl hi hdg kk
theorem st_GF_leastCounts (Fx : CallFix p m c cc nL s args (c0 :: wU) own) (hC : wH D (cT cy) (cW ad cy) A H0 s g f H locs) {i x : Int32} (hi : ¬ (i < 0 ∨ 25 ≤ i.toNatClampNeg)) {f1 : sF} (hf : f1 = up2 f 11 i.toNatClampNeg x) (hdg : decode cc pc = .ok (.iastore, 1)) (kk : ∀ (H : Heap) (locs : List Loc), wH D (cT cy) (cW ad cy) A H0 s g f1 H locs → W p l e R s m args below meth c H locs 0 0 Q (F0 m (pc + 1) ls rest)) : W p l e R s m args below meth c H locs 0 0 Q (F0 m pc ls (.int x :: .int i :: .ref (ad 16) :: rest)) := by
  subst hf
  exact g_st Fx hC 16 11 rfl rfl hi rfl hdg kk
theorem ld_GF_firstStrings (Fx : CallFix p m c cc nL s args (c0 :: wU) own) (hC : wH D (cT cy) (cW ad cy) A H0 s g f H locs) {i : Int32} (hi : ¬ (i < 0 ∨ 25 ≤ i.toNatClampNeg)) (hdg : decode cc pc = .ok (.iaload, 1)) (kk : W p l e R s m args below meth c H locs 0 0 Q (F0 m (pc + 1) ls (.int (f 12 i.toNatClampNeg) :: rest))) : W p l e R s m args below meth c H locs 0 0 Q (F0 m pc ls (.int i :: .ref (ad 17) :: rest)) :=
  g_ld Fx hC 17 12 rfl rfl hi hdg kk
theorem st_GF_firstStrings (Fx : CallFix p m c cc nL s args (c0 :: wU) own) (hC : wH D (cT cy) (cW ad cy) A H0 s g f H locs) {i x : Int32} (hi : ¬ (i < 0 ∨ 25 ≤ i.toNatClampNeg)) {f1 : sF} (hf : f1 = up2 f 12 i.toNatClampNeg x) (hdg : decode cc pc = .ok (.iastore, 1)) (kk : ∀ (H : Heap) (locs : List Loc), wH D (cT cy) (cW ad cy) A H0 s g f1 H locs → W p l e R s m args below meth c H locs 0 0 Q (F0 m (pc + 1) ls rest)) : W p l e R s m args below meth c H locs 0 0 Q (F0 m pc ls (.int x :: .int i :: .ref (ad 17) :: rest)) := by
  subst hf
  exact g_st Fx hC 17 12 rfl rfl hi rfl hdg kk
theorem ld_GF_firstPlaces (Fx : CallFix p m c cc nL s args (c0 :: wU) own) (hC : wH D (cT cy) (cW ad cy) A H0 s g f H locs) {i : Int32} (hi : ¬ (i < 0 ∨ 25 ≤ i.toNatClampNeg)) (hdg : decode cc pc = .ok (.iaload, 1)) (kk : W p l e R s m args below meth c H locs 0 0 Q (F0 m (pc + 1) ls (.int (f 13 i.toNatClampNeg) :: rest))) : W p l e R s m args below meth c H locs 0 0 Q (F0 m pc ls (.int i :: .ref (ad 18) :: rest)) :=
  g_ld Fx hC 18 13 rfl rfl hi hdg kk
theorem st_GF_firstPlaces (Fx : CallFix p m c cc nL s args (c0 :: wU) own) (hC : wH D (cT cy) (cW ad cy) A H0 s g f H locs) {i x : Int32} (hi : ¬ (i < 0 ∨ 25 ≤ i.toNatClampNeg)) {f1 : sF} (hf : f1 = up2 f 13 i.toNatClampNeg x) (hdg : decode cc pc = .ok (.iastore, 1)) (kk : ∀ (H : Heap) (locs : List Loc), wH D (cT cy) (cW ad cy) A H0 s g f1 H locs → W p l e R s m args below meth c H locs 0 0 Q (F0 m (pc + 1) ls rest)) : W p l e R s m args below meth c H locs 0 0 Q (F0 m pc ls (.int x :: .int i :: .ref (ad 18) :: rest)) := by
  subst hf
  exact g_st Fx hC 18 13 rfl rfl hi rfl hdg kk
theorem ld_GF_pitches (Fx : CallFix p m c cc nL s args (c0 :: wU) own) (hC : wH D (cT cy) (cW ad cy) A H0 s g f H locs) {i : Int32} (hi : ¬ (i < 0 ∨ 4 ≤ i.toNatClampNeg)) (hdg : decode cc pc = .ok (.iaload, 1)) (kk : W p l e R s m args below meth c H locs 0 0 Q (F0 m (pc + 1) ls (.int (f 14 i.toNatClampNeg) :: rest))) : W p l e R s m args below meth c H locs 0 0 Q (F0 m pc ls (.int i :: .ref (ad 19) :: rest)) :=
  g_ld Fx hC 19 14 rfl rfl hi hdg kk
theorem st_GF_pitches (Fx : CallFix p m c cc nL s args (c0 :: wU) own) (hC : wH D (cT cy) (cW ad cy) A H0 s g f H locs) {i x : Int32} (hi : ¬ (i < 0 ∨ 4 ≤ i.toNatClampNeg)) {f1 : sF} (hf : f1 = up2 f 14 i.toNatClampNeg x) (hdg : decode cc pc = .ok (.iastore, 1)) (kk : ∀ (H : Heap) (locs : List Loc), wH D (cT cy) (cW ad cy) A H0 s g f1 H locs → W p l e R s m args below meth c H locs 0 0 Q (F0 m (pc + 1) ls rest)) : W p l e R s m args below meth c H locs 0 0 Q (F0 m pc ls (.int x :: .int i :: .ref (ad 19) :: rest)) := by
  subst hf
  exact g_st Fx hC 19 14 rfl rfl hi rfl hdg kk
theorem ld_GF_bonds (Fx : CallFix p m c cc nL s args (c0 :: wU) own) (hC : wH D (cT cy) (cW ad cy) A H0 s g f H locs) {i : Int32} (hi : ¬ (i < 0 ∨ 4 ≤ i.toNatClampNeg)) (hdg : decode cc pc = .ok (.iaload, 1)) (kk : W p l e R s m args below meth c H locs 0 0 Q (F0 m (pc + 1) ls (.int (f 15 i.toNatClampNeg) :: rest))) : W p l e R s m args below meth c H locs 0 0 Q (F0 m pc ls (.int i :: .ref (ad 20) :: rest)) :=
  g_ld Fx hC 20 15 rfl rfl hi hdg kk
theorem st_GF_bonds (Fx : CallFix p m c cc nL s args (c0 :: wU) own) (hC : wH D (cT cy) (cW ad cy) A H0 s g f H locs) {i x : Int32} (hi : ¬ (i < 0 ∨ 4 ≤ i.toNatClampNeg)) {f1 : sF} (hf : f1 = up2 f 15 i.toNatClampNeg x) (hdg : decode cc pc = .ok (.iastore, 1)) (kk : ∀ (H : Heap) (locs : List Loc), wH D (cT cy) (cW ad cy) A H0 s g f1 H locs → W p l e R s m args below meth c H locs 0 0 Q (F0 m (pc + 1) ls rest)) : W p l e R s m args below meth c H locs 0 0 Q (F0 m pc ls (.int x :: .int i :: .ref (ad 20) :: rest)) := by
  subst hf
  exact g_st Fx hC 20 15 rfl rfl hi rfl hdg kk
theorem ld_GF_frets (Fx : CallFix p m c cc nL s args (c0 :: wU) own) (hC : wH D (cT cy) (cW ad cy) A H0 s g f H locs) {i : Int32} (hi : ¬ (i < 0 ∨ 4 ≤ i.toNatClampNeg)) (hdg : decode cc pc = .ok (.iaload, 1)) (kk : W p l e R s m args below meth c H locs 0 0 Q (F0 m (pc + 1) ls (.int (f 16 i.toNatClampNeg) :: rest))) : W p l e R s m args below meth c H locs 0 0 Q (F0 m pc ls (.int i :: .ref (ad 21) :: rest)) :=
  g_ld Fx hC 21 16 rfl rfl hi hdg kk
theorem st_GF_frets (Fx : CallFix p m c cc nL s args (c0 :: wU) own) (hC : wH D (cT cy) (cW ad cy) A H0 s g f H locs) {i x : Int32} (hi : ¬ (i < 0 ∨ 4 ≤ i.toNatClampNeg)) {f1 : sF} (hf : f1 = up2 f 16 i.toNatClampNeg x) (hdg : decode cc pc = .ok (.iastore, 1)) (kk : ∀ (H : Heap) (locs : List Loc), wH D (cT cy) (cW ad cy) A H0 s g f1 H locs → W p l e R s m args below meth c H locs 0 0 Q (F0 m (pc + 1) ls rest)) : W p l e R s m args below meth c H locs 0 0 Q (F0 m pc ls (.int x :: .int i :: .ref (ad 21) :: rest)) := by
  subst hf
  exact g_st Fx hC 21 16 rfl rfl hi rfl hdg kk
theorem ld_Pr_sums (Fx : CallFix p m c cc nL s args (c0 :: wU) own) (hC : wH D (cT cy) (cW ad cy) A H0 s g f H locs) {i : Int32} (hi : ¬ (i < 0 ∨ 1000 ≤ i.toNatClampNeg)) (hdg : decode cc pc = .ok (.iaload, 1)) (kk : W p l e R s m args below meth c H locs 0 0 Q (F0 m (pc + 1) ls (.int (f 17 i.toNatClampNeg) :: rest))) : W p l e R s m args below meth c H locs 0 0 Q (F0 m pc ls (.int i :: .ref (ad 23) :: rest)) :=
  g_ld Fx hC 23 17 rfl rfl hi hdg kk
theorem st_Pr_sums (Fx : CallFix p m c cc nL s args (c0 :: wU) own) (hC : wH D (cT cy) (cW ad cy) A H0 s g f H locs) {i x : Int32} (hi : ¬ (i < 0 ∨ 1000 ≤ i.toNatClampNeg)) {f1 : sF} (hf : f1 = up2 f 17 i.toNatClampNeg x) (hdg : decode cc pc = .ok (.iastore, 1)) (kk : ∀ (H : Heap) (locs : List Loc), wH D (cT cy) (cW ad cy) A H0 s g f1 H locs → W p l e R s m args below meth c H locs 0 0 Q (F0 m (pc + 1) ls rest)) : W p l e R s m args below meth c H locs 0 0 Q (F0 m pc ls (.int x :: .int i :: .ref (ad 23) :: rest)) := by
  subst hf
  exact g_st Fx hC 23 17 rfl rfl hi rfl hdg kk
theorem ld_Pr_ways (Fx : CallFix p m c cc nL s args (c0 :: wU) own) (hC : wH D (cT cy) (cW ad cy) A H0 s g f H locs) {i : Int32} (hi : ¬ (i < 0 ∨ 1000 ≤ i.toNatClampNeg)) (hdg : decode cc pc = .ok (.iaload, 1)) (kk : W p l e R s m args below meth c H locs 0 0 Q (F0 m (pc + 1) ls (.int (f 18 i.toNatClampNeg) :: rest))) : W p l e R s m args below meth c H locs 0 0 Q (F0 m pc ls (.int i :: .ref (ad 24) :: rest)) :=
  g_ld Fx hC 24 18 rfl rfl hi hdg kk
theorem st_Pr_ways (Fx : CallFix p m c cc nL s args (c0 :: wU) own) (hC : wH D (cT cy) (cW ad cy) A H0 s g f H locs) {i x : Int32} (hi : ¬ (i < 0 ∨ 1000 ≤ i.toNatClampNeg)) {f1 : sF} (hf : f1 = up2 f 18 i.toNatClampNeg x) (hdg : decode cc pc = .ok (.iastore, 1)) (kk : ∀ (H : Heap) (locs : List Loc), wH D (cT cy) (cW ad cy) A H0 s g f1 H locs → W p l e R s m args below meth c H locs 0 0 Q (F0 m (pc + 1) ls rest)) : W p l e R s m args below meth c H locs 0 0 Q (F0 m pc ls (.int x :: .int i :: .ref (ad 24) :: rest)) := by
  subst hf
  exact g_st Fx hC 24 18 rfl rfl hi rfl hdg kk
theorem ld_Ta_row (Fx : CallFix p m c cc nL s args (c0 :: wU) own) (hC : wH D (cT cy) (cW ad cy) A H0 s g f H locs) {i : Int32} (hi : ¬ (i < 0 ∨ 2000 ≤ i.toNatClampNeg)) (hdg : decode cc pc = .ok (.iaload, 1)) (kk : W p l e R s m args below meth c H locs 0 0 Q (F0 m (pc + 1) ls (.int (f 19 i.toNatClampNeg) :: rest))) : W p l e R s m args below meth c H locs 0 0 Q (F0 m pc ls (.int i :: .ref (ad 26) :: rest)) :=
  g_ld Fx hC 26 19 rfl rfl hi hdg kk
theorem st_Ta_row (Fx : CallFix p m c cc nL s args (c0 :: wU) own) (hC : wH D (cT cy) (cW ad cy) A H0 s g f H locs) {i x : Int32} (hi : ¬ (i < 0 ∨ 2000 ≤ i.toNatClampNeg)) {f1 : sF} (hf : f1 = up2 f 19 i.toNatClampNeg x) (hdg : decode cc pc = .ok (.iastore, 1)) (kk : ∀ (H : Heap) (locs : List Loc), wH D (cT cy) (cW ad cy) A H0 s g f1 H locs → W p l e R s m args below meth c H locs 0 0 Q (F0 m (pc + 1) ls rest)) : W p l e R s m args below meth c H locs 0 0 Q (F0 m pc ls (.int x :: .int i :: .ref (ad 26) :: rest)) := by
  subst hf
  exact g_st Fx hC 26 19 rfl rfl hi rfl hdg kk
theorem ld_TW_widths (Fx : CallFix p m c cc nL s args (c0 :: wU) own) (hC : wH D (cT cy) (cW ad cy) A H0 s g f H locs) {i : Int32} (hi : ¬ (i < 0 ∨ 40 ≤ i.toNatClampNeg)) (hdg : decode cc pc = .ok (.iaload, 1)) (kk : W p l e R s m args below meth c H locs 0 0 Q (F0 m (pc + 1) ls (.int (f 20 i.toNatClampNeg) :: rest))) : W p l e R s m args below meth c H locs 0 0 Q (F0 m pc ls (.int i :: .ref (ad 28) :: rest)) :=
  g_ld Fx hC 28 20 rfl rfl hi hdg kk
theorem st_TW_widths (Fx : CallFix p m c cc nL s args (c0 :: wU) own) (hC : wH D (cT cy) (cW ad cy) A H0 s g f H locs) {i x : Int32} (hi : ¬ (i < 0 ∨ 40 ≤ i.toNatClampNeg)) {f1 : sF} (hf : f1 = up2 f 20 i.toNatClampNeg x) (hdg : decode cc pc = .ok (.iastore, 1)) (kk : ∀ (H : Heap) (locs : List Loc), wH D (cT cy) (cW ad cy) A H0 s g f1 H locs → W p l e R s m args below meth c H locs 0 0 Q (F0 m (pc + 1) ls rest)) : W p l e R s m args below meth c H locs 0 0 Q (F0 m pc ls (.int x :: .int i :: .ref (ad 28) :: rest)) := by
  subst hf
  exact g_st Fx hC 28 20 rfl rfl hi rfl hdg kk
theorem ld_TR_columnPitches (Fx : CallFix p m c cc nL s args (c0 :: wU) own) (hC : wH D (cT cy) (cW ad cy) A H0 s g f H locs) {i : Int32} (hi : ¬ (i < 0 ∨ 7 ≤ i.toNatClampNeg)) (hdg : decode cc pc = .ok (.iaload, 1)) (kk : W p l e R s m args below meth c H locs 0 0 Q (F0 m (pc + 1) ls (.int (f 21 i.toNatClampNeg) :: rest))) : W p l e R s m args below meth c H locs 0 0 Q (F0 m pc ls (.int i :: .ref (ad 30) :: rest)) :=
  g_ld Fx hC 30 21 rfl rfl hi hdg kk
theorem st_TR_columnPitches (Fx : CallFix p m c cc nL s args (c0 :: wU) own) (hC : wH D (cT cy) (cW ad cy) A H0 s g f H locs) {i x : Int32} (hi : ¬ (i < 0 ∨ 7 ≤ i.toNatClampNeg)) {f1 : sF} (hf : f1 = up2 f 21 i.toNatClampNeg x) (hdg : decode cc pc = .ok (.iastore, 1)) (kk : ∀ (H : Heap) (locs : List Loc), wH D (cT cy) (cW ad cy) A H0 s g f1 H locs → W p l e R s m args below meth c H locs 0 0 Q (F0 m (pc + 1) ls rest)) : W p l e R s m args below meth c H locs 0 0 Q (F0 m pc ls (.int x :: .int i :: .ref (ad 30) :: rest)) := by
  subst hf
  exact g_st Fx hC 30 21 rfl rfl hi rfl hdg kk
theorem gg_M_strings (Fx : CallFix p m c cc nL s args (c0 :: wU) own) (hC : wH D (mT cy) (mW ad cy) A H0 s g f H locs) (hw : Cond.fieldLink own index "FretHandsModel" "strings" "I" ∈ wU) (hdg : decode cc pc = .ok (.getfield index, 3)) (kk : W p l e R s m args below meth c H locs 0 0 Q (F0 m (pc + 3) ls (.int (g 0) :: rest))) : W p l e R s m args below meth c H locs 0 0 Q (F0 m pc ls (.ref (ad 0) :: rest)) :=
  g_get Fx hC 0 rfl rfl (fun w h => List.mem_cons_of_mem _ (inX10 w h)) 0 (by decide) (Fx.2.2.2.2 _ (List.mem_cons_of_mem _ hw)) rfl rfl hdg kk
theorem gp_M_strings (Fx : CallFix p m c cc nL s args (c0 :: wU) own) (hC : wH D (mT cy) (mW ad cy) A H0 s g f H locs) (hw : Cond.fieldLink own index "FretHandsModel" "strings" "I" ∈ wU) {v : Int32} {g1 : sG} (hg : g1 = upd g 0 v) (hdg : decode cc pc = .ok (.putfield index, 3)) (kk : ∀ (H : Heap) (locs : List Loc), wH D (mT cy) (mW ad cy) A H0 s g1 f H locs → W p l e R s m args below meth c H locs 0 0 Q (F0 m (pc + 3) ls rest)) : W p l e R s m args below meth c H locs 0 0 Q (F0 m pc ls (.int v :: .ref (ad 0) :: rest)) := by
  subst hg
  exact g_put (ty := .int) Fx hC 0 rfl rfl (fun w h => List.mem_cons_of_mem _ (inX10 w h)) tyX10 tyX10_ok nmX10 0 (by decide) (Fx.2.2.2.2 _ (List.mem_cons_of_mem _ hw)) rfl rfl rfl rfl rfl (Nat.le_of_ble_eq_true rfl) rfl hdg kk
theorem gg_M_tuned (Fx : CallFix p m c cc nL s args (c0 :: wU) own) (hC : wH D (mT cy) (mW ad cy) A H0 s g f H locs) (hw : Cond.fieldLink own index "FretHandsModel" "tuned" "[I" ∈ wU) (hdg : decode cc pc = .ok (.getfield index, 3)) (kk : W p l e R s m args below meth c H locs 0 0 Q (F0 m (pc + 3) ls (.ref (ad 1) :: rest))) : W p l e R s m args below meth c H locs 0 0 Q (F0 m pc ls (.ref (ad 0) :: rest)) :=
  g_get Fx hC 0 rfl rfl (fun w h => List.mem_cons_of_mem _ (inX10 w h)) 1 (by decide) (Fx.2.2.2.2 _ (List.mem_cons_of_mem _ hw)) rfl rfl hdg kk
theorem gg_M_neck (Fx : CallFix p m c cc nL s args (c0 :: wU) own) (hC : wH D (mT cy) (mW ad cy) A H0 s g f H locs) (hw : Cond.fieldLink own index "FretHandsModel" "neck" "I" ∈ wU) (hdg : decode cc pc = .ok (.getfield index, 3)) (kk : W p l e R s m args below meth c H locs 0 0 Q (F0 m (pc + 3) ls (.int (g 1) :: rest))) : W p l e R s m args below meth c H locs 0 0 Q (F0 m pc ls (.ref (ad 0) :: rest)) :=
  g_get Fx hC 0 rfl rfl (fun w h => List.mem_cons_of_mem _ (inX10 w h)) 2 (by decide) (Fx.2.2.2.2 _ (List.mem_cons_of_mem _ hw)) rfl rfl hdg kk
theorem gp_M_neck (Fx : CallFix p m c cc nL s args (c0 :: wU) own) (hC : wH D (mT cy) (mW ad cy) A H0 s g f H locs) (hw : Cond.fieldLink own index "FretHandsModel" "neck" "I" ∈ wU) {v : Int32} {g1 : sG} (hg : g1 = upd g 1 v) (hdg : decode cc pc = .ok (.putfield index, 3)) (kk : ∀ (H : Heap) (locs : List Loc), wH D (mT cy) (mW ad cy) A H0 s g1 f H locs → W p l e R s m args below meth c H locs 0 0 Q (F0 m (pc + 3) ls rest)) : W p l e R s m args below meth c H locs 0 0 Q (F0 m pc ls (.int v :: .ref (ad 0) :: rest)) := by
  subst hg
  exact g_put (ty := .int) Fx hC 0 rfl rfl (fun w h => List.mem_cons_of_mem _ (inX10 w h)) tyX10 tyX10_ok nmX10 2 (by decide) (Fx.2.2.2.2 _ (List.mem_cons_of_mem _ hw)) rfl rfl rfl rfl rfl (Nat.le_of_ble_eq_true rfl) rfl hdg kk
theorem gg_M_capo (Fx : CallFix p m c cc nL s args (c0 :: wU) own) (hC : wH D (mT cy) (mW ad cy) A H0 s g f H locs) (hw : Cond.fieldLink own index "FretHandsModel" "capo" "I" ∈ wU) (hdg : decode cc pc = .ok (.getfield index, 3)) (kk : W p l e R s m args below meth c H locs 0 0 Q (F0 m (pc + 3) ls (.int (g 2) :: rest))) : W p l e R s m args below meth c H locs 0 0 Q (F0 m pc ls (.ref (ad 0) :: rest)) :=
  g_get Fx hC 0 rfl rfl (fun w h => List.mem_cons_of_mem _ (inX10 w h)) 3 (by decide) (Fx.2.2.2.2 _ (List.mem_cons_of_mem _ hw)) rfl rfl hdg kk
theorem gp_M_capo (Fx : CallFix p m c cc nL s args (c0 :: wU) own) (hC : wH D (mT cy) (mW ad cy) A H0 s g f H locs) (hw : Cond.fieldLink own index "FretHandsModel" "capo" "I" ∈ wU) {v : Int32} {g1 : sG} (hg : g1 = upd g 2 v) (hdg : decode cc pc = .ok (.putfield index, 3)) (kk : ∀ (H : Heap) (locs : List Loc), wH D (mT cy) (mW ad cy) A H0 s g1 f H locs → W p l e R s m args below meth c H locs 0 0 Q (F0 m (pc + 3) ls rest)) : W p l e R s m args below meth c H locs 0 0 Q (F0 m pc ls (.int v :: .ref (ad 0) :: rest)) := by
  subst hg
  exact g_put (ty := .int) Fx hC 0 rfl rfl (fun w h => List.mem_cons_of_mem _ (inX10 w h)) tyX10 tyX10_ok nmX10 3 (by decide) (Fx.2.2.2.2 _ (List.mem_cons_of_mem _ hw)) rfl rfl rfl rfl rfl (Nat.le_of_ble_eq_true rfl) rfl hdg kk
theorem gg_M_weights (Fx : CallFix p m c cc nL s args (c0 :: wU) own) (hC : wH D (mT cy) (mW ad cy) A H0 s g f H locs) (hw : Cond.fieldLink own index "FretHandsModel" "weights" "[I" ∈ wU) (hdg : decode cc pc = .ok (.getfield index, 3)) (kk : W p l e R s m args below meth c H locs 0 0 Q (F0 m (pc + 3) ls (.ref (ad 2) :: rest))) : W p l e R s m args below meth c H locs 0 0 Q (F0 m pc ls (.ref (ad 0) :: rest)) :=
  g_get Fx hC 0 rfl rfl (fun w h => List.mem_cons_of_mem _ (inX10 w h)) 4 (by decide) (Fx.2.2.2.2 _ (List.mem_cons_of_mem _ hw)) rfl rfl hdg kk
theorem gg_M_events (Fx : CallFix p m c cc nL s args (c0 :: wU) own) (hC : wH D (mT cy) (mW ad cy) A H0 s g f H locs) (hw : Cond.fieldLink own index "FretHandsModel" "events" "I" ∈ wU) (hdg : decode cc pc = .ok (.getfield index, 3)) (kk : W p l e R s m args below meth c H locs 0 0 Q (F0 m (pc + 3) ls (.int (g 3) :: rest))) : W p l e R s m args below meth c H locs 0 0 Q (F0 m pc ls (.ref (ad 0) :: rest)) :=
  g_get Fx hC 0 rfl rfl (fun w h => List.mem_cons_of_mem _ (inX10 w h)) 5 (by decide) (Fx.2.2.2.2 _ (List.mem_cons_of_mem _ hw)) rfl rfl hdg kk
theorem gp_M_events (Fx : CallFix p m c cc nL s args (c0 :: wU) own) (hC : wH D (mT cy) (mW ad cy) A H0 s g f H locs) (hw : Cond.fieldLink own index "FretHandsModel" "events" "I" ∈ wU) {v : Int32} {g1 : sG} (hg : g1 = upd g 3 v) (hdg : decode cc pc = .ok (.putfield index, 3)) (kk : ∀ (H : Heap) (locs : List Loc), wH D (mT cy) (mW ad cy) A H0 s g1 f H locs → W p l e R s m args below meth c H locs 0 0 Q (F0 m (pc + 3) ls rest)) : W p l e R s m args below meth c H locs 0 0 Q (F0 m pc ls (.int v :: .ref (ad 0) :: rest)) := by
  subst hg
  exact g_put (ty := .int) Fx hC 0 rfl rfl (fun w h => List.mem_cons_of_mem _ (inX10 w h)) tyX10 tyX10_ok nmX10 5 (by decide) (Fx.2.2.2.2 _ (List.mem_cons_of_mem _ hw)) rfl rfl rfl rfl rfl (Nat.le_of_ble_eq_true rfl) rfl hdg kk
theorem gg_M_pitchMany (Fx : CallFix p m c cc nL s args (c0 :: wU) own) (hC : wH D (mT cy) (mW ad cy) A H0 s g f H locs) (hw : Cond.fieldLink own index "FretHandsModel" "pitchMany" "[I" ∈ wU) (hdg : decode cc pc = .ok (.getfield index, 3)) (kk : W p l e R s m args below meth c H locs 0 0 Q (F0 m (pc + 3) ls (.ref (ad 3) :: rest))) : W p l e R s m args below meth c H locs 0 0 Q (F0 m pc ls (.ref (ad 0) :: rest)) :=
  g_get Fx hC 0 rfl rfl (fun w h => List.mem_cons_of_mem _ (inX10 w h)) 6 (by decide) (Fx.2.2.2.2 _ (List.mem_cons_of_mem _ hw)) rfl rfl hdg kk
theorem gg_M_pitches (Fx : CallFix p m c cc nL s args (c0 :: wU) own) (hC : wH D (mT cy) (mW ad cy) A H0 s g f H locs) (hw : Cond.fieldLink own index "FretHandsModel" "pitches" "[I" ∈ wU) (hdg : decode cc pc = .ok (.getfield index, 3)) (kk : W p l e R s m args below meth c H locs 0 0 Q (F0 m (pc + 3) ls (.ref (ad 4) :: rest))) : W p l e R s m args below meth c H locs 0 0 Q (F0 m pc ls (.ref (ad 0) :: rest)) :=
  g_get Fx hC 0 rfl rfl (fun w h => List.mem_cons_of_mem _ (inX10 w h)) 7 (by decide) (Fx.2.2.2.2 _ (List.mem_cons_of_mem _ hw)) rfl rfl hdg kk
theorem gg_M_bounds (Fx : CallFix p m c cc nL s args (c0 :: wU) own) (hC : wH D (mT cy) (mW ad cy) A H0 s g f H locs) (hw : Cond.fieldLink own index "FretHandsModel" "bounds" "[I" ∈ wU) (hdg : decode cc pc = .ok (.getfield index, 3)) (kk : W p l e R s m args below meth c H locs 0 0 Q (F0 m (pc + 3) ls (.ref (ad 5) :: rest))) : W p l e R s m args below meth c H locs 0 0 Q (F0 m pc ls (.ref (ad 0) :: rest)) :=
  g_get Fx hC 0 rfl rfl (fun w h => List.mem_cons_of_mem _ (inX10 w h)) 8 (by decide) (Fx.2.2.2.2 _ (List.mem_cons_of_mem _ hw)) rfl rfl hdg kk
theorem gg_M_isFound (Fx : CallFix p m c cc nL s args (c0 :: wU) own) (hC : wH D (mT cy) (mW ad cy) A H0 s g f H locs) (hw : Cond.fieldLink own index "FretHandsModel" "isFound" "Z" ∈ wU) (hdg : decode cc pc = .ok (.getfield index, 3)) (kk : W p l e R s m args below meth c H locs 0 0 Q (F0 m (pc + 3) ls (.int (g 4) :: rest))) : W p l e R s m args below meth c H locs 0 0 Q (F0 m pc ls (.ref (ad 0) :: rest)) :=
  g_get Fx hC 0 rfl rfl (fun w h => List.mem_cons_of_mem _ (inX10 w h)) 9 (by decide) (Fx.2.2.2.2 _ (List.mem_cons_of_mem _ hw)) rfl rfl hdg kk
theorem gp_M_isFound (Fx : CallFix p m c cc nL s args (c0 :: wU) own) (hC : wH D (mT cy) (mW ad cy) A H0 s g f H locs) (hw : Cond.fieldLink own index "FretHandsModel" "isFound" "Z" ∈ wU) {v : Int32} (hz : ¬ (¬ v = 0 ∧ ¬ v = 1)) {g1 : sG} (hg : g1 = upd g 4 v) (hdg : decode cc pc = .ok (.putfield index, 3)) (kk : ∀ (H : Heap) (locs : List Loc), wH D (mT cy) (mW ad cy) A H0 s g1 f H locs → W p l e R s m args below meth c H locs 0 0 Q (F0 m (pc + 3) ls rest)) : W p l e R s m args below meth c H locs 0 0 Q (F0 m pc ls (.int v :: .ref (ad 0) :: rest)) := by
  subst hg
  exact g_put (ty := .boolean) Fx hC 0 rfl rfl (fun w h => List.mem_cons_of_mem _ (inX10 w h)) tyX10 tyX10_ok nmX10 9 (by decide) (Fx.2.2.2.2 _ (List.mem_cons_of_mem _ hw)) rfl rfl rfl (bo_nar hz) (bo_fit hz) (Nat.le_of_ble_eq_true rfl) rfl hdg kk
theorem gg_M_foundAt (Fx : CallFix p m c cc nL s args (c0 :: wU) own) (hC : wH D (mT cy) (mW ad cy) A H0 s g f H locs) (hw : Cond.fieldLink own index "FretHandsModel" "foundAt" "[I" ∈ wU) (hdg : decode cc pc = .ok (.getfield index, 3)) (kk : W p l e R s m args below meth c H locs 0 0 Q (F0 m (pc + 3) ls (.ref (ad 6) :: rest))) : W p l e R s m args below meth c H locs 0 0 Q (F0 m pc ls (.ref (ad 0) :: rest)) :=
  g_get Fx hC 0 rfl rfl (fun w h => List.mem_cons_of_mem _ (inX10 w h)) 10 (by decide) (Fx.2.2.2.2 _ (List.mem_cons_of_mem _ hw)) rfl rfl hdg kk
theorem gg_M_foundStrings (Fx : CallFix p m c cc nL s args (c0 :: wU) own) (hC : wH D (mT cy) (mW ad cy) A H0 s g f H locs) (hw : Cond.fieldLink own index "FretHandsModel" "foundStrings" "[I" ∈ wU) (hdg : decode cc pc = .ok (.getfield index, 3)) (kk : W p l e R s m args below meth c H locs 0 0 Q (F0 m (pc + 3) ls (.ref (ad 7) :: rest))) : W p l e R s m args below meth c H locs 0 0 Q (F0 m pc ls (.ref (ad 0) :: rest)) :=
  g_get Fx hC 0 rfl rfl (fun w h => List.mem_cons_of_mem _ (inX10 w h)) 11 (by decide) (Fx.2.2.2.2 _ (List.mem_cons_of_mem _ hw)) rfl rfl hdg kk
theorem gg_M_foundCost (Fx : CallFix p m c cc nL s args (c0 :: wU) own) (hC : wH D (mT cy) (mW ad cy) A H0 s g f H locs) (hw : Cond.fieldLink own index "FretHandsModel" "foundCost" "[I" ∈ wU) (hdg : decode cc pc = .ok (.getfield index, 3)) (kk : W p l e R s m args below meth c H locs 0 0 Q (F0 m (pc + 3) ls (.ref (ad 8) :: rest))) : W p l e R s m args below meth c H locs 0 0 Q (F0 m pc ls (.ref (ad 0) :: rest)) :=
  g_get Fx hC 0 rfl rfl (fun w h => List.mem_cons_of_mem _ (inX10 w h)) 12 (by decide) (Fx.2.2.2.2 _ (List.mem_cons_of_mem _ hw)) rfl rfl hdg kk
theorem gg_M_foundNumber (Fx : CallFix p m c cc nL s args (c0 :: wU) own) (hC : wH D (mT cy) (mW ad cy) A H0 s g f H locs) (hw : Cond.fieldLink own index "FretHandsModel" "foundNumber" "[I" ∈ wU) (hdg : decode cc pc = .ok (.getfield index, 3)) (kk : W p l e R s m args below meth c H locs 0 0 Q (F0 m (pc + 3) ls (.ref (ad 9) :: rest))) : W p l e R s m args below meth c H locs 0 0 Q (F0 m pc ls (.ref (ad 0) :: rest)) :=
  g_get Fx hC 0 rfl rfl (fun w h => List.mem_cons_of_mem _ (inX10 w h)) 13 (by decide) (Fx.2.2.2.2 _ (List.mem_cons_of_mem _ hw)) rfl rfl hdg kk
theorem gg_M_signs (Fx : CallFix p m c cc nL s args (c0 :: wU) own) (hC : wH D (mT cy) (mW ad cy) A H0 s g f H locs) (hw : Cond.fieldLink own index "FretHandsModel" "signs" "I" ∈ wU) (hdg : decode cc pc = .ok (.getfield index, 3)) (kk : W p l e R s m args below meth c H locs 0 0 Q (F0 m (pc + 3) ls (.int (g 5) :: rest))) : W p l e R s m args below meth c H locs 0 0 Q (F0 m pc ls (.ref (ad 0) :: rest)) :=
  g_get Fx hC 0 rfl rfl (fun w h => List.mem_cons_of_mem _ (inX10 w h)) 14 (by decide) (Fx.2.2.2.2 _ (List.mem_cons_of_mem _ hw)) rfl rfl hdg kk
theorem gp_M_signs (Fx : CallFix p m c cc nL s args (c0 :: wU) own) (hC : wH D (mT cy) (mW ad cy) A H0 s g f H locs) (hw : Cond.fieldLink own index "FretHandsModel" "signs" "I" ∈ wU) {v : Int32} {g1 : sG} (hg : g1 = upd g 5 v) (hdg : decode cc pc = .ok (.putfield index, 3)) (kk : ∀ (H : Heap) (locs : List Loc), wH D (mT cy) (mW ad cy) A H0 s g1 f H locs → W p l e R s m args below meth c H locs 0 0 Q (F0 m (pc + 3) ls rest)) : W p l e R s m args below meth c H locs 0 0 Q (F0 m pc ls (.int v :: .ref (ad 0) :: rest)) := by
  subst hg
  exact g_put (ty := .int) Fx hC 0 rfl rfl (fun w h => List.mem_cons_of_mem _ (inX10 w h)) tyX10 tyX10_ok nmX10 14 (by decide) (Fx.2.2.2.2 _ (List.mem_cons_of_mem _ hw)) rfl rfl rfl rfl rfl (Nat.le_of_ble_eq_true rfl) rfl hdg kk
theorem gg_M_tape (Fx : CallFix p m c cc nL s args (c0 :: wU) own) (hC : wH D (mT cy) (mW ad cy) A H0 s g f H locs) (hw : Cond.fieldLink own index "FretHandsModel" "tape" "[I" ∈ wU) (hdg : decode cc pc = .ok (.getfield index, 3)) (kk : W p l e R s m args below meth c H locs 0 0 Q (F0 m (pc + 3) ls (.ref (ad 10) :: rest))) : W p l e R s m args below meth c H locs 0 0 Q (F0 m pc ls (.ref (ad 0) :: rest)) :=
  g_get Fx hC 0 rfl rfl (fun w h => List.mem_cons_of_mem _ (inX10 w h)) 15 (by decide) (Fx.2.2.2.2 _ (List.mem_cons_of_mem _ hw)) rfl rfl hdg kk
theorem gg_M_faultPlace (Fx : CallFix p m c cc nL s args (c0 :: wU) own) (hC : wH D (mT cy) (mW ad cy) A H0 s g f H locs) (hw : Cond.fieldLink own index "FretHandsModel" "faultPlace" "I" ∈ wU) (hdg : decode cc pc = .ok (.getfield index, 3)) (kk : W p l e R s m args below meth c H locs 0 0 Q (F0 m (pc + 3) ls (.int (g 6) :: rest))) : W p l e R s m args below meth c H locs 0 0 Q (F0 m pc ls (.ref (ad 0) :: rest)) :=
  g_get Fx hC 0 rfl rfl (fun w h => List.mem_cons_of_mem _ (inX10 w h)) 16 (by decide) (Fx.2.2.2.2 _ (List.mem_cons_of_mem _ hw)) rfl rfl hdg kk
theorem gp_M_faultPlace (Fx : CallFix p m c cc nL s args (c0 :: wU) own) (hC : wH D (mT cy) (mW ad cy) A H0 s g f H locs) (hw : Cond.fieldLink own index "FretHandsModel" "faultPlace" "I" ∈ wU) {v : Int32} {g1 : sG} (hg : g1 = upd g 6 v) (hdg : decode cc pc = .ok (.putfield index, 3)) (kk : ∀ (H : Heap) (locs : List Loc), wH D (mT cy) (mW ad cy) A H0 s g1 f H locs → W p l e R s m args below meth c H locs 0 0 Q (F0 m (pc + 3) ls rest)) : W p l e R s m args below meth c H locs 0 0 Q (F0 m pc ls (.int v :: .ref (ad 0) :: rest)) := by
  subst hg
  exact g_put (ty := .int) Fx hC 0 rfl rfl (fun w h => List.mem_cons_of_mem _ (inX10 w h)) tyX10 tyX10_ok nmX10 16 (by decide) (Fx.2.2.2.2 _ (List.mem_cons_of_mem _ hw)) rfl rfl rfl rfl rfl (Nat.le_of_ble_eq_true rfl) rfl hdg kk
theorem gg_M_ways (Fx : CallFix p m c cc nL s args (c0 :: wU) own) (hC : wH D (mT cy) (mW ad cy) A H0 s g f H locs) (hw : Cond.fieldLink own index "FretHandsModel" "ways" "I" ∈ wU) (hdg : decode cc pc = .ok (.getfield index, 3)) (kk : W p l e R s m args below meth c H locs 0 0 Q (F0 m (pc + 3) ls (.int (g 7) :: rest))) : W p l e R s m args below meth c H locs 0 0 Q (F0 m pc ls (.ref (ad 0) :: rest)) :=
  g_get Fx hC 0 rfl rfl (fun w h => List.mem_cons_of_mem _ (inX10 w h)) 17 (by decide) (Fx.2.2.2.2 _ (List.mem_cons_of_mem _ hw)) rfl rfl hdg kk
theorem gp_M_ways (Fx : CallFix p m c cc nL s args (c0 :: wU) own) (hC : wH D (mT cy) (mW ad cy) A H0 s g f H locs) (hw : Cond.fieldLink own index "FretHandsModel" "ways" "I" ∈ wU) {v : Int32} {g1 : sG} (hg : g1 = upd g 7 v) (hdg : decode cc pc = .ok (.putfield index, 3)) (kk : ∀ (H : Heap) (locs : List Loc), wH D (mT cy) (mW ad cy) A H0 s g1 f H locs → W p l e R s m args below meth c H locs 0 0 Q (F0 m (pc + 3) ls rest)) : W p l e R s m args below meth c H locs 0 0 Q (F0 m pc ls (.int v :: .ref (ad 0) :: rest)) := by
  subst hg
  exact g_put (ty := .int) Fx hC 0 rfl rfl (fun w h => List.mem_cons_of_mem _ (inX10 w h)) tyX10 tyX10_ok nmX10 17 (by decide) (Fx.2.2.2.2 _ (List.mem_cons_of_mem _ hw)) rfl rfl rfl rfl rfl (Nat.le_of_ble_eq_true rfl) rfl hdg kk
theorem gg_M_wayStrings (Fx : CallFix p m c cc nL s args (c0 :: wU) own) (hC : wH D (mT cy) (mW ad cy) A H0 s g f H locs) (hw : Cond.fieldLink own index "FretHandsModel" "wayStrings" "[I" ∈ wU) (hdg : decode cc pc = .ok (.getfield index, 3)) (kk : W p l e R s m args below meth c H locs 0 0 Q (F0 m (pc + 3) ls (.ref (ad 11) :: rest))) : W p l e R s m args below meth c H locs 0 0 Q (F0 m pc ls (.ref (ad 0) :: rest)) :=
  g_get Fx hC 0 rfl rfl (fun w h => List.mem_cons_of_mem _ (inX10 w h)) 18 (by decide) (Fx.2.2.2.2 _ (List.mem_cons_of_mem _ hw)) rfl rfl hdg kk
theorem gg_M_wayFrets (Fx : CallFix p m c cc nL s args (c0 :: wU) own) (hC : wH D (mT cy) (mW ad cy) A H0 s g f H locs) (hw : Cond.fieldLink own index "FretHandsModel" "wayFrets" "[I" ∈ wU) (hdg : decode cc pc = .ok (.getfield index, 3)) (kk : W p l e R s m args below meth c H locs 0 0 Q (F0 m (pc + 3) ls (.ref (ad 12) :: rest))) : W p l e R s m args below meth c H locs 0 0 Q (F0 m pc ls (.ref (ad 0) :: rest)) :=
  g_get Fx hC 0 rfl rfl (fun w h => List.mem_cons_of_mem _ (inX10 w h)) 19 (by decide) (Fx.2.2.2.2 _ (List.mem_cons_of_mem _ hw)) rfl rfl hdg kk
theorem gg_M_least (Fx : CallFix p m c cc nL s args (c0 :: wU) own) (hC : wH D (mT cy) (mW ad cy) A H0 s g f H locs) (hw : Cond.fieldLink own index "FretHandsModel" "least" "[I" ∈ wU) (hdg : decode cc pc = .ok (.getfield index, 3)) (kk : W p l e R s m args below meth c H locs 0 0 Q (F0 m (pc + 3) ls (.ref (ad 13) :: rest))) : W p l e R s m args below meth c H locs 0 0 Q (F0 m pc ls (.ref (ad 0) :: rest)) :=
  g_get Fx hC 0 rfl rfl (fun w h => List.mem_cons_of_mem _ (inX10 w h)) 20 (by decide) (Fx.2.2.2.2 _ (List.mem_cons_of_mem _ hw)) rfl rfl hdg kk
theorem gg_M_manyLeast (Fx : CallFix p m c cc nL s args (c0 :: wU) own) (hC : wH D (mT cy) (mW ad cy) A H0 s g f H locs) (hw : Cond.fieldLink own index "FretHandsModel" "manyLeast" "[I" ∈ wU) (hdg : decode cc pc = .ok (.getfield index, 3)) (kk : W p l e R s m args below meth c H locs 0 0 Q (F0 m (pc + 3) ls (.ref (ad 14) :: rest))) : W p l e R s m args below meth c H locs 0 0 Q (F0 m pc ls (.ref (ad 0) :: rest)) :=
  g_get Fx hC 0 rfl rfl (fun w h => List.mem_cons_of_mem _ (inX10 w h)) 21 (by decide) (Fx.2.2.2.2 _ (List.mem_cons_of_mem _ hw)) rfl rfl hdg kk
theorem gg_M_sums (Fx : CallFix p m c cc nL s args (c0 :: wU) own) (hC : wH D (mT cy) (mW ad cy) A H0 s g f H locs) (hw : Cond.fieldLink own index "FretHandsModel" "sums" "[I" ∈ wU) (hdg : decode cc pc = .ok (.getfield index, 3)) (kk : W p l e R s m args below meth c H locs 0 0 Q (F0 m (pc + 3) ls (.ref (ad 15) :: rest))) : W p l e R s m args below meth c H locs 0 0 Q (F0 m pc ls (.ref (ad 0) :: rest)) :=
  g_get Fx hC 0 rfl rfl (fun w h => List.mem_cons_of_mem _ (inX10 w h)) 22 (by decide) (Fx.2.2.2.2 _ (List.mem_cons_of_mem _ hw)) rfl rfl hdg kk
theorem gg_M_rows (Fx : CallFix p m c cc nL s args (c0 :: wU) own) (hC : wH D (mT cy) (mW ad cy) A H0 s g f H locs) (hw : Cond.fieldLink own index "FretHandsModel" "rows" "[I" ∈ wU) (hdg : decode cc pc = .ok (.getfield index, 3)) (kk : W p l e R s m args below meth c H locs 0 0 Q (F0 m (pc + 3) ls (.ref (ad 16) :: rest))) : W p l e R s m args below meth c H locs 0 0 Q (F0 m pc ls (.ref (ad 0) :: rest)) :=
  g_get Fx hC 0 rfl rfl (fun w h => List.mem_cons_of_mem _ (inX10 w h)) 23 (by decide) (Fx.2.2.2.2 _ (List.mem_cons_of_mem _ hw)) rfl rfl hdg kk
theorem gg_M_isOn (Fx : CallFix p m c cc nL s args (c0 :: wU) own) (hC : wH D (mT cy) (mW ad cy) A H0 s g f H locs) (hw : Cond.fieldLink own index "FretHandsModel" "isOn" "[Z" ∈ wU) (hdg : decode cc pc = .ok (.getfield index, 3)) (kk : W p l e R s m args below meth c H locs 0 0 Q (F0 m (pc + 3) ls (.ref (ad 17) :: rest))) : W p l e R s m args below meth c H locs 0 0 Q (F0 m pc ls (.ref (ad 0) :: rest)) :=
  g_get Fx hC 0 rfl rfl (fun w h => List.mem_cons_of_mem _ (inX10 w h)) 24 (by decide) (Fx.2.2.2.2 _ (List.mem_cons_of_mem _ hw)) rfl rfl hdg kk
theorem gg_M_at (Fx : CallFix p m c cc nL s args (c0 :: wU) own) (hC : wH D (mT cy) (mW ad cy) A H0 s g f H locs) (hw : Cond.fieldLink own index "FretHandsModel" "at" "I" ∈ wU) (hdg : decode cc pc = .ok (.getfield index, 3)) (kk : W p l e R s m args below meth c H locs 0 0 Q (F0 m (pc + 3) ls (.int (g 8) :: rest))) : W p l e R s m args below meth c H locs 0 0 Q (F0 m pc ls (.ref (ad 0) :: rest)) :=
  g_get Fx hC 0 rfl rfl (fun w h => List.mem_cons_of_mem _ (inX10 w h)) 25 (by decide) (Fx.2.2.2.2 _ (List.mem_cons_of_mem _ hw)) rfl rfl hdg kk
theorem gp_M_at (Fx : CallFix p m c cc nL s args (c0 :: wU) own) (hC : wH D (mT cy) (mW ad cy) A H0 s g f H locs) (hw : Cond.fieldLink own index "FretHandsModel" "at" "I" ∈ wU) {v : Int32} {g1 : sG} (hg : g1 = upd g 8 v) (hdg : decode cc pc = .ok (.putfield index, 3)) (kk : ∀ (H : Heap) (locs : List Loc), wH D (mT cy) (mW ad cy) A H0 s g1 f H locs → W p l e R s m args below meth c H locs 0 0 Q (F0 m (pc + 3) ls rest)) : W p l e R s m args below meth c H locs 0 0 Q (F0 m pc ls (.int v :: .ref (ad 0) :: rest)) := by
  subst hg
  exact g_put (ty := .int) Fx hC 0 rfl rfl (fun w h => List.mem_cons_of_mem _ (inX10 w h)) tyX10 tyX10_ok nmX10 25 (by decide) (Fx.2.2.2.2 _ (List.mem_cons_of_mem _ hw)) rfl rfl rfl rfl rfl (Nat.le_of_ble_eq_true rfl) rfl hdg kk
theorem gg_M_columns (Fx : CallFix p m c cc nL s args (c0 :: wU) own) (hC : wH D (mT cy) (mW ad cy) A H0 s g f H locs) (hw : Cond.fieldLink own index "FretHandsModel" "columns" "I" ∈ wU) (hdg : decode cc pc = .ok (.getfield index, 3)) (kk : W p l e R s m args below meth c H locs 0 0 Q (F0 m (pc + 3) ls (.int (g 9) :: rest))) : W p l e R s m args below meth c H locs 0 0 Q (F0 m pc ls (.ref (ad 0) :: rest)) :=
  g_get Fx hC 0 rfl rfl (fun w h => List.mem_cons_of_mem _ (inX10 w h)) 26 (by decide) (Fx.2.2.2.2 _ (List.mem_cons_of_mem _ hw)) rfl rfl hdg kk
theorem gp_M_columns (Fx : CallFix p m c cc nL s args (c0 :: wU) own) (hC : wH D (mT cy) (mW ad cy) A H0 s g f H locs) (hw : Cond.fieldLink own index "FretHandsModel" "columns" "I" ∈ wU) {v : Int32} {g1 : sG} (hg : g1 = upd g 9 v) (hdg : decode cc pc = .ok (.putfield index, 3)) (kk : ∀ (H : Heap) (locs : List Loc), wH D (mT cy) (mW ad cy) A H0 s g1 f H locs → W p l e R s m args below meth c H locs 0 0 Q (F0 m (pc + 3) ls rest)) : W p l e R s m args below meth c H locs 0 0 Q (F0 m pc ls (.int v :: .ref (ad 0) :: rest)) := by
  subst hg
  exact g_put (ty := .int) Fx hC 0 rfl rfl (fun w h => List.mem_cons_of_mem _ (inX10 w h)) tyX10 tyX10_ok nmX10 26 (by decide) (Fx.2.2.2.2 _ (List.mem_cons_of_mem _ hw)) rfl rfl rfl rfl rfl (Nat.le_of_ble_eq_true rfl) rfl hdg kk
theorem gg_M_fault (Fx : CallFix p m c cc nL s args (c0 :: wU) own) (hC : wH D (mT cy) (mW ad cy) A H0 s g f H locs) (hw : Cond.fieldLink own index "FretHandsModel" "fault" "I" ∈ wU) (hdg : decode cc pc = .ok (.getfield index, 3)) (kk : W p l e R s m args below meth c H locs 0 0 Q (F0 m (pc + 3) ls (.int (g 10) :: rest))) : W p l e R s m args below meth c H locs 0 0 Q (F0 m pc ls (.ref (ad 0) :: rest)) :=
  g_get Fx hC 0 rfl rfl (fun w h => List.mem_cons_of_mem _ (inX10 w h)) 27 (by decide) (Fx.2.2.2.2 _ (List.mem_cons_of_mem _ hw)) rfl rfl hdg kk
theorem gp_M_fault (Fx : CallFix p m c cc nL s args (c0 :: wU) own) (hC : wH D (mT cy) (mW ad cy) A H0 s g f H locs) (hw : Cond.fieldLink own index "FretHandsModel" "fault" "I" ∈ wU) {v : Int32} {g1 : sG} (hg : g1 = upd g 10 v) (hdg : decode cc pc = .ok (.putfield index, 3)) (kk : ∀ (H : Heap) (locs : List Loc), wH D (mT cy) (mW ad cy) A H0 s g1 f H locs → W p l e R s m args below meth c H locs 0 0 Q (F0 m (pc + 3) ls rest)) : W p l e R s m args below meth c H locs 0 0 Q (F0 m pc ls (.int v :: .ref (ad 0) :: rest)) := by
  subst hg
  exact g_put (ty := .int) Fx hC 0 rfl rfl (fun w h => List.mem_cons_of_mem _ (inX10 w h)) tyX10 tyX10_ok nmX10 27 (by decide) (Fx.2.2.2.2 _ (List.mem_cons_of_mem _ hw)) rfl rfl rfl rfl rfl (Nat.le_of_ble_eq_true rfl) rfl hdg kk
theorem gg_M_faultAt (Fx : CallFix p m c cc nL s args (c0 :: wU) own) (hC : wH D (mT cy) (mW ad cy) A H0 s g f H locs) (hw : Cond.fieldLink own index "FretHandsModel" "faultAt" "I" ∈ wU) (hdg : decode cc pc = .ok (.getfield index, 3)) (kk : W p l e R s m args below meth c H locs 0 0 Q (F0 m (pc + 3) ls (.int (g 11) :: rest))) : W p l e R s m args below meth c H locs 0 0 Q (F0 m pc ls (.ref (ad 0) :: rest)) :=
  g_get Fx hC 0 rfl rfl (fun w h => List.mem_cons_of_mem _ (inX10 w h)) 28 (by decide) (Fx.2.2.2.2 _ (List.mem_cons_of_mem _ hw)) rfl rfl hdg kk
theorem gp_M_faultAt (Fx : CallFix p m c cc nL s args (c0 :: wU) own) (hC : wH D (mT cy) (mW ad cy) A H0 s g f H locs) (hw : Cond.fieldLink own index "FretHandsModel" "faultAt" "I" ∈ wU) {v : Int32} {g1 : sG} (hg : g1 = upd g 11 v) (hdg : decode cc pc = .ok (.putfield index, 3)) (kk : ∀ (H : Heap) (locs : List Loc), wH D (mT cy) (mW ad cy) A H0 s g1 f H locs → W p l e R s m args below meth c H locs 0 0 Q (F0 m (pc + 3) ls rest)) : W p l e R s m args below meth c H locs 0 0 Q (F0 m pc ls (.int v :: .ref (ad 0) :: rest)) := by
  subst hg
  exact g_put (ty := .int) Fx hC 0 rfl rfl (fun w h => List.mem_cons_of_mem _ (inX10 w h)) tyX10 tyX10_ok nmX10 28 (by decide) (Fx.2.2.2.2 _ (List.mem_cons_of_mem _ hw)) rfl rfl rfl rfl rfl (Nat.le_of_ble_eq_true rfl) rfl hdg kk
theorem gg_M_newEvents (Fx : CallFix p m c cc nL s args (c0 :: wU) own) (hC : wH D (mT cy) (mW ad cy) A H0 s g f H locs) (hw : Cond.fieldLink own index "FretHandsModel" "newEvents" "I" ∈ wU) (hdg : decode cc pc = .ok (.getfield index, 3)) (kk : W p l e R s m args below meth c H locs 0 0 Q (F0 m (pc + 3) ls (.int (g 12) :: rest))) : W p l e R s m args below meth c H locs 0 0 Q (F0 m pc ls (.ref (ad 0) :: rest)) :=
  g_get Fx hC 0 rfl rfl (fun w h => List.mem_cons_of_mem _ (inX10 w h)) 29 (by decide) (Fx.2.2.2.2 _ (List.mem_cons_of_mem _ hw)) rfl rfl hdg kk
theorem gp_M_newEvents (Fx : CallFix p m c cc nL s args (c0 :: wU) own) (hC : wH D (mT cy) (mW ad cy) A H0 s g f H locs) (hw : Cond.fieldLink own index "FretHandsModel" "newEvents" "I" ∈ wU) {v : Int32} {g1 : sG} (hg : g1 = upd g 12 v) (hdg : decode cc pc = .ok (.putfield index, 3)) (kk : ∀ (H : Heap) (locs : List Loc), wH D (mT cy) (mW ad cy) A H0 s g1 f H locs → W p l e R s m args below meth c H locs 0 0 Q (F0 m (pc + 3) ls rest)) : W p l e R s m args below meth c H locs 0 0 Q (F0 m pc ls (.int v :: .ref (ad 0) :: rest)) := by
  subst hg
  exact g_put (ty := .int) Fx hC 0 rfl rfl (fun w h => List.mem_cons_of_mem _ (inX10 w h)) tyX10 tyX10_ok nmX10 29 (by decide) (Fx.2.2.2.2 _ (List.mem_cons_of_mem _ hw)) rfl rfl rfl rfl rfl (Nat.le_of_ble_eq_true rfl) rfl hdg kk
theorem gg_M_newMany (Fx : CallFix p m c cc nL s args (c0 :: wU) own) (hC : wH D (mT cy) (mW ad cy) A H0 s g f H locs) (hw : Cond.fieldLink own index "FretHandsModel" "newMany" "[I" ∈ wU) (hdg : decode cc pc = .ok (.getfield index, 3)) (kk : W p l e R s m args below meth c H locs 0 0 Q (F0 m (pc + 3) ls (.ref (ad 18) :: rest))) : W p l e R s m args below meth c H locs 0 0 Q (F0 m pc ls (.ref (ad 0) :: rest)) :=
  g_get Fx hC 0 rfl rfl (fun w h => List.mem_cons_of_mem _ (inX10 w h)) 30 (by decide) (Fx.2.2.2.2 _ (List.mem_cons_of_mem _ hw)) rfl rfl hdg kk
theorem gg_M_newPitches (Fx : CallFix p m c cc nL s args (c0 :: wU) own) (hC : wH D (mT cy) (mW ad cy) A H0 s g f H locs) (hw : Cond.fieldLink own index "FretHandsModel" "newPitches" "[I" ∈ wU) (hdg : decode cc pc = .ok (.getfield index, 3)) (kk : W p l e R s m args below meth c H locs 0 0 Q (F0 m (pc + 3) ls (.ref (ad 19) :: rest))) : W p l e R s m args below meth c H locs 0 0 Q (F0 m pc ls (.ref (ad 0) :: rest)) :=
  g_get Fx hC 0 rfl rfl (fun w h => List.mem_cons_of_mem _ (inX10 w h)) 31 (by decide) (Fx.2.2.2.2 _ (List.mem_cons_of_mem _ hw)) rfl rfl hdg kk
theorem gg_M_newBounds (Fx : CallFix p m c cc nL s args (c0 :: wU) own) (hC : wH D (mT cy) (mW ad cy) A H0 s g f H locs) (hw : Cond.fieldLink own index "FretHandsModel" "newBounds" "[I" ∈ wU) (hdg : decode cc pc = .ok (.getfield index, 3)) (kk : W p l e R s m args below meth c H locs 0 0 Q (F0 m (pc + 3) ls (.ref (ad 20) :: rest))) : W p l e R s m args below meth c H locs 0 0 Q (F0 m pc ls (.ref (ad 0) :: rest)) :=
  g_get Fx hC 0 rfl rfl (fun w h => List.mem_cons_of_mem _ (inX10 w h)) 32 (by decide) (Fx.2.2.2.2 _ (List.mem_cons_of_mem _ hw)) rfl rfl hdg kk
theorem ld_M_tuned (Fx : CallFix p m c cc nL s args (c0 :: wU) own) (hC : wH D (mT cy) (mW ad cy) A H0 s g f H locs) {i : Int32} (hi : ¬ (i < 0 ∨ 7 ≤ i.toNatClampNeg)) (hdg : decode cc pc = .ok (.iaload, 1)) (kk : W p l e R s m args below meth c H locs 0 0 Q (F0 m (pc + 1) ls (.int (f 0 i.toNatClampNeg) :: rest))) : W p l e R s m args below meth c H locs 0 0 Q (F0 m pc ls (.int i :: .ref (ad 1) :: rest)) :=
  g_ld Fx hC 1 0 rfl rfl hi hdg kk
theorem st_M_tuned (Fx : CallFix p m c cc nL s args (c0 :: wU) own) (hC : wH D (mT cy) (mW ad cy) A H0 s g f H locs) {i x : Int32} (hi : ¬ (i < 0 ∨ 7 ≤ i.toNatClampNeg)) {f1 : sF} (hf : f1 = up2 f 0 i.toNatClampNeg x) (hdg : decode cc pc = .ok (.iastore, 1)) (kk : ∀ (H : Heap) (locs : List Loc), wH D (mT cy) (mW ad cy) A H0 s g f1 H locs → W p l e R s m args below meth c H locs 0 0 Q (F0 m (pc + 1) ls rest)) : W p l e R s m args below meth c H locs 0 0 Q (F0 m pc ls (.int x :: .int i :: .ref (ad 1) :: rest)) := by
  subst hf
  exact g_st Fx hC 1 0 rfl rfl hi rfl hdg kk
theorem ld_M_weights (Fx : CallFix p m c cc nL s args (c0 :: wU) own) (hC : wH D (mT cy) (mW ad cy) A H0 s g f H locs) {i : Int32} (hi : ¬ (i < 0 ∨ 4 ≤ i.toNatClampNeg)) (hdg : decode cc pc = .ok (.iaload, 1)) (kk : W p l e R s m args below meth c H locs 0 0 Q (F0 m (pc + 1) ls (.int (f 1 i.toNatClampNeg) :: rest))) : W p l e R s m args below meth c H locs 0 0 Q (F0 m pc ls (.int i :: .ref (ad 2) :: rest)) :=
  g_ld Fx hC 2 1 rfl rfl hi hdg kk
theorem st_M_weights (Fx : CallFix p m c cc nL s args (c0 :: wU) own) (hC : wH D (mT cy) (mW ad cy) A H0 s g f H locs) {i x : Int32} (hi : ¬ (i < 0 ∨ 4 ≤ i.toNatClampNeg)) {f1 : sF} (hf : f1 = up2 f 1 i.toNatClampNeg x) (hdg : decode cc pc = .ok (.iastore, 1)) (kk : ∀ (H : Heap) (locs : List Loc), wH D (mT cy) (mW ad cy) A H0 s g f1 H locs → W p l e R s m args below meth c H locs 0 0 Q (F0 m (pc + 1) ls rest)) : W p l e R s m args below meth c H locs 0 0 Q (F0 m pc ls (.int x :: .int i :: .ref (ad 2) :: rest)) := by
  subst hf
  exact g_st Fx hC 2 1 rfl rfl hi rfl hdg kk
theorem ld_M_pitchMany (Fx : CallFix p m c cc nL s args (c0 :: wU) own) (hC : wH D (mT cy) (mW ad cy) A H0 s g f H locs) {i : Int32} (hi : ¬ (i < 0 ∨ 40 ≤ i.toNatClampNeg)) (hdg : decode cc pc = .ok (.iaload, 1)) (kk : W p l e R s m args below meth c H locs 0 0 Q (F0 m (pc + 1) ls (.int (f 2 i.toNatClampNeg) :: rest))) : W p l e R s m args below meth c H locs 0 0 Q (F0 m pc ls (.int i :: .ref (ad 3) :: rest)) :=
  g_ld Fx hC 3 2 rfl rfl hi hdg kk
theorem st_M_pitchMany (Fx : CallFix p m c cc nL s args (c0 :: wU) own) (hC : wH D (mT cy) (mW ad cy) A H0 s g f H locs) {i x : Int32} (hi : ¬ (i < 0 ∨ 40 ≤ i.toNatClampNeg)) {f1 : sF} (hf : f1 = up2 f 2 i.toNatClampNeg x) (hdg : decode cc pc = .ok (.iastore, 1)) (kk : ∀ (H : Heap) (locs : List Loc), wH D (mT cy) (mW ad cy) A H0 s g f1 H locs → W p l e R s m args below meth c H locs 0 0 Q (F0 m (pc + 1) ls rest)) : W p l e R s m args below meth c H locs 0 0 Q (F0 m pc ls (.int x :: .int i :: .ref (ad 3) :: rest)) := by
  subst hf
  exact g_st Fx hC 3 2 rfl rfl hi rfl hdg kk
theorem ld_M_pitches (Fx : CallFix p m c cc nL s args (c0 :: wU) own) (hC : wH D (mT cy) (mW ad cy) A H0 s g f H locs) {i : Int32} (hi : ¬ (i < 0 ∨ 160 ≤ i.toNatClampNeg)) (hdg : decode cc pc = .ok (.iaload, 1)) (kk : W p l e R s m args below meth c H locs 0 0 Q (F0 m (pc + 1) ls (.int (f 3 i.toNatClampNeg) :: rest))) : W p l e R s m args below meth c H locs 0 0 Q (F0 m pc ls (.int i :: .ref (ad 4) :: rest)) :=
  g_ld Fx hC 4 3 rfl rfl hi hdg kk
theorem st_M_pitches (Fx : CallFix p m c cc nL s args (c0 :: wU) own) (hC : wH D (mT cy) (mW ad cy) A H0 s g f H locs) {i x : Int32} (hi : ¬ (i < 0 ∨ 160 ≤ i.toNatClampNeg)) {f1 : sF} (hf : f1 = up2 f 3 i.toNatClampNeg x) (hdg : decode cc pc = .ok (.iastore, 1)) (kk : ∀ (H : Heap) (locs : List Loc), wH D (mT cy) (mW ad cy) A H0 s g f1 H locs → W p l e R s m args below meth c H locs 0 0 Q (F0 m (pc + 1) ls rest)) : W p l e R s m args below meth c H locs 0 0 Q (F0 m pc ls (.int x :: .int i :: .ref (ad 4) :: rest)) := by
  subst hf
  exact g_st Fx hC 4 3 rfl rfl hi rfl hdg kk
theorem ld_M_bounds (Fx : CallFix p m c cc nL s args (c0 :: wU) own) (hC : wH D (mT cy) (mW ad cy) A H0 s g f H locs) {i : Int32} (hi : ¬ (i < 0 ∨ 160 ≤ i.toNatClampNeg)) (hdg : decode cc pc = .ok (.iaload, 1)) (kk : W p l e R s m args below meth c H locs 0 0 Q (F0 m (pc + 1) ls (.int (f 4 i.toNatClampNeg) :: rest))) : W p l e R s m args below meth c H locs 0 0 Q (F0 m pc ls (.int i :: .ref (ad 5) :: rest)) :=
  g_ld Fx hC 5 4 rfl rfl hi hdg kk
theorem st_M_bounds (Fx : CallFix p m c cc nL s args (c0 :: wU) own) (hC : wH D (mT cy) (mW ad cy) A H0 s g f H locs) {i x : Int32} (hi : ¬ (i < 0 ∨ 160 ≤ i.toNatClampNeg)) {f1 : sF} (hf : f1 = up2 f 4 i.toNatClampNeg x) (hdg : decode cc pc = .ok (.iastore, 1)) (kk : ∀ (H : Heap) (locs : List Loc), wH D (mT cy) (mW ad cy) A H0 s g f1 H locs → W p l e R s m args below meth c H locs 0 0 Q (F0 m (pc + 1) ls rest)) : W p l e R s m args below meth c H locs 0 0 Q (F0 m pc ls (.int x :: .int i :: .ref (ad 5) :: rest)) := by
  subst hf
  exact g_st Fx hC 5 4 rfl rfl hi rfl hdg kk
theorem ld_M_foundAt (Fx : CallFix p m c cc nL s args (c0 :: wU) own) (hC : wH D (mT cy) (mW ad cy) A H0 s g f H locs) {i : Int32} (hi : ¬ (i < 0 ∨ 40 ≤ i.toNatClampNeg)) (hdg : decode cc pc = .ok (.iaload, 1)) (kk : W p l e R s m args below meth c H locs 0 0 Q (F0 m (pc + 1) ls (.int (f 5 i.toNatClampNeg) :: rest))) : W p l e R s m args below meth c H locs 0 0 Q (F0 m pc ls (.int i :: .ref (ad 6) :: rest)) :=
  g_ld Fx hC 6 5 rfl rfl hi hdg kk
theorem st_M_foundAt (Fx : CallFix p m c cc nL s args (c0 :: wU) own) (hC : wH D (mT cy) (mW ad cy) A H0 s g f H locs) {i x : Int32} (hi : ¬ (i < 0 ∨ 40 ≤ i.toNatClampNeg)) {f1 : sF} (hf : f1 = up2 f 5 i.toNatClampNeg x) (hdg : decode cc pc = .ok (.iastore, 1)) (kk : ∀ (H : Heap) (locs : List Loc), wH D (mT cy) (mW ad cy) A H0 s g f1 H locs → W p l e R s m args below meth c H locs 0 0 Q (F0 m (pc + 1) ls rest)) : W p l e R s m args below meth c H locs 0 0 Q (F0 m pc ls (.int x :: .int i :: .ref (ad 6) :: rest)) := by
  subst hf
  exact g_st Fx hC 6 5 rfl rfl hi rfl hdg kk
theorem ld_M_foundStrings (Fx : CallFix p m c cc nL s args (c0 :: wU) own) (hC : wH D (mT cy) (mW ad cy) A H0 s g f H locs) {i : Int32} (hi : ¬ (i < 0 ∨ 160 ≤ i.toNatClampNeg)) (hdg : decode cc pc = .ok (.iaload, 1)) (kk : W p l e R s m args below meth c H locs 0 0 Q (F0 m (pc + 1) ls (.int (f 6 i.toNatClampNeg) :: rest))) : W p l e R s m args below meth c H locs 0 0 Q (F0 m pc ls (.int i :: .ref (ad 7) :: rest)) :=
  g_ld Fx hC 7 6 rfl rfl hi hdg kk
theorem st_M_foundStrings (Fx : CallFix p m c cc nL s args (c0 :: wU) own) (hC : wH D (mT cy) (mW ad cy) A H0 s g f H locs) {i x : Int32} (hi : ¬ (i < 0 ∨ 160 ≤ i.toNatClampNeg)) {f1 : sF} (hf : f1 = up2 f 6 i.toNatClampNeg x) (hdg : decode cc pc = .ok (.iastore, 1)) (kk : ∀ (H : Heap) (locs : List Loc), wH D (mT cy) (mW ad cy) A H0 s g f1 H locs → W p l e R s m args below meth c H locs 0 0 Q (F0 m (pc + 1) ls rest)) : W p l e R s m args below meth c H locs 0 0 Q (F0 m pc ls (.int x :: .int i :: .ref (ad 7) :: rest)) := by
  subst hf
  exact g_st Fx hC 7 6 rfl rfl hi rfl hdg kk
theorem ld_M_foundCost (Fx : CallFix p m c cc nL s args (c0 :: wU) own) (hC : wH D (mT cy) (mW ad cy) A H0 s g f H locs) {i : Int32} (hi : ¬ (i < 0 ∨ 40 ≤ i.toNatClampNeg)) (hdg : decode cc pc = .ok (.iaload, 1)) (kk : W p l e R s m args below meth c H locs 0 0 Q (F0 m (pc + 1) ls (.int (f 7 i.toNatClampNeg) :: rest))) : W p l e R s m args below meth c H locs 0 0 Q (F0 m pc ls (.int i :: .ref (ad 8) :: rest)) :=
  g_ld Fx hC 8 7 rfl rfl hi hdg kk
theorem st_M_foundCost (Fx : CallFix p m c cc nL s args (c0 :: wU) own) (hC : wH D (mT cy) (mW ad cy) A H0 s g f H locs) {i x : Int32} (hi : ¬ (i < 0 ∨ 40 ≤ i.toNatClampNeg)) {f1 : sF} (hf : f1 = up2 f 7 i.toNatClampNeg x) (hdg : decode cc pc = .ok (.iastore, 1)) (kk : ∀ (H : Heap) (locs : List Loc), wH D (mT cy) (mW ad cy) A H0 s g f1 H locs → W p l e R s m args below meth c H locs 0 0 Q (F0 m (pc + 1) ls rest)) : W p l e R s m args below meth c H locs 0 0 Q (F0 m pc ls (.int x :: .int i :: .ref (ad 8) :: rest)) := by
  subst hf
  exact g_st Fx hC 8 7 rfl rfl hi rfl hdg kk
theorem ld_M_foundNumber (Fx : CallFix p m c cc nL s args (c0 :: wU) own) (hC : wH D (mT cy) (mW ad cy) A H0 s g f H locs) {i : Int32} (hi : ¬ (i < 0 ∨ 40 ≤ i.toNatClampNeg)) (hdg : decode cc pc = .ok (.iaload, 1)) (kk : W p l e R s m args below meth c H locs 0 0 Q (F0 m (pc + 1) ls (.int (f 8 i.toNatClampNeg) :: rest))) : W p l e R s m args below meth c H locs 0 0 Q (F0 m pc ls (.int i :: .ref (ad 9) :: rest)) :=
  g_ld Fx hC 9 8 rfl rfl hi hdg kk
theorem st_M_foundNumber (Fx : CallFix p m c cc nL s args (c0 :: wU) own) (hC : wH D (mT cy) (mW ad cy) A H0 s g f H locs) {i x : Int32} (hi : ¬ (i < 0 ∨ 40 ≤ i.toNatClampNeg)) {f1 : sF} (hf : f1 = up2 f 8 i.toNatClampNeg x) (hdg : decode cc pc = .ok (.iastore, 1)) (kk : ∀ (H : Heap) (locs : List Loc), wH D (mT cy) (mW ad cy) A H0 s g f1 H locs → W p l e R s m args below meth c H locs 0 0 Q (F0 m (pc + 1) ls rest)) : W p l e R s m args below meth c H locs 0 0 Q (F0 m pc ls (.int x :: .int i :: .ref (ad 9) :: rest)) := by
  subst hf
  exact g_st Fx hC 9 8 rfl rfl hi rfl hdg kk
theorem ld_M_tape (Fx : CallFix p m c cc nL s args (c0 :: wU) own) (hC : wH D (mT cy) (mW ad cy) A H0 s g f H locs) {i : Int32} (hi : ¬ (i < 0 ∨ 2000 ≤ i.toNatClampNeg)) (hdg : decode cc pc = .ok (.iaload, 1)) (kk : W p l e R s m args below meth c H locs 0 0 Q (F0 m (pc + 1) ls (.int (f 9 i.toNatClampNeg) :: rest))) : W p l e R s m args below meth c H locs 0 0 Q (F0 m pc ls (.int i :: .ref (ad 10) :: rest)) :=
  g_ld Fx hC 10 9 rfl rfl hi hdg kk
theorem st_M_tape (Fx : CallFix p m c cc nL s args (c0 :: wU) own) (hC : wH D (mT cy) (mW ad cy) A H0 s g f H locs) {i x : Int32} (hi : ¬ (i < 0 ∨ 2000 ≤ i.toNatClampNeg)) {f1 : sF} (hf : f1 = up2 f 9 i.toNatClampNeg x) (hdg : decode cc pc = .ok (.iastore, 1)) (kk : ∀ (H : Heap) (locs : List Loc), wH D (mT cy) (mW ad cy) A H0 s g f1 H locs → W p l e R s m args below meth c H locs 0 0 Q (F0 m (pc + 1) ls rest)) : W p l e R s m args below meth c H locs 0 0 Q (F0 m pc ls (.int x :: .int i :: .ref (ad 10) :: rest)) := by
  subst hf
  exact g_st Fx hC 10 9 rfl rfl hi rfl hdg kk
theorem ld_M_wayStrings (Fx : CallFix p m c cc nL s args (c0 :: wU) own) (hC : wH D (mT cy) (mW ad cy) A H0 s g f H locs) {i : Int32} (hi : ¬ (i < 0 ∨ 3364 ≤ i.toNatClampNeg)) (hdg : decode cc pc = .ok (.iaload, 1)) (kk : W p l e R s m args below meth c H locs 0 0 Q (F0 m (pc + 1) ls (.int (f 10 i.toNatClampNeg) :: rest))) : W p l e R s m args below meth c H locs 0 0 Q (F0 m pc ls (.int i :: .ref (ad 11) :: rest)) :=
  g_ld Fx hC 11 10 rfl rfl hi hdg kk
theorem st_M_wayStrings (Fx : CallFix p m c cc nL s args (c0 :: wU) own) (hC : wH D (mT cy) (mW ad cy) A H0 s g f H locs) {i x : Int32} (hi : ¬ (i < 0 ∨ 3364 ≤ i.toNatClampNeg)) {f1 : sF} (hf : f1 = up2 f 10 i.toNatClampNeg x) (hdg : decode cc pc = .ok (.iastore, 1)) (kk : ∀ (H : Heap) (locs : List Loc), wH D (mT cy) (mW ad cy) A H0 s g f1 H locs → W p l e R s m args below meth c H locs 0 0 Q (F0 m (pc + 1) ls rest)) : W p l e R s m args below meth c H locs 0 0 Q (F0 m pc ls (.int x :: .int i :: .ref (ad 11) :: rest)) := by
  subst hf
  exact g_st Fx hC 11 10 rfl rfl hi rfl hdg kk
theorem ld_M_wayFrets (Fx : CallFix p m c cc nL s args (c0 :: wU) own) (hC : wH D (mT cy) (mW ad cy) A H0 s g f H locs) {i : Int32} (hi : ¬ (i < 0 ∨ 3364 ≤ i.toNatClampNeg)) (hdg : decode cc pc = .ok (.iaload, 1)) (kk : W p l e R s m args below meth c H locs 0 0 Q (F0 m (pc + 1) ls (.int (f 11 i.toNatClampNeg) :: rest))) : W p l e R s m args below meth c H locs 0 0 Q (F0 m pc ls (.int i :: .ref (ad 12) :: rest)) :=
  g_ld Fx hC 12 11 rfl rfl hi hdg kk
theorem st_M_wayFrets (Fx : CallFix p m c cc nL s args (c0 :: wU) own) (hC : wH D (mT cy) (mW ad cy) A H0 s g f H locs) {i x : Int32} (hi : ¬ (i < 0 ∨ 3364 ≤ i.toNatClampNeg)) {f1 : sF} (hf : f1 = up2 f 11 i.toNatClampNeg x) (hdg : decode cc pc = .ok (.iastore, 1)) (kk : ∀ (H : Heap) (locs : List Loc), wH D (mT cy) (mW ad cy) A H0 s g f1 H locs → W p l e R s m args below meth c H locs 0 0 Q (F0 m (pc + 1) ls rest)) : W p l e R s m args below meth c H locs 0 0 Q (F0 m pc ls (.int x :: .int i :: .ref (ad 12) :: rest)) := by
  subst hf
  exact g_st Fx hC 12 11 rfl rfl hi rfl hdg kk
theorem ld_M_least (Fx : CallFix p m c cc nL s args (c0 :: wU) own) (hC : wH D (mT cy) (mW ad cy) A H0 s g f H locs) {i : Int32} (hi : ¬ (i < 0 ∨ 1000 ≤ i.toNatClampNeg)) (hdg : decode cc pc = .ok (.iaload, 1)) (kk : W p l e R s m args below meth c H locs 0 0 Q (F0 m (pc + 1) ls (.int (f 12 i.toNatClampNeg) :: rest))) : W p l e R s m args below meth c H locs 0 0 Q (F0 m pc ls (.int i :: .ref (ad 13) :: rest)) :=
  g_ld Fx hC 13 12 rfl rfl hi hdg kk
theorem st_M_least (Fx : CallFix p m c cc nL s args (c0 :: wU) own) (hC : wH D (mT cy) (mW ad cy) A H0 s g f H locs) {i x : Int32} (hi : ¬ (i < 0 ∨ 1000 ≤ i.toNatClampNeg)) {f1 : sF} (hf : f1 = up2 f 12 i.toNatClampNeg x) (hdg : decode cc pc = .ok (.iastore, 1)) (kk : ∀ (H : Heap) (locs : List Loc), wH D (mT cy) (mW ad cy) A H0 s g f1 H locs → W p l e R s m args below meth c H locs 0 0 Q (F0 m (pc + 1) ls rest)) : W p l e R s m args below meth c H locs 0 0 Q (F0 m pc ls (.int x :: .int i :: .ref (ad 13) :: rest)) := by
  subst hf
  exact g_st Fx hC 13 12 rfl rfl hi rfl hdg kk
theorem ld_M_manyLeast (Fx : CallFix p m c cc nL s args (c0 :: wU) own) (hC : wH D (mT cy) (mW ad cy) A H0 s g f H locs) {i : Int32} (hi : ¬ (i < 0 ∨ 1000 ≤ i.toNatClampNeg)) (hdg : decode cc pc = .ok (.iaload, 1)) (kk : W p l e R s m args below meth c H locs 0 0 Q (F0 m (pc + 1) ls (.int (f 13 i.toNatClampNeg) :: rest))) : W p l e R s m args below meth c H locs 0 0 Q (F0 m pc ls (.int i :: .ref (ad 14) :: rest)) :=
  g_ld Fx hC 14 13 rfl rfl hi hdg kk
theorem st_M_manyLeast (Fx : CallFix p m c cc nL s args (c0 :: wU) own) (hC : wH D (mT cy) (mW ad cy) A H0 s g f H locs) {i x : Int32} (hi : ¬ (i < 0 ∨ 1000 ≤ i.toNatClampNeg)) {f1 : sF} (hf : f1 = up2 f 13 i.toNatClampNeg x) (hdg : decode cc pc = .ok (.iastore, 1)) (kk : ∀ (H : Heap) (locs : List Loc), wH D (mT cy) (mW ad cy) A H0 s g f1 H locs → W p l e R s m args below meth c H locs 0 0 Q (F0 m (pc + 1) ls rest)) : W p l e R s m args below meth c H locs 0 0 Q (F0 m pc ls (.int x :: .int i :: .ref (ad 14) :: rest)) := by
  subst hf
  exact g_st Fx hC 14 13 rfl rfl hi rfl hdg kk
theorem ld_M_sums (Fx : CallFix p m c cc nL s args (c0 :: wU) own) (hC : wH D (mT cy) (mW ad cy) A H0 s g f H locs) {i : Int32} (hi : ¬ (i < 0 ∨ 1000 ≤ i.toNatClampNeg)) (hdg : decode cc pc = .ok (.iaload, 1)) (kk : W p l e R s m args below meth c H locs 0 0 Q (F0 m (pc + 1) ls (.int (f 14 i.toNatClampNeg) :: rest))) : W p l e R s m args below meth c H locs 0 0 Q (F0 m pc ls (.int i :: .ref (ad 15) :: rest)) :=
  g_ld Fx hC 15 14 rfl rfl hi hdg kk
theorem st_M_sums (Fx : CallFix p m c cc nL s args (c0 :: wU) own) (hC : wH D (mT cy) (mW ad cy) A H0 s g f H locs) {i x : Int32} (hi : ¬ (i < 0 ∨ 1000 ≤ i.toNatClampNeg)) {f1 : sF} (hf : f1 = up2 f 14 i.toNatClampNeg x) (hdg : decode cc pc = .ok (.iastore, 1)) (kk : ∀ (H : Heap) (locs : List Loc), wH D (mT cy) (mW ad cy) A H0 s g f1 H locs → W p l e R s m args below meth c H locs 0 0 Q (F0 m (pc + 1) ls rest)) : W p l e R s m args below meth c H locs 0 0 Q (F0 m pc ls (.int x :: .int i :: .ref (ad 15) :: rest)) := by
  subst hf
  exact g_st Fx hC 15 14 rfl rfl hi rfl hdg kk
theorem ld_M_rows (Fx : CallFix p m c cc nL s args (c0 :: wU) own) (hC : wH D (mT cy) (mW ad cy) A H0 s g f H locs) {i : Int32} (hi : ¬ (i < 0 ∨ 1000 ≤ i.toNatClampNeg)) (hdg : decode cc pc = .ok (.iaload, 1)) (kk : W p l e R s m args below meth c H locs 0 0 Q (F0 m (pc + 1) ls (.int (f 15 i.toNatClampNeg) :: rest))) : W p l e R s m args below meth c H locs 0 0 Q (F0 m pc ls (.int i :: .ref (ad 16) :: rest)) :=
  g_ld Fx hC 16 15 rfl rfl hi hdg kk
theorem st_M_rows (Fx : CallFix p m c cc nL s args (c0 :: wU) own) (hC : wH D (mT cy) (mW ad cy) A H0 s g f H locs) {i x : Int32} (hi : ¬ (i < 0 ∨ 1000 ≤ i.toNatClampNeg)) {f1 : sF} (hf : f1 = up2 f 15 i.toNatClampNeg x) (hdg : decode cc pc = .ok (.iastore, 1)) (kk : ∀ (H : Heap) (locs : List Loc), wH D (mT cy) (mW ad cy) A H0 s g f1 H locs → W p l e R s m args below meth c H locs 0 0 Q (F0 m (pc + 1) ls rest)) : W p l e R s m args below meth c H locs 0 0 Q (F0 m pc ls (.int x :: .int i :: .ref (ad 16) :: rest)) := by
  subst hf
  exact g_st Fx hC 16 15 rfl rfl hi rfl hdg kk
theorem ld_M_isOn (Fx : CallFix p m c cc nL s args (c0 :: wU) own) (hC : wH D (mT cy) (mW ad cy) A H0 s g f H locs) {i : Int32} (hi : ¬ (i < 0 ∨ 1000 ≤ i.toNatClampNeg)) (hdg : decode cc pc = .ok (.baload, 1)) (kk : W p l e R s m args below meth c H locs 0 0 Q (F0 m (pc + 1) ls (.int (f 16 i.toNatClampNeg) :: rest))) : W p l e R s m args below meth c H locs 0 0 Q (F0 m pc ls (.int i :: .ref (ad 17) :: rest)) :=
  g_zld Fx hC 17 16 rfl rfl hi hdg kk
theorem st_M_isOn (Fx : CallFix p m c cc nL s args (c0 :: wU) own) (hC : wH D (mT cy) (mW ad cy) A H0 s g f H locs) {i x : Int32} (hi : ¬ (i < 0 ∨ 1000 ≤ i.toNatClampNeg)) (hz : ¬ (¬ x = 0 ∧ ¬ x = 1)) {f1 : sF} (hf : f1 = up2 f 16 i.toNatClampNeg x) (hdg : decode cc pc = .ok (.bastore, 1)) (kk : ∀ (H : Heap) (locs : List Loc), wH D (mT cy) (mW ad cy) A H0 s g f1 H locs → W p l e R s m args below meth c H locs 0 0 Q (F0 m (pc + 1) ls rest)) : W p l e R s m args below meth c H locs 0 0 Q (F0 m pc ls (.int x :: .int i :: .ref (ad 17) :: rest)) := by
  subst hf
  exact g_zst Fx hC 17 16 rfl rfl hi hz rfl hdg kk
theorem ld_M_newMany (Fx : CallFix p m c cc nL s args (c0 :: wU) own) (hC : wH D (mT cy) (mW ad cy) A H0 s g f H locs) {i : Int32} (hi : ¬ (i < 0 ∨ 41 ≤ i.toNatClampNeg)) (hdg : decode cc pc = .ok (.iaload, 1)) (kk : W p l e R s m args below meth c H locs 0 0 Q (F0 m (pc + 1) ls (.int (f 17 i.toNatClampNeg) :: rest))) : W p l e R s m args below meth c H locs 0 0 Q (F0 m pc ls (.int i :: .ref (ad 18) :: rest)) :=
  g_ld Fx hC 18 17 rfl rfl hi hdg kk
theorem st_M_newMany (Fx : CallFix p m c cc nL s args (c0 :: wU) own) (hC : wH D (mT cy) (mW ad cy) A H0 s g f H locs) {i x : Int32} (hi : ¬ (i < 0 ∨ 41 ≤ i.toNatClampNeg)) {f1 : sF} (hf : f1 = up2 f 17 i.toNatClampNeg x) (hdg : decode cc pc = .ok (.iastore, 1)) (kk : ∀ (H : Heap) (locs : List Loc), wH D (mT cy) (mW ad cy) A H0 s g f1 H locs → W p l e R s m args below meth c H locs 0 0 Q (F0 m (pc + 1) ls rest)) : W p l e R s m args below meth c H locs 0 0 Q (F0 m pc ls (.int x :: .int i :: .ref (ad 18) :: rest)) := by
  subst hf
  exact g_st Fx hC 18 17 rfl rfl hi rfl hdg kk
theorem ld_M_newPitches (Fx : CallFix p m c cc nL s args (c0 :: wU) own) (hC : wH D (mT cy) (mW ad cy) A H0 s g f H locs) {i : Int32} (hi : ¬ (i < 0 ∨ 164 ≤ i.toNatClampNeg)) (hdg : decode cc pc = .ok (.iaload, 1)) (kk : W p l e R s m args below meth c H locs 0 0 Q (F0 m (pc + 1) ls (.int (f 18 i.toNatClampNeg) :: rest))) : W p l e R s m args below meth c H locs 0 0 Q (F0 m pc ls (.int i :: .ref (ad 19) :: rest)) :=
  g_ld Fx hC 19 18 rfl rfl hi hdg kk
theorem st_M_newPitches (Fx : CallFix p m c cc nL s args (c0 :: wU) own) (hC : wH D (mT cy) (mW ad cy) A H0 s g f H locs) {i x : Int32} (hi : ¬ (i < 0 ∨ 164 ≤ i.toNatClampNeg)) {f1 : sF} (hf : f1 = up2 f 18 i.toNatClampNeg x) (hdg : decode cc pc = .ok (.iastore, 1)) (kk : ∀ (H : Heap) (locs : List Loc), wH D (mT cy) (mW ad cy) A H0 s g f1 H locs → W p l e R s m args below meth c H locs 0 0 Q (F0 m (pc + 1) ls rest)) : W p l e R s m args below meth c H locs 0 0 Q (F0 m pc ls (.int x :: .int i :: .ref (ad 19) :: rest)) := by
  subst hf
  exact g_st Fx hC 19 18 rfl rfl hi rfl hdg kk
theorem ld_M_newBounds (Fx : CallFix p m c cc nL s args (c0 :: wU) own) (hC : wH D (mT cy) (mW ad cy) A H0 s g f H locs) {i : Int32} (hi : ¬ (i < 0 ∨ 164 ≤ i.toNatClampNeg)) (hdg : decode cc pc = .ok (.iaload, 1)) (kk : W p l e R s m args below meth c H locs 0 0 Q (F0 m (pc + 1) ls (.int (f 19 i.toNatClampNeg) :: rest))) : W p l e R s m args below meth c H locs 0 0 Q (F0 m pc ls (.int i :: .ref (ad 20) :: rest)) :=
  g_ld Fx hC 20 19 rfl rfl hi hdg kk
theorem st_M_newBounds (Fx : CallFix p m c cc nL s args (c0 :: wU) own) (hC : wH D (mT cy) (mW ad cy) A H0 s g f H locs) {i x : Int32} (hi : ¬ (i < 0 ∨ 164 ≤ i.toNatClampNeg)) {f1 : sF} (hf : f1 = up2 f 19 i.toNatClampNeg x) (hdg : decode cc pc = .ok (.iastore, 1)) (kk : ∀ (H : Heap) (locs : List Loc), wH D (mT cy) (mW ad cy) A H0 s g f1 H locs → W p l e R s m args below meth c H locs 0 0 Q (F0 m (pc + 1) ls rest)) : W p l e R s m args below meth c H locs 0 0 Q (F0 m pc ls (.int x :: .int i :: .ref (ad 20) :: rest)) := by
  subst hf
  exact g_st Fx hC 20 19 rfl rfl hi rfl hdg kk
end WR
end
section
theorem z01_0 : ¬ (¬ (0 : Int32) = 0 ∧ ¬ (0 : Int32) = 1) := fun h => h.1 rfl
theorem z01_1 : ¬ (¬ (1 : Int32) = 0 ∧ ¬ (1 : Int32) = 1) := fun h => h.2 rfl
theorem rmle1 (d : Nat) : 1 ≤ 20 + (d + 1) := by omega
theorem rmle3 (d : Nat) : 8 + (15 + 11) + (400 + 60 * d) ≤ 400 + 60 * (d + 1) := by omega
theorem rmle4 (d : Nat) {X : Nat} (h : X ≤ 20) : X ≤ 20 + (d + 1) := Nat.le_trans h (Nat.le_add_right 20 (d + 1))
theorem rmle5 (d : Nat) {X : Nat} (h : X ≤ 400) : X ≤ 400 + 60 * (d + 1) := Nat.le_trans h (Nat.le_add_right 400 (60 * (d + 1)))
section MM
variable {p : Program} {l : Launch} {e : Env} {R : Room} {s : State} {m : MethodId} {args : Array Value} {below : List Frame} {meth : Method} {c : Code} {H : Heap} {locs : List Loc} {Q : State → Prop}
variable {cc : ByteArray} {pc : Nat} {ls : Array Slot} {rest : List Value} {nL : Nat} {c0 : Cond} {own : String} {index : Nat}
theorem g_mmin (Fx : CallFix p m c cc nL s args (c0 :: wU) own) (hsz : ls.size = nL) (hw : Cond.methodLink own index Lib.Math.min.name ∈ wU) (hfr : 1 ≤ R.frames) (hlo : (rest.map fun v => v.category).sum + 13 ≤ R.locals) {x y : Int32} (hdg : decode cc pc = .ok (.invokestatic index, 3))
    (kk : W p l e R s m args below meth c H locs 0 0 Q (F0 m (pc + 3) ls (.int (if y < x then y else x) :: rest))) : W p l e R s m args below meth c H locs 0 0 Q (F0 m pc ls (.int y :: .int x :: rest)) :=
  va_mmin Fx.1 Fx.2.1 (Fx.2.2.1.trans hsz.symm) Fx.2.2.2.1 (Fx.2.2.2.2 _ (List.mem_cons_of_mem _ hw)) (Fx.2.2.2.2 _ (List.mem_cons_of_mem _ wd_345)) (Fx.2.2.2.2 _ (List.mem_cons_of_mem _ wd_11)) (Fx.2.2.2.2 _ (List.mem_cons_of_mem _ wd_346)) hfr hlo (Nat.zero_le _) (Nat.zero_le _) hdg kk
theorem g_mmax (Fx : CallFix p m c cc nL s args (c0 :: wU) own) (hsz : ls.size = nL) (hw : Cond.methodLink own index Lib.Math.max.name ∈ wU) (hfr : 1 ≤ R.frames) (hlo : (rest.map fun v => v.category).sum + 13 ≤ R.locals) {x y : Int32} (hdg : decode cc pc = .ok (.invokestatic index, 3))
    (kk : W p l e R s m args below meth c H locs 0 0 Q (F0 m (pc + 3) ls (.int (if x < y then y else x) :: rest))) : W p l e R s m args below meth c H locs 0 0 Q (F0 m pc ls (.int y :: .int x :: rest)) :=
  va_mmax Fx.1 Fx.2.1 (Fx.2.2.1.trans hsz.symm) Fx.2.2.2.1 (Fx.2.2.2.2 _ (List.mem_cons_of_mem _ hw)) (Fx.2.2.2.2 _ (List.mem_cons_of_mem _ wd_356)) (Fx.2.2.2.2 _ (List.mem_cons_of_mem _ wd_11)) (Fx.2.2.2.2 _ (List.mem_cons_of_mem _ wd_357)) hfr hlo (Nat.zero_le _) (Nat.zero_le _) hdg kk
theorem g_mabs (Fx : CallFix p m c cc nL s args (c0 :: wU) own) (hsz : ls.size = nL) (hw : Cond.methodLink own index Lib.Math.abs.name ∈ wU) (hfr : 1 ≤ R.frames) (hlo : (rest.map fun v => v.category).sum + 13 ≤ R.locals) {x : Int32} (hdg : decode cc pc = .ok (.invokestatic index, 3))
    (kk : W p l e R s m args below meth c H locs 0 0 Q (F0 m (pc + 3) ls (.int (if 0 ≤ x then x else 0 - x) :: rest))) : W p l e R s m args below meth c H locs 0 0 Q (F0 m pc ls (.int x :: rest)) :=
  va_mabs Fx.1 Fx.2.1 (Fx.2.2.1.trans hsz.symm) Fx.2.2.2.1 (Fx.2.2.2.2 _ (List.mem_cons_of_mem _ hw)) (Fx.2.2.2.2 _ (List.mem_cons_of_mem _ wd_409)) (Fx.2.2.2.2 _ (List.mem_cons_of_mem _ wd_11)) (Fx.2.2.2.2 _ (List.mem_cons_of_mem _ wd_410)) hfr hlo (Nat.zero_le _) (Nat.zero_le _) hdg kk
end MM
end
section
/-! FretHands$Instrument.addString(I)Z -/
abbrev rm_In_addString : Room := { frames := 0, cells := 0, slots := 0, locals := 0 }
theorem hd_In_addString : yX1_addString.cls = RX1 ∧ yX1_addString.cls ≠ "java/lang/invoke/MethodHandle" ∧ yX1_addString.cls ≠ "java/lang/invoke/VarHandle" ∧ (parseMethodDescriptor yX1_addString.desc).map (fun d => d.parameters.length) = some 1 := by decide +kernel
def p_In_addString (a1 : Int32) (g : sG) (f : sF) : Option (Int32 × sG × sF) := (if (g 0) < (7 : Int32) then (if (g 0) < 0 ∨ 7 ≤ (g 0).toNatClampNeg then none else lt_ (up2 f 1 (g 0).toNatClampNeg a1) (fun f2 => lt_ (upd g 0 ((g 0) + (1 : Int32))) (fun g3 => some ((1 : Int32), g3, f2)))) else some ((0 : Int32), g, f))
set_option maxRecDepth 100000 in
set_option maxHeartbeats 4000000 in
theorem k_In_addString {l : Launch} {D : va_G} {ad : Nat → Nat} {cy : Nat → ClassId} {a1 : Int32} {u : Int32 × sG × sF} {g : sG} {f : sF} (hf : p_In_addString a1 g f = some u) : mMi l yX1_addString (Cond.code yX1_addString cX1_addString 2 (some .boolean) :: wU) rm_In_addString D (cT cy) (cW ad cy) [.ref (ad 2), .int a1] g f u := by
  refine mk_z (by decide) rfl (Nat.le_of_ble_eq_true rfl) ?_
  intro p e s m below meth c Q A H0 Fx hret ls H locs hl hC
  replace hl : lv_has ls 2 [(0, .ref (ad 2)), (1, .int a1)] := hl
  unfold p_In_addString at hf
  refine lv_aload_n Fx.1 Fx.2.1 dX1_addString_0 rfl (lv_at hl 0 rfl) ?_
  refine gg_In_strings Fx hC wd_27 dX1_addString_1 ?_
  refine lv_bipush (v := (7 : Int32)) Fx.1 Fx.2.1 dX1_addString_4 (by decide) ?_
  refine lv_icmp_lt (tgt := 11) Fx.1 Fx.2.1 dX1_addString_6 (by decide) (fun hc => ?_) (fun hc => ?_)
  · replace hf := ift hc hf
    refine lv_aload_n Fx.1 Fx.2.1 dX1_addString_11 rfl (lv_at hl 0 rfl) ?_
    refine gg_In_openPitches Fx hC wd_26 dX1_addString_12 ?_
    refine lv_aload_n Fx.1 Fx.2.1 dX1_addString_15 rfl (lv_at hl 0 rfl) ?_
    refine gg_In_strings Fx hC wd_27 dX1_addString_16 ?_
    refine lv_iload_n Fx.1 Fx.2.1 dX1_addString_19 rfl (lv_at hl 1 rfl) ?_
    obtain ⟨hi1, hf⟩ := gd_e hf
    obtain ⟨f2, ef2, hf⟩ := lt_e hf
    refine st_In_openPitches Fx hC hi1 ef2 dX1_addString_20 (fun H locs hC => ?_)
    refine lv_aload_n Fx.1 Fx.2.1 dX1_addString_21 rfl (lv_at hl 0 rfl) ?_
    refine lv_dup Fx.1 Fx.2.1 dX1_addString_22 rfl ?_
    refine gg_In_strings Fx hC wd_27 dX1_addString_23 ?_
    refine lv_iconst (v := (1 : Int32)) Fx.1 Fx.2.1 dX1_addString_26 (by decide) ?_
    refine lv_iadd Fx.1 Fx.2.1 dX1_addString_27 ?_
    obtain ⟨g3, eg3, hf⟩ := lt_e hf
    refine gp_In_strings Fx hC wd_27 eg3 dX1_addString_28 (fun H locs hC => ?_)
    refine lv_iconst (v := (1 : Int32)) Fx.1 Fx.2.1 dX1_addString_31 (by decide) ?_
    obtain rfl := Option.some.inj hf
    exact hret _ _ _ _ dX1_addString_32 z01_1 hC
  · replace hf := iff_ hc hf
    refine lv_iconst (v := (0 : Int32)) Fx.1 Fx.2.1 dX1_addString_9 (by decide) ?_
    obtain rfl := Option.some.inj hf
    exact hret _ _ _ _ dX1_addString_10 z01_0 hC
/-! FretHands$Plan.forget()V -/
abbrev rm_Pl_forget : Room := { frames := 0, cells := 0, slots := 0, locals := 0 }
theorem hd_Pl_forget : yX2_forget.cls = RX2 ∧ yX2_forget.cls ≠ "java/lang/invoke/MethodHandle" ∧ yX2_forget.cls ≠ "java/lang/invoke/VarHandle" ∧ (parseMethodDescriptor yX2_forget.desc).map (fun d => d.parameters.length) = some 0 := by decide +kernel
def p_Pl_forget  (g : sG) (f : sF) : Option (sG × sF) := lt_ (upd g 4 (0 : Int32)) (fun g1 => some (g1, f))
set_option maxRecDepth 100000 in
set_option maxHeartbeats 4000000 in
theorem k_Pl_forget {l : Launch} {D : va_G} {ad : Nat → Nat} {cy : Nat → ClassId}  {u : sG × sF} {g : sG} {f : sF} (hf : p_Pl_forget  g f = some u) : mMv l yX2_forget (Cond.code yX2_forget cX2_forget 1 none :: wU) rm_Pl_forget D (cT cy) (cW ad cy) [.ref (ad 8)] g f u := by
  refine mk_v (by decide) rfl (Nat.le_of_ble_eq_true rfl) ?_
  intro p e s m below meth c Q A H0 Fx hret ls H locs hl hC
  replace hl : lv_has ls 1 [(0, .ref (ad 8))] := hl
  unfold p_Pl_forget at hf
  refine lv_aload_n Fx.1 Fx.2.1 dX2_forget_0 rfl (lv_at hl 0 rfl) ?_
  refine lv_iconst (v := (0 : Int32)) Fx.1 Fx.2.1 dX2_forget_1 (by decide) ?_
  obtain ⟨g1, eg1, hf⟩ := lt_e hf
  refine gp_Pl_events Fx hC wd_79 eg1 dX2_forget_2 (fun H locs hC => ?_)
  obtain rfl := Option.some.inj hf
  exact hret _ _ _ _ dX2_forget_5 hC
/-! FretHands.string(I)I -/
abbrev rm_FH_string : Room := { frames := 1, cells := 0, slots := 0, locals := 21 }
theorem hd_FH_string : yX9_string.cls = RX9 ∧ yX9_string.cls ≠ "java/lang/invoke/MethodHandle" ∧ yX9_string.cls ≠ "java/lang/invoke/VarHandle" ∧ (parseMethodDescriptor yX9_string.desc).map (fun d => d.parameters.length) = some 1 := by decide +kernel
def p_FH_string (a1 : Int32) (g : sG) (f : sF) : Option (Int32 × sG × sF) := (if a1 < 0 then some ((-2 : Int32), g, f) else (if a1 ≤ (99 : Int32) then (if (g 3) ≤ 0 then Option.bind (p_In_addString a1 g f) (fun u1 => (if u1.1 = 0 then some ((-5 : Int32), u1.2.1, u1.2.2) else Option.bind (p_Pl_forget  u1.2.1 u1.2.2) (fun u2 => some (u2.1 0, u2.1, u2.2)))) else some ((-4 : Int32), g, f)) else some ((-2 : Int32), g, f)))
set_option maxRecDepth 100000 in
set_option maxHeartbeats 4000000 in
theorem k_FH_string {l : Launch} {D : va_G} {ad : Nat → Nat} {cy : Nat → ClassId} {a1 : Int32} {u : Int32 × sG × sF} {g : sG} {f : sF} (hf : p_FH_string a1 g f = some u) : mMi l yX9_string (Cond.code yX9_string cX9_string 2 (some .int) :: wU) rm_FH_string D (cT cy) (cW ad cy) [.ref (ad 0), .int a1] g f u := by
  refine mk_i (by decide) rfl (Nat.le_of_ble_eq_true rfl) ?_
  intro p e s m below meth c Q A H0 Fx hret ls H locs hl hC
  replace hl : lv_has ls 2 [(0, .ref (ad 0)), (1, .int a1)] := hl
  unfold p_FH_string at hf
  refine lv_iload_n Fx.1 Fx.2.1 dX9_string_0 rfl (lv_at hl 1 rfl) ?_
  refine lv_if_lt (tgt := 10) Fx.1 Fx.2.1 dX9_string_1 (by decide) (fun hc => ?_) (fun hc => ?_)
  · replace hf := ift hc hf
    refine lv_bipush (v := (-2 : Int32)) Fx.1 Fx.2.1 dX9_string_10 (by decide) ?_
    obtain rfl := Option.some.inj hf
    exact hret _ _ _ _ dX9_string_12 hC
  · replace hf := iff_ hc hf
    refine lv_iload_n Fx.1 Fx.2.1 dX9_string_4 rfl (lv_at hl 1 rfl) ?_
    refine lv_bipush (v := (99 : Int32)) Fx.1 Fx.2.1 dX9_string_5 (by decide) ?_
    refine lv_icmp_le (tgt := 13) Fx.1 Fx.2.1 dX9_string_7 (by decide) (fun hc => ?_) (fun hc => ?_)
    · replace hf := ift hc hf
      refine lv_aload_n Fx.1 Fx.2.1 dX9_string_13 rfl (lv_at hl 0 rfl) ?_
      refine gg_FH_tune Fx hC wd_204 dX9_string_14 ?_
      refine gg_Tu_events Fx hC wd_59 dX9_string_17 ?_
      refine lv_if_le (tgt := 26) Fx.1 Fx.2.1 dX9_string_20 (by decide) (fun hc => ?_) (fun hc => ?_)
      · replace hf := ift hc hf
        refine lv_aload_n Fx.1 Fx.2.1 dX9_string_26 rfl (lv_at hl 0 rfl) ?_
        refine gg_FH_instrument Fx hC wd_202 dX9_string_27 ?_
        refine lv_iload_n Fx.1 Fx.2.1 dX9_string_30 rfl (lv_at hl 1 rfl) ?_
        obtain ⟨u1, hu1, hf⟩ := bd_e hf
        refine ca_i (As := [.int a1]) (rest := []) Fx hC (k_In_addString hu1) (cVU 1 Fx.2.2.2.2 wd_224 wd_225 wd_226 wd_2 wd_227 rfl rfl hd_In_addString ⟨Nat.le_of_ble_eq_true rfl, Nat.le_of_ble_eq_true rfl⟩) 2 rfl rfl rfl hl.1 rfl (Nat.le_of_ble_eq_true rfl) dX9_string_31 (fun H locs hC => ?_)
        refine lv_if_ne (tgt := 40) Fx.1 Fx.2.1 dX9_string_34 (by decide) (fun hc => ?_) (fun hc => ?_)
        · replace hf := iff_ hc hf
          refine lv_aload_n Fx.1 Fx.2.1 dX9_string_40 rfl (lv_at hl 0 rfl) ?_
          refine gg_FH_latest Fx hC wd_205 dX9_string_41 ?_
          obtain ⟨u2, hu2, hf⟩ := bd_e hf
          refine ca_v (As := []) (rest := []) Fx hC (k_Pl_forget hu2) (cVU 0 Fx.2.2.2.2 wd_228 wd_229 wd_230 wd_4 wd_231 rfl rfl hd_Pl_forget ⟨Nat.le_of_ble_eq_true rfl, Nat.le_of_ble_eq_true rfl⟩) 8 rfl rfl rfl hl.1 rfl (Nat.le_of_ble_eq_true rfl) dX9_string_44 (fun H locs hC => ?_)
          refine lv_aload_n Fx.1 Fx.2.1 dX9_string_47 rfl (lv_at hl 0 rfl) ?_
          refine gg_FH_instrument Fx hC wd_202 dX9_string_48 ?_
          refine gg_In_strings Fx hC wd_29 dX9_string_51 ?_
          obtain rfl := Option.some.inj hf
          exact hret _ _ _ _ dX9_string_54 hC
        · replace hf := ift hc hf
          refine lv_bipush (v := (-5 : Int32)) Fx.1 Fx.2.1 dX9_string_37 (by decide) ?_
          obtain rfl := Option.some.inj hf
          exact hret _ _ _ _ dX9_string_39 hC
      · replace hf := iff_ hc hf
        refine lv_bipush (v := (-4 : Int32)) Fx.1 Fx.2.1 dX9_string_23 (by decide) ?_
        obtain rfl := Option.some.inj hf
        exact hret _ _ _ _ dX9_string_25 hC
    · replace hf := iff_ hc hf
      refine lv_bipush (v := (-2 : Int32)) Fx.1 Fx.2.1 dX9_string_10 (by decide) ?_
      obtain rfl := Option.some.inj hf
      exact hret _ _ _ _ dX9_string_12 hC
/-! FretHands.clear()I -/
abbrev rm_FH_clear : Room := { frames := 1, cells := 0, slots := 0, locals := 20 }
theorem hd_FH_clear : yX9_clear.cls = RX9 ∧ yX9_clear.cls ≠ "java/lang/invoke/MethodHandle" ∧ yX9_clear.cls ≠ "java/lang/invoke/VarHandle" ∧ (parseMethodDescriptor yX9_clear.desc).map (fun d => d.parameters.length) = some 0 := by decide +kernel
def p_FH_clear  (g : sG) (f : sF) : Option (Int32 × sG × sF) := lt_ (g 3) (fun v1 => lt_ (upd g 0 (0 : Int32)) (fun g2 => lt_ (upd g2 3 (0 : Int32)) (fun g3 => Option.bind (p_Pl_forget  g3 f) (fun u4 => some (v1, u4.1, u4.2)))))
set_option maxRecDepth 100000 in
set_option maxHeartbeats 4000000 in
theorem k_FH_clear {l : Launch} {D : va_G} {ad : Nat → Nat} {cy : Nat → ClassId}  {u : Int32 × sG × sF} {g : sG} {f : sF} (hf : p_FH_clear  g f = some u) : mMi l yX9_clear (Cond.code yX9_clear cX9_clear 2 (some .int) :: wU) rm_FH_clear D (cT cy) (cW ad cy) [.ref (ad 0)] g f u := by
  refine mk_i (by decide) rfl (Nat.le_of_ble_eq_true rfl) ?_
  intro p e s m below meth c Q A H0 Fx hret ls H locs hl hC
  replace hl : lv_has ls 2 [(0, .ref (ad 0))] := hl
  unfold p_FH_clear at hf
  refine lv_aload_n Fx.1 Fx.2.1 dX9_clear_0 rfl (lv_at hl 0 rfl) ?_
  refine gg_FH_tune Fx hC wd_204 dX9_clear_1 ?_
  refine gg_Tu_events Fx hC wd_59 dX9_clear_4 ?_
  obtain ⟨v1, ev1, hf⟩ := lt_e hf
  refine tpi ev1 ?_
  refine lv_istore_n (lv' := [(1, .int v1), (0, .ref (ad 0))]) Fx.1 Fx.2.1 dX9_clear_7 rfl hl (by decide) rfl (fun ls hl => ?_)
  refine lv_aload_n Fx.1 Fx.2.1 dX9_clear_8 rfl (lv_at hl 1 rfl) ?_
  refine gg_FH_instrument Fx hC wd_202 dX9_clear_9 ?_
  refine lv_iconst (v := (0 : Int32)) Fx.1 Fx.2.1 dX9_clear_12 (by decide) ?_
  obtain ⟨g2, eg2, hf⟩ := lt_e hf
  refine gp_In_strings Fx hC wd_29 eg2 dX9_clear_13 (fun H locs hC => ?_)
  refine lv_aload_n Fx.1 Fx.2.1 dX9_clear_16 rfl (lv_at hl 1 rfl) ?_
  refine gg_FH_tune Fx hC wd_204 dX9_clear_17 ?_
  refine lv_iconst (v := (0 : Int32)) Fx.1 Fx.2.1 dX9_clear_20 (by decide) ?_
  obtain ⟨g3, eg3, hf⟩ := lt_e hf
  refine gp_Tu_events Fx hC wd_59 eg3 dX9_clear_21 (fun H locs hC => ?_)
  refine lv_aload_n Fx.1 Fx.2.1 dX9_clear_24 rfl (lv_at hl 1 rfl) ?_
  refine gg_FH_latest Fx hC wd_205 dX9_clear_25 ?_
  obtain ⟨u4, hu4, hf⟩ := bd_e hf
  refine ca_v (As := []) (rest := []) Fx hC (k_Pl_forget hu4) (cVU 0 Fx.2.2.2.2 wd_228 wd_229 wd_230 wd_4 wd_231 rfl rfl hd_Pl_forget ⟨Nat.le_of_ble_eq_true rfl, Nat.le_of_ble_eq_true rfl⟩) 8 rfl rfl rfl hl.1 rfl (Nat.le_of_ble_eq_true rfl) dX9_clear_28 (fun H locs hC => ?_)
  refine lv_iload_n Fx.1 Fx.2.1 dX9_clear_31 rfl (lv_at hl 0 rfl) ?_
  obtain rfl := Option.some.inj hf
  exact hret _ _ _ _ dX9_clear_32 hC
/-! FretHands.neck(I)I -/
abbrev rm_FH_neck : Room := { frames := 1, cells := 0, slots := 0, locals := 20 }
theorem hd_FH_neck : yX9_neck.cls = RX9 ∧ yX9_neck.cls ≠ "java/lang/invoke/MethodHandle" ∧ yX9_neck.cls ≠ "java/lang/invoke/VarHandle" ∧ (parseMethodDescriptor yX9_neck.desc).map (fun d => d.parameters.length) = some 1 := by decide +kernel
def p_FH_neck (a1 : Int32) (g : sG) (f : sF) : Option (Int32 × sG × sF) := (if a1 < (1 : Int32) then some ((-2 : Int32), g, f) else (if (24 : Int32) < a1 then some ((-2 : Int32), g, f) else (if (g 2) < a1 then lt_ (g 1) (fun v1 => lt_ (upd g 1 a1) (fun g2 => Option.bind (p_Pl_forget  g2 f) (fun u3 => some (v1, u3.1, u3.2)))) else some ((-2 : Int32), g, f))))
set_option maxRecDepth 100000 in
set_option maxHeartbeats 4000000 in
theorem k_FH_neck {l : Launch} {D : va_G} {ad : Nat → Nat} {cy : Nat → ClassId} {a1 : Int32} {u : Int32 × sG × sF} {g : sG} {f : sF} (hf : p_FH_neck a1 g f = some u) : mMi l yX9_neck (Cond.code yX9_neck cX9_neck 3 (some .int) :: wU) rm_FH_neck D (cT cy) (cW ad cy) [.ref (ad 0), .int a1] g f u := by
  refine mk_i (by decide) rfl (Nat.le_of_ble_eq_true rfl) ?_
  intro p e s m below meth c Q A H0 Fx hret ls H locs hl hC
  replace hl : lv_has ls 3 [(0, .ref (ad 0)), (1, .int a1)] := hl
  unfold p_FH_neck at hf
  refine lv_iload_n Fx.1 Fx.2.1 dX9_neck_0 rfl (lv_at hl 1 rfl) ?_
  refine lv_iconst (v := (1 : Int32)) Fx.1 Fx.2.1 dX9_neck_1 (by decide) ?_
  refine lv_icmp_lt (tgt := 22) Fx.1 Fx.2.1 dX9_neck_2 (by decide) (fun hc => ?_) (fun hc => ?_)
  · replace hf := ift hc hf
    refine lv_bipush (v := (-2 : Int32)) Fx.1 Fx.2.1 dX9_neck_22 (by decide) ?_
    obtain rfl := Option.some.inj hf
    exact hret _ _ _ _ dX9_neck_24 hC
  · replace hf := iff_ hc hf
    refine lv_iload_n Fx.1 Fx.2.1 dX9_neck_5 rfl (lv_at hl 1 rfl) ?_
    refine lv_bipush (v := (24 : Int32)) Fx.1 Fx.2.1 dX9_neck_6 (by decide) ?_
    refine lv_icmp_gt (tgt := 22) Fx.1 Fx.2.1 dX9_neck_8 (by decide) (fun hc => ?_) (fun hc => ?_)
    · replace hf := ift hc hf
      refine lv_bipush (v := (-2 : Int32)) Fx.1 Fx.2.1 dX9_neck_22 (by decide) ?_
      obtain rfl := Option.some.inj hf
      exact hret _ _ _ _ dX9_neck_24 hC
    · replace hf := iff_ hc hf
      refine lv_iload_n Fx.1 Fx.2.1 dX9_neck_11 rfl (lv_at hl 1 rfl) ?_
      refine lv_aload_n Fx.1 Fx.2.1 dX9_neck_12 rfl (lv_at hl 0 rfl) ?_
      refine gg_FH_instrument Fx hC wd_202 dX9_neck_13 ?_
      refine gg_In_capoFret Fx hC wd_38 dX9_neck_16 ?_
      refine lv_icmp_gt (tgt := 25) Fx.1 Fx.2.1 dX9_neck_19 (by decide) (fun hc => ?_) (fun hc => ?_)
      · replace hf := ift hc hf
        refine lv_aload_n Fx.1 Fx.2.1 dX9_neck_25 rfl (lv_at hl 0 rfl) ?_
        refine gg_FH_instrument Fx hC wd_202 dX9_neck_26 ?_
        refine gg_In_lastFret Fx hC wd_33 dX9_neck_29 ?_
        obtain ⟨v1, ev1, hf⟩ := lt_e hf
        refine tpi ev1 ?_
        refine lv_istore_n (lv' := [(2, .int v1), (0, .ref (ad 0)), (1, .int a1)]) Fx.1 Fx.2.1 dX9_neck_32 rfl hl (by decide) rfl (fun ls hl => ?_)
        refine lv_aload_n Fx.1 Fx.2.1 dX9_neck_33 rfl (lv_at hl 1 rfl) ?_
        refine gg_FH_instrument Fx hC wd_202 dX9_neck_34 ?_
        refine lv_iload_n Fx.1 Fx.2.1 dX9_neck_37 rfl (lv_at hl 2 rfl) ?_
        obtain ⟨g2, eg2, hf⟩ := lt_e hf
        refine gp_In_lastFret Fx hC wd_33 eg2 dX9_neck_38 (fun H locs hC => ?_)
        refine lv_aload_n Fx.1 Fx.2.1 dX9_neck_41 rfl (lv_at hl 1 rfl) ?_
        refine gg_FH_latest Fx hC wd_205 dX9_neck_42 ?_
        obtain ⟨u3, hu3, hf⟩ := bd_e hf
        refine ca_v (As := []) (rest := []) Fx hC (k_Pl_forget hu3) (cVU 0 Fx.2.2.2.2 wd_228 wd_229 wd_230 wd_4 wd_231 rfl rfl hd_Pl_forget ⟨Nat.le_of_ble_eq_true rfl, Nat.le_of_ble_eq_true rfl⟩) 8 rfl rfl rfl hl.1 rfl (Nat.le_of_ble_eq_true rfl) dX9_neck_45 (fun H locs hC => ?_)
        refine lv_iload_n Fx.1 Fx.2.1 dX9_neck_48 rfl (lv_at hl 0 rfl) ?_
        obtain rfl := Option.some.inj hf
        exact hret _ _ _ _ dX9_neck_49 hC
      · replace hf := iff_ hc hf
        refine lv_bipush (v := (-2 : Int32)) Fx.1 Fx.2.1 dX9_neck_22 (by decide) ?_
        obtain rfl := Option.some.inj hf
        exact hret _ _ _ _ dX9_neck_24 hC
/-! FretHands.capo(I)I -/
abbrev rm_FH_capo : Room := { frames := 1, cells := 0, slots := 0, locals := 20 }
theorem hd_FH_capo : yX9_capo.cls = RX9 ∧ yX9_capo.cls ≠ "java/lang/invoke/MethodHandle" ∧ yX9_capo.cls ≠ "java/lang/invoke/VarHandle" ∧ (parseMethodDescriptor yX9_capo.desc).map (fun d => d.parameters.length) = some 1 := by decide +kernel
def p_FH_capo (a1 : Int32) (g : sG) (f : sF) : Option (Int32 × sG × sF) := (if a1 < 0 then some ((-2 : Int32), g, f) else (if a1 < (g 1) then lt_ (g 2) (fun v1 => lt_ (upd g 2 a1) (fun g2 => Option.bind (p_Pl_forget  g2 f) (fun u3 => some (v1, u3.1, u3.2)))) else some ((-2 : Int32), g, f)))
set_option maxRecDepth 100000 in
set_option maxHeartbeats 4000000 in
theorem k_FH_capo {l : Launch} {D : va_G} {ad : Nat → Nat} {cy : Nat → ClassId} {a1 : Int32} {u : Int32 × sG × sF} {g : sG} {f : sF} (hf : p_FH_capo a1 g f = some u) : mMi l yX9_capo (Cond.code yX9_capo cX9_capo 3 (some .int) :: wU) rm_FH_capo D (cT cy) (cW ad cy) [.ref (ad 0), .int a1] g f u := by
  refine mk_i (by decide) rfl (Nat.le_of_ble_eq_true rfl) ?_
  intro p e s m below meth c Q A H0 Fx hret ls H locs hl hC
  replace hl : lv_has ls 3 [(0, .ref (ad 0)), (1, .int a1)] := hl
  unfold p_FH_capo at hf
  refine lv_iload_n Fx.1 Fx.2.1 dX9_capo_0 rfl (lv_at hl 1 rfl) ?_
  refine lv_if_lt (tgt := 15) Fx.1 Fx.2.1 dX9_capo_1 (by decide) (fun hc => ?_) (fun hc => ?_)
  · replace hf := ift hc hf
    refine lv_bipush (v := (-2 : Int32)) Fx.1 Fx.2.1 dX9_capo_15 (by decide) ?_
    obtain rfl := Option.some.inj hf
    exact hret _ _ _ _ dX9_capo_17 hC
  · replace hf := iff_ hc hf
    refine lv_iload_n Fx.1 Fx.2.1 dX9_capo_4 rfl (lv_at hl 1 rfl) ?_
    refine lv_aload_n Fx.1 Fx.2.1 dX9_capo_5 rfl (lv_at hl 0 rfl) ?_
    refine gg_FH_instrument Fx hC wd_202 dX9_capo_6 ?_
    refine gg_In_lastFret Fx hC wd_33 dX9_capo_9 ?_
    refine lv_icmp_lt (tgt := 18) Fx.1 Fx.2.1 dX9_capo_12 (by decide) (fun hc => ?_) (fun hc => ?_)
    · replace hf := ift hc hf
      refine lv_aload_n Fx.1 Fx.2.1 dX9_capo_18 rfl (lv_at hl 0 rfl) ?_
      refine gg_FH_instrument Fx hC wd_202 dX9_capo_19 ?_
      refine gg_In_capoFret Fx hC wd_38 dX9_capo_22 ?_
      obtain ⟨v1, ev1, hf⟩ := lt_e hf
      refine tpi ev1 ?_
      refine lv_istore_n (lv' := [(2, .int v1), (0, .ref (ad 0)), (1, .int a1)]) Fx.1 Fx.2.1 dX9_capo_25 rfl hl (by decide) rfl (fun ls hl => ?_)
      refine lv_aload_n Fx.1 Fx.2.1 dX9_capo_26 rfl (lv_at hl 1 rfl) ?_
      refine gg_FH_instrument Fx hC wd_202 dX9_capo_27 ?_
      refine lv_iload_n Fx.1 Fx.2.1 dX9_capo_30 rfl (lv_at hl 2 rfl) ?_
      obtain ⟨g2, eg2, hf⟩ := lt_e hf
      refine gp_In_capoFret Fx hC wd_38 eg2 dX9_capo_31 (fun H locs hC => ?_)
      refine lv_aload_n Fx.1 Fx.2.1 dX9_capo_34 rfl (lv_at hl 1 rfl) ?_
      refine gg_FH_latest Fx hC wd_205 dX9_capo_35 ?_
      obtain ⟨u3, hu3, hf⟩ := bd_e hf
      refine ca_v (As := []) (rest := []) Fx hC (k_Pl_forget hu3) (cVU 0 Fx.2.2.2.2 wd_228 wd_229 wd_230 wd_4 wd_231 rfl rfl hd_Pl_forget ⟨Nat.le_of_ble_eq_true rfl, Nat.le_of_ble_eq_true rfl⟩) 8 rfl rfl rfl hl.1 rfl (Nat.le_of_ble_eq_true rfl) dX9_capo_38 (fun H locs hC => ?_)
      refine lv_iload_n Fx.1 Fx.2.1 dX9_capo_41 rfl (lv_at hl 0 rfl) ?_
      obtain rfl := Option.some.inj hf
      exact hret _ _ _ _ dX9_capo_42 hC
    · replace hf := iff_ hc hf
      refine lv_bipush (v := (-2 : Int32)) Fx.1 Fx.2.1 dX9_capo_15 (by decide) ?_
      obtain rfl := Option.some.inj hf
      exact hret _ _ _ _ dX9_capo_17 hC
/-! FretHands.weight(II)I -/
abbrev rm_FH_weight : Room := { frames := 1, cells := 0, slots := 0, locals := 20 }
theorem hd_FH_weight : yX9_weight.cls = RX9 ∧ yX9_weight.cls ≠ "java/lang/invoke/MethodHandle" ∧ yX9_weight.cls ≠ "java/lang/invoke/VarHandle" ∧ (parseMethodDescriptor yX9_weight.desc).map (fun d => d.parameters.length) = some 2 := by decide +kernel
def p_FH_weight (a1 : Int32) (a2 : Int32) (g : sG) (f : sF) : Option (Int32 × sG × sF) := (if a1 < 0 then some ((-2 : Int32), g, f) else (if (4 : Int32) ≤ a1 then some ((-2 : Int32), g, f) else (if a2 < 0 then some ((-2 : Int32), g, f) else (if a2 ≤ (20 : Int32) then (if a1 < 0 ∨ 4 ≤ a1.toNatClampNeg then none else lt_ (f 0 a1.toNatClampNeg) (fun v2 => (if a1 < 0 ∨ 4 ≤ a1.toNatClampNeg then none else lt_ (up2 f 0 a1.toNatClampNeg a2) (fun f4 => Option.bind (p_Pl_forget  g f4) (fun u5 => some (v2, u5.1, u5.2)))))) else some ((-2 : Int32), g, f)))))
set_option maxRecDepth 100000 in
set_option maxHeartbeats 4000000 in
theorem k_FH_weight {l : Launch} {D : va_G} {ad : Nat → Nat} {cy : Nat → ClassId} {a1 : Int32} {a2 : Int32} {u : Int32 × sG × sF} {g : sG} {f : sF} (hf : p_FH_weight a1 a2 g f = some u) : mMi l yX9_weight (Cond.code yX9_weight cX9_weight 4 (some .int) :: wU) rm_FH_weight D (cT cy) (cW ad cy) [.ref (ad 0), .int a1, .int a2] g f u := by
  refine mk_i (by decide) rfl (Nat.le_of_ble_eq_true rfl) ?_
  intro p e s m below meth c Q A H0 Fx hret ls H locs hl hC
  replace hl : lv_has ls 4 [(0, .ref (ad 0)), (1, .int a1), (2, .int a2)] := hl
  unfold p_FH_weight at hf
  refine lv_iload_n Fx.1 Fx.2.1 dX9_weight_0 rfl (lv_at hl 1 rfl) ?_
  refine lv_if_lt (tgt := 19) Fx.1 Fx.2.1 dX9_weight_1 (by decide) (fun hc => ?_) (fun hc => ?_)
  · replace hf := ift hc hf
    refine lv_bipush (v := (-2 : Int32)) Fx.1 Fx.2.1 dX9_weight_19 (by decide) ?_
    obtain rfl := Option.some.inj hf
    exact hret _ _ _ _ dX9_weight_21 hC
  · replace hf := iff_ hc hf
    refine lv_iload_n Fx.1 Fx.2.1 dX9_weight_4 rfl (lv_at hl 1 rfl) ?_
    refine lv_iconst (v := (4 : Int32)) Fx.1 Fx.2.1 dX9_weight_5 (by decide) ?_
    refine lv_icmp_ge (tgt := 19) Fx.1 Fx.2.1 dX9_weight_6 (by decide) (fun hc => ?_) (fun hc => ?_)
    · replace hf := ift hc hf
      refine lv_bipush (v := (-2 : Int32)) Fx.1 Fx.2.1 dX9_weight_19 (by decide) ?_
      obtain rfl := Option.some.inj hf
      exact hret _ _ _ _ dX9_weight_21 hC
    · replace hf := iff_ hc hf
      refine lv_iload_n Fx.1 Fx.2.1 dX9_weight_9 rfl (lv_at hl 2 rfl) ?_
      refine lv_if_lt (tgt := 19) Fx.1 Fx.2.1 dX9_weight_10 (by decide) (fun hc => ?_) (fun hc => ?_)
      · replace hf := ift hc hf
        refine lv_bipush (v := (-2 : Int32)) Fx.1 Fx.2.1 dX9_weight_19 (by decide) ?_
        obtain rfl := Option.some.inj hf
        exact hret _ _ _ _ dX9_weight_21 hC
      · replace hf := iff_ hc hf
        refine lv_iload_n Fx.1 Fx.2.1 dX9_weight_13 rfl (lv_at hl 2 rfl) ?_
        refine lv_bipush (v := (20 : Int32)) Fx.1 Fx.2.1 dX9_weight_14 (by decide) ?_
        refine lv_icmp_le (tgt := 22) Fx.1 Fx.2.1 dX9_weight_16 (by decide) (fun hc => ?_) (fun hc => ?_)
        · replace hf := ift hc hf
          refine lv_aload_n Fx.1 Fx.2.1 dX9_weight_22 rfl (lv_at hl 0 rfl) ?_
          refine gg_FH_weights Fx hC wd_203 dX9_weight_23 ?_
          refine lv_iload_n Fx.1 Fx.2.1 dX9_weight_26 rfl (lv_at hl 1 rfl) ?_
          obtain ⟨hi1, hf⟩ := gd_e hf
          refine ld_FH_weights Fx hC hi1 dX9_weight_27 ?_
          obtain ⟨v2, ev2, hf⟩ := lt_e hf
          refine tpi ev2 ?_
          refine lv_istore_n (lv' := [(3, .int v2), (0, .ref (ad 0)), (1, .int a1), (2, .int a2)]) Fx.1 Fx.2.1 dX9_weight_28 rfl hl (by decide) rfl (fun ls hl => ?_)
          refine lv_aload_n Fx.1 Fx.2.1 dX9_weight_29 rfl (lv_at hl 1 rfl) ?_
          refine gg_FH_weights Fx hC wd_203 dX9_weight_30 ?_
          refine lv_iload_n Fx.1 Fx.2.1 dX9_weight_33 rfl (lv_at hl 2 rfl) ?_
          refine lv_iload_n Fx.1 Fx.2.1 dX9_weight_34 rfl (lv_at hl 3 rfl) ?_
          obtain ⟨hi3, hf⟩ := gd_e hf
          obtain ⟨f4, ef4, hf⟩ := lt_e hf
          refine st_FH_weights Fx hC hi3 ef4 dX9_weight_35 (fun H locs hC => ?_)
          refine lv_aload_n Fx.1 Fx.2.1 dX9_weight_36 rfl (lv_at hl 1 rfl) ?_
          refine gg_FH_latest Fx hC wd_205 dX9_weight_37 ?_
          obtain ⟨u5, hu5, hf⟩ := bd_e hf
          refine ca_v (As := []) (rest := []) Fx hC (k_Pl_forget hu5) (cVU 0 Fx.2.2.2.2 wd_228 wd_229 wd_230 wd_4 wd_231 rfl rfl hd_Pl_forget ⟨Nat.le_of_ble_eq_true rfl, Nat.le_of_ble_eq_true rfl⟩) 8 rfl rfl rfl hl.1 rfl (Nat.le_of_ble_eq_true rfl) dX9_weight_40 (fun H locs hC => ?_)
          refine lv_iload_n Fx.1 Fx.2.1 dX9_weight_43 rfl (lv_at hl 0 rfl) ?_
          obtain rfl := Option.some.inj hf
          exact hret _ _ _ _ dX9_weight_44 hC
        · replace hf := iff_ hc hf
          refine lv_bipush (v := (-2 : Int32)) Fx.1 Fx.2.1 dX9_weight_19 (by decide) ?_
          obtain rfl := Option.some.inj hf
          exact hret _ _ _ _ dX9_weight_21 hC
/-! FretHands.isPitch(I)Z -/
abbrev rm_FH_isPitch : Room := { frames := 0, cells := 0, slots := 0, locals := 0 }
theorem hd_FH_isPitch : yX9_isPitch.cls ≠ "java/lang/invoke/MethodHandle" ∧ yX9_isPitch.cls ≠ "java/lang/invoke/VarHandle" ∧ (parseMethodDescriptor yX9_isPitch.desc).map (fun d => d.parameters.length) = some 1 := by decide +kernel
def p_FH_isPitch (a1 : Int32) (g : sG) (f : sF) : Option (Int32) := (if a1 < 0 then some (0 : Int32) else (if (123 : Int32) < a1 then some (0 : Int32) else some (1 : Int32)))
set_option maxRecDepth 100000 in
set_option maxHeartbeats 4000000 in
theorem k_FH_isPitch {l : Launch} {D : va_G} {ad : Nat → Nat} {cy : Nat → ClassId} {a1 : Int32} {r : Int32} {g : sG} {f : sF} (hf : p_FH_isPitch a1 g f = some r) : mMi l yX9_isPitch (Cond.code yX9_isPitch cX9_isPitch 1 (some .boolean) :: wU) rm_FH_isPitch D (cT cy) (cW ad cy) [.int a1] g f (r, g, f) := by
  refine mk_z (by decide) rfl (Nat.le_of_ble_eq_true rfl) ?_
  intro p e s m below meth c Q A H0 Fx hret ls H locs hl hC
  replace hl : lv_has ls 1 [(0, .int a1)] := hl
  unfold p_FH_isPitch at hf
  refine lv_iload_n Fx.1 Fx.2.1 dX9_isPitch_0 rfl (lv_at hl 0 rfl) ?_
  refine lv_if_lt (tgt := 14) Fx.1 Fx.2.1 dX9_isPitch_1 (by decide) (fun hc => ?_) (fun hc => ?_)
  · replace hf := ift hc hf
    refine lv_iconst (v := (0 : Int32)) Fx.1 Fx.2.1 dX9_isPitch_14 (by decide) ?_
    obtain rfl := Option.some.inj hf
    exact hret _ _ _ _ dX9_isPitch_15 z01_0 hC
  · replace hf := iff_ hc hf
    refine lv_iload_n Fx.1 Fx.2.1 dX9_isPitch_4 rfl (lv_at hl 0 rfl) ?_
    refine lv_bipush (v := (123 : Int32)) Fx.1 Fx.2.1 dX9_isPitch_5 (by decide) ?_
    refine lv_icmp_gt (tgt := 14) Fx.1 Fx.2.1 dX9_isPitch_7 (by decide) (fun hc => ?_) (fun hc => ?_)
    · replace hf := ift hc hf
      refine lv_iconst (v := (0 : Int32)) Fx.1 Fx.2.1 dX9_isPitch_14 (by decide) ?_
      obtain rfl := Option.some.inj hf
      exact hret _ _ _ _ dX9_isPitch_15 z01_0 hC
    · replace hf := iff_ hc hf
      refine lv_iconst (v := (1 : Int32)) Fx.1 Fx.2.1 dX9_isPitch_10 (by decide) ?_
      refine lv_goto (tgt := 15) Fx.1 Fx.2.1 dX9_isPitch_11 (by decide) ?_
      obtain rfl := Option.some.inj hf
      exact hret _ _ _ _ dX9_isPitch_15 z01_1 hC
/-! FretHands$Tune.addEvent()Z -/
abbrev rm_Tu_addEvent : Room := { frames := 0, cells := 0, slots := 0, locals := 0 }
theorem hd_Tu_addEvent : yX8_addEvent.cls = RX8 ∧ yX8_addEvent.cls ≠ "java/lang/invoke/MethodHandle" ∧ yX8_addEvent.cls ≠ "java/lang/invoke/VarHandle" ∧ (parseMethodDescriptor yX8_addEvent.desc).map (fun d => d.parameters.length) = some 0 := by decide +kernel
def p_Tu_addEvent  (g : sG) (f : sF) : Option (Int32 × sG × sF) := (if (g 3) < (40 : Int32) then (if (g 3) < 0 ∨ 40 ≤ (g 3).toNatClampNeg then none else lt_ (up2 f 2 (g 3).toNatClampNeg (0 : Int32)) (fun f2 => lt_ (upd g 3 ((g 3) + (1 : Int32))) (fun g3 => some ((1 : Int32), g3, f2)))) else some ((0 : Int32), g, f))
set_option maxRecDepth 100000 in
set_option maxHeartbeats 4000000 in
theorem k_Tu_addEvent {l : Launch} {D : va_G} {ad : Nat → Nat} {cy : Nat → ClassId}  {u : Int32 × sG × sF} {g : sG} {f : sF} (hf : p_Tu_addEvent  g f = some u) : mMi l yX8_addEvent (Cond.code yX8_addEvent cX8_addEvent 1 (some .boolean) :: wU) rm_Tu_addEvent D (cT cy) (cW ad cy) [.ref (ad 4)] g f u := by
  refine mk_z (by decide) rfl (Nat.le_of_ble_eq_true rfl) ?_
  intro p e s m below meth c Q A H0 Fx hret ls H locs hl hC
  replace hl : lv_has ls 1 [(0, .ref (ad 4))] := hl
  unfold p_Tu_addEvent at hf
  refine lv_aload_n Fx.1 Fx.2.1 dX8_addEvent_0 rfl (lv_at hl 0 rfl) ?_
  refine gg_Tu_events Fx hC wd_56 dX8_addEvent_1 ?_
  refine lv_bipush (v := (40 : Int32)) Fx.1 Fx.2.1 dX8_addEvent_4 (by decide) ?_
  refine lv_icmp_lt (tgt := 11) Fx.1 Fx.2.1 dX8_addEvent_6 (by decide) (fun hc => ?_) (fun hc => ?_)
  · replace hf := ift hc hf
    refine lv_aload_n Fx.1 Fx.2.1 dX8_addEvent_11 rfl (lv_at hl 0 rfl) ?_
    refine gg_Tu_sizes Fx hC wd_53 dX8_addEvent_12 ?_
    refine lv_aload_n Fx.1 Fx.2.1 dX8_addEvent_15 rfl (lv_at hl 0 rfl) ?_
    refine gg_Tu_events Fx hC wd_56 dX8_addEvent_16 ?_
    refine lv_iconst (v := (0 : Int32)) Fx.1 Fx.2.1 dX8_addEvent_19 (by decide) ?_
    obtain ⟨hi1, hf⟩ := gd_e hf
    obtain ⟨f2, ef2, hf⟩ := lt_e hf
    refine st_Tu_sizes Fx hC hi1 ef2 dX8_addEvent_20 (fun H locs hC => ?_)
    refine lv_aload_n Fx.1 Fx.2.1 dX8_addEvent_21 rfl (lv_at hl 0 rfl) ?_
    refine lv_dup Fx.1 Fx.2.1 dX8_addEvent_22 rfl ?_
    refine gg_Tu_events Fx hC wd_56 dX8_addEvent_23 ?_
    refine lv_iconst (v := (1 : Int32)) Fx.1 Fx.2.1 dX8_addEvent_26 (by decide) ?_
    refine lv_iadd Fx.1 Fx.2.1 dX8_addEvent_27 ?_
    obtain ⟨g3, eg3, hf⟩ := lt_e hf
    refine gp_Tu_events Fx hC wd_56 eg3 dX8_addEvent_28 (fun H locs hC => ?_)
    refine lv_iconst (v := (1 : Int32)) Fx.1 Fx.2.1 dX8_addEvent_31 (by decide) ?_
    obtain rfl := Option.some.inj hf
    exact hret _ _ _ _ dX8_addEvent_32 z01_1 hC
  · replace hf := iff_ hc hf
    refine lv_iconst (v := (0 : Int32)) Fx.1 Fx.2.1 dX8_addEvent_9 (by decide) ?_
    obtain rfl := Option.some.inj hf
    exact hret _ _ _ _ dX8_addEvent_10 z01_0 hC
/-! FretHands$Tune.addPitch(II)Z -/
abbrev rm_Tu_addPitch : Room := { frames := 0, cells := 0, slots := 0, locals := 0 }
theorem hd_Tu_addPitch : yX8_addPitch.cls = RX8 ∧ yX8_addPitch.cls ≠ "java/lang/invoke/MethodHandle" ∧ yX8_addPitch.cls ≠ "java/lang/invoke/VarHandle" ∧ (parseMethodDescriptor yX8_addPitch.desc).map (fun d => d.parameters.length) = some 2 := by decide +kernel
def p_Tu_addPitch (a1 : Int32) (a2 : Int32) (g : sG) (f : sF) : Option (Int32 × sG × sF) := lt_ ((g 3) - (1 : Int32)) (fun v1 => (if v1 < 0 then some ((0 : Int32), g, f) else (if v1 < 0 ∨ 40 ≤ v1.toNatClampNeg then none else (if (f 2 v1.toNatClampNeg) < (4 : Int32) then (if v1 < 0 ∨ 40 ≤ v1.toNatClampNeg then none else lt_ ((v1 * (4 : Int32)) + (f 2 v1.toNatClampNeg)) (fun v4 => (if v4 < 0 ∨ 160 ≤ v4.toNatClampNeg then none else lt_ (up2 f 3 v4.toNatClampNeg a1) (fun f6 => (if v4 < 0 ∨ 160 ≤ v4.toNatClampNeg then none else lt_ (up2 f6 4 v4.toNatClampNeg a2) (fun f8 => (if v1 < 0 ∨ 40 ≤ v1.toNatClampNeg then none else (if v1 < 0 ∨ 40 ≤ v1.toNatClampNeg then none else lt_ (up2 f8 2 v1.toNatClampNeg ((f8 2 v1.toNatClampNeg) + (1 : Int32))) (fun f11 => some ((1 : Int32), g, f11)))))))))) else some ((0 : Int32), g, f)))))
set_option maxRecDepth 100000 in
set_option maxHeartbeats 4000000 in
theorem k_Tu_addPitch {l : Launch} {D : va_G} {ad : Nat → Nat} {cy : Nat → ClassId} {a1 : Int32} {a2 : Int32} {u : Int32 × sG × sF} {g : sG} {f : sF} (hf : p_Tu_addPitch a1 a2 g f = some u) : mMi l yX8_addPitch (Cond.code yX8_addPitch cX8_addPitch 5 (some .boolean) :: wU) rm_Tu_addPitch D (cT cy) (cW ad cy) [.ref (ad 4), .int a1, .int a2] g f u := by
  refine mk_z (by decide) rfl (Nat.le_of_ble_eq_true rfl) ?_
  intro p e s m below meth c Q A H0 Fx hret ls H locs hl hC
  replace hl : lv_has ls 5 [(0, .ref (ad 4)), (1, .int a1), (2, .int a2)] := hl
  unfold p_Tu_addPitch at hf
  refine lv_aload_n Fx.1 Fx.2.1 dX8_addPitch_0 rfl (lv_at hl 0 rfl) ?_
  refine gg_Tu_events Fx hC wd_56 dX8_addPitch_1 ?_
  refine lv_iconst (v := (1 : Int32)) Fx.1 Fx.2.1 dX8_addPitch_4 (by decide) ?_
  refine lv_isub Fx.1 Fx.2.1 dX8_addPitch_5 ?_
  obtain ⟨v1, ev1, hf⟩ := lt_e hf
  refine tpi ev1 ?_
  refine lv_istore_n (lv' := [(3, .int v1), (0, .ref (ad 4)), (1, .int a1), (2, .int a2)]) Fx.1 Fx.2.1 dX8_addPitch_6 rfl hl (by decide) rfl (fun ls hl => ?_)
  refine lv_iload_n Fx.1 Fx.2.1 dX8_addPitch_7 rfl (lv_at hl 0 rfl) ?_
  refine lv_if_lt (tgt := 21) Fx.1 Fx.2.1 dX8_addPitch_8 (by decide) (fun hc => ?_) (fun hc => ?_)
  · replace hf := ift hc hf
    refine lv_iconst (v := (0 : Int32)) Fx.1 Fx.2.1 dX8_addPitch_21 (by decide) ?_
    obtain rfl := Option.some.inj hf
    exact hret _ _ _ _ dX8_addPitch_22 z01_0 hC
  · replace hf := iff_ hc hf
    refine lv_aload_n Fx.1 Fx.2.1 dX8_addPitch_11 rfl (lv_at hl 1 rfl) ?_
    refine gg_Tu_sizes Fx hC wd_53 dX8_addPitch_12 ?_
    refine lv_iload_n Fx.1 Fx.2.1 dX8_addPitch_15 rfl (lv_at hl 0 rfl) ?_
    obtain ⟨hi2, hf⟩ := gd_e hf
    refine ld_Tu_sizes Fx hC hi2 dX8_addPitch_16 ?_
    refine lv_iconst (v := (4 : Int32)) Fx.1 Fx.2.1 dX8_addPitch_17 (by decide) ?_
    refine lv_icmp_lt (tgt := 23) Fx.1 Fx.2.1 dX8_addPitch_18 (by decide) (fun hc => ?_) (fun hc => ?_)
    · replace hf := ift hc hf
      refine lv_iload_n Fx.1 Fx.2.1 dX8_addPitch_23 rfl (lv_at hl 0 rfl) ?_
      refine lv_iconst (v := (4 : Int32)) Fx.1 Fx.2.1 dX8_addPitch_24 (by decide) ?_
      refine lv_imul Fx.1 Fx.2.1 dX8_addPitch_25 ?_
      refine lv_aload_n Fx.1 Fx.2.1 dX8_addPitch_26 rfl (lv_at hl 1 rfl) ?_
      refine gg_Tu_sizes Fx hC wd_53 dX8_addPitch_27 ?_
      refine lv_iload_n Fx.1 Fx.2.1 dX8_addPitch_30 rfl (lv_at hl 0 rfl) ?_
      obtain ⟨hi3, hf⟩ := gd_e hf
      refine ld_Tu_sizes Fx hC hi3 dX8_addPitch_31 ?_
      refine lv_iadd Fx.1 Fx.2.1 dX8_addPitch_32 ?_
      obtain ⟨v4, ev4, hf⟩ := lt_e hf
      refine tpi ev4 ?_
      refine lv_istore (lv' := [(4, .int v4), (3, .int v1), (0, .ref (ad 4)), (1, .int a1), (2, .int a2)]) Fx.1 Fx.2.1 dX8_addPitch_33 hl (by decide) rfl (fun ls hl => ?_)
      refine lv_aload_n Fx.1 Fx.2.1 dX8_addPitch_35 rfl (lv_at hl 2 rfl) ?_
      refine gg_Tu_pitches Fx hC wd_54 dX8_addPitch_36 ?_
      refine lv_iload Fx.1 Fx.2.1 dX8_addPitch_39 (lv_at hl 0 rfl) ?_
      refine lv_iload_n Fx.1 Fx.2.1 dX8_addPitch_41 rfl (lv_at hl 3 rfl) ?_
      obtain ⟨hi5, hf⟩ := gd_e hf
      obtain ⟨f6, ef6, hf⟩ := lt_e hf
      refine st_Tu_pitches Fx hC hi5 ef6 dX8_addPitch_42 (fun H locs hC => ?_)
      refine lv_aload_n Fx.1 Fx.2.1 dX8_addPitch_43 rfl (lv_at hl 2 rfl) ?_
      refine gg_Tu_bonds Fx hC wd_55 dX8_addPitch_44 ?_
      refine lv_iload Fx.1 Fx.2.1 dX8_addPitch_47 (lv_at hl 0 rfl) ?_
      refine lv_iload_n Fx.1 Fx.2.1 dX8_addPitch_49 rfl (lv_at hl 4 rfl) ?_
      obtain ⟨hi7, hf⟩ := gd_e hf
      obtain ⟨f8, ef8, hf⟩ := lt_e hf
      refine st_Tu_bonds Fx hC hi7 ef8 dX8_addPitch_50 (fun H locs hC => ?_)
      refine lv_aload_n Fx.1 Fx.2.1 dX8_addPitch_51 rfl (lv_at hl 2 rfl) ?_
      refine gg_Tu_sizes Fx hC wd_53 dX8_addPitch_52 ?_
      refine lv_iload_n Fx.1 Fx.2.1 dX8_addPitch_55 rfl (lv_at hl 1 rfl) ?_
      refine lv_dup2_11 Fx.1 Fx.2.1 dX8_addPitch_56 rfl rfl ?_
      obtain ⟨hi9, hf⟩ := gd_e hf
      refine ld_Tu_sizes Fx hC hi9 dX8_addPitch_57 ?_
      refine lv_iconst (v := (1 : Int32)) Fx.1 Fx.2.1 dX8_addPitch_58 (by decide) ?_
      refine lv_iadd Fx.1 Fx.2.1 dX8_addPitch_59 ?_
      obtain ⟨hi10, hf⟩ := gd_e hf
      obtain ⟨f11, ef11, hf⟩ := lt_e hf
      refine st_Tu_sizes Fx hC hi10 ef11 dX8_addPitch_60 (fun H locs hC => ?_)
      refine lv_iconst (v := (1 : Int32)) Fx.1 Fx.2.1 dX8_addPitch_61 (by decide) ?_
      obtain rfl := Option.some.inj hf
      exact hret _ _ _ _ dX8_addPitch_62 z01_1 hC
    · replace hf := iff_ hc hf
      refine lv_iconst (v := (0 : Int32)) Fx.1 Fx.2.1 dX8_addPitch_21 (by decide) ?_
      obtain rfl := Option.some.inj hf
      exact hret _ _ _ _ dX8_addPitch_22 z01_0 hC
/-! FretHands.event(I)I -/
abbrev rm_FH_event : Room := { frames := 1, cells := 0, slots := 0, locals := 24 }
theorem hd_FH_event : yX9_event.cls = RX9 ∧ yX9_event.cls ≠ "java/lang/invoke/MethodHandle" ∧ yX9_event.cls ≠ "java/lang/invoke/VarHandle" ∧ (parseMethodDescriptor yX9_event.desc).map (fun d => d.parameters.length) = some 1 := by decide +kernel
def p_FH_event (a1 : Int32) (g : sG) (f : sF) : Option (Int32 × sG × sF) := Option.bind (p_FH_isPitch a1 g f) (fun u1 => (if u1 = 0 then some ((-2 : Int32), g, f) else Option.bind (p_Tu_addEvent  g f) (fun u2 => (if u2.1 = 0 then some ((-5 : Int32), u2.2.1, u2.2.2) else Option.bind (p_Tu_addPitch a1 (-1 : Int32) u2.2.1 u2.2.2) (fun u3 => Option.bind (p_Pl_forget  u3.2.1 u3.2.2) (fun u4 => some ((u4.1 3) - (1 : Int32), u4.1, u4.2)))))))
set_option maxRecDepth 100000 in
set_option maxHeartbeats 4000000 in
theorem k_FH_event {l : Launch} {D : va_G} {ad : Nat → Nat} {cy : Nat → ClassId} {a1 : Int32} {u : Int32 × sG × sF} {g : sG} {f : sF} (hf : p_FH_event a1 g f = some u) : mMi l yX9_event (Cond.code yX9_event cX9_event 2 (some .int) :: wU) rm_FH_event D (cT cy) (cW ad cy) [.ref (ad 0), .int a1] g f u := by
  refine mk_i (by decide) rfl (Nat.le_of_ble_eq_true rfl) ?_
  intro p e s m below meth c Q A H0 Fx hret ls H locs hl hC
  replace hl : lv_has ls 2 [(0, .ref (ad 0)), (1, .int a1)] := hl
  unfold p_FH_event at hf
  refine lv_iload_n Fx.1 Fx.2.1 dX9_event_0 rfl (lv_at hl 1 rfl) ?_
  obtain ⟨u1, hu1, hf⟩ := bd_e hf
  refine ca_s (As := [.int a1]) (rest := []) Fx hC (k_FH_isPitch hu1) (cSU 1 Fx.2.2.2.2 wd_252 wd_253 wd_1 wd_254 rfl rfl hd_FH_isPitch ⟨Nat.le_of_ble_eq_true rfl, Nat.le_of_ble_eq_true rfl⟩) rfl hl.1 rfl (Nat.le_of_ble_eq_true rfl) dX9_event_1 (fun H locs hC => ?_)
  refine lv_if_ne (tgt := 10) Fx.1 Fx.2.1 dX9_event_4 (by decide) (fun hc => ?_) (fun hc => ?_)
  · replace hf := iff_ hc hf
    refine lv_aload_n Fx.1 Fx.2.1 dX9_event_10 rfl (lv_at hl 0 rfl) ?_
    refine gg_FH_tune Fx hC wd_204 dX9_event_11 ?_
    obtain ⟨u2, hu2, hf⟩ := bd_e hf
    refine ca_i (As := []) (rest := []) Fx hC (k_Tu_addEvent hu2) (cVU 0 Fx.2.2.2.2 wd_255 wd_256 wd_257 wd_3 wd_258 rfl rfl hd_Tu_addEvent ⟨Nat.le_of_ble_eq_true rfl, Nat.le_of_ble_eq_true rfl⟩) 4 rfl rfl rfl hl.1 rfl (Nat.le_of_ble_eq_true rfl) dX9_event_14 (fun H locs hC => ?_)
    refine lv_if_ne (tgt := 23) Fx.1 Fx.2.1 dX9_event_17 (by decide) (fun hc => ?_) (fun hc => ?_)
    · replace hf := iff_ hc hf
      refine lv_aload_n Fx.1 Fx.2.1 dX9_event_23 rfl (lv_at hl 0 rfl) ?_
      refine gg_FH_tune Fx hC wd_204 dX9_event_24 ?_
      refine lv_iload_n Fx.1 Fx.2.1 dX9_event_27 rfl (lv_at hl 1 rfl) ?_
      refine lv_iconst (v := (-1 : Int32)) Fx.1 Fx.2.1 dX9_event_28 (by decide) ?_
      obtain ⟨u3, hu3, hf⟩ := bd_e hf
      refine ca_i (As := [.int a1, .int (-1 : Int32)]) (rest := []) Fx hC (k_Tu_addPitch hu3) (cVU 2 Fx.2.2.2.2 wd_259 wd_260 wd_261 wd_3 wd_262 rfl rfl hd_Tu_addPitch ⟨Nat.le_of_ble_eq_true rfl, Nat.le_of_ble_eq_true rfl⟩) 4 rfl rfl rfl hl.1 rfl (Nat.le_of_ble_eq_true rfl) dX9_event_29 (fun H locs hC => ?_)
      refine lv_pop Fx.1 Fx.2.1 dX9_event_32 rfl ?_
      refine lv_aload_n Fx.1 Fx.2.1 dX9_event_33 rfl (lv_at hl 0 rfl) ?_
      refine gg_FH_latest Fx hC wd_205 dX9_event_34 ?_
      obtain ⟨u4, hu4, hf⟩ := bd_e hf
      refine ca_v (As := []) (rest := []) Fx hC (k_Pl_forget hu4) (cVU 0 Fx.2.2.2.2 wd_228 wd_229 wd_230 wd_4 wd_231 rfl rfl hd_Pl_forget ⟨Nat.le_of_ble_eq_true rfl, Nat.le_of_ble_eq_true rfl⟩) 8 rfl rfl rfl hl.1 rfl (Nat.le_of_ble_eq_true rfl) dX9_event_37 (fun H locs hC => ?_)
      refine lv_aload_n Fx.1 Fx.2.1 dX9_event_40 rfl (lv_at hl 0 rfl) ?_
      refine gg_FH_tune Fx hC wd_204 dX9_event_41 ?_
      refine gg_Tu_events Fx hC wd_59 dX9_event_44 ?_
      refine lv_iconst (v := (1 : Int32)) Fx.1 Fx.2.1 dX9_event_47 (by decide) ?_
      refine lv_isub Fx.1 Fx.2.1 dX9_event_48 ?_
      obtain rfl := Option.some.inj hf
      exact hret _ _ _ _ dX9_event_49 hC
    · replace hf := ift hc hf
      refine lv_bipush (v := (-5 : Int32)) Fx.1 Fx.2.1 dX9_event_20 (by decide) ?_
      obtain rfl := Option.some.inj hf
      exact hret _ _ _ _ dX9_event_22 hC
  · replace hf := ift hc hf
    refine lv_bipush (v := (-2 : Int32)) Fx.1 Fx.2.1 dX9_event_7 (by decide) ?_
    obtain rfl := Option.some.inj hf
    exact hret _ _ _ _ dX9_event_9 hC
/-! FretHands$Tune.hasEvent(I)Z -/
abbrev rm_Tu_hasEvent : Room := { frames := 0, cells := 0, slots := 0, locals := 0 }
theorem hd_Tu_hasEvent : yX8_hasEvent.cls = RX8 ∧ yX8_hasEvent.cls ≠ "java/lang/invoke/MethodHandle" ∧ yX8_hasEvent.cls ≠ "java/lang/invoke/VarHandle" ∧ (parseMethodDescriptor yX8_hasEvent.desc).map (fun d => d.parameters.length) = some 1 := by decide +kernel
def p_Tu_hasEvent (a1 : Int32) (g : sG) (f : sF) : Option (Int32) := (if a1 < 0 then some (0 : Int32) else (if (g 3) ≤ a1 then some (0 : Int32) else some (1 : Int32)))
set_option maxRecDepth 100000 in
set_option maxHeartbeats 4000000 in
theorem k_Tu_hasEvent {l : Launch} {D : va_G} {ad : Nat → Nat} {cy : Nat → ClassId} {a1 : Int32} {r : Int32} {g : sG} {f : sF} (hf : p_Tu_hasEvent a1 g f = some r) : mMi l yX8_hasEvent (Cond.code yX8_hasEvent cX8_hasEvent 2 (some .boolean) :: wU) rm_Tu_hasEvent D (cT cy) (cW ad cy) [.ref (ad 4), .int a1] g f (r, g, f) := by
  refine mk_z (by decide) rfl (Nat.le_of_ble_eq_true rfl) ?_
  intro p e s m below meth c Q A H0 Fx hret ls H locs hl hC
  replace hl : lv_has ls 2 [(0, .ref (ad 4)), (1, .int a1)] := hl
  unfold p_Tu_hasEvent at hf
  refine lv_iload_n Fx.1 Fx.2.1 dX8_hasEvent_0 rfl (lv_at hl 1 rfl) ?_
  refine lv_if_lt (tgt := 16) Fx.1 Fx.2.1 dX8_hasEvent_1 (by decide) (fun hc => ?_) (fun hc => ?_)
  · replace hf := ift hc hf
    refine lv_iconst (v := (0 : Int32)) Fx.1 Fx.2.1 dX8_hasEvent_16 (by decide) ?_
    obtain rfl := Option.some.inj hf
    exact hret _ _ _ _ dX8_hasEvent_17 z01_0 hC
  · replace hf := iff_ hc hf
    refine lv_iload_n Fx.1 Fx.2.1 dX8_hasEvent_4 rfl (lv_at hl 1 rfl) ?_
    refine lv_aload_n Fx.1 Fx.2.1 dX8_hasEvent_5 rfl (lv_at hl 0 rfl) ?_
    refine gg_Tu_events Fx hC wd_56 dX8_hasEvent_6 ?_
    refine lv_icmp_ge (tgt := 16) Fx.1 Fx.2.1 dX8_hasEvent_9 (by decide) (fun hc => ?_) (fun hc => ?_)
    · replace hf := ift hc hf
      refine lv_iconst (v := (0 : Int32)) Fx.1 Fx.2.1 dX8_hasEvent_16 (by decide) ?_
      obtain rfl := Option.some.inj hf
      exact hret _ _ _ _ dX8_hasEvent_17 z01_0 hC
    · replace hf := iff_ hc hf
      refine lv_iconst (v := (1 : Int32)) Fx.1 Fx.2.1 dX8_hasEvent_12 (by decide) ?_
      refine lv_goto (tgt := 17) Fx.1 Fx.2.1 dX8_hasEvent_13 (by decide) ?_
      obtain rfl := Option.some.inj hf
      exact hret _ _ _ _ dX8_hasEvent_17 z01_1 hC
/-! FretHands$Tune.sizeOf(I)I -/
abbrev rm_Tu_sizeOf : Room := { frames := 1, cells := 0, slots := 0, locals := 21 }
theorem hd_Tu_sizeOf : yX8_sizeOf.cls = RX8 ∧ yX8_sizeOf.cls ≠ "java/lang/invoke/MethodHandle" ∧ yX8_sizeOf.cls ≠ "java/lang/invoke/VarHandle" ∧ (parseMethodDescriptor yX8_sizeOf.desc).map (fun d => d.parameters.length) = some 1 := by decide +kernel
def p_Tu_sizeOf (a1 : Int32) (g : sG) (f : sF) : Option (Int32) := Option.bind (p_Tu_hasEvent a1 g f) (fun u1 => (if u1 = 0 then some (0 : Int32) else (if a1 < 0 ∨ 40 ≤ a1.toNatClampNeg then none else some (f 2 a1.toNatClampNeg))))
set_option maxRecDepth 100000 in
set_option maxHeartbeats 4000000 in
theorem k_Tu_sizeOf {l : Launch} {D : va_G} {ad : Nat → Nat} {cy : Nat → ClassId} {a1 : Int32} {r : Int32} {g : sG} {f : sF} (hf : p_Tu_sizeOf a1 g f = some r) : mMi l yX8_sizeOf (Cond.code yX8_sizeOf cX8_sizeOf 2 (some .int) :: wU) rm_Tu_sizeOf D (cT cy) (cW ad cy) [.ref (ad 4), .int a1] g f (r, g, f) := by
  refine mk_i (by decide) rfl (Nat.le_of_ble_eq_true rfl) ?_
  intro p e s m below meth c Q A H0 Fx hret ls H locs hl hC
  replace hl : lv_has ls 2 [(0, .ref (ad 4)), (1, .int a1)] := hl
  unfold p_Tu_sizeOf at hf
  refine lv_aload_n Fx.1 Fx.2.1 dX8_sizeOf_0 rfl (lv_at hl 0 rfl) ?_
  refine lv_iload_n Fx.1 Fx.2.1 dX8_sizeOf_1 rfl (lv_at hl 1 rfl) ?_
  obtain ⟨u1, hu1, hf⟩ := bd_e hf
  refine ca_i (As := [.int a1]) (rest := []) Fx hC (k_Tu_hasEvent hu1) (cVU 1 Fx.2.2.2.2 wd_275 wd_276 wd_277 wd_3 wd_278 rfl rfl hd_Tu_hasEvent ⟨Nat.le_of_ble_eq_true rfl, Nat.le_of_ble_eq_true rfl⟩) 4 rfl rfl rfl hl.1 rfl (Nat.le_of_ble_eq_true rfl) dX8_sizeOf_2 (fun H locs hC => ?_)
  refine lv_if_eq (tgt := 17) Fx.1 Fx.2.1 dX8_sizeOf_5 (by decide) (fun hc => ?_) (fun hc => ?_)
  · replace hf := ift hc hf
    refine lv_iconst (v := (0 : Int32)) Fx.1 Fx.2.1 dX8_sizeOf_17 (by decide) ?_
    obtain rfl := Option.some.inj hf
    exact hret _ _ _ _ dX8_sizeOf_18 hC
  · replace hf := iff_ hc hf
    refine lv_aload_n Fx.1 Fx.2.1 dX8_sizeOf_8 rfl (lv_at hl 0 rfl) ?_
    refine gg_Tu_sizes Fx hC wd_53 dX8_sizeOf_9 ?_
    refine lv_iload_n Fx.1 Fx.2.1 dX8_sizeOf_12 rfl (lv_at hl 1 rfl) ?_
    obtain ⟨hi2, hf⟩ := gd_e hf
    refine ld_Tu_sizes Fx hC hi2 dX8_sizeOf_13 ?_
    refine lv_goto (tgt := 18) Fx.1 Fx.2.1 dX8_sizeOf_14 (by decide) ?_
    obtain rfl := Option.some.inj hf
    exact hret _ _ _ _ dX8_sizeOf_18 hC
/-! FretHands$Tune.hasPitch(II)Z -/
abbrev rm_Tu_hasPitch : Room := { frames := 1, cells := 0, slots := 0, locals := 21 }
theorem hd_Tu_hasPitch : yX8_hasPitch.cls = RX8 ∧ yX8_hasPitch.cls ≠ "java/lang/invoke/MethodHandle" ∧ yX8_hasPitch.cls ≠ "java/lang/invoke/VarHandle" ∧ (parseMethodDescriptor yX8_hasPitch.desc).map (fun d => d.parameters.length) = some 2 := by decide +kernel
def p_Tu_hasPitch (a1 : Int32) (a2 : Int32) (g : sG) (f : sF) : Option (Int32) := Option.bind (p_Tu_hasEvent a1 g f) (fun u1 => (if u1 = 0 then some (0 : Int32) else (if a2 < 0 then some (0 : Int32) else (if a1 < 0 ∨ 40 ≤ a1.toNatClampNeg then none else (if (f 2 a1.toNatClampNeg) ≤ a2 then some (0 : Int32) else some (1 : Int32))))))
set_option maxRecDepth 100000 in
set_option maxHeartbeats 4000000 in
theorem k_Tu_hasPitch {l : Launch} {D : va_G} {ad : Nat → Nat} {cy : Nat → ClassId} {a1 : Int32} {a2 : Int32} {r : Int32} {g : sG} {f : sF} (hf : p_Tu_hasPitch a1 a2 g f = some r) : mMi l yX8_hasPitch (Cond.code yX8_hasPitch cX8_hasPitch 3 (some .boolean) :: wU) rm_Tu_hasPitch D (cT cy) (cW ad cy) [.ref (ad 4), .int a1, .int a2] g f (r, g, f) := by
  refine mk_z (by decide) rfl (Nat.le_of_ble_eq_true rfl) ?_
  intro p e s m below meth c Q A H0 Fx hret ls H locs hl hC
  replace hl : lv_has ls 3 [(0, .ref (ad 4)), (1, .int a1), (2, .int a2)] := hl
  unfold p_Tu_hasPitch at hf
  refine lv_aload_n Fx.1 Fx.2.1 dX8_hasPitch_0 rfl (lv_at hl 0 rfl) ?_
  refine lv_iload_n Fx.1 Fx.2.1 dX8_hasPitch_1 rfl (lv_at hl 1 rfl) ?_
  obtain ⟨u1, hu1, hf⟩ := bd_e hf
  refine ca_i (As := [.int a1]) (rest := []) Fx hC (k_Tu_hasEvent hu1) (cVU 1 Fx.2.2.2.2 wd_275 wd_276 wd_277 wd_3 wd_278 rfl rfl hd_Tu_hasEvent ⟨Nat.le_of_ble_eq_true rfl, Nat.le_of_ble_eq_true rfl⟩) 4 rfl rfl rfl hl.1 rfl (Nat.le_of_ble_eq_true rfl) dX8_hasPitch_2 (fun H locs hC => ?_)
  refine lv_if_eq (tgt := 26) Fx.1 Fx.2.1 dX8_hasPitch_5 (by decide) (fun hc => ?_) (fun hc => ?_)
  · replace hf := ift hc hf
    refine lv_iconst (v := (0 : Int32)) Fx.1 Fx.2.1 dX8_hasPitch_26 (by decide) ?_
    obtain rfl := Option.some.inj hf
    exact hret _ _ _ _ dX8_hasPitch_27 z01_0 hC
  · replace hf := iff_ hc hf
    refine lv_iload_n Fx.1 Fx.2.1 dX8_hasPitch_8 rfl (lv_at hl 2 rfl) ?_
    refine lv_if_lt (tgt := 26) Fx.1 Fx.2.1 dX8_hasPitch_9 (by decide) (fun hc => ?_) (fun hc => ?_)
    · replace hf := ift hc hf
      refine lv_iconst (v := (0 : Int32)) Fx.1 Fx.2.1 dX8_hasPitch_26 (by decide) ?_
      obtain rfl := Option.some.inj hf
      exact hret _ _ _ _ dX8_hasPitch_27 z01_0 hC
    · replace hf := iff_ hc hf
      refine lv_iload_n Fx.1 Fx.2.1 dX8_hasPitch_12 rfl (lv_at hl 2 rfl) ?_
      refine lv_aload_n Fx.1 Fx.2.1 dX8_hasPitch_13 rfl (lv_at hl 0 rfl) ?_
      refine gg_Tu_sizes Fx hC wd_53 dX8_hasPitch_14 ?_
      refine lv_iload_n Fx.1 Fx.2.1 dX8_hasPitch_17 rfl (lv_at hl 1 rfl) ?_
      obtain ⟨hi2, hf⟩ := gd_e hf
      refine ld_Tu_sizes Fx hC hi2 dX8_hasPitch_18 ?_
      refine lv_icmp_ge (tgt := 26) Fx.1 Fx.2.1 dX8_hasPitch_19 (by decide) (fun hc => ?_) (fun hc => ?_)
      · replace hf := ift hc hf
        refine lv_iconst (v := (0 : Int32)) Fx.1 Fx.2.1 dX8_hasPitch_26 (by decide) ?_
        obtain rfl := Option.some.inj hf
        exact hret _ _ _ _ dX8_hasPitch_27 z01_0 hC
      · replace hf := iff_ hc hf
        refine lv_iconst (v := (1 : Int32)) Fx.1 Fx.2.1 dX8_hasPitch_22 (by decide) ?_
        refine lv_goto (tgt := 27) Fx.1 Fx.2.1 dX8_hasPitch_23 (by decide) ?_
        obtain rfl := Option.some.inj hf
        exact hret _ _ _ _ dX8_hasPitch_27 z01_1 hC
/-! FretHands$Tune.pitchOf(II)I -/
abbrev rm_Tu_pitchOf : Room := { frames := 2, cells := 0, slots := 0, locals := 43 }
theorem hd_Tu_pitchOf : yX8_pitchOf.cls = RX8 ∧ yX8_pitchOf.cls ≠ "java/lang/invoke/MethodHandle" ∧ yX8_pitchOf.cls ≠ "java/lang/invoke/VarHandle" ∧ (parseMethodDescriptor yX8_pitchOf.desc).map (fun d => d.parameters.length) = some 2 := by decide +kernel
def p_Tu_pitchOf (a1 : Int32) (a2 : Int32) (g : sG) (f : sF) : Option (Int32) := Option.bind (p_Tu_hasPitch a1 a2 g f) (fun u1 => (if u1 = 0 then some (-1 : Int32) else (if ((a1 * (4 : Int32)) + a2) < 0 ∨ 160 ≤ ((a1 * (4 : Int32)) + a2).toNatClampNeg then none else some (f 3 ((a1 * (4 : Int32)) + a2).toNatClampNeg))))
set_option maxRecDepth 100000 in
set_option maxHeartbeats 4000000 in
theorem k_Tu_pitchOf {l : Launch} {D : va_G} {ad : Nat → Nat} {cy : Nat → ClassId} {a1 : Int32} {a2 : Int32} {r : Int32} {g : sG} {f : sF} (hf : p_Tu_pitchOf a1 a2 g f = some r) : mMi l yX8_pitchOf (Cond.code yX8_pitchOf cX8_pitchOf 3 (some .int) :: wU) rm_Tu_pitchOf D (cT cy) (cW ad cy) [.ref (ad 4), .int a1, .int a2] g f (r, g, f) := by
  refine mk_i (by decide) rfl (Nat.le_of_ble_eq_true rfl) ?_
  intro p e s m below meth c Q A H0 Fx hret ls H locs hl hC
  replace hl : lv_has ls 3 [(0, .ref (ad 4)), (1, .int a1), (2, .int a2)] := hl
  unfold p_Tu_pitchOf at hf
  refine lv_aload_n Fx.1 Fx.2.1 dX8_pitchOf_0 rfl (lv_at hl 0 rfl) ?_
  refine lv_iload_n Fx.1 Fx.2.1 dX8_pitchOf_1 rfl (lv_at hl 1 rfl) ?_
  refine lv_iload_n Fx.1 Fx.2.1 dX8_pitchOf_2 rfl (lv_at hl 2 rfl) ?_
  obtain ⟨u1, hu1, hf⟩ := bd_e hf
  refine ca_i (As := [.int a1, .int a2]) (rest := []) Fx hC (k_Tu_hasPitch hu1) (cVU 2 Fx.2.2.2.2 wd_283 wd_284 wd_285 wd_3 wd_286 rfl rfl hd_Tu_hasPitch ⟨Nat.le_of_ble_eq_true rfl, Nat.le_of_ble_eq_true rfl⟩) 4 rfl rfl rfl hl.1 rfl (Nat.le_of_ble_eq_true rfl) dX8_pitchOf_3 (fun H locs hC => ?_)
  refine lv_if_eq (tgt := 22) Fx.1 Fx.2.1 dX8_pitchOf_6 (by decide) (fun hc => ?_) (fun hc => ?_)
  · replace hf := ift hc hf
    refine lv_iconst (v := (-1 : Int32)) Fx.1 Fx.2.1 dX8_pitchOf_22 (by decide) ?_
    obtain rfl := Option.some.inj hf
    exact hret _ _ _ _ dX8_pitchOf_23 hC
  · replace hf := iff_ hc hf
    refine lv_aload_n Fx.1 Fx.2.1 dX8_pitchOf_9 rfl (lv_at hl 0 rfl) ?_
    refine gg_Tu_pitches Fx hC wd_54 dX8_pitchOf_10 ?_
    refine lv_iload_n Fx.1 Fx.2.1 dX8_pitchOf_13 rfl (lv_at hl 1 rfl) ?_
    refine lv_iconst (v := (4 : Int32)) Fx.1 Fx.2.1 dX8_pitchOf_14 (by decide) ?_
    refine lv_imul Fx.1 Fx.2.1 dX8_pitchOf_15 ?_
    refine lv_iload_n Fx.1 Fx.2.1 dX8_pitchOf_16 rfl (lv_at hl 2 rfl) ?_
    refine lv_iadd Fx.1 Fx.2.1 dX8_pitchOf_17 ?_
    obtain ⟨hi2, hf⟩ := gd_e hf
    refine ld_Tu_pitches Fx hC hi2 dX8_pitchOf_18 ?_
    refine lv_goto (tgt := 23) Fx.1 Fx.2.1 dX8_pitchOf_19 (by decide) ?_
    obtain rfl := Option.some.inj hf
    exact hret _ _ _ _ dX8_pitchOf_23 hC
/-! FretHands$Tune.contains(II)Z -/
abbrev rm_Tu_contains : Room := { frames := 3, cells := 0, slots := 0, locals := 65 }
theorem hd_Tu_contains : yX8_contains.cls = RX8 ∧ yX8_contains.cls ≠ "java/lang/invoke/MethodHandle" ∧ yX8_contains.cls ≠ "java/lang/invoke/VarHandle" ∧ (parseMethodDescriptor yX8_contains.desc).map (fun d => d.parameters.length) = some 2 := by decide +kernel
def p_Tu_contains_L9 (K9 : (Int32 × Int32 × Int32 × Int32) → Option (Int32)) (x1 : Int32) (x2 : Int32) (x3 : Int32) (x4 : Int32) (g : sG) (f : sF) : Option (Int32) := (if x3 ≤ x4 then some (0 : Int32) else Option.bind (p_Tu_pitchOf x1 x4 g f) (fun u1 => (if u1 = x2 then some (1 : Int32) else lt_ (x4 + (1 : Int32)) (fun v2 => K9 (x1, x2, x3, v2)))))
set_option maxRecDepth 100000 in
set_option maxHeartbeats 4000000 in
theorem s_Tu_contains_L9 {K9 : (Int32 × Int32 × Int32 × Int32) → Option (Int32)} {p : Program} {l : Launch} {e : Env} {s : State} {m : MethodId} {args : Array Value} {below : List Frame} {meth : Method} {c : Code} {Q : State → Prop} {D : va_G} {ad : Nat → Nat} {cy : Nat → ClassId} {A : Nat → Prop} {H0 : Heap} {r : Int32} {g : sG} {f : sF} (Fx : CallFix p m c cX8_contains 5 s args (Cond.code yX8_contains cX8_contains 5 (some .boolean) :: wU) RX8) (hret : mRz p l e rm_Tu_contains s m args below meth c Q D (cT cy) (cW ad cy) A H0 cX8_contains (r, g, f)) (hK9 : ∀ (z : Int32 × Int32 × Int32 × Int32), K9 z = some r → ∀ (ls : Array Slot) (H : Heap) (locs : List Loc), lv_has ls 5 [(0, .ref (ad 4)), (1, .int z.1), (2, .int z.2.1), (3, .int z.2.2.1), (4, .int z.2.2.2)] → wH D (cT cy) (cW ad cy) A H0 s g f H locs → W p l e rm_Tu_contains s m args below meth c H locs 0 0 Q (F0 m 9 ls [])) (x1 : Int32) (x2 : Int32) (x3 : Int32) (x4 : Int32) (hf : p_Tu_contains_L9 K9 x1 x2 x3 x4 g f = some r) : ∀ (ls : Array Slot) (H : Heap) (locs : List Loc), lv_has ls 5 [(0, .ref (ad 4)), (1, .int x1), (2, .int x2), (3, .int x3), (4, .int x4)] → wH D (cT cy) (cW ad cy) A H0 s g f H locs → W p l e rm_Tu_contains s m args below meth c H locs 0 0 Q (F0 m 9 ls []) := by
  intro ls H locs hl hC
  unfold p_Tu_contains_L9 at hf
  refine lv_iload Fx.1 Fx.2.1 dX8_contains_9 (lv_at hl 4 rfl) ?_
  refine lv_iload_n Fx.1 Fx.2.1 dX8_contains_11 rfl (lv_at hl 3 rfl) ?_
  refine lv_icmp_ge (tgt := 34) Fx.1 Fx.2.1 dX8_contains_12 (by decide) (fun hc => ?_) (fun hc => ?_)
  · replace hf := ift hc hf
    refine lv_iconst (v := (0 : Int32)) Fx.1 Fx.2.1 dX8_contains_34 (by decide) ?_
    obtain rfl := Option.some.inj hf
    exact hret _ _ _ _ dX8_contains_35 z01_0 hC
  · replace hf := iff_ hc hf
    refine lv_aload_n Fx.1 Fx.2.1 dX8_contains_15 rfl (lv_at hl 0 rfl) ?_
    refine lv_iload_n Fx.1 Fx.2.1 dX8_contains_16 rfl (lv_at hl 1 rfl) ?_
    refine lv_iload Fx.1 Fx.2.1 dX8_contains_17 (lv_at hl 4 rfl) ?_
    obtain ⟨u1, hu1, hf⟩ := bd_e hf
    refine ca_i (As := [.int x1, .int x4]) (rest := []) Fx hC (k_Tu_pitchOf hu1) (cVU 2 Fx.2.2.2.2 wd_279 wd_280 wd_281 wd_3 wd_282 rfl rfl hd_Tu_pitchOf ⟨Nat.le_of_ble_eq_true rfl, Nat.le_of_ble_eq_true rfl⟩) 4 rfl rfl rfl hl.1 rfl (Nat.le_of_ble_eq_true rfl) dX8_contains_19 (fun H locs hC => ?_)
    refine lv_iload_n Fx.1 Fx.2.1 dX8_contains_22 rfl (lv_at hl 2 rfl) ?_
    refine lv_icmp_ne (tgt := 28) Fx.1 Fx.2.1 dX8_contains_23 (by decide) (fun hc => ?_) (fun hc => ?_)
    · replace hf := iff_ hc hf
      obtain ⟨v2, ev2, hf⟩ := lt_e hf
      refine lv_iinc (v := v2) (lv' := [(4, .int v2), (0, .ref (ad 4)), (1, .int x1), (2, .int x2), (3, .int x3)]) Fx.1 Fx.2.1 dX8_contains_28 hl (k := 4) rfl ev2.symm (by decide) rfl (fun ls hl => ?_)
      refine lv_goto (tgt := 9) Fx.1 Fx.2.1 dX8_contains_31 (by decide) ?_
      exact hK9 _ hf _ _ _ (lv_sub hl [1, 2, 3, 4, 0] rfl) hC
    · replace hf := ift hc hf
      refine lv_iconst (v := (1 : Int32)) Fx.1 Fx.2.1 dX8_contains_26 (by decide) ?_
      obtain rfl := Option.some.inj hf
      exact hret _ _ _ _ dX8_contains_27 z01_1 hC
set_option maxRecDepth 100000 in
set_option maxHeartbeats 4000000 in
theorem t_Tu_contains_L9 {p : Program} {l : Launch} {e : Env} {s : State} {m : MethodId} {args : Array Value} {below : List Frame} {meth : Method} {c : Code} {Q : State → Prop} {D : va_G} {ad : Nat → Nat} {cy : Nat → ClassId} {A : Nat → Prop} {H0 : Heap} {r : Int32} {g : sG} {f : sF} (Fx : CallFix p m c cX8_contains 5 s args (Cond.code yX8_contains cX8_contains 5 (some .boolean) :: wU) RX8) (hret : mRz p l e rm_Tu_contains s m args below meth c Q D (cT cy) (cW ad cy) A H0 cX8_contains (r, g, f))  (n : Nat) (z : Int32 × Int32 × Int32 × Int32) (hz : itr (fun K z => p_Tu_contains_L9 K z.1 z.2.1 z.2.2.1 z.2.2.2 g f) n z = some r) : ∀ (ls : Array Slot) (H : Heap) (locs : List Loc), lv_has ls 5 [(0, .ref (ad 4)), (1, .int z.1), (2, .int z.2.1), (3, .int z.2.2.1), (4, .int z.2.2.2)] → wH D (cT cy) (cW ad cy) A H0 s g f H locs → W p l e rm_Tu_contains s m args below meth c H locs 0 0 Q (F0 m 9 ls []) :=
  itr_all (fun z => ∀ (ls : Array Slot) (H : Heap) (locs : List Loc), lv_has ls 5 [(0, .ref (ad 4)), (1, .int z.1), (2, .int z.2.1), (3, .int z.2.2.1), (4, .int z.2.2.2)] → wH D (cT cy) (cW ad cy) A H0 s g f H locs → W p l e rm_Tu_contains s m args below meth c H locs 0 0 Q (F0 m 9 ls [])) (fun K hK z h => s_Tu_contains_L9 Fx hret hK z.1 z.2.1 z.2.2.1 z.2.2.2 h) n z hz
def p_Tu_contains (a1 : Int32) (a2 : Int32) (g : sG) (f : sF) : Option (Int32) := Option.bind (p_Tu_sizeOf a1 g f) (fun u1 => itr (fun K z => p_Tu_contains_L9 K z.1 z.2.1 z.2.2.1 z.2.2.2 g f) FUEL (a1, a2, u1, (0 : Int32)))
set_option maxRecDepth 100000 in
set_option maxHeartbeats 4000000 in
theorem k_Tu_contains {l : Launch} {D : va_G} {ad : Nat → Nat} {cy : Nat → ClassId} {a1 : Int32} {a2 : Int32} {r : Int32} {g : sG} {f : sF} (hf : p_Tu_contains a1 a2 g f = some r) : mMi l yX8_contains (Cond.code yX8_contains cX8_contains 5 (some .boolean) :: wU) rm_Tu_contains D (cT cy) (cW ad cy) [.ref (ad 4), .int a1, .int a2] g f (r, g, f) := by
  refine mk_z (by decide) rfl (Nat.le_of_ble_eq_true rfl) ?_
  intro p e s m below meth c Q A H0 Fx hret ls H locs hl hC
  replace hl : lv_has ls 5 [(0, .ref (ad 4)), (1, .int a1), (2, .int a2)] := hl
  unfold p_Tu_contains at hf
  refine lv_aload_n Fx.1 Fx.2.1 dX8_contains_0 rfl (lv_at hl 0 rfl) ?_
  refine lv_iload_n Fx.1 Fx.2.1 dX8_contains_1 rfl (lv_at hl 1 rfl) ?_
  obtain ⟨u1, hu1, hf⟩ := bd_e hf
  refine ca_i (As := [.int a1]) (rest := []) Fx hC (k_Tu_sizeOf hu1) (cVU 1 Fx.2.2.2.2 wd_271 wd_272 wd_273 wd_3 wd_274 rfl rfl hd_Tu_sizeOf ⟨Nat.le_of_ble_eq_true rfl, Nat.le_of_ble_eq_true rfl⟩) 4 rfl rfl rfl hl.1 rfl (Nat.le_of_ble_eq_true rfl) dX8_contains_2 (fun H locs hC => ?_)
  refine lv_istore_n (lv' := [(3, .int u1), (0, .ref (ad 4)), (1, .int a1), (2, .int a2)]) Fx.1 Fx.2.1 dX8_contains_5 rfl hl (by decide) rfl (fun ls hl => ?_)
  refine lv_iconst (v := (0 : Int32)) Fx.1 Fx.2.1 dX8_contains_6 (by decide) ?_
  refine lv_istore (lv' := [(4, .int (0 : Int32)), (3, .int u1), (0, .ref (ad 4)), (1, .int a1), (2, .int a2)]) Fx.1 Fx.2.1 dX8_contains_7 hl (by decide) rfl (fun ls hl => ?_)
  exact t_Tu_contains_L9 Fx hret _ _ hf _ _ _ (lv_sub hl [2, 3, 4, 1, 0] rfl) hC
/-! FretHands.pitch(I)I -/
abbrev rm_FH_pitch : Room := { frames := 4, cells := 0, slots := 0, locals := 89 }
theorem hd_FH_pitch : yX9_pitch.cls = RX9 ∧ yX9_pitch.cls ≠ "java/lang/invoke/MethodHandle" ∧ yX9_pitch.cls ≠ "java/lang/invoke/VarHandle" ∧ (parseMethodDescriptor yX9_pitch.desc).map (fun d => d.parameters.length) = some 1 := by decide +kernel
def p_FH_pitch (a1 : Int32) (g : sG) (f : sF) : Option (Int32 × sG × sF) := lt_ ((g 3) - (1 : Int32)) (fun v1 => Option.bind (p_FH_isPitch a1 g f) (fun u2 => (if u2 = 0 then some ((-2 : Int32), g, f) else Option.bind (p_Tu_contains v1 a1 g f) (fun u3 => (if u3 = 0 then (if 0 ≤ v1 then Option.bind (p_Tu_addPitch a1 (-1 : Int32) g f) (fun u4 => (if u4.1 = 0 then some ((-5 : Int32), u4.2.1, u4.2.2) else Option.bind (p_Pl_forget  u4.2.1 u4.2.2) (fun u5 => Option.bind (p_Tu_sizeOf v1 u5.1 u5.2) (fun u6 => some (u6, u5.1, u5.2))))) else some ((-4 : Int32), g, f)) else some ((-2 : Int32), g, f))))))
set_option maxRecDepth 100000 in
set_option maxHeartbeats 4000000 in
theorem k_FH_pitch {l : Launch} {D : va_G} {ad : Nat → Nat} {cy : Nat → ClassId} {a1 : Int32} {u : Int32 × sG × sF} {g : sG} {f : sF} (hf : p_FH_pitch a1 g f = some u) : mMi l yX9_pitch (Cond.code yX9_pitch cX9_pitch 3 (some .int) :: wU) rm_FH_pitch D (cT cy) (cW ad cy) [.ref (ad 0), .int a1] g f u := by
  refine mk_i (by decide) rfl (Nat.le_of_ble_eq_true rfl) ?_
  intro p e s m below meth c Q A H0 Fx hret ls H locs hl hC
  replace hl : lv_has ls 3 [(0, .ref (ad 0)), (1, .int a1)] := hl
  unfold p_FH_pitch at hf
  refine lv_aload_n Fx.1 Fx.2.1 dX9_pitch_0 rfl (lv_at hl 0 rfl) ?_
  refine gg_FH_tune Fx hC wd_204 dX9_pitch_1 ?_
  refine gg_Tu_events Fx hC wd_59 dX9_pitch_4 ?_
  refine lv_iconst (v := (1 : Int32)) Fx.1 Fx.2.1 dX9_pitch_7 (by decide) ?_
  refine lv_isub Fx.1 Fx.2.1 dX9_pitch_8 ?_
  obtain ⟨v1, ev1, hf⟩ := lt_e hf
  refine tpi ev1 ?_
  refine lv_istore_n (lv' := [(2, .int v1), (0, .ref (ad 0)), (1, .int a1)]) Fx.1 Fx.2.1 dX9_pitch_9 rfl hl (by decide) rfl (fun ls hl => ?_)
  refine lv_iload_n Fx.1 Fx.2.1 dX9_pitch_10 rfl (lv_at hl 2 rfl) ?_
  obtain ⟨u2, hu2, hf⟩ := bd_e hf
  refine ca_s (As := [.int a1]) (rest := []) Fx hC (k_FH_isPitch hu2) (cSU 1 Fx.2.2.2.2 wd_252 wd_253 wd_1 wd_254 rfl rfl hd_FH_isPitch ⟨Nat.le_of_ble_eq_true rfl, Nat.le_of_ble_eq_true rfl⟩) rfl hl.1 rfl (Nat.le_of_ble_eq_true rfl) dX9_pitch_11 (fun H locs hC => ?_)
  refine lv_if_eq (tgt := 29) Fx.1 Fx.2.1 dX9_pitch_14 (by decide) (fun hc => ?_) (fun hc => ?_)
  · replace hf := ift hc hf
    refine lv_bipush (v := (-2 : Int32)) Fx.1 Fx.2.1 dX9_pitch_29 (by decide) ?_
    obtain rfl := Option.some.inj hf
    exact hret _ _ _ _ dX9_pitch_31 hC
  · replace hf := iff_ hc hf
    refine lv_aload_n Fx.1 Fx.2.1 dX9_pitch_17 rfl (lv_at hl 1 rfl) ?_
    refine gg_FH_tune Fx hC wd_204 dX9_pitch_18 ?_
    refine lv_iload_n Fx.1 Fx.2.1 dX9_pitch_21 rfl (lv_at hl 0 rfl) ?_
    refine lv_iload_n Fx.1 Fx.2.1 dX9_pitch_22 rfl (lv_at hl 2 rfl) ?_
    obtain ⟨u3, hu3, hf⟩ := bd_e hf
    refine ca_i (As := [.int v1, .int a1]) (rest := []) Fx hC (k_Tu_contains hu3) (cVU 2 Fx.2.2.2.2 wd_267 wd_268 wd_269 wd_3 wd_270 rfl rfl hd_Tu_contains ⟨Nat.le_of_ble_eq_true rfl, Nat.le_of_ble_eq_true rfl⟩) 4 rfl rfl rfl hl.1 rfl (Nat.le_of_ble_eq_true rfl) dX9_pitch_23 (fun H locs hC => ?_)
    refine lv_if_eq (tgt := 32) Fx.1 Fx.2.1 dX9_pitch_26 (by decide) (fun hc => ?_) (fun hc => ?_)
    · replace hf := ift hc hf
      refine lv_iload_n Fx.1 Fx.2.1 dX9_pitch_32 rfl (lv_at hl 0 rfl) ?_
      refine lv_if_ge (tgt := 39) Fx.1 Fx.2.1 dX9_pitch_33 (by decide) (fun hc => ?_) (fun hc => ?_)
      · replace hf := ift hc hf
        refine lv_aload_n Fx.1 Fx.2.1 dX9_pitch_39 rfl (lv_at hl 1 rfl) ?_
        refine gg_FH_tune Fx hC wd_204 dX9_pitch_40 ?_
        refine lv_iload_n Fx.1 Fx.2.1 dX9_pitch_43 rfl (lv_at hl 2 rfl) ?_
        refine lv_iconst (v := (-1 : Int32)) Fx.1 Fx.2.1 dX9_pitch_44 (by decide) ?_
        obtain ⟨u4, hu4, hf⟩ := bd_e hf
        refine ca_i (As := [.int a1, .int (-1 : Int32)]) (rest := []) Fx hC (k_Tu_addPitch hu4) (cVU 2 Fx.2.2.2.2 wd_259 wd_260 wd_261 wd_3 wd_262 rfl rfl hd_Tu_addPitch ⟨Nat.le_of_ble_eq_true rfl, Nat.le_of_ble_eq_true rfl⟩) 4 rfl rfl rfl hl.1 rfl (Nat.le_of_ble_eq_true rfl) dX9_pitch_45 (fun H locs hC => ?_)
        refine lv_if_ne (tgt := 54) Fx.1 Fx.2.1 dX9_pitch_48 (by decide) (fun hc => ?_) (fun hc => ?_)
        · replace hf := iff_ hc hf
          refine lv_aload_n Fx.1 Fx.2.1 dX9_pitch_54 rfl (lv_at hl 1 rfl) ?_
          refine gg_FH_latest Fx hC wd_205 dX9_pitch_55 ?_
          obtain ⟨u5, hu5, hf⟩ := bd_e hf
          refine ca_v (As := []) (rest := []) Fx hC (k_Pl_forget hu5) (cVU 0 Fx.2.2.2.2 wd_228 wd_229 wd_230 wd_4 wd_231 rfl rfl hd_Pl_forget ⟨Nat.le_of_ble_eq_true rfl, Nat.le_of_ble_eq_true rfl⟩) 8 rfl rfl rfl hl.1 rfl (Nat.le_of_ble_eq_true rfl) dX9_pitch_58 (fun H locs hC => ?_)
          refine lv_aload_n Fx.1 Fx.2.1 dX9_pitch_61 rfl (lv_at hl 1 rfl) ?_
          refine gg_FH_tune Fx hC wd_204 dX9_pitch_62 ?_
          refine lv_iload_n Fx.1 Fx.2.1 dX9_pitch_65 rfl (lv_at hl 0 rfl) ?_
          obtain ⟨u6, hu6, hf⟩ := bd_e hf
          refine ca_i (As := [.int v1]) (rest := []) Fx hC (k_Tu_sizeOf hu6) (cVU 1 Fx.2.2.2.2 wd_287 wd_272 wd_273 wd_3 wd_274 rfl rfl hd_Tu_sizeOf ⟨Nat.le_of_ble_eq_true rfl, Nat.le_of_ble_eq_true rfl⟩) 4 rfl rfl rfl hl.1 rfl (Nat.le_of_ble_eq_true rfl) dX9_pitch_66 (fun H locs hC => ?_)
          obtain rfl := Option.some.inj hf
          exact hret _ _ _ _ dX9_pitch_69 hC
        · replace hf := ift hc hf
          refine lv_bipush (v := (-5 : Int32)) Fx.1 Fx.2.1 dX9_pitch_51 (by decide) ?_
          obtain rfl := Option.some.inj hf
          exact hret _ _ _ _ dX9_pitch_53 hC
      · replace hf := iff_ hc hf
        refine lv_bipush (v := (-4 : Int32)) Fx.1 Fx.2.1 dX9_pitch_36 (by decide) ?_
        obtain rfl := Option.some.inj hf
        exact hret _ _ _ _ dX9_pitch_38 hC
    · replace hf := iff_ hc hf
      refine lv_bipush (v := (-2 : Int32)) Fx.1 Fx.2.1 dX9_pitch_29 (by decide) ?_
      obtain rfl := Option.some.inj hf
      exact hret _ _ _ _ dX9_pitch_31 hC
/-! FretHands$Instrument.hasString(I)Z -/
abbrev rm_In_hasString : Room := { frames := 0, cells := 0, slots := 0, locals := 0 }
theorem hd_In_hasString : yX1_hasString.cls = RX1 ∧ yX1_hasString.cls ≠ "java/lang/invoke/MethodHandle" ∧ yX1_hasString.cls ≠ "java/lang/invoke/VarHandle" ∧ (parseMethodDescriptor yX1_hasString.desc).map (fun d => d.parameters.length) = some 1 := by decide +kernel
def p_In_hasString (a1 : Int32) (g : sG) (f : sF) : Option (Int32) := (if a1 < 0 then some (0 : Int32) else (if (g 0) ≤ a1 then some (0 : Int32) else some (1 : Int32)))
set_option maxRecDepth 100000 in
set_option maxHeartbeats 4000000 in
theorem k_In_hasString {l : Launch} {D : va_G} {ad : Nat → Nat} {cy : Nat → ClassId} {a1 : Int32} {r : Int32} {g : sG} {f : sF} (hf : p_In_hasString a1 g f = some r) : mMi l yX1_hasString (Cond.code yX1_hasString cX1_hasString 2 (some .boolean) :: wU) rm_In_hasString D (cT cy) (cW ad cy) [.ref (ad 2), .int a1] g f (r, g, f) := by
  refine mk_z (by decide) rfl (Nat.le_of_ble_eq_true rfl) ?_
  intro p e s m below meth c Q A H0 Fx hret ls H locs hl hC
  replace hl : lv_has ls 2 [(0, .ref (ad 2)), (1, .int a1)] := hl
  unfold p_In_hasString at hf
  refine lv_iload_n Fx.1 Fx.2.1 dX1_hasString_0 rfl (lv_at hl 1 rfl) ?_
  refine lv_if_lt (tgt := 16) Fx.1 Fx.2.1 dX1_hasString_1 (by decide) (fun hc => ?_) (fun hc => ?_)
  · replace hf := ift hc hf
    refine lv_iconst (v := (0 : Int32)) Fx.1 Fx.2.1 dX1_hasString_16 (by decide) ?_
    obtain rfl := Option.some.inj hf
    exact hret _ _ _ _ dX1_hasString_17 z01_0 hC
  · replace hf := iff_ hc hf
    refine lv_iload_n Fx.1 Fx.2.1 dX1_hasString_4 rfl (lv_at hl 1 rfl) ?_
    refine lv_aload_n Fx.1 Fx.2.1 dX1_hasString_5 rfl (lv_at hl 0 rfl) ?_
    refine gg_In_strings Fx hC wd_27 dX1_hasString_6 ?_
    refine lv_icmp_ge (tgt := 16) Fx.1 Fx.2.1 dX1_hasString_9 (by decide) (fun hc => ?_) (fun hc => ?_)
    · replace hf := ift hc hf
      refine lv_iconst (v := (0 : Int32)) Fx.1 Fx.2.1 dX1_hasString_16 (by decide) ?_
      obtain rfl := Option.some.inj hf
      exact hret _ _ _ _ dX1_hasString_17 z01_0 hC
    · replace hf := iff_ hc hf
      refine lv_iconst (v := (1 : Int32)) Fx.1 Fx.2.1 dX1_hasString_12 (by decide) ?_
      refine lv_goto (tgt := 17) Fx.1 Fx.2.1 dX1_hasString_13 (by decide) ?_
      obtain rfl := Option.some.inj hf
      exact hret _ _ _ _ dX1_hasString_17 z01_1 hC
/-! FretHands$Tune.stringOf(II)I -/
abbrev rm_Tu_stringOf : Room := { frames := 2, cells := 0, slots := 0, locals := 43 }
theorem hd_Tu_stringOf : yX8_stringOf.cls = RX8 ∧ yX8_stringOf.cls ≠ "java/lang/invoke/MethodHandle" ∧ yX8_stringOf.cls ≠ "java/lang/invoke/VarHandle" ∧ (parseMethodDescriptor yX8_stringOf.desc).map (fun d => d.parameters.length) = some 2 := by decide +kernel
def p_Tu_stringOf (a1 : Int32) (a2 : Int32) (g : sG) (f : sF) : Option (Int32) := Option.bind (p_Tu_hasPitch a1 a2 g f) (fun u1 => (if u1 = 0 then some (-1 : Int32) else (if ((a1 * (4 : Int32)) + a2) < 0 ∨ 160 ≤ ((a1 * (4 : Int32)) + a2).toNatClampNeg then none else some (f 4 ((a1 * (4 : Int32)) + a2).toNatClampNeg))))
set_option maxRecDepth 100000 in
set_option maxHeartbeats 4000000 in
theorem k_Tu_stringOf {l : Launch} {D : va_G} {ad : Nat → Nat} {cy : Nat → ClassId} {a1 : Int32} {a2 : Int32} {r : Int32} {g : sG} {f : sF} (hf : p_Tu_stringOf a1 a2 g f = some r) : mMi l yX8_stringOf (Cond.code yX8_stringOf cX8_stringOf 3 (some .int) :: wU) rm_Tu_stringOf D (cT cy) (cW ad cy) [.ref (ad 4), .int a1, .int a2] g f (r, g, f) := by
  refine mk_i (by decide) rfl (Nat.le_of_ble_eq_true rfl) ?_
  intro p e s m below meth c Q A H0 Fx hret ls H locs hl hC
  replace hl : lv_has ls 3 [(0, .ref (ad 4)), (1, .int a1), (2, .int a2)] := hl
  unfold p_Tu_stringOf at hf
  refine lv_aload_n Fx.1 Fx.2.1 dX8_stringOf_0 rfl (lv_at hl 0 rfl) ?_
  refine lv_iload_n Fx.1 Fx.2.1 dX8_stringOf_1 rfl (lv_at hl 1 rfl) ?_
  refine lv_iload_n Fx.1 Fx.2.1 dX8_stringOf_2 rfl (lv_at hl 2 rfl) ?_
  obtain ⟨u1, hu1, hf⟩ := bd_e hf
  refine ca_i (As := [.int a1, .int a2]) (rest := []) Fx hC (k_Tu_hasPitch hu1) (cVU 2 Fx.2.2.2.2 wd_283 wd_284 wd_285 wd_3 wd_286 rfl rfl hd_Tu_hasPitch ⟨Nat.le_of_ble_eq_true rfl, Nat.le_of_ble_eq_true rfl⟩) 4 rfl rfl rfl hl.1 rfl (Nat.le_of_ble_eq_true rfl) dX8_stringOf_3 (fun H locs hC => ?_)
  refine lv_if_eq (tgt := 22) Fx.1 Fx.2.1 dX8_stringOf_6 (by decide) (fun hc => ?_) (fun hc => ?_)
  · replace hf := ift hc hf
    refine lv_iconst (v := (-1 : Int32)) Fx.1 Fx.2.1 dX8_stringOf_22 (by decide) ?_
    obtain rfl := Option.some.inj hf
    exact hret _ _ _ _ dX8_stringOf_23 hC
  · replace hf := iff_ hc hf
    refine lv_aload_n Fx.1 Fx.2.1 dX8_stringOf_9 rfl (lv_at hl 0 rfl) ?_
    refine gg_Tu_bonds Fx hC wd_55 dX8_stringOf_10 ?_
    refine lv_iload_n Fx.1 Fx.2.1 dX8_stringOf_13 rfl (lv_at hl 1 rfl) ?_
    refine lv_iconst (v := (4 : Int32)) Fx.1 Fx.2.1 dX8_stringOf_14 (by decide) ?_
    refine lv_imul Fx.1 Fx.2.1 dX8_stringOf_15 ?_
    refine lv_iload_n Fx.1 Fx.2.1 dX8_stringOf_16 rfl (lv_at hl 2 rfl) ?_
    refine lv_iadd Fx.1 Fx.2.1 dX8_stringOf_17 ?_
    obtain ⟨hi2, hf⟩ := gd_e hf
    refine ld_Tu_bonds Fx hC hi2 dX8_stringOf_18 ?_
    refine lv_goto (tgt := 23) Fx.1 Fx.2.1 dX8_stringOf_19 (by decide) ?_
    obtain rfl := Option.some.inj hf
    exact hret _ _ _ _ dX8_stringOf_23 hC
/-! FretHands$Tune.bindPitch(III)V -/
abbrev rm_Tu_bindPitch : Room := { frames := 2, cells := 0, slots := 0, locals := 43 }
theorem hd_Tu_bindPitch : yX8_bindPitch.cls = RX8 ∧ yX8_bindPitch.cls ≠ "java/lang/invoke/MethodHandle" ∧ yX8_bindPitch.cls ≠ "java/lang/invoke/VarHandle" ∧ (parseMethodDescriptor yX8_bindPitch.desc).map (fun d => d.parameters.length) = some 3 := by decide +kernel
def p_Tu_bindPitch (a1 : Int32) (a2 : Int32) (a3 : Int32) (g : sG) (f : sF) : Option (sG × sF) := Option.bind (p_Tu_hasPitch a1 a2 g f) (fun u1 => (if u1 = 0 then some (g, f) else (if ((a1 * (4 : Int32)) + a2) < 0 ∨ 160 ≤ ((a1 * (4 : Int32)) + a2).toNatClampNeg then none else lt_ (up2 f 4 ((a1 * (4 : Int32)) + a2).toNatClampNeg a3) (fun f3 => some (g, f3)))))
set_option maxRecDepth 100000 in
set_option maxHeartbeats 4000000 in
theorem k_Tu_bindPitch {l : Launch} {D : va_G} {ad : Nat → Nat} {cy : Nat → ClassId} {a1 : Int32} {a2 : Int32} {a3 : Int32} {u : sG × sF} {g : sG} {f : sF} (hf : p_Tu_bindPitch a1 a2 a3 g f = some u) : mMv l yX8_bindPitch (Cond.code yX8_bindPitch cX8_bindPitch 4 none :: wU) rm_Tu_bindPitch D (cT cy) (cW ad cy) [.ref (ad 4), .int a1, .int a2, .int a3] g f u := by
  refine mk_v (by decide) rfl (Nat.le_of_ble_eq_true rfl) ?_
  intro p e s m below meth c Q A H0 Fx hret ls H locs hl hC
  replace hl : lv_has ls 4 [(0, .ref (ad 4)), (1, .int a1), (2, .int a2), (3, .int a3)] := hl
  unfold p_Tu_bindPitch at hf
  refine lv_aload_n Fx.1 Fx.2.1 dX8_bindPitch_0 rfl (lv_at hl 0 rfl) ?_
  refine lv_iload_n Fx.1 Fx.2.1 dX8_bindPitch_1 rfl (lv_at hl 1 rfl) ?_
  refine lv_iload_n Fx.1 Fx.2.1 dX8_bindPitch_2 rfl (lv_at hl 2 rfl) ?_
  obtain ⟨u1, hu1, hf⟩ := bd_e hf
  refine ca_i (As := [.int a1, .int a2]) (rest := []) Fx hC (k_Tu_hasPitch hu1) (cVU 2 Fx.2.2.2.2 wd_283 wd_284 wd_285 wd_3 wd_286 rfl rfl hd_Tu_hasPitch ⟨Nat.le_of_ble_eq_true rfl, Nat.le_of_ble_eq_true rfl⟩) 4 rfl rfl rfl hl.1 rfl (Nat.le_of_ble_eq_true rfl) dX8_bindPitch_3 (fun H locs hC => ?_)
  refine lv_if_eq (tgt := 20) Fx.1 Fx.2.1 dX8_bindPitch_6 (by decide) (fun hc => ?_) (fun hc => ?_)
  · replace hf := ift hc hf
    obtain rfl := Option.some.inj hf
    exact hret _ _ _ _ dX8_bindPitch_20 hC
  · replace hf := iff_ hc hf
    refine lv_aload_n Fx.1 Fx.2.1 dX8_bindPitch_9 rfl (lv_at hl 0 rfl) ?_
    refine gg_Tu_bonds Fx hC wd_55 dX8_bindPitch_10 ?_
    refine lv_iload_n Fx.1 Fx.2.1 dX8_bindPitch_13 rfl (lv_at hl 1 rfl) ?_
    refine lv_iconst (v := (4 : Int32)) Fx.1 Fx.2.1 dX8_bindPitch_14 (by decide) ?_
    refine lv_imul Fx.1 Fx.2.1 dX8_bindPitch_15 ?_
    refine lv_iload_n Fx.1 Fx.2.1 dX8_bindPitch_16 rfl (lv_at hl 2 rfl) ?_
    refine lv_iadd Fx.1 Fx.2.1 dX8_bindPitch_17 ?_
    refine lv_iload_n Fx.1 Fx.2.1 dX8_bindPitch_18 rfl (lv_at hl 3 rfl) ?_
    obtain ⟨hi2, hf⟩ := gd_e hf
    obtain ⟨f3, ef3, hf⟩ := lt_e hf
    refine st_Tu_bonds Fx hC hi2 ef3 dX8_bindPitch_19 (fun H locs hC => ?_)
    obtain rfl := Option.some.inj hf
    exact hret _ _ _ _ dX8_bindPitch_20 hC
/-! FretHands.bind(III)I -/
abbrev rm_FH_bind : Room := { frames := 3, cells := 0, slots := 0, locals := 66 }
theorem hd_FH_bind : yX9_bind.cls = RX9 ∧ yX9_bind.cls ≠ "java/lang/invoke/MethodHandle" ∧ yX9_bind.cls ≠ "java/lang/invoke/VarHandle" ∧ (parseMethodDescriptor yX9_bind.desc).map (fun d => d.parameters.length) = some 3 := by decide +kernel
def p_FH_bind_J45 (x1 : Int32) (x2 : Int32) (x3 : Int32) (g : sG) (f : sF) : Option (Int32 × sG × sF) := Option.bind (p_Tu_stringOf x1 x2 g f) (fun u1 => Option.bind (p_Tu_bindPitch x1 x2 x3 g f) (fun u2 => Option.bind (p_Pl_forget  u2.1 u2.2) (fun u3 => some (u1, u3.1, u3.2))))
set_option maxRecDepth 100000 in
set_option maxHeartbeats 4000000 in
theorem s_FH_bind_J45 {p : Program} {l : Launch} {e : Env} {s : State} {m : MethodId} {args : Array Value} {below : List Frame} {meth : Method} {c : Code} {Q : State → Prop} {D : va_G} {ad : Nat → Nat} {cy : Nat → ClassId} {A : Nat → Prop} {H0 : Heap} {u : Int32 × sG × sF} (Fx : CallFix p m c cX9_bind 5 s args (Cond.code yX9_bind cX9_bind 5 (some .int) :: wU) RX9) (hret : mRi p l e rm_FH_bind s m args below meth c Q D (cT cy) (cW ad cy) A H0 cX9_bind u)  (x1 : Int32) (x2 : Int32) (x3 : Int32) (g : sG) (f : sF) (hf : p_FH_bind_J45 x1 x2 x3 g f = some u) : ∀ (ls : Array Slot) (H : Heap) (locs : List Loc), lv_has ls 5 [(0, .ref (ad 0)), (1, .int x1), (2, .int x2), (3, .int x3)] → wH D (cT cy) (cW ad cy) A H0 s g f H locs → W p l e rm_FH_bind s m args below meth c H locs 0 0 Q (F0 m 45 ls []) := by
  intro ls H locs hl hC
  unfold p_FH_bind_J45 at hf
  refine lv_aload_n Fx.1 Fx.2.1 dX9_bind_45 rfl (lv_at hl 0 rfl) ?_
  refine gg_FH_tune Fx hC wd_204 dX9_bind_46 ?_
  refine lv_iload_n Fx.1 Fx.2.1 dX9_bind_49 rfl (lv_at hl 1 rfl) ?_
  refine lv_iload_n Fx.1 Fx.2.1 dX9_bind_50 rfl (lv_at hl 2 rfl) ?_
  obtain ⟨u1, hu1, hf⟩ := bd_e hf
  refine ca_i (As := [.int x1, .int x2]) (rest := []) Fx hC (k_Tu_stringOf hu1) (cVU 2 Fx.2.2.2.2 wd_298 wd_299 wd_300 wd_3 wd_301 rfl rfl hd_Tu_stringOf ⟨Nat.le_of_ble_eq_true rfl, Nat.le_of_ble_eq_true rfl⟩) 4 rfl rfl rfl hl.1 rfl (Nat.le_of_ble_eq_true rfl) dX9_bind_51 (fun H locs hC => ?_)
  refine lv_istore (lv' := [(4, .int u1), (0, .ref (ad 0)), (1, .int x1), (2, .int x2), (3, .int x3)]) Fx.1 Fx.2.1 dX9_bind_54 hl (by decide) rfl (fun ls hl => ?_)
  refine lv_aload_n Fx.1 Fx.2.1 dX9_bind_56 rfl (lv_at hl 1 rfl) ?_
  refine gg_FH_tune Fx hC wd_204 dX9_bind_57 ?_
  refine lv_iload_n Fx.1 Fx.2.1 dX9_bind_60 rfl (lv_at hl 2 rfl) ?_
  refine lv_iload_n Fx.1 Fx.2.1 dX9_bind_61 rfl (lv_at hl 3 rfl) ?_
  refine lv_iload_n Fx.1 Fx.2.1 dX9_bind_62 rfl (lv_at hl 4 rfl) ?_
  obtain ⟨u2, hu2, hf⟩ := bd_e hf
  refine ca_v (As := [.int x1, .int x2, .int x3]) (rest := []) Fx hC (k_Tu_bindPitch hu2) (cVU 3 Fx.2.2.2.2 wd_302 wd_303 wd_304 wd_3 wd_305 rfl rfl hd_Tu_bindPitch ⟨Nat.le_of_ble_eq_true rfl, Nat.le_of_ble_eq_true rfl⟩) 4 rfl rfl rfl hl.1 rfl (Nat.le_of_ble_eq_true rfl) dX9_bind_63 (fun H locs hC => ?_)
  refine lv_aload_n Fx.1 Fx.2.1 dX9_bind_66 rfl (lv_at hl 1 rfl) ?_
  refine gg_FH_latest Fx hC wd_205 dX9_bind_67 ?_
  obtain ⟨u3, hu3, hf⟩ := bd_e hf
  refine ca_v (As := []) (rest := []) Fx hC (k_Pl_forget hu3) (cVU 0 Fx.2.2.2.2 wd_228 wd_229 wd_230 wd_4 wd_231 rfl rfl hd_Pl_forget ⟨Nat.le_of_ble_eq_true rfl, Nat.le_of_ble_eq_true rfl⟩) 8 rfl rfl rfl hl.1 rfl (Nat.le_of_ble_eq_true rfl) dX9_bind_70 (fun H locs hC => ?_)
  refine lv_iload Fx.1 Fx.2.1 dX9_bind_73 (lv_at hl 0 rfl) ?_
  obtain rfl := Option.some.inj hf
  exact hret _ _ _ _ dX9_bind_75 hC
def p_FH_bind (a1 : Int32) (a2 : Int32) (a3 : Int32) (g : sG) (f : sF) : Option (Int32 × sG × sF) := Option.bind (p_Tu_hasEvent a1 g f) (fun u1 => (if u1 = 0 then some ((-3 : Int32), g, f) else Option.bind (p_Tu_hasPitch a1 a2 g f) (fun u2 => (if u2 = 0 then some ((-2 : Int32), g, f) else (if a3 = (-1 : Int32) then p_FH_bind_J45 a1 a2 a3 g f else Option.bind (p_In_hasString a3 g f) (fun u3 => (if u3 = 0 then some ((-2 : Int32), g, f) else p_FH_bind_J45 a1 a2 a3 g f)))))))
set_option maxRecDepth 100000 in
set_option maxHeartbeats 4000000 in
theorem k_FH_bind {l : Launch} {D : va_G} {ad : Nat → Nat} {cy : Nat → ClassId} {a1 : Int32} {a2 : Int32} {a3 : Int32} {u : Int32 × sG × sF} {g : sG} {f : sF} (hf : p_FH_bind a1 a2 a3 g f = some u) : mMi l yX9_bind (Cond.code yX9_bind cX9_bind 5 (some .int) :: wU) rm_FH_bind D (cT cy) (cW ad cy) [.ref (ad 0), .int a1, .int a2, .int a3] g f u := by
  refine mk_i (by decide) rfl (Nat.le_of_ble_eq_true rfl) ?_
  intro p e s m below meth c Q A H0 Fx hret ls H locs hl hC
  replace hl : lv_has ls 5 [(0, .ref (ad 0)), (1, .int a1), (2, .int a2), (3, .int a3)] := hl
  unfold p_FH_bind at hf
  refine lv_aload_n Fx.1 Fx.2.1 dX9_bind_0 rfl (lv_at hl 0 rfl) ?_
  refine gg_FH_tune Fx hC wd_204 dX9_bind_1 ?_
  refine lv_iload_n Fx.1 Fx.2.1 dX9_bind_4 rfl (lv_at hl 1 rfl) ?_
  obtain ⟨u1, hu1, hf⟩ := bd_e hf
  refine ca_i (As := [.int a1]) (rest := []) Fx hC (k_Tu_hasEvent hu1) (cVU 1 Fx.2.2.2.2 wd_292 wd_276 wd_277 wd_3 wd_278 rfl rfl hd_Tu_hasEvent ⟨Nat.le_of_ble_eq_true rfl, Nat.le_of_ble_eq_true rfl⟩) 4 rfl rfl rfl hl.1 rfl (Nat.le_of_ble_eq_true rfl) dX9_bind_5 (fun H locs hC => ?_)
  refine lv_if_ne (tgt := 14) Fx.1 Fx.2.1 dX9_bind_8 (by decide) (fun hc => ?_) (fun hc => ?_)
  · replace hf := iff_ hc hf
    refine lv_aload_n Fx.1 Fx.2.1 dX9_bind_14 rfl (lv_at hl 0 rfl) ?_
    refine gg_FH_tune Fx hC wd_204 dX9_bind_15 ?_
    refine lv_iload_n Fx.1 Fx.2.1 dX9_bind_18 rfl (lv_at hl 1 rfl) ?_
    refine lv_iload_n Fx.1 Fx.2.1 dX9_bind_19 rfl (lv_at hl 2 rfl) ?_
    obtain ⟨u2, hu2, hf⟩ := bd_e hf
    refine ca_i (As := [.int a1, .int a2]) (rest := []) Fx hC (k_Tu_hasPitch hu2) (cVU 2 Fx.2.2.2.2 wd_293 wd_284 wd_285 wd_3 wd_286 rfl rfl hd_Tu_hasPitch ⟨Nat.le_of_ble_eq_true rfl, Nat.le_of_ble_eq_true rfl⟩) 4 rfl rfl rfl hl.1 rfl (Nat.le_of_ble_eq_true rfl) dX9_bind_20 (fun H locs hC => ?_)
    refine lv_if_eq (tgt := 42) Fx.1 Fx.2.1 dX9_bind_23 (by decide) (fun hc => ?_) (fun hc => ?_)
    · replace hf := ift hc hf
      refine lv_bipush (v := (-2 : Int32)) Fx.1 Fx.2.1 dX9_bind_42 (by decide) ?_
      obtain rfl := Option.some.inj hf
      exact hret _ _ _ _ dX9_bind_44 hC
    · replace hf := iff_ hc hf
      refine lv_iload_n Fx.1 Fx.2.1 dX9_bind_26 rfl (lv_at hl 3 rfl) ?_
      refine lv_iconst (v := (-1 : Int32)) Fx.1 Fx.2.1 dX9_bind_27 (by decide) ?_
      refine lv_icmp_eq (tgt := 45) Fx.1 Fx.2.1 dX9_bind_28 (by decide) (fun hc => ?_) (fun hc => ?_)
      · replace hf := ift hc hf
        exact s_FH_bind_J45 Fx hret _ _ _ _ _  hf _ _ _ (lv_sub hl [0, 1, 2, 3] rfl) hC
      · replace hf := iff_ hc hf
        refine lv_aload_n Fx.1 Fx.2.1 dX9_bind_31 rfl (lv_at hl 0 rfl) ?_
        refine gg_FH_instrument Fx hC wd_202 dX9_bind_32 ?_
        refine lv_iload_n Fx.1 Fx.2.1 dX9_bind_35 rfl (lv_at hl 3 rfl) ?_
        obtain ⟨u3, hu3, hf⟩ := bd_e hf
        refine ca_i (As := [.int a3]) (rest := []) Fx hC (k_In_hasString hu3) (cVU 1 Fx.2.2.2.2 wd_294 wd_295 wd_296 wd_2 wd_297 rfl rfl hd_In_hasString ⟨Nat.le_of_ble_eq_true rfl, Nat.le_of_ble_eq_true rfl⟩) 2 rfl rfl rfl hl.1 rfl (Nat.le_of_ble_eq_true rfl) dX9_bind_36 (fun H locs hC => ?_)
        refine lv_if_ne (tgt := 45) Fx.1 Fx.2.1 dX9_bind_39 (by decide) (fun hc => ?_) (fun hc => ?_)
        · replace hf := iff_ hc hf
          exact s_FH_bind_J45 Fx hret _ _ _ _ _  hf _ _ _ (lv_sub hl [0, 1, 2, 3] rfl) hC
        · replace hf := ift hc hf
          refine lv_bipush (v := (-2 : Int32)) Fx.1 Fx.2.1 dX9_bind_42 (by decide) ?_
          obtain rfl := Option.some.inj hf
          exact hret _ _ _ _ dX9_bind_44 hC
  · replace hf := ift hc hf
    refine lv_bipush (v := (-3 : Int32)) Fx.1 Fx.2.1 dX9_bind_11 (by decide) ?_
    obtain rfl := Option.some.inj hf
    exact hret _ _ _ _ dX9_bind_13 hC
end
