section
-- ===== PART A: goes FIRST, ahead of the names: the tables' words, and 'selects' of the private methods out of them =====
/-- a private method of a class that the tables say can be made, by its rows of tables_1 -/
def lw_okq (q : MethodName × Nat) : Prop := (q.1.cls ≠ "java/lang/invoke/MethodHandle" ∧ q.1.cls ≠ "java/lang/invoke/VarHandle") ∧ Cond.instantiable q.1.cls q.2 ∈ tables_1 ∧ Cond.privateMethod q.1 ∈ tables_1 ∧ Cond.instanceMethod q.1 ∈ tables_1
theorem lw_p0 : lw_okq (⟨"WindCarver", "found", "(I)I"⟩, 10) := ⟨⟨by decide +kernel, by decide +kernel⟩, List.mem_of_getElem? (i := 12) (by decide +kernel), List.mem_of_getElem? (i := 220) (by decide +kernel), List.mem_of_getElem? (i := 221) (by decide +kernel)⟩
theorem lw_p1 : lw_okq (⟨"WindCarver", "withoutFinding", "(I)I"⟩, 10) := ⟨⟨by decide +kernel, by decide +kernel⟩, List.mem_of_getElem? (i := 12) (by decide +kernel), List.mem_of_getElem? (i := 229) (by decide +kernel), List.mem_of_getElem? (i := 230) (by decide +kernel)⟩
theorem lw_p2 : lw_okq (⟨"WindCarver", "findingIn", "(III)I"⟩, 10) := ⟨⟨by decide +kernel, by decide +kernel⟩, List.mem_of_getElem? (i := 12) (by decide +kernel), List.mem_of_getElem? (i := 237) (by decide +kernel), List.mem_of_getElem? (i := 238) (by decide +kernel)⟩
theorem lw_p3 : lw_okq (⟨"WindCarver$Text", "readLines", "(I[I)Z"⟩, 5) := ⟨⟨by decide +kernel, by decide +kernel⟩, List.mem_of_getElem? (i := 22) (by decide +kernel), List.mem_of_getElem? (i := 289) (by decide +kernel), List.mem_of_getElem? (i := 290) (by decide +kernel)⟩
theorem lw_p4 : lw_okq (⟨"WindCarver$Text", "readByte", "(I)Z"⟩, 5) := ⟨⟨by decide +kernel, by decide +kernel⟩, List.mem_of_getElem? (i := 22) (by decide +kernel), List.mem_of_getElem? (i := 293) (by decide +kernel), List.mem_of_getElem? (i := 294) (by decide +kernel)⟩
theorem lw_p5 : lw_okq (⟨"WindCarver$Text", "fail", "(II)Z"⟩, 5) := ⟨⟨by decide +kernel, by decide +kernel⟩, List.mem_of_getElem? (i := 22) (by decide +kernel), List.mem_of_getElem? (i := 297) (by decide +kernel), List.mem_of_getElem? (i := 298) (by decide +kernel)⟩
theorem lw_p6 : lw_okq (⟨"WindCarver$Text", "readNumber", "(I)I"⟩, 5) := ⟨⟨by decide +kernel, by decide +kernel⟩, List.mem_of_getElem? (i := 22) (by decide +kernel), List.mem_of_getElem? (i := 301) (by decide +kernel), List.mem_of_getElem? (i := 302) (by decide +kernel)⟩
theorem lw_p7 : lw_okq (⟨"WindCarver$Text", "readWorks", "(LWindCarver$Pass;)Z"⟩, 5) := ⟨⟨by decide +kernel, by decide +kernel⟩, List.mem_of_getElem? (i := 22) (by decide +kernel), List.mem_of_getElem? (i := 308) (by decide +kernel), List.mem_of_getElem? (i := 309) (by decide +kernel)⟩
theorem lw_p8 : lw_okq (⟨"WindCarver$Text", "readWork", "(ILWindCarver$Pass;)Z"⟩, 5) := ⟨⟨by decide +kernel, by decide +kernel⟩, List.mem_of_getElem? (i := 22) (by decide +kernel), List.mem_of_getElem? (i := 315) (by decide +kernel), List.mem_of_getElem? (i := 316) (by decide +kernel)⟩
theorem lw_p9 : lw_okq (⟨"WindCarver", "spendHour", "(LWindCarver$Pass;)V"⟩, 10) := ⟨⟨by decide +kernel, by decide +kernel⟩, List.mem_of_getElem? (i := 12) (by decide +kernel), List.mem_of_getElem? (i := 380) (by decide +kernel), List.mem_of_getElem? (i := 381) (by decide +kernel)⟩
theorem lw_p10 : lw_okq (⟨"WindCarver$Air", "on", "(LWindCarver$Pass;I)I"⟩, 3) := ⟨⟨by decide +kernel, by decide +kernel⟩, List.mem_of_getElem? (i := 89) (by decide +kernel), List.mem_of_getElem? (i := 388) (by decide +kernel), List.mem_of_getElem? (i := 389) (by decide +kernel)⟩
theorem lw_p11 : lw_okq (⟨"WindCarver$Air", "part", "(IILWindCarver$Pass;)V"⟩, 3) := ⟨⟨by decide +kernel, by decide +kernel⟩, List.mem_of_getElem? (i := 89) (by decide +kernel), List.mem_of_getElem? (i := 392) (by decide +kernel), List.mem_of_getElem? (i := 393) (by decide +kernel)⟩
theorem lw_p12 : lw_okq (⟨"WindCarver$Air", "bring", "(III)V"⟩, 3) := ⟨⟨by decide +kernel, by decide +kernel⟩, List.mem_of_getElem? (i := 89) (by decide +kernel), List.mem_of_getElem? (i := 399) (by decide +kernel), List.mem_of_getElem? (i := 400) (by decide +kernel)⟩
theorem lw_p13 : lw_okq (⟨"WindCarver", "feltNow", "(I)I"⟩, 10) := ⟨⟨by decide +kernel, by decide +kernel⟩, List.mem_of_getElem? (i := 12) (by decide +kernel), List.mem_of_getElem? (i := 423) (by decide +kernel), List.mem_of_getElem? (i := 424) (by decide +kernel)⟩
theorem lw_p14 : lw_okq (⟨"WindCarver", "foretell", "(I)V"⟩, 10) := ⟨⟨by decide +kernel, by decide +kernel⟩, List.mem_of_getElem? (i := 12) (by decide +kernel), List.mem_of_getElem? (i := 436) (by decide +kernel), List.mem_of_getElem? (i := 437) (by decide +kernel)⟩
theorem lw_p15 : lw_okq (⟨"WindCarver", "isFeltEverywhere", "([II)Z"⟩, 10) := ⟨⟨by decide +kernel, by decide +kernel⟩, List.mem_of_getElem? (i := 12) (by decide +kernel), List.mem_of_getElem? (i := 461) (by decide +kernel), List.mem_of_getElem? (i := 462) (by decide +kernel)⟩
def lw_privs_1 : List (MethodName × Nat) := [(⟨"WindCarver", "found", "(I)I"⟩, 10), (⟨"WindCarver", "withoutFinding", "(I)I"⟩, 10), (⟨"WindCarver", "findingIn", "(III)I"⟩, 10), (⟨"WindCarver$Text", "readLines", "(I[I)Z"⟩, 5), (⟨"WindCarver$Text", "readByte", "(I)Z"⟩, 5), (⟨"WindCarver$Text", "fail", "(II)Z"⟩, 5), (⟨"WindCarver$Text", "readNumber", "(I)I"⟩, 5), (⟨"WindCarver$Text", "readWorks", "(LWindCarver$Pass;)Z"⟩, 5), (⟨"WindCarver$Text", "readWork", "(ILWindCarver$Pass;)Z"⟩, 5), (⟨"WindCarver", "spendHour", "(LWindCarver$Pass;)V"⟩, 10), (⟨"WindCarver$Air", "on", "(LWindCarver$Pass;I)I"⟩, 3), (⟨"WindCarver$Air", "part", "(IILWindCarver$Pass;)V"⟩, 3), (⟨"WindCarver$Air", "bring", "(III)V"⟩, 3), (⟨"WindCarver", "feltNow", "(I)I"⟩, 10), (⟨"WindCarver", "foretell", "(I)V"⟩, 10), (⟨"WindCarver", "isFeltEverywhere", "([II)Z"⟩, 10)]
theorem lw_r1 : ∀ q ∈ lw_privs_1, lw_okq q := List.forall_mem_cons.mpr ⟨lw_p0, List.forall_mem_cons.mpr ⟨lw_p1, List.forall_mem_cons.mpr ⟨lw_p2, List.forall_mem_cons.mpr ⟨lw_p3, List.forall_mem_cons.mpr ⟨lw_p4, List.forall_mem_cons.mpr ⟨lw_p5, List.forall_mem_cons.mpr ⟨lw_p6, List.forall_mem_cons.mpr ⟨lw_p7, List.forall_mem_cons.mpr ⟨lw_p8, List.forall_mem_cons.mpr ⟨lw_p9, List.forall_mem_cons.mpr ⟨lw_p10, List.forall_mem_cons.mpr ⟨lw_p11, List.forall_mem_cons.mpr ⟨lw_p12, List.forall_mem_cons.mpr ⟨lw_p13, List.forall_mem_cons.mpr ⟨lw_p14, List.forall_mem_cons.mpr ⟨lw_p15, fun _ h => absurd h List.not_mem_nil⟩⟩⟩⟩⟩⟩⟩⟩⟩⟩⟩⟩⟩⟩⟩⟩
theorem lw_p16 : lw_okq (⟨"WindCarver", "chooseWalls", "(II)I"⟩, 10) := ⟨⟨by decide +kernel, by decide +kernel⟩, List.mem_of_getElem? (i := 12) (by decide +kernel), List.mem_of_getElem? (i := 469) (by decide +kernel), List.mem_of_getElem? (i := 470) (by decide +kernel)⟩
theorem lw_p17 : lw_okq (⟨"WindCarver", "chooseWall", "(IIII)Z"⟩, 10) := ⟨⟨by decide +kernel, by decide +kernel⟩, List.mem_of_getElem? (i := 12) (by decide +kernel), List.mem_of_getElem? (i := 473) (by decide +kernel), List.mem_of_getElem? (i := 474) (by decide +kernel)⟩
theorem lw_p18 : lw_okq (⟨"WindCarver", "isFeltAlong", "(I[II)Z"⟩, 10) := ⟨⟨by decide +kernel, by decide +kernel⟩, List.mem_of_getElem? (i := 12) (by decide +kernel), List.mem_of_getElem? (i := 481) (by decide +kernel), List.mem_of_getElem? (i := 482) (by decide +kernel)⟩
theorem lw_p19 : lw_okq (⟨"WindCarver", "breakByLot", "(II)I"⟩, 10) := ⟨⟨by decide +kernel, by decide +kernel⟩, List.mem_of_getElem? (i := 12) (by decide +kernel), List.mem_of_getElem? (i := 493) (by decide +kernel), List.mem_of_getElem? (i := 494) (by decide +kernel)⟩
theorem lw_p20 : lw_okq (⟨"WindCarver$Asked", "leave", "(I)V"⟩, 6) := ⟨⟨by decide +kernel, by decide +kernel⟩, List.mem_of_getElem? (i := 128) (by decide +kernel), List.mem_of_getElem? (i := 537) (by decide +kernel), List.mem_of_getElem? (i := 538) (by decide +kernel)⟩
theorem lw_p21 : lw_okq (⟨"WindCarver", "rowsThere", "()I"⟩, 10) := ⟨⟨by decide +kernel, by decide +kernel⟩, List.mem_of_getElem? (i := 12) (by decide +kernel), List.mem_of_getElem? (i := 555) (by decide +kernel), List.mem_of_getElem? (i := 556) (by decide +kernel)⟩
theorem lw_p22 : lw_okq (⟨"WindCarver", "lostNow", "()I"⟩, 10) := ⟨⟨by decide +kernel, by decide +kernel⟩, List.mem_of_getElem? (i := 12) (by decide +kernel), List.mem_of_getElem? (i := 559) (by decide +kernel), List.mem_of_getElem? (i := 560) (by decide +kernel)⟩
theorem lw_p23 : lw_okq (⟨"WindCarver", "leavingNow", "()I"⟩, 10) := ⟨⟨by decide +kernel, by decide +kernel⟩, List.mem_of_getElem? (i := 12) (by decide +kernel), List.mem_of_getElem? (i := 563) (by decide +kernel), List.mem_of_getElem? (i := 564) (by decide +kernel)⟩
theorem lw_p24 : lw_okq (⟨"WindCarverModel", "find", "(I)I"⟩, 28) := ⟨⟨by decide +kernel, by decide +kernel⟩, List.mem_of_getElem? (i := 571) (by decide +kernel), List.mem_of_getElem? (i := 676) (by decide +kernel), List.mem_of_getElem? (i := 677) (by decide +kernel)⟩
theorem lw_p25 : lw_okq (⟨"WindCarverModel", "well", "(I)I"⟩, 28) := ⟨⟨by decide +kernel, by decide +kernel⟩, List.mem_of_getElem? (i := 571) (by decide +kernel), List.mem_of_getElem? (i := 681) (by decide +kernel), List.mem_of_getElem? (i := 682) (by decide +kernel)⟩
theorem lw_p26 : lw_okq (⟨"WindCarverModel", "readPass", "()Z"⟩, 28) := ⟨⟨by decide +kernel, by decide +kernel⟩, List.mem_of_getElem? (i := 571) (by decide +kernel), List.mem_of_getElem? (i := 710) (by decide +kernel), List.mem_of_getElem? (i := 711) (by decide +kernel)⟩
theorem lw_p27 : lw_okq (⟨"WindCarverModel", "nextToken", "()V"⟩, 28) := ⟨⟨by decide +kernel, by decide +kernel⟩, List.mem_of_getElem? (i := 571) (by decide +kernel), List.mem_of_getElem? (i := 714) (by decide +kernel), List.mem_of_getElem? (i := 715) (by decide +kernel)⟩
theorem lw_p28 : lw_okq (⟨"WindCarverModel", "readFour", "(II)Z"⟩, 28) := ⟨⟨by decide +kernel, by decide +kernel⟩, List.mem_of_getElem? (i := 571) (by decide +kernel), List.mem_of_getElem? (i := 722) (by decide +kernel), List.mem_of_getElem? (i := 723) (by decide +kernel)⟩
theorem lw_p29 : lw_okq (⟨"WindCarverModel", "takes", "(I)Z"⟩, 28) := ⟨⟨by decide +kernel, by decide +kernel⟩, List.mem_of_getElem? (i := 571) (by decide +kernel), List.mem_of_getElem? (i := 726) (by decide +kernel), List.mem_of_getElem? (i := 727) (by decide +kernel)⟩
theorem lw_p30 : lw_okq (⟨"WindCarverModel", "isLetter", "(I)Z"⟩, 28) := ⟨⟨by decide +kernel, by decide +kernel⟩, List.mem_of_getElem? (i := 571) (by decide +kernel), List.mem_of_getElem? (i := 730) (by decide +kernel), List.mem_of_getElem? (i := 731) (by decide +kernel)⟩
theorem lw_p31 : lw_okq (⟨"WindCarverModel", "faults", "(I)Z"⟩, 28) := ⟨⟨by decide +kernel, by decide +kernel⟩, List.mem_of_getElem? (i := 571) (by decide +kernel), List.mem_of_getElem? (i := 734) (by decide +kernel), List.mem_of_getElem? (i := 735) (by decide +kernel)⟩
def lw_privs_2 : List (MethodName × Nat) := [(⟨"WindCarver", "chooseWalls", "(II)I"⟩, 10), (⟨"WindCarver", "chooseWall", "(IIII)Z"⟩, 10), (⟨"WindCarver", "isFeltAlong", "(I[II)Z"⟩, 10), (⟨"WindCarver", "breakByLot", "(II)I"⟩, 10), (⟨"WindCarver$Asked", "leave", "(I)V"⟩, 6), (⟨"WindCarver", "rowsThere", "()I"⟩, 10), (⟨"WindCarver", "lostNow", "()I"⟩, 10), (⟨"WindCarver", "leavingNow", "()I"⟩, 10), (⟨"WindCarverModel", "find", "(I)I"⟩, 28), (⟨"WindCarverModel", "well", "(I)I"⟩, 28), (⟨"WindCarverModel", "readPass", "()Z"⟩, 28), (⟨"WindCarverModel", "nextToken", "()V"⟩, 28), (⟨"WindCarverModel", "readFour", "(II)Z"⟩, 28), (⟨"WindCarverModel", "takes", "(I)Z"⟩, 28), (⟨"WindCarverModel", "isLetter", "(I)Z"⟩, 28), (⟨"WindCarverModel", "faults", "(I)Z"⟩, 28)]
theorem lw_r2 : ∀ q ∈ lw_privs_2, lw_okq q := List.forall_mem_cons.mpr ⟨lw_p16, List.forall_mem_cons.mpr ⟨lw_p17, List.forall_mem_cons.mpr ⟨lw_p18, List.forall_mem_cons.mpr ⟨lw_p19, List.forall_mem_cons.mpr ⟨lw_p20, List.forall_mem_cons.mpr ⟨lw_p21, List.forall_mem_cons.mpr ⟨lw_p22, List.forall_mem_cons.mpr ⟨lw_p23, List.forall_mem_cons.mpr ⟨lw_p24, List.forall_mem_cons.mpr ⟨lw_p25, List.forall_mem_cons.mpr ⟨lw_p26, List.forall_mem_cons.mpr ⟨lw_p27, List.forall_mem_cons.mpr ⟨lw_p28, List.forall_mem_cons.mpr ⟨lw_p29, List.forall_mem_cons.mpr ⟨lw_p30, List.forall_mem_cons.mpr ⟨lw_p31, fun _ h => absurd h List.not_mem_nil⟩⟩⟩⟩⟩⟩⟩⟩⟩⟩⟩⟩⟩⟩⟩⟩
theorem lw_p32 : lw_okq (⟨"WindCarverModel", "takesNumber", "(IIII)Z"⟩, 28) := ⟨⟨by decide +kernel, by decide +kernel⟩, List.mem_of_getElem? (i := 571) (by decide +kernel), List.mem_of_getElem? (i := 738) (by decide +kernel), List.mem_of_getElem? (i := 739) (by decide +kernel)⟩
theorem lw_p33 : lw_okq (⟨"WindCarverModel", "readWork", "(I)Z"⟩, 28) := ⟨⟨by decide +kernel, by decide +kernel⟩, List.mem_of_getElem? (i := 571) (by decide +kernel), List.mem_of_getElem? (i := 742) (by decide +kernel), List.mem_of_getElem? (i := 743) (by decide +kernel)⟩
theorem lw_p34 : lw_okq (⟨"WindCarverModel", "isWork", "(I)Z"⟩, 28) := ⟨⟨by decide +kernel, by decide +kernel⟩, List.mem_of_getElem? (i := 571) (by decide +kernel), List.mem_of_getElem? (i := 762) (by decide +kernel), List.mem_of_getElem? (i := 763) (by decide +kernel)⟩
theorem lw_p35 : lw_okq (⟨"WindCarverModel", "workMany", "()I"⟩, 28) := ⟨⟨by decide +kernel, by decide +kernel⟩, List.mem_of_getElem? (i := 571) (by decide +kernel), List.mem_of_getElem? (i := 766) (by decide +kernel), List.mem_of_getElem? (i := 767) (by decide +kernel)⟩
theorem lw_p36 : lw_okq (⟨"WindCarverModel", "note", "()V"⟩, 28) := ⟨⟨by decide +kernel, by decide +kernel⟩, List.mem_of_getElem? (i := 571) (by decide +kernel), List.mem_of_getElem? (i := 770) (by decide +kernel), List.mem_of_getElem? (i := 771) (by decide +kernel)⟩
theorem lw_p37 : lw_okq (⟨"WindCarverModel", "clear", "(I)V"⟩, 28) := ⟨⟨by decide +kernel, by decide +kernel⟩, List.mem_of_getElem? (i := 571) (by decide +kernel), List.mem_of_getElem? (i := 778) (by decide +kernel), List.mem_of_getElem? (i := 779) (by decide +kernel)⟩
theorem lw_p38 : lw_okq (⟨"WindCarverModel", "oneHour", "()V"⟩, 28) := ⟨⟨by decide +kernel, by decide +kernel⟩, List.mem_of_getElem? (i := 571) (by decide +kernel), List.mem_of_getElem? (i := 800) (by decide +kernel), List.mem_of_getElem? (i := 801) (by decide +kernel)⟩
theorem lw_p39 : lw_okq (⟨"WindCarverModel", "blow", "()V"⟩, 28) := ⟨⟨by decide +kernel, by decide +kernel⟩, List.mem_of_getElem? (i := 571) (by decide +kernel), List.mem_of_getElem? (i := 804) (by decide +kernel), List.mem_of_getElem? (i := 805) (by decide +kernel)⟩
theorem lw_p40 : lw_okq (⟨"WindCarverModel", "goes", "(III)V"⟩, 28) := ⟨⟨by decide +kernel, by decide +kernel⟩, List.mem_of_getElem? (i := 571) (by decide +kernel), List.mem_of_getElem? (i := 808) (by decide +kernel), List.mem_of_getElem? (i := 809) (by decide +kernel)⟩
theorem lw_p41 : lw_okq (⟨"WindCarverModel", "feltNow", "(I)I"⟩, 28) := ⟨⟨by decide +kernel, by decide +kernel⟩, List.mem_of_getElem? (i := 571) (by decide +kernel), List.mem_of_getElem? (i := 820) (by decide +kernel), List.mem_of_getElem? (i := 821) (by decide +kernel)⟩
theorem lw_p42 : lw_okq (⟨"WindCarverModel", "blowIn", "(I)V"⟩, 28) := ⟨⟨by decide +kernel, by decide +kernel⟩, List.mem_of_getElem? (i := 571) (by decide +kernel), List.mem_of_getElem? (i := 834) (by decide +kernel), List.mem_of_getElem? (i := 835) (by decide +kernel)⟩
theorem lw_p43 : lw_okq (⟨"WindCarverModel", "putAside", "()V"⟩, 28) := ⟨⟨by decide +kernel, by decide +kernel⟩, List.mem_of_getElem? (i := 571) (by decide +kernel), List.mem_of_getElem? (i := 838) (by decide +kernel), List.mem_of_getElem? (i := 839) (by decide +kernel)⟩
theorem lw_p44 : lw_okq (⟨"WindCarverModel", "takeBack", "()V"⟩, 28) := ⟨⟨by decide +kernel, by decide +kernel⟩, List.mem_of_getElem? (i := 571) (by decide +kernel), List.mem_of_getElem? (i := 842) (by decide +kernel), List.mem_of_getElem? (i := 843) (by decide +kernel)⟩
theorem lw_p45 : lw_okq (⟨"WindCarverModel", "lacks", "(III)I"⟩, 28) := ⟨⟨by decide +kernel, by decide +kernel⟩, List.mem_of_getElem? (i := 571) (by decide +kernel), List.mem_of_getElem? (i := 865) (by decide +kernel), List.mem_of_getElem? (i := 866) (by decide +kernel)⟩
theorem lw_p46 : lw_okq (⟨"WindCarverModel", "feltWith", "(III)I"⟩, 28) := ⟨⟨by decide +kernel, by decide +kernel⟩, List.mem_of_getElem? (i := 571) (by decide +kernel), List.mem_of_getElem? (i := 874) (by decide +kernel), List.mem_of_getElem? (i := 875) (by decide +kernel)⟩
theorem lw_p47 : lw_okq (⟨"WindCarverModel", "sizeOf", "(I)I"⟩, 28) := ⟨⟨by decide +kernel, by decide +kernel⟩, List.mem_of_getElem? (i := 571) (by decide +kernel), List.mem_of_getElem? (i := 914) (by decide +kernel), List.mem_of_getElem? (i := 915) (by decide +kernel)⟩
def lw_privs_3 : List (MethodName × Nat) := [(⟨"WindCarverModel", "takesNumber", "(IIII)Z"⟩, 28), (⟨"WindCarverModel", "readWork", "(I)Z"⟩, 28), (⟨"WindCarverModel", "isWork", "(I)Z"⟩, 28), (⟨"WindCarverModel", "workMany", "()I"⟩, 28), (⟨"WindCarverModel", "note", "()V"⟩, 28), (⟨"WindCarverModel", "clear", "(I)V"⟩, 28), (⟨"WindCarverModel", "oneHour", "()V"⟩, 28), (⟨"WindCarverModel", "blow", "()V"⟩, 28), (⟨"WindCarverModel", "goes", "(III)V"⟩, 28), (⟨"WindCarverModel", "feltNow", "(I)I"⟩, 28), (⟨"WindCarverModel", "blowIn", "(I)V"⟩, 28), (⟨"WindCarverModel", "putAside", "()V"⟩, 28), (⟨"WindCarverModel", "takeBack", "()V"⟩, 28), (⟨"WindCarverModel", "lacks", "(III)I"⟩, 28), (⟨"WindCarverModel", "feltWith", "(III)I"⟩, 28), (⟨"WindCarverModel", "sizeOf", "(I)I"⟩, 28)]
theorem lw_r3 : ∀ q ∈ lw_privs_3, lw_okq q := List.forall_mem_cons.mpr ⟨lw_p32, List.forall_mem_cons.mpr ⟨lw_p33, List.forall_mem_cons.mpr ⟨lw_p34, List.forall_mem_cons.mpr ⟨lw_p35, List.forall_mem_cons.mpr ⟨lw_p36, List.forall_mem_cons.mpr ⟨lw_p37, List.forall_mem_cons.mpr ⟨lw_p38, List.forall_mem_cons.mpr ⟨lw_p39, List.forall_mem_cons.mpr ⟨lw_p40, List.forall_mem_cons.mpr ⟨lw_p41, List.forall_mem_cons.mpr ⟨lw_p42, List.forall_mem_cons.mpr ⟨lw_p43, List.forall_mem_cons.mpr ⟨lw_p44, List.forall_mem_cons.mpr ⟨lw_p45, List.forall_mem_cons.mpr ⟨lw_p46, List.forall_mem_cons.mpr ⟨lw_p47, fun _ h => absurd h List.not_mem_nil⟩⟩⟩⟩⟩⟩⟩⟩⟩⟩⟩⟩⟩⟩⟩⟩
theorem lw_p48 : lw_okq (⟨"WindCarverModel", "begin", "(I)V"⟩, 28) := ⟨⟨by decide +kernel, by decide +kernel⟩, List.mem_of_getElem? (i := 571) (by decide +kernel), List.mem_of_getElem? (i := 918) (by decide +kernel), List.mem_of_getElem? (i := 919) (by decide +kernel)⟩
theorem lw_p49 : lw_okq (⟨"WindCarverModel", "wallSize", "(I)I"⟩, 28) := ⟨⟨by decide +kernel, by decide +kernel⟩, List.mem_of_getElem? (i := 571) (by decide +kernel), List.mem_of_getElem? (i := 922) (by decide +kernel), List.mem_of_getElem? (i := 923) (by decide +kernel)⟩
theorem lw_p50 : lw_okq (⟨"WindCarverModel", "lent", "(II)I"⟩, 28) := ⟨⟨by decide +kernel, by decide +kernel⟩, List.mem_of_getElem? (i := 571) (by decide +kernel), List.mem_of_getElem? (i := 926) (by decide +kernel), List.mem_of_getElem? (i := 927) (by decide +kernel)⟩
theorem lw_p51 : lw_okq (⟨"WindCarverModel", "markOf", "(I)I"⟩, 28) := ⟨⟨by decide +kernel, by decide +kernel⟩, List.mem_of_getElem? (i := 571) (by decide +kernel), List.mem_of_getElem? (i := 930) (by decide +kernel), List.mem_of_getElem? (i := 931) (by decide +kernel)⟩
theorem lw_p52 : lw_okq (⟨"WindCarverModel", "wallMark", "(I)I"⟩, 28) := ⟨⟨by decide +kernel, by decide +kernel⟩, List.mem_of_getElem? (i := 571) (by decide +kernel), List.mem_of_getElem? (i := 934) (by decide +kernel), List.mem_of_getElem? (i := 935) (by decide +kernel)⟩
theorem lw_p53 : lw_okq (⟨"WindCarverModel", "sizeOfHand", "(I)I"⟩, 28) := ⟨⟨by decide +kernel, by decide +kernel⟩, List.mem_of_getElem? (i := 571) (by decide +kernel), List.mem_of_getElem? (i := 938) (by decide +kernel), List.mem_of_getElem? (i := 939) (by decide +kernel)⟩
theorem lw_p54 : lw_okq (⟨"WindCarverModel", "handSize", "(I)I"⟩, 28) := ⟨⟨by decide +kernel, by decide +kernel⟩, List.mem_of_getElem? (i := 571) (by decide +kernel), List.mem_of_getElem? (i := 942) (by decide +kernel), List.mem_of_getElem? (i := 943) (by decide +kernel)⟩
def lw_privs_4 : List (MethodName × Nat) := [(⟨"WindCarverModel", "begin", "(I)V"⟩, 28), (⟨"WindCarverModel", "wallSize", "(I)I"⟩, 28), (⟨"WindCarverModel", "lent", "(II)I"⟩, 28), (⟨"WindCarverModel", "markOf", "(I)I"⟩, 28), (⟨"WindCarverModel", "wallMark", "(I)I"⟩, 28), (⟨"WindCarverModel", "sizeOfHand", "(I)I"⟩, 28), (⟨"WindCarverModel", "handSize", "(I)I"⟩, 28)]
theorem lw_r4 : ∀ q ∈ lw_privs_4, lw_okq q := List.forall_mem_cons.mpr ⟨lw_p48, List.forall_mem_cons.mpr ⟨lw_p49, List.forall_mem_cons.mpr ⟨lw_p50, List.forall_mem_cons.mpr ⟨lw_p51, List.forall_mem_cons.mpr ⟨lw_p52, List.forall_mem_cons.mpr ⟨lw_p53, List.forall_mem_cons.mpr ⟨lw_p54, fun _ h => absurd h List.not_mem_nil⟩⟩⟩⟩⟩⟩⟩
def lw_privs : List (MethodName × Nat) := lw_privs_1 ++ (lw_privs_2 ++ (lw_privs_3 ++ (lw_privs_4)))
def lw_tbl : List Cond := k2_sels lw_privs ++ tables_1
theorem lw_privs_ok : ∀ q ∈ lw_privs, lw_okq q := by
  show ∀ q ∈ lw_privs_1 ++ (lw_privs_2 ++ (lw_privs_3 ++ (lw_privs_4))), lw_okq q
  exact List.forall_mem_append.mpr ⟨lw_r1, List.forall_mem_append.mpr ⟨lw_r2, List.forall_mem_append.mpr ⟨lw_r3, lw_r4⟩⟩⟩
end
section
/-! NAMES AND TABLES of the class, the reference and the law: written by wip/whole/gen/emit02.py out of claim/JAVAP.txt and the tables of the Statement -/
def wc_cnl : List String := ["WindCarver", "WindCarver$Row", "WindCarver$Text", "WindCarver$Pass", "WindCarver$Air", "WindCarver$Acts", "WindCarver$Asked", "WindCarverModel", "WindCarverLaw"]
def wc_cn (ci : Nat) : String := (wc_cnl[ci]?).getD ""
def wc_nfl : List Nat := [10, 4, 5, 7, 3, 3, 6, 28]
def wc_nf (ci : Nat) : Nat := (wc_nfl[ci]?).getD 0
def wc_ftab : List (List (String × String × String × Bool)) := [
  [("WindCarver", "rows", "[LWindCarver$Row;", true), ("WindCarver", "text", "LWindCarver$Text;", true), ("WindCarver", "now", "LWindCarver$Pass;", true), ("WindCarver", "other", "LWindCarver$Pass;", true), ("WindCarver", "air", "LWindCarver$Air;", true), ("WindCarver", "chosen", "[I", true), ("WindCarver", "acts", "LWindCarver$Acts;", true), ("WindCarver", "images", "[LWindCarver$Pass;", true), ("WindCarver", "asked", "LWindCarver$Asked;", true), ("WindCarver", "finding", "I", false)],
  [("WindCarver$Row", "items", "[I", true), ("WindCarver$Row", "there", "Z", false), ("WindCarver$Row", "lane", "I", false), ("WindCarver$Row", "length", "I", false)],
  [("WindCarver$Text", "tape", "[I", true), ("WindCarver$Text", "length", "I", false), ("WindCarver$Text", "fault", "I", false), ("WindCarver$Text", "place", "I", false), ("WindCarver$Text", "at", "I", false)],
  [("WindCarver$Pass", "gusts", "[I", true), ("WindCarver$Pass", "rises", "[I", true), ("WindCarver$Pass", "kinds", "[I", true), ("WindCarver$Pass", "holds", "[I", true), ("WindCarver$Pass", "\x6fpen", "[I", true), ("WindCarver$Pass", "there", "Z", false), ("WindCarver$Pass", "hour", "I", false)],
  [("WindCarver$Air", "felt", "[I", true), ("WindCarver$Air", "leaving", "[I", true), ("WindCarver$Air", "lost", "I", false)],
  [("WindCarver$Acts", "ahead", "[LWindCarver$Pass;", true), ("WindCarver$Acts", "next", "I", false), ("WindCarver$Acts", "kept", "I", false)],
  [("WindCarver$Asked", "trace", "[I", true), ("WindCarver$Asked", "traced", "I", false), ("WindCarver$Asked", "kind", "I", false), ("WindCarver$Asked", "holds", "I", false), ("WindCarver$Asked", "cell", "I", false), ("WindCarver$Asked", "felt", "I", false)],
  [("WindCarverModel", "lanes", "[I", true), ("WindCarverModel", "sizes", "[I", true), ("WindCarverModel", "items", "[I", true), ("WindCarverModel", "status", "I", false), ("WindCarverModel", "isThere", "Z", false), ("WindCarverModel", "st", "[I", true), ("WindCarverModel", "moved", "[I", true), ("WindCarverModel", "tape", "[I", true), ("WindCarverModel", "bytes", "I", false), ("WindCarverModel", "latest", "I", false), ("WindCarverModel", "place", "I", false), ("WindCarverModel", "token", "I", false), ("WindCarverModel", "value", "I", false), ("WindCarverModel", "begins", "I", false), ("WindCarverModel", "wrong", "I", false), ("WindCarverModel", "read", "[I", true), ("WindCarverModel", "works", "I", false), ("WindCarverModel", "readX", "I", false), ("WindCarverModel", "felt", "[I", true), ("WindCarverModel", "lostNow", "I", false), ("WindCarverModel", "brokenNow", "I", false), ("WindCarverModel", "acts", "[I", true), ("WindCarverModel", "actMany", "I", false), ("WindCarverModel", "aside", "[I", true), ("WindCarverModel", "isKept", "[Z", true), ("WindCarverModel", "kept", "[I", true), ("WindCarverModel", "trace", "[I", true), ("WindCarverModel", "traced", "I", false)]]
def wc_F (ci : Nat) : u_T := fun k => ((((wc_ftab[ci]?).getD [])[k]?).getD ("", "", "", false))
abbrev wc_cls : List vw_C := (List.range 8).map (fun ci => (wc_cn ci, wc_F ci, wc_nf ci))
/-- kinds of cells: how many, and of which shape: 0 an object of a class, 1 ints, 2 booleans, 3 Rows, 4 Passes, 9 a table of a class, 10 the script -/
def wc_cntl : List Nat := [1, 1, 8, 8, 1, 1, 28, 28, 28, 28, 28, 28, 1, 1, 1, 1, 1, 1, 1, 1, 1, 1, 1, 1, 1, 1, 1, 1, 1, 1, 1, 1, 1, 1, 1, 1, 1, 1, 1]
def wc_cnt (k : Nat) : Nat := (wc_cntl[k]?).getD 0
def wc_shl : List (Nat × Nat) := [(0, 0), (3, 8), (0, 1), (1, 40), (0, 2), (1, 120), (0, 3), (1, 4), (1, 4), (1, 16), (1, 16), (1, 16), (0, 4), (1, 16), (1, 4), (1, 2), (0, 5), (4, 24), (4, 2), (0, 6), (1, 16), (0, 7), (1, 8), (1, 8), (1, 320), (1, 57), (1, 40), (1, 120), (1, 57), (1, 20), (1, 1368), (1, 57), (2, 2), (1, 114), (1, 16), (9, 6), (9, 6), (9, 6), (10, 0)]
def wc_sh (k : Nat) : Nat × Nat := (wc_shl[k]?).getD (99, 0)
def wc_rfl : List (List (Option (Nat × Bool × Nat))) := [
  [some (1, false, 0), some (4, false, 0), some (6, false, 0), some (6, false, 1), some (12, false, 0), some (15, false, 0), some (16, false, 0), some (18, false, 0), some (19, false, 0), none],
  [],
  [some (3, true, 0), none, none, none],
  [],
  [some (5, false, 0), none, none, none, none],
  [],
  [some (7, true, 0), some (8, true, 0), some (9, true, 0), some (10, true, 0), some (11, true, 0), none, none],
  [],
  [],
  [],
  [],
  [],
  [some (13, false, 0), some (14, false, 0), none],
  [],
  [],
  [],
  [some (17, false, 0), none, none],
  [],
  [],
  [some (20, false, 0), none, none, none, none, none],
  [],
  [some (22, false, 0), some (23, false, 0), some (24, false, 0), none, none, some (25, false, 0), some (26, false, 0), some (27, false, 0), none, none, none, none, none, none, none, some (28, false, 0), none, none, some (29, false, 0), none, none, some (30, false, 0), none, some (31, false, 0), some (32, false, 0), some (33, false, 0), some (34, false, 0), none],
  [],
  [],
  [],
  [],
  [],
  [],
  [],
  [],
  [],
  [],
  [],
  [],
  [],
  [],
  [],
  [],
  []]
def wc_bol : List (Nat × Nat) := [(1, 1), (3, 5), (7, 4)]
def wc_stl : List (List Int32) := [[-1, 0, 1, 1, 0, 4], [10, 11, 12, 11, 13, 14], [20, 21, 24, 22, 23, 23]]
/-- links: (own class, index, class, place of the field) ; (own, index, kind) ; constants ; (own, index, method) -/
def wc_fl : List (Nat × Nat × Nat × Nat) := [(2, 11, 2, 0), (2, 15, 2, 1), (0, 115, 2, 1), (2, 19, 2, 2), (0, 136, 2, 2), (2, 22, 2, 3), (0, 122, 2, 3), (2, 25, 2, 4), (3, 9, 3, 0), (4, 22, 3, 0), (2, 33, 3, 0), (0, 170, 3, 0), (3, 15, 3, 1), (2, 40, 3, 1), (0, 189, 3, 1), (3, 18, 3, 2), (4, 35, 3, 2), (0, 161, 3, 2), (3, 21, 3, 3), (0, 186, 3, 3), (3, 24, 3, 4), (4, 38, 3, 4), (0, 164, 3, 4), (3, 27, 3, 5), (0, 139, 3, 5), (3, 31, 3, 6), (4, 41, 3, 6), (0, 173, 3, 6), (4, 9, 4, 0), (0, 195, 4, 0), (4, 15, 4, 1), (0, 201, 4, 1), (4, 18, 4, 2), (0, 198, 4, 2), (5, 11, 5, 0), (5, 17, 5, 1), (5, 21, 5, 2), (0, 129, 5, 2), (6, 11, 6, 0), (0, 251, 6, 0), (6, 15, 6, 1), (0, 248, 6, 1), (6, 19, 6, 2), (0, 232, 6, 2), (6, 22, 6, 3), (0, 235, 6, 3), (6, 25, 6, 4), (0, 237, 6, 4), (6, 28, 6, 5), (0, 240, 6, 5), (1, 9, 1, 0), (0, 89, 1, 0), (1, 15, 1, 1), (0, 92, 1, 1), (1, 19, 1, 2), (0, 96, 1, 2), (1, 23, 1, 3), (0, 108, 1, 3), (0, 11, 0, 0), (0, 18, 0, 1), (0, 25, 0, 2), (0, 29, 0, 3), (0, 35, 0, 4), (0, 39, 0, 5), (0, 46, 0, 6), (0, 50, 0, 7), (0, 57, 0, 8), (0, 61, 0, 9), (7, 7, 7, 0), (7, 13, 7, 1), (7, 16, 7, 2), (7, 50, 7, 3), (7, 145, 7, 4), (7, 19, 7, 5), (7, 22, 7, 6), (7, 25, 7, 7), (7, 81, 7, 8), (7, 141, 7, 9), (7, 85, 7, 10), (7, 91, 7, 11), (7, 94, 7, 12), (7, 88, 7, 13), (7, 105, 7, 14), (7, 28, 7, 15), (7, 124, 7, 16), (7, 127, 7, 17), (7, 31, 7, 18), (7, 159, 7, 19), (7, 169, 7, 20), (7, 34, 7, 21), (7, 149, 7, 22), (7, 37, 7, 23), (7, 40, 7, 24), (7, 44, 7, 25), (7, 47, 7, 26), (7, 233, 7, 27)]
def wc_flp : List Nat := [27, 28, 29, 30, 31, 32, 33, 34, 53, 54, 55, 56, 57, 58, 59, 60, 61, 62, 63, 64, 65, 66, 67, 68, 69, 70, 71, 72, 94, 95, 96, 97, 98, 99, 116, 117, 118, 119, 133, 134, 135, 136, 137, 138, 139, 140, 141, 142, 143, 144, 163, 164, 165, 166, 167, 168, 169, 170, 180, 181, 182, 183, 184, 185, 186, 187, 188, 189, 576, 577, 578, 579, 580, 581, 582, 583, 584, 585, 586, 587, 588, 589, 590, 591, 592, 593, 594, 595, 596, 597, 598, 599, 600, 601, 602, 603]
def wc_gs : List (Nat × Nat × Nat) := [(0, 263, 35), (6, 31, 36), (6, 38, 37)]
def wc_gsn : List (String × String) := [("WindCarver", "IS_TOO"), ("WindCarver$Asked", "SIZE_BODY"), ("WindCarver$Asked", "MARK_BODY")]
def wc_gsp : List Nat := [521, 531, 540]
def wc_ld : List (Nat × Nat × Int32) := [(0, 70, (-1000001)), (0, 266, (-1000010)), (0, 116, (-1000003)), (0, 121, (-1000100)), (0, 140, (-1000002)), (0, 185, (-1000000)), (3, 57, (-1000000)), (7, 67, (-1000001)), (7, 54, (-1000010)), (7, 84, (-1000003)), (7, 144, (-1000100)), (7, 179, (-1000002)), (7, 204, (-1000000))]
def wc_ldp : List Nat := [218, 223, 267, 323, 342, 426, 455, 674, 679, 704, 745, 754, 823]
def wc_le : List (Nat × Nat × Int64) := [(7, 55, 7), (7, 65, 2), (7, 79, 255), (7, 97, 48), (7, 99, 57), (7, 101, 97), (7, 103, 122), (7, 152, 15), (7, 183, 5), (7, 185, 99), (7, 154, 3), (7, 194, 31), (7, 196, 20), (7, 211, 40), (7, 223, (-1)), (7, 228, 10)]
def wc_lep : List Nat := [669, 673, 703, 717, 718, 719, 720, 758, 759, 760, 792, 793, 798, 832, 872, 889]
def wc_ml : List (Nat × Nat × Nat) := [(8, 13, 0), (0, 66, 32), (0, 71, 37), (0, 75, 52), (0, 79, 38), (8, 18, 1), (0, 82, 39), (0, 99, 53), (0, 86, 54), (8, 22, 2), (8, 27, 3), (8, 32, 4), (0, 111, 55), (8, 36, 5), (0, 117, 56), (2, 28, 66), (3, 41, 68), (3, 45, 67), (2, 36, 57), (2, 47, 61), (2, 58, 64), (2, 51, 62), (2, 73, 63), (2, 43, 58), (2, 55, 60), (2, 62, 59), (2, 66, 69), (2, 69, 67), (0, 125, 65), (0, 132, 70), (3, 49, 69), (8, 41, 6), (8, 45, 7), (0, 141, 33), (0, 144, 35), (0, 147, 69), (0, 150, 79), (5, 25, 65), (0, 153, 67), (8, 49, 8), (0, 157, 68), (8, 53, 9), (8, 57, 10), (0, 167, 34), (8, 62, 11), (0, 176, 44), (0, 204, 74), (4, 27, 75), (4, 31, 76), (4, 44, 77), (4, 48, 78), (0, 267, 73), (3, 53, 71), (8, 66, 12), (0, 179, 80), (8, 70, 13), (0, 182, 41), (8, 74, 14), (8, 78, 15), (0, 192, 45), (8, 82, 16), (8, 86, 17), (8, 90, 18), (0, 207, 72), (8, 94, 19), (0, 211, 46), (8, 98, 20), (0, 215, 48), (0, 271, 49), (8, 102, 21), (0, 219, 47), (8, 107, 22), (8, 111, 23), (0, 223, 50), (0, 226, 51), (8, 115, 24), (8, 119, 25), (8, 123, 26), (8, 127, 27), (0, 229, 36), (8, 131, 28), (0, 242, 81), (6, 34, 83), (6, 41, 84), (0, 245, 82), (8, 135, 29), (8, 139, 30), (0, 254, 40), (0, 257, 42), (0, 260, 43), (8, 143, 31), (8, 17, 90), (7, 61, 89), (7, 57, 85), (7, 68, 87), (7, 72, 88), (8, 21, 92), (7, 75, 91), (8, 26, 93), (8, 31, 94), (8, 35, 95), (8, 40, 104), (7, 137, 103), (7, 114, 96), (7, 130, 101), (7, 117, 99), (7, 108, 98), (7, 111, 97), (7, 120, 100), (7, 134, 102), (8, 44, 105), (8, 48, 116), (7, 180, 106), (7, 172, 108), (7, 187, 114), (7, 191, 115), (8, 52, 117), (7, 175, 112), (8, 56, 118), (8, 61, 119), (7, 156, 107), (8, 65, 120), (7, 198, 113), (7, 166, 110), (7, 162, 109), (8, 69, 121), (8, 73, 122), (7, 201, 111), (8, 77, 123), (8, 81, 127), (7, 213, 126), (7, 205, 124), (7, 208, 125), (8, 85, 128), (8, 89, 129), (8, 93, 130), (7, 216, 86), (8, 97, 132), (7, 219, 131), (8, 101, 134), (7, 225, 133), (8, 106, 135), (8, 110, 136), (8, 114, 137), (8, 118, 138), (8, 122, 139), (8, 126, 140), (8, 130, 142), (7, 230, 141), (8, 134, 151), (7, 257, 150), (7, 236, 143), (7, 254, 149), (7, 239, 144), (7, 251, 148), (7, 245, 145), (7, 248, 147), (7, 242, 146), (8, 138, 152), (8, 142, 153), (8, 146, 154)]
def wc_mlp : List Nat := [211, 215, 219, 224, 228, 232, 236, 240, 244, 248, 255, 259, 263, 268, 272, 276, 280, 284, 288, 292, 296, 300, 304, 307, 311, 314, 318, 322, 324, 329, 333, 334, 338, 343, 346, 349, 350, 354, 358, 359, 363, 364, 368, 372, 375, 379, 383, 387, 391, 395, 398, 402, 406, 410, 414, 418, 422, 427, 431, 435, 439, 443, 447, 451, 456, 460, 464, 468, 472, 476, 480, 484, 488, 492, 496, 502, 506, 510, 514, 518, 523, 527, 533, 536, 542, 546, 550, 554, 558, 562, 566, 662, 666, 670, 675, 680, 684, 688, 691, 695, 699, 705, 709, 713, 721, 725, 729, 733, 737, 741, 746, 750, 755, 761, 765, 769, 773, 777, 781, 785, 789, 794, 799, 803, 807, 811, 815, 819, 824, 828, 833, 837, 841, 845, 849, 853, 857, 860, 864, 868, 873, 877, 881, 885, 890, 894, 898, 902, 906, 909, 913, 917, 921, 925, 929, 933, 937, 941, 945, 949, 953]
/-- the methods, constructors apart: (own class, static, name, maxLocals, what it returns, how many arguments) -/
def wc_mtl : List (Nat × Bool × String × String × Nat × Option FieldType × Nat) := [
  (0, false, "row", "(III)I", 4, (some .int), 3),
  (0, false, "set", "(III)I", 6, (some .int), 3),
  (0, false, "copy", "(IIIII)I", 8, (some .int), 5),
  (0, false, "drop", "(I)I", 2, (some .int), 1),
  (0, false, "feed", "(I)I", 2, (some .int), 1),
  (0, false, "pass", "()I", 2, (some .int), 0),
  (0, false, "fault", "()I", 1, (some .int), 0),
  (0, false, "setUp", "(III)I", 4, (some .int), 3),
  (0, false, "take", "(I)I", 2, (some .int), 1),
  (0, false, "turn", "(I)I", 2, (some .int), 1),
  (0, false, "gust", "(II)I", 4, (some .int), 2),
  (0, false, "hours", "(I)I", 3, (some .int), 1),
  (0, false, "undo", "()I", 1, (some .int), 0),
  (0, false, "cell", "(II)I", 3, (some .int), 2),
  (0, false, "wind", "(II)I", 3, (some .int), 2),
  (0, false, "felt", "(II)I", 3, (some .int), 2),
  (0, false, "lost", "(I)I", 2, (some .int), 1),
  (0, false, "leaves", "(II)I", 3, (some .int), 2),
  (0, false, "breaks", "(I)I", 4, (some .int), 1),
  (0, false, "stands", "(II)I", 5, (some .int), 2),
  (0, false, "walls", "(III)I", 5, (some .int), 3),
  (0, false, "hidden", "(IIII)I", 8, (some .int), 4),
  (0, false, "most", "(II)I", 6, (some .int), 2),
  (0, false, "lots", "(IIII)I", 10, (some .int), 4),
  (0, false, "image", "(I)I", 2, (some .int), 1),
  (0, false, "restore", "(I)I", 2, (some .int), 1),
  (0, false, "kind", "(I)I", 2, (some .int), 1),
  (0, false, "as", "(II)I", 3, (some .int), 2),
  (0, false, "ask", "(II)I", 3, (some .int), 2),
  (0, false, "trace", "(I)I", 2, (some .int), 1),
  (0, false, "count", "(I)I", 2, (some .int), 1),
  (0, false, "status", "()I", 1, (some .int), 0),
  (0, true, "isUpTo", "(II)Z", 2, (some .boolean), 2),
  (0, true, "isCell", "(I)Z", 1, (some .boolean), 1),
  (0, true, "isLine", "(I)Z", 1, (some .boolean), 1),
  (0, true, "isWorkKind", "(I)Z", 1, (some .boolean), 1),
  (0, true, "isA", "(II)Z", 4, (some .boolean), 2),
  (0, false, "found", "(I)I", 2, (some .int), 1),
  (0, false, "withoutFinding", "(I)I", 2, (some .int), 1),
  (0, false, "findingIn", "(III)I", 4, (some .int), 3),
  (0, false, "rowsThere", "()I", 3, (some .int), 0),
  (0, false, "feltNow", "(I)I", 2, (some .int), 1),
  (0, false, "lostNow", "()I", 1, (some .int), 0),
  (0, false, "leavingNow", "()I", 3, (some .int), 0),
  (0, false, "spendHour", "(LWindCarver$Pass;)V", 2, none, 1),
  (0, false, "foretell", "(I)V", 3, none, 1),
  (0, false, "isFeltEverywhere", "([II)Z", 4, (some .boolean), 2),
  (0, false, "isFeltAlong", "(I[II)Z", 5, (some .boolean), 3),
  (0, false, "chooseWalls", "(II)I", 4, (some .int), 2),
  (0, false, "chooseWall", "(IIII)Z", 6, (some .boolean), 4),
  (0, false, "breakByLot", "(II)I", 6, (some .int), 2),
  (0, true, "commonDivisor", "(II)I", 6, (some .int), 2),
  (1, false, "make", "(II)V", 4, none, 2),
  (1, false, "has", "(II)Z", 3, (some .boolean), 2),
  (1, false, "lowestBits", "(I)I", 2, (some .int), 1),
  (2, false, "add", "(I)Z", 2, (some .boolean), 1),
  (2, false, "read", "(LWindCarver$Pass;)Z", 2, (some .boolean), 1),
  (2, false, "readLines", "(I[I)Z", 4, (some .boolean), 2),
  (2, false, "readWorks", "(LWindCarver$Pass;)Z", 4, (some .boolean), 1),
  (2, false, "readWork", "(ILWindCarver$Pass;)Z", 7, (some .boolean), 2),
  (2, true, "kindOf", "(I)I", 1, (some .int), 1),
  (2, false, "readByte", "(I)Z", 2, (some .boolean), 1),
  (2, false, "readNumber", "(I)I", 4, (some .int), 1),
  (2, true, "isFigure", "(I)Z", 1, (some .boolean), 1),
  (2, false, "fail", "(II)Z", 3, (some .boolean), 2),
  (3, false, "become", "(LWindCarver$Pass;)V", 2, none, 1),
  (3, false, "begin", "()V", 2, none, 0),
  (3, false, "put", "(III)V", 4, none, 3),
  (3, false, "clear", "(I)V", 2, none, 1),
  (3, false, "hasWork", "(I)Z", 2, (some .boolean), 1),
  (3, false, "works", "()I", 3, (some .int), 0),
  (3, false, "isTooMuch", "(II)Z", 3, (some .boolean), 2),
  (3, false, "firstToBreak", "([I)I", 3, (some .int), 1),
  (3, false, "breakAndRise", "([I)V", 3, none, 1),
  (4, false, "blow", "(LWindCarver$Pass;)V", 3, none, 1),
  (4, false, "on", "(LWindCarver$Pass;I)I", 3, (some .int), 2),
  (4, false, "part", "(IILWindCarver$Pass;)V", 8, none, 3),
  (4, true, "north", "(III)I", 3, (some .int), 3),
  (4, false, "bring", "(III)V", 4, none, 3),
  (5, false, "keep", "(LWindCarver$Pass;)V", 2, none, 1),
  (5, false, "takeBack", "(LWindCarver$Pass;)V", 2, none, 1),
  (6, false, "askSize", "()I", 1, (some .int), 0),
  (6, false, "askMark", "()I", 1, (some .int), 0),
  (6, true, "body", "(LWindCarver$Asked;II)I", 4, (some .int), 3),
  (6, false, "leave", "(I)V", 2, none, 1),
  (7, true, "in", "(JJJ)Z", 6, (some .boolean), 3),
  (7, true, "has", "(II)Z", 2, (some .boolean), 2),
  (7, false, "find", "(I)I", 2, (some .int), 1),
  (7, false, "well", "(I)I", 2, (some .int), 1),
  (7, true, "isRow", "(I)Z", 1, (some .boolean), 1),
  (7, false, "row", "(III)I", 5, (some .int), 3),
  (7, true, "asLane", "(II)I", 2, (some .int), 2),
  (7, false, "set", "(III)I", 4, (some .int), 3),
  (7, false, "copy", "(IIIII)I", 7, (some .int), 5),
  (7, false, "drop", "(I)I", 3, (some .int), 1),
  (7, false, "feed", "(I)I", 2, (some .int), 1),
  (7, false, "nextToken", "()V", 1, none, 0),
  (7, false, "faults", "(I)Z", 2, (some .boolean), 1),
  (7, false, "isLetter", "(I)Z", 2, (some .boolean), 1),
  (7, false, "takes", "(I)Z", 2, (some .boolean), 1),
  (7, false, "takesNumber", "(IIII)Z", 5, (some .boolean), 4),
  (7, false, "readFour", "(II)Z", 5, (some .boolean), 2),
  (7, false, "readWork", "(I)Z", 3, (some .boolean), 1),
  (7, false, "readPass", "()Z", 3, (some .boolean), 0),
  (7, false, "pass", "()I", 3, (some .int), 0),
  (7, false, "fault", "()I", 1, (some .int), 0),
  (7, true, "isCell", "(I)Z", 1, (some .boolean), 1),
  (7, true, "isRowOfPass", "(I)Z", 1, (some .boolean), 1),
  (7, false, "isWork", "(I)Z", 2, (some .boolean), 1),
  (7, false, "goes", "(III)V", 4, none, 3),
  (7, false, "blow", "()V", 9, none, 0),
  (7, false, "feltNow", "(I)I", 2, (some .int), 1),
  (7, false, "clear", "(I)V", 2, none, 1),
  (7, false, "oneHour", "()V", 2, none, 0),
  (7, false, "workMany", "()I", 3, (some .int), 0),
  (7, false, "note", "()V", 2, none, 0),
  (7, false, "setUp", "(III)I", 4, (some .int), 3),
  (7, false, "take", "(I)I", 2, (some .int), 1),
  (7, false, "turn", "(I)I", 2, (some .int), 1),
  (7, false, "gust", "(II)I", 4, (some .int), 2),
  (7, false, "hours", "(I)I", 3, (some .int), 1),
  (7, false, "undo", "()I", 2, (some .int), 0),
  (7, false, "cell", "(II)I", 3, (some .int), 2),
  (7, false, "wind", "(II)I", 3, (some .int), 2),
  (7, false, "putAside", "()V", 2, none, 0),
  (7, false, "takeBack", "()V", 2, none, 0),
  (7, false, "blowIn", "(I)V", 3, none, 1),
  (7, false, "felt", "(II)I", 3, (some .int), 2),
  (7, false, "lost", "(I)I", 2, (some .int), 1),
  (7, false, "leaves", "(II)I", 3, (some .int), 2),
  (7, false, "breaks", "(I)I", 5, (some .int), 1),
  (7, false, "lacks", "(III)I", 4, (some .int), 3),
  (7, false, "stands", "(II)I", 7, (some .int), 2),
  (7, false, "feltWith", "(III)I", 5, (some .int), 3),
  (7, false, "walls", "(III)I", 6, (some .int), 3),
  (7, false, "hidden", "(IIII)I", 10, (some .int), 4),
  (7, false, "most", "(II)I", 7, (some .int), 2),
  (7, false, "lots", "(IIII)I", 12, (some .int), 4),
  (7, false, "image", "(I)I", 3, (some .int), 1),
  (7, false, "restore", "(I)I", 3, (some .int), 1),
  (7, false, "kind", "(I)I", 2, (some .int), 1),
  (7, true, "isKind", "(II)Z", 2, (some .boolean), 2),
  (7, false, "as", "(II)I", 3, (some .int), 2),
  (7, false, "begin", "(I)V", 2, none, 1),
  (7, false, "lent", "(II)I", 3, (some .int), 2),
  (7, false, "wallMark", "(I)I", 2, (some .int), 1),
  (7, false, "handSize", "(I)I", 2, (some .int), 1),
  (7, false, "sizeOfHand", "(I)I", 2, (some .int), 1),
  (7, false, "markOf", "(I)I", 4, (some .int), 1),
  (7, false, "wallSize", "(I)I", 3, (some .int), 1),
  (7, false, "sizeOf", "(I)I", 3, (some .int), 1),
  (7, false, "ask", "(II)I", 3, (some .int), 2),
  (7, false, "trace", "(I)I", 2, (some .int), 1),
  (7, false, "count", "(I)I", 4, (some .int), 1),
  (7, false, "status", "()I", 1, (some .int), 0)]
def wc_mtb : List ByteArray := [prog_1_method_2_code, prog_1_method_3_code, prog_1_method_4_code, prog_1_method_5_code, prog_1_method_6_code, prog_1_method_7_code, prog_1_method_8_code, prog_1_method_9_code, prog_1_method_10_code, prog_1_method_11_code, prog_1_method_12_code, prog_1_method_13_code, prog_1_method_14_code, prog_1_method_15_code, prog_1_method_16_code, prog_1_method_17_code, prog_1_method_18_code, prog_1_method_19_code, prog_1_method_20_code, prog_1_method_21_code, prog_1_method_22_code, prog_1_method_23_code, prog_1_method_24_code, prog_1_method_25_code, prog_1_method_26_code, prog_1_method_27_code, prog_1_method_28_code, prog_1_method_29_code, prog_1_method_30_code, prog_1_method_31_code, prog_1_method_32_code, prog_1_method_33_code, prog_1_method_34_code, prog_1_method_35_code, prog_1_method_36_code, prog_1_method_37_code, prog_1_method_38_code, prog_1_method_39_code, prog_1_method_40_code, prog_1_method_41_code, prog_1_method_42_code, prog_1_method_43_code, prog_1_method_44_code, prog_1_method_45_code, prog_1_method_46_code, prog_1_method_47_code, prog_1_method_48_code, prog_1_method_49_code, prog_1_method_50_code, prog_1_method_51_code, prog_1_method_52_code, prog_1_method_53_code, prog_6_method_2_code, prog_6_method_3_code, prog_6_method_4_code, prog_7_method_2_code, prog_7_method_3_code, prog_7_method_4_code, prog_7_method_5_code, prog_7_method_6_code, prog_7_method_7_code, prog_7_method_8_code, prog_7_method_9_code, prog_7_method_10_code, prog_7_method_11_code, prog_5_method_2_code, prog_5_method_3_code, prog_5_method_4_code, prog_5_method_5_code, prog_5_method_6_code, prog_5_method_7_code, prog_5_method_8_code, prog_5_method_9_code, prog_5_method_10_code, prog_3_method_2_code, prog_3_method_3_code, prog_3_method_4_code, prog_3_method_5_code, prog_3_method_6_code, prog_2_method_2_code, prog_2_method_3_code, prog_4_method_2_code, prog_4_method_3_code, prog_4_method_4_code, prog_4_method_5_code, prog_9_method_2_code, prog_9_method_3_code, prog_9_method_4_code, prog_9_method_5_code, prog_9_method_6_code, prog_9_method_7_code, prog_9_method_8_code, prog_9_method_9_code, prog_9_method_10_code, prog_9_method_11_code, prog_9_method_12_code, prog_9_method_13_code, prog_9_method_14_code, prog_9_method_15_code, prog_9_method_16_code, prog_9_method_17_code, prog_9_method_18_code, prog_9_method_19_code, prog_9_method_20_code, prog_9_method_21_code, prog_9_method_22_code, prog_9_method_23_code, prog_9_method_24_code, prog_9_method_25_code, prog_9_method_26_code, prog_9_method_27_code, prog_9_method_28_code, prog_9_method_29_code, prog_9_method_30_code, prog_9_method_31_code, prog_9_method_32_code, prog_9_method_33_code, prog_9_method_34_code, prog_9_method_35_code, prog_9_method_36_code, prog_9_method_37_code, prog_9_method_38_code, prog_9_method_39_code, prog_9_method_40_code, prog_9_method_41_code, prog_9_method_42_code, prog_9_method_43_code, prog_9_method_44_code, prog_9_method_45_code, prog_9_method_46_code, prog_9_method_47_code, prog_9_method_48_code, prog_9_method_49_code, prog_9_method_50_code, prog_9_method_51_code, prog_9_method_52_code, prog_9_method_53_code, prog_9_method_54_code, prog_9_method_55_code, prog_9_method_56_code, prog_9_method_57_code, prog_9_method_58_code, prog_9_method_59_code, prog_9_method_60_code, prog_9_method_61_code, prog_9_method_62_code, prog_9_method_63_code, prog_9_method_64_code, prog_9_method_65_code, prog_9_method_66_code, prog_9_method_67_code, prog_9_method_68_code, prog_9_method_69_code, prog_9_method_70_code, prog_9_method_71_code]
def wc_mcp : List Nat := [214, 235, 251, 258, 262, 271, 337, 341, 362, 367, 371, 378, 413, 421, 430, 434, 442, 446, 450, 459, 467, 479, 487, 491, 505, 509, 513, 517, 526, 549, 553, 569, 217, 345, 374, 348, 520, 222, 231, 239, 557, 425, 561, 565, 382, 438, 463, 483, 471, 475, 495, 498, 227, 243, 247, 266, 275, 291, 310, 317, 313, 295, 303, 306, 299, 327, 279, 287, 283, 321, 332, 409, 454, 405, 386, 390, 394, 397, 401, 353, 417, 530, 545, 535, 539, 672, 859, 678, 683, 668, 665, 690, 687, 694, 698, 702, 716, 736, 732, 728, 740, 724, 744, 712, 708, 749, 757, 791, 764, 810, 806, 822, 780, 802, 768, 772, 753, 776, 784, 788, 797, 814, 818, 827, 840, 844, 836, 831, 848, 852, 856, 867, 863, 876, 871, 880, 884, 888, 893, 897, 901, 908, 905, 920, 928, 936, 944, 940, 932, 924, 916, 912, 948, 952, 956]
def wc_mkp : List Nat := [212, 233, 249, 256, 260, 269, 335, 339, 360, 365, 369, 376, 411, 419, 428, 432, 440, 444, 448, 457, 465, 477, 485, 489, 503, 507, 511, 515, 524, 547, 551, 567, 216, 344, 373, 347, 519, 221, 230, 238, 556, 424, 560, 564, 381, 437, 462, 482, 470, 474, 494, 497, 225, 241, 245, 264, 273, 290, 309, 316, 312, 294, 302, 305, 298, 325, 277, 285, 281, 319, 330, 407, 452, 403, 384, 389, 393, 396, 400, 351, 415, 528, 543, 534, 538, 671, 858, 677, 682, 667, 663, 689, 685, 692, 696, 700, 715, 735, 731, 727, 739, 723, 743, 711, 706, 747, 756, 790, 763, 809, 805, 821, 779, 801, 767, 771, 751, 774, 782, 786, 795, 812, 816, 825, 839, 843, 835, 829, 846, 850, 854, 866, 861, 875, 869, 878, 882, 886, 891, 895, 899, 907, 903, 919, 927, 935, 943, 939, 931, 923, 915, 910, 946, 950, 954]
def wc_msp : List (Nat × Nat) := [(0, 268), (1, 289), (2, 305), (3, 312), (4, 316), (5, 325), (6, 391), (7, 395), (8, 416), (9, 421), (10, 425), (11, 432), (12, 467), (13, 475), (14, 484), (15, 488), (16, 496), (17, 500), (18, 504), (19, 513), (20, 521), (21, 533), (22, 541), (23, 545), (24, 559), (25, 563), (26, 567), (27, 571), (28, 580), (29, 603), (30, 607), (31, 623), (37, 0), (38, 1), (39, 2), (40, 21), (41, 13), (42, 22), (43, 23), (44, 9), (45, 14), (46, 15), (47, 18), (48, 16), (49, 17), (50, 19), (52, 281), (53, 297), (54, 301), (55, 320), (56, 329), (57, 3), (58, 7), (59, 8), (61, 4), (62, 6), (64, 5), (65, 381), (66, 333), (67, 341), (68, 337), (69, 375), (70, 386), (71, 463), (72, 508), (73, 459), (74, 440), (75, 10), (76, 11), (78, 12), (79, 407), (80, 471), (81, 584), (82, 599), (84, 20), (87, 24), (88, 25), (90, 719), (92, 741), (93, 748), (94, 752), (95, 756), (96, 27), (97, 31), (98, 30), (99, 29), (100, 32), (101, 28), (102, 33), (103, 26), (104, 762), (105, 803), (108, 34), (109, 40), (110, 39), (111, 41), (112, 37), (113, 38), (114, 35), (115, 36), (116, 807), (117, 830), (118, 838), (119, 842), (120, 851), (121, 868), (122, 872), (123, 881), (124, 43), (125, 44), (126, 42), (127, 885), (128, 902), (129, 906), (130, 910), (131, 45), (132, 917), (133, 46), (134, 925), (135, 934), (136, 938), (137, 942), (138, 947), (139, 951), (140, 955), (142, 959), (143, 48), (144, 50), (145, 52), (146, 54), (147, 53), (148, 51), (149, 49), (150, 47), (151, 966), (152, 1002), (153, 1006), (154, 1010)]
def wc_inp : List Nat := [1, 7, 2, 3, 4, 5, 6, 8]
def wc_lyp : List (List Nat) := [[190, 192, 194, 196, 198, 200, 202, 204, 206, 208], [171, 173, 175, 177], [35, 37, 39, 41, 43], [73, 75, 77, 79, 81, 83, 85], [100, 102, 104], [120, 122, 124], [145, 147, 149, 151, 153, 155], [604, 606, 608, 610, 612, 614, 616, 618, 620, 622, 624, 626, 628, 630, 632, 634, 636, 638, 640, 642, 644, 646, 648, 650, 652, 654, 656, 658]]
end
section
/-! FACTS of the tables, decided by the kernel -/
theorem wc_pl {ws tb : List Jvm.Cond} (is : List Nat) (h : is.map (fun i => tb[i]?) = ws.map some) : ∀ w ∈ ws, w ∈ tb := by
  intro w hw
  have h1 : some w ∈ is.map (fun i => tb[i]?) := by rw [h]; exact List.mem_map_of_mem hw
  obtain ⟨i, -, hi⟩ := List.mem_map.mp h1
  exact List.mem_of_getElem? hi
def wc_tw : List Jvm.Cond := lw_tbl.filter goodWord
theorem wc_tl {w : Jvm.Cond} (h : w ∈ lw_tbl) (g : goodWord w = true) : w ∈ wc_tw := List.mem_filter.mpr ⟨h, g⟩
theorem wc_tb {w : Jvm.Cond} (h : w ∈ tables_1) (g : goodWord w = true) : w ∈ wc_tw := wc_tl (List.mem_append_right _ h) g
theorem wc_goodw : ∀ w ∈ wc_tw, goodWord w = true := fun w h => (List.mem_filter.mp h).2
/-- a field link's word -/
def wc_flw (q : Nat × Nat × Nat × Nat) : Jvm.Cond := .fieldLink (wc_cn q.1) q.2.1 (wc_cn q.2.2.1) (wc_F q.2.2.1 q.2.2.2).2.1 (wc_F q.2.2.1 q.2.2.2).2.2.1
theorem wc_fl_ok0 : wc_flp.map (fun i => tables_1[i]?) = (wc_fl.map wc_flw).map some := by decide +kernel
theorem wc_fl_ok : ∀ q ∈ wc_fl, wc_flw q ∈ wc_tw := fun q h => wc_tb (wc_pl wc_flp wc_fl_ok0 _ (List.mem_map_of_mem h)) rfl
def wc_gsw (q : Nat × Nat × Nat) : Jvm.Cond := .fieldLink (wc_cn q.1) q.2.1 ((wc_gsn[q.2.2 - 35]?).getD ("", "")).1 ((wc_gsn[q.2.2 - 35]?).getD ("", "")).2 "[I"
theorem wc_gs_ok0 : wc_gsp.map (fun i => tables_1[i]?) = (wc_gs.map wc_gsw).map some := by decide +kernel
theorem wc_gs_ok : ∀ q ∈ wc_gs, wc_gsw q ∈ wc_tw := fun q h => wc_tb (wc_pl wc_gsp wc_gs_ok0 _ (List.mem_map_of_mem h)) rfl
theorem wc_ld_ok0 : wc_ldp.map (fun i => tables_1[i]?) = (wc_ld.map (fun q => Jvm.Cond.constant (wc_cn q.1) q.2.1 q.2.2)).map some := by decide +kernel
theorem wc_ld_ok : ∀ q ∈ wc_ld, Jvm.Cond.constant (wc_cn q.1) q.2.1 q.2.2 ∈ wc_tw := fun q h => wc_tb (wc_pl wc_ldp wc_ld_ok0 _ (List.mem_map_of_mem h)) rfl
theorem wc_le_ok0 : wc_lep.map (fun i => tables_1[i]?) = (wc_le.map (fun q => Jvm.Cond.constantLong (wc_cn q.1) q.2.1 q.2.2)).map some := by decide +kernel
theorem wc_le_ok : ∀ q ∈ wc_le, Jvm.Cond.constantLong (wc_cn q.1) q.2.1 q.2.2 ∈ wc_tw := fun q h => wc_tb (wc_pl wc_lep wc_le_ok0 _ (List.mem_map_of_mem h)) rfl
/-- methods -/
abbrev wc_mt : Type := Nat × Bool × String × String × Nat × Option FieldType × Nat
def wc_m (y : Nat) : wc_mt := (wc_mtl[y]?).getD (0, false, "", "", 0, none, 0)
def wc_y (y : Nat) : MethodName := ⟨wc_cn (wc_m y).1, (wc_m y).2.2.1, (wc_m y).2.2.2.1⟩
def wc_b (y : Nat) : ByteArray := (wc_mtb[y]?).getD ⟨#[]⟩
def wc_mc (y : Nat) : Jvm.Cond := .code (wc_y y) (wc_b y) (wc_m y).2.2.2.2.1 (wc_m y).2.2.2.2.2.1
def wc_mk (y : Nat) : Jvm.Cond := if (wc_m y).2.1 then .static (wc_y y) else .instanceMethod (wc_y y)
theorem wc_ml_ok0 : wc_mlp.map (fun i => tables_1[i]?) = (wc_ml.map (fun q => Jvm.Cond.methodLink (wc_cn q.1) q.2.1 (wc_y q.2.2))).map some := by decide +kernel
theorem wc_ml_ok : ∀ q ∈ wc_ml, Jvm.Cond.methodLink (wc_cn q.1) q.2.1 (wc_y q.2.2) ∈ wc_tw := fun q h => wc_tb (wc_pl wc_mlp wc_ml_ok0 _ (List.mem_map_of_mem h)) rfl
set_option maxRecDepth 100000 in
set_option maxHeartbeats 4000000 in
theorem wc_mc_ok0 : wc_mcp.map (fun i => tables_1[i]?) = ((List.range 155).map wc_mc).map some := by rfl
theorem wc_mc_ok {y : Nat} (h : y < 155) : wc_mc y ∈ wc_tw := wc_tb (wc_pl wc_mcp wc_mc_ok0 _ (List.mem_map_of_mem (List.mem_range.mpr h))) rfl
theorem wc_mk_ok0 : wc_mkp.map (fun i => tables_1[i]?) = ((List.range 155).map wc_mk).map some := by decide +kernel
theorem wc_mk_ok {y : Nat} (h : y < 155) : wc_mk y ∈ wc_tw := wc_tb (wc_pl wc_mkp wc_mk_ok0 _ (List.mem_map_of_mem (List.mem_range.mpr h))) (by unfold wc_mk; split <;> rfl)
theorem wc_ms_ok0 : (wc_msp.map (·.2)).map (fun i => lw_tbl[i]?) = (wc_msp.map (fun q => Jvm.Cond.selects (wc_y q.1).cls (wc_y q.1) (wc_y q.1))).map some := by decide +kernel
theorem wc_ms_in : ∀ y, y < 155 → (wc_m y).2.1 = false → y ∈ wc_msp.map (·.1) := by decide +kernel
theorem wc_ms_ok {y : Nat} (h : y < 155) (hs : (wc_m y).2.1 = false) : Jvm.Cond.selects (wc_y y).cls (wc_y y) (wc_y y) ∈ wc_tw := by
  obtain ⟨q, hq, rfl⟩ := List.mem_map.mp (wc_ms_in y h hs)
  exact wc_tl (wc_pl _ wc_ms_ok0 _ (List.mem_map_of_mem hq)) rfl
theorem wc_in_ok0 : wc_inp.map (fun i => tables_1[i]?) = ((List.range 8).map (fun c => Jvm.Cond.initialized (wc_cn c))).map some := by decide +kernel
theorem wc_in_ok {c : Nat} (h : c < 8) : Jvm.Cond.initialized (wc_cn c) ∈ wc_tw := wc_tb (wc_pl wc_inp wc_in_ok0 _ (List.mem_map_of_mem (List.mem_range.mpr h))) rfl
theorem wc_m_cls : ∀ y, y < 155 → (wc_m y).1 < 8 ∧ (wc_m y).2.2.2.2.1 ≤ 12 := by decide +kernel
theorem wc_m_name : ∀ y, y < 155 → plainName (wc_y y).cls = true ∧ ((wc_y y).cls ≠ "java/lang/invoke/MethodHandle" ∧ (wc_y y).cls ≠ "java/lang/invoke/VarHandle") ∧ (parseMethodDescriptor (wc_y y).desc).map (fun d => d.parameters.length) = some (wc_m y).2.2.2.2.2.2 := by decide +kernel
theorem wc_lay_ok0 : (List.range 8).map (fun c => ((wc_lyp[c]?).getD []).map (fun i => tables_1[i]?)) = (List.range 8).map (fun c => (u_ws (wc_cn c) (wc_F c) (wc_nf c)).map some) := by decide +kernel
theorem wc_lay_ok {c : Nat} (h : c < 8) : ∀ w ∈ u_ws (wc_cn c) (wc_F c) (wc_nf c), w ∈ wc_tw := by
  have h1 := congrArg (fun l => l[c]?) wc_lay_ok0
  simp only [List.getElem?_map, List.getElem?_range h, Option.map_some] at h1
  refine fun w hw => wc_tb (wc_pl _ (Option.some.inj h1) _ hw) ?_
  obtain ⟨k, -, rfl⟩ := List.mem_map.mp hw
  unfold u_lay
  split <;> rfl
theorem wc_nm : ∀ c, c < 8 → ∀ a, a < wc_nf c → ∀ b, b < wc_nf c → a ≠ b → (wc_F c a).2.1 ≠ (wc_F c b).2.1 := by decide +kernel
def wc_ty (c : Nat) : Nat → FieldType := fun k => (parseFieldDescriptor (wc_F c k).2.2.1).getD .int
theorem wc_ty_ok : ∀ c, c < 8 → ∀ k, k < wc_nf c → parseFieldDescriptor (wc_F c k).2.2.1 = some (wc_ty c k) := by decide +kernel
end
section
/-! THE ENGINE: a small machine over a memory of ints that stands for the class's, the reference's and the law's bytecode, and what one of its steps is -/
abbrev wc_V : Type := Int32 ⊕ ((Nat × Nat) ⊕ Int64)
abbrev wc_M : Type := Nat → Nat → Nat → Int32
abbrev wc_L : Type := List (Option wc_V)
/-- a row of code: where it stands, the instruction, its length, targets or links, the constant -/
abbrev wc_E : Type := Nat × Instr × Nat × List Nat × Int32 × Int64
def wc_up (M : wc_M) (k i s : Nat) (v : Int32) : wc_M := fun k' i' s' => if k' = k ∧ i' = i ∧ s' = s then v else M k' i' s'
def wc_cp (M : wc_M) (k i k' i' sp dp n : Nat) : wc_M := fun a b c => if a = k' ∧ b = i' ∧ dp ≤ c ∧ c < dp + n then M k i (sp + (c - dp)) else M a b c
/-- the cell that a field or an element refers to, if it isn't a number -/
def wc_rf (k i s : Nat) : Option (Nat × Nat) := match wc_sh k with
  | (0, _) => match ((wc_rfl[k]?).getD [])[s]? with
    | some (some (k', b, n)) => some (k', cond b i n)
    | _ => none
  | (3, _) => some (2, s)
  | (4, _) => some (6, (cond (Nat.beq k 17) 2 26) + s)
  | _ => none
def wc_bo (c s : Nat) : Bool := wc_bol.any (fun q => Nat.beq q.1 c && Nat.beq q.2 s)
def wc_st (k s : Nat) : Int32 := (((wc_stl[k - 35]?).getD [])[s]?).getD 0
def wc_noL (L : wc_L) : Bool := L.all (fun q => match q with | some (.inr (.inr _)) => false | _ => true)
def wc_rem (x y : Int32) : Int32 := x - x / y * y
/-- a step that no condition hinders -/
def wc_stp (xl : Nat) (cd : List wc_E) (i : Nat) (L : wc_L) (st : List wc_V) (M : wc_M) : Option (Nat × wc_L × List wc_V × wc_M) :=
  match cd[i]? with
  | none => none
  | some (_, ins, _, tg, ct, cl) => match ins with
    | .iconst _ => some (i + 1, L, .inl ct :: st, M)
    | .bipush _ => some (i + 1, L, .inl ct :: st, M)
    | .sipush _ => some (i + 1, L, .inl ct :: st, M)
    | .ldc _ => some (i + 1, L, .inl ct :: st, M)
    | .ldc_w _ => some (i + 1, L, .inl ct :: st, M)
    | .lconst _ => some (i + 1, L, .inr (.inr cl) :: st, M)
    | .ldc2_w _ => some (i + 1, L, .inr (.inr cl) :: st, M)
    | .iload_n n => match L[(n : Nat)]? with
      | some (some (.inl v)) => some (i + 1, L, .inl v :: st, M)
      | _ => none
    | .iload n => match L[n]? with
      | some (some (.inl v)) => some (i + 1, L, .inl v :: st, M)
      | _ => none
    | .aload_n n => match L[(n : Nat)]? with
      | some (some (.inr (.inl v))) => some (i + 1, L, .inr (.inl v) :: st, M)
      | _ => none
    | .aload n => match L[n]? with
      | some (some (.inr (.inl v))) => some (i + 1, L, .inr (.inl v) :: st, M)
      | _ => none
    | .lload_n n => match L[(n : Nat)]? with
      | some (some (.inr (.inr v))) => some (i + 1, L, .inr (.inr v) :: st, M)
      | _ => none
    | .lload n => match L[n]? with
      | some (some (.inr (.inr v))) => some (i + 1, L, .inr (.inr v) :: st, M)
      | _ => none
    | .istore_n n => match st with
      | .inl v :: r => if wc_noL L && Nat.blt (n : Nat) L.length then some (i + 1, L.set (n : Nat) (some (.inl v)), r, M) else none
      | _ => none
    | .istore n => match st with
      | .inl v :: r => if wc_noL L && Nat.blt n L.length then some (i + 1, L.set n (some (.inl v)), r, M) else none
      | _ => none
    | .astore_n n => match st with
      | .inr (.inl v) :: r => if wc_noL L && Nat.blt (n : Nat) L.length then some (i + 1, L.set (n : Nat) (some (.inr (.inl v))), r, M) else none
      | _ => none
    | .astore n => match st with
      | .inr (.inl v) :: r => if wc_noL L && Nat.blt n L.length then some (i + 1, L.set n (some (.inr (.inl v))), r, M) else none
      | _ => none
    | .iinc n _ => match L[n]? with
      | some (some (.inl v)) => if wc_noL L then some (i + 1, L.set n (some (.inl (v + ct))), st, M) else none
      | _ => none
    | .iadd => match st with
      | .inl y :: .inl x :: r => some (i + 1, L, .inl (x + y) :: r, M)
      | _ => none
    | .isub => match st with
      | .inl y :: .inl x :: r => some (i + 1, L, .inl (x - y) :: r, M)
      | _ => none
    | .imul => match st with
      | .inl y :: .inl x :: r => some (i + 1, L, .inl (x * y) :: r, M)
      | _ => none
    | .iand => match st with
      | .inl y :: .inl x :: r => some (i + 1, L, .inl (x &&& y) :: r, M)
      | _ => none
    | .ior => match st with
      | .inl y :: .inl x :: r => some (i + 1, L, .inl (x ||| y) :: r, M)
      | _ => none
    | .ishl => match st with
      | .inl y :: .inl x :: r => some (i + 1, L, .inl (x <<< (y &&& 31)) :: r, M)
      | _ => none
    | .ishr => match st with
      | .inl y :: .inl x :: r => some (i + 1, L, .inl (x >>> (y &&& 31)) :: r, M)
      | _ => none
    | .ineg => match st with
      | .inl x :: r => some (i + 1, L, .inl (-x) :: r, M)
      | _ => none
    | .i2l => match st with
      | .inl x :: r => some (i + 1, L, .inr (.inr x.toInt64) :: r, M)
      | _ => none
    | .i2b => match st with
      | .inl x :: r => some (i + 1, L, .inl x.toInt8.toInt32 :: r, M)
      | _ => none
    | .i2s => match st with
      | .inl x :: r => some (i + 1, L, .inl x.toInt16.toInt32 :: r, M)
      | _ => none
    | .lsub => match st with
      | .inr (.inr y) :: .inr (.inr x) :: r => some (i + 1, L, .inr (.inr (x - y)) :: r, M)
      | _ => none
    | .lcmp => match st with
      | .inr (.inr y) :: .inr (.inr x) :: r => some (i + 1, L, .inl (lg_cmp x y) :: r, M)
      | _ => none
    | .dup => match st with
      | .inl x :: r => some (i + 1, L, .inl x :: .inl x :: r, M)
      | .inr (.inl x) :: r => some (i + 1, L, .inr (.inl x) :: .inr (.inl x) :: r, M)
      | _ => none
    | .dup2 => match st with
      | .inl y :: .inr (.inl x) :: r => some (i + 1, L, .inl y :: .inr (.inl x) :: .inl y :: .inr (.inl x) :: r, M)
      | _ => none
    | .pop => match st with
      | .inl _ :: r => some (i + 1, L, r, M)
      | _ => none
    | .goto _ => match tg with
      | [t] => some (t, L, st, M)
      | _ => none
    | .getfield _ => match tg, st with
      | [c, s], .inr (.inl (k, j)) :: r => match wc_sh k with
        | (0, c') => if Nat.beq c c' && Nat.blt s (wc_nf c) then match wc_rf k j s with
            | some q => some (i + 1, L, .inr (.inl q) :: r, M)
            | none => some (i + 1, L, .inl (M k j s) :: r, M)
          else none
        | _ => none
      | _, _ => none
    | .putfield _ => match tg, st with
      | [c, s], .inl v :: .inr (.inl (k, j)) :: r => match wc_sh k with
        | (0, c') => if Nat.beq c c' && Nat.blt s (wc_nf c) && !(wc_bo c s) then match wc_rf k j s with
            | some _ => none
            | none => some (i + 1, L, r, wc_up M k j s v)
          else none
        | _ => none
      | _, _ => none
    | .getstatic _ => match tg with
      | [k] => some (i + 1, L, .inr (.inl (k, 0)) :: st, M)
      | _ => none
    | .arraylength => match st with
      | .inr (.inl (k, 0)) :: r => match wc_sh k with
        | (9, n) => some (i + 1, L, .inl (Int32.ofNat n) :: r, M)
        | (10, _) => if Nat.blt 0 xl then some (i + 1, L, .inl (Int32.ofNat (xl - 1)) :: r, M) else none
        | _ => none
      | _ => none
    | .invokestatic _ => match tg, st with
      | [t], .inl y :: .inl x :: r => if Nat.ble r.length 4 then (if Nat.beq t 201 then some (i + 1, L, .inl (if x < y then y else x) :: r, M) else if Nat.beq t 202 then some (i + 1, L, .inl (if y < x then y else x) :: r, M) else none) else none
      | _, _ => none
    | _ => none
/-- a branch: the condition, where to go if it holds, if not -/
def wc_brq (cd : List wc_E) (i : Nat) (st : List wc_V) : Option (Prop × Nat × Nat × List wc_V) :=
  match cd[i]? with
  | none => none
  | some (_, ins, _, tg, _, _) => match ins, tg, st with
    | .ifCond .eq _, [t], .inl x :: r => some (x = 0, t, i + 1, r)
    | .ifCond .ne _, [t], .inl x :: r => some (x = 0, i + 1, t, r)
    | .ifCond .lt _, [t], .inl x :: r => some (x < 0, t, i + 1, r)
    | .ifCond .ge _, [t], .inl x :: r => some (0 ≤ x, t, i + 1, r)
    | .ifCond .gt _, [t], .inl x :: r => some (0 < x, t, i + 1, r)
    | .ifCond .le _, [t], .inl x :: r => some (x ≤ 0, t, i + 1, r)
    | .if_icmp .eq _, [t], .inl y :: .inl x :: r => some (x = y, t, i + 1, r)
    | .if_icmp .ne _, [t], .inl y :: .inl x :: r => some (x = y, i + 1, t, r)
    | .if_icmp .lt _, [t], .inl y :: .inl x :: r => some (x < y, t, i + 1, r)
    | .if_icmp .ge _, [t], .inl y :: .inl x :: r => some (y ≤ x, t, i + 1, r)
    | .if_icmp .gt _, [t], .inl y :: .inl x :: r => some (y < x, t, i + 1, r)
    | .if_icmp .le _, [t], .inl y :: .inl x :: r => some (x ≤ y, t, i + 1, r)
    | _, _, _ => none
/-- a step under a condition -/
def wc_chq (X : Nat × (Nat → Int32)) (cd : List wc_E) (i : Nat) (st : List wc_V) (M : wc_M) : Option (Prop × List wc_V × wc_M) :=
  match cd[i]? with
  | none => none
  | some (_, ins, _, tg, _, _) => match ins with
    | .iaload => match st with
      | .inl a :: .inr (.inl (k, j)) :: r => match wc_sh k with
        | (1, n) => some (vp_in a n, .inl (M k j a.toNatClampNeg) :: r, M)
        | (9, n) => if Nat.beq j 0 then some (vp_in a n, .inl (wc_st k a.toNatClampNeg) :: r, M) else none
        | (10, _) => if Nat.beq j 0 then some (vp_in a (X.1 - 1), .inl (X.2 a.toNatClampNeg) :: r, M) else none
        | _ => none
      | _ => none
    | .baload => match st with
      | .inl a :: .inr (.inl (k, j)) :: r => match wc_sh k with
        | (2, n) => some (vp_in a n, .inl (M k j a.toNatClampNeg) :: r, M)
        | _ => none
      | _ => none
    | .aaload => match st with
      | .inl a :: .inr (.inl (k, j)) :: r => match wc_sh k with
        | (3, n) => match wc_rf k j a.toNatClampNeg with
          | some q => some (vp_in a n, .inr (.inl q) :: r, M)
          | none => none
        | (4, n) => match wc_rf k j a.toNatClampNeg with
          | some q => some (vp_in a n, .inr (.inl q) :: r, M)
          | none => none
        | _ => none
      | _ => none
    | .iastore => match st with
      | .inl v :: .inl a :: .inr (.inl (k, j)) :: r => match wc_sh k with
        | (1, n) => some (vp_in a n, r, wc_up M k j a.toNatClampNeg v)
        | _ => none
      | _ => none
    | .bastore => match st with
      | .inl v :: .inl a :: .inr (.inl (k, j)) :: r => match wc_sh k with
        | (2, n) => some (vp_in a n ∧ (v = 0 ∨ v = 1), r, wc_up M k j a.toNatClampNeg v)
        | _ => none
      | _ => none
    | .idiv => match st with
      | .inl y :: .inl x :: r => some (y ≠ 0, .inl (x / y) :: r, M)
      | _ => none
    | .irem => match st with
      | .inl y :: .inl x :: r => some (y ≠ 0, .inl (wc_rem x y) :: r, M)
      | _ => none
    | .putfield _ => match tg, st with
      | [c, s], .inl v :: .inr (.inl (k, j)) :: r => match wc_sh k with
        | (0, c') => if Nat.beq c c' && Nat.blt s (wc_nf c) && wc_bo c s then some (v = 0 ∨ v = 1, r, wc_up M k j s v) else none
        | _ => none
      | _, _ => none
    | .invokestatic _ => match tg, st with
      | [t], .inl n :: .inl dp :: .inr (.inl (k', j')) :: .inl sp :: .inr (.inl (k, j)) :: r => match wc_sh k, wc_sh k' with
        | (1, n0), (1, n1) => if Nat.beq t 200 && Nat.ble r.length 4 then some (¬ sp < 0 ∧ ¬ dp < 0 ∧ ¬ n < 0 ∧ sp.toNatClampNeg + n.toNatClampNeg ≤ n0 ∧ dp.toNatClampNeg + n.toNatClampNeg ≤ n1, r, wc_cp M k j k' j' sp.toNatClampNeg dp.toNatClampNeg n.toNatClampNeg) else none
        | _, _ => none
      | _, _ => none
    | _ => none
/-- a call: the method, the arguments, what stays on the stack -/
def wc_caq (cd : List wc_E) (i : Nat) (st : List wc_V) : Option (Nat × List wc_V × List wc_V) :=
  match cd[i]? with
  | none => none
  | some (_, ins, _, tg, _, _) => match ins, tg with
    | .invokestatic _, [y] => if Nat.blt y 155 && (wc_m y).2.1 && Nat.ble (wc_m y).2.2.2.2.2.2 st.length && Nat.ble (st.drop (wc_m y).2.2.2.2.2.2).length 4 then some (y, (st.take (wc_m y).2.2.2.2.2.2).reverse, st.drop (wc_m y).2.2.2.2.2.2) else none
    | .invokevirtual _, [y] => if Nat.blt y 155 && !(wc_m y).2.1 && Nat.ble ((wc_m y).2.2.2.2.2.2 + 1) st.length && Nat.ble (st.drop ((wc_m y).2.2.2.2.2.2 + 1)).length 4 then (match (st.take ((wc_m y).2.2.2.2.2.2 + 1)).reverse with
        | .inr (.inl (k, j)) :: as => match wc_sh k with
          | (0, c) => if Nat.beq c (wc_m y).1 then some (y, .inr (.inl (k, j)) :: as, st.drop ((wc_m y).2.2.2.2.2.2 + 1)) else none
          | _ => none
        | _ => none) else none
    | _, _ => none
/-- a switch: the number, cases and targets, the default's target -/
def wc_swq (cd : List wc_E) (i : Nat) (st : List wc_V) : Option (Int32 × List (Int32 × Nat) × Nat × List wc_V) :=
  match cd[i]? with
  | none => none
  | some (_, ins, _, tg, ct, _) => match ins, tg, st with
    | .tableswitch _ _ _ _, d :: ts, .inl x :: r => some (x, ts.zipIdx.map (fun q => (ct + Int32.ofNat q.2, q.1)), d, r)
    | .lookupswitch _ ps, d :: ts, .inl x :: r => some (x, (ps.toList.map (fun q => Int32.ofInt q.1)).zip ts, d, r)
    | _, _, _ => none
/-- a return -/
def wc_req (zr : Option FieldType) (cd : List wc_E) (i : Nat) (st : List wc_V) : Option (Prop × Option Int32) :=
  match cd[i]? with
  | none => none
  | some (_, ins, _, _, _, _) => match ins, zr, st with
    | .ireturn, some .int, [.inl v] => some (True, some v)
    | .ireturn, some .boolean, [.inl v] => some (v = 0 ∨ v = 1, some v)
    | .return_, none, [] => some (True, none)
    | _, _, _ => none
abbrev wc_S : Type := Nat → List wc_V → wc_M → Option Int32 → wc_M → Prop
def wc_pu (r : Option Int32) (st : List wc_V) : List wc_V := match r with
  | some v => .inl v :: st
  | none => st
/-- from here the method comes to its end, within n steps, with K of its answer and the memory; S says what the called methods do -/
def wc_G (S : wc_S) (X : Nat × (Nat → Int32)) (zr : Option FieldType) (cd : List wc_E) : Nat → Nat → wc_L → List wc_V → wc_M → (Option Int32 → wc_M → Prop) → Prop
  | 0, _, _, _, _, _ => False
  | n + 1, i, L, st, M, K =>
    (∃ i' L' st' M', wc_stp X.1 cd i L st M = some (i', L', st', M') ∧ wc_G S X zr cd n i' L' st' M' K) ∨
    (∃ c t f st', wc_brq cd i st = some (c, t, f, st') ∧ (c → wc_G S X zr cd n t L st' M K) ∧ (¬ c → wc_G S X zr cd n f L st' M K)) ∨
    (∃ P st' M', wc_chq X cd i st M = some (P, st', M') ∧ P ∧ wc_G S X zr cd n (i + 1) L st' M' K) ∨
    (∃ y as rest r M', wc_caq cd i st = some (y, as, rest) ∧ S y as M r M' ∧ wc_G S X zr cd n (i + 1) L (wc_pu r rest) M' K) ∨
    (∃ x cs d st', wc_swq cd i st = some (x, cs, d, st') ∧ (∀ q ∈ cs, x = q.1 → wc_G S X zr cd n q.2 L st' M K) ∧ ((∀ q ∈ cs, x ≠ q.1) → wc_G S X zr cd n d L st' M K)) ∨
    (∃ P r, wc_req zr cd i st = some (P, r) ∧ P ∧ K r M)
/-- the locals with which a method begins -/
def wc_en : List wc_V → wc_L
  | [] => []
  | .inr (.inr v) :: r => some (.inr (.inr v)) :: none :: wc_en r
  | v :: r => some v :: wc_en r
def wc_lay (as : List wc_V) (n : Nat) : wc_L := wc_en as ++ List.replicate (n - (wc_en as).length) none
end
section
/-! THE ENGINE STANDS FOR THE MACHINE: worlds, frames, and one step of each kind -/
abbrev wc_A : Type := Nat → Nat → Nat
def wc_cv (ad : wc_A) : wc_V → Value
  | .inl v => .int v
  | .inr (.inl q) => .ref (ad q.1 q.2)
  | .inr (.inr v) => .long v
def wc_ok (q : Nat × Nat) : Bool := Nat.blt q.2 (wc_cnt q.1)
def wc_okv : wc_V → Bool
  | .inr (.inl q) => wc_ok q
  | _ => true
def wc_okS (st : List wc_V) : Prop := ∀ v ∈ st, wc_okv v = true
def wc_okL (L : wc_L) : Prop := ∀ v, some v ∈ L → wc_okv v = true
def wc_wl : List (Nat × Nat) := (List.range 35).flatMap (fun k => (List.range (wc_cnt k)).map (fun i => (k, i)))
theorem wc_wl_in {k i : Nat} (hk : k < 35) (h : wc_ok (k, i) = true) : (k, i) ∈ wc_wl :=
  List.mem_flatMap.mpr ⟨k, List.mem_range.mpr hk, List.mem_map.mpr ⟨i, List.mem_range.mpr (Nat.blt_eq.mp h), rfl⟩⟩
theorem wc_wl_nd : wc_wl.Nodup := by decide +kernel
theorem wc_sh_lt : ∀ k, 35 ≤ k → (wc_sh k).1 ≠ 0 ∧ (wc_sh k).1 ≠ 1 ∧ (wc_sh k).1 ≠ 2 ∧ (wc_sh k).1 ≠ 3 ∧ (wc_sh k).1 ≠ 4 := by
  intro k hk
  by_cases h : k < 39
  · have h2 : ∀ k, k < 39 → 35 ≤ k → (wc_sh k).1 ≠ 0 ∧ (wc_sh k).1 ≠ 1 ∧ (wc_sh k).1 ≠ 2 ∧ (wc_sh k).1 ≠ 3 ∧ (wc_sh k).1 ≠ 4 := by decide +kernel
    exact h2 k h hk
  · have e : wc_shl[k]? = none := List.getElem?_eq_none (by show 39 ≤ k; omega)
    unfold wc_sh
    rw [e]
    decide
def wc_fld (ad : wc_A) (k i s : Nat) (M : wc_M) : Value := match wc_rf k i s with
  | some q => .ref (ad q.1 q.2)
  | none => .int (M k i s)
def wc_ent (ad : wc_A) (cA : Nat → ClassId) (M : wc_M) (q : Nat × Nat) : va_E := match wc_sh q.1 with
  | (0, c) => .inr (c, (List.range (wc_nf c)).map (fun s => wc_fld ad q.1 q.2 s M))
  | (1, n) => .inl (cA 0, n, .inl (fun s => M q.1 q.2 s))
  | (2, n) => .inl (cA 1, n, .inl (fun s => M q.1 q.2 s))
  | (3, n) => .inl (cA 2, n, .inr (.inr (.inr (.inr (fun s => (wc_rf q.1 q.2 s).map (fun r => ad r.1 r.2))))))
  | (4, n) => .inl (cA 3, n, .inr (.inr (.inr (.inr (fun s => (wc_rf q.1 q.2 s).map (fun r => ad r.1 r.2))))))
  | _ => .inr (0, [])
def wc_ws (ad : wc_A) (cA : Nat → ClassId) (M : wc_M) : va_W := wc_wl.map (fun q => (ad q.1 q.2, wc_ent ad cA M q))
def wc_tys (cA : Nat → ClassId) : List (ClassId × FieldType) := [(cA 0, .int), (cA 1, .boolean), (cA 2, .object "WindCarver$Row"), (cA 3, .object "WindCarver$Pass")]
/-- a place of the world, and the world with that place set -/
theorem wc_plc {ad : wc_A} {cA : Nat → ClassId} {M : wc_M} {k i : Nat} (hk : k < 35) (h : wc_ok (k, i) = true) :
    ∃ q0 : Nat, (wc_ws ad cA M)[q0]? = some (ad k i, wc_ent ad cA M (k, i)) ∧ wc_wl[q0]? = some (k, i) := by
  obtain ⟨q0, h0⟩ := List.getElem?_of_mem (wc_wl_in hk h)
  exact ⟨q0, by simp [wc_ws, List.getElem?_map, h0], h0⟩
theorem wc_plset {ad : wc_A} {cA : Nat → ClassId} {M M' : wc_M} {k i q0 : Nat} {e : va_E} (h0 : wc_wl[q0]? = some (k, i)) (he : wc_ent ad cA M' (k, i) = e) (hM : ∀ q : Nat × Nat, q ≠ (k, i) → wc_ent ad cA M' q = wc_ent ad cA M q) :
    (wc_ws ad cA M).set q0 (ad k i, e) = wc_ws ad cA M' := by
  apply List.ext_getElem?
  intro j
  have hlt : q0 < wc_wl.length := (List.getElem?_eq_some_iff.mp h0).1
  by_cases hj : j = q0
  · subst hj
    rw [List.getElem?_set_self (by simpa [wc_ws] using hlt)]
    simp [wc_ws, List.getElem?_map, h0, he]
  · rw [List.getElem?_set_ne (Ne.symm hj)]
    simp only [wc_ws, List.getElem?_map]
    cases hq : wc_wl[j]? with
    | none => rfl
    | some q =>
      have hne : q ≠ (k, i) := by
        intro z
        subst z
        obtain ⟨l1, e1⟩ := List.getElem?_eq_some_iff.mp hq
        obtain ⟨l2, e2⟩ := List.getElem?_eq_some_iff.mp h0
        exact hj ((List.getElem?_inj l1 wc_wl_nd).mp (hq.trans h0.symm))
      simp [hM q hne]
theorem wc_up_off {M : wc_M} {k i s : Nat} {v : Int32} {q : Nat × Nat} (h : q ≠ (k, i)) (t : Nat) : wc_up M k i s v q.1 q.2 t = M q.1 q.2 t := by
  unfold wc_up
  rw [if_neg]
  rintro ⟨h1, h2, -⟩
  exact h (Prod.ext h1 h2)
theorem wc_ent_off {ad : wc_A} {cA : Nat → ClassId} {M M' : wc_M} {q : Nat × Nat} (h : ∀ t, M' q.1 q.2 t = M q.1 q.2 t) : wc_ent ad cA M' q = wc_ent ad cA M q := by
  unfold wc_ent wc_fld
  simp only [h]
/-- what a reference in a cell of the world refers to is a cell -/
def wc_rf_t (k s : Nat) : Bool := match ((wc_rfl[k]?).getD [])[s]? with
    | some (some (k', b, n)) => cond b (Nat.ble (wc_cnt k) (wc_cnt k')) (Nat.blt n (wc_cnt k'))
    | _ => true
theorem wc_rf_ok0 : ∀ k, k < 35 → ∀ s, s < 28 → wc_rf_t k s = true := by decide +kernel
theorem wc_rf_len : ∀ k, k < 35 → ((wc_rfl[k]?).getD []).length ≤ 28 := by decide +kernel
theorem wc_sh3 : ∀ k, k < 35 → (wc_sh k).1 = 3 → (wc_sh k).2 = 8 := by decide +kernel
theorem wc_sh4 : ∀ k, k < 35 → (wc_sh k).1 = 4 → (wc_sh k).2 + cond (Nat.beq k 17) 2 26 ≤ 28 := by decide +kernel
theorem wc_rf_ok {k i s : Nat} {q : Nat × Nat} (hk : k < 35) (h : wc_ok (k, i) = true) (hq : wc_rf k i s = some q) (hs : (wc_sh k).1 = 0 ∨ s < (wc_sh k).2) : wc_ok q = true := by
  unfold wc_rf at hq
  have h' : i < wc_cnt k := Nat.blt_eq.mp h
  split at hq
  · split at hq
    · rename_i k' b n he
      cases hq
      have hlt : s < 28 := Nat.lt_of_lt_of_le (List.getElem?_eq_some_iff.mp he).1 (wc_rf_len k hk)
      have h1 := wc_rf_ok0 k hk s hlt
      unfold wc_rf_t at h1
      rw [he] at h1
      apply Nat.blt_eq.mpr
      cases b with
      | true => exact Nat.lt_of_lt_of_le h' (Nat.ble_eq.mp h1)
      | false => exact Nat.blt_eq.mp h1
    · cases hq
  · rename_i n he
    cases hq
    have h1 := wc_sh3 k hk (by rw [he])
    rw [he] at hs h1
    have h2 : s < n := hs.resolve_left (by simp)
    apply Nat.blt_eq.mpr
    show s < 8
    simp at h1
    omega
  · rename_i n he
    cases hq
    have h1 := wc_sh4 k hk (by rw [he])
    rw [he] at hs h1
    have h2 : s < n := hs.resolve_left (by simp)
    apply Nat.blt_eq.mpr
    show _ + s < 28
    simp only at h1
    omega
  · cases hq
theorem wc_k35 {k : Nat} {t n : Nat} (h : wc_sh k = (t, n)) (ht : t < 5) : k < 35 := by
  rcases Nat.lt_or_ge k 35 with h1 | h1
  · exact h1
  · have h2 := wc_sh_lt k h1
    rw [h] at h2
    omega
end
section
/-! ONE STEP of the engine is one step of the machine -/
def wc_len (ins : Instr) (n : Nat) : Nat := match ins with
  | .bipush _ | .ldc _ | .iload _ | .aload _ | .lload _ | .istore _ | .astore _ | .newarray _ => 2
  | .sipush _ | .ldc_w _ | .ldc2_w _ | .iinc _ _ | .goto _ | .if_icmp _ _ | .ifCond _ _ | .getfield _ | .putfield _ | .getstatic _ | .invokestatic _ | .invokevirtual _ | .invokespecial _ | .new _ | .anewarray _ => 3
  | .tableswitch _ _ _ _ | .lookupswitch _ _ => n
  | _ => 1
def wc_pc (cd : List wc_E) (i : Nat) : Nat := match cd[i]? with
  | some q => q.1
  | none => 0
def wc_nt : List (Nat × Nat × Nat) := [(0, 102, 200), (3, 35, 200), (0, 275, 201), (5, 29, 202)]
def wc_ny (t : Nat) : MethodName := if Nat.beq t 200 then arraycopyName else if Nat.beq t 201 then Lib.Math.max.name else Lib.Math.min.name
theorem wc_nt_ok : ∀ q ∈ wc_nt, Jvm.Cond.methodLink (wc_cn q.1) q.2.1 (wc_ny q.2.2) ∈ wc_tw := by
  have h : [252, 328, 499, 355].map (fun i => tables_1[i]?) = (wc_nt.map (fun q => Jvm.Cond.methodLink (wc_cn q.1) q.2.1 (wc_ny q.2.2))).map some := by decide +kernel
  exact fun q hq => wc_tb (wc_pl _ h _ (List.mem_map_of_mem hq)) rfl
theorem wc_nat0 : [500, 356, 10, 9, 253, 254, 501, 357].map (fun i => tables_1[i]?) = [Jvm.Cond.static Lib.Math.max.name, .static Lib.Math.min.name, .initialized "java/lang/Math", .initialized "java/lang/System", .static arraycopyName, .native arraycopyName, .code Lib.Math.max.name Lib.Math.max.code 2 (some .int), .code Lib.Math.min.name Lib.Math.min.code 2 (some .int)].map some := by decide +kernel
theorem wc_nat {w : Jvm.Cond} (i : Nat) (h : [Jvm.Cond.static Lib.Math.max.name, .static Lib.Math.min.name, .initialized "java/lang/Math", .initialized "java/lang/System", .static arraycopyName, .native arraycopyName, .code Lib.Math.max.name Lib.Math.max.code 2 (some .int), .code Lib.Math.min.name Lib.Math.min.code 2 (some .int)][i]? = some w) (g : goodWord w = true) : w ∈ wc_tw := wc_tb (wc_pl _ wc_nat0 _ (List.mem_of_getElem? h)) g
def wc_lnk (o : Nat) (ins : Instr) (tg : List Nat) (ct : Int32) (cl : Int64) : Bool := match ins, tg with
  | .iconst n, _ => decide (Int32.ofInt n = ct)
  | .bipush n, _ => decide ((Int8.ofInt n).toInt32 = ct)
  | .sipush n, _ => decide ((Int16.ofInt n).toInt32 = ct)
  | .ldc i, _ => decide ((o, i, ct) ∈ wc_ld)
  | .ldc_w i, _ => decide ((o, i, ct) ∈ wc_ld)
  | .lconst n, _ => decide (Int64.ofNat (n : Nat) = cl)
  | .ldc2_w i, _ => decide ((o, i, cl) ∈ wc_le)
  | .iinc _ n, _ => decide (Int32.ofInt n = ct)
  | .getfield i, [c, s] => decide ((o, i, c, s) ∈ wc_fl)
  | .putfield i, [c, s] => decide ((o, i, c, s) ∈ wc_fl)
  | .getstatic i, [k] => decide ((o, i, k) ∈ wc_gs) && Nat.ble 35 k && Nat.blt k 38
  | .invokestatic i, [y] => if Nat.blt y 155 then decide ((o, i, y) ∈ wc_ml) && Nat.beq o (wc_m y).1 else decide ((o, i, y) ∈ wc_nt)
  | .invokevirtual i, [y] => decide ((o, i, y) ∈ wc_ml)
  | .tableswitch _ lo hi offs, _ :: ts => decide (ct.toInt = lo) && decide (hi + 1 = lo + (ts.length : Int)) && decide (ts.length = offs.size) && decide (0 ≤ lo) && decide (hi < 1000)
  | .lookupswitch _ ps, _ :: ts => (ps.toList.zip (ps.toList.drop 1)).all (fun (a, next) => a.1 < next.1) && decide (ts.length = ps.toList.length) && ps.toList.all (fun q => decide ((Int32.ofInt q.1).toInt = q.1))
  | _, _ => true
def wc_nxt (cd : List wc_E) (i pc : Nat) (ins : Instr) (len : Nat) (tg : List Nat) : Bool := match ins, tg with
  | .goto off, [t] => decide ((pc : Int) + off = (wc_pc cd t : Int))
  | .ifCond _ off, [t] => decide ((pc : Int) + off = (wc_pc cd t : Int)) && Nat.beq (wc_pc cd (i + 1)) (pc + 3)
  | .if_icmp _ off, [t] => decide ((pc : Int) + off = (wc_pc cd t : Int)) && Nat.beq (wc_pc cd (i + 1)) (pc + 3)
  | .tableswitch d _ _ offs, t :: ts => decide ((pc : Int) + d = (wc_pc cd t : Int)) && (offs.toList.zip ts).all (fun q => decide ((pc : Int) + q.1 = (wc_pc cd q.2 : Int)))
  | .lookupswitch d ps, t :: ts => decide ((pc : Int) + d = (wc_pc cd t : Int)) && (ps.toList.zip ts).all (fun q => decide ((pc : Int) + q.1.2 = (wc_pc cd q.2 : Int)))
  | .ireturn, _ => true
  | .return_, _ => true
  | _, _ => Nat.beq (wc_pc cd (i + 1)) (pc + len)
def wc_good (o : Nat) (bytes : ByteArray) (cd : List wc_E) : Prop := ∀ (i pc : Nat) (ins : Instr) (len : Nat) (tg : List Nat) (ct : Int32) (cl : Int64), cd[i]? = some (pc, ins, len, tg, ct, cl) →
  decode bytes pc = .ok (ins, len) ∧ len = wc_len ins len ∧ wc_lnk o ins tg ct cl = true ∧ wc_nxt cd i pc ins len tg = true
def wc_chk (o : Nat) (bytes : ByteArray) (cd : List wc_E) : Bool := cd.zipIdx.all (fun q => decide (decode bytes q.1.1 = .ok (q.1.2.1, q.1.2.2.1)) && decide (q.1.2.2.1 = wc_len q.1.2.1 q.1.2.2.1) && wc_lnk o q.1.2.1 q.1.2.2.2.1 q.1.2.2.2.2.1 q.1.2.2.2.2.2 && wc_nxt cd q.2 q.1.1 q.1.2.1 q.1.2.2.1 q.1.2.2.2.1)
theorem wc_good_of {o : Nat} {bytes : ByteArray} {cd : List wc_E} (h : wc_chk o bytes cd = true) : wc_good o bytes cd := by
  intro i pc ins len tg ct cl hi
  have h1 := List.all_eq_true.mp h ((pc, ins, len, tg, ct, cl), i) (List.mem_zipIdx_iff_getElem?.mpr hi)
  simp only [Bool.and_eq_true, decide_eq_true_eq] at h1
  exact ⟨h1.1.1.1, h1.1.1.2, h1.1.2, h1.2⟩
theorem wc_F1 : ∀ c, c < 8 → ∀ k, k < wc_nf c → (wc_F c k).1 = wc_cn c := by decide +kernel
def wc_pf_t (k s : Nat) : Bool := match wc_sh k with
  | (0, c) => Nat.blt c 8 && (if Nat.blt s (wc_nf c) then (match ((wc_rfl[k]?).getD [])[s]? with
    | some (some _) => true
    | _ => !(wc_F c s).2.2.2 && decide ((wc_F c s).2.2.1 = (if wc_bo c s then "Z" else "I"))) else true)
  | _ => true
theorem wc_pf_ok : ∀ k, k < 35 → ∀ s, s < 28 → wc_pf_t k s = true := by decide +kernel
theorem wc_nf28 : ∀ c, c < 8 → wc_nf c ≤ 28 := by decide +kernel
theorem wc_sh0 : ∀ k, k < 35 → (wc_sh k).1 = 0 → (wc_sh k).2 < 8 := by decide +kernel
theorem wc_c8 {k c : Nat} (h : wc_sh k = (0, c)) : c < 8 := by
  have h1 := wc_sh0 k (wc_k35 h (by decide)) (by rw [h])
  rw [h] at h1
  exact h1
theorem wc_cls_at {c : Nat} (h : c < 8) : wc_cls[c]? = some (wc_cn c, wc_F c, wc_nf c) := by
  simp [wc_cls, List.getElem?_map, List.getElem?_range h]
theorem wc_pf_at {k c s j : Nat} (h : wc_sh k = (0, c)) (hs : s < wc_nf c) (hr : wc_rf k j s = none) : (wc_F c s).2.2.2 = false ∧ (wc_F c s).2.2.1 = (if wc_bo c s then "Z" else "I") := by
  have h8 := wc_c8 h
  have h1 := wc_pf_ok k (wc_k35 h (by decide)) s (Nat.lt_of_lt_of_le hs (wc_nf28 c h8))
  unfold wc_pf_t at h1
  unfold wc_rf at hr
  simp only [h] at h1 hr
  rw [if_pos (Nat.blt_eq.mpr hs)] at h1
  cases he : ((wc_rfl[k]?).getD [])[s]? with
  | none =>
    rw [he] at h1
    simp at h1
    exact ⟨h1.2.1, h1.2.2⟩
  | some z =>
    cases z with
    | none =>
      rw [he] at h1
      simp at h1
      exact ⟨h1.2.1, h1.2.2⟩
    | some z =>
      rw [he] at hr
      cases hr
/-- the world's entries -/
theorem wc_ent0 {ad : wc_A} {cA : Nat → ClassId} {M : wc_M} {k i c : Nat} (h : wc_sh k = (0, c)) : wc_ent ad cA M (k, i) = .inr (c, (List.range (wc_nf c)).map (fun s => wc_fld ad k i s M)) := by
  unfold wc_ent
  simp only [h]
theorem wc_ent1 {ad : wc_A} {cA : Nat → ClassId} {M : wc_M} {k i n : Nat} (h : wc_sh k = (1, n)) : wc_ent ad cA M (k, i) = .inl (cA 0, n, .inl (fun s => M k i s)) := by
  unfold wc_ent
  simp only [h]
theorem wc_ent2 {ad : wc_A} {cA : Nat → ClassId} {M : wc_M} {k i n : Nat} (h : wc_sh k = (2, n)) : wc_ent ad cA M (k, i) = .inl (cA 1, n, .inl (fun s => M k i s)) := by
  unfold wc_ent
  simp only [h]
theorem wc_ent3 {ad : wc_A} {cA : Nat → ClassId} {M : wc_M} {k i n : Nat} (h : wc_sh k = (3, n)) : wc_ent ad cA M (k, i) = .inl (cA 2, n, .inr (.inr (.inr (.inr (fun s => (wc_rf k i s).map (fun r => ad r.1 r.2)))))) := by
  unfold wc_ent
  simp only [h]
theorem wc_ent4 {ad : wc_A} {cA : Nat → ClassId} {M : wc_M} {k i n : Nat} (h : wc_sh k = (4, n)) : wc_ent ad cA M (k, i) = .inl (cA 3, n, .inr (.inr (.inr (.inr (fun s => (wc_rf k i s).map (fun r => ad r.1 r.2)))))) := by
  unfold wc_ent
  simp only [h]
theorem wc_off {ad : wc_A} {cA : Nat → ClassId} {M : wc_M} {k i s : Nat} {v : Int32} : ∀ q : Nat × Nat, q ≠ (k, i) → wc_ent ad cA (wc_up M k i s v) q = wc_ent ad cA M q := fun q hq => wc_ent_off (fun t => wc_up_off hq t)
/-- a field set, an element set -/
theorem wc_set0 {ad : wc_A} {cA : Nat → ClassId} {M : wc_M} {k i s c q0 : Nat} {v : Int32} (h0 : wc_wl[q0]? = some (k, i)) (h : wc_sh k = (0, c)) (hr : wc_rf k i s = none) :
    (wc_ws ad cA M).set q0 (ad k i, .inr (c, ((List.range (wc_nf c)).map (fun s => wc_fld ad k i s M)).set s (.int v))) = wc_ws ad cA (wc_up M k i s v) := by
  refine wc_plset h0 ?_ wc_off
  rw [wc_ent0 h]
  congr 2
  apply List.ext_getElem?
  intro j
  by_cases hj : j = s
  · subst hj
    by_cases hlt : j < wc_nf c
    · rw [List.getElem?_set_self (by simpa using hlt)]
      simp [List.getElem?_map, List.getElem?_range hlt, wc_fld, hr, wc_up]
    · rw [List.getElem?_eq_none (by simpa using hlt), List.getElem?_eq_none (by simpa using hlt)]
  · rw [List.getElem?_set_ne (Ne.symm hj)]
    simp only [List.getElem?_map]
    by_cases ht : j < wc_nf c
    · rw [List.getElem?_range ht]
      simp only [Option.map_some]
      congr 1
      unfold wc_fld wc_up
      simp [hj]
    · rw [List.getElem?_eq_none (by simpa using ht)]
      rfl
theorem wc_set1 {ad : wc_A} {cA : Nat → ClassId} {M : wc_M} {k i s n q0 : Nat} {v : Int32} (h0 : wc_wl[q0]? = some (k, i)) (h : wc_sh k = (1, n)) :
    (wc_ws ad cA M).set q0 (ad k i, .inl (cA 0, n, .inl (upd (fun s => M k i s) s v))) = wc_ws ad cA (wc_up M k i s v) := by
  refine wc_plset h0 ?_ wc_off
  rw [wc_ent1 h]
  congr 3
  refine congrArg Sum.inl (funext fun t => ?_)
  simp [wc_up, upd]
theorem wc_set2 {ad : wc_A} {cA : Nat → ClassId} {M : wc_M} {k i s n q0 : Nat} {v : Int32} (h0 : wc_wl[q0]? = some (k, i)) (h : wc_sh k = (2, n)) :
    (wc_ws ad cA M).set q0 (ad k i, .inl (cA 1, n, .inl (upd (fun s => M k i s) s v))) = wc_ws ad cA (wc_up M k i s v) := by
  refine wc_plset h0 ?_ wc_off
  rw [wc_ent2 h]
  congr 3
  refine congrArg Sum.inl (funext fun t => ?_)
  simp [wc_up, upd]
theorem wc_setc {ad : wc_A} {cA : Nat → ClassId} {M : wc_M} {k i k' i' sp dp n n1 q0 : Nat} (h0 : wc_wl[q0]? = some (k', i')) (h : wc_sh k' = (1, n1)) :
    (wc_ws ad cA M).set q0 (ad k' i', .inl (cA 0, n1, .inl (va_cpy (fun s => M k i s) (fun s => M k' i' s) sp dp n))) = wc_ws ad cA (wc_cp M k i k' i' sp dp n) := by
  refine wc_plset h0 ?_ (fun q hq => wc_ent_off (fun t => ?_))
  · rw [wc_ent1 h]
    congr 3
    refine congrArg Sum.inl (funext fun t => ?_)
    simp [wc_cp, va_cpy]
  · unfold wc_cp
    rw [if_neg]
    rintro ⟨h1, h2, -⟩
    exact hq (Prod.ext h1 h2)
end
section
/-! FRAMES: what a frame of the engine says of a frame of the machine; steps without a condition -/
def wc_lv (ad : wc_A) (nL : Nat) (L : wc_L) (ls : Array Slot) : Prop := ls.size = nL ∧ lv_wf ls ∧ L.length = nL ∧ ∀ (i : Nat) (v : wc_V), L[i]? = some (some v) → ls[i]? = some (.val (wc_cv ad v))
def wc_lp (ad : wc_A) (L : wc_L) : List (Nat × Value) := L.zipIdx.filterMap (fun q => q.1.map (fun v => (q.2, wc_cv ad v)))
theorem wc_lp_in {ad : wc_A} {L : wc_L} {q : Nat × Value} : q ∈ wc_lp ad L ↔ ∃ v, L[q.1]? = some (some v) ∧ wc_cv ad v = q.2 := by
  unfold wc_lp
  rw [List.mem_filterMap]
  constructor
  · rintro ⟨⟨z, i⟩, hz, he⟩
    cases z with
    | none => cases he
    | some v =>
      cases he
      exact ⟨v, List.mem_zipIdx_iff_getElem?.mp hz, rfl⟩
  · rintro ⟨v, hv, he⟩
    refine ⟨(some v, q.1), List.mem_zipIdx_iff_getElem?.mpr hv, ?_⟩
    show some (q.1, wc_cv ad v) = some q
    rw [he]
theorem wc_lv_has {ad : wc_A} {nL : Nat} {L : wc_L} {ls : Array Slot} (h : wc_lv ad nL L ls) : lv_has ls nL (wc_lp ad L) := by
  refine ⟨h.1, h.2.1, fun q hq => ?_⟩
  obtain ⟨v, h1, h2⟩ := wc_lp_in.mp hq
  rw [← h2]
  exact h.2.2.2 _ _ h1
theorem wc_noL_cat {ad : wc_A} {L : wc_L} (h : wc_noL L = true) {i : Nat} {v : wc_V} (hv : L[i]? = some (some v)) : (wc_cv ad v).category = 1 := by
  have h1 := List.all_eq_true.mp h (some v) (List.mem_of_getElem? hv)
  obtain v | v | v := v
  · rfl
  · rfl
  · cases h1
/-- a local stored -/
theorem wc_lv_set {ad : wc_A} {nL n : Nat} {L : wc_L} {ls' : Array Slot} {v : wc_V} (hL : L.length = nL) (hn : wc_noL L = true)
    (h : lv_has ls' nL ((n, wc_cv ad v) :: (wc_lp ad L).filter (fun q => !(q.1 == n) && !(q.1 + 1 == n && q.2.category == 2)))) : wc_lv ad nL (L.set n (some v)) ls' := by
  refine ⟨h.1, h.2.1, by rw [List.length_set]; exact hL, fun i w hw => ?_⟩
  by_cases hi : i = n
  · subst hi
    have hlt : i < L.length := by
      have := (List.getElem?_eq_some_iff.mp hw).1
      rwa [List.length_set] at this
    rw [List.getElem?_set_self hlt] at hw
    cases hw
    exact h.2.2 (i, wc_cv ad v) List.mem_cons_self
  · rw [List.getElem?_set_ne (Ne.symm hi)] at hw
    refine h.2.2 (i, wc_cv ad w) (List.mem_cons_of_mem _ (List.mem_filter.mpr ⟨wc_lp_in.mpr ⟨w, hw, rfl⟩, ?_⟩))
    have hc := wc_noL_cat (ad := ad) hn hw
    simp [hi, hc]
def wc_gsm (k : Nat) : String × String := (wc_gsn[k - 35]?).getD ("", "")
/-- the tables of the class that nobody writes, at the addresses ad 35 0 .. ad 37 0 -/
def wc_TZ (ad : wc_A) (A : Nat → Prop) (U : State) (H : Heap) : Prop := ∀ k, 35 ≤ k → k < 38 → va_T .int (ad k 0) 6 (fun j => .int (wc_st k j)) A U H ∧ va_Z (wc_gsm k).1 (wc_gsm k).2 "[I" (.ref (ad k 0)) A U H
/-- what holds throughout a frame -/
def wc_C (p : Program) (R : Room) (s : State) (m : MethodId) (args : Array Value) (c : Code) (cells slots : Nat) (ad : wc_A) (cA : Nat → ClassId) (D : va_G) (A : Nat → Prop) (X : Nat × (Nat → Int32)) (o nL dep : Nat) (bytes : ByteArray) : Prop :=
  p.tables.exec = Jvm.exec ∧ c.code = bytes ∧ c.maxLocals = nL ∧ s.vm.findClass (wc_cn o) = some m.cls ∧ (∀ w ∈ wc_tw, w.before args s = true) ∧ va_K D wc_cls (wc_tys cA) s ∧ wc_TZ ad A s s.heap ∧
  (0 < X.1 → va_X (ad 38 0) (X.1 - 1) X.2 s s.heap ∧ ad 38 0 < s.heap.size ∧ ¬ A (ad 38 0)) ∧ (dep + 1 ≤ R.frames ∧ 40 * (dep + 1) ≤ R.locals ∧ cells ≤ R.cells ∧ slots ≤ R.slots)
/-- from here the machine comes to Q, whatever heap holds the memory -/
def wc_At (p : Program) (l : Launch) (e : Env) (R : Room) (s : State) (m : MethodId) (args : Array Value) (below : List Frame) (meth : Method) (c : Code) (cells slots : Nat) (Q : State → Prop) (ad : wc_A) (cA : Nat → ClassId) (D : va_G) (A : Nat → Prop) (nL : Nat) (cd : List wc_E) (i : Nat) (L : wc_L) (st : List wc_V) (M : wc_M) : Prop :=
  ∀ (H : Heap) (locs : List Loc) (ls : Array Slot), va_P D wc_cls (wc_ws ad cA M) H → va_D A (wc_ws ad cA M) → va_S A s.heap H locs → wc_lv ad nL L ls →
    W p l e R s m args below meth c H locs cells slots Q (F0 m (wc_pc cd i) ls (st.map (wc_cv ad)))
theorem wc_stp_ks {xl i i' : Nat} {L L' : wc_L} {st st' : List wc_V} {M M' : wc_M} {cd : List wc_E} {o : Nat} {bytes : ByteArray} (hg : wc_good o bytes cd) (h : wc_stp xl cd i L st M = some (i', L', st', M')) (hL : wc_okL L) (hs : wc_okS st) : wc_okL L' ∧ wc_okS st' := by
  have lg : ∀ {n : Nat} {v : wc_V}, L[n]? = some (some v) → wc_okv v = true := fun {n v} hv => hL v (List.mem_of_getElem? hv)
  have ls : ∀ {n : Nat} {v : wc_V}, wc_okv v = true → wc_okL (L.set n (some v)) := fun {n v} hv w hw => by
    rcases List.mem_or_eq_of_mem_set hw with h1 | h1
    · exact hL w h1
    · cases h1; exact hv
  have sc : ∀ {v : wc_V} {r : List wc_V}, wc_okv v = true → wc_okS r → wc_okS (v :: r) := fun {v r} hv hr w hw => by
    rcases List.mem_cons.mp hw with h1 | h1
    · subst h1; exact hv
    · exact hr w h1
  have st1 : ∀ {v : wc_V} {r : List wc_V}, wc_okS (v :: r) → wc_okS r := fun {v r} hr w hw => hr w (List.mem_cons_of_mem _ hw)
  have st0 : ∀ {v : wc_V} {r : List wc_V}, wc_okS (v :: r) → wc_okv v = true := fun {v r} hr => hr v List.mem_cons_self
  rcases hcd : cd[i]? with _ | ⟨pc, ins, len, tg, ct, cl⟩
  · unfold wc_stp at h
    rw [hcd] at h
    cases h
  obtain ⟨-, -, hlnk, -⟩ := hg i pc ins len tg ct cl hcd
  unfold wc_stp at h
  rw [hcd] at h
  cases ins
  case iconst n =>
    cases h
    exact ⟨hL, sc rfl hs⟩
  case bipush n =>
    cases h
    exact ⟨hL, sc rfl hs⟩
  case sipush n =>
    cases h
    exact ⟨hL, sc rfl hs⟩
  case ldc n =>
    cases h
    exact ⟨hL, sc rfl hs⟩
  case ldc_w n =>
    cases h
    exact ⟨hL, sc rfl hs⟩
  case lconst n =>
    cases h
    exact ⟨hL, sc rfl hs⟩
  case ldc2_w n =>
    cases h
    exact ⟨hL, sc rfl hs⟩
  case iload_n n =>
    dsimp only at h
    split at h
    · rename_i v hv
      cases h
      exact ⟨hL, sc (lg hv) hs⟩
    · cases h
  case iload n =>
    dsimp only at h
    split at h
    · rename_i v hv
      cases h
      exact ⟨hL, sc (lg hv) hs⟩
    · cases h
  case aload_n n =>
    dsimp only at h
    split at h
    · rename_i v hv
      cases h
      exact ⟨hL, sc (lg hv) hs⟩
    · cases h
  case aload n =>
    dsimp only at h
    split at h
    · rename_i v hv
      cases h
      exact ⟨hL, sc (lg hv) hs⟩
    · cases h
  case lload_n n =>
    dsimp only at h
    split at h
    · rename_i v hv
      cases h
      exact ⟨hL, sc (lg hv) hs⟩
    · cases h
  case lload n =>
    dsimp only at h
    split at h
    · rename_i v hv
      cases h
      exact ⟨hL, sc (lg hv) hs⟩
    · cases h
  case istore_n n =>
    dsimp only at h
    split at h
    · split at h
      · cases h
        exact ⟨ls (st0 hs), st1 hs⟩
      · cases h
    · cases h
  case istore n =>
    dsimp only at h
    split at h
    · split at h
      · cases h
        exact ⟨ls (st0 hs), st1 hs⟩
      · cases h
    · cases h
  case astore_n n =>
    dsimp only at h
    split at h
    · split at h
      · cases h
        exact ⟨ls (st0 hs), st1 hs⟩
      · cases h
    · cases h
  case astore n =>
    dsimp only at h
    split at h
    · split at h
      · cases h
        exact ⟨ls (st0 hs), st1 hs⟩
      · cases h
    · cases h
  case iinc n k =>
    dsimp only at h
    split at h
    · split at h
      · cases h
        exact ⟨ls rfl, hs⟩
      · cases h
    · cases h
  case iadd =>
    dsimp only at h
    split at h
    · cases h
      exact ⟨hL, sc rfl (st1 (st1 hs))⟩
    · cases h
  case isub =>
    dsimp only at h
    split at h
    · cases h
      exact ⟨hL, sc rfl (st1 (st1 hs))⟩
    · cases h
  case imul =>
    dsimp only at h
    split at h
    · cases h
      exact ⟨hL, sc rfl (st1 (st1 hs))⟩
    · cases h
  case iand =>
    dsimp only at h
    split at h
    · cases h
      exact ⟨hL, sc rfl (st1 (st1 hs))⟩
    · cases h
  case ior =>
    dsimp only at h
    split at h
    · cases h
      exact ⟨hL, sc rfl (st1 (st1 hs))⟩
    · cases h
  case ishl =>
    dsimp only at h
    split at h
    · cases h
      exact ⟨hL, sc rfl (st1 (st1 hs))⟩
    · cases h
  case ishr =>
    dsimp only at h
    split at h
    · cases h
      exact ⟨hL, sc rfl (st1 (st1 hs))⟩
    · cases h
  case lsub =>
    dsimp only at h
    split at h
    · cases h
      exact ⟨hL, sc rfl (st1 (st1 hs))⟩
    · cases h
  case lcmp =>
    dsimp only at h
    split at h
    · cases h
      exact ⟨hL, sc rfl (st1 (st1 hs))⟩
    · cases h
  case ineg =>
    dsimp only at h
    split at h
    · cases h
      exact ⟨hL, sc rfl (st1 hs)⟩
    · cases h
  case i2l =>
    dsimp only at h
    split at h
    · cases h
      exact ⟨hL, sc rfl (st1 hs)⟩
    · cases h
  case i2b =>
    dsimp only at h
    split at h
    · cases h
      exact ⟨hL, sc rfl (st1 hs)⟩
    · cases h
  case i2s =>
    dsimp only at h
    split at h
    · cases h
      exact ⟨hL, sc rfl (st1 hs)⟩
    · cases h
  case dup =>
    dsimp only at h
    split at h
    · cases h
      exact ⟨hL, sc (st0 hs) hs⟩
    · cases h
      exact ⟨hL, sc (st0 hs) hs⟩
    · cases h
  case dup2 =>
    dsimp only at h
    split at h
    · cases h
      exact ⟨hL, sc (st0 hs) (sc (st0 (st1 hs)) hs)⟩
    · cases h
  case pop =>
    dsimp only at h
    split at h
    · cases h
      exact ⟨hL, st1 hs⟩
    · cases h
  case goto n =>
    dsimp only at h
    split at h
    · cases h
      exact ⟨hL, hs⟩
    · cases h
  case getfield n =>
    dsimp only at h
    split at h
    · rename_i c s k j r
      split at h
      · rename_i c2 hsh
        split at h
        · split at h
          · rename_i q hq
            cases h
            have h35 := wc_k35 hsh (by decide)
            exact ⟨hL, sc (wc_rf_ok h35 (st0 hs) hq (Or.inl (by rw [hsh]))) (st1 hs)⟩
          · cases h
            exact ⟨hL, sc rfl (st1 hs)⟩
        · cases h
      · cases h
    · cases h
  case putfield n =>
    dsimp only at h
    split at h
    · split at h
      · split at h
        · split at h
          · cases h
          · cases h
            exact ⟨hL, st1 (st1 hs)⟩
        · cases h
      · cases h
    · cases h
  case getstatic n =>
    dsimp only at h
    split at h
    · rename_i k
      cases h
      unfold wc_lnk at hlnk
      simp only [Bool.and_eq_true, decide_eq_true_eq] at hlnk
      have h35 := Nat.ble_eq.mp hlnk.1.2
      have h38 := Nat.blt_eq.mp hlnk.2
      have hk : ∀ k, k < 38 → 35 ≤ k → wc_ok (k, 0) = true := by decide
      exact ⟨hL, sc (hk k h38 h35) hs⟩
    · cases h
  case arraylength =>
    dsimp only at h
    split at h
    · split at h
      · cases h
        exact ⟨hL, sc rfl (st1 hs)⟩
      · split at h
        · cases h
          exact ⟨hL, sc rfl (st1 hs)⟩
        · cases h
      · cases h
    · cases h
  case invokestatic n =>
    dsimp only at h
    split at h
    · split at h
      · split at h
        · cases h
          exact ⟨hL, sc rfl (st1 (st1 hs))⟩
        · split at h
          · cases h
            exact ⟨hL, sc rfl (st1 (st1 hs))⟩
          · cases h
      · cases h
    · cases h
  all_goals cases h
end
section
/-! STEPS without a condition: the machine follows -/
section WCS
variable {p : Program} {l : Launch} {e : Env} {R : Room} {s : State} {m : MethodId} {args : Array Value} {below : List Frame} {meth : Method} {c : Code} {cells slots : Nat} {Q : State → Prop}
variable {ad : wc_A} {cA : Nat → ClassId} {D : va_G} {A : Nat → Prop} {X : Nat × (Nat → Int32)} {o nL dep : Nat} {bytes : ByteArray} {cd : List wc_E}
theorem wc_cat4 {r : List wc_V} (h : Nat.ble r.length 4 = true) : ((r.map (wc_cv ad)).map fun v => v.category).sum ≤ 8 := by
  have h4 := Nat.ble_eq.mp h
  have key : ∀ r : List wc_V, ((r.map (wc_cv ad)).map fun v => v.category).sum ≤ 2 * r.length := by
    intro r
    induction r with
    | nil => simp
    | cons v r ih =>
      have hv : (wc_cv ad v).category ≤ 2 := by
        obtain v | v | v := v <;> simp [wc_cv, Value.category]
      simp only [List.map_cons, List.sum_cons, List.length_cons]
      omega
  have := key r
  omega
theorem wc_stp_ok {i i' : Nat} {L L' : wc_L} {st st' : List wc_V} {M M' : wc_M} (hC : wc_C p R s m args c cells slots ad cA D A X o nL dep bytes) (hg : wc_good o bytes cd) (h : wc_stp X.1 cd i L st M = some (i', L', st', M')) (hL : wc_okL L) (hs : wc_okS st)
    (k : wc_At p l e R s m args below meth c cells slots Q ad cA D A nL cd i' L' st' M') : wc_At p l e R s m args below meth c cells slots Q ad cA D A nL cd i L st M := by
  obtain ⟨hx, hb, hml, hown, hts, hK, hTZ, hXS, hfr, hlo, hce, hsl⟩ := hC
  rcases hcd : cd[i]? with _ | ⟨pc, ins, len, tg, ct, cl⟩
  · unfold wc_stp at h
    rw [hcd] at h
    cases h
  obtain ⟨hdec, hlen, hlnk, hnx⟩ := hg i pc ins len tg ct cl hcd
  have hpc : wc_pc cd i = pc := by unfold wc_pc; rw [hcd]
  intro H locs ls hP hD hS hl
  rw [hpc]
  have lg : ∀ {n : Nat} {v : wc_V}, L[n]? = some (some v) → ls[n]? = some (.val (wc_cv ad v)) := fun {n v} hv => hl.2.2.2 n v hv
  unfold wc_stp at h
  rw [hcd] at h
  cases ins
  case iconst n =>
    cases h
    have hn : wc_pc cd (i + 1) = pc + 1 := by rw [hlen] at hnx; exact Nat.eq_of_beq_eq_true hnx
    have k := k H locs ls hP hD hS hl
    rw [hn] at k
    rw [hlen] at hdec
    exact lv_iconst hx hb hdec (of_decide_eq_true hlnk) k
  case bipush n =>
    cases h
    have hn : wc_pc cd (i + 1) = pc + 2 := by rw [hlen] at hnx; exact Nat.eq_of_beq_eq_true hnx
    have k := k H locs ls hP hD hS hl
    rw [hn] at k
    rw [hlen] at hdec
    exact lv_bipush hx hb hdec (of_decide_eq_true hlnk) k
  case sipush n =>
    cases h
    have hn : wc_pc cd (i + 1) = pc + 3 := by rw [hlen] at hnx; exact Nat.eq_of_beq_eq_true hnx
    have k := k H locs ls hP hD hS hl
    rw [hn] at k
    rw [hlen] at hdec
    exact lv_sipush hx hb hdec (of_decide_eq_true hlnk) k
  case lconst n =>
    cases h
    have hn : wc_pc cd (i + 1) = pc + 1 := by rw [hlen] at hnx; exact Nat.eq_of_beq_eq_true hnx
    have k := k H locs ls hP hD hS hl
    rw [hn] at k
    rw [hlen] at hdec
    exact lv_lconst hx hb hdec (of_decide_eq_true hlnk) k
  case ldc n =>
    cases h
    have hn : wc_pc cd (i + 1) = pc + 2 := by rw [hlen] at hnx; exact Nat.eq_of_beq_eq_true hnx
    have k := k H locs ls hP hD hS hl
    rw [hn] at k
    rw [hlen] at hdec
    exact lv_ldc hx hb hown (hts _ (wc_ld_ok _ (of_decide_eq_true hlnk))) hdec k
  case ldc_w n =>
    cases h
    have hn : wc_pc cd (i + 1) = pc + 3 := by rw [hlen] at hnx; exact Nat.eq_of_beq_eq_true hnx
    have k := k H locs ls hP hD hS hl
    rw [hn] at k
    rw [hlen] at hdec
    exact lv_ldcw hx hb hown (hts _ (wc_ld_ok _ (of_decide_eq_true hlnk))) hdec k
  case ldc2_w n =>
    cases h
    have hn : wc_pc cd (i + 1) = pc + 3 := by rw [hlen] at hnx; exact Nat.eq_of_beq_eq_true hnx
    have k := k H locs ls hP hD hS hl
    rw [hn] at k
    rw [hlen] at hdec
    exact lv_ldc2 hx hb hown (hts _ (wc_le_ok _ (of_decide_eq_true hlnk))) hdec k
  case iload_n n =>
    dsimp only at h
    split at h
    · rename_i v hv
      cases h
      have hn : wc_pc cd (i + 1) = pc + 1 := by rw [hlen] at hnx; exact Nat.eq_of_beq_eq_true hnx
      have k := k H locs ls hP hD hS hl
      rw [hn] at k
      rw [hlen] at hdec
      exact lv_iload_n hx hb hdec rfl (lg hv) k
    · cases h
  case iload n =>
    dsimp only at h
    split at h
    · rename_i v hv
      cases h
      have hn : wc_pc cd (i + 1) = pc + 2 := by rw [hlen] at hnx; exact Nat.eq_of_beq_eq_true hnx
      have k := k H locs ls hP hD hS hl
      rw [hn] at k
      rw [hlen] at hdec
      exact lv_iload hx hb hdec (lg hv) k
    · cases h
  case aload_n n =>
    dsimp only at h
    split at h
    · rename_i v hv
      cases h
      have hn : wc_pc cd (i + 1) = pc + 1 := by rw [hlen] at hnx; exact Nat.eq_of_beq_eq_true hnx
      have k := k H locs ls hP hD hS hl
      rw [hn] at k
      rw [hlen] at hdec
      exact lv_aload_n hx hb hdec rfl (lg hv) k
    · cases h
  case aload n =>
    dsimp only at h
    split at h
    · rename_i v hv
      cases h
      have hn : wc_pc cd (i + 1) = pc + 2 := by rw [hlen] at hnx; exact Nat.eq_of_beq_eq_true hnx
      have k := k H locs ls hP hD hS hl
      rw [hn] at k
      rw [hlen] at hdec
      exact lv_aload hx hb hdec (lg hv) k
    · cases h
  case lload_n n =>
    dsimp only at h
    split at h
    · rename_i v hv
      cases h
      have hn : wc_pc cd (i + 1) = pc + 1 := by rw [hlen] at hnx; exact Nat.eq_of_beq_eq_true hnx
      have k := k H locs ls hP hD hS hl
      rw [hn] at k
      rw [hlen] at hdec
      exact lv_lload_n hx hb hdec rfl (lg hv) k
    · cases h
  case lload n =>
    dsimp only at h
    split at h
    · rename_i v hv
      cases h
      have hn : wc_pc cd (i + 1) = pc + 2 := by rw [hlen] at hnx; exact Nat.eq_of_beq_eq_true hnx
      have k := k H locs ls hP hD hS hl
      rw [hn] at k
      rw [hlen] at hdec
      exact lv_lload hx hb hdec (lg hv) k
    · cases h
  case istore_n n =>
    dsimp only at h
    split at h
    · rename_i v r
      split at h
      · rename_i hc
        simp only [Bool.and_eq_true] at hc
        obtain ⟨hno, hlt⟩ := hc
        cases h
        have hn : wc_pc cd (i + 1) = pc + 1 := by rw [hlen] at hnx; exact Nat.eq_of_beq_eq_true hnx
        rw [hlen] at hdec
        exact lv_istore_n hx hb hdec rfl (wc_lv_has hl) (by rw [← hl.2.2.1]; exact Nat.blt_eq.mp hlt) rfl (fun ls1 h1 => by
          have k := k H locs ls1 hP hD hS (wc_lv_set (v := .inl v) hl.2.2.1 hno h1)
          rw [hn] at k
          exact k)
      · cases h
    · cases h
  case istore n =>
    dsimp only at h
    split at h
    · rename_i v r
      split at h
      · rename_i hc
        simp only [Bool.and_eq_true] at hc
        obtain ⟨hno, hlt⟩ := hc
        cases h
        have hn : wc_pc cd (i + 1) = pc + 2 := by rw [hlen] at hnx; exact Nat.eq_of_beq_eq_true hnx
        rw [hlen] at hdec
        exact lv_istore hx hb hdec (wc_lv_has hl) (by rw [← hl.2.2.1]; exact Nat.blt_eq.mp hlt) rfl (fun ls1 h1 => by
          have k := k H locs ls1 hP hD hS (wc_lv_set (v := .inl v) hl.2.2.1 hno h1)
          rw [hn] at k
          exact k)
      · cases h
    · cases h
  case astore_n n =>
    dsimp only at h
    split at h
    · rename_i v r
      split at h
      · rename_i hc
        simp only [Bool.and_eq_true] at hc
        obtain ⟨hno, hlt⟩ := hc
        cases h
        have hn : wc_pc cd (i + 1) = pc + 1 := by rw [hlen] at hnx; exact Nat.eq_of_beq_eq_true hnx
        rw [hlen] at hdec
        exact lv_astore_n hx hb hdec rfl (wc_lv_has hl) (by rw [← hl.2.2.1]; exact Nat.blt_eq.mp hlt) rfl (fun ls1 h1 => by
          have k := k H locs ls1 hP hD hS (wc_lv_set (v := .inr (.inl v)) hl.2.2.1 hno h1)
          rw [hn] at k
          exact k)
      · cases h
    · cases h
  case astore n =>
    dsimp only at h
    split at h
    · rename_i v r
      split at h
      · rename_i hc
        simp only [Bool.and_eq_true] at hc
        obtain ⟨hno, hlt⟩ := hc
        cases h
        have hn : wc_pc cd (i + 1) = pc + 2 := by rw [hlen] at hnx; exact Nat.eq_of_beq_eq_true hnx
        rw [hlen] at hdec
        exact lv_astore hx hb hdec (wc_lv_has hl) (by rw [← hl.2.2.1]; exact Nat.blt_eq.mp hlt) rfl (fun ls1 h1 => by
          have k := k H locs ls1 hP hD hS (wc_lv_set (v := .inr (.inl v)) hl.2.2.1 hno h1)
          rw [hn] at k
          exact k)
      · cases h
    · cases h
  case iinc n q =>
    dsimp only at h
    split at h
    · rename_i v hv
      split at h
      · rename_i hno
        cases h
        have hn : wc_pc cd (i + 1) = pc + 3 := by rw [hlen] at hnx; exact Nat.eq_of_beq_eq_true hnx
        rw [hlen] at hdec
        obtain ⟨k0, hk0⟩ := List.getElem?_of_mem (wc_lp_in (ad := ad) (L := L) (q := (n, .int v)) |>.mpr ⟨.inl v, hv, rfl⟩)
        exact lv_iinc (v := v + ct) hx hb hdec (wc_lv_has hl) (k := k0) hk0 (by rw [of_decide_eq_true hlnk]) (by rw [← hl.2.2.1]; exact (List.getElem?_eq_some_iff.mp hv).1) rfl (fun ls1 h1 => by
          have k := k H locs ls1 hP hD hS (wc_lv_set (v := .inl (v + ct)) hl.2.2.1 hno h1)
          rw [hn] at k
          exact k)
      · cases h
    · cases h
  case iadd =>
    dsimp only at h
    split at h
    · cases h
      have hn : wc_pc cd (i + 1) = pc + 1 := by rw [hlen] at hnx; exact Nat.eq_of_beq_eq_true hnx
      have k := k H locs ls hP hD hS hl
      rw [hn] at k
      rw [hlen] at hdec
      exact lv_iadd hx hb hdec k
    · cases h
  case isub =>
    dsimp only at h
    split at h
    · cases h
      have hn : wc_pc cd (i + 1) = pc + 1 := by rw [hlen] at hnx; exact Nat.eq_of_beq_eq_true hnx
      have k := k H locs ls hP hD hS hl
      rw [hn] at k
      rw [hlen] at hdec
      exact lv_isub hx hb hdec k
    · cases h
  case imul =>
    dsimp only at h
    split at h
    · cases h
      have hn : wc_pc cd (i + 1) = pc + 1 := by rw [hlen] at hnx; exact Nat.eq_of_beq_eq_true hnx
      have k := k H locs ls hP hD hS hl
      rw [hn] at k
      rw [hlen] at hdec
      exact lv_imul hx hb hdec k
    · cases h
  case iand =>
    dsimp only at h
    split at h
    · cases h
      have hn : wc_pc cd (i + 1) = pc + 1 := by rw [hlen] at hnx; exact Nat.eq_of_beq_eq_true hnx
      have k := k H locs ls hP hD hS hl
      rw [hn] at k
      rw [hlen] at hdec
      exact lv_iand hx hb hdec k
    · cases h
  case ior =>
    dsimp only at h
    split at h
    · cases h
      have hn : wc_pc cd (i + 1) = pc + 1 := by rw [hlen] at hnx; exact Nat.eq_of_beq_eq_true hnx
      have k := k H locs ls hP hD hS hl
      rw [hn] at k
      rw [hlen] at hdec
      exact lv_ior hx hb hdec k
    · cases h
  case ishl =>
    dsimp only at h
    split at h
    · cases h
      have hn : wc_pc cd (i + 1) = pc + 1 := by rw [hlen] at hnx; exact Nat.eq_of_beq_eq_true hnx
      have k := k H locs ls hP hD hS hl
      rw [hn] at k
      rw [hlen] at hdec
      exact lv_ishl hx hb hdec k
    · cases h
  case ishr =>
    dsimp only at h
    split at h
    · cases h
      have hn : wc_pc cd (i + 1) = pc + 1 := by rw [hlen] at hnx; exact Nat.eq_of_beq_eq_true hnx
      have k := k H locs ls hP hD hS hl
      rw [hn] at k
      rw [hlen] at hdec
      exact lv_ishr hx hb hdec k
    · cases h
  case ineg =>
    dsimp only at h
    split at h
    · cases h
      have hn : wc_pc cd (i + 1) = pc + 1 := by rw [hlen] at hnx; exact Nat.eq_of_beq_eq_true hnx
      have k := k H locs ls hP hD hS hl
      rw [hn] at k
      rw [hlen] at hdec
      exact lv_ineg hx hb hdec k
    · cases h
  case lsub =>
    dsimp only at h
    split at h
    · cases h
      have hn : wc_pc cd (i + 1) = pc + 1 := by rw [hlen] at hnx; exact Nat.eq_of_beq_eq_true hnx
      have k := k H locs ls hP hD hS hl
      rw [hn] at k
      rw [hlen] at hdec
      exact lv_lsub hx hb hdec k
    · cases h
  case lcmp =>
    dsimp only at h
    split at h
    · cases h
      have hn : wc_pc cd (i + 1) = pc + 1 := by rw [hlen] at hnx; exact Nat.eq_of_beq_eq_true hnx
      have k := k H locs ls hP hD hS hl
      rw [hn] at k
      rw [hlen] at hdec
      exact W.lcmp hx hb hdec k
    · cases h
  case i2l =>
    dsimp only at h
    split at h
    · cases h
      have hn : wc_pc cd (i + 1) = pc + 1 := by rw [hlen] at hnx; exact Nat.eq_of_beq_eq_true hnx
      have k := k H locs ls hP hD hS hl
      rw [hn] at k
      rw [hlen] at hdec
      exact lv_i2l hx hb hdec rfl k
    · cases h
  case i2b =>
    dsimp only at h
    split at h
    · cases h
      have hn : wc_pc cd (i + 1) = pc + 1 := by rw [hlen] at hnx; exact Nat.eq_of_beq_eq_true hnx
      have k := k H locs ls hP hD hS hl
      rw [hn] at k
      rw [hlen] at hdec
      exact lv_i2b hx hb hdec rfl k
    · cases h
  case i2s =>
    dsimp only at h
    split at h
    · cases h
      have hn : wc_pc cd (i + 1) = pc + 1 := by rw [hlen] at hnx; exact Nat.eq_of_beq_eq_true hnx
      have k := k H locs ls hP hD hS hl
      rw [hn] at k
      rw [hlen] at hdec
      exact lv_i2s hx hb hdec rfl k
    · cases h
  case dup =>
    dsimp only at h
    split at h
    · cases h
      have hn : wc_pc cd (i + 1) = pc + 1 := by rw [hlen] at hnx; exact Nat.eq_of_beq_eq_true hnx
      have k := k H locs ls hP hD hS hl
      rw [hn] at k
      rw [hlen] at hdec
      exact lv_dup hx hb hdec rfl k
    · cases h
      have hn : wc_pc cd (i + 1) = pc + 1 := by rw [hlen] at hnx; exact Nat.eq_of_beq_eq_true hnx
      have k := k H locs ls hP hD hS hl
      rw [hn] at k
      rw [hlen] at hdec
      exact lv_dup hx hb hdec rfl k
    · cases h
  case dup2 =>
    dsimp only at h
    split at h
    · cases h
      have hn : wc_pc cd (i + 1) = pc + 1 := by rw [hlen] at hnx; exact Nat.eq_of_beq_eq_true hnx
      have k := k H locs ls hP hD hS hl
      rw [hn] at k
      rw [hlen] at hdec
      exact lv_dup2_11 hx hb hdec rfl rfl k
    · cases h
  case pop =>
    dsimp only at h
    split at h
    · cases h
      have hn : wc_pc cd (i + 1) = pc + 1 := by rw [hlen] at hnx; exact Nat.eq_of_beq_eq_true hnx
      have k := k H locs ls hP hD hS hl
      rw [hn] at k
      rw [hlen] at hdec
      exact lv_pop hx hb hdec rfl k
    · cases h
  case goto n =>
    dsimp only at h
    split at h
    · rename_i t
      cases h
      rw [hlen] at hdec
      have k := k H locs ls hP hD hS hl
      exact lv_goto hx hb hdec (of_decide_eq_true hnx) k
    · cases h
  case getfield n =>
    dsimp only at h
    split at h
    · rename_i c1 s1 k1 j1 r
      split at h
      · rename_i c2 hsh
        split at h
        · rename_i hc
          simp only [Bool.and_eq_true] at hc
          have hcc := Nat.eq_of_beq_eq_true hc.1
          subst hcc
          have hlt := Nat.blt_eq.mp hc.2
          have h35 := wc_k35 hsh (by decide)
          have h8 := wc_c8 hsh
          obtain ⟨q0, hq0, -⟩ := wc_plc (ad := ad) (cA := cA) (M := M) h35 (hs _ List.mem_cons_self)
          rw [wc_ent0 hsh] at hq0
          have hlk : Jvm.Cond.fieldLink (wc_cn o) n (wc_cn c1) (wc_F c1 s1).2.1 (wc_F c1 s1).2.2.1 ∈ wc_tw := wc_fl_ok _ (of_decide_eq_true hlnk)
          have hn : wc_pc cd (i + 1) = pc + 3 := by rw [hlen] at hnx; exact Nat.eq_of_beq_eq_true hnx
          rw [hlen] at hdec
          have go : ∀ v : Value, wc_fld ad k1 j1 s1 M = v → W p l e R s m args below meth c H locs cells slots Q (F0 m (pc + 3) ls (v :: r.map (wc_cv ad))) → W p l e R s m args below meth c H locs cells slots Q (F0 m pc ls ((.inr (.inl (k1, j1)) :: r : List wc_V).map (wc_cv ad))) := fun v hv kk =>
            va_get (D := D) (ci := c1) (v := v) (C := wc_cn c1) (T := wc_F c1) (N := wc_nf c1) hx hb hts (wc_lay_ok h8) hown hK hP q0 hq0 (wc_cls_at h8) s1 hlt (hts _ hlk) (fun _ h9 => by rw [wc_F1 c1 h8 s1 hlt] at h9; exact h9) (by rw [List.getElem?_map, List.getElem?_range hlt]; show some (wc_fld ad k1 j1 s1 M) = some v; rw [hv]) hdec kk
          split at h
          · rename_i q hq
            cases h
            have k := k H locs ls hP hD hS hl
            rw [hn] at k
            exact go _ (by unfold wc_fld; rw [hq]; rfl) k
          · rename_i hq
            cases h
            have k := k H locs ls hP hD hS hl
            rw [hn] at k
            exact go _ (by unfold wc_fld; rw [hq]; rfl) k
        · cases h
      · cases h
    · cases h
  case putfield n =>
    dsimp only at h
    split at h
    · rename_i c1 s1 v k1 j1 r
      split at h
      · rename_i c2 hsh
        split at h
        · rename_i hc
          simp only [Bool.and_eq_true, Bool.not_eq_true'] at hc
          have hcc := Nat.eq_of_beq_eq_true hc.1.1
          subst hcc
          have hlt := Nat.blt_eq.mp hc.1.2
          have hbo := hc.2
          have h35 := wc_k35 hsh (by decide)
          have h8 := wc_c8 hsh
          obtain ⟨q0, hq0, hw0⟩ := wc_plc (ad := ad) (cA := cA) (M := M) h35 (hs _ (List.mem_cons_of_mem _ List.mem_cons_self))
          rw [wc_ent0 hsh] at hq0
          have hlk : Jvm.Cond.fieldLink (wc_cn o) n (wc_cn c1) (wc_F c1 s1).2.1 (wc_F c1 s1).2.2.1 ∈ wc_tw := wc_fl_ok _ (of_decide_eq_true hlnk)
          have hn : wc_pc cd (i + 1) = pc + 3 := by rw [hlen] at hnx; exact Nat.eq_of_beq_eq_true hnx
          rw [hlen] at hdec
          split at h
          · cases h
          · rename_i hq
            cases h
            obtain ⟨hfi, hde⟩ := wc_pf_at hsh hlt hq
            rw [hbo] at hde
            exact va_put (D := D) (ci := c1) (v := .int v) (ty := .int) (C := wc_cn c1) (T := wc_F c1) (N := wc_nf c1) hx hb hts (wc_lay_ok h8) (wc_ty c1) (wc_ty_ok c1 h8) (wc_nm c1 h8) hown hK hP hD hS q0 hq0 (wc_cls_at h8) s1 hlt (hts _ hlk) (fun _ h9 => by rw [wc_F1 c1 h8 s1 hlt] at h9; exact h9) hfi (by rw [hde]; decide +kernel) rfl rfl (by simpa using hlt) hdec (fun H1 locs1 hP1 hD1 hS1 => by
              rw [wc_set0 hw0 hsh hq] at hP1 hD1
              have k := k H1 locs1 ls hP1 hD1 hS1 hl
              rw [hn] at k
              exact k)
        · cases h
      · cases h
    · cases h
  case getstatic n =>
    dsimp only at h
    split at h
    · rename_i k1
      cases h
      unfold wc_lnk at hlnk
      simp only [Bool.and_eq_true, decide_eq_true_eq] at hlnk
      have h35 := Nat.ble_eq.mp hlnk.1.2
      have h38 := Nat.blt_eq.mp hlnk.2
      have hn : wc_pc cd (i + 1) = pc + 3 := by rw [hlen] at hnx; exact Nat.eq_of_beq_eq_true hnx
      have k := k H locs ls hP hD hS hl
      rw [hn] at k
      rw [hlen] at hdec
      exact va_gets hx hb (hTZ k1 h35 h38).2 hS hown (hts _ (wc_gs_ok _ hlnk.1.1)) (fun _ h9 => h9) hdec k
    · cases h
  case arraylength =>
    dsimp only at h
    split at h
    · rename_i k1 r
      split at h
      · rename_i n1 hsh
        cases h
        obtain ⟨h35, h38, h6⟩ : 35 ≤ k1 ∧ k1 < 38 ∧ n1 = 6 := by
          have hh : ∀ k, k < 39 → (wc_sh k).1 = 9 → 35 ≤ k ∧ k < 38 ∧ (wc_sh k).2 = 6 := by decide
          rcases Nat.lt_or_ge k1 39 with h1 | h1
          · have h2 := hh k1 h1 (by rw [hsh])
            rw [hsh] at h2
            exact h2
          · have e1 : wc_shl[k1]? = none := List.getElem?_eq_none (by show 39 ≤ k1; exact h1)
            unfold wc_sh at hsh
            rw [e1] at hsh
            cases hsh
        subst h6
        have hn : wc_pc cd (i + 1) = pc + 1 := by rw [hlen] at hnx; exact Nat.eq_of_beq_eq_true hnx
        have k := k H locs ls hP hD hS hl
        rw [hn] at k
        rw [hlen] at hdec
        obtain ⟨cell, g1, g2, g3, g4, g5, g6, g7⟩ := (hTZ k1 h35 h38).1
        have hbl : ad k1 0 < s.heap.size := (Array.getElem?_eq_some_iff.mp g1).1
        exact W.alen (n := Int32.ofNat 6) hx hb (by rw [hS.2.1 _ hbl g7]; exact g1) g2 g5 rfl rfl hdec k
      · rename_i n1 hsh
        split at h
        · rename_i hc
          cases h
          have h38 : k1 = 38 := by
            have hh : ∀ k, k < 39 → (wc_sh k).1 = 10 → k = 38 := by decide
            rcases Nat.lt_or_ge k1 39 with h1 | h1
            · exact hh k1 h1 (by rw [hsh])
            · have e1 : wc_shl[k1]? = none := List.getElem?_eq_none (by show 39 ≤ k1; exact h1)
              unfold wc_sh at hsh
              rw [e1] at hsh
              cases hsh
          subst h38
          have hn : wc_pc cd (i + 1) = pc + 1 := by rw [hlen] at hnx; exact Nat.eq_of_beq_eq_true hnx
          have k := k H locs ls hP hD hS hl
          rw [hn] at k
          rw [hlen] at hdec
          obtain ⟨g1, g2, g3⟩ := hXS (Nat.blt_eq.mp hc)
          exact va_slen hx hb g1 g2 g3 hS hdec k
        · cases h
      · cases h
    · cases h
  case invokestatic n =>
    dsimp only at h
    split at h
    · rename_i t y x r
      split at h
      · rename_i h4
        have hn : wc_pc cd (i + 1) = pc + 3 := by rw [hlen] at hnx; exact Nat.eq_of_beq_eq_true hnx
        rw [hlen] at hdec
        have hq := wc_cat4 (ad := ad) h4
        have hlk : Jvm.Cond.methodLink (wc_cn o) n (wc_ny t) ∈ wc_tw ∨ t < 155 := by
          rcases Nat.lt_or_ge t 155 with h1 | h1
          · exact Or.inr h1
          · refine Or.inl (wc_nt_ok (o, n, t) ?_)
            unfold wc_lnk at hlnk
            replace hlnk : (if Nat.blt t 155 then decide ((o, n, t) ∈ wc_ml) && Nat.beq o (wc_m t).1 else decide ((o, n, t) ∈ wc_nt)) = true := hlnk
            rw [if_neg (by rw [Nat.blt_eq]; omega)] at hlnk
            exact of_decide_eq_true hlnk
        split at h
        · rename_i ht
          have ht := Nat.eq_of_beq_eq_true ht
          subst ht
          cases h
          have k := k H locs ls hP hD hS hl
          rw [hn] at k
          exact va_mmax hx hb (by rw [hml, hl.1]) hown (hts _ (hlk.resolve_right (by decide))) (hts _ (wc_nat 0 rfl rfl)) (hts _ (wc_nat 2 rfl rfl)) (hts _ (wc_nat 6 rfl rfl)) (by omega) (by omega) hce hsl hdec k
        · split at h
          · rename_i ht
            have ht := Nat.eq_of_beq_eq_true ht
            subst ht
            cases h
            have k := k H locs ls hP hD hS hl
            rw [hn] at k
            exact va_mmin hx hb (by rw [hml, hl.1]) hown (hts _ (hlk.resolve_right (by decide))) (hts _ (wc_nat 1 rfl rfl)) (hts _ (wc_nat 2 rfl rfl)) (hts _ (wc_nat 7 rfl rfl)) (by omega) (by omega) hce hsl hdec k
          · cases h
      · cases h
    · cases h
  all_goals cases h
end WCS
end
section
/-! BRANCHES, switches, steps under a condition -/
theorem wc_sws {pc : Nat} {d : Int} {x : Int32} {f : Nat → Int} : ∀ (ps : List (Int × Int)) (ts : List Nat), ts.length = ps.length → (∀ q ∈ ps, (Int32.ofInt q.1).toInt = q.1) → (∀ q ∈ ps.zip ts, (pc : Int) + q.1.2 = f q.2) →
    (∃ q ∈ (ps.map (fun q => Int32.ofInt q.1)).zip ts, x = q.1 ∧ (pc : Int) + Op.lookupswitch.offset ps d x.toInt = f q.2) ∨ ((∀ q ∈ (ps.map (fun q => Int32.ofInt q.1)).zip ts, x ≠ q.1) ∧ Op.lookupswitch.offset ps d x.toInt = d)
  | [], [], _, _, _ => Or.inr ⟨(fun q h => by simp at h), rfl⟩
  | (k, o) :: ps, t :: ts, hl, hk, hz => by
    by_cases hx : x = Int32.ofInt k
    · refine Or.inl ⟨(Int32.ofInt k, t), List.mem_cons_self, hx, ?_⟩
      have h1 : (Int32.ofInt k).toInt = k := hk (k, o) List.mem_cons_self
      rw [hx, Op.lookupswitch.offset_cons, if_pos h1.symm]
      exact hz ((k, o), t) List.mem_cons_self
    · have h1 : (Int32.ofInt k).toInt = k := hk (k, o) List.mem_cons_self
      rw [lv_osw hx h1]
      rcases wc_sws ps ts (by simpa using hl) (fun q hq => hk q (List.mem_cons_of_mem _ hq)) (fun q hq => hz q (List.mem_cons_of_mem _ hq)) with ⟨q, hq, h2⟩ | ⟨hq, h2⟩
      · exact Or.inl ⟨q, List.mem_cons_of_mem _ hq, h2⟩
      · refine Or.inr ⟨fun q h => ?_, h2⟩
        rcases List.mem_cons.mp h with h3 | h3
        · subst h3; exact hx
        · exact hq q h3
theorem wc_tsw {ct : Int32} {lo : Int} {j : Nat} (h : ct.toInt = lo) (h0 : 0 ≤ lo) (hj : lo + (j : Int) < 1001) : (ct + Int32.ofNat j).toInt = lo + j := by
  have e : ct = nI lo.toNat := by
    apply Int32.toInt_inj.mp
    rw [nI_toInt (by omega), h]
    omega
  rw [e]
  show (nI lo.toNat + nI j).toInt = _
  rw [nI_add, nI_toInt (by omega)]
  omega
theorem wc_bo_rf0 : ∀ k, k < 35 → ∀ s, s < 28 → (match wc_sh k with
  | (0, c) => if Nat.blt s (wc_nf c) && wc_bo c s then (match ((wc_rfl[k]?).getD [])[s]? with
    | some (some _) => false
    | _ => true) else true
  | _ => true) = true := by decide +kernel
theorem wc_bo_rf {k c s j : Nat} (h : wc_sh k = (0, c)) (hs : s < wc_nf c) (hb : wc_bo c s = true) : wc_rf k j s = none := by
  have h8 := wc_c8 h
  have h1 := wc_bo_rf0 k (wc_k35 h (by decide)) s (Nat.lt_of_lt_of_le hs (wc_nf28 c h8))
  unfold wc_rf
  simp only [h] at h1 ⊢
  rw [if_pos (by rw [hb, Nat.blt_eq.mpr hs]; rfl)] at h1
  cases he : ((wc_rfl[k]?).getD [])[s]? with
  | none => rfl
  | some z =>
    cases z with
    | none => rfl
    | some z =>
      rw [he] at h1
      cases h1
section WCB
variable {p : Program} {l : Launch} {e : Env} {R : Room} {s : State} {m : MethodId} {args : Array Value} {below : List Frame} {meth : Method} {c : Code} {cells slots : Nat} {Q : State → Prop}
variable {ad : wc_A} {cA : Nat → ClassId} {D : va_G} {A : Nat → Prop} {X : Nat × (Nat → Int32)} {o nL dep : Nat} {bytes : ByteArray} {cd : List wc_E}
theorem wc_brq_ok {i t f : Nat} {P : Prop} {L : wc_L} {st st' : List wc_V} {M : wc_M} (hC : wc_C p R s m args c cells slots ad cA D A X o nL dep bytes) (hg : wc_good o bytes cd) (h : wc_brq cd i st = some (P, t, f, st'))
    (kt : P → wc_At p l e R s m args below meth c cells slots Q ad cA D A nL cd t L st' M) (kf : ¬ P → wc_At p l e R s m args below meth c cells slots Q ad cA D A nL cd f L st' M) : wc_At p l e R s m args below meth c cells slots Q ad cA D A nL cd i L st M := by
  obtain ⟨hx, hb, hml, hown, hts, hK, hTZ, hXS, hfr, hlo, hce, hsl⟩ := hC
  rcases hcd : cd[i]? with _ | ⟨pc, ins, len, tg, ct, cl⟩
  · unfold wc_brq at h
    rw [hcd] at h
    cases h
  obtain ⟨hdec, hlen, hlnk, hnx⟩ := hg i pc ins len tg ct cl hcd
  have hpc : wc_pc cd i = pc := by unfold wc_pc; rw [hcd]
  intro H locs ls hP hD hS hl
  rw [hpc]
  unfold wc_brq at h
  rw [hcd] at h
  dsimp only at h
  split at h
  · cases h
    have hnx2 := (Bool.and_eq_true _ _).mp hnx
    have ht := of_decide_eq_true hnx2.1
    have hn := Nat.eq_of_beq_eq_true hnx2.2
    rw [hlen] at hdec
    refine lv_if_eq hx hb hdec ht (fun z => kt z H locs ls hP hD hS hl) (fun z => ?_)
    have k := kf z H locs ls hP hD hS hl
    rw [hn] at k
    exact k
  · cases h
    have hnx2 := (Bool.and_eq_true _ _).mp hnx
    have ht := of_decide_eq_true hnx2.1
    have hn := Nat.eq_of_beq_eq_true hnx2.2
    rw [hlen] at hdec
    refine lv_if_ne hx hb hdec ht (fun z => kf z H locs ls hP hD hS hl) (fun z => ?_)
    have k := kt z H locs ls hP hD hS hl
    rw [hn] at k
    exact k
  · cases h
    have hnx2 := (Bool.and_eq_true _ _).mp hnx
    have ht := of_decide_eq_true hnx2.1
    have hn := Nat.eq_of_beq_eq_true hnx2.2
    rw [hlen] at hdec
    refine lv_if_lt hx hb hdec ht (fun z => kt z H locs ls hP hD hS hl) (fun z => ?_)
    have k := kf z H locs ls hP hD hS hl
    rw [hn] at k
    exact k
  · cases h
    have hnx2 := (Bool.and_eq_true _ _).mp hnx
    have ht := of_decide_eq_true hnx2.1
    have hn := Nat.eq_of_beq_eq_true hnx2.2
    rw [hlen] at hdec
    refine lv_if_ge hx hb hdec ht (fun z => kt z H locs ls hP hD hS hl) (fun z => ?_)
    have k := kf z H locs ls hP hD hS hl
    rw [hn] at k
    exact k
  · cases h
    have hnx2 := (Bool.and_eq_true _ _).mp hnx
    have ht := of_decide_eq_true hnx2.1
    have hn := Nat.eq_of_beq_eq_true hnx2.2
    rw [hlen] at hdec
    refine lv_if_gt hx hb hdec ht (fun z => kt z H locs ls hP hD hS hl) (fun z => ?_)
    have k := kf z H locs ls hP hD hS hl
    rw [hn] at k
    exact k
  · cases h
    have hnx2 := (Bool.and_eq_true _ _).mp hnx
    have ht := of_decide_eq_true hnx2.1
    have hn := Nat.eq_of_beq_eq_true hnx2.2
    rw [hlen] at hdec
    refine lv_if_le hx hb hdec ht (fun z => kt z H locs ls hP hD hS hl) (fun z => ?_)
    have k := kf z H locs ls hP hD hS hl
    rw [hn] at k
    exact k
  · cases h
    have hnx2 := (Bool.and_eq_true _ _).mp hnx
    have ht := of_decide_eq_true hnx2.1
    have hn := Nat.eq_of_beq_eq_true hnx2.2
    rw [hlen] at hdec
    refine lv_icmp_eq hx hb hdec ht (fun z => kt z H locs ls hP hD hS hl) (fun z => ?_)
    have k := kf z H locs ls hP hD hS hl
    rw [hn] at k
    exact k
  · cases h
    have hnx2 := (Bool.and_eq_true _ _).mp hnx
    have ht := of_decide_eq_true hnx2.1
    have hn := Nat.eq_of_beq_eq_true hnx2.2
    rw [hlen] at hdec
    refine lv_icmp_ne hx hb hdec ht (fun z => kf z H locs ls hP hD hS hl) (fun z => ?_)
    have k := kt z H locs ls hP hD hS hl
    rw [hn] at k
    exact k
  · cases h
    have hnx2 := (Bool.and_eq_true _ _).mp hnx
    have ht := of_decide_eq_true hnx2.1
    have hn := Nat.eq_of_beq_eq_true hnx2.2
    rw [hlen] at hdec
    refine lv_icmp_lt hx hb hdec ht (fun z => kt z H locs ls hP hD hS hl) (fun z => ?_)
    have k := kf z H locs ls hP hD hS hl
    rw [hn] at k
    exact k
  · cases h
    have hnx2 := (Bool.and_eq_true _ _).mp hnx
    have ht := of_decide_eq_true hnx2.1
    have hn := Nat.eq_of_beq_eq_true hnx2.2
    rw [hlen] at hdec
    refine lv_icmp_ge hx hb hdec ht (fun z => kt z H locs ls hP hD hS hl) (fun z => ?_)
    have k := kf z H locs ls hP hD hS hl
    rw [hn] at k
    exact k
  · cases h
    have hnx2 := (Bool.and_eq_true _ _).mp hnx
    have ht := of_decide_eq_true hnx2.1
    have hn := Nat.eq_of_beq_eq_true hnx2.2
    rw [hlen] at hdec
    refine lv_icmp_gt hx hb hdec ht (fun z => kt z H locs ls hP hD hS hl) (fun z => ?_)
    have k := kf z H locs ls hP hD hS hl
    rw [hn] at k
    exact k
  · cases h
    have hnx2 := (Bool.and_eq_true _ _).mp hnx
    have ht := of_decide_eq_true hnx2.1
    have hn := Nat.eq_of_beq_eq_true hnx2.2
    rw [hlen] at hdec
    refine lv_icmp_le hx hb hdec ht (fun z => kt z H locs ls hP hD hS hl) (fun z => ?_)
    have k := kf z H locs ls hP hD hS hl
    rw [hn] at k
    exact k
  · cases h
theorem wc_brq_ks {i t f : Nat} {P : Prop} {st st' : List wc_V} (h : wc_brq cd i st = some (P, t, f, st')) (hs : wc_okS st) : wc_okS st' := by
  have st1 : ∀ {v : wc_V} {r : List wc_V}, wc_okS (v :: r) → wc_okS r := fun {v r} hr w hw => hr w (List.mem_cons_of_mem _ hw)
  rcases hcd : cd[i]? with _ | ⟨pc, ins, len, tg, ct, cl⟩
  · unfold wc_brq at h
    rw [hcd] at h
    cases h
  unfold wc_brq at h
  rw [hcd] at h
  dsimp only at h
  split at h
  · cases h; exact st1 hs
  · cases h; exact st1 hs
  · cases h; exact st1 hs
  · cases h; exact st1 hs
  · cases h; exact st1 hs
  · cases h; exact st1 hs
  · cases h; exact st1 (st1 hs)
  · cases h; exact st1 (st1 hs)
  · cases h; exact st1 (st1 hs)
  · cases h; exact st1 (st1 hs)
  · cases h; exact st1 (st1 hs)
  · cases h; exact st1 (st1 hs)
  · cases h
theorem wc_swq_ks {i d : Nat} {x : Int32} {cs : List (Int32 × Nat)} {st st' : List wc_V} (h : wc_swq cd i st = some (x, cs, d, st')) (hs : wc_okS st) : wc_okS st' := by
  have st1 : ∀ {v : wc_V} {r : List wc_V}, wc_okS (v :: r) → wc_okS r := fun {v r} hr w hw => hr w (List.mem_cons_of_mem _ hw)
  rcases hcd : cd[i]? with _ | ⟨pc, ins, len, tg, ct, cl⟩
  · unfold wc_swq at h
    rw [hcd] at h
    cases h
  unfold wc_swq at h
  rw [hcd] at h
  dsimp only at h
  split at h
  · cases h; exact st1 hs
  · cases h; exact st1 hs
  · cases h
theorem wc_swq_ok {i d : Nat} {x : Int32} {cs : List (Int32 × Nat)} {L : wc_L} {st st' : List wc_V} {M : wc_M} (hC : wc_C p R s m args c cells slots ad cA D A X o nL dep bytes) (hg : wc_good o bytes cd) (h : wc_swq cd i st = some (x, cs, d, st'))
    (kt : ∀ q ∈ cs, x = q.1 → wc_At p l e R s m args below meth c cells slots Q ad cA D A nL cd q.2 L st' M) (kf : (∀ q ∈ cs, x ≠ q.1) → wc_At p l e R s m args below meth c cells slots Q ad cA D A nL cd d L st' M) : wc_At p l e R s m args below meth c cells slots Q ad cA D A nL cd i L st M := by
  obtain ⟨hx, hb, hml, hown, hts, hK, hTZ, hXS, hfr, hlo, hce, hsl⟩ := hC
  rcases hcd : cd[i]? with _ | ⟨pc, ins, len, tg, ct, cl⟩
  · unfold wc_swq at h
    rw [hcd] at h
    cases h
  obtain ⟨hdec, hlen, hlnk, hnx⟩ := hg i pc ins len tg ct cl hcd
  have hpc : wc_pc cd i = pc := by unfold wc_pc; rw [hcd]
  intro H locs ls hP hD hS hl
  rw [hpc]
  unfold wc_swq at h
  rw [hcd] at h
  dsimp only at h
  split at h
  · rename_i df lo hi offs dt ts x1 r
    cases h
    unfold wc_lnk at hlnk
    simp only [Bool.and_eq_true, decide_eq_true_eq] at hlnk
    obtain ⟨⟨⟨⟨h1, h2⟩, h3⟩, h4⟩, h5⟩ := hlnk
    have hnx2 := (Bool.and_eq_true _ _).mp hnx
    have hd := of_decide_eq_true hnx2.1
    have hz := List.all_eq_true.mp hnx2.2
    by_cases hr : x.toInt < lo ∨ hi < x.toInt
    · refine lv_tableOut hx hb hdec hr hd (kf ?_ H locs ls hP hD hS hl)
      intro q hq he
      obtain ⟨⟨t, j⟩, hj, rfl⟩ := List.mem_map.mp hq
      have hjl := (List.getElem?_eq_some_iff.mp (List.mem_zipIdx_iff_getElem?.mp hj)).1
      have e1 := wc_tsw (j := j) h1 h4 (by omega)
      rw [he] at hr
      dsimp only at hr
      rw [e1] at hr
      omega
    · obtain ⟨j, hj⟩ : ∃ j : Nat, x.toInt = lo + j := ⟨(x.toInt - lo).toNat, by omega⟩
      have hjl : j < ts.length := by omega
      have e1 := wc_tsw (j := j) h1 h4 (by omega)
      have hxe : x = ct + Int32.ofNat j := Int32.toInt_inj.mp (by rw [hj, e1])
      have ho : offs.toList[j]? = some (offs.toList[j]'(by rw [Array.length_toList]; omega)) := List.getElem?_eq_getElem _
      have hzz := hz (offs.toList[j]'(by rw [Array.length_toList]; omega), ts[j]) (List.mem_of_getElem? (i := j) (by rw [List.getElem?_zip_eq_some]; exact ⟨ho, List.getElem?_eq_getElem hjl⟩))
      refine lv_tableIn hx hb hdec (by omega) (by omega) (off := offs.toList[j]'(by rw [Array.length_toList]; omega)) ?_ (of_decide_eq_true hzz) (kt (ct + Int32.ofNat j, ts[j]) ?_ hxe H locs ls hP hD hS hl)
      · rw [show (x.toInt - lo).toNat = j by omega, ← Array.getElem?_toList]
        exact ho
      · exact List.mem_map.mpr ⟨(ts[j], j), List.mem_zipIdx_iff_getElem?.mpr (List.getElem?_eq_getElem hjl), rfl⟩
  · rename_i df ps dt ts x1 r
    cases h
    unfold wc_lnk at hlnk
    simp only [Bool.and_eq_true, decide_eq_true_eq] at hlnk
    obtain ⟨⟨h1, h2⟩, h3⟩ := hlnk
    have hnx2 := (Bool.and_eq_true _ _).mp hnx
    have hd := of_decide_eq_true hnx2.1
    have hz := List.all_eq_true.mp hnx2.2
    rcases wc_sws (pc := pc) (d := df) (x := x) (f := fun t => (wc_pc cd t : Int)) ps.toList ts h2 (fun q hq => of_decide_eq_true (List.all_eq_true.mp h3 q hq)) (fun q hq => of_decide_eq_true (hz q hq)) with ⟨q, hq, e1, e2⟩ | ⟨hq, e2⟩
    · exact lv_lookup hx hb hdec h1 rfl e2 (kt q hq e1 H locs ls hP hD hS hl)
    · exact lv_lookup hx hb hdec h1 e2 hd (kf hq H locs ls hP hD hS hl)
  · cases h
theorem wc_chq_ks {i : Nat} {P : Prop} {st st' : List wc_V} {M M' : wc_M} (h : wc_chq X cd i st M = some (P, st', M')) (hP : P) (hs : wc_okS st) : wc_okS st' := by
  have sc : ∀ {v : wc_V} {r : List wc_V}, wc_okv v = true → wc_okS r → wc_okS (v :: r) := fun {v r} hv hr w hw => by
    rcases List.mem_cons.mp hw with h1 | h1
    · subst h1; exact hv
    · exact hr w h1
  have st1 : ∀ {v : wc_V} {r : List wc_V}, wc_okS (v :: r) → wc_okS r := fun {v r} hr w hw => hr w (List.mem_cons_of_mem _ hw)
  have st0 : ∀ {v : wc_V} {r : List wc_V}, wc_okS (v :: r) → wc_okv v = true := fun {v r} hr => hr v List.mem_cons_self
  rcases hcd : cd[i]? with _ | ⟨pc, ins, len, tg, ct, cl⟩
  · unfold wc_chq at h
    rw [hcd] at h
    cases h
  unfold wc_chq at h
  rw [hcd] at h
  cases ins
  case iaload =>
    dsimp only at h
    split at h
    · split at h
      · cases h
        exact sc rfl (st1 (st1 hs))
      · split at h
        · cases h
          exact sc rfl (st1 (st1 hs))
        · cases h
      · split at h
        · cases h
          exact sc rfl (st1 (st1 hs))
        · cases h
      · cases h
    · cases h
  case baload =>
    dsimp only at h
    split at h
    · split at h
      · cases h
        exact sc rfl (st1 (st1 hs))
      · cases h
    · cases h
  case aaload =>
    dsimp only at h
    split at h
    · split at h
      · rename_i n hsh
        split at h
        · rename_i q hq
          cases h
          have h35 := wc_k35 hsh (by decide)
          refine sc (wc_rf_ok h35 (st0 (st1 hs)) hq (Or.inr ?_)) (st1 (st1 hs))
          rw [hsh]
          exact Nat.not_le.mp fun z => hP (Or.inr z)
        · cases h
      · rename_i n hsh
        split at h
        · rename_i q hq
          cases h
          have h35 := wc_k35 hsh (by decide)
          refine sc (wc_rf_ok h35 (st0 (st1 hs)) hq (Or.inr ?_)) (st1 (st1 hs))
          rw [hsh]
          exact Nat.not_le.mp fun z => hP (Or.inr z)
        · cases h
      · cases h
    · cases h
  case iastore =>
    dsimp only at h
    split at h
    · split at h
      · cases h
        exact st1 (st1 (st1 hs))
      · cases h
    · cases h
  case bastore =>
    dsimp only at h
    split at h
    · split at h
      · cases h
        exact st1 (st1 (st1 hs))
      · cases h
    · cases h
  case idiv =>
    dsimp only at h
    split at h
    · cases h
      exact sc rfl (st1 (st1 hs))
    · cases h
  case irem =>
    dsimp only at h
    split at h
    · cases h
      exact sc rfl (st1 (st1 hs))
    · cases h
  case putfield n =>
    dsimp only at h
    split at h
    · split at h
      · split at h
        · cases h
          exact st1 (st1 hs)
        · cases h
      · cases h
    · cases h
  case invokestatic n =>
    dsimp only at h
    split at h
    · split at h
      · split at h
        · cases h
          exact st1 (st1 (st1 (st1 (st1 hs))))
        · cases h
      · cases h
    · cases h
  all_goals cases h
theorem wc_chq_ok {i : Nat} {P : Prop} {L : wc_L} {st st' : List wc_V} {M M' : wc_M} (hC : wc_C p R s m args c cells slots ad cA D A X o nL dep bytes) (hg : wc_good o bytes cd) (h : wc_chq X cd i st M = some (P, st', M')) (hs : wc_okS st) (hPP : P)
    (k : wc_At p l e R s m args below meth c cells slots Q ad cA D A nL cd (i + 1) L st' M') : wc_At p l e R s m args below meth c cells slots Q ad cA D A nL cd i L st M := by
  obtain ⟨hx, hb, hml, hown, hts, hK, hTZ, hXS, hfr, hlo, hce, hsl⟩ := hC
  rcases hcd : cd[i]? with _ | ⟨pc, ins, len, tg, ct, cl⟩
  · unfold wc_chq at h
    rw [hcd] at h
    cases h
  obtain ⟨hdec, hlen, hlnk, hnx⟩ := hg i pc ins len tg ct cl hcd
  have hpc : wc_pc cd i = pc := by unfold wc_pc; rw [hcd]
  intro H locs ls hP hD hS hl
  rw [hpc]
  have st1 : ∀ {v : wc_V} {r : List wc_V}, wc_okS (v :: r) → wc_okS r := fun {v r} hr w hw => hr w (List.mem_cons_of_mem _ hw)
  have st0 : ∀ {v : wc_V} {r : List wc_V}, wc_okS (v :: r) → wc_okv v = true := fun {v r} hr => hr v List.mem_cons_self
  unfold wc_chq at h
  rw [hcd] at h
  cases ins
  case iaload =>
    dsimp only at h
    split at h
    · rename_i a1 k1 j1 r
      split at h
      · rename_i n1 hsh
        cases h
        have h35 := wc_k35 hsh (by decide)
        obtain ⟨q0, hq0, hw0⟩ := wc_plc (ad := ad) (cA := cA) (M := M) h35 (st0 (st1 hs))
        rw [wc_ent1 hsh] at hq0
        have hn : wc_pc cd (i + 1) = pc + 1 := by rw [hlen] at hnx; exact Nat.eq_of_beq_eq_true hnx
        rw [hlen] at hdec
        have k := k H locs ls hP hD hS hl
        rw [hn] at k
        exact va_iald hx hb hK hP q0 0 hq0 rfl hPP hdec k
      · rename_i n1 hsh
        split at h
        · rename_i hj
          have hj := Nat.eq_of_beq_eq_true hj
          subst hj
          cases h
          obtain ⟨h35, h38, h6⟩ : 35 ≤ k1 ∧ k1 < 38 ∧ n1 = 6 := by
            have hh : ∀ k, k < 39 → (wc_sh k).1 = 9 → 35 ≤ k ∧ k < 38 ∧ (wc_sh k).2 = 6 := by decide
            rcases Nat.lt_or_ge k1 39 with h1 | h1
            · have h2 := hh k1 h1 (by rw [hsh])
              rw [hsh] at h2
              exact h2
            · have e1 : wc_shl[k1]? = none := List.getElem?_eq_none (by show 39 ≤ k1; exact h1)
              unfold wc_sh at hsh
              rw [e1] at hsh
              cases hsh
          subst h6
          have hn : wc_pc cd (i + 1) = pc + 1 := by rw [hlen] at hnx; exact Nat.eq_of_beq_eq_true hnx
          rw [hlen] at hdec
          have k := k H locs ls hP hD hS hl
          rw [hn] at k
          obtain ⟨cell, g1, g2, g3, g4, g5, g6, g7⟩ := (hTZ k1 h35 h38).1
          have hlt : a1.toNatClampNeg < 6 := Nat.not_le.mp fun z => hPP (Or.inr z)
          have hbl : ad k1 0 < s.heap.size := (Array.getElem?_eq_some_iff.mp g1).1
          exact W.iald (v := .int (wc_st k1 a1.toNatClampNeg)) hx hb (by rw [hS.2.1 _ hbl g7]; exact g1) g2 g3 (fun z => z.elim (fun z => hPP (Or.inl z)) (fun z => absurd z (by omega))) (g6 _ hlt) rfl rfl hdec k
        · cases h
      · rename_i n1 hsh
        split at h
        · rename_i hj
          have hj := Nat.eq_of_beq_eq_true hj
          subst hj
          cases h
          have h38 : k1 = 38 := by
            have hh : ∀ k, k < 39 → (wc_sh k).1 = 10 → k = 38 := by decide
            rcases Nat.lt_or_ge k1 39 with h1 | h1
            · exact hh k1 h1 (by rw [hsh])
            · have e1 : wc_shl[k1]? = none := List.getElem?_eq_none (by show 39 ≤ k1; exact h1)
              unfold wc_sh at hsh
              rw [e1] at hsh
              cases hsh
          subst h38
          have hn : wc_pc cd (i + 1) = pc + 1 := by rw [hlen] at hnx; exact Nat.eq_of_beq_eq_true hnx
          rw [hlen] at hdec
          have k := k H locs ls hP hD hS hl
          rw [hn] at k
          have h0 : 0 < X.1 := by
            rcases Nat.eq_zero_or_pos X.1 with z | z
            · exact absurd (Or.inr (by rw [z]; exact Nat.zero_le _)) hPP
            · exact z
          obtain ⟨g1, g2, g3⟩ := hXS h0
          exact va_sld hx hb g1 g2 g3 hS hPP hdec k
        · cases h
      · cases h
    · cases h
  case baload =>
    dsimp only at h
    split at h
    · rename_i a1 k1 j1 r
      split at h
      · rename_i n1 hsh
        cases h
        have h35 := wc_k35 hsh (by decide)
        obtain ⟨q0, hq0, hw0⟩ := wc_plc (ad := ad) (cA := cA) (M := M) h35 (st0 (st1 hs))
        rw [wc_ent2 hsh] at hq0
        have hn : wc_pc cd (i + 1) = pc + 1 := by rw [hlen] at hnx; exact Nat.eq_of_beq_eq_true hnx
        rw [hlen] at hdec
        have k := k H locs ls hP hD hS hl
        rw [hn] at k
        exact va_zald hx hb hK hP q0 1 hq0 rfl hPP hdec k
      · cases h
    · cases h
  case aaload =>
    dsimp only at h
    split at h
    · rename_i a1 k1 j1 r
      split at h
      · rename_i n1 hsh
        split at h
        · rename_i q hq
          cases h
          have h35 := wc_k35 hsh (by decide)
          obtain ⟨q0, hq0, hw0⟩ := wc_plc (ad := ad) (cA := cA) (M := M) h35 (st0 (st1 hs))
          rw [wc_ent3 hsh] at hq0
          have hn : wc_pc cd (i + 1) = pc + 1 := by rw [hlen] at hnx; exact Nat.eq_of_beq_eq_true hnx
          rw [hlen] at hdec
          have k := k H locs ls hP hD hS hl
          rw [hn] at k
          refine va_aldq hx hb hK hP q0 2 hq0 rfl hPP hdec ?_
          show W p l e R s m args below meth c H locs cells slots Q (F0 m (pc + 1) ls (va_rf ((wc_rf k1 j1 a1.toNatClampNeg).map (fun r => ad r.1 r.2)) :: r.map (wc_cv ad)))
          rw [hq]
          exact k
        · cases h
      · rename_i n1 hsh
        split at h
        · rename_i q hq
          cases h
          have h35 := wc_k35 hsh (by decide)
          obtain ⟨q0, hq0, hw0⟩ := wc_plc (ad := ad) (cA := cA) (M := M) h35 (st0 (st1 hs))
          rw [wc_ent4 hsh] at hq0
          have hn : wc_pc cd (i + 1) = pc + 1 := by rw [hlen] at hnx; exact Nat.eq_of_beq_eq_true hnx
          rw [hlen] at hdec
          have k := k H locs ls hP hD hS hl
          rw [hn] at k
          refine va_aldq hx hb hK hP q0 3 hq0 rfl hPP hdec ?_
          show W p l e R s m args below meth c H locs cells slots Q (F0 m (pc + 1) ls (va_rf ((wc_rf k1 j1 a1.toNatClampNeg).map (fun r => ad r.1 r.2)) :: r.map (wc_cv ad)))
          rw [hq]
          exact k
        · cases h
      · cases h
    · cases h
  case iastore =>
    dsimp only at h
    split at h
    · rename_i v a1 k1 j1 r
      split at h
      · rename_i n1 hsh
        cases h
        have h35 := wc_k35 hsh (by decide)
        obtain ⟨q0, hq0, hw0⟩ := wc_plc (ad := ad) (cA := cA) (M := M) h35 (st0 (st1 (st1 hs)))
        rw [wc_ent1 hsh] at hq0
        have hn : wc_pc cd (i + 1) = pc + 1 := by rw [hlen] at hnx; exact Nat.eq_of_beq_eq_true hnx
        rw [hlen] at hdec
        refine va_iast hx hb hK hP hD hS q0 0 hq0 rfl hPP hdec (fun H1 locs1 hP1 hD1 hS1 => ?_)
        rw [wc_set1 hw0 hsh] at hP1 hD1
        have k := k H1 locs1 ls hP1 hD1 hS1 hl
        rw [hn] at k
        exact k
      · cases h
    · cases h
  case bastore =>
    dsimp only at h
    split at h
    · rename_i v a1 k1 j1 r
      split at h
      · rename_i n1 hsh
        cases h
        have h35 := wc_k35 hsh (by decide)
        obtain ⟨q0, hq0, hw0⟩ := wc_plc (ad := ad) (cA := cA) (M := M) h35 (st0 (st1 (st1 hs)))
        rw [wc_ent2 hsh] at hq0
        have hn : wc_pc cd (i + 1) = pc + 1 := by rw [hlen] at hnx; exact Nat.eq_of_beq_eq_true hnx
        rw [hlen] at hdec
        have hv : vp_nar .boolean v = v := by rcases hPP.2 with z | z <;> subst z <;> rfl
        refine va_zast hx hb hK hP hD hS q0 1 hq0 rfl hPP.1 hdec (fun H1 locs1 hP1 hD1 hS1 => ?_)
        rw [hv, wc_set2 hw0 hsh] at hP1 hD1
        have k := k H1 locs1 ls hP1 hD1 hS1 hl
        rw [hn] at k
        exact k
      · cases h
    · cases h
  case idiv =>
    dsimp only at h
    split at h
    · cases h
      have hn : wc_pc cd (i + 1) = pc + 1 := by rw [hlen] at hnx; exact Nat.eq_of_beq_eq_true hnx
      rw [hlen] at hdec
      have k := k H locs ls hP hD hS hl
      rw [hn] at k
      exact lv_idiv hx hb hdec hPP k
    · cases h
  case irem =>
    dsimp only at h
    split at h
    · cases h
      have hn : wc_pc cd (i + 1) = pc + 1 := by rw [hlen] at hnx; exact Nat.eq_of_beq_eq_true hnx
      rw [hlen] at hdec
      have k := k H locs ls hP hD hS hl
      rw [hn] at k
      exact lv_irem hx hb hdec hPP k
    · cases h
  case putfield n =>
    dsimp only at h
    split at h
    · rename_i c1 s1 v k1 j1 r
      split at h
      · rename_i c2 hsh
        split at h
        · rename_i hc
          simp only [Bool.and_eq_true] at hc
          have hcc := Nat.eq_of_beq_eq_true hc.1.1
          subst hcc
          have hlt := Nat.blt_eq.mp hc.1.2
          have hbo := hc.2
          have h35 := wc_k35 hsh (by decide)
          have h8 := wc_c8 hsh
          cases h
          obtain ⟨q0, hq0, hw0⟩ := wc_plc (ad := ad) (cA := cA) (M := M) h35 (hs _ (List.mem_cons_of_mem _ List.mem_cons_self))
          rw [wc_ent0 hsh] at hq0
          have hlk : Jvm.Cond.fieldLink (wc_cn o) n (wc_cn c1) (wc_F c1 s1).2.1 (wc_F c1 s1).2.2.1 ∈ wc_tw := wc_fl_ok _ (of_decide_eq_true hlnk)
          have hq : wc_rf k1 j1 s1 = none := wc_bo_rf hsh hlt hbo
          have hn : wc_pc cd (i + 1) = pc + 3 := by rw [hlen] at hnx; exact Nat.eq_of_beq_eq_true hnx
          rw [hlen] at hdec
          obtain ⟨hfi, hde⟩ := wc_pf_at hsh hlt hq
          rw [hbo] at hde
          have hv : narrow .boolean (.int v) = .int v := by rcases hPP with z | z <;> subst z <;> rfl
          exact va_put (D := D) (ci := c1) (v := .int v) (ty := .boolean) (C := wc_cn c1) (T := wc_F c1) (N := wc_nf c1) hx hb hts (wc_lay_ok h8) (wc_ty c1) (wc_ty_ok c1 h8) (wc_nm c1 h8) hown hK hP hD hS q0 hq0 (wc_cls_at h8) s1 hlt (hts _ hlk) (fun _ h9 => by rw [wc_F1 c1 h8 s1 hlt] at h9; exact h9) hfi (by rw [hde]; decide +kernel) hv (by rcases hPP with z | z <;> subst z <;> rfl) (by simpa using hlt) hdec (fun H1 locs1 hP1 hD1 hS1 => by
              rw [wc_set0 hw0 hsh hq] at hP1 hD1
              have k := k H1 locs1 ls hP1 hD1 hS1 hl
              rw [hn] at k
              exact k)
        · cases h
      · cases h
    · cases h
  case invokestatic n =>
    dsimp only at h
    split at h
    · rename_i t n1 dp k2 j2 sp k1 j1 r
      split at h
      · rename_i n2 n3 hsh hsh2
        split at h
        · rename_i hc
          simp only [Bool.and_eq_true] at hc
          have ht := Nat.eq_of_beq_eq_true hc.1
          subst ht
          have hq := wc_cat4 (ad := ad) hc.2
          cases h
          have hn : wc_pc cd (i + 1) = pc + 3 := by rw [hlen] at hnx; exact Nat.eq_of_beq_eq_true hnx
          rw [hlen] at hdec
          obtain ⟨g1, g2, g3, g4, g5⟩ := hPP
          have h35 := wc_k35 hsh (by decide)
          have h352 := wc_k35 hsh2 (by decide)
          obtain ⟨q0, hq0, hw0⟩ := wc_plc (ad := ad) (cA := cA) (M := M) h35 (st0 (st1 (st1 (st1 (st1 hs)))))
          rw [wc_ent1 hsh] at hq0
          obtain ⟨q1, hq1, hw1⟩ := wc_plc (ad := ad) (cA := cA) (M := M) h352 (st0 (st1 (st1 hs)))
          rw [wc_ent1 hsh2] at hq1
          replace hlnk : decide ((o, n, 200) ∈ wc_nt) = true := hlnk
          have hnw : nativeFrameWords "java/lang/System" "arraycopy" 5 + 11 + 8 ≤ 40 := by decide +kernel
          refine va_copyi hx hb (by rw [hml, hl.1]) hown (hts _ (wc_nt_ok _ (of_decide_eq_true hlnk))) (hts _ (wc_nat 5 rfl rfl)) (hts _ (wc_nat 4 rfl rfl)) (hts _ (wc_nat 3 rfl rfl)) hK hP hD hS q0 q1 0 0 hq0 hq1 rfl rfl rfl g1 g2 g3 g4 g5 (fun _ _ => rfl) (by omega) (by omega) hdec (fun H1 locs1 hP1 hD1 hS1 => ?_)
          rw [wc_setc hw1 hsh2] at hP1 hD1
          have k := k H1 locs1 ls hP1 hD1 hS1 hl
          rw [hn] at k
          exact k
        · cases h
      · cases h
    · cases h
  all_goals cases h
end WCB
end
section
/-! CALLS, returns, and the whole: what the engine says of a method the machine does -/
def wc_wsm (y : Nat) : List Jvm.Cond := wc_mc y :: wc_tw
def wc_rm (d : Nat) : Room := { frames := d, cells := 0, slots := 0, locals := 40 * d }
def wc_Wd (ad : wc_A) (cA : Nat → ClassId) (D : va_G) (A : Nat → Prop) (M : wc_M) (U : State) (H : Heap) : Prop :=
  va_P D wc_cls (wc_ws ad cA M) H ∧ va_K D wc_cls (wc_tys cA) U ∧ va_D A (wc_ws ad cA M) ∧ wc_TZ ad A U H
def wc_Qc (ad : wc_A) (cA : Nat → ClassId) (D : va_G) (A : Nat → Prop) (r : Option Int32) (M' : wc_M) : Array Value → State → Outcome → State → Prop := match r with
  | none => va_Qv (fun _ : Unit => True) (fun _ t => wc_Wd ad cA D A M' t t.heap) A
  | some v => va_Qi (fun (x : Int32) (_ : Unit) => x = v) (fun _ t => wc_Wd ad cA D A M' t t.heap) A
def wc_Pc (ad : wc_A) (cA : Nat → ClassId) (D : va_G) (A : Nat → Prop) (as : List wc_V) (M : wc_M) : Array Value → State → Prop := va_Pc (as.map (wc_cv ad)) (fun U => wc_Wd ad cA D A M U U.heap)
/-- what S says of methods is so on the machine, in a room of depth d -/
def wc_SS (l : Launch) (ad : wc_A) (cA : Nat → ClassId) (D : va_G) (A : Nat → Prop) (d : Nat) (S : wc_S) : Prop :=
  ∀ (y : Nat) (as : List wc_V) (M : wc_M) (r : Option Int32) (M' : wc_M), y < 155 → S y as M r M' → wc_okS as → Met l (wc_y y) (wc_wsm y) (wc_rm d) (wc_Pc ad cA D A as M) (wc_Qc ad cA D A r M') 0 0 A
theorem wc_TZ.moved {ad : wc_A} {A : Nat → Prop} {u U : State} {H : Heap} (hvm : u.vm.Alike U.vm) (h : wc_TZ ad A u H) : wc_TZ ad A U H := fun k h1 h2 => ⟨(h k h1 h2).1.moved hvm, (h k h1 h2).2.moved hvm⟩
theorem wc_TZ.kept {ad : wc_A} {A : Nat → Prop} {U : State} {H H1 : Heap} (h : wc_TZ ad A U H) (hq : ∀ a : Nat, a < H.size → ¬ A a → H1[a]? = H[a]?) : wc_TZ ad A U H1 := fun k h1 h2 => ⟨(h k h1 h2).1.kept hq, (h k h1 h2).2.kept hq⟩
theorem wc_Wd.moved {ad : wc_A} {cA : Nat → ClassId} {D : va_G} {A : Nat → Prop} {M : wc_M} {u U : State} {H : Heap} (hvm : u.vm.Alike U.vm) (h : wc_Wd ad cA D A M u H) : wc_Wd ad cA D A M U H := ⟨h.1, va_K.moved hvm h.2.1, h.2.2.1, h.2.2.2.moved hvm⟩
theorem wc_blind {ad : wc_A} {cA : Nat → ClassId} {D : va_G} {A : Nat → Prop} {as : List wc_V} {M : wc_M} : FrameBlind (wc_Pc ad cA D A as M) := fun a U g mk q => ⟨q.1, wc_Wd.moved (u := U) (U := U.calling g mk a) (Vm.Alike.refl U.vm) q.2⟩
theorem wc_tw_ok {args : Array Value} {s : State} (hts : ∀ w ∈ wc_tw, w.before args s = true) {y : Nat} (hy : y < 155) : ∀ w ∈ wc_wsm y, w.before args s = true := fun w hw => by
  rcases List.mem_cons.mp hw with h | h
  · subst h; exact hts _ (wc_mc_ok hy)
  · exact hts _ h
theorem wc_good_in {y : Nat} (hy : y < 155) : GoodIn wc_tw (wc_wsm y) := fun w hw => by
  rcases List.mem_cons.mp hw with h | h
  · subst h; exact ⟨wc_mc_ok hy, good_of_word (wc_goodw _ (wc_mc_ok hy))⟩
  · exact ⟨h, good_of_word (wc_goodw _ h)⟩
theorem wc_cv_ok {v : wc_V} {k j : Nat} (h : v = .inr (.inl (k, j))) (ad : wc_A) : wc_cv ad v = .ref (ad k j) := by rw [h]; rfl
section WCC
variable {p : Program} {l : Launch} {e : Env} {R : Room} {s : State} {m : MethodId} {args : Array Value} {below : List Frame} {meth : Method} {c : Code} {cells slots : Nat} {Q : State → Prop}
variable {ad : wc_A} {cA : Nat → ClassId} {D : va_G} {A : Nat → Prop} {X : Nat × (Nat → Int32)} {o nL dep : Nat} {bytes : ByteArray} {cd : List wc_E}
/-- behind a call -/
theorem wc_back {L : wc_L} {ls : Array Slot} {st0 : List Value} {rest : List wc_V} {i pc : Nat} {r : Option Int32} {M' : wc_M} {H : Heap} {locs : List Loc} {a : Array Value} (hn : wc_pc cd (i + 1) = pc + 3)
    (hr : va_Run p l e R s m args below meth c H locs cells slots 0 0 (F0 m pc ls st0) (rest.map (wc_cv ad)) (wc_Qc ad cA D A r M' a) A) (hS : va_S A s.heap H locs) (hl : wc_lv ad nL L ls)
    (k : wc_At p l e R s m args below meth c cells slots Q ad cA D A nL cd (i + 1) L (wc_pu r rest) M') : W p l e R s m args below meth c H locs cells slots Q (F0 m pc ls st0) := by
  cases r with
  | none =>
    refine va_callv (a := a) (post := fun _ : Unit => True) (B := fun _ t => wc_Wd ad cA D A M' t t.heap) (A1 := A) hr hS (fun q _ h => h) (fun q h => h) (fun u t H1 locs1 ht hvm hw hB hz hk hS1 => ?_)
    rw [ht] at hB
    have k := k H1 locs1 ls hB.1 hB.2.2.1 hS1 hl
    rw [hn] at k
    exact k
  | some v =>
    refine va_calli (a := a) (post := fun (x : Int32) (_ : Unit) => x = v) (B := fun _ t => wc_Wd ad cA D A M' t t.heap) (A1 := A) hr hS (fun q _ h => h) (fun q h => h) (fun x u t H1 locs1 ht hvm hw hB hz hk hS1 => ?_)
    rw [ht] at hB
    have k := k H1 locs1 ls hB.1 hB.2.2.1 hS1 hl
    rw [hn] at k
    rw [hw]
    exact k
theorem wc_caq_ok {i y : Nat} {as rest : List wc_V} {r : Option Int32} {L : wc_L} {st : List wc_V} {M M' : wc_M} {S : wc_S} (hC : wc_C p R s m args c cells slots ad cA D A X o nL dep bytes) (hg : wc_good o bytes cd) (hSS : wc_SS l ad cA D A dep S) (h : wc_caq cd i st = some (y, as, rest)) (hs : wc_okS st) (hM : S y as M r M')
    (k : wc_At p l e R s m args below meth c cells slots Q ad cA D A nL cd (i + 1) L (wc_pu r rest) M') : wc_At p l e R s m args below meth c cells slots Q ad cA D A nL cd i L st M := by
  obtain ⟨hx, hb, hml, hown, hts, hK, hTZ, hXS, hfr, hlo, hce, hsl⟩ := hC
  rcases hcd : cd[i]? with _ | ⟨pc, ins, len, tg, ct, cl⟩
  · unfold wc_caq at h
    rw [hcd] at h
    cases h
  obtain ⟨hdec, hlen, hlnk, hnx⟩ := hg i pc ins len tg ct cl hcd
  have hpc : wc_pc cd i = pc := by unfold wc_pc; rw [hcd]
  intro H locs ls hP hD hS hl
  rw [hpc]
  have hTZH : wc_TZ ad A s H := hTZ.kept hS.2.1
  have hpre : ∀ U : State, U.heap = H → s.WarmedH U.vm → wc_Wd ad cA D A M U U.heap := fun U hU hW => by
    rw [hU]
    exact wc_Wd.moved hW.alike ⟨hP, hK, hD, hTZH⟩
  have tk : ∀ n, wc_okS (st.take n).reverse := fun n v hv => hs v (List.mem_of_mem_take (List.mem_reverse.mp hv))
  have hrv : ∀ n, ((st.take n).reverse.map (wc_cv ad)).reverse ++ (st.drop n).map (wc_cv ad) = st.map (wc_cv ad) := fun n => by
    rw [List.map_reverse, List.reverse_reverse, ← List.map_append, List.take_append_drop]
  unfold wc_caq at h
  rw [hcd] at h
  dsimp only at h
  split at h
  · rename_i idx y1
    split at h
    · rename_i hc
      simp only [Bool.and_eq_true] at hc
      obtain ⟨⟨⟨hy, hst⟩, hn⟩, h4⟩ := hc
      have hy := Nat.blt_eq.mp hy
      have hn := Nat.ble_eq.mp hn
      cases h
      obtain ⟨hm1, hm2⟩ := wc_m_cls y hy
      obtain ⟨hm3, hm4, hm5⟩ := wc_m_name y hy
      have hnn : wc_pc cd (i + 1) = pc + 3 := by rw [hlen] at hnx; exact Nat.eq_of_beq_eq_true hnx
      rw [hlen] at hdec
      replace hlnk : (if Nat.blt y 155 then decide ((o, idx, y) ∈ wc_ml) && Nat.beq o (wc_m y).1 else decide ((o, idx, y) ∈ wc_nt)) = true := hlnk
      rw [if_pos (Nat.blt_eq.mpr hy), Bool.and_eq_true, decide_eq_true_eq] at hlnk
      have ho := Nat.eq_of_beq_eq_true hlnk.2
      have hcode := hts _ (wc_mc_ok hy)
      have hstat : (Jvm.Cond.static (wc_y y)).before args s = true := by
        have h1 := hts _ (wc_mk_ok hy)
        unfold wc_mk at h1
        rw [if_pos hst] at h1
        exact h1
      have hini : (Jvm.Cond.initialized (wc_y y).cls).before args s = true := hts _ (wc_in_ok hm1)
      have cw : CallB R s args (wc_cn o) idx (wc_y y) (wc_b y) (wc_m y).2.2.2.2.1 (wc_m y).2.2.2.2.2.1 (wc_wsm y) (wc_rm dep) 0 0 (wc_m y).2.2.2.2.2.2 :=
        callB_of _ hts (wc_good_in hy) rfl rfl rfl hini (hts _ (wc_ml_ok _ hlnk.1)) ⟨hm4.1, hm4.2, hm5⟩ ⟨hfr, by show 8 + ((wc_m y).2.2.2.2.1 + 11) + 40 * dep ≤ R.locals; omega⟩
      refine wc_back hnn (va_runS (As := (st.take (wc_m y).2.2.2.2.2.2).reverse.map (wc_cv ad)) (n := (wc_m y).2.2.2.2.2.2) ⟨hx, hb, hml, hown, hts⟩ (hSS y _ M r M' hy hM (tk _)) ⟨cw, hstat⟩ ⟨wc_blind, fun U hU hW => ⟨rfl, hpre U hU hW⟩⟩ rfl (by simp; omega) hl.1 (hrv _).symm (lv_room (wc_cat4 h4)) hdec ⟨hce, hsl⟩) hS hl k
    · cases h
  · rename_i idx y1
    split at h
    · rename_i hc
      simp only [Bool.and_eq_true, Bool.not_eq_true'] at hc
      obtain ⟨⟨⟨hy, hst⟩, hn⟩, h4⟩ := hc
      have hy := Nat.blt_eq.mp hy
      have hn := Nat.ble_eq.mp hn
      split at h
      · rename_i k1 j1 as1 has
        split at h
        · rename_i c1 hsh
          split at h
          · rename_i hcc
            have hcc := Nat.eq_of_beq_eq_true hcc
            cases h
            obtain ⟨hm1, hm2⟩ := wc_m_cls y hy
            obtain ⟨hm3, hm4, hm5⟩ := wc_m_name y hy
            have hnn : wc_pc cd (i + 1) = pc + 3 := by rw [hlen] at hnx; exact Nat.eq_of_beq_eq_true hnx
            rw [hlen] at hdec
            have hlnk : (o, idx, y) ∈ wc_ml := of_decide_eq_true hlnk
            have hcode := hts _ (wc_mc_ok hy)
            have hinst : (Jvm.Cond.instanceMethod (wc_y y)).before args s = true := by
              have h1 := hts _ (wc_mk_ok hy)
              unfold wc_mk at h1
              rw [if_neg (by rw [hst]; decide)] at h1
              exact h1
            have hini : (Jvm.Cond.initialized (wc_y y).cls).before args s = true := hts _ (wc_in_ok hm1)
            have cw : CallB R s args (wc_cn o) idx (wc_y y) (wc_b y) (wc_m y).2.2.2.2.1 (wc_m y).2.2.2.2.2.1 (wc_wsm y) (wc_rm dep) 0 0 (wc_m y).2.2.2.2.2.2 :=
              callB_of _ hts (wc_good_in hy) rfl rfl rfl hini (hts _ (wc_ml_ok _ hlnk)) ⟨hm4.1, hm4.2, hm5⟩ ⟨hfr, by show 8 + ((wc_m y).2.2.2.2.1 + 11) + 40 * dep ≤ R.locals; omega⟩
            have hok := tk ((wc_m y).2.2.2.2.2.2 + 1)
            rw [has] at hok
            have h35 := wc_k35 hsh (by decide)
            obtain ⟨q0, hq0, hw0⟩ := wc_plc (ad := ad) (cA := cA) (M := M) h35 (hok _ List.mem_cons_self)
            rw [wc_ent0 hsh] at hq0
            have hrec : ∃ cellB : Cell, H[ad k1 j1]? = some cellB ∧ cellB.vm.isStatics = false ∧ s.vm.findClass (wc_y y).cls = some cellB.cls := by
              have h9 := va_recv hK hP (wc_cls_at (wc_c8 hsh)) hq0
              rw [hcc] at h9
              exact h9
            have hstk : st.map (wc_cv ad) = (as1.map (wc_cv ad)).reverse ++ Value.ref (ad k1 j1) :: (st.drop ((wc_m y).2.2.2.2.2.2 + 1)).map (wc_cv ad) := by
              rw [← hrv ((wc_m y).2.2.2.2.2.2 + 1), has]
              simp [wc_cv]
            have hlen1 : as1.length = (wc_m y).2.2.2.2.2.2 := by
              have h9 := congrArg List.length has
              simp at h9
              omega
            refine wc_back hnn (va_runV (As := as1.map (wc_cv ad)) (b := ad k1 j1) (C := (wc_y y).cls) (n := (wc_m y).2.2.2.2.2.2) ⟨hx, hb, hml, hown, hts⟩ (hSS y _ M r M' hy hM hok) ⟨cw, hinst, hts _ (wc_ms_ok hy hst)⟩ ⟨wc_blind, hrec, fun U hU hW => ⟨rfl, hpre U hU hW⟩⟩ rfl (by simp; omega) hl.1 hstk (lv_room (wc_cat4 h4)) hdec ⟨hce, hsl⟩) hS hl k
          · cases h
        · cases h
      · cases h
    · cases h
  · cases h
theorem wc_caq_ks {i y : Nat} {as rest st : List wc_V} (r : Option Int32) (h : wc_caq cd i st = some (y, as, rest)) (hs : wc_okS st) : wc_okS (wc_pu r rest) := by
  have dr : ∀ n, wc_okS (wc_pu r (st.drop n)) := fun n v hv => by
    cases r with
    | none => exact hs v (List.mem_of_mem_drop hv)
    | some x =>
      rcases List.mem_cons.mp hv with h1 | h1
      · subst h1; rfl
      · exact hs v (List.mem_of_mem_drop h1)
  rcases hcd : cd[i]? with _ | ⟨pc, ins, len, tg, ct, cl⟩
  · unfold wc_caq at h
    rw [hcd] at h
    cases h
  unfold wc_caq at h
  rw [hcd] at h
  dsimp only at h
  split at h
  · split at h
    · cases h; exact dr _
    · cases h
  · split at h
    · split at h
      · split at h
        · split at h
          · cases h; exact dr _
          · cases h
        · cases h
      · cases h
    · cases h
  · cases h
/-- the engine's steps are the machine's, to the method's end -/
theorem wc_G_ok {S : wc_S} {zr : Option FieldType} {K : Option Int32 → wc_M → Prop} (hC : wc_C p R s m args c cells slots ad cA D A X o nL dep bytes) (hg : wc_good o bytes cd) (hSS : wc_SS l ad cA D A dep S)
    (hend : ∀ (i : Nat) (L : wc_L) (st : List wc_V) (M : wc_M) (P : Prop) (r : Option Int32), wc_req zr cd i st = some (P, r) → P → K r M → wc_At p l e R s m args below meth c cells slots Q ad cA D A nL cd i L st M) :
    ∀ (n i : Nat) (L : wc_L) (st : List wc_V) (M : wc_M), wc_G S X zr cd n i L st M K → wc_okL L → wc_okS st → wc_At p l e R s m args below meth c cells slots Q ad cA D A nL cd i L st M
  | 0, _, _, _, _, h, _, _ => h.elim
  | n + 1, i, L, st, M, h, hL, hs => by
    rcases h with ⟨i', L', st', M', h1, h2⟩ | ⟨P, t, f, st', h1, h2, h3⟩ | ⟨P, st', M', h1, h2, h3⟩ | ⟨y, as, rest, r, M', h1, h2, h3⟩ | ⟨x, cs, d, st', h1, h2, h3⟩ | ⟨P, r, h1, h2, h3⟩
    · obtain ⟨k1, k2⟩ := wc_stp_ks hg h1 hL hs
      exact wc_stp_ok hC hg h1 hL hs (wc_G_ok hC hg hSS hend n _ _ _ _ h2 k1 k2)
    · have k2 := wc_brq_ks h1 hs
      exact wc_brq_ok hC hg h1 (fun z => wc_G_ok hC hg hSS hend n _ _ _ _ (h2 z) hL k2) (fun z => wc_G_ok hC hg hSS hend n _ _ _ _ (h3 z) hL k2)
    · exact wc_chq_ok hC hg h1 hs h2 (wc_G_ok hC hg hSS hend n _ _ _ _ h3 hL (wc_chq_ks h1 h2 hs))
    · exact wc_caq_ok hC hg hSS h1 hs h2 (wc_G_ok hC hg hSS hend n _ _ _ _ h3 hL (wc_caq_ks r h1 hs))
    · have k2 := wc_swq_ks h1 hs
      exact wc_swq_ok hC hg h1 (fun q hq z => wc_G_ok hC hg hSS hend n _ _ _ _ (h2 q hq z) hL k2) (fun z => wc_G_ok hC hg hSS hend n _ _ _ _ (h3 z) hL k2)
    · exact hend i L st M P r h1 h2 h3
end WCC
end
section
/-! THE CODES of the methods, row by row; each is checked against the bytes: written by wip/whole/gen/emit11.py -/
/-- WindCarver.row -/
def wk_0 : List wc_E := [
  (0, .iload_n 1, 1, [], 0, 0),
  (1, .bipush 7, 2, [], 7, 0),
  (3, .invokestatic 66, 3, [32], 0, 0),
  (6, .ifCond .eq 17, 3, [11], 0, 0),
  (9, .iload_n 2, 1, [], 0, 0),
  (10, .iconst 2, 1, [], 2, 0),
  (11, .invokestatic 66, 3, [32], 0, 0),
  (14, .ifCond .eq 9, 3, [11], 0, 0),
  (17, .iload_n 3, 1, [], 0, 0),
  (18, .bipush 40, 2, [], 40, 0),
  (20, .if_icmp .le 6, 3, [13], 0, 0),
  (23, .ldc 70, 2, [], (-1000001), 0),
  (25, .ireturn, 1, [], 0, 0),
  (26, .iload_n 3, 1, [], 0, 0),
  (27, .ifCond .ge 9, 3, [19], 0, 0),
  (30, .aload_n 0, 1, [], 0, 0),
  (31, .iconst 4, 1, [], 4, 0),
  (32, .invokevirtual 71, 3, [37], 0, 0),
  (35, .ireturn, 1, [], 0, 0),
  (36, .aload_n 0, 1, [], 0, 0),
  (37, .getfield 11, 3, [0, 0], 0, 0),
  (40, .iload_n 1, 1, [], 0, 0),
  (41, .aaload, 1, [], 0, 0),
  (42, .iload_n 2, 1, [], 0, 0),
  (43, .iload_n 3, 1, [], 0, 0),
  (44, .invokevirtual 75, 3, [52], 0, 0),
  (47, .aload_n 0, 1, [], 0, 0),
  (48, .iload_n 3, 1, [], 0, 0),
  (49, .invokevirtual 79, 3, [38], 0, 0),
  (52, .ireturn, 1, [], 0, 0)]
/-- WindCarver.set -/
def wk_1 : List wc_E := [
  (0, .iload_n 1, 1, [], 0, 0),
  (1, .bipush 7, 2, [], 7, 0),
  (3, .invokestatic 66, 3, [32], 0, 0),
  (6, .ifCond .ne 6, 3, [6], 0, 0),
  (9, .ldc 70, 2, [], (-1000001), 0),
  (11, .ireturn, 1, [], 0, 0),
  (12, .aload_n 0, 1, [], 0, 0),
  (13, .iload_n 1, 1, [], 0, 0),
  (14, .iload_n 2, 1, [], 0, 0),
  (15, .iconst 1, 1, [], 1, 0),
  (16, .invokevirtual 82, 3, [39], 0, 0),
  (19, .istore 4, 2, [], 0, 0),
  (21, .iload 4, 2, [], 0, 0),
  (23, .ifCond .eq 10, 3, [18], 0, 0),
  (26, .aload_n 0, 1, [], 0, 0),
  (27, .iload 4, 2, [], 0, 0),
  (29, .invokevirtual 71, 3, [37], 0, 0),
  (32, .ireturn, 1, [], 0, 0),
  (33, .aload_n 0, 1, [], 0, 0),
  (34, .getfield 11, 3, [0, 0], 0, 0),
  (37, .iload_n 1, 1, [], 0, 0),
  (38, .aaload, 1, [], 0, 0),
  (39, .iload_n 3, 1, [], 0, 0),
  (40, .invokevirtual 86, 3, [54], 0, 0),
  (43, .istore 5, 2, [], 0, 0),
  (45, .aload_n 0, 1, [], 0, 0),
  (46, .getfield 11, 3, [0, 0], 0, 0),
  (49, .iload_n 1, 1, [], 0, 0),
  (50, .aaload, 1, [], 0, 0),
  (51, .getfield 89, 3, [1, 0], 0, 0),
  (54, .iload_n 2, 1, [], 0, 0),
  (55, .iload 5, 2, [], 0, 0),
  (57, .iastore, 1, [], 0, 0),
  (58, .aload_n 0, 1, [], 0, 0),
  (59, .iload 5, 2, [], 0, 0),
  (61, .invokevirtual 79, 3, [38], 0, 0),
  (64, .ireturn, 1, [], 0, 0)]
/-- WindCarver.copy -/
def wk_2 : List wc_E := [
  (0, .iload_n 1, 1, [], 0, 0),
  (1, .bipush 7, 2, [], 7, 0),
  (3, .invokestatic 66, 3, [32], 0, 0),
  (6, .ifCond .eq 12, 3, [8], 0, 0),
  (9, .iload_n 3, 1, [], 0, 0),
  (10, .bipush 7, 2, [], 7, 0),
  (12, .invokestatic 66, 3, [32], 0, 0),
  (15, .ifCond .ne 6, 3, [10], 0, 0),
  (18, .ldc 70, 2, [], (-1000001), 0),
  (20, .ireturn, 1, [], 0, 0),
  (21, .aload_n 0, 1, [], 0, 0),
  (22, .getfield 11, 3, [0, 0], 0, 0),
  (25, .iload_n 1, 1, [], 0, 0),
  (26, .aaload, 1, [], 0, 0),
  (27, .astore 6, 2, [], 0, 0),
  (29, .aload_n 0, 1, [], 0, 0),
  (30, .getfield 11, 3, [0, 0], 0, 0),
  (33, .iload_n 3, 1, [], 0, 0),
  (34, .aaload, 1, [], 0, 0),
  (35, .astore 7, 2, [], 0, 0),
  (37, .aload 6, 2, [], 0, 0),
  (39, .getfield 92, 3, [1, 1], 0, 0),
  (42, .ifCond .eq 11, 3, [26], 0, 0),
  (45, .aload 7, 2, [], 0, 0),
  (47, .getfield 92, 3, [1, 1], 0, 0),
  (50, .ifCond .ne 9, 3, [30], 0, 0),
  (53, .aload_n 0, 1, [], 0, 0),
  (54, .iconst 1, 1, [], 1, 0),
  (55, .invokevirtual 71, 3, [37], 0, 0),
  (58, .ireturn, 1, [], 0, 0),
  (59, .aload 6, 2, [], 0, 0),
  (61, .getfield 96, 3, [1, 2], 0, 0),
  (64, .aload 7, 2, [], 0, 0),
  (66, .getfield 96, 3, [1, 2], 0, 0),
  (69, .if_icmp .eq 9, 3, [39], 0, 0),
  (72, .aload_n 0, 1, [], 0, 0),
  (73, .iconst 5, 1, [], 5, 0),
  (74, .invokevirtual 71, 3, [37], 0, 0),
  (77, .ireturn, 1, [], 0, 0),
  (78, .aload 6, 2, [], 0, 0),
  (80, .iload_n 2, 1, [], 0, 0),
  (81, .iload 5, 2, [], 0, 0),
  (83, .invokevirtual 99, 3, [53], 0, 0),
  (86, .ifCond .eq 15, 3, [49], 0, 0),
  (89, .aload 7, 2, [], 0, 0),
  (91, .iload 4, 2, [], 0, 0),
  (93, .iload 5, 2, [], 0, 0),
  (95, .invokevirtual 99, 3, [53], 0, 0),
  (98, .ifCond .ne 9, 3, [53], 0, 0),
  (101, .aload_n 0, 1, [], 0, 0),
  (102, .iconst 2, 1, [], 2, 0),
  (103, .invokevirtual 71, 3, [37], 0, 0),
  (106, .ireturn, 1, [], 0, 0),
  (107, .aload 6, 2, [], 0, 0),
  (109, .getfield 89, 3, [1, 0], 0, 0),
  (112, .iload_n 2, 1, [], 0, 0),
  (113, .aload 7, 2, [], 0, 0),
  (115, .getfield 89, 3, [1, 0], 0, 0),
  (118, .iload 4, 2, [], 0, 0),
  (120, .iload 5, 2, [], 0, 0),
  (122, .invokestatic 102, 3, [200], 0, 0),
  (125, .aload_n 0, 1, [], 0, 0),
  (126, .iload 5, 2, [], 0, 0),
  (128, .invokevirtual 79, 3, [38], 0, 0),
  (131, .ireturn, 1, [], 0, 0)]
/-- WindCarver.drop -/
def wk_3 : List wc_E := [
  (0, .iload_n 1, 1, [], 0, 0),
  (1, .bipush 7, 2, [], 7, 0),
  (3, .invokestatic 66, 3, [32], 0, 0),
  (6, .ifCond .ne 6, 3, [6], 0, 0),
  (9, .ldc 70, 2, [], (-1000001), 0),
  (11, .ireturn, 1, [], 0, 0),
  (12, .aload_n 0, 1, [], 0, 0),
  (13, .getfield 11, 3, [0, 0], 0, 0),
  (16, .iload_n 1, 1, [], 0, 0),
  (17, .aaload, 1, [], 0, 0),
  (18, .getfield 92, 3, [1, 1], 0, 0),
  (21, .ifCond .ne 9, 3, [16], 0, 0),
  (24, .aload_n 0, 1, [], 0, 0),
  (25, .iconst 1, 1, [], 1, 0),
  (26, .invokevirtual 71, 3, [37], 0, 0),
  (29, .ireturn, 1, [], 0, 0),
  (30, .aload_n 0, 1, [], 0, 0),
  (31, .getfield 11, 3, [0, 0], 0, 0),
  (34, .iload_n 1, 1, [], 0, 0),
  (35, .aaload, 1, [], 0, 0),
  (36, .iconst 0, 1, [], 0, 0),
  (37, .putfield 92, 3, [1, 1], 0, 0),
  (40, .aload_n 0, 1, [], 0, 0),
  (41, .aload_n 0, 1, [], 0, 0),
  (42, .getfield 11, 3, [0, 0], 0, 0),
  (45, .iload_n 1, 1, [], 0, 0),
  (46, .aaload, 1, [], 0, 0),
  (47, .getfield 108, 3, [1, 3], 0, 0),
  (50, .invokevirtual 79, 3, [38], 0, 0),
  (53, .ireturn, 1, [], 0, 0)]
/-- WindCarver.feed -/
def wk_4 : List wc_E := [
  (0, .iload_n 1, 1, [], 0, 0),
  (1, .sipush 255, 3, [], 255, 0),
  (4, .invokestatic 66, 3, [32], 0, 0),
  (7, .ifCond .ne 6, 3, [6], 0, 0),
  (10, .ldc 70, 2, [], (-1000001), 0),
  (12, .ireturn, 1, [], 0, 0),
  (13, .aload_n 0, 1, [], 0, 0),
  (14, .getfield 18, 3, [0, 1], 0, 0),
  (17, .iload_n 1, 1, [], 0, 0),
  (18, .invokevirtual 111, 3, [55], 0, 0),
  (21, .ifCond .eq 13, 3, [15], 0, 0),
  (24, .aload_n 0, 1, [], 0, 0),
  (25, .getfield 18, 3, [0, 1], 0, 0),
  (28, .getfield 115, 3, [2, 1], 0, 0),
  (31, .goto 5, 3, [16], 0, 0),
  (34, .ldc 116, 2, [], (-1000003), 0),
  (36, .ireturn, 1, [], 0, 0)]
/-- WindCarver.pass -/
def wk_5 : List wc_E := [
  (0, .aload_n 0, 1, [], 0, 0),
  (1, .getfield 18, 3, [0, 1], 0, 0),
  (4, .aload_n 0, 1, [], 0, 0),
  (5, .getfield 29, 3, [0, 3], 0, 0),
  (8, .invokevirtual 117, 3, [56], 0, 0),
  (11, .istore_n 1, 1, [], 0, 0),
  (12, .aload_n 0, 1, [], 0, 0),
  (13, .getfield 18, 3, [0, 1], 0, 0),
  (16, .iconst 0, 1, [], 0, 0),
  (17, .putfield 115, 3, [2, 1], 0, 0),
  (20, .iload_n 1, 1, [], 0, 0),
  (21, .ifCond .ne 14, 3, [18], 0, 0),
  (24, .ldc 121, 2, [], (-1000100), 0),
  (26, .aload_n 0, 1, [], 0, 0),
  (27, .getfield 18, 3, [0, 1], 0, 0),
  (30, .getfield 122, 3, [2, 3], 0, 0),
  (33, .isub, 1, [], 0, 0),
  (34, .ireturn, 1, [], 0, 0),
  (35, .aload_n 0, 1, [], 0, 0),
  (36, .getfield 25, 3, [0, 2], 0, 0),
  (39, .aload_n 0, 1, [], 0, 0),
  (40, .getfield 29, 3, [0, 3], 0, 0),
  (43, .invokevirtual 125, 3, [65], 0, 0),
  (46, .aload_n 0, 1, [], 0, 0),
  (47, .getfield 46, 3, [0, 6], 0, 0),
  (50, .iconst 0, 1, [], 0, 0),
  (51, .putfield 129, 3, [5, 2], 0, 0),
  (54, .aload_n 0, 1, [], 0, 0),
  (55, .getfield 25, 3, [0, 2], 0, 0),
  (58, .invokevirtual 132, 3, [70], 0, 0),
  (61, .ireturn, 1, [], 0, 0)]
/-- WindCarver.fault -/
def wk_6 : List wc_E := [
  (0, .aload_n 0, 1, [], 0, 0),
  (1, .getfield 18, 3, [0, 1], 0, 0),
  (4, .getfield 136, 3, [2, 2], 0, 0),
  (7, .ireturn, 1, [], 0, 0)]
/-- WindCarver.setUp -/
def wk_7 : List wc_E := [
  (0, .aload_n 0, 1, [], 0, 0),
  (1, .getfield 25, 3, [0, 2], 0, 0),
  (4, .getfield 139, 3, [3, 5], 0, 0),
  (7, .ifCond .ne 6, 3, [6], 0, 0),
  (10, .ldc 140, 2, [], (-1000002), 0),
  (12, .ireturn, 1, [], 0, 0),
  (13, .iload_n 1, 1, [], 0, 0),
  (14, .invokestatic 141, 3, [33], 0, 0),
  (17, .ifCond .eq 19, 3, [16], 0, 0),
  (20, .iload_n 2, 1, [], 0, 0),
  (21, .invokestatic 144, 3, [35], 0, 0),
  (24, .ifCond .eq 12, 3, [16], 0, 0),
  (27, .iload_n 3, 1, [], 0, 0),
  (28, .bipush 99, 2, [], 99, 0),
  (30, .invokestatic 66, 3, [32], 0, 0),
  (33, .ifCond .ne 6, 3, [18], 0, 0),
  (36, .ldc 70, 2, [], (-1000001), 0),
  (38, .ireturn, 1, [], 0, 0),
  (39, .aload_n 0, 1, [], 0, 0),
  (40, .getfield 25, 3, [0, 2], 0, 0),
  (43, .iload_n 1, 1, [], 0, 0),
  (44, .invokevirtual 147, 3, [69], 0, 0),
  (47, .ifCond .eq 6, 3, [25], 0, 0),
  (50, .ldc 140, 2, [], (-1000002), 0),
  (52, .ireturn, 1, [], 0, 0),
  (53, .aload_n 0, 1, [], 0, 0),
  (54, .getfield 25, 3, [0, 2], 0, 0),
  (57, .invokevirtual 132, 3, [70], 0, 0),
  (60, .bipush 6, 2, [], 6, 0),
  (62, .if_icmp .lt 6, 3, [32], 0, 0),
  (65, .ldc 116, 2, [], (-1000003), 0),
  (67, .ireturn, 1, [], 0, 0),
  (68, .aload_n 0, 1, [], 0, 0),
  (69, .getfield 46, 3, [0, 6], 0, 0),
  (72, .aload_n 0, 1, [], 0, 0),
  (73, .getfield 25, 3, [0, 2], 0, 0),
  (76, .invokevirtual 150, 3, [79], 0, 0),
  (79, .aload_n 0, 1, [], 0, 0),
  (80, .getfield 25, 3, [0, 2], 0, 0),
  (83, .iload_n 1, 1, [], 0, 0),
  (84, .iload_n 2, 1, [], 0, 0),
  (85, .iload_n 3, 1, [], 0, 0),
  (86, .invokevirtual 153, 3, [67], 0, 0),
  (89, .aload_n 0, 1, [], 0, 0),
  (90, .getfield 25, 3, [0, 2], 0, 0),
  (93, .invokevirtual 132, 3, [70], 0, 0),
  (96, .ireturn, 1, [], 0, 0)]
/-- WindCarver.take -/
def wk_8 : List wc_E := [
  (0, .aload_n 0, 1, [], 0, 0),
  (1, .getfield 25, 3, [0, 2], 0, 0),
  (4, .getfield 139, 3, [3, 5], 0, 0),
  (7, .ifCond .ne 6, 3, [6], 0, 0),
  (10, .ldc 140, 2, [], (-1000002), 0),
  (12, .ireturn, 1, [], 0, 0),
  (13, .iload_n 1, 1, [], 0, 0),
  (14, .invokestatic 141, 3, [33], 0, 0),
  (17, .ifCond .ne 6, 3, [11], 0, 0),
  (20, .ldc 70, 2, [], (-1000001), 0),
  (22, .ireturn, 1, [], 0, 0),
  (23, .aload_n 0, 1, [], 0, 0),
  (24, .getfield 25, 3, [0, 2], 0, 0),
  (27, .iload_n 1, 1, [], 0, 0),
  (28, .invokevirtual 147, 3, [69], 0, 0),
  (31, .ifCond .ne 6, 3, [18], 0, 0),
  (34, .ldc 140, 2, [], (-1000002), 0),
  (36, .ireturn, 1, [], 0, 0),
  (37, .aload_n 0, 1, [], 0, 0),
  (38, .getfield 46, 3, [0, 6], 0, 0),
  (41, .aload_n 0, 1, [], 0, 0),
  (42, .getfield 25, 3, [0, 2], 0, 0),
  (45, .invokevirtual 150, 3, [79], 0, 0),
  (48, .aload_n 0, 1, [], 0, 0),
  (49, .getfield 25, 3, [0, 2], 0, 0),
  (52, .iload_n 1, 1, [], 0, 0),
  (53, .invokevirtual 157, 3, [68], 0, 0),
  (56, .aload_n 0, 1, [], 0, 0),
  (57, .getfield 25, 3, [0, 2], 0, 0),
  (60, .invokevirtual 132, 3, [70], 0, 0),
  (63, .ireturn, 1, [], 0, 0)]
/-- WindCarver.turn -/
def wk_9 : List wc_E := [
  (0, .aload_n 0, 1, [], 0, 0),
  (1, .getfield 25, 3, [0, 2], 0, 0),
  (4, .getfield 139, 3, [3, 5], 0, 0),
  (7, .ifCond .ne 6, 3, [6], 0, 0),
  (10, .ldc 140, 2, [], (-1000002), 0),
  (12, .ireturn, 1, [], 0, 0),
  (13, .iload_n 1, 1, [], 0, 0),
  (14, .invokestatic 141, 3, [33], 0, 0),
  (17, .ifCond .ne 6, 3, [11], 0, 0),
  (20, .ldc 70, 2, [], (-1000001), 0),
  (22, .ireturn, 1, [], 0, 0),
  (23, .aload_n 0, 1, [], 0, 0),
  (24, .getfield 25, 3, [0, 2], 0, 0),
  (27, .getfield 161, 3, [3, 2], 0, 0),
  (30, .iload_n 1, 1, [], 0, 0),
  (31, .iaload, 1, [], 0, 0),
  (32, .iconst 3, 1, [], 3, 0),
  (33, .if_icmp .eq 6, 3, [20], 0, 0),
  (36, .ldc 140, 2, [], (-1000002), 0),
  (38, .ireturn, 1, [], 0, 0),
  (39, .aload_n 0, 1, [], 0, 0),
  (40, .getfield 46, 3, [0, 6], 0, 0),
  (43, .aload_n 0, 1, [], 0, 0),
  (44, .getfield 25, 3, [0, 2], 0, 0),
  (47, .invokevirtual 150, 3, [79], 0, 0),
  (50, .aload_n 0, 1, [], 0, 0),
  (51, .getfield 25, 3, [0, 2], 0, 0),
  (54, .getfield 164, 3, [3, 4], 0, 0),
  (57, .iload_n 1, 1, [], 0, 0),
  (58, .iconst 1, 1, [], 1, 0),
  (59, .aload_n 0, 1, [], 0, 0),
  (60, .getfield 25, 3, [0, 2], 0, 0),
  (63, .getfield 164, 3, [3, 4], 0, 0),
  (66, .iload_n 1, 1, [], 0, 0),
  (67, .iaload, 1, [], 0, 0),
  (68, .isub, 1, [], 0, 0),
  (69, .iastore, 1, [], 0, 0),
  (70, .aload_n 0, 1, [], 0, 0),
  (71, .getfield 25, 3, [0, 2], 0, 0),
  (74, .getfield 164, 3, [3, 4], 0, 0),
  (77, .iload_n 1, 1, [], 0, 0),
  (78, .iaload, 1, [], 0, 0),
  (79, .ireturn, 1, [], 0, 0)]
/-- WindCarver.gust -/
def wk_10 : List wc_E := [
  (0, .aload_n 0, 1, [], 0, 0),
  (1, .getfield 25, 3, [0, 2], 0, 0),
  (4, .getfield 139, 3, [3, 5], 0, 0),
  (7, .ifCond .ne 6, 3, [6], 0, 0),
  (10, .ldc 140, 2, [], (-1000002), 0),
  (12, .ireturn, 1, [], 0, 0),
  (13, .iload_n 1, 1, [], 0, 0),
  (14, .invokestatic 167, 3, [34], 0, 0),
  (17, .ifCond .eq 12, 3, [13], 0, 0),
  (20, .iload_n 2, 1, [], 0, 0),
  (21, .bipush 31, 2, [], 31, 0),
  (23, .invokestatic 66, 3, [32], 0, 0),
  (26, .ifCond .ne 6, 3, [15], 0, 0),
  (29, .ldc 70, 2, [], (-1000001), 0),
  (31, .ireturn, 1, [], 0, 0),
  (32, .aload_n 0, 1, [], 0, 0),
  (33, .getfield 25, 3, [0, 2], 0, 0),
  (36, .getfield 170, 3, [3, 0], 0, 0),
  (39, .iload_n 1, 1, [], 0, 0),
  (40, .iaload, 1, [], 0, 0),
  (41, .istore_n 3, 1, [], 0, 0),
  (42, .aload_n 0, 1, [], 0, 0),
  (43, .getfield 46, 3, [0, 6], 0, 0),
  (46, .aload_n 0, 1, [], 0, 0),
  (47, .getfield 25, 3, [0, 2], 0, 0),
  (50, .invokevirtual 150, 3, [79], 0, 0),
  (53, .aload_n 0, 1, [], 0, 0),
  (54, .getfield 25, 3, [0, 2], 0, 0),
  (57, .getfield 170, 3, [3, 0], 0, 0),
  (60, .iload_n 1, 1, [], 0, 0),
  (61, .iload_n 2, 1, [], 0, 0),
  (62, .iastore, 1, [], 0, 0),
  (63, .iload_n 3, 1, [], 0, 0),
  (64, .ireturn, 1, [], 0, 0)]
/-- WindCarver.hours -/
def wk_11 : List wc_E := [
  (0, .aload_n 0, 1, [], 0, 0),
  (1, .getfield 25, 3, [0, 2], 0, 0),
  (4, .getfield 139, 3, [3, 5], 0, 0),
  (7, .ifCond .ne 6, 3, [6], 0, 0),
  (10, .ldc 140, 2, [], (-1000002), 0),
  (12, .ireturn, 1, [], 0, 0),
  (13, .iload_n 1, 1, [], 0, 0),
  (14, .iconst 1, 1, [], 1, 0),
  (15, .if_icmp .lt 9, 3, [12], 0, 0),
  (18, .iload_n 1, 1, [], 0, 0),
  (19, .bipush 20, 2, [], 20, 0),
  (21, .if_icmp .le 6, 3, [14], 0, 0),
  (24, .ldc 70, 2, [], (-1000001), 0),
  (26, .ireturn, 1, [], 0, 0),
  (27, .aload_n 0, 1, [], 0, 0),
  (28, .getfield 25, 3, [0, 2], 0, 0),
  (31, .getfield 173, 3, [3, 6], 0, 0),
  (34, .iload_n 1, 1, [], 0, 0),
  (35, .iadd, 1, [], 0, 0),
  (36, .sipush 999, 3, [], 999, 0),
  (39, .if_icmp .le 6, 3, [23], 0, 0),
  (42, .ldc 116, 2, [], (-1000003), 0),
  (44, .ireturn, 1, [], 0, 0),
  (45, .iconst 0, 1, [], 0, 0),
  (46, .istore_n 2, 1, [], 0, 0),
  (47, .iload_n 2, 1, [], 0, 0),
  (48, .iload_n 1, 1, [], 0, 0),
  (49, .if_icmp .ge 28, 3, [39], 0, 0),
  (52, .aload_n 0, 1, [], 0, 0),
  (53, .getfield 46, 3, [0, 6], 0, 0),
  (56, .aload_n 0, 1, [], 0, 0),
  (57, .getfield 25, 3, [0, 2], 0, 0),
  (60, .invokevirtual 150, 3, [79], 0, 0),
  (63, .aload_n 0, 1, [], 0, 0),
  (64, .aload_n 0, 1, [], 0, 0),
  (65, .getfield 25, 3, [0, 2], 0, 0),
  (68, .invokevirtual 176, 3, [44], 0, 0),
  (71, .iinc 2 1, 3, [], 1, 0),
  (74, .goto (-27), 3, [25], 0, 0),
  (77, .aload_n 0, 1, [], 0, 0),
  (78, .getfield 25, 3, [0, 2], 0, 0),
  (81, .invokevirtual 132, 3, [70], 0, 0),
  (84, .ireturn, 1, [], 0, 0)]
/-- WindCarver.undo -/
def wk_12 : List wc_E := [
  (0, .aload_n 0, 1, [], 0, 0),
  (1, .getfield 46, 3, [0, 6], 0, 0),
  (4, .getfield 129, 3, [5, 2], 0, 0),
  (7, .ifCond .ne 6, 3, [6], 0, 0),
  (10, .ldc 140, 2, [], (-1000002), 0),
  (12, .ireturn, 1, [], 0, 0),
  (13, .aload_n 0, 1, [], 0, 0),
  (14, .getfield 46, 3, [0, 6], 0, 0),
  (17, .aload_n 0, 1, [], 0, 0),
  (18, .getfield 25, 3, [0, 2], 0, 0),
  (21, .invokevirtual 179, 3, [80], 0, 0),
  (24, .aload_n 0, 1, [], 0, 0),
  (25, .getfield 46, 3, [0, 6], 0, 0),
  (28, .getfield 129, 3, [5, 2], 0, 0),
  (31, .ireturn, 1, [], 0, 0)]
/-- WindCarver.cell -/
def wk_13 : List wc_E := [
  (0, .aload_n 0, 1, [], 0, 0),
  (1, .getfield 25, 3, [0, 2], 0, 0),
  (4, .getfield 139, 3, [3, 5], 0, 0),
  (7, .ifCond .ne 6, 3, [6], 0, 0),
  (10, .ldc 140, 2, [], (-1000002), 0),
  (12, .ireturn, 1, [], 0, 0),
  (13, .iload_n 1, 1, [], 0, 0),
  (14, .invokestatic 141, 3, [33], 0, 0),
  (17, .ifCond .eq 11, 3, [13], 0, 0),
  (20, .iload_n 2, 1, [], 0, 0),
  (21, .iconst 3, 1, [], 3, 0),
  (22, .invokestatic 66, 3, [32], 0, 0),
  (25, .ifCond .ne 6, 3, [15], 0, 0),
  (28, .ldc 70, 2, [], (-1000001), 0),
  (30, .ireturn, 1, [], 0, 0),
  (31, .iload_n 2, 1, [], 0, 0),
  (32, .ifCond .ne 9, 3, [21], 0, 0),
  (35, .aload_n 0, 1, [], 0, 0),
  (36, .iload_n 1, 1, [], 0, 0),
  (37, .invokevirtual 182, 3, [41], 0, 0),
  (40, .ireturn, 1, [], 0, 0),
  (41, .aload_n 0, 1, [], 0, 0),
  (42, .getfield 25, 3, [0, 2], 0, 0),
  (45, .iload_n 1, 1, [], 0, 0),
  (46, .invokevirtual 147, 3, [69], 0, 0),
  (49, .ifCond .ne 6, 3, [28], 0, 0),
  (52, .ldc 185, 2, [], (-1000000), 0),
  (54, .ireturn, 1, [], 0, 0),
  (55, .iload_n 2, 1, [], 0, 0),
  (56, .iconst 1, 1, [], 1, 0),
  (57, .if_icmp .ne 13, 3, [37], 0, 0),
  (60, .aload_n 0, 1, [], 0, 0),
  (61, .getfield 25, 3, [0, 2], 0, 0),
  (64, .getfield 161, 3, [3, 2], 0, 0),
  (67, .iload_n 1, 1, [], 0, 0),
  (68, .iaload, 1, [], 0, 0),
  (69, .ireturn, 1, [], 0, 0),
  (70, .iload_n 2, 1, [], 0, 0),
  (71, .iconst 2, 1, [], 2, 0),
  (72, .if_icmp .ne 15, 3, [46], 0, 0),
  (75, .aload_n 0, 1, [], 0, 0),
  (76, .getfield 25, 3, [0, 2], 0, 0),
  (79, .getfield 186, 3, [3, 3], 0, 0),
  (82, .iload_n 1, 1, [], 0, 0),
  (83, .iaload, 1, [], 0, 0),
  (84, .goto 12, 3, [51], 0, 0),
  (87, .aload_n 0, 1, [], 0, 0),
  (88, .getfield 25, 3, [0, 2], 0, 0),
  (91, .getfield 164, 3, [3, 4], 0, 0),
  (94, .iload_n 1, 1, [], 0, 0),
  (95, .iaload, 1, [], 0, 0),
  (96, .ireturn, 1, [], 0, 0)]
/-- WindCarver.wind -/
def wk_14 : List wc_E := [
  (0, .aload_n 0, 1, [], 0, 0),
  (1, .getfield 25, 3, [0, 2], 0, 0),
  (4, .getfield 139, 3, [3, 5], 0, 0),
  (7, .ifCond .ne 6, 3, [6], 0, 0),
  (10, .ldc 140, 2, [], (-1000002), 0),
  (12, .ireturn, 1, [], 0, 0),
  (13, .iload_n 1, 1, [], 0, 0),
  (14, .invokestatic 167, 3, [34], 0, 0),
  (17, .ifCond .eq 11, 3, [13], 0, 0),
  (20, .iload_n 2, 1, [], 0, 0),
  (21, .iconst 1, 1, [], 1, 0),
  (22, .invokestatic 66, 3, [32], 0, 0),
  (25, .ifCond .ne 6, 3, [15], 0, 0),
  (28, .ldc 70, 2, [], (-1000001), 0),
  (30, .ireturn, 1, [], 0, 0),
  (31, .iload_n 2, 1, [], 0, 0),
  (32, .ifCond .ne 15, 3, [23], 0, 0),
  (35, .aload_n 0, 1, [], 0, 0),
  (36, .getfield 25, 3, [0, 2], 0, 0),
  (39, .getfield 170, 3, [3, 0], 0, 0),
  (42, .iload_n 1, 1, [], 0, 0),
  (43, .iaload, 1, [], 0, 0),
  (44, .goto 12, 3, [28], 0, 0),
  (47, .aload_n 0, 1, [], 0, 0),
  (48, .getfield 25, 3, [0, 2], 0, 0),
  (51, .getfield 189, 3, [3, 1], 0, 0),
  (54, .iload_n 1, 1, [], 0, 0),
  (55, .iaload, 1, [], 0, 0),
  (56, .ireturn, 1, [], 0, 0)]
/-- WindCarver.felt -/
def wk_15 : List wc_E := [
  (0, .aload_n 0, 1, [], 0, 0),
  (1, .getfield 25, 3, [0, 2], 0, 0),
  (4, .getfield 139, 3, [3, 5], 0, 0),
  (7, .ifCond .ne 6, 3, [6], 0, 0),
  (10, .ldc 140, 2, [], (-1000002), 0),
  (12, .ireturn, 1, [], 0, 0),
  (13, .iload_n 1, 1, [], 0, 0),
  (14, .invokestatic 141, 3, [33], 0, 0),
  (17, .ifCond .eq 12, 3, [13], 0, 0),
  (20, .iload_n 2, 1, [], 0, 0),
  (21, .bipush 40, 2, [], 40, 0),
  (23, .invokestatic 66, 3, [32], 0, 0),
  (26, .ifCond .ne 6, 3, [15], 0, 0),
  (29, .ldc 70, 2, [], (-1000001), 0),
  (31, .ireturn, 1, [], 0, 0),
  (32, .aload_n 0, 1, [], 0, 0),
  (33, .iload_n 2, 1, [], 0, 0),
  (34, .invokevirtual 192, 3, [45], 0, 0),
  (37, .aload_n 0, 1, [], 0, 0),
  (38, .getfield 35, 3, [0, 4], 0, 0),
  (41, .getfield 195, 3, [4, 0], 0, 0),
  (44, .iload_n 1, 1, [], 0, 0),
  (45, .iaload, 1, [], 0, 0),
  (46, .ireturn, 1, [], 0, 0)]
/-- WindCarver.lost -/
def wk_16 : List wc_E := [
  (0, .aload_n 0, 1, [], 0, 0),
  (1, .getfield 25, 3, [0, 2], 0, 0),
  (4, .getfield 139, 3, [3, 5], 0, 0),
  (7, .ifCond .ne 6, 3, [6], 0, 0),
  (10, .ldc 140, 2, [], (-1000002), 0),
  (12, .ireturn, 1, [], 0, 0),
  (13, .iload_n 1, 1, [], 0, 0),
  (14, .bipush 40, 2, [], 40, 0),
  (16, .invokestatic 66, 3, [32], 0, 0),
  (19, .ifCond .ne 6, 3, [12], 0, 0),
  (22, .ldc 70, 2, [], (-1000001), 0),
  (24, .ireturn, 1, [], 0, 0),
  (25, .aload_n 0, 1, [], 0, 0),
  (26, .iload_n 1, 1, [], 0, 0),
  (27, .invokevirtual 192, 3, [45], 0, 0),
  (30, .aload_n 0, 1, [], 0, 0),
  (31, .getfield 35, 3, [0, 4], 0, 0),
  (34, .getfield 198, 3, [4, 2], 0, 0),
  (37, .ireturn, 1, [], 0, 0)]
/-- WindCarver.leaves -/
def wk_17 : List wc_E := [
  (0, .aload_n 0, 1, [], 0, 0),
  (1, .getfield 25, 3, [0, 2], 0, 0),
  (4, .getfield 139, 3, [3, 5], 0, 0),
  (7, .ifCond .ne 6, 3, [6], 0, 0),
  (10, .ldc 140, 2, [], (-1000002), 0),
  (12, .ireturn, 1, [], 0, 0),
  (13, .iload_n 1, 1, [], 0, 0),
  (14, .invokestatic 167, 3, [34], 0, 0),
  (17, .ifCond .eq 12, 3, [13], 0, 0),
  (20, .iload_n 2, 1, [], 0, 0),
  (21, .bipush 40, 2, [], 40, 0),
  (23, .invokestatic 66, 3, [32], 0, 0),
  (26, .ifCond .ne 6, 3, [15], 0, 0),
  (29, .ldc 70, 2, [], (-1000001), 0),
  (31, .ireturn, 1, [], 0, 0),
  (32, .aload_n 0, 1, [], 0, 0),
  (33, .iload_n 2, 1, [], 0, 0),
  (34, .invokevirtual 192, 3, [45], 0, 0),
  (37, .aload_n 0, 1, [], 0, 0),
  (38, .getfield 35, 3, [0, 4], 0, 0),
  (41, .getfield 201, 3, [4, 1], 0, 0),
  (44, .iload_n 1, 1, [], 0, 0),
  (45, .iaload, 1, [], 0, 0),
  (46, .ireturn, 1, [], 0, 0)]
/-- WindCarver.breaks -/
def wk_18 : List wc_E := [
  (0, .aload_n 0, 1, [], 0, 0),
  (1, .getfield 25, 3, [0, 2], 0, 0),
  (4, .getfield 139, 3, [3, 5], 0, 0),
  (7, .ifCond .ne 6, 3, [6], 0, 0),
  (10, .ldc 140, 2, [], (-1000002), 0),
  (12, .ireturn, 1, [], 0, 0),
  (13, .iload_n 1, 1, [], 0, 0),
  (14, .iconst 1, 1, [], 1, 0),
  (15, .invokestatic 66, 3, [32], 0, 0),
  (18, .ifCond .ne 6, 3, [12], 0, 0),
  (21, .ldc 70, 2, [], (-1000001), 0),
  (23, .ireturn, 1, [], 0, 0),
  (24, .aload_n 0, 1, [], 0, 0),
  (25, .getfield 29, 3, [0, 3], 0, 0),
  (28, .aload_n 0, 1, [], 0, 0),
  (29, .getfield 25, 3, [0, 2], 0, 0),
  (32, .invokevirtual 125, 3, [65], 0, 0),
  (35, .iconst 1, 1, [], 1, 0),
  (36, .istore_n 2, 1, [], 0, 0),
  (37, .iload_n 2, 1, [], 0, 0),
  (38, .bipush 40, 2, [], 40, 0),
  (40, .if_icmp .gt 59, 3, [49], 0, 0),
  (43, .aload_n 0, 1, [], 0, 0),
  (44, .getfield 35, 3, [0, 4], 0, 0),
  (47, .aload_n 0, 1, [], 0, 0),
  (48, .getfield 29, 3, [0, 3], 0, 0),
  (51, .invokevirtual 204, 3, [74], 0, 0),
  (54, .aload_n 0, 1, [], 0, 0),
  (55, .getfield 29, 3, [0, 3], 0, 0),
  (58, .aload_n 0, 1, [], 0, 0),
  (59, .getfield 35, 3, [0, 4], 0, 0),
  (62, .getfield 195, 3, [4, 0], 0, 0),
  (65, .invokevirtual 207, 3, [72], 0, 0),
  (68, .istore_n 3, 1, [], 0, 0),
  (69, .iload_n 3, 1, [], 0, 0),
  (70, .ldc 185, 2, [], (-1000000), 0),
  (72, .if_icmp .eq 13, 3, [43], 0, 0),
  (75, .iload_n 1, 1, [], 0, 0),
  (76, .ifCond .ne 7, 3, [41], 0, 0),
  (79, .iload_n 2, 1, [], 0, 0),
  (80, .goto 4, 3, [42], 0, 0),
  (83, .iload_n 3, 1, [], 0, 0),
  (84, .ireturn, 1, [], 0, 0),
  (85, .aload_n 0, 1, [], 0, 0),
  (86, .aload_n 0, 1, [], 0, 0),
  (87, .getfield 29, 3, [0, 3], 0, 0),
  (90, .invokevirtual 176, 3, [44], 0, 0),
  (93, .iinc 2 1, 3, [], 1, 0),
  (96, .goto (-59), 3, [19], 0, 0),
  (99, .ldc 185, 2, [], (-1000000), 0),
  (101, .ireturn, 1, [], 0, 0)]
/-- WindCarver.stands -/
def wk_19 : List wc_E := [
  (0, .aload_n 0, 1, [], 0, 0),
  (1, .getfield 25, 3, [0, 2], 0, 0),
  (4, .getfield 139, 3, [3, 5], 0, 0),
  (7, .ifCond .ne 6, 3, [6], 0, 0),
  (10, .ldc 140, 2, [], (-1000002), 0),
  (12, .ireturn, 1, [], 0, 0),
  (13, .iload_n 1, 1, [], 0, 0),
  (14, .bipush 7, 2, [], 7, 0),
  (16, .invokestatic 66, 3, [32], 0, 0),
  (19, .ifCond .ne 6, 3, [12], 0, 0),
  (22, .ldc 70, 2, [], (-1000001), 0),
  (24, .ireturn, 1, [], 0, 0),
  (25, .aload_n 0, 1, [], 0, 0),
  (26, .iload_n 1, 1, [], 0, 0),
  (27, .iload_n 2, 1, [], 0, 0),
  (28, .bipush 16, 2, [], 16, 0),
  (30, .invokevirtual 82, 3, [39], 0, 0),
  (33, .istore_n 3, 1, [], 0, 0),
  (34, .iload_n 3, 1, [], 0, 0),
  (35, .ifCond .eq 9, 3, [24], 0, 0),
  (38, .aload_n 0, 1, [], 0, 0),
  (39, .iload_n 3, 1, [], 0, 0),
  (40, .invokevirtual 71, 3, [37], 0, 0),
  (43, .ireturn, 1, [], 0, 0),
  (44, .aload_n 0, 1, [], 0, 0),
  (45, .getfield 29, 3, [0, 3], 0, 0),
  (48, .aload_n 0, 1, [], 0, 0),
  (49, .getfield 25, 3, [0, 2], 0, 0),
  (52, .invokevirtual 125, 3, [65], 0, 0),
  (55, .iconst 0, 1, [], 0, 0),
  (56, .istore 4, 2, [], 0, 0),
  (58, .iload 4, 2, [], 0, 0),
  (60, .bipush 40, 2, [], 40, 0),
  (62, .if_icmp .ge 52, 3, [58], 0, 0),
  (65, .aload_n 0, 1, [], 0, 0),
  (66, .getfield 35, 3, [0, 4], 0, 0),
  (69, .aload_n 0, 1, [], 0, 0),
  (70, .getfield 29, 3, [0, 3], 0, 0),
  (73, .invokevirtual 204, 3, [74], 0, 0),
  (76, .aload_n 0, 1, [], 0, 0),
  (77, .aload_n 0, 1, [], 0, 0),
  (78, .getfield 11, 3, [0, 0], 0, 0),
  (81, .iload_n 1, 1, [], 0, 0),
  (82, .aaload, 1, [], 0, 0),
  (83, .getfield 89, 3, [1, 0], 0, 0),
  (86, .iload_n 2, 1, [], 0, 0),
  (87, .invokevirtual 211, 3, [46], 0, 0),
  (90, .ifCond .ne 10, 3, [52], 0, 0),
  (93, .aload_n 0, 1, [], 0, 0),
  (94, .iload 4, 2, [], 0, 0),
  (96, .invokevirtual 79, 3, [38], 0, 0),
  (99, .ireturn, 1, [], 0, 0),
  (100, .aload_n 0, 1, [], 0, 0),
  (101, .aload_n 0, 1, [], 0, 0),
  (102, .getfield 29, 3, [0, 3], 0, 0),
  (105, .invokevirtual 176, 3, [44], 0, 0),
  (108, .iinc 4 1, 3, [], 1, 0),
  (111, .goto (-53), 3, [31], 0, 0),
  (114, .aload_n 0, 1, [], 0, 0),
  (115, .bipush 40, 2, [], 40, 0),
  (117, .invokevirtual 79, 3, [38], 0, 0),
  (120, .ireturn, 1, [], 0, 0)]
/-- WindCarver.walls -/
def wk_20 : List wc_E := [
  (0, .aload_n 0, 1, [], 0, 0),
  (1, .getfield 25, 3, [0, 2], 0, 0),
  (4, .getfield 139, 3, [3, 5], 0, 0),
  (7, .ifCond .ne 6, 3, [6], 0, 0),
  (10, .ldc 140, 2, [], (-1000002), 0),
  (12, .ireturn, 1, [], 0, 0),
  (13, .iload_n 1, 1, [], 0, 0),
  (14, .invokestatic 141, 3, [33], 0, 0),
  (17, .ifCond .eq 22, 3, [19], 0, 0),
  (20, .iload_n 2, 1, [], 0, 0),
  (21, .bipush 99, 2, [], 99, 0),
  (23, .invokestatic 66, 3, [32], 0, 0),
  (26, .ifCond .eq 13, 3, [19], 0, 0),
  (29, .iload_n 3, 1, [], 0, 0),
  (30, .iconst (-1), 1, [], (-1), 0),
  (31, .if_icmp .lt 8, 3, [19], 0, 0),
  (34, .iload_n 3, 1, [], 0, 0),
  (35, .iconst 1, 1, [], 1, 0),
  (36, .if_icmp .le 6, 3, [21], 0, 0),
  (39, .ldc 70, 2, [], (-1000001), 0),
  (41, .ireturn, 1, [], 0, 0),
  (42, .aload_n 0, 1, [], 0, 0),
  (43, .iload_n 1, 1, [], 0, 0),
  (44, .iload_n 2, 1, [], 0, 0),
  (45, .invokevirtual 215, 3, [48], 0, 0),
  (48, .istore 4, 2, [], 0, 0),
  (50, .iload_n 3, 1, [], 0, 0),
  (51, .ifCond .lt 10, 3, [31], 0, 0),
  (54, .iload 4, 2, [], 0, 0),
  (56, .ldc 185, 2, [], (-1000000), 0),
  (58, .if_icmp .ne 6, 3, [33], 0, 0),
  (61, .iload 4, 2, [], 0, 0),
  (63, .ireturn, 1, [], 0, 0),
  (64, .iload_n 3, 1, [], 0, 0),
  (65, .iload 4, 2, [], 0, 0),
  (67, .if_icmp .ge 12, 3, [41], 0, 0),
  (70, .aload_n 0, 1, [], 0, 0),
  (71, .getfield 39, 3, [0, 5], 0, 0),
  (74, .iload_n 3, 1, [], 0, 0),
  (75, .iaload, 1, [], 0, 0),
  (76, .goto 5, 3, [42], 0, 0),
  (79, .ldc 185, 2, [], (-1000000), 0),
  (81, .ireturn, 1, [], 0, 0)]
/-- WindCarver.hidden -/
def wk_21 : List wc_E := [
  (0, .aload_n 0, 1, [], 0, 0),
  (1, .getfield 25, 3, [0, 2], 0, 0),
  (4, .getfield 139, 3, [3, 5], 0, 0),
  (7, .ifCond .ne 6, 3, [6], 0, 0),
  (10, .ldc 140, 2, [], (-1000002), 0),
  (12, .ireturn, 1, [], 0, 0),
  (13, .iload_n 1, 1, [], 0, 0),
  (14, .invokestatic 144, 3, [35], 0, 0),
  (17, .ifCond .eq 19, 3, [16], 0, 0),
  (20, .iload_n 2, 1, [], 0, 0),
  (21, .invokestatic 167, 3, [34], 0, 0),
  (24, .ifCond .eq 12, 3, [16], 0, 0),
  (27, .iload_n 3, 1, [], 0, 0),
  (28, .bipush 7, 2, [], 7, 0),
  (30, .invokestatic 66, 3, [32], 0, 0),
  (33, .ifCond .ne 6, 3, [18], 0, 0),
  (36, .ldc 70, 2, [], (-1000001), 0),
  (38, .ireturn, 1, [], 0, 0),
  (39, .aload_n 0, 1, [], 0, 0),
  (40, .iload_n 3, 1, [], 0, 0),
  (41, .iload 4, 2, [], 0, 0),
  (43, .iconst 4, 1, [], 4, 0),
  (44, .invokevirtual 82, 3, [39], 0, 0),
  (47, .istore 5, 2, [], 0, 0),
  (49, .iload 5, 2, [], 0, 0),
  (51, .ifCond .eq 10, 3, [30], 0, 0),
  (54, .aload_n 0, 1, [], 0, 0),
  (55, .iload 5, 2, [], 0, 0),
  (57, .invokevirtual 71, 3, [37], 0, 0),
  (60, .ireturn, 1, [], 0, 0),
  (61, .aload_n 0, 1, [], 0, 0),
  (62, .getfield 29, 3, [0, 3], 0, 0),
  (65, .aload_n 0, 1, [], 0, 0),
  (66, .getfield 25, 3, [0, 2], 0, 0),
  (69, .invokevirtual 125, 3, [65], 0, 0),
  (72, .iconst 0, 1, [], 0, 0),
  (73, .istore 6, 2, [], 0, 0),
  (75, .iconst 0, 1, [], 0, 0),
  (76, .istore 7, 2, [], 0, 0),
  (78, .iload 7, 2, [], 0, 0),
  (80, .bipush 16, 2, [], 16, 0),
  (82, .if_icmp .ge 80, 3, [80], 0, 0),
  (85, .aload_n 0, 1, [], 0, 0),
  (86, .getfield 25, 3, [0, 2], 0, 0),
  (89, .iload 7, 2, [], 0, 0),
  (91, .invokevirtual 147, 3, [69], 0, 0),
  (94, .ifCond .ne 62, 3, [78], 0, 0),
  (97, .aload_n 0, 1, [], 0, 0),
  (98, .getfield 29, 3, [0, 3], 0, 0),
  (101, .iload 7, 2, [], 0, 0),
  (103, .iload_n 1, 1, [], 0, 0),
  (104, .iconst 0, 1, [], 0, 0),
  (105, .invokevirtual 153, 3, [67], 0, 0),
  (108, .aload_n 0, 1, [], 0, 0),
  (109, .getfield 35, 3, [0, 4], 0, 0),
  (112, .aload_n 0, 1, [], 0, 0),
  (113, .getfield 29, 3, [0, 3], 0, 0),
  (116, .invokevirtual 204, 3, [74], 0, 0),
  (119, .aload_n 0, 1, [], 0, 0),
  (120, .getfield 29, 3, [0, 3], 0, 0),
  (123, .iload 7, 2, [], 0, 0),
  (125, .invokevirtual 157, 3, [68], 0, 0),
  (128, .aload_n 0, 1, [], 0, 0),
  (129, .iload_n 2, 1, [], 0, 0),
  (130, .aload_n 0, 1, [], 0, 0),
  (131, .getfield 11, 3, [0, 0], 0, 0),
  (134, .iload_n 3, 1, [], 0, 0),
  (135, .aaload, 1, [], 0, 0),
  (136, .getfield 89, 3, [1, 0], 0, 0),
  (139, .iload 4, 2, [], 0, 0),
  (141, .invokevirtual 219, 3, [47], 0, 0),
  (144, .ifCond .eq 12, 3, [78], 0, 0),
  (147, .iload 6, 2, [], 0, 0),
  (149, .iconst 1, 1, [], 1, 0),
  (150, .iload 7, 2, [], 0, 0),
  (152, .ishl, 1, [], 0, 0),
  (153, .ior, 1, [], 0, 0),
  (154, .istore 6, 2, [], 0, 0),
  (156, .iinc 7 1, 3, [], 1, 0),
  (159, .goto (-81), 3, [39], 0, 0),
  (162, .aload_n 0, 1, [], 0, 0),
  (163, .iload 6, 2, [], 0, 0),
  (165, .invokevirtual 79, 3, [38], 0, 0),
  (168, .ireturn, 1, [], 0, 0)]
/-- WindCarver.most -/
def wk_22 : List wc_E := [
  (0, .aload_n 0, 1, [], 0, 0),
  (1, .getfield 25, 3, [0, 2], 0, 0),
  (4, .getfield 139, 3, [3, 5], 0, 0),
  (7, .ifCond .ne 6, 3, [6], 0, 0),
  (10, .ldc 140, 2, [], (-1000002), 0),
  (12, .ireturn, 1, [], 0, 0),
  (13, .iload_n 1, 1, [], 0, 0),
  (14, .invokestatic 167, 3, [34], 0, 0),
  (17, .ifCond .eq 11, 3, [13], 0, 0),
  (20, .iload_n 2, 1, [], 0, 0),
  (21, .iconst 1, 1, [], 1, 0),
  (22, .invokestatic 66, 3, [32], 0, 0),
  (25, .ifCond .ne 6, 3, [15], 0, 0),
  (28, .ldc 70, 2, [], (-1000001), 0),
  (30, .ireturn, 1, [], 0, 0),
  (31, .aload_n 0, 1, [], 0, 0),
  (32, .getfield 29, 3, [0, 3], 0, 0),
  (35, .aload_n 0, 1, [], 0, 0),
  (36, .getfield 25, 3, [0, 2], 0, 0),
  (39, .invokevirtual 125, 3, [65], 0, 0),
  (42, .ldc 185, 2, [], (-1000000), 0),
  (44, .istore_n 3, 1, [], 0, 0),
  (45, .ldc 185, 2, [], (-1000000), 0),
  (47, .istore 4, 2, [], 0, 0),
  (49, .iconst 0, 1, [], 0, 0),
  (50, .istore 5, 2, [], 0, 0),
  (52, .iload 5, 2, [], 0, 0),
  (54, .bipush 16, 2, [], 16, 0),
  (56, .if_icmp .ge 80, 3, [66], 0, 0),
  (59, .aload_n 0, 1, [], 0, 0),
  (60, .getfield 25, 3, [0, 2], 0, 0),
  (63, .iload 5, 2, [], 0, 0),
  (65, .invokevirtual 147, 3, [69], 0, 0),
  (68, .ifCond .ne 62, 3, [64], 0, 0),
  (71, .aload_n 0, 1, [], 0, 0),
  (72, .getfield 29, 3, [0, 3], 0, 0),
  (75, .iload 5, 2, [], 0, 0),
  (77, .iconst 1, 1, [], 1, 0),
  (78, .iconst 0, 1, [], 0, 0),
  (79, .invokevirtual 153, 3, [67], 0, 0),
  (82, .aload_n 0, 1, [], 0, 0),
  (83, .getfield 35, 3, [0, 4], 0, 0),
  (86, .aload_n 0, 1, [], 0, 0),
  (87, .getfield 29, 3, [0, 3], 0, 0),
  (90, .invokevirtual 204, 3, [74], 0, 0),
  (93, .aload_n 0, 1, [], 0, 0),
  (94, .getfield 29, 3, [0, 3], 0, 0),
  (97, .iload 5, 2, [], 0, 0),
  (99, .invokevirtual 157, 3, [68], 0, 0),
  (102, .aload_n 0, 1, [], 0, 0),
  (103, .getfield 35, 3, [0, 4], 0, 0),
  (106, .getfield 201, 3, [4, 1], 0, 0),
  (109, .iload_n 1, 1, [], 0, 0),
  (110, .iaload, 1, [], 0, 0),
  (111, .iload 4, 2, [], 0, 0),
  (113, .if_icmp .le 17, 3, [64], 0, 0),
  (116, .iload 5, 2, [], 0, 0),
  (118, .istore_n 3, 1, [], 0, 0),
  (119, .aload_n 0, 1, [], 0, 0),
  (120, .getfield 35, 3, [0, 4], 0, 0),
  (123, .getfield 201, 3, [4, 1], 0, 0),
  (126, .iload_n 1, 1, [], 0, 0),
  (127, .iaload, 1, [], 0, 0),
  (128, .istore 4, 2, [], 0, 0),
  (130, .iinc 5 1, 3, [], 1, 0),
  (133, .goto (-81), 3, [26], 0, 0),
  (136, .iload_n 2, 1, [], 0, 0),
  (137, .ifCond .ne 7, 3, [70], 0, 0),
  (140, .iload_n 3, 1, [], 0, 0),
  (141, .goto 5, 3, [71], 0, 0),
  (144, .iload 4, 2, [], 0, 0),
  (146, .ireturn, 1, [], 0, 0)]
/-- WindCarver.lots -/
def wk_23 : List wc_E := [
  (0, .aload_n 0, 1, [], 0, 0),
  (1, .getfield 25, 3, [0, 2], 0, 0),
  (4, .getfield 139, 3, [3, 5], 0, 0),
  (7, .ifCond .ne 6, 3, [6], 0, 0),
  (10, .ldc 140, 2, [], (-1000002), 0),
  (12, .ireturn, 1, [], 0, 0),
  (13, .iload_n 1, 1, [], 0, 0),
  (14, .invokestatic 141, 3, [33], 0, 0),
  (17, .ifCond .eq 30, 3, [21], 0, 0),
  (20, .iload_n 2, 1, [], 0, 0),
  (21, .bipush 99, 2, [], 99, 0),
  (23, .invokestatic 66, 3, [32], 0, 0),
  (26, .ifCond .eq 21, 3, [21], 0, 0),
  (29, .iload_n 3, 1, [], 0, 0),
  (30, .bipush 10, 2, [], 10, 0),
  (32, .invokestatic 66, 3, [32], 0, 0),
  (35, .ifCond .eq 12, 3, [21], 0, 0),
  (38, .iload 4, 2, [], 0, 0),
  (40, .iconst 1, 1, [], 1, 0),
  (41, .invokestatic 66, 3, [32], 0, 0),
  (44, .ifCond .ne 6, 3, [23], 0, 0),
  (47, .ldc 70, 2, [], (-1000001), 0),
  (49, .ireturn, 1, [], 0, 0),
  (50, .iconst 1, 1, [], 1, 0),
  (51, .istore 5, 2, [], 0, 0),
  (53, .iconst 1, 1, [], 1, 0),
  (54, .istore 6, 2, [], 0, 0),
  (56, .aload_n 0, 1, [], 0, 0),
  (57, .getfield 25, 3, [0, 2], 0, 0),
  (60, .invokevirtual 132, 3, [70], 0, 0),
  (63, .istore 7, 2, [], 0, 0),
  (65, .iload 7, 2, [], 0, 0),
  (67, .ifCond .le 22, 3, [43], 0, 0),
  (70, .iload 5, 2, [], 0, 0),
  (72, .iconst 2, 1, [], 2, 0),
  (73, .imul, 1, [], 0, 0),
  (74, .istore 5, 2, [], 0, 0),
  (76, .iload 6, 2, [], 0, 0),
  (78, .bipush 10, 2, [], 10, 0),
  (80, .imul, 1, [], 0, 0),
  (81, .istore 6, 2, [], 0, 0),
  (83, .iinc 7 (-1), 3, [], (-1), 0),
  (86, .goto (-21), 3, [31], 0, 0),
  (89, .iconst 0, 1, [], 0, 0),
  (90, .istore 7, 2, [], 0, 0),
  (92, .iconst 0, 1, [], 0, 0),
  (93, .istore 8, 2, [], 0, 0),
  (95, .iload 8, 2, [], 0, 0),
  (97, .iload 5, 2, [], 0, 0),
  (99, .if_icmp .ge 49, 3, [73], 0, 0),
  (102, .aload_n 0, 1, [], 0, 0),
  (103, .iload 8, 2, [], 0, 0),
  (105, .iload_n 3, 1, [], 0, 0),
  (106, .invokevirtual 223, 3, [50], 0, 0),
  (109, .istore 9, 2, [], 0, 0),
  (111, .aload_n 0, 1, [], 0, 0),
  (112, .getfield 35, 3, [0, 4], 0, 0),
  (115, .aload_n 0, 1, [], 0, 0),
  (116, .getfield 29, 3, [0, 3], 0, 0),
  (119, .invokevirtual 204, 3, [74], 0, 0),
  (122, .aload_n 0, 1, [], 0, 0),
  (123, .getfield 35, 3, [0, 4], 0, 0),
  (126, .getfield 195, 3, [4, 0], 0, 0),
  (129, .iload_n 1, 1, [], 0, 0),
  (130, .iaload, 1, [], 0, 0),
  (131, .iload_n 2, 1, [], 0, 0),
  (132, .if_icmp .lt 10, 3, [71], 0, 0),
  (135, .iload 7, 2, [], 0, 0),
  (137, .iload 9, 2, [], 0, 0),
  (139, .iadd, 1, [], 0, 0),
  (140, .istore 7, 2, [], 0, 0),
  (142, .iinc 8 1, 3, [], 1, 0),
  (145, .goto (-50), 3, [47], 0, 0),
  (148, .iload 6, 2, [], 0, 0),
  (150, .iload 7, 2, [], 0, 0),
  (152, .invokestatic 226, 3, [51], 0, 0),
  (155, .istore 8, 2, [], 0, 0),
  (157, .iload 4, 2, [], 0, 0),
  (159, .ifCond .ne 8, 3, [81], 0, 0),
  (162, .iload 7, 2, [], 0, 0),
  (164, .goto 5, 3, [82], 0, 0),
  (167, .iload 6, 2, [], 0, 0),
  (169, .iload 8, 2, [], 0, 0),
  (171, .idiv, 1, [], 0, 0),
  (172, .ireturn, 1, [], 0, 0)]
/-- WindCarver.image -/
def wk_24 : List wc_E := [
  (0, .iload_n 1, 1, [], 0, 0),
  (1, .iconst 1, 1, [], 1, 0),
  (2, .invokestatic 66, 3, [32], 0, 0),
  (5, .ifCond .ne 6, 3, [6], 0, 0),
  (8, .ldc 70, 2, [], (-1000001), 0),
  (10, .ireturn, 1, [], 0, 0),
  (11, .aload_n 0, 1, [], 0, 0),
  (12, .getfield 25, 3, [0, 2], 0, 0),
  (15, .getfield 139, 3, [3, 5], 0, 0),
  (18, .ifCond .ne 6, 3, [12], 0, 0),
  (21, .ldc 140, 2, [], (-1000002), 0),
  (23, .ireturn, 1, [], 0, 0),
  (24, .aload_n 0, 1, [], 0, 0),
  (25, .getfield 50, 3, [0, 7], 0, 0),
  (28, .iload_n 1, 1, [], 0, 0),
  (29, .aaload, 1, [], 0, 0),
  (30, .aload_n 0, 1, [], 0, 0),
  (31, .getfield 25, 3, [0, 2], 0, 0),
  (34, .invokevirtual 125, 3, [65], 0, 0),
  (37, .iconst 1, 1, [], 1, 0),
  (38, .ireturn, 1, [], 0, 0)]
/-- WindCarver.restore -/
def wk_25 : List wc_E := [
  (0, .iload_n 1, 1, [], 0, 0),
  (1, .iconst 1, 1, [], 1, 0),
  (2, .invokestatic 66, 3, [32], 0, 0),
  (5, .ifCond .ne 6, 3, [6], 0, 0),
  (8, .ldc 70, 2, [], (-1000001), 0),
  (10, .ireturn, 1, [], 0, 0),
  (11, .aload_n 0, 1, [], 0, 0),
  (12, .getfield 50, 3, [0, 7], 0, 0),
  (15, .iload_n 1, 1, [], 0, 0),
  (16, .aaload, 1, [], 0, 0),
  (17, .getfield 139, 3, [3, 5], 0, 0),
  (20, .ifCond .ne 6, 3, [14], 0, 0),
  (23, .ldc 140, 2, [], (-1000002), 0),
  (25, .ireturn, 1, [], 0, 0),
  (26, .aload_n 0, 1, [], 0, 0),
  (27, .getfield 25, 3, [0, 2], 0, 0),
  (30, .aload_n 0, 1, [], 0, 0),
  (31, .getfield 50, 3, [0, 7], 0, 0),
  (34, .iload_n 1, 1, [], 0, 0),
  (35, .aaload, 1, [], 0, 0),
  (36, .invokevirtual 125, 3, [65], 0, 0),
  (39, .aload_n 0, 1, [], 0, 0),
  (40, .getfield 46, 3, [0, 6], 0, 0),
  (43, .iconst 0, 1, [], 0, 0),
  (44, .putfield 129, 3, [5, 2], 0, 0),
  (47, .iconst 1, 1, [], 1, 0),
  (48, .ireturn, 1, [], 0, 0)]
/-- WindCarver.kind -/
def wk_26 : List wc_E := [
  (0, .aload_n 0, 1, [], 0, 0),
  (1, .getfield 25, 3, [0, 2], 0, 0),
  (4, .getfield 139, 3, [3, 5], 0, 0),
  (7, .ifCond .ne 6, 3, [6], 0, 0),
  (10, .ldc 140, 2, [], (-1000002), 0),
  (12, .ireturn, 1, [], 0, 0),
  (13, .iload_n 1, 1, [], 0, 0),
  (14, .invokestatic 141, 3, [33], 0, 0),
  (17, .ifCond .ne 6, 3, [11], 0, 0),
  (20, .ldc 70, 2, [], (-1000001), 0),
  (22, .ireturn, 1, [], 0, 0),
  (23, .aload_n 0, 1, [], 0, 0),
  (24, .getfield 25, 3, [0, 2], 0, 0),
  (27, .iload_n 1, 1, [], 0, 0),
  (28, .invokevirtual 147, 3, [69], 0, 0),
  (31, .ifCond .eq 15, 3, [22], 0, 0),
  (34, .aload_n 0, 1, [], 0, 0),
  (35, .getfield 25, 3, [0, 2], 0, 0),
  (38, .getfield 161, 3, [3, 2], 0, 0),
  (41, .iload_n 1, 1, [], 0, 0),
  (42, .iaload, 1, [], 0, 0),
  (43, .goto 5, 3, [23], 0, 0),
  (46, .ldc 185, 2, [], (-1000000), 0),
  (48, .ireturn, 1, [], 0, 0)]
/-- WindCarver.as -/
def wk_27 : List wc_E := [
  (0, .aload_n 0, 1, [], 0, 0),
  (1, .getfield 25, 3, [0, 2], 0, 0),
  (4, .getfield 139, 3, [3, 5], 0, 0),
  (7, .ifCond .ne 6, 3, [6], 0, 0),
  (10, .ldc 140, 2, [], (-1000002), 0),
  (12, .ireturn, 1, [], 0, 0),
  (13, .iload_n 1, 1, [], 0, 0),
  (14, .invokestatic 141, 3, [33], 0, 0),
  (17, .ifCond .eq 11, 3, [13], 0, 0),
  (20, .iload_n 2, 1, [], 0, 0),
  (21, .iconst 5, 1, [], 5, 0),
  (22, .invokestatic 66, 3, [32], 0, 0),
  (25, .ifCond .ne 6, 3, [15], 0, 0),
  (28, .ldc 70, 2, [], (-1000001), 0),
  (30, .ireturn, 1, [], 0, 0),
  (31, .aload_n 0, 1, [], 0, 0),
  (32, .getfield 25, 3, [0, 2], 0, 0),
  (35, .iload_n 1, 1, [], 0, 0),
  (36, .invokevirtual 147, 3, [69], 0, 0),
  (39, .ifCond .ne 6, 3, [22], 0, 0),
  (42, .ldc 140, 2, [], (-1000002), 0),
  (44, .ireturn, 1, [], 0, 0),
  (45, .aload_n 0, 1, [], 0, 0),
  (46, .getfield 25, 3, [0, 2], 0, 0),
  (49, .getfield 161, 3, [3, 2], 0, 0),
  (52, .iload_n 1, 1, [], 0, 0),
  (53, .iaload, 1, [], 0, 0),
  (54, .iload_n 2, 1, [], 0, 0),
  (55, .invokestatic 229, 3, [36], 0, 0),
  (58, .ifCond .eq 11, 3, [34], 0, 0),
  (61, .aload_n 0, 1, [], 0, 0),
  (62, .iload_n 1, 1, [], 0, 0),
  (63, .invokevirtual 79, 3, [38], 0, 0),
  (66, .goto 8, 3, [37], 0, 0),
  (69, .aload_n 0, 1, [], 0, 0),
  (70, .iconst 3, 1, [], 3, 0),
  (71, .invokevirtual 71, 3, [37], 0, 0),
  (74, .ireturn, 1, [], 0, 0)]
/-- WindCarver.ask -/
def wk_28 : List wc_E := [
  (0, .aload_n 0, 1, [], 0, 0),
  (1, .getfield 25, 3, [0, 2], 0, 0),
  (4, .getfield 139, 3, [3, 5], 0, 0),
  (7, .ifCond .ne 6, 3, [6], 0, 0),
  (10, .ldc 140, 2, [], (-1000002), 0),
  (12, .ireturn, 1, [], 0, 0),
  (13, .iload_n 1, 1, [], 0, 0),
  (14, .invokestatic 141, 3, [33], 0, 0),
  (17, .ifCond .eq 11, 3, [13], 0, 0),
  (20, .iload_n 2, 1, [], 0, 0),
  (21, .iconst 1, 1, [], 1, 0),
  (22, .invokestatic 66, 3, [32], 0, 0),
  (25, .ifCond .ne 6, 3, [15], 0, 0),
  (28, .ldc 70, 2, [], (-1000001), 0),
  (30, .ireturn, 1, [], 0, 0),
  (31, .aload_n 0, 1, [], 0, 0),
  (32, .getfield 25, 3, [0, 2], 0, 0),
  (35, .iload_n 1, 1, [], 0, 0),
  (36, .invokevirtual 147, 3, [69], 0, 0),
  (39, .ifCond .ne 6, 3, [22], 0, 0),
  (42, .ldc 140, 2, [], (-1000002), 0),
  (44, .ireturn, 1, [], 0, 0),
  (45, .aload_n 0, 1, [], 0, 0),
  (46, .getfield 57, 3, [0, 8], 0, 0),
  (49, .aload_n 0, 1, [], 0, 0),
  (50, .getfield 25, 3, [0, 2], 0, 0),
  (53, .getfield 161, 3, [3, 2], 0, 0),
  (56, .iload_n 1, 1, [], 0, 0),
  (57, .iaload, 1, [], 0, 0),
  (58, .putfield 232, 3, [6, 2], 0, 0),
  (61, .aload_n 0, 1, [], 0, 0),
  (62, .getfield 57, 3, [0, 8], 0, 0),
  (65, .aload_n 0, 1, [], 0, 0),
  (66, .getfield 25, 3, [0, 2], 0, 0),
  (69, .getfield 186, 3, [3, 3], 0, 0),
  (72, .iload_n 1, 1, [], 0, 0),
  (73, .iaload, 1, [], 0, 0),
  (74, .putfield 235, 3, [6, 3], 0, 0),
  (77, .aload_n 0, 1, [], 0, 0),
  (78, .getfield 57, 3, [0, 8], 0, 0),
  (81, .iload_n 1, 1, [], 0, 0),
  (82, .putfield 237, 3, [6, 4], 0, 0),
  (85, .aload_n 0, 1, [], 0, 0),
  (86, .getfield 57, 3, [0, 8], 0, 0),
  (89, .aload_n 0, 1, [], 0, 0),
  (90, .iload_n 1, 1, [], 0, 0),
  (91, .invokevirtual 182, 3, [41], 0, 0),
  (94, .putfield 240, 3, [6, 5], 0, 0),
  (97, .iload_n 2, 1, [], 0, 0),
  (98, .ifCond .ne 13, 3, [54], 0, 0),
  (101, .aload_n 0, 1, [], 0, 0),
  (102, .getfield 57, 3, [0, 8], 0, 0),
  (105, .invokevirtual 242, 3, [81], 0, 0),
  (108, .goto 10, 3, [57], 0, 0),
  (111, .aload_n 0, 1, [], 0, 0),
  (112, .getfield 57, 3, [0, 8], 0, 0),
  (115, .invokevirtual 245, 3, [82], 0, 0),
  (118, .ireturn, 1, [], 0, 0)]
/-- WindCarver.trace -/
def wk_29 : List wc_E := [
  (0, .iload_n 1, 1, [], 0, 0),
  (1, .aload_n 0, 1, [], 0, 0),
  (2, .getfield 57, 3, [0, 8], 0, 0),
  (5, .getfield 248, 3, [6, 1], 0, 0),
  (8, .iconst 1, 1, [], 1, 0),
  (9, .isub, 1, [], 0, 0),
  (10, .invokestatic 66, 3, [32], 0, 0),
  (13, .ifCond .eq 15, 3, [14], 0, 0),
  (16, .aload_n 0, 1, [], 0, 0),
  (17, .getfield 57, 3, [0, 8], 0, 0),
  (20, .getfield 251, 3, [6, 0], 0, 0),
  (23, .iload_n 1, 1, [], 0, 0),
  (24, .iaload, 1, [], 0, 0),
  (25, .goto 5, 3, [15], 0, 0),
  (28, .ldc 185, 2, [], (-1000000), 0),
  (30, .ireturn, 1, [], 0, 0)]
/-- WindCarver.count -/
def wk_30 : List wc_E := [
  (0, .iload_n 1, 1, [], 0, 0),
  (1, .tableswitch 90 0 6 #[43, 48, 56, 64, 69, 74, 82], 43, [27, 2, 5, 9, 13, 16, 19, 23], 0, 0),
  (44, .aload_n 0, 1, [], 0, 0),
  (45, .invokevirtual 254, 3, [40], 0, 0),
  (48, .ireturn, 1, [], 0, 0),
  (49, .aload_n 0, 1, [], 0, 0),
  (50, .getfield 25, 3, [0, 2], 0, 0),
  (53, .invokevirtual 132, 3, [70], 0, 0),
  (56, .ireturn, 1, [], 0, 0),
  (57, .aload_n 0, 1, [], 0, 0),
  (58, .getfield 25, 3, [0, 2], 0, 0),
  (61, .getfield 173, 3, [3, 6], 0, 0),
  (64, .ireturn, 1, [], 0, 0),
  (65, .aload_n 0, 1, [], 0, 0),
  (66, .invokevirtual 257, 3, [42], 0, 0),
  (69, .ireturn, 1, [], 0, 0),
  (70, .aload_n 0, 1, [], 0, 0),
  (71, .invokevirtual 260, 3, [43], 0, 0),
  (74, .ireturn, 1, [], 0, 0),
  (75, .aload_n 0, 1, [], 0, 0),
  (76, .getfield 46, 3, [0, 6], 0, 0),
  (79, .getfield 129, 3, [5, 2], 0, 0),
  (82, .ireturn, 1, [], 0, 0),
  (83, .aload_n 0, 1, [], 0, 0),
  (84, .getfield 18, 3, [0, 1], 0, 0),
  (87, .getfield 115, 3, [2, 1], 0, 0),
  (90, .ireturn, 1, [], 0, 0),
  (91, .ldc 70, 2, [], (-1000001), 0),
  (93, .ireturn, 1, [], 0, 0)]
/-- WindCarver.status -/
def wk_31 : List wc_E := [
  (0, .aload_n 0, 1, [], 0, 0),
  (1, .getfield 61, 3, [0, 9], 0, 0),
  (4, .ireturn, 1, [], 0, 0)]
/-- WindCarver.isUpTo -/
def wk_32 : List wc_E := [
  (0, .iload_n 0, 1, [], 0, 0),
  (1, .ifCond .lt 12, 3, [7], 0, 0),
  (4, .iload_n 0, 1, [], 0, 0),
  (5, .iload_n 1, 1, [], 0, 0),
  (6, .if_icmp .gt 7, 3, [7], 0, 0),
  (9, .iconst 1, 1, [], 1, 0),
  (10, .goto 4, 3, [8], 0, 0),
  (13, .iconst 0, 1, [], 0, 0),
  (14, .ireturn, 1, [], 0, 0)]
/-- WindCarver.isCell -/
def wk_33 : List wc_E := [
  (0, .iload_n 0, 1, [], 0, 0),
  (1, .bipush 15, 2, [], 15, 0),
  (3, .invokestatic 66, 3, [32], 0, 0),
  (6, .ireturn, 1, [], 0, 0)]
/-- WindCarver.isLine -/
def wk_34 : List wc_E := [
  (0, .iload_n 0, 1, [], 0, 0),
  (1, .iconst 3, 1, [], 3, 0),
  (2, .invokestatic 66, 3, [32], 0, 0),
  (5, .ireturn, 1, [], 0, 0)]
/-- WindCarver.isWorkKind -/
def wk_35 : List wc_E := [
  (0, .iload_n 0, 1, [], 0, 0),
  (1, .iconst 1, 1, [], 1, 0),
  (2, .if_icmp .lt 12, 3, [8], 0, 0),
  (5, .iload_n 0, 1, [], 0, 0),
  (6, .iconst 5, 1, [], 5, 0),
  (7, .if_icmp .gt 7, 3, [8], 0, 0),
  (10, .iconst 1, 1, [], 1, 0),
  (11, .goto 4, 3, [9], 0, 0),
  (14, .iconst 0, 1, [], 0, 0),
  (15, .ireturn, 1, [], 0, 0)]
/-- WindCarver.isA -/
def wk_36 : List wc_E := [
  (0, .iload_n 0, 1, [], 0, 0),
  (1, .istore_n 2, 1, [], 0, 0),
  (2, .iconst 0, 1, [], 0, 0),
  (3, .istore_n 3, 1, [], 0, 0),
  (4, .iload_n 3, 1, [], 0, 0),
  (5, .getstatic 263, 3, [35], 0, 0),
  (8, .arraylength, 1, [], 0, 0),
  (9, .if_icmp .ge 30, 3, [23], 0, 0),
  (12, .iload_n 2, 1, [], 0, 0),
  (13, .iconst 5, 1, [], 5, 0),
  (14, .invokestatic 66, 3, [32], 0, 0),
  (17, .ifCond .eq 22, 3, [23], 0, 0),
  (20, .iload_n 2, 1, [], 0, 0),
  (21, .iload_n 1, 1, [], 0, 0),
  (22, .if_icmp .ne 5, 3, [17], 0, 0),
  (25, .iconst 1, 1, [], 1, 0),
  (26, .ireturn, 1, [], 0, 0),
  (27, .getstatic 263, 3, [35], 0, 0),
  (30, .iload_n 2, 1, [], 0, 0),
  (31, .iaload, 1, [], 0, 0),
  (32, .istore_n 2, 1, [], 0, 0),
  (33, .iinc 3 1, 3, [], 1, 0),
  (36, .goto (-32), 3, [4], 0, 0),
  (39, .iconst 0, 1, [], 0, 0),
  (40, .ireturn, 1, [], 0, 0)]
/-- WindCarver.found -/
def wk_37 : List wc_E := [
  (0, .aload_n 0, 1, [], 0, 0),
  (1, .iload_n 1, 1, [], 0, 0),
  (2, .putfield 61, 3, [0, 9], 0, 0),
  (5, .ldc_w 266, 3, [], (-1000010), 0),
  (8, .iload_n 1, 1, [], 0, 0),
  (9, .isub, 1, [], 0, 0),
  (10, .ireturn, 1, [], 0, 0)]
/-- WindCarver.withoutFinding -/
def wk_38 : List wc_E := [
  (0, .aload_n 0, 1, [], 0, 0),
  (1, .iconst 0, 1, [], 0, 0),
  (2, .putfield 61, 3, [0, 9], 0, 0),
  (5, .iload_n 1, 1, [], 0, 0),
  (6, .ireturn, 1, [], 0, 0)]
/-- WindCarver.findingIn -/
def wk_39 : List wc_E := [
  (0, .aload_n 0, 1, [], 0, 0),
  (1, .getfield 11, 3, [0, 0], 0, 0),
  (4, .iload_n 1, 1, [], 0, 0),
  (5, .aaload, 1, [], 0, 0),
  (6, .getfield 92, 3, [1, 1], 0, 0),
  (9, .ifCond .ne 5, 3, [8], 0, 0),
  (12, .iconst 1, 1, [], 1, 0),
  (13, .ireturn, 1, [], 0, 0),
  (14, .aload_n 0, 1, [], 0, 0),
  (15, .getfield 11, 3, [0, 0], 0, 0),
  (18, .iload_n 1, 1, [], 0, 0),
  (19, .aaload, 1, [], 0, 0),
  (20, .iload_n 2, 1, [], 0, 0),
  (21, .iload_n 3, 1, [], 0, 0),
  (22, .invokevirtual 99, 3, [53], 0, 0),
  (25, .ifCond .eq 7, 3, [18], 0, 0),
  (28, .iconst 0, 1, [], 0, 0),
  (29, .goto 4, 3, [19], 0, 0),
  (32, .iconst 2, 1, [], 2, 0),
  (33, .ireturn, 1, [], 0, 0)]
/-- WindCarver.rowsThere -/
def wk_40 : List wc_E := [
  (0, .iconst 0, 1, [], 0, 0),
  (1, .istore_n 1, 1, [], 0, 0),
  (2, .iconst 0, 1, [], 0, 0),
  (3, .istore_n 2, 1, [], 0, 0),
  (4, .iload_n 2, 1, [], 0, 0),
  (5, .bipush 8, 2, [], 8, 0),
  (7, .if_icmp .ge 24, 3, [16], 0, 0),
  (10, .aload_n 0, 1, [], 0, 0),
  (11, .getfield 11, 3, [0, 0], 0, 0),
  (14, .iload_n 2, 1, [], 0, 0),
  (15, .aaload, 1, [], 0, 0),
  (16, .getfield 92, 3, [1, 1], 0, 0),
  (19, .ifCond .eq 6, 3, [14], 0, 0),
  (22, .iinc 1 1, 3, [], 1, 0),
  (25, .iinc 2 1, 3, [], 1, 0),
  (28, .goto (-24), 3, [4], 0, 0),
  (31, .iload_n 1, 1, [], 0, 0),
  (32, .ireturn, 1, [], 0, 0)]
/-- WindCarver.feltNow -/
def wk_41 : List wc_E := [
  (0, .aload_n 0, 1, [], 0, 0),
  (1, .getfield 35, 3, [0, 4], 0, 0),
  (4, .aload_n 0, 1, [], 0, 0),
  (5, .getfield 25, 3, [0, 2], 0, 0),
  (8, .invokevirtual 204, 3, [74], 0, 0),
  (11, .aload_n 0, 1, [], 0, 0),
  (12, .getfield 35, 3, [0, 4], 0, 0),
  (15, .getfield 195, 3, [4, 0], 0, 0),
  (18, .iload_n 1, 1, [], 0, 0),
  (19, .iaload, 1, [], 0, 0),
  (20, .ireturn, 1, [], 0, 0)]
/-- WindCarver.lostNow -/
def wk_42 : List wc_E := [
  (0, .aload_n 0, 1, [], 0, 0),
  (1, .getfield 35, 3, [0, 4], 0, 0),
  (4, .aload_n 0, 1, [], 0, 0),
  (5, .getfield 25, 3, [0, 2], 0, 0),
  (8, .invokevirtual 204, 3, [74], 0, 0),
  (11, .aload_n 0, 1, [], 0, 0),
  (12, .getfield 35, 3, [0, 4], 0, 0),
  (15, .getfield 198, 3, [4, 2], 0, 0),
  (18, .ireturn, 1, [], 0, 0)]
/-- WindCarver.leavingNow -/
def wk_43 : List wc_E := [
  (0, .aload_n 0, 1, [], 0, 0),
  (1, .getfield 35, 3, [0, 4], 0, 0),
  (4, .aload_n 0, 1, [], 0, 0),
  (5, .getfield 25, 3, [0, 2], 0, 0),
  (8, .invokevirtual 204, 3, [74], 0, 0),
  (11, .iconst 0, 1, [], 0, 0),
  (12, .istore_n 1, 1, [], 0, 0),
  (13, .iconst 0, 1, [], 0, 0),
  (14, .istore_n 2, 1, [], 0, 0),
  (15, .iload_n 2, 1, [], 0, 0),
  (16, .iconst 4, 1, [], 4, 0),
  (17, .if_icmp .ge 21, 3, [22], 0, 0),
  (20, .iload_n 1, 1, [], 0, 0),
  (21, .aload_n 0, 1, [], 0, 0),
  (22, .getfield 35, 3, [0, 4], 0, 0),
  (25, .getfield 201, 3, [4, 1], 0, 0),
  (28, .iload_n 2, 1, [], 0, 0),
  (29, .iaload, 1, [], 0, 0),
  (30, .iadd, 1, [], 0, 0),
  (31, .istore_n 1, 1, [], 0, 0),
  (32, .iinc 2 1, 3, [], 1, 0),
  (35, .goto (-20), 3, [9], 0, 0),
  (38, .iload_n 1, 1, [], 0, 0),
  (39, .ireturn, 1, [], 0, 0)]
/-- WindCarver.spendHour -/
def wk_44 : List wc_E := [
  (0, .aload_n 0, 1, [], 0, 0),
  (1, .getfield 35, 3, [0, 4], 0, 0),
  (4, .aload_n 1, 1, [], 0, 0),
  (5, .invokevirtual 204, 3, [74], 0, 0),
  (8, .aload_n 1, 1, [], 0, 0),
  (9, .aload_n 0, 1, [], 0, 0),
  (10, .getfield 35, 3, [0, 4], 0, 0),
  (13, .getfield 195, 3, [4, 0], 0, 0),
  (16, .invokevirtual 267, 3, [73], 0, 0),
  (19, .return_, 1, [], 0, 0)]
/-- WindCarver.foretell -/
def wk_45 : List wc_E := [
  (0, .aload_n 0, 1, [], 0, 0),
  (1, .getfield 29, 3, [0, 3], 0, 0),
  (4, .aload_n 0, 1, [], 0, 0),
  (5, .getfield 25, 3, [0, 2], 0, 0),
  (8, .invokevirtual 125, 3, [65], 0, 0),
  (11, .iconst 0, 1, [], 0, 0),
  (12, .istore_n 2, 1, [], 0, 0),
  (13, .iload_n 2, 1, [], 0, 0),
  (14, .iload_n 1, 1, [], 0, 0),
  (15, .if_icmp .ge 17, 3, [16], 0, 0),
  (18, .aload_n 0, 1, [], 0, 0),
  (19, .aload_n 0, 1, [], 0, 0),
  (20, .getfield 29, 3, [0, 3], 0, 0),
  (23, .invokevirtual 176, 3, [44], 0, 0),
  (26, .iinc 2 1, 3, [], 1, 0),
  (29, .goto (-16), 3, [7], 0, 0),
  (32, .aload_n 0, 1, [], 0, 0),
  (33, .getfield 35, 3, [0, 4], 0, 0),
  (36, .aload_n 0, 1, [], 0, 0),
  (37, .getfield 29, 3, [0, 3], 0, 0),
  (40, .invokevirtual 204, 3, [74], 0, 0),
  (43, .return_, 1, [], 0, 0)]
/-- WindCarver.isFeltEverywhere -/
def wk_46 : List wc_E := [
  (0, .iconst 0, 1, [], 0, 0),
  (1, .istore_n 3, 1, [], 0, 0),
  (2, .iload_n 3, 1, [], 0, 0),
  (3, .bipush 16, 2, [], 16, 0),
  (5, .if_icmp .ge 28, 3, [20], 0, 0),
  (8, .aload_n 1, 1, [], 0, 0),
  (9, .iload_n 2, 1, [], 0, 0),
  (10, .iload_n 3, 1, [], 0, 0),
  (11, .iadd, 1, [], 0, 0),
  (12, .iaload, 1, [], 0, 0),
  (13, .aload_n 0, 1, [], 0, 0),
  (14, .getfield 35, 3, [0, 4], 0, 0),
  (17, .getfield 195, 3, [4, 0], 0, 0),
  (20, .iload_n 3, 1, [], 0, 0),
  (21, .iaload, 1, [], 0, 0),
  (22, .if_icmp .eq 5, 3, [18], 0, 0),
  (25, .iconst 0, 1, [], 0, 0),
  (26, .ireturn, 1, [], 0, 0),
  (27, .iinc 3 1, 3, [], 1, 0),
  (30, .goto (-28), 3, [2], 0, 0),
  (33, .iconst 1, 1, [], 1, 0),
  (34, .ireturn, 1, [], 0, 0)]
/-- WindCarver.isFeltAlong -/
def wk_47 : List wc_E := [
  (0, .iconst 0, 1, [], 0, 0),
  (1, .istore 4, 2, [], 0, 0),
  (3, .iload 4, 2, [], 0, 0),
  (5, .iconst 4, 1, [], 4, 0),
  (6, .if_icmp .ge 34, 3, [24], 0, 0),
  (9, .aload_n 2, 1, [], 0, 0),
  (10, .iload_n 3, 1, [], 0, 0),
  (11, .iload 4, 2, [], 0, 0),
  (13, .iadd, 1, [], 0, 0),
  (14, .iaload, 1, [], 0, 0),
  (15, .aload_n 0, 1, [], 0, 0),
  (16, .getfield 35, 3, [0, 4], 0, 0),
  (19, .getfield 195, 3, [4, 0], 0, 0),
  (22, .iconst 4, 1, [], 4, 0),
  (23, .iload 4, 2, [], 0, 0),
  (25, .imul, 1, [], 0, 0),
  (26, .iload_n 1, 1, [], 0, 0),
  (27, .iadd, 1, [], 0, 0),
  (28, .iaload, 1, [], 0, 0),
  (29, .if_icmp .eq 5, 3, [22], 0, 0),
  (32, .iconst 0, 1, [], 0, 0),
  (33, .ireturn, 1, [], 0, 0),
  (34, .iinc 4 1, 3, [], 1, 0),
  (37, .goto (-34), 3, [2], 0, 0),
  (40, .iconst 1, 1, [], 1, 0),
  (41, .ireturn, 1, [], 0, 0)]
/-- WindCarver.chooseWalls -/
def wk_48 : List wc_E := [
  (0, .aload_n 0, 1, [], 0, 0),
  (1, .getfield 29, 3, [0, 3], 0, 0),
  (4, .aload_n 0, 1, [], 0, 0),
  (5, .getfield 25, 3, [0, 2], 0, 0),
  (8, .invokevirtual 125, 3, [65], 0, 0),
  (11, .aload_n 0, 1, [], 0, 0),
  (12, .getfield 35, 3, [0, 4], 0, 0),
  (15, .aload_n 0, 1, [], 0, 0),
  (16, .getfield 29, 3, [0, 3], 0, 0),
  (19, .invokevirtual 204, 3, [74], 0, 0),
  (22, .aload_n 0, 1, [], 0, 0),
  (23, .getfield 35, 3, [0, 4], 0, 0),
  (26, .getfield 195, 3, [4, 0], 0, 0),
  (29, .iload_n 1, 1, [], 0, 0),
  (30, .iaload, 1, [], 0, 0),
  (31, .iload_n 2, 1, [], 0, 0),
  (32, .if_icmp .lt 5, 3, [19], 0, 0),
  (35, .iconst 0, 1, [], 0, 0),
  (36, .ireturn, 1, [], 0, 0),
  (37, .aload_n 0, 1, [], 0, 0),
  (38, .iconst 0, 1, [], 0, 0),
  (39, .iconst 0, 1, [], 0, 0),
  (40, .iload_n 1, 1, [], 0, 0),
  (41, .iload_n 2, 1, [], 0, 0),
  (42, .invokevirtual 271, 3, [49], 0, 0),
  (45, .ifCond .eq 5, 3, [28], 0, 0),
  (48, .iconst 1, 1, [], 1, 0),
  (49, .ireturn, 1, [], 0, 0),
  (50, .iconst 0, 1, [], 0, 0),
  (51, .istore_n 3, 1, [], 0, 0),
  (52, .iload_n 3, 1, [], 0, 0),
  (53, .bipush 16, 2, [], 16, 0),
  (55, .if_icmp .ge 60, 3, [66], 0, 0),
  (58, .aload_n 0, 1, [], 0, 0),
  (59, .getfield 25, 3, [0, 2], 0, 0),
  (62, .iload_n 3, 1, [], 0, 0),
  (63, .invokevirtual 147, 3, [69], 0, 0),
  (66, .ifCond .ne 43, 3, [64], 0, 0),
  (69, .aload_n 0, 1, [], 0, 0),
  (70, .getfield 29, 3, [0, 3], 0, 0),
  (73, .iload_n 3, 1, [], 0, 0),
  (74, .iconst 1, 1, [], 1, 0),
  (75, .iconst 0, 1, [], 0, 0),
  (76, .invokevirtual 153, 3, [67], 0, 0),
  (79, .aload_n 0, 1, [], 0, 0),
  (80, .getfield 39, 3, [0, 5], 0, 0),
  (83, .iconst 0, 1, [], 0, 0),
  (84, .iload_n 3, 1, [], 0, 0),
  (85, .iastore, 1, [], 0, 0),
  (86, .aload_n 0, 1, [], 0, 0),
  (87, .iconst 1, 1, [], 1, 0),
  (88, .iload_n 3, 1, [], 0, 0),
  (89, .iconst 1, 1, [], 1, 0),
  (90, .iadd, 1, [], 0, 0),
  (91, .iload_n 1, 1, [], 0, 0),
  (92, .iload_n 2, 1, [], 0, 0),
  (93, .invokevirtual 271, 3, [49], 0, 0),
  (96, .ifCond .eq 5, 3, [60], 0, 0),
  (99, .iconst 2, 1, [], 2, 0),
  (100, .ireturn, 1, [], 0, 0),
  (101, .aload_n 0, 1, [], 0, 0),
  (102, .getfield 29, 3, [0, 3], 0, 0),
  (105, .iload_n 3, 1, [], 0, 0),
  (106, .invokevirtual 157, 3, [68], 0, 0),
  (109, .iinc 3 1, 3, [], 1, 0),
  (112, .goto (-60), 3, [30], 0, 0),
  (115, .ldc 185, 2, [], (-1000000), 0),
  (117, .ireturn, 1, [], 0, 0)]
/-- WindCarver.chooseWall -/
def wk_49 : List wc_E := [
  (0, .iload_n 2, 1, [], 0, 0),
  (1, .istore 5, 2, [], 0, 0),
  (3, .iload 5, 2, [], 0, 0),
  (5, .bipush 16, 2, [], 16, 0),
  (7, .if_icmp .ge 76, 3, [41], 0, 0),
  (10, .aload_n 0, 1, [], 0, 0),
  (11, .getfield 25, 3, [0, 2], 0, 0),
  (14, .iload 5, 2, [], 0, 0),
  (16, .invokevirtual 147, 3, [69], 0, 0),
  (19, .ifCond .ne 58, 3, [39], 0, 0),
  (22, .aload_n 0, 1, [], 0, 0),
  (23, .getfield 29, 3, [0, 3], 0, 0),
  (26, .iload 5, 2, [], 0, 0),
  (28, .iconst 1, 1, [], 1, 0),
  (29, .iconst 0, 1, [], 0, 0),
  (30, .invokevirtual 153, 3, [67], 0, 0),
  (33, .aload_n 0, 1, [], 0, 0),
  (34, .getfield 35, 3, [0, 4], 0, 0),
  (37, .aload_n 0, 1, [], 0, 0),
  (38, .getfield 29, 3, [0, 3], 0, 0),
  (41, .invokevirtual 204, 3, [74], 0, 0),
  (44, .aload_n 0, 1, [], 0, 0),
  (45, .getfield 29, 3, [0, 3], 0, 0),
  (48, .iload 5, 2, [], 0, 0),
  (50, .invokevirtual 157, 3, [68], 0, 0),
  (53, .aload_n 0, 1, [], 0, 0),
  (54, .getfield 35, 3, [0, 4], 0, 0),
  (57, .getfield 195, 3, [4, 0], 0, 0),
  (60, .iload_n 3, 1, [], 0, 0),
  (61, .iaload, 1, [], 0, 0),
  (62, .iload 4, 2, [], 0, 0),
  (64, .if_icmp .lt 13, 3, [39], 0, 0),
  (67, .aload_n 0, 1, [], 0, 0),
  (68, .getfield 39, 3, [0, 5], 0, 0),
  (71, .iload_n 1, 1, [], 0, 0),
  (72, .iload 5, 2, [], 0, 0),
  (74, .iastore, 1, [], 0, 0),
  (75, .iconst 1, 1, [], 1, 0),
  (76, .ireturn, 1, [], 0, 0),
  (77, .iinc 5 1, 3, [], 1, 0),
  (80, .goto (-77), 3, [2], 0, 0),
  (83, .iconst 0, 1, [], 0, 0),
  (84, .ireturn, 1, [], 0, 0)]
/-- WindCarver.breakByLot -/
def wk_50 : List wc_E := [
  (0, .aload_n 0, 1, [], 0, 0),
  (1, .getfield 29, 3, [0, 3], 0, 0),
  (4, .aload_n 0, 1, [], 0, 0),
  (5, .getfield 25, 3, [0, 2], 0, 0),
  (8, .invokevirtual 125, 3, [65], 0, 0),
  (11, .iconst 1, 1, [], 1, 0),
  (12, .istore_n 3, 1, [], 0, 0),
  (13, .iload_n 1, 1, [], 0, 0),
  (14, .istore 4, 2, [], 0, 0),
  (16, .iconst 0, 1, [], 0, 0),
  (17, .istore 5, 2, [], 0, 0),
  (19, .iload 5, 2, [], 0, 0),
  (21, .bipush 16, 2, [], 16, 0),
  (23, .if_icmp .ge 58, 3, [45], 0, 0),
  (26, .aload_n 0, 1, [], 0, 0),
  (27, .getfield 25, 3, [0, 2], 0, 0),
  (30, .iload 5, 2, [], 0, 0),
  (32, .invokevirtual 147, 3, [69], 0, 0),
  (35, .ifCond .eq 40, 3, [43], 0, 0),
  (38, .iload 4, 2, [], 0, 0),
  (40, .iconst 1, 1, [], 1, 0),
  (41, .iand, 1, [], 0, 0),
  (42, .iconst 1, 1, [], 1, 0),
  (43, .if_icmp .ne 19, 3, [33], 0, 0),
  (46, .aload_n 0, 1, [], 0, 0),
  (47, .getfield 29, 3, [0, 3], 0, 0),
  (50, .iload 5, 2, [], 0, 0),
  (52, .invokevirtual 157, 3, [68], 0, 0),
  (55, .iload_n 3, 1, [], 0, 0),
  (56, .iload_n 2, 1, [], 0, 0),
  (57, .imul, 1, [], 0, 0),
  (58, .istore_n 3, 1, [], 0, 0),
  (59, .goto 10, 3, [39], 0, 0),
  (62, .iload_n 3, 1, [], 0, 0),
  (63, .bipush 10, 2, [], 10, 0),
  (65, .iload_n 2, 1, [], 0, 0),
  (66, .isub, 1, [], 0, 0),
  (67, .imul, 1, [], 0, 0),
  (68, .istore_n 3, 1, [], 0, 0),
  (69, .iload 4, 2, [], 0, 0),
  (71, .iconst 1, 1, [], 1, 0),
  (72, .ishr, 1, [], 0, 0),
  (73, .istore 4, 2, [], 0, 0),
  (75, .iinc 5 1, 3, [], 1, 0),
  (78, .goto (-59), 3, [11], 0, 0),
  (81, .iload_n 3, 1, [], 0, 0),
  (82, .ireturn, 1, [], 0, 0)]
/-- WindCarver.commonDivisor -/
def wk_51 : List wc_E := [
  (0, .iload_n 0, 1, [], 0, 0),
  (1, .istore_n 2, 1, [], 0, 0),
  (2, .iload_n 1, 1, [], 0, 0),
  (3, .istore_n 3, 1, [], 0, 0),
  (4, .iconst 0, 1, [], 0, 0),
  (5, .istore 4, 2, [], 0, 0),
  (7, .iload 4, 2, [], 0, 0),
  (9, .bipush 100, 2, [], 100, 0),
  (11, .if_icmp .ge 23, 3, [21], 0, 0),
  (14, .iload_n 3, 1, [], 0, 0),
  (15, .ifCond .le 19, 3, [21], 0, 0),
  (18, .iload_n 2, 1, [], 0, 0),
  (19, .iload_n 3, 1, [], 0, 0),
  (20, .irem, 1, [], 0, 0),
  (21, .istore 5, 2, [], 0, 0),
  (23, .iload_n 3, 1, [], 0, 0),
  (24, .istore_n 2, 1, [], 0, 0),
  (25, .iload 5, 2, [], 0, 0),
  (27, .istore_n 3, 1, [], 0, 0),
  (28, .iinc 4 1, 3, [], 1, 0),
  (31, .goto (-24), 3, [6], 0, 0),
  (34, .iconst 1, 1, [], 1, 0),
  (35, .iload_n 2, 1, [], 0, 0),
  (36, .invokestatic 275, 3, [201], 0, 0),
  (39, .ireturn, 1, [], 0, 0)]
/-- WindCarver_Row.make -/
def wk_52 : List wc_E := [
  (0, .aload_n 0, 1, [], 0, 0),
  (1, .iconst 1, 1, [], 1, 0),
  (2, .putfield 15, 3, [1, 1], 0, 0),
  (5, .aload_n 0, 1, [], 0, 0),
  (6, .iload_n 1, 1, [], 0, 0),
  (7, .putfield 19, 3, [1, 2], 0, 0),
  (10, .aload_n 0, 1, [], 0, 0),
  (11, .iload_n 2, 1, [], 0, 0),
  (12, .putfield 23, 3, [1, 3], 0, 0),
  (15, .iconst 0, 1, [], 0, 0),
  (16, .istore_n 3, 1, [], 0, 0),
  (17, .iload_n 3, 1, [], 0, 0),
  (18, .bipush 40, 2, [], 40, 0),
  (20, .if_icmp .ge 16, 3, [21], 0, 0),
  (23, .aload_n 0, 1, [], 0, 0),
  (24, .getfield 9, 3, [1, 0], 0, 0),
  (27, .iload_n 3, 1, [], 0, 0),
  (28, .iconst 0, 1, [], 0, 0),
  (29, .iastore, 1, [], 0, 0),
  (30, .iinc 3 1, 3, [], 1, 0),
  (33, .goto (-16), 3, [11], 0, 0),
  (36, .return_, 1, [], 0, 0)]
/-- WindCarver_Row.has -/
def wk_53 : List wc_E := [
  (0, .iload_n 1, 1, [], 0, 0),
  (1, .ifCond .lt 21, 3, [12], 0, 0),
  (4, .iload_n 2, 1, [], 0, 0),
  (5, .ifCond .lt 17, 3, [12], 0, 0),
  (8, .iload_n 1, 1, [], 0, 0),
  (9, .aload_n 0, 1, [], 0, 0),
  (10, .getfield 23, 3, [1, 3], 0, 0),
  (13, .iload_n 2, 1, [], 0, 0),
  (14, .isub, 1, [], 0, 0),
  (15, .if_icmp .gt 7, 3, [12], 0, 0),
  (18, .iconst 1, 1, [], 1, 0),
  (19, .goto 4, 3, [13], 0, 0),
  (22, .iconst 0, 1, [], 0, 0),
  (23, .ireturn, 1, [], 0, 0)]
/-- WindCarver_Row.lowestBits -/
def wk_54 : List wc_E := [
  (0, .aload_n 0, 1, [], 0, 0),
  (1, .getfield 19, 3, [1, 2], 0, 0),
  (4, .ifCond .ne 6, 3, [6], 0, 0),
  (7, .iload_n 1, 1, [], 0, 0),
  (8, .i2b, 1, [], 0, 0),
  (9, .ireturn, 1, [], 0, 0),
  (10, .aload_n 0, 1, [], 0, 0),
  (11, .getfield 19, 3, [1, 2], 0, 0),
  (14, .iconst 1, 1, [], 1, 0),
  (15, .if_icmp .ne 8, 3, [13], 0, 0),
  (18, .iload_n 1, 1, [], 0, 0),
  (19, .i2s, 1, [], 0, 0),
  (20, .goto 4, 3, [14], 0, 0),
  (23, .iload_n 1, 1, [], 0, 0),
  (24, .ireturn, 1, [], 0, 0)]
/-- WindCarver_Text.add -/
def wk_55 : List wc_E := [
  (0, .aload_n 0, 1, [], 0, 0),
  (1, .getfield 15, 3, [2, 1], 0, 0),
  (4, .bipush 120, 2, [], 120, 0),
  (6, .if_icmp .lt 5, 3, [6], 0, 0),
  (9, .iconst 0, 1, [], 0, 0),
  (10, .ireturn, 1, [], 0, 0),
  (11, .aload_n 0, 1, [], 0, 0),
  (12, .getfield 11, 3, [2, 0], 0, 0),
  (15, .aload_n 0, 1, [], 0, 0),
  (16, .getfield 15, 3, [2, 1], 0, 0),
  (19, .iload_n 1, 1, [], 0, 0),
  (20, .iastore, 1, [], 0, 0),
  (21, .aload_n 0, 1, [], 0, 0),
  (22, .dup, 1, [], 0, 0),
  (23, .getfield 15, 3, [2, 1], 0, 0),
  (26, .iconst 1, 1, [], 1, 0),
  (27, .iadd, 1, [], 0, 0),
  (28, .putfield 15, 3, [2, 1], 0, 0),
  (31, .iconst 1, 1, [], 1, 0),
  (32, .ireturn, 1, [], 0, 0)]
/-- WindCarver_Text.read -/
def wk_56 : List wc_E := [
  (0, .aload_n 0, 1, [], 0, 0),
  (1, .iconst 0, 1, [], 0, 0),
  (2, .putfield 25, 3, [2, 4], 0, 0),
  (5, .aload_n 1, 1, [], 0, 0),
  (6, .invokevirtual 28, 3, [66], 0, 0),
  (9, .aload_n 0, 1, [], 0, 0),
  (10, .bipush 97, 2, [], 97, 0),
  (12, .aload_n 1, 1, [], 0, 0),
  (13, .getfield 33, 3, [3, 0], 0, 0),
  (16, .invokevirtual 36, 3, [57], 0, 0),
  (19, .ifCond .eq 28, 3, [23], 0, 0),
  (22, .aload_n 0, 1, [], 0, 0),
  (23, .bipush 98, 2, [], 98, 0),
  (25, .aload_n 1, 1, [], 0, 0),
  (26, .getfield 40, 3, [3, 1], 0, 0),
  (29, .invokevirtual 36, 3, [57], 0, 0),
  (32, .ifCond .eq 15, 3, [23], 0, 0),
  (35, .aload_n 0, 1, [], 0, 0),
  (36, .aload_n 1, 1, [], 0, 0),
  (37, .invokevirtual 43, 3, [58], 0, 0),
  (40, .ifCond .eq 7, 3, [23], 0, 0),
  (43, .iconst 1, 1, [], 1, 0),
  (44, .goto 4, 3, [24], 0, 0),
  (47, .iconst 0, 1, [], 0, 0),
  (48, .ireturn, 1, [], 0, 0)]
/-- WindCarver_Text.readLines -/
def wk_57 : List wc_E := [
  (0, .aload_n 0, 1, [], 0, 0),
  (1, .iload_n 1, 1, [], 0, 0),
  (2, .invokevirtual 47, 3, [61], 0, 0),
  (5, .ifCond .ne 5, 3, [6], 0, 0),
  (8, .iconst 0, 1, [], 0, 0),
  (9, .ireturn, 1, [], 0, 0),
  (10, .iconst 0, 1, [], 0, 0),
  (11, .istore_n 3, 1, [], 0, 0),
  (12, .iload_n 3, 1, [], 0, 0),
  (13, .iconst 4, 1, [], 4, 0),
  (14, .if_icmp .ge 45, 3, [34], 0, 0),
  (17, .aload_n 2, 1, [], 0, 0),
  (18, .iload_n 3, 1, [], 0, 0),
  (19, .aload_n 0, 1, [], 0, 0),
  (20, .bipush 31, 2, [], 31, 0),
  (22, .invokevirtual 51, 3, [62], 0, 0),
  (25, .iastore, 1, [], 0, 0),
  (26, .aload_n 2, 1, [], 0, 0),
  (27, .iload_n 3, 1, [], 0, 0),
  (28, .iaload, 1, [], 0, 0),
  (29, .ifCond .lt 22, 3, [30], 0, 0),
  (32, .aload_n 0, 1, [], 0, 0),
  (33, .iload_n 3, 1, [], 0, 0),
  (34, .iconst 3, 1, [], 3, 0),
  (35, .if_icmp .ge 8, 3, [27], 0, 0),
  (38, .bipush 44, 2, [], 44, 0),
  (40, .goto 5, 3, [28], 0, 0),
  (43, .bipush 59, 2, [], 59, 0),
  (45, .invokevirtual 47, 3, [61], 0, 0),
  (48, .ifCond .ne 5, 3, [32], 0, 0),
  (51, .iconst 0, 1, [], 0, 0),
  (52, .ireturn, 1, [], 0, 0),
  (53, .iinc 3 1, 3, [], 1, 0),
  (56, .goto (-44), 3, [8], 0, 0),
  (59, .iconst 1, 1, [], 1, 0),
  (60, .ireturn, 1, [], 0, 0)]
/-- WindCarver_Text.readWorks -/
def wk_58 : List wc_E := [
  (0, .iconst 0, 1, [], 0, 0),
  (1, .istore_n 2, 1, [], 0, 0),
  (2, .iload_n 2, 1, [], 0, 0),
  (3, .bipush 6, 2, [], 6, 0),
  (5, .if_icmp .gt 84, 3, [49], 0, 0),
  (8, .aload_n 0, 1, [], 0, 0),
  (9, .getfield 25, 3, [2, 4], 0, 0),
  (12, .aload_n 0, 1, [], 0, 0),
  (13, .getfield 15, 3, [2, 1], 0, 0),
  (16, .if_icmp .ge 73, 3, [49], 0, 0),
  (19, .aload_n 0, 1, [], 0, 0),
  (20, .getfield 11, 3, [2, 0], 0, 0),
  (23, .aload_n 0, 1, [], 0, 0),
  (24, .getfield 25, 3, [2, 4], 0, 0),
  (27, .iaload, 1, [], 0, 0),
  (28, .invokestatic 55, 3, [60], 0, 0),
  (31, .istore_n 3, 1, [], 0, 0),
  (32, .iload_n 3, 1, [], 0, 0),
  (33, .ifCond .ne 13, 3, [25], 0, 0),
  (36, .aload_n 0, 1, [], 0, 0),
  (37, .iconst 1, 1, [], 1, 0),
  (38, .aload_n 0, 1, [], 0, 0),
  (39, .getfield 25, 3, [2, 4], 0, 0),
  (42, .invokevirtual 58, 3, [64], 0, 0),
  (45, .ireturn, 1, [], 0, 0),
  (46, .iload_n 2, 1, [], 0, 0),
  (47, .bipush 6, 2, [], 6, 0),
  (49, .if_icmp .ne 13, 3, [34], 0, 0),
  (52, .aload_n 0, 1, [], 0, 0),
  (53, .iconst 3, 1, [], 3, 0),
  (54, .aload_n 0, 1, [], 0, 0),
  (55, .getfield 25, 3, [2, 4], 0, 0),
  (58, .invokevirtual 58, 3, [64], 0, 0),
  (61, .ireturn, 1, [], 0, 0),
  (62, .aload_n 0, 1, [], 0, 0),
  (63, .dup, 1, [], 0, 0),
  (64, .getfield 25, 3, [2, 4], 0, 0),
  (67, .iconst 1, 1, [], 1, 0),
  (68, .iadd, 1, [], 0, 0),
  (69, .putfield 25, 3, [2, 4], 0, 0),
  (72, .aload_n 0, 1, [], 0, 0),
  (73, .iload_n 3, 1, [], 0, 0),
  (74, .aload_n 1, 1, [], 0, 0),
  (75, .invokevirtual 62, 3, [59], 0, 0),
  (78, .ifCond .ne 5, 3, [47], 0, 0),
  (81, .iconst 0, 1, [], 0, 0),
  (82, .ireturn, 1, [], 0, 0),
  (83, .iinc 2 1, 3, [], 1, 0),
  (86, .goto (-84), 3, [2], 0, 0),
  (89, .iconst 1, 1, [], 1, 0),
  (90, .ireturn, 1, [], 0, 0)]
/-- WindCarver_Text.readWork -/
def wk_59 : List wc_E := [
  (0, .aload_n 0, 1, [], 0, 0),
  (1, .iconst 3, 1, [], 3, 0),
  (2, .invokevirtual 51, 3, [62], 0, 0),
  (5, .istore_n 3, 1, [], 0, 0),
  (6, .iload_n 3, 1, [], 0, 0),
  (7, .ifCond .lt 12, 3, [10], 0, 0),
  (10, .aload_n 0, 1, [], 0, 0),
  (11, .bipush 44, 2, [], 44, 0),
  (13, .invokevirtual 47, 3, [61], 0, 0),
  (16, .ifCond .ne 5, 3, [12], 0, 0),
  (19, .iconst 0, 1, [], 0, 0),
  (20, .ireturn, 1, [], 0, 0),
  (21, .aload_n 0, 1, [], 0, 0),
  (22, .getfield 25, 3, [2, 4], 0, 0),
  (25, .istore 4, 2, [], 0, 0),
  (27, .aload_n 0, 1, [], 0, 0),
  (28, .iconst 3, 1, [], 3, 0),
  (29, .invokevirtual 51, 3, [62], 0, 0),
  (32, .istore 5, 2, [], 0, 0),
  (34, .iload 5, 2, [], 0, 0),
  (36, .ifCond .ge 5, 3, [23], 0, 0),
  (39, .iconst 0, 1, [], 0, 0),
  (40, .ireturn, 1, [], 0, 0),
  (41, .aload_n 2, 1, [], 0, 0),
  (42, .iconst 4, 1, [], 4, 0),
  (43, .iload_n 3, 1, [], 0, 0),
  (44, .imul, 1, [], 0, 0),
  (45, .iload 5, 2, [], 0, 0),
  (47, .iadd, 1, [], 0, 0),
  (48, .invokevirtual 66, 3, [69], 0, 0),
  (51, .ifCond .eq 11, 3, [36], 0, 0),
  (54, .aload_n 0, 1, [], 0, 0),
  (55, .iconst 2, 1, [], 2, 0),
  (56, .iload 4, 2, [], 0, 0),
  (58, .invokevirtual 58, 3, [64], 0, 0),
  (61, .ireturn, 1, [], 0, 0),
  (62, .aload_n 0, 1, [], 0, 0),
  (63, .bipush 44, 2, [], 44, 0),
  (65, .invokevirtual 47, 3, [61], 0, 0),
  (68, .ifCond .ne 5, 3, [42], 0, 0),
  (71, .iconst 0, 1, [], 0, 0),
  (72, .ireturn, 1, [], 0, 0),
  (73, .aload_n 0, 1, [], 0, 0),
  (74, .bipush 99, 2, [], 99, 0),
  (76, .invokevirtual 51, 3, [62], 0, 0),
  (79, .istore 6, 2, [], 0, 0),
  (81, .iload 6, 2, [], 0, 0),
  (83, .ifCond .lt 12, 3, [52], 0, 0),
  (86, .aload_n 0, 1, [], 0, 0),
  (87, .bipush 59, 2, [], 59, 0),
  (89, .invokevirtual 47, 3, [61], 0, 0),
  (92, .ifCond .ne 5, 3, [54], 0, 0),
  (95, .iconst 0, 1, [], 0, 0),
  (96, .ireturn, 1, [], 0, 0),
  (97, .aload_n 2, 1, [], 0, 0),
  (98, .iconst 4, 1, [], 4, 0),
  (99, .iload_n 3, 1, [], 0, 0),
  (100, .imul, 1, [], 0, 0),
  (101, .iload 5, 2, [], 0, 0),
  (103, .iadd, 1, [], 0, 0),
  (104, .iload_n 1, 1, [], 0, 0),
  (105, .iload 6, 2, [], 0, 0),
  (107, .invokevirtual 69, 3, [67], 0, 0),
  (110, .iconst 1, 1, [], 1, 0),
  (111, .ireturn, 1, [], 0, 0)]
/-- WindCarver_Text.kindOf -/
def wk_60 : List wc_E := [
  (0, .iload_n 0, 1, [], 0, 0),
  (1, .lookupswitch 61 #[(104, 57), (110, 53), (115, 55), (118, 59), (119, 51)], 51, [12, 8, 4, 6, 10, 2], 0, 0),
  (52, .iconst 1, 1, [], 1, 0),
  (53, .ireturn, 1, [], 0, 0),
  (54, .iconst 2, 1, [], 2, 0),
  (55, .ireturn, 1, [], 0, 0),
  (56, .iconst 3, 1, [], 3, 0),
  (57, .ireturn, 1, [], 0, 0),
  (58, .iconst 4, 1, [], 4, 0),
  (59, .ireturn, 1, [], 0, 0),
  (60, .iconst 5, 1, [], 5, 0),
  (61, .ireturn, 1, [], 0, 0),
  (62, .iconst 0, 1, [], 0, 0),
  (63, .ireturn, 1, [], 0, 0)]
/-- WindCarver_Text.readByte -/
def wk_61 : List wc_E := [
  (0, .aload_n 0, 1, [], 0, 0),
  (1, .getfield 25, 3, [2, 4], 0, 0),
  (4, .aload_n 0, 1, [], 0, 0),
  (5, .getfield 15, 3, [2, 1], 0, 0),
  (8, .if_icmp .ge 16, 3, [12], 0, 0),
  (11, .aload_n 0, 1, [], 0, 0),
  (12, .getfield 11, 3, [2, 0], 0, 0),
  (15, .aload_n 0, 1, [], 0, 0),
  (16, .getfield 25, 3, [2, 4], 0, 0),
  (19, .iaload, 1, [], 0, 0),
  (20, .iload_n 1, 1, [], 0, 0),
  (21, .if_icmp .eq 13, 3, [18], 0, 0),
  (24, .aload_n 0, 1, [], 0, 0),
  (25, .iconst 1, 1, [], 1, 0),
  (26, .aload_n 0, 1, [], 0, 0),
  (27, .getfield 25, 3, [2, 4], 0, 0),
  (30, .invokevirtual 58, 3, [64], 0, 0),
  (33, .ireturn, 1, [], 0, 0),
  (34, .aload_n 0, 1, [], 0, 0),
  (35, .dup, 1, [], 0, 0),
  (36, .getfield 25, 3, [2, 4], 0, 0),
  (39, .iconst 1, 1, [], 1, 0),
  (40, .iadd, 1, [], 0, 0),
  (41, .putfield 25, 3, [2, 4], 0, 0),
  (44, .iconst 1, 1, [], 1, 0),
  (45, .ireturn, 1, [], 0, 0)]
/-- WindCarver_Text.readNumber -/
def wk_62 : List wc_E := [
  (0, .iconst 0, 1, [], 0, 0),
  (1, .istore_n 2, 1, [], 0, 0),
  (2, .iconst 0, 1, [], 0, 0),
  (3, .istore_n 3, 1, [], 0, 0),
  (4, .iload_n 2, 1, [], 0, 0),
  (5, .iconst 3, 1, [], 3, 0),
  (6, .if_icmp .ge 59, 3, [39], 0, 0),
  (9, .aload_n 0, 1, [], 0, 0),
  (10, .getfield 25, 3, [2, 4], 0, 0),
  (13, .iload_n 2, 1, [], 0, 0),
  (14, .iadd, 1, [], 0, 0),
  (15, .aload_n 0, 1, [], 0, 0),
  (16, .getfield 15, 3, [2, 1], 0, 0),
  (19, .if_icmp .ge 46, 3, [39], 0, 0),
  (22, .aload_n 0, 1, [], 0, 0),
  (23, .getfield 11, 3, [2, 0], 0, 0),
  (26, .aload_n 0, 1, [], 0, 0),
  (27, .getfield 25, 3, [2, 4], 0, 0),
  (30, .iload_n 2, 1, [], 0, 0),
  (31, .iadd, 1, [], 0, 0),
  (32, .iaload, 1, [], 0, 0),
  (33, .invokestatic 73, 3, [63], 0, 0),
  (36, .ifCond .eq 29, 3, [39], 0, 0),
  (39, .bipush 10, 2, [], 10, 0),
  (41, .iload_n 3, 1, [], 0, 0),
  (42, .imul, 1, [], 0, 0),
  (43, .aload_n 0, 1, [], 0, 0),
  (44, .getfield 11, 3, [2, 0], 0, 0),
  (47, .aload_n 0, 1, [], 0, 0),
  (48, .getfield 25, 3, [2, 4], 0, 0),
  (51, .iload_n 2, 1, [], 0, 0),
  (52, .iadd, 1, [], 0, 0),
  (53, .iaload, 1, [], 0, 0),
  (54, .iadd, 1, [], 0, 0),
  (55, .bipush 48, 2, [], 48, 0),
  (57, .isub, 1, [], 0, 0),
  (58, .istore_n 3, 1, [], 0, 0),
  (59, .iinc 2 1, 3, [], 1, 0),
  (62, .goto (-58), 3, [4], 0, 0),
  (65, .iload_n 2, 1, [], 0, 0),
  (66, .ifCond .eq 8, 3, [44], 0, 0),
  (69, .iload_n 2, 1, [], 0, 0),
  (70, .iconst 3, 1, [], 3, 0),
  (71, .if_icmp .ne 15, 3, [52], 0, 0),
  (74, .aload_n 0, 1, [], 0, 0),
  (75, .iconst 1, 1, [], 1, 0),
  (76, .aload_n 0, 1, [], 0, 0),
  (77, .getfield 25, 3, [2, 4], 0, 0),
  (80, .invokevirtual 58, 3, [64], 0, 0),
  (83, .pop, 1, [], 0, 0),
  (84, .iconst (-1), 1, [], (-1), 0),
  (85, .ireturn, 1, [], 0, 0),
  (86, .iload_n 3, 1, [], 0, 0),
  (87, .iload_n 1, 1, [], 0, 0),
  (88, .if_icmp .le 15, 3, [63], 0, 0),
  (91, .aload_n 0, 1, [], 0, 0),
  (92, .iconst 2, 1, [], 2, 0),
  (93, .aload_n 0, 1, [], 0, 0),
  (94, .getfield 25, 3, [2, 4], 0, 0),
  (97, .invokevirtual 58, 3, [64], 0, 0),
  (100, .pop, 1, [], 0, 0),
  (101, .iconst (-1), 1, [], (-1), 0),
  (102, .ireturn, 1, [], 0, 0),
  (103, .aload_n 0, 1, [], 0, 0),
  (104, .dup, 1, [], 0, 0),
  (105, .getfield 25, 3, [2, 4], 0, 0),
  (108, .iload_n 2, 1, [], 0, 0),
  (109, .iadd, 1, [], 0, 0),
  (110, .putfield 25, 3, [2, 4], 0, 0),
  (113, .iload_n 3, 1, [], 0, 0),
  (114, .ireturn, 1, [], 0, 0)]
/-- WindCarver_Text.isFigure -/
def wk_63 : List wc_E := [
  (0, .iload_n 0, 1, [], 0, 0),
  (1, .bipush 48, 2, [], 48, 0),
  (3, .if_icmp .lt 13, 3, [8], 0, 0),
  (6, .iload_n 0, 1, [], 0, 0),
  (7, .bipush 57, 2, [], 57, 0),
  (9, .if_icmp .gt 7, 3, [8], 0, 0),
  (12, .iconst 1, 1, [], 1, 0),
  (13, .goto 4, 3, [9], 0, 0),
  (16, .iconst 0, 1, [], 0, 0),
  (17, .ireturn, 1, [], 0, 0)]
/-- WindCarver_Text.fail -/
def wk_64 : List wc_E := [
  (0, .aload_n 0, 1, [], 0, 0),
  (1, .iload_n 1, 1, [], 0, 0),
  (2, .putfield 19, 3, [2, 2], 0, 0),
  (5, .aload_n 0, 1, [], 0, 0),
  (6, .iload_n 2, 1, [], 0, 0),
  (7, .putfield 22, 3, [2, 3], 0, 0),
  (10, .iconst 0, 1, [], 0, 0),
  (11, .ireturn, 1, [], 0, 0)]
/-- WindCarver_Pass.become -/
def wk_65 : List wc_E := [
  (0, .aload_n 1, 1, [], 0, 0),
  (1, .getfield 9, 3, [3, 0], 0, 0),
  (4, .iconst 0, 1, [], 0, 0),
  (5, .aload_n 0, 1, [], 0, 0),
  (6, .getfield 9, 3, [3, 0], 0, 0),
  (9, .iconst 0, 1, [], 0, 0),
  (10, .iconst 4, 1, [], 4, 0),
  (11, .invokestatic 35, 3, [200], 0, 0),
  (14, .aload_n 1, 1, [], 0, 0),
  (15, .getfield 15, 3, [3, 1], 0, 0),
  (18, .iconst 0, 1, [], 0, 0),
  (19, .aload_n 0, 1, [], 0, 0),
  (20, .getfield 15, 3, [3, 1], 0, 0),
  (23, .iconst 0, 1, [], 0, 0),
  (24, .iconst 4, 1, [], 4, 0),
  (25, .invokestatic 35, 3, [200], 0, 0),
  (28, .aload_n 1, 1, [], 0, 0),
  (29, .getfield 18, 3, [3, 2], 0, 0),
  (32, .iconst 0, 1, [], 0, 0),
  (33, .aload_n 0, 1, [], 0, 0),
  (34, .getfield 18, 3, [3, 2], 0, 0),
  (37, .iconst 0, 1, [], 0, 0),
  (38, .bipush 16, 2, [], 16, 0),
  (40, .invokestatic 35, 3, [200], 0, 0),
  (43, .aload_n 1, 1, [], 0, 0),
  (44, .getfield 21, 3, [3, 3], 0, 0),
  (47, .iconst 0, 1, [], 0, 0),
  (48, .aload_n 0, 1, [], 0, 0),
  (49, .getfield 21, 3, [3, 3], 0, 0),
  (52, .iconst 0, 1, [], 0, 0),
  (53, .bipush 16, 2, [], 16, 0),
  (55, .invokestatic 35, 3, [200], 0, 0),
  (58, .aload_n 1, 1, [], 0, 0),
  (59, .getfield 24, 3, [3, 4], 0, 0),
  (62, .iconst 0, 1, [], 0, 0),
  (63, .aload_n 0, 1, [], 0, 0),
  (64, .getfield 24, 3, [3, 4], 0, 0),
  (67, .iconst 0, 1, [], 0, 0),
  (68, .bipush 16, 2, [], 16, 0),
  (70, .invokestatic 35, 3, [200], 0, 0),
  (73, .aload_n 0, 1, [], 0, 0),
  (74, .aload_n 1, 1, [], 0, 0),
  (75, .getfield 27, 3, [3, 5], 0, 0),
  (78, .putfield 27, 3, [3, 5], 0, 0),
  (81, .aload_n 0, 1, [], 0, 0),
  (82, .aload_n 1, 1, [], 0, 0),
  (83, .getfield 31, 3, [3, 6], 0, 0),
  (86, .putfield 31, 3, [3, 6], 0, 0),
  (89, .return_, 1, [], 0, 0)]
/-- WindCarver_Pass.begin -/
def wk_66 : List wc_E := [
  (0, .iconst 0, 1, [], 0, 0),
  (1, .istore_n 1, 1, [], 0, 0),
  (2, .iload_n 1, 1, [], 0, 0),
  (3, .bipush 16, 2, [], 16, 0),
  (5, .if_icmp .ge 14, 3, [10], 0, 0),
  (8, .aload_n 0, 1, [], 0, 0),
  (9, .iload_n 1, 1, [], 0, 0),
  (10, .invokevirtual 41, 3, [68], 0, 0),
  (13, .iinc 1 1, 3, [], 1, 0),
  (16, .goto (-14), 3, [2], 0, 0),
  (19, .aload_n 0, 1, [], 0, 0),
  (20, .iconst 1, 1, [], 1, 0),
  (21, .putfield 27, 3, [3, 5], 0, 0),
  (24, .aload_n 0, 1, [], 0, 0),
  (25, .iconst 0, 1, [], 0, 0),
  (26, .putfield 31, 3, [3, 6], 0, 0),
  (29, .return_, 1, [], 0, 0)]
/-- WindCarver_Pass.put -/
def wk_67 : List wc_E := [
  (0, .aload_n 0, 1, [], 0, 0),
  (1, .getfield 18, 3, [3, 2], 0, 0),
  (4, .iload_n 1, 1, [], 0, 0),
  (5, .iload_n 2, 1, [], 0, 0),
  (6, .iastore, 1, [], 0, 0),
  (7, .aload_n 0, 1, [], 0, 0),
  (8, .getfield 21, 3, [3, 3], 0, 0),
  (11, .iload_n 1, 1, [], 0, 0),
  (12, .iload_n 3, 1, [], 0, 0),
  (13, .iastore, 1, [], 0, 0),
  (14, .aload_n 0, 1, [], 0, 0),
  (15, .getfield 24, 3, [3, 4], 0, 0),
  (18, .iload_n 1, 1, [], 0, 0),
  (19, .iconst 0, 1, [], 0, 0),
  (20, .iastore, 1, [], 0, 0),
  (21, .return_, 1, [], 0, 0)]
/-- WindCarver_Pass.clear -/
def wk_68 : List wc_E := [
  (0, .aload_n 0, 1, [], 0, 0),
  (1, .iload_n 1, 1, [], 0, 0),
  (2, .iconst 0, 1, [], 0, 0),
  (3, .iconst 0, 1, [], 0, 0),
  (4, .invokevirtual 45, 3, [67], 0, 0),
  (7, .return_, 1, [], 0, 0)]
/-- WindCarver_Pass.hasWork -/
def wk_69 : List wc_E := [
  (0, .aload_n 0, 1, [], 0, 0),
  (1, .getfield 18, 3, [3, 2], 0, 0),
  (4, .iload_n 1, 1, [], 0, 0),
  (5, .iaload, 1, [], 0, 0),
  (6, .ifCond .eq 7, 3, [7], 0, 0),
  (9, .iconst 1, 1, [], 1, 0),
  (10, .goto 4, 3, [8], 0, 0),
  (13, .iconst 0, 1, [], 0, 0),
  (14, .ireturn, 1, [], 0, 0)]
/-- WindCarver_Pass.works -/
def wk_70 : List wc_E := [
  (0, .iconst 0, 1, [], 0, 0),
  (1, .istore_n 1, 1, [], 0, 0),
  (2, .iconst 0, 1, [], 0, 0),
  (3, .istore_n 2, 1, [], 0, 0),
  (4, .iload_n 2, 1, [], 0, 0),
  (5, .bipush 16, 2, [], 16, 0),
  (7, .if_icmp .ge 20, 3, [14], 0, 0),
  (10, .aload_n 0, 1, [], 0, 0),
  (11, .iload_n 2, 1, [], 0, 0),
  (12, .invokevirtual 49, 3, [69], 0, 0),
  (15, .ifCond .eq 6, 3, [12], 0, 0),
  (18, .iinc 1 1, 3, [], 1, 0),
  (21, .iinc 2 1, 3, [], 1, 0),
  (24, .goto (-20), 3, [4], 0, 0),
  (27, .iload_n 1, 1, [], 0, 0),
  (28, .ireturn, 1, [], 0, 0)]
/-- WindCarver_Pass.isTooMuch -/
def wk_71 : List wc_E := [
  (0, .aload_n 0, 1, [], 0, 0),
  (1, .iload_n 1, 1, [], 0, 0),
  (2, .invokevirtual 49, 3, [69], 0, 0),
  (5, .ifCond .eq 17, 3, [12], 0, 0),
  (8, .iload_n 2, 1, [], 0, 0),
  (9, .aload_n 0, 1, [], 0, 0),
  (10, .getfield 21, 3, [3, 3], 0, 0),
  (13, .iload_n 1, 1, [], 0, 0),
  (14, .iaload, 1, [], 0, 0),
  (15, .if_icmp .le 7, 3, [12], 0, 0),
  (18, .iconst 1, 1, [], 1, 0),
  (19, .goto 4, 3, [13], 0, 0),
  (22, .iconst 0, 1, [], 0, 0),
  (23, .ireturn, 1, [], 0, 0)]
/-- WindCarver_Pass.firstToBreak -/
def wk_72 : List wc_E := [
  (0, .iconst 0, 1, [], 0, 0),
  (1, .istore_n 2, 1, [], 0, 0),
  (2, .iload_n 2, 1, [], 0, 0),
  (3, .bipush 16, 2, [], 16, 0),
  (5, .if_icmp .ge 22, 3, [16], 0, 0),
  (8, .aload_n 0, 1, [], 0, 0),
  (9, .iload_n 2, 1, [], 0, 0),
  (10, .aload_n 1, 1, [], 0, 0),
  (11, .iload_n 2, 1, [], 0, 0),
  (12, .iaload, 1, [], 0, 0),
  (13, .invokevirtual 53, 3, [71], 0, 0),
  (16, .ifCond .eq 5, 3, [14], 0, 0),
  (19, .iload_n 2, 1, [], 0, 0),
  (20, .ireturn, 1, [], 0, 0),
  (21, .iinc 2 1, 3, [], 1, 0),
  (24, .goto (-22), 3, [2], 0, 0),
  (27, .ldc 57, 2, [], (-1000000), 0),
  (29, .ireturn, 1, [], 0, 0)]
/-- WindCarver_Pass.breakAndRise -/
def wk_73 : List wc_E := [
  (0, .iconst 0, 1, [], 0, 0),
  (1, .istore_n 2, 1, [], 0, 0),
  (2, .iload_n 2, 1, [], 0, 0),
  (3, .bipush 16, 2, [], 16, 0),
  (5, .if_icmp .ge 25, 3, [17], 0, 0),
  (8, .aload_n 0, 1, [], 0, 0),
  (9, .iload_n 2, 1, [], 0, 0),
  (10, .aload_n 1, 1, [], 0, 0),
  (11, .iload_n 2, 1, [], 0, 0),
  (12, .iaload, 1, [], 0, 0),
  (13, .invokevirtual 53, 3, [71], 0, 0),
  (16, .ifCond .eq 8, 3, [15], 0, 0),
  (19, .aload_n 0, 1, [], 0, 0),
  (20, .iload_n 2, 1, [], 0, 0),
  (21, .invokevirtual 41, 3, [68], 0, 0),
  (24, .iinc 2 1, 3, [], 1, 0),
  (27, .goto (-25), 3, [2], 0, 0),
  (30, .aload_n 0, 1, [], 0, 0),
  (31, .dup, 1, [], 0, 0),
  (32, .getfield 31, 3, [3, 6], 0, 0),
  (35, .iconst 1, 1, [], 1, 0),
  (36, .iadd, 1, [], 0, 0),
  (37, .putfield 31, 3, [3, 6], 0, 0),
  (40, .iconst 0, 1, [], 0, 0),
  (41, .istore_n 2, 1, [], 0, 0),
  (42, .iload_n 2, 1, [], 0, 0),
  (43, .iconst 4, 1, [], 4, 0),
  (44, .if_icmp .ge 31, 3, [45], 0, 0),
  (47, .aload_n 0, 1, [], 0, 0),
  (48, .getfield 9, 3, [3, 0], 0, 0),
  (51, .iload_n 2, 1, [], 0, 0),
  (52, .aload_n 0, 1, [], 0, 0),
  (53, .getfield 9, 3, [3, 0], 0, 0),
  (56, .iload_n 2, 1, [], 0, 0),
  (57, .iaload, 1, [], 0, 0),
  (58, .aload_n 0, 1, [], 0, 0),
  (59, .getfield 15, 3, [3, 1], 0, 0),
  (62, .iload_n 2, 1, [], 0, 0),
  (63, .iaload, 1, [], 0, 0),
  (64, .iadd, 1, [], 0, 0),
  (65, .bipush 32, 2, [], 32, 0),
  (67, .irem, 1, [], 0, 0),
  (68, .iastore, 1, [], 0, 0),
  (69, .iinc 2 1, 3, [], 1, 0),
  (72, .goto (-30), 3, [25], 0, 0),
  (75, .return_, 1, [], 0, 0)]
/-- WindCarver_Air.blow -/
def wk_74 : List wc_E := [
  (0, .iconst 0, 1, [], 0, 0),
  (1, .istore_n 2, 1, [], 0, 0),
  (2, .iload_n 2, 1, [], 0, 0),
  (3, .bipush 16, 2, [], 16, 0),
  (5, .if_icmp .ge 30, 3, [20], 0, 0),
  (8, .aload_n 0, 1, [], 0, 0),
  (9, .getfield 9, 3, [4, 0], 0, 0),
  (12, .iload_n 2, 1, [], 0, 0),
  (13, .iload_n 2, 1, [], 0, 0),
  (14, .iconst 4, 1, [], 4, 0),
  (15, .if_icmp .ge 12, 3, [16], 0, 0),
  (18, .aload_n 1, 1, [], 0, 0),
  (19, .getfield 22, 3, [3, 0], 0, 0),
  (22, .iload_n 2, 1, [], 0, 0),
  (23, .iaload, 1, [], 0, 0),
  (24, .goto 4, 3, [17], 0, 0),
  (27, .iconst 0, 1, [], 0, 0),
  (28, .iastore, 1, [], 0, 0),
  (29, .iinc 2 1, 3, [], 1, 0),
  (32, .goto (-30), 3, [2], 0, 0),
  (35, .iconst 0, 1, [], 0, 0),
  (36, .istore_n 2, 1, [], 0, 0),
  (37, .iload_n 2, 1, [], 0, 0),
  (38, .iconst 4, 1, [], 4, 0),
  (39, .if_icmp .ge 16, 3, [32], 0, 0),
  (42, .aload_n 0, 1, [], 0, 0),
  (43, .getfield 15, 3, [4, 1], 0, 0),
  (46, .iload_n 2, 1, [], 0, 0),
  (47, .iconst 0, 1, [], 0, 0),
  (48, .iastore, 1, [], 0, 0),
  (49, .iinc 2 1, 3, [], 1, 0),
  (52, .goto (-15), 3, [22], 0, 0),
  (55, .aload_n 0, 1, [], 0, 0),
  (56, .iconst 0, 1, [], 0, 0),
  (57, .putfield 18, 3, [4, 2], 0, 0),
  (60, .iconst 0, 1, [], 0, 0),
  (61, .istore_n 2, 1, [], 0, 0),
  (62, .iload_n 2, 1, [], 0, 0),
  (63, .bipush 16, 2, [], 16, 0),
  (65, .if_icmp .ge 21, 3, [50], 0, 0),
  (68, .aload_n 0, 1, [], 0, 0),
  (69, .iload_n 2, 1, [], 0, 0),
  (70, .aload_n 0, 1, [], 0, 0),
  (71, .aload_n 1, 1, [], 0, 0),
  (72, .iload_n 2, 1, [], 0, 0),
  (73, .invokevirtual 27, 3, [75], 0, 0),
  (76, .aload_n 1, 1, [], 0, 0),
  (77, .invokevirtual 31, 3, [76], 0, 0),
  (80, .iinc 2 1, 3, [], 1, 0),
  (83, .goto (-21), 3, [37], 0, 0),
  (86, .return_, 1, [], 0, 0)]
/-- WindCarver_Air.on -/
def wk_75 : List wc_E := [
  (0, .aload_n 1, 1, [], 0, 0),
  (1, .getfield 35, 3, [3, 2], 0, 0),
  (4, .iload_n 2, 1, [], 0, 0),
  (5, .iaload, 1, [], 0, 0),
  (6, .tableswitch 67 0 3 #[30, 67, 37, 46], 30, [30, 5, 30, 10, 17], 0, 0),
  (36, .aload_n 0, 1, [], 0, 0),
  (37, .getfield 9, 3, [4, 0], 0, 0),
  (40, .iload_n 2, 1, [], 0, 0),
  (41, .iaload, 1, [], 0, 0),
  (42, .ireturn, 1, [], 0, 0),
  (43, .aload_n 0, 1, [], 0, 0),
  (44, .getfield 9, 3, [4, 0], 0, 0),
  (47, .iload_n 2, 1, [], 0, 0),
  (48, .iaload, 1, [], 0, 0),
  (49, .iconst 2, 1, [], 2, 0),
  (50, .idiv, 1, [], 0, 0),
  (51, .ireturn, 1, [], 0, 0),
  (52, .aload_n 1, 1, [], 0, 0),
  (53, .getfield 38, 3, [3, 4], 0, 0),
  (56, .iload_n 2, 1, [], 0, 0),
  (57, .iaload, 1, [], 0, 0),
  (58, .iconst 1, 1, [], 1, 0),
  (59, .if_icmp .ne 12, 3, [28], 0, 0),
  (62, .aload_n 0, 1, [], 0, 0),
  (63, .getfield 9, 3, [4, 0], 0, 0),
  (66, .iload_n 2, 1, [], 0, 0),
  (67, .iaload, 1, [], 0, 0),
  (68, .goto 4, 3, [29], 0, 0),
  (71, .iconst 0, 1, [], 0, 0),
  (72, .ireturn, 1, [], 0, 0),
  (73, .iconst 0, 1, [], 0, 0),
  (74, .ireturn, 1, [], 0, 0)]
/-- WindCarver_Air.part -/
def wk_76 : List wc_E := [
  (0, .aload_n 0, 1, [], 0, 0),
  (1, .getfield 9, 3, [4, 0], 0, 0),
  (4, .iload_n 1, 1, [], 0, 0),
  (5, .iaload, 1, [], 0, 0),
  (6, .iload_n 2, 1, [], 0, 0),
  (7, .isub, 1, [], 0, 0),
  (8, .istore 4, 2, [], 0, 0),
  (10, .aload_n 3, 1, [], 0, 0),
  (11, .getfield 35, 3, [3, 2], 0, 0),
  (14, .iload_n 1, 1, [], 0, 0),
  (15, .iaload, 1, [], 0, 0),
  (16, .iload 4, 2, [], 0, 0),
  (18, .aload_n 3, 1, [], 0, 0),
  (19, .getfield 41, 3, [3, 6], 0, 0),
  (22, .invokestatic 44, 3, [77], 0, 0),
  (25, .istore 5, 2, [], 0, 0),
  (27, .iload_n 1, 1, [], 0, 0),
  (28, .iconst 4, 1, [], 4, 0),
  (29, .idiv, 1, [], 0, 0),
  (30, .iconst 1, 1, [], 1, 0),
  (31, .iadd, 1, [], 0, 0),
  (32, .istore 6, 2, [], 0, 0),
  (34, .iload_n 1, 1, [], 0, 0),
  (35, .iconst 4, 1, [], 4, 0),
  (36, .irem, 1, [], 0, 0),
  (37, .istore 7, 2, [], 0, 0),
  (39, .aload_n 0, 1, [], 0, 0),
  (40, .iload 6, 2, [], 0, 0),
  (42, .iload 7, 2, [], 0, 0),
  (44, .iload_n 2, 1, [], 0, 0),
  (45, .invokevirtual 48, 3, [78], 0, 0),
  (48, .aload_n 0, 1, [], 0, 0),
  (49, .iload 6, 2, [], 0, 0),
  (51, .iload 7, 2, [], 0, 0),
  (53, .iconst 1, 1, [], 1, 0),
  (54, .isub, 1, [], 0, 0),
  (55, .iload 5, 2, [], 0, 0),
  (57, .invokevirtual 48, 3, [78], 0, 0),
  (60, .aload_n 0, 1, [], 0, 0),
  (61, .iload 6, 2, [], 0, 0),
  (63, .iload 7, 2, [], 0, 0),
  (65, .iconst 1, 1, [], 1, 0),
  (66, .iadd, 1, [], 0, 0),
  (67, .iload 4, 2, [], 0, 0),
  (69, .iload 5, 2, [], 0, 0),
  (71, .isub, 1, [], 0, 0),
  (72, .invokevirtual 48, 3, [78], 0, 0),
  (75, .return_, 1, [], 0, 0)]
/-- WindCarver_Air.north -/
def wk_77 : List wc_E := [
  (0, .iload_n 0, 1, [], 0, 0),
  (1, .lookupswitch 41 #[(4, 27), (5, 29)], 27, [12, 2, 4], 0, 0),
  (28, .iload_n 1, 1, [], 0, 0),
  (29, .ireturn, 1, [], 0, 0),
  (30, .iload_n 2, 1, [], 0, 0),
  (31, .iconst 2, 1, [], 2, 0),
  (32, .irem, 1, [], 0, 0),
  (33, .ifCond .ne 7, 3, [10], 0, 0),
  (36, .iload_n 1, 1, [], 0, 0),
  (37, .goto 4, 3, [11], 0, 0),
  (40, .iconst 0, 1, [], 0, 0),
  (41, .ireturn, 1, [], 0, 0),
  (42, .iload_n 1, 1, [], 0, 0),
  (43, .iconst 2, 1, [], 2, 0),
  (44, .idiv, 1, [], 0, 0),
  (45, .ireturn, 1, [], 0, 0)]
/-- WindCarver_Air.bring -/
def wk_78 : List wc_E := [
  (0, .iload_n 2, 1, [], 0, 0),
  (1, .ifCond .lt 8, 3, [5], 0, 0),
  (4, .iload_n 2, 1, [], 0, 0),
  (5, .iconst 4, 1, [], 4, 0),
  (6, .if_icmp .lt 16, 3, [12], 0, 0),
  (9, .aload_n 0, 1, [], 0, 0),
  (10, .dup, 1, [], 0, 0),
  (11, .getfield 18, 3, [4, 2], 0, 0),
  (14, .iload_n 3, 1, [], 0, 0),
  (15, .iadd, 1, [], 0, 0),
  (16, .putfield 18, 3, [4, 2], 0, 0),
  (19, .goto 35, 3, [36], 0, 0),
  (22, .iload_n 1, 1, [], 0, 0),
  (23, .iconst 4, 1, [], 4, 0),
  (24, .if_icmp .lt 16, 3, [24], 0, 0),
  (27, .aload_n 0, 1, [], 0, 0),
  (28, .getfield 15, 3, [4, 1], 0, 0),
  (31, .iload_n 2, 1, [], 0, 0),
  (32, .dup2, 1, [], 0, 0),
  (33, .iaload, 1, [], 0, 0),
  (34, .iload_n 3, 1, [], 0, 0),
  (35, .iadd, 1, [], 0, 0),
  (36, .iastore, 1, [], 0, 0),
  (37, .goto 17, 3, [36], 0, 0),
  (40, .aload_n 0, 1, [], 0, 0),
  (41, .getfield 9, 3, [4, 0], 0, 0),
  (44, .iconst 4, 1, [], 4, 0),
  (45, .iload_n 1, 1, [], 0, 0),
  (46, .imul, 1, [], 0, 0),
  (47, .iload_n 2, 1, [], 0, 0),
  (48, .iadd, 1, [], 0, 0),
  (49, .dup2, 1, [], 0, 0),
  (50, .iaload, 1, [], 0, 0),
  (51, .iload_n 3, 1, [], 0, 0),
  (52, .iadd, 1, [], 0, 0),
  (53, .iastore, 1, [], 0, 0),
  (54, .return_, 1, [], 0, 0)]
/-- WindCarver_Acts.keep -/
def wk_79 : List wc_E := [
  (0, .aload_n 0, 1, [], 0, 0),
  (1, .getfield 11, 3, [5, 0], 0, 0),
  (4, .aload_n 0, 1, [], 0, 0),
  (5, .getfield 17, 3, [5, 1], 0, 0),
  (8, .aaload, 1, [], 0, 0),
  (9, .aload_n 1, 1, [], 0, 0),
  (10, .invokevirtual 25, 3, [65], 0, 0),
  (13, .aload_n 0, 1, [], 0, 0),
  (14, .aload_n 0, 1, [], 0, 0),
  (15, .getfield 17, 3, [5, 1], 0, 0),
  (18, .iconst 1, 1, [], 1, 0),
  (19, .iadd, 1, [], 0, 0),
  (20, .bipush 24, 2, [], 24, 0),
  (22, .irem, 1, [], 0, 0),
  (23, .putfield 17, 3, [5, 1], 0, 0),
  (26, .aload_n 0, 1, [], 0, 0),
  (27, .aload_n 0, 1, [], 0, 0),
  (28, .getfield 21, 3, [5, 2], 0, 0),
  (31, .iconst 1, 1, [], 1, 0),
  (32, .iadd, 1, [], 0, 0),
  (33, .bipush 24, 2, [], 24, 0),
  (35, .invokestatic 29, 3, [202], 0, 0),
  (38, .putfield 21, 3, [5, 2], 0, 0),
  (41, .return_, 1, [], 0, 0)]
/-- WindCarver_Acts.takeBack -/
def wk_80 : List wc_E := [
  (0, .aload_n 0, 1, [], 0, 0),
  (1, .aload_n 0, 1, [], 0, 0),
  (2, .getfield 17, 3, [5, 1], 0, 0),
  (5, .bipush 24, 2, [], 24, 0),
  (7, .iadd, 1, [], 0, 0),
  (8, .iconst 1, 1, [], 1, 0),
  (9, .isub, 1, [], 0, 0),
  (10, .bipush 24, 2, [], 24, 0),
  (12, .irem, 1, [], 0, 0),
  (13, .putfield 17, 3, [5, 1], 0, 0),
  (16, .aload_n 0, 1, [], 0, 0),
  (17, .dup, 1, [], 0, 0),
  (18, .getfield 21, 3, [5, 2], 0, 0),
  (21, .iconst 1, 1, [], 1, 0),
  (22, .isub, 1, [], 0, 0),
  (23, .putfield 21, 3, [5, 2], 0, 0),
  (26, .aload_n 1, 1, [], 0, 0),
  (27, .aload_n 0, 1, [], 0, 0),
  (28, .getfield 11, 3, [5, 0], 0, 0),
  (31, .aload_n 0, 1, [], 0, 0),
  (32, .getfield 17, 3, [5, 1], 0, 0),
  (35, .aaload, 1, [], 0, 0),
  (36, .invokevirtual 25, 3, [65], 0, 0),
  (39, .return_, 1, [], 0, 0)]
/-- WindCarver_Asked.askSize -/
def wk_81 : List wc_E := [
  (0, .aload_n 0, 1, [], 0, 0),
  (1, .iconst 0, 1, [], 0, 0),
  (2, .putfield 15, 3, [6, 1], 0, 0),
  (5, .aload_n 0, 1, [], 0, 0),
  (6, .getstatic 31, 3, [36], 0, 0),
  (9, .aload_n 0, 1, [], 0, 0),
  (10, .getfield 19, 3, [6, 2], 0, 0),
  (13, .iaload, 1, [], 0, 0),
  (14, .iconst 0, 1, [], 0, 0),
  (15, .invokestatic 34, 3, [83], 0, 0),
  (18, .ireturn, 1, [], 0, 0)]
/-- WindCarver_Asked.askMark -/
def wk_82 : List wc_E := [
  (0, .aload_n 0, 1, [], 0, 0),
  (1, .iconst 0, 1, [], 0, 0),
  (2, .putfield 15, 3, [6, 1], 0, 0),
  (5, .aload_n 0, 1, [], 0, 0),
  (6, .getstatic 38, 3, [37], 0, 0),
  (9, .aload_n 0, 1, [], 0, 0),
  (10, .getfield 19, 3, [6, 2], 0, 0),
  (13, .iaload, 1, [], 0, 0),
  (14, .iconst 0, 1, [], 0, 0),
  (15, .invokestatic 34, 3, [83], 0, 0),
  (18, .ireturn, 1, [], 0, 0)]
/-- WindCarver_Asked.body -/
def wk_83 : List wc_E := [
  (0, .iload_n 2, 1, [], 0, 0),
  (1, .bipush 16, 2, [], 16, 0),
  (3, .if_icmp .le 5, 3, [5], 0, 0),
  (6, .iconst 0, 1, [], 0, 0),
  (7, .ireturn, 1, [], 0, 0),
  (8, .aload_n 0, 1, [], 0, 0),
  (9, .iload_n 1, 1, [], 0, 0),
  (10, .invokevirtual 41, 3, [84], 0, 0),
  (13, .iload_n 2, 1, [], 0, 0),
  (14, .iconst 1, 1, [], 1, 0),
  (15, .iadd, 1, [], 0, 0),
  (16, .istore_n 3, 1, [], 0, 0),
  (17, .iload_n 1, 1, [], 0, 0),
  (18, .tableswitch 193 10 24 #[74, 79, 101, 110, 121, 193, 193, 193, 193, 193, 131, 136, 149, 161, 183], 74, [88, 14, 17, 30, 36, 43, 88, 88, 88, 88, 88, 50, 53, 61, 68, 81], 10, 0),
  (92, .aload_n 0, 1, [], 0, 0),
  (93, .getfield 22, 3, [6, 3], 0, 0),
  (96, .ireturn, 1, [], 0, 0),
  (97, .aload_n 0, 1, [], 0, 0),
  (98, .bipush 10, 2, [], 10, 0),
  (100, .iload_n 3, 1, [], 0, 0),
  (101, .invokestatic 34, 3, [83], 0, 0),
  (104, .aload_n 0, 1, [], 0, 0),
  (105, .getstatic 38, 3, [37], 0, 0),
  (108, .aload_n 0, 1, [], 0, 0),
  (109, .getfield 19, 3, [6, 2], 0, 0),
  (112, .iaload, 1, [], 0, 0),
  (113, .iload_n 3, 1, [], 0, 0),
  (114, .invokestatic 34, 3, [83], 0, 0),
  (117, .iadd, 1, [], 0, 0),
  (118, .ireturn, 1, [], 0, 0),
  (119, .aload_n 0, 1, [], 0, 0),
  (120, .bipush 11, 2, [], 11, 0),
  (122, .iload_n 3, 1, [], 0, 0),
  (123, .invokestatic 34, 3, [83], 0, 0),
  (126, .ineg, 1, [], 0, 0),
  (127, .ireturn, 1, [], 0, 0),
  (128, .aload_n 0, 1, [], 0, 0),
  (129, .bipush 10, 2, [], 10, 0),
  (131, .iload_n 3, 1, [], 0, 0),
  (132, .invokestatic 34, 3, [83], 0, 0),
  (135, .bipush 100, 2, [], 100, 0),
  (137, .isub, 1, [], 0, 0),
  (138, .ireturn, 1, [], 0, 0),
  (139, .iconst 2, 1, [], 2, 0),
  (140, .aload_n 0, 1, [], 0, 0),
  (141, .bipush 13, 2, [], 13, 0),
  (143, .iload_n 3, 1, [], 0, 0),
  (144, .invokestatic 34, 3, [83], 0, 0),
  (147, .imul, 1, [], 0, 0),
  (148, .ireturn, 1, [], 0, 0),
  (149, .aload_n 0, 1, [], 0, 0),
  (150, .getfield 25, 3, [6, 4], 0, 0),
  (153, .ireturn, 1, [], 0, 0),
  (154, .aload_n 0, 1, [], 0, 0),
  (155, .bipush 20, 2, [], 20, 0),
  (157, .iload_n 3, 1, [], 0, 0),
  (158, .invokestatic 34, 3, [83], 0, 0),
  (161, .aload_n 0, 1, [], 0, 0),
  (162, .getfield 28, 3, [6, 5], 0, 0),
  (165, .iadd, 1, [], 0, 0),
  (166, .ireturn, 1, [], 0, 0),
  (167, .aload_n 0, 1, [], 0, 0),
  (168, .bipush 21, 2, [], 21, 0),
  (170, .iload_n 3, 1, [], 0, 0),
  (171, .invokestatic 34, 3, [83], 0, 0),
  (174, .sipush 1000, 3, [], 1000, 0),
  (177, .isub, 1, [], 0, 0),
  (178, .ireturn, 1, [], 0, 0),
  (179, .aload_n 0, 1, [], 0, 0),
  (180, .bipush 20, 2, [], 20, 0),
  (182, .iload_n 3, 1, [], 0, 0),
  (183, .invokestatic 34, 3, [83], 0, 0),
  (186, .aload_n 0, 1, [], 0, 0),
  (187, .getstatic 31, 3, [36], 0, 0),
  (190, .aload_n 0, 1, [], 0, 0),
  (191, .getfield 19, 3, [6, 2], 0, 0),
  (194, .iaload, 1, [], 0, 0),
  (195, .iload_n 3, 1, [], 0, 0),
  (196, .invokestatic 34, 3, [83], 0, 0),
  (199, .isub, 1, [], 0, 0),
  (200, .ireturn, 1, [], 0, 0),
  (201, .iconst 2, 1, [], 2, 0),
  (202, .aload_n 0, 1, [], 0, 0),
  (203, .bipush 21, 2, [], 21, 0),
  (205, .iload_n 3, 1, [], 0, 0),
  (206, .invokestatic 34, 3, [83], 0, 0),
  (209, .imul, 1, [], 0, 0),
  (210, .ireturn, 1, [], 0, 0),
  (211, .iconst 0, 1, [], 0, 0),
  (212, .ireturn, 1, [], 0, 0)]
/-- WindCarver_Asked.leave -/
def wk_84 : List wc_E := [
  (0, .aload_n 0, 1, [], 0, 0),
  (1, .getfield 15, 3, [6, 1], 0, 0),
  (4, .bipush 16, 2, [], 16, 0),
  (6, .if_icmp .ge 23, 3, [16], 0, 0),
  (9, .aload_n 0, 1, [], 0, 0),
  (10, .getfield 11, 3, [6, 0], 0, 0),
  (13, .aload_n 0, 1, [], 0, 0),
  (14, .getfield 15, 3, [6, 1], 0, 0),
  (17, .iload_n 1, 1, [], 0, 0),
  (18, .iastore, 1, [], 0, 0),
  (19, .aload_n 0, 1, [], 0, 0),
  (20, .dup, 1, [], 0, 0),
  (21, .getfield 15, 3, [6, 1], 0, 0),
  (24, .iconst 1, 1, [], 1, 0),
  (25, .iadd, 1, [], 0, 0),
  (26, .putfield 15, 3, [6, 1], 0, 0),
  (29, .return_, 1, [], 0, 0)]
/-- WindCarverModel.in -/
def wk_85 : List wc_E := [
  (0, .lload_n 0, 1, [], 0, 0),
  (1, .lload_n 2, 1, [], 0, 0),
  (2, .lcmp, 1, [], 0, 0),
  (3, .ifCond .lt 14, 3, [10], 0, 0),
  (6, .lload_n 0, 1, [], 0, 0),
  (7, .lload 4, 2, [], 0, 0),
  (9, .lcmp, 1, [], 0, 0),
  (10, .ifCond .gt 7, 3, [10], 0, 0),
  (13, .iconst 1, 1, [], 1, 0),
  (14, .goto 4, 3, [11], 0, 0),
  (17, .iconst 0, 1, [], 0, 0),
  (18, .ireturn, 1, [], 0, 0)]
/-- WindCarverModel.has -/
def wk_86 : List wc_E := [
  (0, .iload_n 0, 1, [], 0, 0),
  (1, .iload_n 1, 1, [], 0, 0),
  (2, .ishr, 1, [], 0, 0),
  (3, .iconst 1, 1, [], 1, 0),
  (4, .iand, 1, [], 0, 0),
  (5, .iconst 1, 1, [], 1, 0),
  (6, .if_icmp .ne 7, 3, [9], 0, 0),
  (9, .iconst 1, 1, [], 1, 0),
  (10, .goto 4, 3, [10], 0, 0),
  (13, .iconst 0, 1, [], 0, 0),
  (14, .ireturn, 1, [], 0, 0)]
/-- WindCarverModel.find -/
def wk_87 : List wc_E := [
  (0, .aload_n 0, 1, [], 0, 0),
  (1, .iload_n 1, 1, [], 0, 0),
  (2, .putfield 50, 3, [7, 3], 0, 0),
  (5, .ldc 54, 2, [], (-1000010), 0),
  (7, .iload_n 1, 1, [], 0, 0),
  (8, .isub, 1, [], 0, 0),
  (9, .ireturn, 1, [], 0, 0)]
/-- WindCarverModel.well -/
def wk_88 : List wc_E := [
  (0, .aload_n 0, 1, [], 0, 0),
  (1, .iconst 0, 1, [], 0, 0),
  (2, .putfield 50, 3, [7, 3], 0, 0),
  (5, .iload_n 1, 1, [], 0, 0),
  (6, .ireturn, 1, [], 0, 0)]
/-- WindCarverModel.isRow -/
def wk_89 : List wc_E := [
  (0, .iload_n 0, 1, [], 0, 0),
  (1, .i2l, 1, [], 0, 0),
  (2, .lconst 0, 1, [], 0, 0),
  (3, .ldc2_w 55, 3, [], 0, 7),
  (6, .invokestatic 57, 3, [85], 0, 0),
  (9, .ireturn, 1, [], 0, 0)]
/-- WindCarverModel.row -/
def wk_90 : List wc_E := [
  (0, .iload_n 1, 1, [], 0, 0),
  (1, .invokestatic 61, 3, [89], 0, 0),
  (4, .ifCond .eq 21, 3, [12], 0, 0),
  (7, .iload_n 2, 1, [], 0, 0),
  (8, .i2l, 1, [], 0, 0),
  (9, .lconst 0, 1, [], 0, 0),
  (10, .ldc2_w 65, 3, [], 0, 2),
  (13, .invokestatic 57, 3, [85], 0, 0),
  (16, .ifCond .eq 9, 3, [12], 0, 0),
  (19, .iload_n 3, 1, [], 0, 0),
  (20, .bipush 40, 2, [], 40, 0),
  (22, .if_icmp .le 6, 3, [14], 0, 0),
  (25, .ldc 67, 2, [], (-1000001), 0),
  (27, .ireturn, 1, [], 0, 0),
  (28, .iload_n 3, 1, [], 0, 0),
  (29, .ifCond .ge 9, 3, [20], 0, 0),
  (32, .aload_n 0, 1, [], 0, 0),
  (33, .iconst 4, 1, [], 4, 0),
  (34, .invokevirtual 68, 3, [87], 0, 0),
  (37, .ireturn, 1, [], 0, 0),
  (38, .aload_n 0, 1, [], 0, 0),
  (39, .getfield 7, 3, [7, 0], 0, 0),
  (42, .iload_n 1, 1, [], 0, 0),
  (43, .iload_n 2, 1, [], 0, 0),
  (44, .iastore, 1, [], 0, 0),
  (45, .aload_n 0, 1, [], 0, 0),
  (46, .getfield 13, 3, [7, 1], 0, 0),
  (49, .iload_n 1, 1, [], 0, 0),
  (50, .iload_n 3, 1, [], 0, 0),
  (51, .iastore, 1, [], 0, 0),
  (52, .iconst 0, 1, [], 0, 0),
  (53, .istore 4, 2, [], 0, 0),
  (55, .iload 4, 2, [], 0, 0),
  (57, .bipush 40, 2, [], 40, 0),
  (59, .if_icmp .ge 22, 3, [46], 0, 0),
  (62, .aload_n 0, 1, [], 0, 0),
  (63, .getfield 16, 3, [7, 2], 0, 0),
  (66, .bipush 40, 2, [], 40, 0),
  (68, .iload_n 1, 1, [], 0, 0),
  (69, .imul, 1, [], 0, 0),
  (70, .iload 4, 2, [], 0, 0),
  (72, .iadd, 1, [], 0, 0),
  (73, .iconst 0, 1, [], 0, 0),
  (74, .iastore, 1, [], 0, 0),
  (75, .iinc 4 1, 3, [], 1, 0),
  (78, .goto (-23), 3, [32], 0, 0),
  (81, .aload_n 0, 1, [], 0, 0),
  (82, .iload_n 3, 1, [], 0, 0),
  (83, .invokevirtual 72, 3, [88], 0, 0),
  (86, .ireturn, 1, [], 0, 0)]
/-- WindCarverModel.asLane -/
def wk_91 : List wc_E := [
  (0, .iload_n 0, 1, [], 0, 0),
  (1, .ifCond .ne 13, 3, [8], 0, 0),
  (4, .iload_n 1, 1, [], 0, 0),
  (5, .bipush 24, 2, [], 24, 0),
  (7, .ishl, 1, [], 0, 0),
  (8, .bipush 24, 2, [], 24, 0),
  (10, .ishr, 1, [], 0, 0),
  (11, .goto 19, 3, [18], 0, 0),
  (14, .iload_n 0, 1, [], 0, 0),
  (15, .iconst 1, 1, [], 1, 0),
  (16, .if_icmp .ne 13, 3, [17], 0, 0),
  (19, .iload_n 1, 1, [], 0, 0),
  (20, .bipush 16, 2, [], 16, 0),
  (22, .ishl, 1, [], 0, 0),
  (23, .bipush 16, 2, [], 16, 0),
  (25, .ishr, 1, [], 0, 0),
  (26, .goto 4, 3, [18], 0, 0),
  (29, .iload_n 1, 1, [], 0, 0),
  (30, .ireturn, 1, [], 0, 0)]
/-- WindCarverModel.set -/
def wk_92 : List wc_E := [
  (0, .iload_n 1, 1, [], 0, 0),
  (1, .invokestatic 61, 3, [89], 0, 0),
  (4, .ifCond .ne 6, 3, [5], 0, 0),
  (7, .ldc 67, 2, [], (-1000001), 0),
  (9, .ireturn, 1, [], 0, 0),
  (10, .aload_n 0, 1, [], 0, 0),
  (11, .getfield 13, 3, [7, 1], 0, 0),
  (14, .iload_n 1, 1, [], 0, 0),
  (15, .iaload, 1, [], 0, 0),
  (16, .ifCond .ge 9, 3, [14], 0, 0),
  (19, .aload_n 0, 1, [], 0, 0),
  (20, .iconst 1, 1, [], 1, 0),
  (21, .invokevirtual 68, 3, [87], 0, 0),
  (24, .ireturn, 1, [], 0, 0),
  (25, .iload_n 2, 1, [], 0, 0),
  (26, .i2l, 1, [], 0, 0),
  (27, .lconst 0, 1, [], 0, 0),
  (28, .aload_n 0, 1, [], 0, 0),
  (29, .getfield 13, 3, [7, 1], 0, 0),
  (32, .iload_n 1, 1, [], 0, 0),
  (33, .iaload, 1, [], 0, 0),
  (34, .iconst 1, 1, [], 1, 0),
  (35, .isub, 1, [], 0, 0),
  (36, .i2l, 1, [], 0, 0),
  (37, .invokestatic 57, 3, [85], 0, 0),
  (40, .ifCond .ne 9, 3, [30], 0, 0),
  (43, .aload_n 0, 1, [], 0, 0),
  (44, .iconst 2, 1, [], 2, 0),
  (45, .invokevirtual 68, 3, [87], 0, 0),
  (48, .ireturn, 1, [], 0, 0),
  (49, .aload_n 0, 1, [], 0, 0),
  (50, .getfield 16, 3, [7, 2], 0, 0),
  (53, .bipush 40, 2, [], 40, 0),
  (55, .iload_n 1, 1, [], 0, 0),
  (56, .imul, 1, [], 0, 0),
  (57, .iload_n 2, 1, [], 0, 0),
  (58, .iadd, 1, [], 0, 0),
  (59, .aload_n 0, 1, [], 0, 0),
  (60, .getfield 7, 3, [7, 0], 0, 0),
  (63, .iload_n 1, 1, [], 0, 0),
  (64, .iaload, 1, [], 0, 0),
  (65, .iload_n 3, 1, [], 0, 0),
  (66, .invokestatic 75, 3, [91], 0, 0),
  (69, .iastore, 1, [], 0, 0),
  (70, .aload_n 0, 1, [], 0, 0),
  (71, .aload_n 0, 1, [], 0, 0),
  (72, .getfield 16, 3, [7, 2], 0, 0),
  (75, .bipush 40, 2, [], 40, 0),
  (77, .iload_n 1, 1, [], 0, 0),
  (78, .imul, 1, [], 0, 0),
  (79, .iload_n 2, 1, [], 0, 0),
  (80, .iadd, 1, [], 0, 0),
  (81, .iaload, 1, [], 0, 0),
  (82, .invokevirtual 72, 3, [88], 0, 0),
  (85, .ireturn, 1, [], 0, 0)]
/-- WindCarverModel.copy -/
def wk_93 : List wc_E := [
  (0, .iload_n 1, 1, [], 0, 0),
  (1, .invokestatic 61, 3, [89], 0, 0),
  (4, .ifCond .eq 10, 3, [6], 0, 0),
  (7, .iload_n 3, 1, [], 0, 0),
  (8, .invokestatic 61, 3, [89], 0, 0),
  (11, .ifCond .ne 6, 3, [8], 0, 0),
  (14, .ldc 67, 2, [], (-1000001), 0),
  (16, .ireturn, 1, [], 0, 0),
  (17, .aload_n 0, 1, [], 0, 0),
  (18, .getfield 13, 3, [7, 1], 0, 0),
  (21, .iload_n 1, 1, [], 0, 0),
  (22, .iaload, 1, [], 0, 0),
  (23, .ifCond .lt 12, 3, [18], 0, 0),
  (26, .aload_n 0, 1, [], 0, 0),
  (27, .getfield 13, 3, [7, 1], 0, 0),
  (30, .iload_n 3, 1, [], 0, 0),
  (31, .iaload, 1, [], 0, 0),
  (32, .ifCond .ge 9, 3, [22], 0, 0),
  (35, .aload_n 0, 1, [], 0, 0),
  (36, .iconst 1, 1, [], 1, 0),
  (37, .invokevirtual 68, 3, [87], 0, 0),
  (40, .ireturn, 1, [], 0, 0),
  (41, .aload_n 0, 1, [], 0, 0),
  (42, .getfield 7, 3, [7, 0], 0, 0),
  (45, .iload_n 1, 1, [], 0, 0),
  (46, .iaload, 1, [], 0, 0),
  (47, .aload_n 0, 1, [], 0, 0),
  (48, .getfield 7, 3, [7, 0], 0, 0),
  (51, .iload_n 3, 1, [], 0, 0),
  (52, .iaload, 1, [], 0, 0),
  (53, .if_icmp .eq 9, 3, [35], 0, 0),
  (56, .aload_n 0, 1, [], 0, 0),
  (57, .iconst 5, 1, [], 5, 0),
  (58, .invokevirtual 68, 3, [87], 0, 0),
  (61, .ireturn, 1, [], 0, 0),
  (62, .iload 5, 2, [], 0, 0),
  (64, .ifCond .lt 44, 3, [63], 0, 0),
  (67, .iload_n 2, 1, [], 0, 0),
  (68, .i2l, 1, [], 0, 0),
  (69, .lconst 0, 1, [], 0, 0),
  (70, .aload_n 0, 1, [], 0, 0),
  (71, .getfield 13, 3, [7, 1], 0, 0),
  (74, .iload_n 1, 1, [], 0, 0),
  (75, .iaload, 1, [], 0, 0),
  (76, .i2l, 1, [], 0, 0),
  (77, .iload 5, 2, [], 0, 0),
  (79, .i2l, 1, [], 0, 0),
  (80, .lsub, 1, [], 0, 0),
  (81, .invokestatic 57, 3, [85], 0, 0),
  (84, .ifCond .eq 24, 3, [63], 0, 0),
  (87, .iload 4, 2, [], 0, 0),
  (89, .i2l, 1, [], 0, 0),
  (90, .lconst 0, 1, [], 0, 0),
  (91, .aload_n 0, 1, [], 0, 0),
  (92, .getfield 13, 3, [7, 1], 0, 0),
  (95, .iload_n 3, 1, [], 0, 0),
  (96, .iaload, 1, [], 0, 0),
  (97, .i2l, 1, [], 0, 0),
  (98, .iload 5, 2, [], 0, 0),
  (100, .i2l, 1, [], 0, 0),
  (101, .lsub, 1, [], 0, 0),
  (102, .invokestatic 57, 3, [85], 0, 0),
  (105, .ifCond .ne 9, 3, [67], 0, 0),
  (108, .aload_n 0, 1, [], 0, 0),
  (109, .iconst 2, 1, [], 2, 0),
  (110, .invokevirtual 68, 3, [87], 0, 0),
  (113, .ireturn, 1, [], 0, 0),
  (114, .iconst 0, 1, [], 0, 0),
  (115, .istore 6, 2, [], 0, 0),
  (117, .iload 6, 2, [], 0, 0),
  (119, .iload 5, 2, [], 0, 0),
  (121, .if_icmp .ge 30, 3, [88], 0, 0),
  (124, .aload_n 0, 1, [], 0, 0),
  (125, .getfield 22, 3, [7, 6], 0, 0),
  (128, .iload 6, 2, [], 0, 0),
  (130, .aload_n 0, 1, [], 0, 0),
  (131, .getfield 16, 3, [7, 2], 0, 0),
  (134, .bipush 40, 2, [], 40, 0),
  (136, .iload_n 1, 1, [], 0, 0),
  (137, .imul, 1, [], 0, 0),
  (138, .iload_n 2, 1, [], 0, 0),
  (139, .iadd, 1, [], 0, 0),
  (140, .iload 6, 2, [], 0, 0),
  (142, .iadd, 1, [], 0, 0),
  (143, .iaload, 1, [], 0, 0),
  (144, .iastore, 1, [], 0, 0),
  (145, .iinc 6 1, 3, [], 1, 0),
  (148, .goto (-31), 3, [69], 0, 0),
  (151, .iconst 0, 1, [], 0, 0),
  (152, .istore 6, 2, [], 0, 0),
  (154, .iload 6, 2, [], 0, 0),
  (156, .iload 5, 2, [], 0, 0),
  (158, .if_icmp .ge 31, 3, [109], 0, 0),
  (161, .aload_n 0, 1, [], 0, 0),
  (162, .getfield 16, 3, [7, 2], 0, 0),
  (165, .bipush 40, 2, [], 40, 0),
  (167, .iload_n 3, 1, [], 0, 0),
  (168, .imul, 1, [], 0, 0),
  (169, .iload 4, 2, [], 0, 0),
  (171, .iadd, 1, [], 0, 0),
  (172, .iload 6, 2, [], 0, 0),
  (174, .iadd, 1, [], 0, 0),
  (175, .aload_n 0, 1, [], 0, 0),
  (176, .getfield 22, 3, [7, 6], 0, 0),
  (179, .iload 6, 2, [], 0, 0),
  (181, .iaload, 1, [], 0, 0),
  (182, .iastore, 1, [], 0, 0),
  (183, .iinc 6 1, 3, [], 1, 0),
  (186, .goto (-32), 3, [90], 0, 0),
  (189, .aload_n 0, 1, [], 0, 0),
  (190, .iload 5, 2, [], 0, 0),
  (192, .invokevirtual 72, 3, [88], 0, 0),
  (195, .ireturn, 1, [], 0, 0)]
/-- WindCarverModel.drop -/
def wk_94 : List wc_E := [
  (0, .iload_n 1, 1, [], 0, 0),
  (1, .invokestatic 61, 3, [89], 0, 0),
  (4, .ifCond .ne 6, 3, [5], 0, 0),
  (7, .ldc 67, 2, [], (-1000001), 0),
  (9, .ireturn, 1, [], 0, 0),
  (10, .aload_n 0, 1, [], 0, 0),
  (11, .getfield 13, 3, [7, 1], 0, 0),
  (14, .iload_n 1, 1, [], 0, 0),
  (15, .iaload, 1, [], 0, 0),
  (16, .ifCond .ge 9, 3, [14], 0, 0),
  (19, .aload_n 0, 1, [], 0, 0),
  (20, .iconst 1, 1, [], 1, 0),
  (21, .invokevirtual 68, 3, [87], 0, 0),
  (24, .ireturn, 1, [], 0, 0),
  (25, .aload_n 0, 1, [], 0, 0),
  (26, .getfield 13, 3, [7, 1], 0, 0),
  (29, .iload_n 1, 1, [], 0, 0),
  (30, .iaload, 1, [], 0, 0),
  (31, .istore_n 2, 1, [], 0, 0),
  (32, .aload_n 0, 1, [], 0, 0),
  (33, .getfield 13, 3, [7, 1], 0, 0),
  (36, .iload_n 1, 1, [], 0, 0),
  (37, .iconst (-1), 1, [], (-1), 0),
  (38, .iastore, 1, [], 0, 0),
  (39, .aload_n 0, 1, [], 0, 0),
  (40, .iload_n 2, 1, [], 0, 0),
  (41, .invokevirtual 72, 3, [88], 0, 0),
  (44, .ireturn, 1, [], 0, 0)]
/-- WindCarverModel.feed -/
def wk_95 : List wc_E := [
  (0, .iload_n 1, 1, [], 0, 0),
  (1, .i2l, 1, [], 0, 0),
  (2, .lconst 0, 1, [], 0, 0),
  (3, .ldc2_w 79, 3, [], 0, 255),
  (6, .invokestatic 57, 3, [85], 0, 0),
  (9, .ifCond .ne 6, 3, [8], 0, 0),
  (12, .ldc 67, 2, [], (-1000001), 0),
  (14, .ireturn, 1, [], 0, 0),
  (15, .aload_n 0, 1, [], 0, 0),
  (16, .getfield 81, 3, [7, 8], 0, 0),
  (19, .bipush 120, 2, [], 120, 0),
  (21, .if_icmp .ne 6, 3, [14], 0, 0),
  (24, .ldc 84, 2, [], (-1000003), 0),
  (26, .ireturn, 1, [], 0, 0),
  (27, .aload_n 0, 1, [], 0, 0),
  (28, .getfield 25, 3, [7, 7], 0, 0),
  (31, .aload_n 0, 1, [], 0, 0),
  (32, .getfield 81, 3, [7, 8], 0, 0),
  (35, .iload_n 1, 1, [], 0, 0),
  (36, .iastore, 1, [], 0, 0),
  (37, .aload_n 0, 1, [], 0, 0),
  (38, .dup, 1, [], 0, 0),
  (39, .getfield 81, 3, [7, 8], 0, 0),
  (42, .iconst 1, 1, [], 1, 0),
  (43, .iadd, 1, [], 0, 0),
  (44, .putfield 81, 3, [7, 8], 0, 0),
  (47, .aload_n 0, 1, [], 0, 0),
  (48, .getfield 81, 3, [7, 8], 0, 0),
  (51, .ireturn, 1, [], 0, 0)]
/-- WindCarverModel.nextToken -/
def wk_96 : List wc_E := [
  (0, .aload_n 0, 1, [], 0, 0),
  (1, .aload_n 0, 1, [], 0, 0),
  (2, .getfield 85, 3, [7, 10], 0, 0),
  (5, .putfield 88, 3, [7, 13], 0, 0),
  (8, .aload_n 0, 1, [], 0, 0),
  (9, .aload_n 0, 1, [], 0, 0),
  (10, .getfield 85, 3, [7, 10], 0, 0),
  (13, .aload_n 0, 1, [], 0, 0),
  (14, .getfield 81, 3, [7, 8], 0, 0),
  (17, .if_icmp .ne 7, 3, [12], 0, 0),
  (20, .iconst 3, 1, [], 3, 0),
  (21, .goto 4, 3, [13], 0, 0),
  (24, .iconst 0, 1, [], 0, 0),
  (25, .putfield 91, 3, [7, 11], 0, 0),
  (28, .aload_n 0, 1, [], 0, 0),
  (29, .iconst 0, 1, [], 0, 0),
  (30, .putfield 94, 3, [7, 12], 0, 0),
  (33, .aload_n 0, 1, [], 0, 0),
  (34, .getfield 85, 3, [7, 10], 0, 0),
  (37, .aload_n 0, 1, [], 0, 0),
  (38, .getfield 81, 3, [7, 8], 0, 0),
  (41, .if_icmp .ge 78, 3, [60], 0, 0),
  (44, .aload_n 0, 1, [], 0, 0),
  (45, .getfield 25, 3, [7, 7], 0, 0),
  (48, .aload_n 0, 1, [], 0, 0),
  (49, .getfield 85, 3, [7, 10], 0, 0),
  (52, .iaload, 1, [], 0, 0),
  (53, .i2l, 1, [], 0, 0),
  (54, .ldc2_w 97, 3, [], 0, 48),
  (57, .ldc2_w 99, 3, [], 0, 57),
  (60, .invokestatic 57, 3, [85], 0, 0),
  (63, .ifCond .eq 56, 3, [60], 0, 0),
  (66, .aload_n 0, 1, [], 0, 0),
  (67, .aload_n 0, 1, [], 0, 0),
  (68, .getfield 94, 3, [7, 12], 0, 0),
  (71, .bipush 99, 2, [], 99, 0),
  (73, .if_icmp .le 10, 3, [40], 0, 0),
  (76, .aload_n 0, 1, [], 0, 0),
  (77, .getfield 94, 3, [7, 12], 0, 0),
  (80, .goto 23, 3, [52], 0, 0),
  (83, .bipush 10, 2, [], 10, 0),
  (85, .aload_n 0, 1, [], 0, 0),
  (86, .getfield 94, 3, [7, 12], 0, 0),
  (89, .imul, 1, [], 0, 0),
  (90, .aload_n 0, 1, [], 0, 0),
  (91, .getfield 25, 3, [7, 7], 0, 0),
  (94, .aload_n 0, 1, [], 0, 0),
  (95, .getfield 85, 3, [7, 10], 0, 0),
  (98, .iaload, 1, [], 0, 0),
  (99, .iadd, 1, [], 0, 0),
  (100, .bipush 48, 2, [], 48, 0),
  (102, .isub, 1, [], 0, 0),
  (103, .putfield 94, 3, [7, 12], 0, 0),
  (106, .aload_n 0, 1, [], 0, 0),
  (107, .dup, 1, [], 0, 0),
  (108, .getfield 85, 3, [7, 10], 0, 0),
  (111, .iconst 1, 1, [], 1, 0),
  (112, .iadd, 1, [], 0, 0),
  (113, .putfield 85, 3, [7, 10], 0, 0),
  (116, .goto (-83), 3, [17], 0, 0),
  (119, .aload_n 0, 1, [], 0, 0),
  (120, .getfield 85, 3, [7, 10], 0, 0),
  (123, .aload_n 0, 1, [], 0, 0),
  (124, .getfield 88, 3, [7, 13], 0, 0),
  (127, .if_icmp .le 28, 3, [78], 0, 0),
  (130, .aload_n 0, 1, [], 0, 0),
  (131, .aload_n 0, 1, [], 0, 0),
  (132, .getfield 85, 3, [7, 10], 0, 0),
  (135, .aload_n 0, 1, [], 0, 0),
  (136, .getfield 88, 3, [7, 13], 0, 0),
  (139, .isub, 1, [], 0, 0),
  (140, .iconst 2, 1, [], 2, 0),
  (141, .if_icmp .le 7, 3, [75], 0, 0),
  (144, .iconst 0, 1, [], 0, 0),
  (145, .goto 4, 3, [76], 0, 0),
  (148, .iconst 2, 1, [], 2, 0),
  (149, .putfield 91, 3, [7, 11], 0, 0),
  (152, .goto 77, 3, [114], 0, 0),
  (155, .aload_n 0, 1, [], 0, 0),
  (156, .getfield 91, 3, [7, 11], 0, 0),
  (159, .ifCond .ne 70, 3, [114], 0, 0),
  (162, .aload_n 0, 1, [], 0, 0),
  (163, .aload_n 0, 1, [], 0, 0),
  (164, .getfield 25, 3, [7, 7], 0, 0),
  (167, .aload_n 0, 1, [], 0, 0),
  (168, .getfield 85, 3, [7, 10], 0, 0),
  (171, .iaload, 1, [], 0, 0),
  (172, .putfield 94, 3, [7, 12], 0, 0),
  (175, .aload_n 0, 1, [], 0, 0),
  (176, .aload_n 0, 1, [], 0, 0),
  (177, .getfield 94, 3, [7, 12], 0, 0),
  (180, .i2l, 1, [], 0, 0),
  (181, .ldc2_w 101, 3, [], 0, 97),
  (184, .ldc2_w 103, 3, [], 0, 122),
  (187, .invokestatic 57, 3, [85], 0, 0),
  (190, .ifCond .ne 21, 3, [104], 0, 0),
  (193, .aload_n 0, 1, [], 0, 0),
  (194, .getfield 94, 3, [7, 12], 0, 0),
  (197, .bipush 44, 2, [], 44, 0),
  (199, .if_icmp .eq 12, 3, [104], 0, 0),
  (202, .aload_n 0, 1, [], 0, 0),
  (203, .getfield 94, 3, [7, 12], 0, 0),
  (206, .bipush 59, 2, [], 59, 0),
  (208, .if_icmp .ne 7, 3, [106], 0, 0),
  (211, .iconst 1, 1, [], 1, 0),
  (212, .goto 4, 3, [107], 0, 0),
  (215, .iconst 0, 1, [], 0, 0),
  (216, .putfield 91, 3, [7, 11], 0, 0),
  (219, .aload_n 0, 1, [], 0, 0),
  (220, .dup, 1, [], 0, 0),
  (221, .getfield 85, 3, [7, 10], 0, 0),
  (224, .iconst 1, 1, [], 1, 0),
  (225, .iadd, 1, [], 0, 0),
  (226, .putfield 85, 3, [7, 10], 0, 0),
  (229, .return_, 1, [], 0, 0)]
/-- WindCarverModel.faults -/
def wk_97 : List wc_E := [
  (0, .aload_n 0, 1, [], 0, 0),
  (1, .iload_n 1, 1, [], 0, 0),
  (2, .putfield 105, 3, [7, 14], 0, 0),
  (5, .iconst 0, 1, [], 0, 0),
  (6, .ireturn, 1, [], 0, 0)]
/-- WindCarverModel.isLetter -/
def wk_98 : List wc_E := [
  (0, .aload_n 0, 1, [], 0, 0),
  (1, .getfield 91, 3, [7, 11], 0, 0),
  (4, .iconst 1, 1, [], 1, 0),
  (5, .if_icmp .ne 15, 3, [10], 0, 0),
  (8, .aload_n 0, 1, [], 0, 0),
  (9, .getfield 94, 3, [7, 12], 0, 0),
  (12, .iload_n 1, 1, [], 0, 0),
  (13, .if_icmp .ne 7, 3, [10], 0, 0),
  (16, .iconst 1, 1, [], 1, 0),
  (17, .goto 4, 3, [11], 0, 0),
  (20, .iconst 0, 1, [], 0, 0),
  (21, .ireturn, 1, [], 0, 0)]
/-- WindCarverModel.takes -/
def wk_99 : List wc_E := [
  (0, .aload_n 0, 1, [], 0, 0),
  (1, .iload_n 1, 1, [], 0, 0),
  (2, .invokevirtual 108, 3, [98], 0, 0),
  (5, .ifCond .ne 9, 3, [8], 0, 0),
  (8, .aload_n 0, 1, [], 0, 0),
  (9, .iconst 1, 1, [], 1, 0),
  (10, .invokevirtual 111, 3, [97], 0, 0),
  (13, .ireturn, 1, [], 0, 0),
  (14, .aload_n 0, 1, [], 0, 0),
  (15, .invokevirtual 114, 3, [96], 0, 0),
  (18, .iconst 1, 1, [], 1, 0),
  (19, .ireturn, 1, [], 0, 0)]
/-- WindCarverModel.takesNumber -/
def wk_100 : List wc_E := [
  (0, .aload_n 0, 1, [], 0, 0),
  (1, .getfield 91, 3, [7, 11], 0, 0),
  (4, .iconst 2, 1, [], 2, 0),
  (5, .if_icmp .ne 18, 3, [13], 0, 0),
  (8, .aload_n 0, 1, [], 0, 0),
  (9, .getfield 94, 3, [7, 12], 0, 0),
  (12, .i2l, 1, [], 0, 0),
  (13, .iload_n 1, 1, [], 0, 0),
  (14, .i2l, 1, [], 0, 0),
  (15, .iload_n 2, 1, [], 0, 0),
  (16, .i2l, 1, [], 0, 0),
  (17, .invokestatic 57, 3, [85], 0, 0),
  (20, .ifCond .ne 21, 3, [23], 0, 0),
  (23, .aload_n 0, 1, [], 0, 0),
  (24, .aload_n 0, 1, [], 0, 0),
  (25, .getfield 91, 3, [7, 11], 0, 0),
  (28, .iconst 2, 1, [], 2, 0),
  (29, .if_icmp .ne 7, 3, [20], 0, 0),
  (32, .iconst 2, 1, [], 2, 0),
  (33, .goto 4, 3, [21], 0, 0),
  (36, .iconst 1, 1, [], 1, 0),
  (37, .invokevirtual 111, 3, [97], 0, 0),
  (40, .ireturn, 1, [], 0, 0),
  (41, .aload_n 0, 1, [], 0, 0),
  (42, .getfield 28, 3, [7, 15], 0, 0),
  (45, .iload_n 3, 1, [], 0, 0),
  (46, .aload_n 0, 1, [], 0, 0),
  (47, .getfield 94, 3, [7, 12], 0, 0),
  (50, .iastore, 1, [], 0, 0),
  (51, .aload_n 0, 1, [], 0, 0),
  (52, .invokevirtual 114, 3, [96], 0, 0),
  (55, .aload_n 0, 1, [], 0, 0),
  (56, .iload 4, 2, [], 0, 0),
  (58, .invokevirtual 117, 3, [99], 0, 0),
  (61, .ireturn, 1, [], 0, 0)]
/-- WindCarverModel.readFour -/
def wk_101 : List wc_E := [
  (0, .aload_n 0, 1, [], 0, 0),
  (1, .iload_n 1, 1, [], 0, 0),
  (2, .invokevirtual 117, 3, [99], 0, 0),
  (5, .istore_n 3, 1, [], 0, 0),
  (6, .iconst 0, 1, [], 0, 0),
  (7, .istore 4, 2, [], 0, 0),
  (9, .iload 4, 2, [], 0, 0),
  (11, .iconst 4, 1, [], 4, 0),
  (12, .if_icmp .ge 38, 3, [27], 0, 0),
  (15, .iload_n 3, 1, [], 0, 0),
  (16, .ifCond .eq 34, 3, [27], 0, 0),
  (19, .aload_n 0, 1, [], 0, 0),
  (20, .iconst 0, 1, [], 0, 0),
  (21, .bipush 31, 2, [], 31, 0),
  (23, .iload_n 2, 1, [], 0, 0),
  (24, .iload 4, 2, [], 0, 0),
  (26, .iadd, 1, [], 0, 0),
  (27, .iload 4, 2, [], 0, 0),
  (29, .iconst 3, 1, [], 3, 0),
  (30, .if_icmp .ne 8, 3, [22], 0, 0),
  (33, .bipush 59, 2, [], 59, 0),
  (35, .goto 5, 3, [23], 0, 0),
  (38, .bipush 44, 2, [], 44, 0),
  (40, .invokevirtual 120, 3, [100], 0, 0),
  (43, .istore_n 3, 1, [], 0, 0),
  (44, .iinc 4 1, 3, [], 1, 0),
  (47, .goto (-38), 3, [6], 0, 0),
  (50, .iload_n 3, 1, [], 0, 0),
  (51, .ireturn, 1, [], 0, 0)]
/-- WindCarverModel.readWork -/
def wk_102 : List wc_E := [
  (0, .aload_n 0, 1, [], 0, 0),
  (1, .getfield 124, 3, [7, 16], 0, 0),
  (4, .bipush 6, 2, [], 6, 0),
  (6, .if_icmp .ne 9, 3, [8], 0, 0),
  (9, .aload_n 0, 1, [], 0, 0),
  (10, .iconst 3, 1, [], 3, 0),
  (11, .invokevirtual 111, 3, [97], 0, 0),
  (14, .ireturn, 1, [], 0, 0),
  (15, .aload_n 0, 1, [], 0, 0),
  (16, .invokevirtual 114, 3, [96], 0, 0),
  (19, .aload_n 0, 1, [], 0, 0),
  (20, .getfield 91, 3, [7, 11], 0, 0),
  (23, .iconst 2, 1, [], 2, 0),
  (24, .if_icmp .ne 11, 3, [18], 0, 0),
  (27, .aload_n 0, 1, [], 0, 0),
  (28, .getfield 94, 3, [7, 12], 0, 0),
  (31, .iconst 3, 1, [], 3, 0),
  (32, .if_icmp .le 21, 3, [28], 0, 0),
  (35, .aload_n 0, 1, [], 0, 0),
  (36, .aload_n 0, 1, [], 0, 0),
  (37, .getfield 91, 3, [7, 11], 0, 0),
  (40, .iconst 2, 1, [], 2, 0),
  (41, .if_icmp .ne 7, 3, [25], 0, 0),
  (44, .iconst 2, 1, [], 2, 0),
  (45, .goto 4, 3, [26], 0, 0),
  (48, .iconst 1, 1, [], 1, 0),
  (49, .invokevirtual 111, 3, [97], 0, 0),
  (52, .ireturn, 1, [], 0, 0),
  (53, .aload_n 0, 1, [], 0, 0),
  (54, .aload_n 0, 1, [], 0, 0),
  (55, .getfield 94, 3, [7, 12], 0, 0),
  (58, .putfield 127, 3, [7, 17], 0, 0),
  (61, .aload_n 0, 1, [], 0, 0),
  (62, .invokevirtual 114, 3, [96], 0, 0),
  (65, .aload_n 0, 1, [], 0, 0),
  (66, .bipush 44, 2, [], 44, 0),
  (68, .invokevirtual 117, 3, [99], 0, 0),
  (71, .ifCond .ne 5, 3, [40], 0, 0),
  (74, .iconst 0, 1, [], 0, 0),
  (75, .ireturn, 1, [], 0, 0),
  (76, .aload_n 0, 1, [], 0, 0),
  (77, .getfield 91, 3, [7, 11], 0, 0),
  (80, .iconst 2, 1, [], 2, 0),
  (81, .if_icmp .ne 33, 3, [61], 0, 0),
  (84, .aload_n 0, 1, [], 0, 0),
  (85, .getfield 94, 3, [7, 12], 0, 0),
  (88, .iconst 3, 1, [], 3, 0),
  (89, .if_icmp .gt 25, 3, [61], 0, 0),
  (92, .aload_n 0, 1, [], 0, 0),
  (93, .getfield 28, 3, [7, 15], 0, 0),
  (96, .bipush 9, 2, [], 9, 0),
  (98, .iconst 4, 1, [], 4, 0),
  (99, .aload_n 0, 1, [], 0, 0),
  (100, .getfield 127, 3, [7, 17], 0, 0),
  (103, .imul, 1, [], 0, 0),
  (104, .iadd, 1, [], 0, 0),
  (105, .aload_n 0, 1, [], 0, 0),
  (106, .getfield 94, 3, [7, 12], 0, 0),
  (109, .iadd, 1, [], 0, 0),
  (110, .iaload, 1, [], 0, 0),
  (111, .ifCond .le 21, 3, [71], 0, 0),
  (114, .aload_n 0, 1, [], 0, 0),
  (115, .aload_n 0, 1, [], 0, 0),
  (116, .getfield 91, 3, [7, 11], 0, 0),
  (119, .iconst 2, 1, [], 2, 0),
  (120, .if_icmp .ne 7, 3, [68], 0, 0),
  (123, .iconst 2, 1, [], 2, 0),
  (124, .goto 4, 3, [69], 0, 0),
  (127, .iconst 1, 1, [], 1, 0),
  (128, .invokevirtual 111, 3, [97], 0, 0),
  (131, .ireturn, 1, [], 0, 0),
  (132, .iconst 4, 1, [], 4, 0),
  (133, .aload_n 0, 1, [], 0, 0),
  (134, .getfield 127, 3, [7, 17], 0, 0),
  (137, .imul, 1, [], 0, 0),
  (138, .aload_n 0, 1, [], 0, 0),
  (139, .getfield 94, 3, [7, 12], 0, 0),
  (142, .iadd, 1, [], 0, 0),
  (143, .istore_n 2, 1, [], 0, 0),
  (144, .aload_n 0, 1, [], 0, 0),
  (145, .invokevirtual 114, 3, [96], 0, 0),
  (148, .aload_n 0, 1, [], 0, 0),
  (149, .getfield 28, 3, [7, 15], 0, 0),
  (152, .bipush 9, 2, [], 9, 0),
  (154, .iload_n 2, 1, [], 0, 0),
  (155, .iadd, 1, [], 0, 0),
  (156, .iload_n 1, 1, [], 0, 0),
  (157, .iastore, 1, [], 0, 0),
  (158, .aload_n 0, 1, [], 0, 0),
  (159, .dup, 1, [], 0, 0),
  (160, .getfield 124, 3, [7, 16], 0, 0),
  (163, .iconst 1, 1, [], 1, 0),
  (164, .iadd, 1, [], 0, 0),
  (165, .putfield 124, 3, [7, 16], 0, 0),
  (168, .aload_n 0, 1, [], 0, 0),
  (169, .bipush 44, 2, [], 44, 0),
  (171, .invokevirtual 117, 3, [99], 0, 0),
  (174, .ifCond .eq 23, 3, [109], 0, 0),
  (177, .aload_n 0, 1, [], 0, 0),
  (178, .iconst 0, 1, [], 0, 0),
  (179, .bipush 99, 2, [], 99, 0),
  (181, .bipush 25, 2, [], 25, 0),
  (183, .iload_n 2, 1, [], 0, 0),
  (184, .iadd, 1, [], 0, 0),
  (185, .bipush 59, 2, [], 59, 0),
  (187, .invokevirtual 120, 3, [100], 0, 0),
  (190, .ifCond .eq 7, 3, [109], 0, 0),
  (193, .iconst 1, 1, [], 1, 0),
  (194, .goto 4, 3, [110], 0, 0),
  (197, .iconst 0, 1, [], 0, 0),
  (198, .ireturn, 1, [], 0, 0)]
/-- WindCarverModel.readPass -/
def wk_103 : List wc_E := [
  (0, .aload_n 0, 1, [], 0, 0),
  (1, .iconst 0, 1, [], 0, 0),
  (2, .putfield 85, 3, [7, 10], 0, 0),
  (5, .aload_n 0, 1, [], 0, 0),
  (6, .iconst 0, 1, [], 0, 0),
  (7, .putfield 124, 3, [7, 16], 0, 0),
  (10, .iconst 0, 1, [], 0, 0),
  (11, .istore_n 1, 1, [], 0, 0),
  (12, .iload_n 1, 1, [], 0, 0),
  (13, .bipush 57, 2, [], 57, 0),
  (15, .if_icmp .ge 16, 3, [18], 0, 0),
  (18, .aload_n 0, 1, [], 0, 0),
  (19, .getfield 28, 3, [7, 15], 0, 0),
  (22, .iload_n 1, 1, [], 0, 0),
  (23, .iconst 0, 1, [], 0, 0),
  (24, .iastore, 1, [], 0, 0),
  (25, .iinc 1 1, 3, [], 1, 0),
  (28, .goto (-16), 3, [8], 0, 0),
  (31, .aload_n 0, 1, [], 0, 0),
  (32, .invokevirtual 114, 3, [96], 0, 0),
  (35, .aload_n 0, 1, [], 0, 0),
  (36, .bipush 97, 2, [], 97, 0),
  (38, .iconst 1, 1, [], 1, 0),
  (39, .invokevirtual 130, 3, [101], 0, 0),
  (42, .ifCond .eq 13, 3, [30], 0, 0),
  (45, .aload_n 0, 1, [], 0, 0),
  (46, .bipush 98, 2, [], 98, 0),
  (48, .iconst 5, 1, [], 5, 0),
  (49, .invokevirtual 130, 3, [101], 0, 0),
  (52, .ifCond .ne 5, 3, [32], 0, 0),
  (55, .iconst 0, 1, [], 0, 0),
  (56, .ireturn, 1, [], 0, 0),
  (57, .iconst 1, 1, [], 1, 0),
  (58, .istore_n 1, 1, [], 0, 0),
  (59, .iload_n 1, 1, [], 0, 0),
  (60, .ifCond .eq 99, 3, [83], 0, 0),
  (63, .aload_n 0, 1, [], 0, 0),
  (64, .getfield 91, 3, [7, 11], 0, 0),
  (67, .iconst 3, 1, [], 3, 0),
  (68, .if_icmp .eq 91, 3, [83], 0, 0),
  (71, .aload_n 0, 1, [], 0, 0),
  (72, .bipush 119, 2, [], 119, 0),
  (74, .invokevirtual 108, 3, [98], 0, 0),
  (77, .ifCond .eq 7, 3, [46], 0, 0),
  (80, .iconst 1, 1, [], 1, 0),
  (81, .goto 56, 3, [71], 0, 0),
  (84, .aload_n 0, 1, [], 0, 0),
  (85, .bipush 110, 2, [], 110, 0),
  (87, .invokevirtual 108, 3, [98], 0, 0),
  (90, .ifCond .eq 7, 3, [52], 0, 0),
  (93, .iconst 2, 1, [], 2, 0),
  (94, .goto 43, 3, [71], 0, 0),
  (97, .aload_n 0, 1, [], 0, 0),
  (98, .bipush 115, 2, [], 115, 0),
  (100, .invokevirtual 108, 3, [98], 0, 0),
  (103, .ifCond .eq 7, 3, [58], 0, 0),
  (106, .iconst 3, 1, [], 3, 0),
  (107, .goto 30, 3, [71], 0, 0),
  (110, .aload_n 0, 1, [], 0, 0),
  (111, .bipush 104, 2, [], 104, 0),
  (113, .invokevirtual 108, 3, [98], 0, 0),
  (116, .ifCond .eq 7, 3, [64], 0, 0),
  (119, .iconst 4, 1, [], 4, 0),
  (120, .goto 17, 3, [71], 0, 0),
  (123, .aload_n 0, 1, [], 0, 0),
  (124, .bipush 118, 2, [], 118, 0),
  (126, .invokevirtual 108, 3, [98], 0, 0),
  (129, .ifCond .eq 7, 3, [70], 0, 0),
  (132, .iconst 5, 1, [], 5, 0),
  (133, .goto 4, 3, [71], 0, 0),
  (136, .iconst 0, 1, [], 0, 0),
  (137, .istore_n 2, 1, [], 0, 0),
  (138, .iload_n 2, 1, [], 0, 0),
  (139, .ifCond .le 11, 3, [78], 0, 0),
  (142, .aload_n 0, 1, [], 0, 0),
  (143, .iload_n 2, 1, [], 0, 0),
  (144, .invokevirtual 134, 3, [102], 0, 0),
  (147, .goto 8, 3, [81], 0, 0),
  (150, .aload_n 0, 1, [], 0, 0),
  (151, .iconst 1, 1, [], 1, 0),
  (152, .invokevirtual 111, 3, [97], 0, 0),
  (155, .istore_n 1, 1, [], 0, 0),
  (156, .goto (-97), 3, [34], 0, 0),
  (159, .iload_n 1, 1, [], 0, 0),
  (160, .ireturn, 1, [], 0, 0)]
/-- WindCarverModel.pass -/
def wk_104 : List wc_E := [
  (0, .aload_n 0, 1, [], 0, 0),
  (1, .invokevirtual 137, 3, [103], 0, 0),
  (4, .istore_n 1, 1, [], 0, 0),
  (5, .aload_n 0, 1, [], 0, 0),
  (6, .iconst 0, 1, [], 0, 0),
  (7, .putfield 81, 3, [7, 8], 0, 0),
  (10, .iload_n 1, 1, [], 0, 0),
  (11, .ifCond .ne 19, 3, [17], 0, 0),
  (14, .aload_n 0, 1, [], 0, 0),
  (15, .aload_n 0, 1, [], 0, 0),
  (16, .getfield 105, 3, [7, 14], 0, 0),
  (19, .putfield 141, 3, [7, 9], 0, 0),
  (22, .ldc 144, 2, [], (-1000100), 0),
  (24, .aload_n 0, 1, [], 0, 0),
  (25, .getfield 88, 3, [7, 13], 0, 0),
  (28, .isub, 1, [], 0, 0),
  (29, .ireturn, 1, [], 0, 0),
  (30, .iconst 0, 1, [], 0, 0),
  (31, .istore_n 2, 1, [], 0, 0),
  (32, .iload_n 2, 1, [], 0, 0),
  (33, .bipush 57, 2, [], 57, 0),
  (35, .if_icmp .ge 21, 3, [32], 0, 0),
  (38, .aload_n 0, 1, [], 0, 0),
  (39, .getfield 19, 3, [7, 5], 0, 0),
  (42, .iload_n 2, 1, [], 0, 0),
  (43, .aload_n 0, 1, [], 0, 0),
  (44, .getfield 28, 3, [7, 15], 0, 0),
  (47, .iload_n 2, 1, [], 0, 0),
  (48, .iaload, 1, [], 0, 0),
  (49, .iastore, 1, [], 0, 0),
  (50, .iinc 2 1, 3, [], 1, 0),
  (53, .goto (-21), 3, [19], 0, 0),
  (56, .aload_n 0, 1, [], 0, 0),
  (57, .iconst 1, 1, [], 1, 0),
  (58, .putfield 145, 3, [7, 4], 0, 0),
  (61, .aload_n 0, 1, [], 0, 0),
  (62, .iconst 0, 1, [], 0, 0),
  (63, .putfield 149, 3, [7, 22], 0, 0),
  (66, .aload_n 0, 1, [], 0, 0),
  (67, .getfield 124, 3, [7, 16], 0, 0),
  (70, .ireturn, 1, [], 0, 0)]
/-- WindCarverModel.fault -/
def wk_105 : List wc_E := [
  (0, .aload_n 0, 1, [], 0, 0),
  (1, .getfield 141, 3, [7, 9], 0, 0),
  (4, .ireturn, 1, [], 0, 0)]
/-- WindCarverModel.isCell -/
def wk_106 : List wc_E := [
  (0, .iload_n 0, 1, [], 0, 0),
  (1, .i2l, 1, [], 0, 0),
  (2, .lconst 0, 1, [], 0, 0),
  (3, .ldc2_w 152, 3, [], 0, 15),
  (6, .invokestatic 57, 3, [85], 0, 0),
  (9, .ireturn, 1, [], 0, 0)]
/-- WindCarverModel.isRowOfPass -/
def wk_107 : List wc_E := [
  (0, .iload_n 0, 1, [], 0, 0),
  (1, .i2l, 1, [], 0, 0),
  (2, .lconst 0, 1, [], 0, 0),
  (3, .ldc2_w 154, 3, [], 0, 3),
  (6, .invokestatic 57, 3, [85], 0, 0),
  (9, .ireturn, 1, [], 0, 0)]
/-- WindCarverModel.isWork -/
def wk_108 : List wc_E := [
  (0, .aload_n 0, 1, [], 0, 0),
  (1, .getfield 19, 3, [7, 5], 0, 0),
  (4, .bipush 9, 2, [], 9, 0),
  (6, .iload_n 1, 1, [], 0, 0),
  (7, .iadd, 1, [], 0, 0),
  (8, .iaload, 1, [], 0, 0),
  (9, .ifCond .le 7, 3, [9], 0, 0),
  (12, .iconst 1, 1, [], 1, 0),
  (13, .goto 4, 3, [10], 0, 0),
  (16, .iconst 0, 1, [], 0, 0),
  (17, .ireturn, 1, [], 0, 0)]
/-- WindCarverModel.goes -/
def wk_109 : List wc_E := [
  (0, .iload_n 2, 1, [], 0, 0),
  (1, .invokestatic 156, 3, [107], 0, 0),
  (4, .ifCond .eq 22, 3, [18], 0, 0),
  (7, .aload_n 0, 1, [], 0, 0),
  (8, .getfield 31, 3, [7, 18], 0, 0),
  (11, .iconst 4, 1, [], 4, 0),
  (12, .iload_n 1, 1, [], 0, 0),
  (13, .imul, 1, [], 0, 0),
  (14, .iconst 4, 1, [], 4, 0),
  (15, .iadd, 1, [], 0, 0),
  (16, .iload_n 2, 1, [], 0, 0),
  (17, .iadd, 1, [], 0, 0),
  (18, .dup2, 1, [], 0, 0),
  (19, .iaload, 1, [], 0, 0),
  (20, .iload_n 3, 1, [], 0, 0),
  (21, .iadd, 1, [], 0, 0),
  (22, .iastore, 1, [], 0, 0),
  (23, .goto 13, 3, [24], 0, 0),
  (26, .aload_n 0, 1, [], 0, 0),
  (27, .dup, 1, [], 0, 0),
  (28, .getfield 159, 3, [7, 19], 0, 0),
  (31, .iload_n 3, 1, [], 0, 0),
  (32, .iadd, 1, [], 0, 0),
  (33, .putfield 159, 3, [7, 19], 0, 0),
  (36, .return_, 1, [], 0, 0)]
/-- WindCarverModel.blow -/
def wk_110 : List wc_E := [
  (0, .aload_n 0, 1, [], 0, 0),
  (1, .iconst 0, 1, [], 0, 0),
  (2, .putfield 159, 3, [7, 19], 0, 0),
  (5, .iconst 0, 1, [], 0, 0),
  (6, .istore_n 1, 1, [], 0, 0),
  (7, .iload_n 1, 1, [], 0, 0),
  (8, .bipush 20, 2, [], 20, 0),
  (10, .if_icmp .ge 32, 3, [25], 0, 0),
  (13, .aload_n 0, 1, [], 0, 0),
  (14, .getfield 31, 3, [7, 18], 0, 0),
  (17, .iload_n 1, 1, [], 0, 0),
  (18, .iload_n 1, 1, [], 0, 0),
  (19, .iconst 4, 1, [], 4, 0),
  (20, .if_icmp .ge 14, 3, [21], 0, 0),
  (23, .aload_n 0, 1, [], 0, 0),
  (24, .getfield 19, 3, [7, 5], 0, 0),
  (27, .iconst 1, 1, [], 1, 0),
  (28, .iload_n 1, 1, [], 0, 0),
  (29, .iadd, 1, [], 0, 0),
  (30, .iaload, 1, [], 0, 0),
  (31, .goto 4, 3, [22], 0, 0),
  (34, .iconst 0, 1, [], 0, 0),
  (35, .iastore, 1, [], 0, 0),
  (36, .iinc 1 1, 3, [], 1, 0),
  (39, .goto (-32), 3, [5], 0, 0),
  (42, .iconst 0, 1, [], 0, 0),
  (43, .istore_n 1, 1, [], 0, 0),
  (44, .iload_n 1, 1, [], 0, 0),
  (45, .bipush 16, 2, [], 16, 0),
  (47, .if_icmp .ge 174, 3, [131], 0, 0),
  (50, .iload_n 1, 1, [], 0, 0),
  (51, .iconst 4, 1, [], 4, 0),
  (52, .idiv, 1, [], 0, 0),
  (53, .istore_n 2, 1, [], 0, 0),
  (54, .iload_n 1, 1, [], 0, 0),
  (55, .iconst 4, 1, [], 4, 0),
  (56, .irem, 1, [], 0, 0),
  (57, .istore_n 3, 1, [], 0, 0),
  (58, .aload_n 0, 1, [], 0, 0),
  (59, .getfield 31, 3, [7, 18], 0, 0),
  (62, .iload_n 1, 1, [], 0, 0),
  (63, .iaload, 1, [], 0, 0),
  (64, .istore 4, 2, [], 0, 0),
  (66, .aload_n 0, 1, [], 0, 0),
  (67, .getfield 19, 3, [7, 5], 0, 0),
  (70, .bipush 9, 2, [], 9, 0),
  (72, .iload_n 1, 1, [], 0, 0),
  (73, .iadd, 1, [], 0, 0),
  (74, .iaload, 1, [], 0, 0),
  (75, .istore 5, 2, [], 0, 0),
  (77, .iload 5, 2, [], 0, 0),
  (79, .iconst 4, 1, [], 4, 0),
  (80, .if_icmp .eq 20, 3, [63], 0, 0),
  (83, .iload 5, 2, [], 0, 0),
  (85, .iconst 5, 1, [], 5, 0),
  (86, .if_icmp .ne 18, 3, [65], 0, 0),
  (89, .aload_n 0, 1, [], 0, 0),
  (90, .getfield 19, 3, [7, 5], 0, 0),
  (93, .iconst 0, 1, [], 0, 0),
  (94, .iaload, 1, [], 0, 0),
  (95, .iconst 2, 1, [], 2, 0),
  (96, .irem, 1, [], 0, 0),
  (97, .ifCond .ne 7, 3, [65], 0, 0),
  (100, .iconst 1, 1, [], 1, 0),
  (101, .goto 4, 3, [66], 0, 0),
  (104, .iconst 0, 1, [], 0, 0),
  (105, .istore 6, 2, [], 0, 0),
  (107, .iload 5, 2, [], 0, 0),
  (109, .ifCond .eq 22, 3, [80], 0, 0),
  (112, .iload 5, 2, [], 0, 0),
  (114, .iconst 3, 1, [], 3, 0),
  (115, .if_icmp .ne 21, 3, [82], 0, 0),
  (118, .aload_n 0, 1, [], 0, 0),
  (119, .getfield 19, 3, [7, 5], 0, 0),
  (122, .bipush 41, 2, [], 41, 0),
  (124, .iload_n 1, 1, [], 0, 0),
  (125, .iadd, 1, [], 0, 0),
  (126, .iaload, 1, [], 0, 0),
  (127, .iconst 1, 1, [], 1, 0),
  (128, .if_icmp .ne 8, 3, [82], 0, 0),
  (131, .iload 4, 2, [], 0, 0),
  (133, .goto 17, 3, [90], 0, 0),
  (136, .iload 5, 2, [], 0, 0),
  (138, .iconst 2, 1, [], 2, 0),
  (139, .if_icmp .ne 10, 3, [89], 0, 0),
  (142, .iload 4, 2, [], 0, 0),
  (144, .iconst 2, 1, [], 2, 0),
  (145, .idiv, 1, [], 0, 0),
  (146, .goto 4, 3, [90], 0, 0),
  (149, .iconst 0, 1, [], 0, 0),
  (150, .istore 7, 2, [], 0, 0),
  (152, .iload 5, 2, [], 0, 0),
  (154, .iconst 4, 1, [], 4, 0),
  (155, .if_icmp .lt 17, 3, [100], 0, 0),
  (158, .iload 6, 2, [], 0, 0),
  (160, .ifCond .eq 8, 3, [98], 0, 0),
  (163, .iload 4, 2, [], 0, 0),
  (165, .goto 14, 3, [105], 0, 0),
  (168, .iconst 0, 1, [], 0, 0),
  (169, .goto 10, 3, [105], 0, 0),
  (172, .iload 4, 2, [], 0, 0),
  (174, .iload 7, 2, [], 0, 0),
  (176, .isub, 1, [], 0, 0),
  (177, .iconst 2, 1, [], 2, 0),
  (178, .idiv, 1, [], 0, 0),
  (179, .istore 8, 2, [], 0, 0),
  (181, .aload_n 0, 1, [], 0, 0),
  (182, .iload_n 2, 1, [], 0, 0),
  (183, .iload_n 3, 1, [], 0, 0),
  (184, .iload 7, 2, [], 0, 0),
  (186, .invokevirtual 162, 3, [109], 0, 0),
  (189, .aload_n 0, 1, [], 0, 0),
  (190, .iload_n 2, 1, [], 0, 0),
  (191, .iload_n 3, 1, [], 0, 0),
  (192, .iconst 1, 1, [], 1, 0),
  (193, .isub, 1, [], 0, 0),
  (194, .iload 8, 2, [], 0, 0),
  (196, .invokevirtual 162, 3, [109], 0, 0),
  (199, .aload_n 0, 1, [], 0, 0),
  (200, .iload_n 2, 1, [], 0, 0),
  (201, .iload_n 3, 1, [], 0, 0),
  (202, .iconst 1, 1, [], 1, 0),
  (203, .iadd, 1, [], 0, 0),
  (204, .iload 4, 2, [], 0, 0),
  (206, .iload 7, 2, [], 0, 0),
  (208, .isub, 1, [], 0, 0),
  (209, .iload 8, 2, [], 0, 0),
  (211, .isub, 1, [], 0, 0),
  (212, .invokevirtual 162, 3, [109], 0, 0),
  (215, .iinc 1 1, 3, [], 1, 0),
  (218, .goto (-174), 3, [27], 0, 0),
  (221, .return_, 1, [], 0, 0)]
/-- WindCarverModel.feltNow -/
def wk_111 : List wc_E := [
  (0, .aload_n 0, 1, [], 0, 0),
  (1, .invokevirtual 166, 3, [110], 0, 0),
  (4, .aload_n 0, 1, [], 0, 0),
  (5, .getfield 31, 3, [7, 18], 0, 0),
  (8, .iload_n 1, 1, [], 0, 0),
  (9, .iaload, 1, [], 0, 0),
  (10, .ireturn, 1, [], 0, 0)]
/-- WindCarverModel.clear -/
def wk_112 : List wc_E := [
  (0, .aload_n 0, 1, [], 0, 0),
  (1, .getfield 19, 3, [7, 5], 0, 0),
  (4, .bipush 9, 2, [], 9, 0),
  (6, .iload_n 1, 1, [], 0, 0),
  (7, .iadd, 1, [], 0, 0),
  (8, .iconst 0, 1, [], 0, 0),
  (9, .iastore, 1, [], 0, 0),
  (10, .aload_n 0, 1, [], 0, 0),
  (11, .getfield 19, 3, [7, 5], 0, 0),
  (14, .bipush 25, 2, [], 25, 0),
  (16, .iload_n 1, 1, [], 0, 0),
  (17, .iadd, 1, [], 0, 0),
  (18, .iconst 0, 1, [], 0, 0),
  (19, .iastore, 1, [], 0, 0),
  (20, .aload_n 0, 1, [], 0, 0),
  (21, .getfield 19, 3, [7, 5], 0, 0),
  (24, .bipush 41, 2, [], 41, 0),
  (26, .iload_n 1, 1, [], 0, 0),
  (27, .iadd, 1, [], 0, 0),
  (28, .iconst 0, 1, [], 0, 0),
  (29, .iastore, 1, [], 0, 0),
  (30, .return_, 1, [], 0, 0)]
/-- WindCarverModel.oneHour -/
def wk_113 : List wc_E := [
  (0, .aload_n 0, 1, [], 0, 0),
  (1, .invokevirtual 166, 3, [110], 0, 0),
  (4, .aload_n 0, 1, [], 0, 0),
  (5, .iconst 0, 1, [], 0, 0),
  (6, .putfield 169, 3, [7, 20], 0, 0),
  (9, .iconst 0, 1, [], 0, 0),
  (10, .istore_n 1, 1, [], 0, 0),
  (11, .iload_n 1, 1, [], 0, 0),
  (12, .bipush 16, 2, [], 16, 0),
  (14, .if_icmp .ge 52, 3, [38], 0, 0),
  (17, .aload_n 0, 1, [], 0, 0),
  (18, .iload_n 1, 1, [], 0, 0),
  (19, .invokevirtual 172, 3, [108], 0, 0),
  (22, .ifCond .eq 38, 3, [36], 0, 0),
  (25, .aload_n 0, 1, [], 0, 0),
  (26, .getfield 31, 3, [7, 18], 0, 0),
  (29, .iload_n 1, 1, [], 0, 0),
  (30, .iaload, 1, [], 0, 0),
  (31, .aload_n 0, 1, [], 0, 0),
  (32, .getfield 19, 3, [7, 5], 0, 0),
  (35, .bipush 25, 2, [], 25, 0),
  (37, .iload_n 1, 1, [], 0, 0),
  (38, .iadd, 1, [], 0, 0),
  (39, .iaload, 1, [], 0, 0),
  (40, .if_icmp .le 20, 3, [36], 0, 0),
  (43, .aload_n 0, 1, [], 0, 0),
  (44, .dup, 1, [], 0, 0),
  (45, .getfield 169, 3, [7, 20], 0, 0),
  (48, .iconst 1, 1, [], 1, 0),
  (49, .iload_n 1, 1, [], 0, 0),
  (50, .ishl, 1, [], 0, 0),
  (51, .ior, 1, [], 0, 0),
  (52, .putfield 169, 3, [7, 20], 0, 0),
  (55, .aload_n 0, 1, [], 0, 0),
  (56, .iload_n 1, 1, [], 0, 0),
  (57, .invokevirtual 175, 3, [112], 0, 0),
  (60, .iinc 1 1, 3, [], 1, 0),
  (63, .goto (-52), 3, [7], 0, 0),
  (66, .aload_n 0, 1, [], 0, 0),
  (67, .getfield 19, 3, [7, 5], 0, 0),
  (70, .iconst 0, 1, [], 0, 0),
  (71, .dup2, 1, [], 0, 0),
  (72, .iaload, 1, [], 0, 0),
  (73, .iconst 1, 1, [], 1, 0),
  (74, .iadd, 1, [], 0, 0),
  (75, .iastore, 1, [], 0, 0),
  (76, .iconst 0, 1, [], 0, 0),
  (77, .istore_n 1, 1, [], 0, 0),
  (78, .iload_n 1, 1, [], 0, 0),
  (79, .iconst 4, 1, [], 4, 0),
  (80, .if_icmp .ge 37, 3, [74], 0, 0),
  (83, .aload_n 0, 1, [], 0, 0),
  (84, .getfield 19, 3, [7, 5], 0, 0),
  (87, .iconst 1, 1, [], 1, 0),
  (88, .iload_n 1, 1, [], 0, 0),
  (89, .iadd, 1, [], 0, 0),
  (90, .aload_n 0, 1, [], 0, 0),
  (91, .getfield 19, 3, [7, 5], 0, 0),
  (94, .iconst 1, 1, [], 1, 0),
  (95, .iload_n 1, 1, [], 0, 0),
  (96, .iadd, 1, [], 0, 0),
  (97, .iaload, 1, [], 0, 0),
  (98, .aload_n 0, 1, [], 0, 0),
  (99, .getfield 19, 3, [7, 5], 0, 0),
  (102, .iconst 5, 1, [], 5, 0),
  (103, .iload_n 1, 1, [], 0, 0),
  (104, .iadd, 1, [], 0, 0),
  (105, .iaload, 1, [], 0, 0),
  (106, .iadd, 1, [], 0, 0),
  (107, .bipush 32, 2, [], 32, 0),
  (109, .irem, 1, [], 0, 0),
  (110, .iastore, 1, [], 0, 0),
  (111, .iinc 1 1, 3, [], 1, 0),
  (114, .goto (-36), 3, [48], 0, 0),
  (117, .return_, 1, [], 0, 0)]
/-- WindCarverModel.workMany -/
def wk_114 : List wc_E := [
  (0, .iconst 0, 1, [], 0, 0),
  (1, .istore_n 1, 1, [], 0, 0),
  (2, .iconst 0, 1, [], 0, 0),
  (3, .istore_n 2, 1, [], 0, 0),
  (4, .iload_n 2, 1, [], 0, 0),
  (5, .bipush 16, 2, [], 16, 0),
  (7, .if_icmp .ge 25, 3, [19], 0, 0),
  (10, .iload_n 1, 1, [], 0, 0),
  (11, .aload_n 0, 1, [], 0, 0),
  (12, .iload_n 2, 1, [], 0, 0),
  (13, .invokevirtual 172, 3, [108], 0, 0),
  (16, .ifCond .eq 7, 3, [14], 0, 0),
  (19, .iconst 1, 1, [], 1, 0),
  (20, .goto 4, 3, [15], 0, 0),
  (23, .iconst 0, 1, [], 0, 0),
  (24, .iadd, 1, [], 0, 0),
  (25, .istore_n 1, 1, [], 0, 0),
  (26, .iinc 2 1, 3, [], 1, 0),
  (29, .goto (-25), 3, [4], 0, 0),
  (32, .iload_n 1, 1, [], 0, 0),
  (33, .ireturn, 1, [], 0, 0)]
/-- WindCarverModel.note -/
def wk_115 : List wc_E := [
  (0, .aload_n 0, 1, [], 0, 0),
  (1, .getfield 149, 3, [7, 22], 0, 0),
  (4, .bipush 24, 2, [], 24, 0),
  (6, .if_icmp .ne 43, 3, [27], 0, 0),
  (9, .iconst 0, 1, [], 0, 0),
  (10, .istore_n 1, 1, [], 0, 0),
  (11, .iload_n 1, 1, [], 0, 0),
  (12, .sipush 1311, 3, [], 1311, 0),
  (15, .if_icmp .ge 24, 3, [21], 0, 0),
  (18, .aload_n 0, 1, [], 0, 0),
  (19, .getfield 34, 3, [7, 21], 0, 0),
  (22, .iload_n 1, 1, [], 0, 0),
  (23, .aload_n 0, 1, [], 0, 0),
  (24, .getfield 34, 3, [7, 21], 0, 0),
  (27, .iload_n 1, 1, [], 0, 0),
  (28, .bipush 57, 2, [], 57, 0),
  (30, .iadd, 1, [], 0, 0),
  (31, .iaload, 1, [], 0, 0),
  (32, .iastore, 1, [], 0, 0),
  (33, .iinc 1 1, 3, [], 1, 0),
  (36, .goto (-25), 3, [6], 0, 0),
  (39, .aload_n 0, 1, [], 0, 0),
  (40, .dup, 1, [], 0, 0),
  (41, .getfield 149, 3, [7, 22], 0, 0),
  (44, .iconst 1, 1, [], 1, 0),
  (45, .isub, 1, [], 0, 0),
  (46, .putfield 149, 3, [7, 22], 0, 0),
  (49, .iconst 0, 1, [], 0, 0),
  (50, .istore_n 1, 1, [], 0, 0),
  (51, .iload_n 1, 1, [], 0, 0),
  (52, .bipush 57, 2, [], 57, 0),
  (54, .if_icmp .ge 29, 3, [47], 0, 0),
  (57, .aload_n 0, 1, [], 0, 0),
  (58, .getfield 34, 3, [7, 21], 0, 0),
  (61, .bipush 57, 2, [], 57, 0),
  (63, .aload_n 0, 1, [], 0, 0),
  (64, .getfield 149, 3, [7, 22], 0, 0),
  (67, .imul, 1, [], 0, 0),
  (68, .iload_n 1, 1, [], 0, 0),
  (69, .iadd, 1, [], 0, 0),
  (70, .aload_n 0, 1, [], 0, 0),
  (71, .getfield 19, 3, [7, 5], 0, 0),
  (74, .iload_n 1, 1, [], 0, 0),
  (75, .iaload, 1, [], 0, 0),
  (76, .iastore, 1, [], 0, 0),
  (77, .iinc 1 1, 3, [], 1, 0),
  (80, .goto (-29), 3, [29], 0, 0),
  (83, .aload_n 0, 1, [], 0, 0),
  (84, .dup, 1, [], 0, 0),
  (85, .getfield 149, 3, [7, 22], 0, 0),
  (88, .iconst 1, 1, [], 1, 0),
  (89, .iadd, 1, [], 0, 0),
  (90, .putfield 149, 3, [7, 22], 0, 0),
  (93, .return_, 1, [], 0, 0)]
/-- WindCarverModel.setUp -/
def wk_116 : List wc_E := [
  (0, .aload_n 0, 1, [], 0, 0),
  (1, .getfield 145, 3, [7, 4], 0, 0),
  (4, .ifCond .ne 6, 3, [5], 0, 0),
  (7, .ldc 179, 2, [], (-1000002), 0),
  (9, .ireturn, 1, [], 0, 0),
  (10, .iload_n 1, 1, [], 0, 0),
  (11, .invokestatic 180, 3, [106], 0, 0),
  (14, .ifCond .eq 27, 3, [20], 0, 0),
  (17, .iload_n 2, 1, [], 0, 0),
  (18, .i2l, 1, [], 0, 0),
  (19, .lconst 1, 1, [], 0, 1),
  (20, .ldc2_w 183, 3, [], 0, 5),
  (23, .invokestatic 57, 3, [85], 0, 0),
  (26, .ifCond .eq 15, 3, [20], 0, 0),
  (29, .iload_n 3, 1, [], 0, 0),
  (30, .i2l, 1, [], 0, 0),
  (31, .lconst 0, 1, [], 0, 0),
  (32, .ldc2_w 185, 3, [], 0, 99),
  (35, .invokestatic 57, 3, [85], 0, 0),
  (38, .ifCond .ne 6, 3, [22], 0, 0),
  (41, .ldc 67, 2, [], (-1000001), 0),
  (43, .ireturn, 1, [], 0, 0),
  (44, .aload_n 0, 1, [], 0, 0),
  (45, .iload_n 1, 1, [], 0, 0),
  (46, .invokevirtual 172, 3, [108], 0, 0),
  (49, .ifCond .eq 6, 3, [28], 0, 0),
  (52, .ldc 179, 2, [], (-1000002), 0),
  (54, .ireturn, 1, [], 0, 0),
  (55, .aload_n 0, 1, [], 0, 0),
  (56, .invokevirtual 187, 3, [114], 0, 0),
  (59, .bipush 6, 2, [], 6, 0),
  (61, .if_icmp .ne 6, 3, [34], 0, 0),
  (64, .ldc 84, 2, [], (-1000003), 0),
  (66, .ireturn, 1, [], 0, 0),
  (67, .aload_n 0, 1, [], 0, 0),
  (68, .invokevirtual 191, 3, [115], 0, 0),
  (71, .aload_n 0, 1, [], 0, 0),
  (72, .getfield 19, 3, [7, 5], 0, 0),
  (75, .bipush 9, 2, [], 9, 0),
  (77, .iload_n 1, 1, [], 0, 0),
  (78, .iadd, 1, [], 0, 0),
  (79, .iload_n 2, 1, [], 0, 0),
  (80, .iastore, 1, [], 0, 0),
  (81, .aload_n 0, 1, [], 0, 0),
  (82, .getfield 19, 3, [7, 5], 0, 0),
  (85, .bipush 25, 2, [], 25, 0),
  (87, .iload_n 1, 1, [], 0, 0),
  (88, .iadd, 1, [], 0, 0),
  (89, .iload_n 3, 1, [], 0, 0),
  (90, .iastore, 1, [], 0, 0),
  (91, .aload_n 0, 1, [], 0, 0),
  (92, .getfield 19, 3, [7, 5], 0, 0),
  (95, .bipush 41, 2, [], 41, 0),
  (97, .iload_n 1, 1, [], 0, 0),
  (98, .iadd, 1, [], 0, 0),
  (99, .iconst 0, 1, [], 0, 0),
  (100, .iastore, 1, [], 0, 0),
  (101, .aload_n 0, 1, [], 0, 0),
  (102, .invokevirtual 187, 3, [114], 0, 0),
  (105, .ireturn, 1, [], 0, 0)]
/-- WindCarverModel.take -/
def wk_117 : List wc_E := [
  (0, .aload_n 0, 1, [], 0, 0),
  (1, .getfield 145, 3, [7, 4], 0, 0),
  (4, .ifCond .ne 6, 3, [5], 0, 0),
  (7, .ldc 179, 2, [], (-1000002), 0),
  (9, .ireturn, 1, [], 0, 0),
  (10, .iload_n 1, 1, [], 0, 0),
  (11, .invokestatic 180, 3, [106], 0, 0),
  (14, .ifCond .ne 6, 3, [10], 0, 0),
  (17, .ldc 67, 2, [], (-1000001), 0),
  (19, .ireturn, 1, [], 0, 0),
  (20, .aload_n 0, 1, [], 0, 0),
  (21, .iload_n 1, 1, [], 0, 0),
  (22, .invokevirtual 172, 3, [108], 0, 0),
  (25, .ifCond .ne 6, 3, [16], 0, 0),
  (28, .ldc 179, 2, [], (-1000002), 0),
  (30, .ireturn, 1, [], 0, 0),
  (31, .aload_n 0, 1, [], 0, 0),
  (32, .invokevirtual 191, 3, [115], 0, 0),
  (35, .aload_n 0, 1, [], 0, 0),
  (36, .iload_n 1, 1, [], 0, 0),
  (37, .invokevirtual 175, 3, [112], 0, 0),
  (40, .aload_n 0, 1, [], 0, 0),
  (41, .invokevirtual 187, 3, [114], 0, 0),
  (44, .ireturn, 1, [], 0, 0)]
/-- WindCarverModel.turn -/
def wk_118 : List wc_E := [
  (0, .aload_n 0, 1, [], 0, 0),
  (1, .getfield 145, 3, [7, 4], 0, 0),
  (4, .ifCond .ne 6, 3, [5], 0, 0),
  (7, .ldc 179, 2, [], (-1000002), 0),
  (9, .ireturn, 1, [], 0, 0),
  (10, .iload_n 1, 1, [], 0, 0),
  (11, .invokestatic 180, 3, [106], 0, 0),
  (14, .ifCond .ne 6, 3, [10], 0, 0),
  (17, .ldc 67, 2, [], (-1000001), 0),
  (19, .ireturn, 1, [], 0, 0),
  (20, .aload_n 0, 1, [], 0, 0),
  (21, .getfield 19, 3, [7, 5], 0, 0),
  (24, .bipush 9, 2, [], 9, 0),
  (26, .iload_n 1, 1, [], 0, 0),
  (27, .iadd, 1, [], 0, 0),
  (28, .iaload, 1, [], 0, 0),
  (29, .iconst 3, 1, [], 3, 0),
  (30, .if_icmp .eq 6, 3, [20], 0, 0),
  (33, .ldc 179, 2, [], (-1000002), 0),
  (35, .ireturn, 1, [], 0, 0),
  (36, .aload_n 0, 1, [], 0, 0),
  (37, .invokevirtual 191, 3, [115], 0, 0),
  (40, .aload_n 0, 1, [], 0, 0),
  (41, .getfield 19, 3, [7, 5], 0, 0),
  (44, .bipush 41, 2, [], 41, 0),
  (46, .iload_n 1, 1, [], 0, 0),
  (47, .iadd, 1, [], 0, 0),
  (48, .iconst 1, 1, [], 1, 0),
  (49, .aload_n 0, 1, [], 0, 0),
  (50, .getfield 19, 3, [7, 5], 0, 0),
  (53, .bipush 41, 2, [], 41, 0),
  (55, .iload_n 1, 1, [], 0, 0),
  (56, .iadd, 1, [], 0, 0),
  (57, .iaload, 1, [], 0, 0),
  (58, .isub, 1, [], 0, 0),
  (59, .iastore, 1, [], 0, 0),
  (60, .aload_n 0, 1, [], 0, 0),
  (61, .getfield 19, 3, [7, 5], 0, 0),
  (64, .bipush 41, 2, [], 41, 0),
  (66, .iload_n 1, 1, [], 0, 0),
  (67, .iadd, 1, [], 0, 0),
  (68, .iaload, 1, [], 0, 0),
  (69, .ireturn, 1, [], 0, 0)]
/-- WindCarverModel.gust -/
def wk_119 : List wc_E := [
  (0, .aload_n 0, 1, [], 0, 0),
  (1, .getfield 145, 3, [7, 4], 0, 0),
  (4, .ifCond .ne 6, 3, [5], 0, 0),
  (7, .ldc 179, 2, [], (-1000002), 0),
  (9, .ireturn, 1, [], 0, 0),
  (10, .iload_n 1, 1, [], 0, 0),
  (11, .invokestatic 156, 3, [107], 0, 0),
  (14, .ifCond .eq 15, 3, [14], 0, 0),
  (17, .iload_n 2, 1, [], 0, 0),
  (18, .i2l, 1, [], 0, 0),
  (19, .lconst 0, 1, [], 0, 0),
  (20, .ldc2_w 194, 3, [], 0, 31),
  (23, .invokestatic 57, 3, [85], 0, 0),
  (26, .ifCond .ne 6, 3, [16], 0, 0),
  (29, .ldc 67, 2, [], (-1000001), 0),
  (31, .ireturn, 1, [], 0, 0),
  (32, .aload_n 0, 1, [], 0, 0),
  (33, .invokevirtual 191, 3, [115], 0, 0),
  (36, .aload_n 0, 1, [], 0, 0),
  (37, .getfield 19, 3, [7, 5], 0, 0),
  (40, .iconst 1, 1, [], 1, 0),
  (41, .iload_n 1, 1, [], 0, 0),
  (42, .iadd, 1, [], 0, 0),
  (43, .iaload, 1, [], 0, 0),
  (44, .istore_n 3, 1, [], 0, 0),
  (45, .aload_n 0, 1, [], 0, 0),
  (46, .getfield 19, 3, [7, 5], 0, 0),
  (49, .iconst 1, 1, [], 1, 0),
  (50, .iload_n 1, 1, [], 0, 0),
  (51, .iadd, 1, [], 0, 0),
  (52, .iload_n 2, 1, [], 0, 0),
  (53, .iastore, 1, [], 0, 0),
  (54, .iload_n 3, 1, [], 0, 0),
  (55, .ireturn, 1, [], 0, 0)]
/-- WindCarverModel.hours -/
def wk_120 : List wc_E := [
  (0, .aload_n 0, 1, [], 0, 0),
  (1, .getfield 145, 3, [7, 4], 0, 0),
  (4, .ifCond .ne 6, 3, [5], 0, 0),
  (7, .ldc 179, 2, [], (-1000002), 0),
  (9, .ireturn, 1, [], 0, 0),
  (10, .iload_n 1, 1, [], 0, 0),
  (11, .i2l, 1, [], 0, 0),
  (12, .lconst 1, 1, [], 0, 1),
  (13, .ldc2_w 196, 3, [], 0, 20),
  (16, .invokestatic 57, 3, [85], 0, 0),
  (19, .ifCond .ne 6, 3, [13], 0, 0),
  (22, .ldc 67, 2, [], (-1000001), 0),
  (24, .ireturn, 1, [], 0, 0),
  (25, .aload_n 0, 1, [], 0, 0),
  (26, .getfield 19, 3, [7, 5], 0, 0),
  (29, .iconst 0, 1, [], 0, 0),
  (30, .iaload, 1, [], 0, 0),
  (31, .iload_n 1, 1, [], 0, 0),
  (32, .iadd, 1, [], 0, 0),
  (33, .sipush 999, 3, [], 999, 0),
  (36, .if_icmp .le 6, 3, [23], 0, 0),
  (39, .ldc 84, 2, [], (-1000003), 0),
  (41, .ireturn, 1, [], 0, 0),
  (42, .iconst 0, 1, [], 0, 0),
  (43, .istore_n 2, 1, [], 0, 0),
  (44, .iload_n 2, 1, [], 0, 0),
  (45, .iload_n 1, 1, [], 0, 0),
  (46, .if_icmp .ge 17, 3, [34], 0, 0),
  (49, .aload_n 0, 1, [], 0, 0),
  (50, .invokevirtual 191, 3, [115], 0, 0),
  (53, .aload_n 0, 1, [], 0, 0),
  (54, .invokevirtual 198, 3, [113], 0, 0),
  (57, .iinc 2 1, 3, [], 1, 0),
  (60, .goto (-16), 3, [25], 0, 0),
  (63, .aload_n 0, 1, [], 0, 0),
  (64, .invokevirtual 187, 3, [114], 0, 0),
  (67, .ireturn, 1, [], 0, 0)]
/-- WindCarverModel.undo -/
def wk_121 : List wc_E := [
  (0, .aload_n 0, 1, [], 0, 0),
  (1, .getfield 149, 3, [7, 22], 0, 0),
  (4, .ifCond .ne 6, 3, [5], 0, 0),
  (7, .ldc 179, 2, [], (-1000002), 0),
  (9, .ireturn, 1, [], 0, 0),
  (10, .aload_n 0, 1, [], 0, 0),
  (11, .dup, 1, [], 0, 0),
  (12, .getfield 149, 3, [7, 22], 0, 0),
  (15, .iconst 1, 1, [], 1, 0),
  (16, .isub, 1, [], 0, 0),
  (17, .putfield 149, 3, [7, 22], 0, 0),
  (20, .iconst 0, 1, [], 0, 0),
  (21, .istore_n 1, 1, [], 0, 0),
  (22, .iload_n 1, 1, [], 0, 0),
  (23, .bipush 57, 2, [], 57, 0),
  (25, .if_icmp .ge 29, 3, [31], 0, 0),
  (28, .aload_n 0, 1, [], 0, 0),
  (29, .getfield 19, 3, [7, 5], 0, 0),
  (32, .iload_n 1, 1, [], 0, 0),
  (33, .aload_n 0, 1, [], 0, 0),
  (34, .getfield 34, 3, [7, 21], 0, 0),
  (37, .bipush 57, 2, [], 57, 0),
  (39, .aload_n 0, 1, [], 0, 0),
  (40, .getfield 149, 3, [7, 22], 0, 0),
  (43, .imul, 1, [], 0, 0),
  (44, .iload_n 1, 1, [], 0, 0),
  (45, .iadd, 1, [], 0, 0),
  (46, .iaload, 1, [], 0, 0),
  (47, .iastore, 1, [], 0, 0),
  (48, .iinc 1 1, 3, [], 1, 0),
  (51, .goto (-29), 3, [13], 0, 0),
  (54, .aload_n 0, 1, [], 0, 0),
  (55, .getfield 149, 3, [7, 22], 0, 0),
  (58, .ireturn, 1, [], 0, 0)]
/-- WindCarverModel.cell -/
def wk_122 : List wc_E := [
  (0, .aload_n 0, 1, [], 0, 0),
  (1, .getfield 145, 3, [7, 4], 0, 0),
  (4, .ifCond .ne 6, 3, [5], 0, 0),
  (7, .ldc 179, 2, [], (-1000002), 0),
  (9, .ireturn, 1, [], 0, 0),
  (10, .iload_n 1, 1, [], 0, 0),
  (11, .invokestatic 180, 3, [106], 0, 0),
  (14, .ifCond .eq 15, 3, [14], 0, 0),
  (17, .iload_n 2, 1, [], 0, 0),
  (18, .i2l, 1, [], 0, 0),
  (19, .lconst 0, 1, [], 0, 0),
  (20, .ldc2_w 154, 3, [], 0, 3),
  (23, .invokestatic 57, 3, [85], 0, 0),
  (26, .ifCond .ne 6, 3, [16], 0, 0),
  (29, .ldc 67, 2, [], (-1000001), 0),
  (31, .ireturn, 1, [], 0, 0),
  (32, .iload_n 2, 1, [], 0, 0),
  (33, .ifCond .ne 9, 3, [22], 0, 0),
  (36, .aload_n 0, 1, [], 0, 0),
  (37, .iload_n 1, 1, [], 0, 0),
  (38, .invokevirtual 201, 3, [111], 0, 0),
  (41, .ireturn, 1, [], 0, 0),
  (42, .aload_n 0, 1, [], 0, 0),
  (43, .iload_n 1, 1, [], 0, 0),
  (44, .invokevirtual 172, 3, [108], 0, 0),
  (47, .ifCond .ne 8, 3, [28], 0, 0),
  (50, .ldc 204, 2, [], (-1000000), 0),
  (52, .goto 32, 3, [44], 0, 0),
  (55, .aload_n 0, 1, [], 0, 0),
  (56, .getfield 19, 3, [7, 5], 0, 0),
  (59, .iload_n 2, 1, [], 0, 0),
  (60, .iconst 1, 1, [], 1, 0),
  (61, .if_icmp .ne 8, 3, [35], 0, 0),
  (64, .bipush 9, 2, [], 9, 0),
  (66, .goto 15, 3, [41], 0, 0),
  (69, .iload_n 2, 1, [], 0, 0),
  (70, .iconst 2, 1, [], 2, 0),
  (71, .if_icmp .ne 8, 3, [40], 0, 0),
  (74, .bipush 25, 2, [], 25, 0),
  (76, .goto 5, 3, [41], 0, 0),
  (79, .bipush 41, 2, [], 41, 0),
  (81, .iload_n 1, 1, [], 0, 0),
  (82, .iadd, 1, [], 0, 0),
  (83, .iaload, 1, [], 0, 0),
  (84, .ireturn, 1, [], 0, 0)]
/-- WindCarverModel.wind -/
def wk_123 : List wc_E := [
  (0, .aload_n 0, 1, [], 0, 0),
  (1, .getfield 145, 3, [7, 4], 0, 0),
  (4, .ifCond .ne 6, 3, [5], 0, 0),
  (7, .ldc 179, 2, [], (-1000002), 0),
  (9, .ireturn, 1, [], 0, 0),
  (10, .iload_n 1, 1, [], 0, 0),
  (11, .invokestatic 156, 3, [107], 0, 0),
  (14, .ifCond .eq 13, 3, [14], 0, 0),
  (17, .iload_n 2, 1, [], 0, 0),
  (18, .i2l, 1, [], 0, 0),
  (19, .lconst 0, 1, [], 0, 0),
  (20, .lconst 1, 1, [], 0, 1),
  (21, .invokestatic 57, 3, [85], 0, 0),
  (24, .ifCond .ne 6, 3, [16], 0, 0),
  (27, .ldc 67, 2, [], (-1000001), 0),
  (29, .ireturn, 1, [], 0, 0),
  (30, .iload_n 2, 1, [], 0, 0),
  (31, .ifCond .ne 14, 3, [25], 0, 0),
  (34, .aload_n 0, 1, [], 0, 0),
  (35, .getfield 19, 3, [7, 5], 0, 0),
  (38, .iconst 1, 1, [], 1, 0),
  (39, .iload_n 1, 1, [], 0, 0),
  (40, .iadd, 1, [], 0, 0),
  (41, .iaload, 1, [], 0, 0),
  (42, .goto 11, 3, [31], 0, 0),
  (45, .aload_n 0, 1, [], 0, 0),
  (46, .getfield 19, 3, [7, 5], 0, 0),
  (49, .iconst 5, 1, [], 5, 0),
  (50, .iload_n 1, 1, [], 0, 0),
  (51, .iadd, 1, [], 0, 0),
  (52, .iaload, 1, [], 0, 0),
  (53, .ireturn, 1, [], 0, 0)]
/-- WindCarverModel.putAside -/
def wk_124 : List wc_E := [
  (0, .iconst 0, 1, [], 0, 0),
  (1, .istore_n 1, 1, [], 0, 0),
  (2, .iload_n 1, 1, [], 0, 0),
  (3, .bipush 57, 2, [], 57, 0),
  (5, .if_icmp .ge 21, 3, [15], 0, 0),
  (8, .aload_n 0, 1, [], 0, 0),
  (9, .getfield 37, 3, [7, 23], 0, 0),
  (12, .iload_n 1, 1, [], 0, 0),
  (13, .aload_n 0, 1, [], 0, 0),
  (14, .getfield 19, 3, [7, 5], 0, 0),
  (17, .iload_n 1, 1, [], 0, 0),
  (18, .iaload, 1, [], 0, 0),
  (19, .iastore, 1, [], 0, 0),
  (20, .iinc 1 1, 3, [], 1, 0),
  (23, .goto (-21), 3, [2], 0, 0),
  (26, .return_, 1, [], 0, 0)]
/-- WindCarverModel.takeBack -/
def wk_125 : List wc_E := [
  (0, .iconst 0, 1, [], 0, 0),
  (1, .istore_n 1, 1, [], 0, 0),
  (2, .iload_n 1, 1, [], 0, 0),
  (3, .bipush 57, 2, [], 57, 0),
  (5, .if_icmp .ge 21, 3, [15], 0, 0),
  (8, .aload_n 0, 1, [], 0, 0),
  (9, .getfield 19, 3, [7, 5], 0, 0),
  (12, .iload_n 1, 1, [], 0, 0),
  (13, .aload_n 0, 1, [], 0, 0),
  (14, .getfield 37, 3, [7, 23], 0, 0),
  (17, .iload_n 1, 1, [], 0, 0),
  (18, .iaload, 1, [], 0, 0),
  (19, .iastore, 1, [], 0, 0),
  (20, .iinc 1 1, 3, [], 1, 0),
  (23, .goto (-21), 3, [2], 0, 0),
  (26, .return_, 1, [], 0, 0)]
/-- WindCarverModel.blowIn -/
def wk_126 : List wc_E := [
  (0, .aload_n 0, 1, [], 0, 0),
  (1, .invokevirtual 205, 3, [124], 0, 0),
  (4, .iconst 0, 1, [], 0, 0),
  (5, .istore_n 2, 1, [], 0, 0),
  (6, .iload_n 2, 1, [], 0, 0),
  (7, .iload_n 1, 1, [], 0, 0),
  (8, .if_icmp .ge 13, 3, [11], 0, 0),
  (11, .aload_n 0, 1, [], 0, 0),
  (12, .invokevirtual 198, 3, [113], 0, 0),
  (15, .iinc 2 1, 3, [], 1, 0),
  (18, .goto (-12), 3, [4], 0, 0),
  (21, .aload_n 0, 1, [], 0, 0),
  (22, .invokevirtual 166, 3, [110], 0, 0),
  (25, .aload_n 0, 1, [], 0, 0),
  (26, .invokevirtual 208, 3, [125], 0, 0),
  (29, .return_, 1, [], 0, 0)]
/-- WindCarverModel.felt -/
def wk_127 : List wc_E := [
  (0, .aload_n 0, 1, [], 0, 0),
  (1, .getfield 145, 3, [7, 4], 0, 0),
  (4, .ifCond .ne 6, 3, [5], 0, 0),
  (7, .ldc 179, 2, [], (-1000002), 0),
  (9, .ireturn, 1, [], 0, 0),
  (10, .iload_n 1, 1, [], 0, 0),
  (11, .invokestatic 180, 3, [106], 0, 0),
  (14, .ifCond .eq 15, 3, [14], 0, 0),
  (17, .iload_n 2, 1, [], 0, 0),
  (18, .i2l, 1, [], 0, 0),
  (19, .lconst 0, 1, [], 0, 0),
  (20, .ldc2_w 211, 3, [], 0, 40),
  (23, .invokestatic 57, 3, [85], 0, 0),
  (26, .ifCond .ne 6, 3, [16], 0, 0),
  (29, .ldc 67, 2, [], (-1000001), 0),
  (31, .ireturn, 1, [], 0, 0),
  (32, .aload_n 0, 1, [], 0, 0),
  (33, .iload_n 2, 1, [], 0, 0),
  (34, .invokevirtual 213, 3, [126], 0, 0),
  (37, .aload_n 0, 1, [], 0, 0),
  (38, .getfield 31, 3, [7, 18], 0, 0),
  (41, .iload_n 1, 1, [], 0, 0),
  (42, .iaload, 1, [], 0, 0),
  (43, .ireturn, 1, [], 0, 0)]
/-- WindCarverModel.lost -/
def wk_128 : List wc_E := [
  (0, .aload_n 0, 1, [], 0, 0),
  (1, .getfield 145, 3, [7, 4], 0, 0),
  (4, .ifCond .ne 6, 3, [5], 0, 0),
  (7, .ldc 179, 2, [], (-1000002), 0),
  (9, .ireturn, 1, [], 0, 0),
  (10, .iload_n 1, 1, [], 0, 0),
  (11, .i2l, 1, [], 0, 0),
  (12, .lconst 0, 1, [], 0, 0),
  (13, .ldc2_w 211, 3, [], 0, 40),
  (16, .invokestatic 57, 3, [85], 0, 0),
  (19, .ifCond .ne 6, 3, [13], 0, 0),
  (22, .ldc 67, 2, [], (-1000001), 0),
  (24, .ireturn, 1, [], 0, 0),
  (25, .aload_n 0, 1, [], 0, 0),
  (26, .iload_n 1, 1, [], 0, 0),
  (27, .invokevirtual 213, 3, [126], 0, 0),
  (30, .aload_n 0, 1, [], 0, 0),
  (31, .getfield 159, 3, [7, 19], 0, 0),
  (34, .ireturn, 1, [], 0, 0)]
/-- WindCarverModel.leaves -/
def wk_129 : List wc_E := [
  (0, .aload_n 0, 1, [], 0, 0),
  (1, .getfield 145, 3, [7, 4], 0, 0),
  (4, .ifCond .ne 6, 3, [5], 0, 0),
  (7, .ldc 179, 2, [], (-1000002), 0),
  (9, .ireturn, 1, [], 0, 0),
  (10, .iload_n 1, 1, [], 0, 0),
  (11, .invokestatic 156, 3, [107], 0, 0),
  (14, .ifCond .eq 15, 3, [14], 0, 0),
  (17, .iload_n 2, 1, [], 0, 0),
  (18, .i2l, 1, [], 0, 0),
  (19, .lconst 0, 1, [], 0, 0),
  (20, .ldc2_w 211, 3, [], 0, 40),
  (23, .invokestatic 57, 3, [85], 0, 0),
  (26, .ifCond .ne 6, 3, [16], 0, 0),
  (29, .ldc 67, 2, [], (-1000001), 0),
  (31, .ireturn, 1, [], 0, 0),
  (32, .aload_n 0, 1, [], 0, 0),
  (33, .iload_n 2, 1, [], 0, 0),
  (34, .invokevirtual 213, 3, [126], 0, 0),
  (37, .aload_n 0, 1, [], 0, 0),
  (38, .getfield 31, 3, [7, 18], 0, 0),
  (41, .bipush 16, 2, [], 16, 0),
  (43, .iload_n 1, 1, [], 0, 0),
  (44, .iadd, 1, [], 0, 0),
  (45, .iaload, 1, [], 0, 0),
  (46, .ireturn, 1, [], 0, 0)]
/-- WindCarverModel.breaks -/
def wk_130 : List wc_E := [
  (0, .aload_n 0, 1, [], 0, 0),
  (1, .getfield 145, 3, [7, 4], 0, 0),
  (4, .ifCond .ne 6, 3, [5], 0, 0),
  (7, .ldc 179, 2, [], (-1000002), 0),
  (9, .ireturn, 1, [], 0, 0),
  (10, .iload_n 1, 1, [], 0, 0),
  (11, .i2l, 1, [], 0, 0),
  (12, .lconst 0, 1, [], 0, 0),
  (13, .lconst 1, 1, [], 0, 1),
  (14, .invokestatic 57, 3, [85], 0, 0),
  (17, .ifCond .ne 6, 3, [13], 0, 0),
  (20, .ldc 67, 2, [], (-1000001), 0),
  (22, .ireturn, 1, [], 0, 0),
  (23, .aload_n 0, 1, [], 0, 0),
  (24, .invokevirtual 205, 3, [124], 0, 0),
  (27, .iconst 0, 1, [], 0, 0),
  (28, .istore_n 2, 1, [], 0, 0),
  (29, .aload_n 0, 1, [], 0, 0),
  (30, .iconst 0, 1, [], 0, 0),
  (31, .putfield 169, 3, [7, 20], 0, 0),
  (34, .iload_n 2, 1, [], 0, 0),
  (35, .bipush 40, 2, [], 40, 0),
  (37, .if_icmp .ge 20, 3, [30], 0, 0),
  (40, .aload_n 0, 1, [], 0, 0),
  (41, .getfield 169, 3, [7, 20], 0, 0),
  (44, .ifCond .ne 13, 3, [30], 0, 0),
  (47, .aload_n 0, 1, [], 0, 0),
  (48, .invokevirtual 198, 3, [113], 0, 0),
  (51, .iinc 2 1, 3, [], 1, 0),
  (54, .goto (-20), 3, [20], 0, 0),
  (57, .aload_n 0, 1, [], 0, 0),
  (58, .invokevirtual 208, 3, [125], 0, 0),
  (61, .ldc 204, 2, [], (-1000000), 0),
  (63, .istore_n 3, 1, [], 0, 0),
  (64, .bipush 15, 2, [], 15, 0),
  (66, .istore 4, 2, [], 0, 0),
  (68, .iload 4, 2, [], 0, 0),
  (70, .ifCond .lt 28, 3, [49], 0, 0),
  (73, .aload_n 0, 1, [], 0, 0),
  (74, .getfield 169, 3, [7, 20], 0, 0),
  (77, .iload 4, 2, [], 0, 0),
  (79, .invokestatic 216, 3, [86], 0, 0),
  (82, .ifCond .eq 8, 3, [45], 0, 0),
  (85, .iload 4, 2, [], 0, 0),
  (87, .goto 4, 3, [46], 0, 0),
  (90, .iload_n 3, 1, [], 0, 0),
  (91, .istore_n 3, 1, [], 0, 0),
  (92, .iinc 4 (-1), 3, [], (-1), 0),
  (95, .goto (-27), 3, [36], 0, 0),
  (98, .iload_n 3, 1, [], 0, 0),
  (99, .ifCond .ge 8, 3, [53], 0, 0),
  (102, .ldc 204, 2, [], (-1000000), 0),
  (104, .goto 12, 3, [58], 0, 0),
  (107, .iload_n 1, 1, [], 0, 0),
  (108, .ifCond .ne 7, 3, [57], 0, 0),
  (111, .iload_n 2, 1, [], 0, 0),
  (112, .goto 4, 3, [58], 0, 0),
  (115, .iload_n 3, 1, [], 0, 0),
  (116, .ireturn, 1, [], 0, 0)]
/-- WindCarverModel.lacks -/
def wk_131 : List wc_E := [
  (0, .aload_n 0, 1, [], 0, 0),
  (1, .getfield 13, 3, [7, 1], 0, 0),
  (4, .iload_n 1, 1, [], 0, 0),
  (5, .iaload, 1, [], 0, 0),
  (6, .ifCond .ge 9, 3, [9], 0, 0),
  (9, .aload_n 0, 1, [], 0, 0),
  (10, .iconst 1, 1, [], 1, 0),
  (11, .invokevirtual 68, 3, [87], 0, 0),
  (14, .ireturn, 1, [], 0, 0),
  (15, .iload_n 2, 1, [], 0, 0),
  (16, .i2l, 1, [], 0, 0),
  (17, .lconst 0, 1, [], 0, 0),
  (18, .aload_n 0, 1, [], 0, 0),
  (19, .getfield 13, 3, [7, 1], 0, 0),
  (22, .iload_n 1, 1, [], 0, 0),
  (23, .iaload, 1, [], 0, 0),
  (24, .iload_n 3, 1, [], 0, 0),
  (25, .isub, 1, [], 0, 0),
  (26, .i2l, 1, [], 0, 0),
  (27, .invokestatic 57, 3, [85], 0, 0),
  (30, .ifCond .eq 7, 3, [23], 0, 0),
  (33, .iconst 0, 1, [], 0, 0),
  (34, .goto 8, 3, [26], 0, 0),
  (37, .aload_n 0, 1, [], 0, 0),
  (38, .iconst 2, 1, [], 2, 0),
  (39, .invokevirtual 68, 3, [87], 0, 0),
  (42, .ireturn, 1, [], 0, 0)]
/-- WindCarverModel.stands -/
def wk_132 : List wc_E := [
  (0, .aload_n 0, 1, [], 0, 0),
  (1, .getfield 145, 3, [7, 4], 0, 0),
  (4, .ifCond .ne 6, 3, [5], 0, 0),
  (7, .ldc 179, 2, [], (-1000002), 0),
  (9, .ireturn, 1, [], 0, 0),
  (10, .iload_n 1, 1, [], 0, 0),
  (11, .invokestatic 61, 3, [89], 0, 0),
  (14, .ifCond .ne 6, 3, [10], 0, 0),
  (17, .ldc 67, 2, [], (-1000001), 0),
  (19, .ireturn, 1, [], 0, 0),
  (20, .aload_n 0, 1, [], 0, 0),
  (21, .iload_n 1, 1, [], 0, 0),
  (22, .iload_n 2, 1, [], 0, 0),
  (23, .bipush 16, 2, [], 16, 0),
  (25, .invokevirtual 219, 3, [131], 0, 0),
  (28, .istore_n 3, 1, [], 0, 0),
  (29, .iload_n 3, 1, [], 0, 0),
  (30, .ifCond .ge 5, 3, [20], 0, 0),
  (33, .iload_n 3, 1, [], 0, 0),
  (34, .ireturn, 1, [], 0, 0),
  (35, .aload_n 0, 1, [], 0, 0),
  (36, .invokevirtual 205, 3, [124], 0, 0),
  (39, .iconst 0, 1, [], 0, 0),
  (40, .istore 4, 2, [], 0, 0),
  (42, .iconst 1, 1, [], 1, 0),
  (43, .istore 5, 2, [], 0, 0),
  (45, .iload 5, 2, [], 0, 0),
  (47, .ifCond .eq 88, 3, [72], 0, 0),
  (50, .iload 4, 2, [], 0, 0),
  (52, .bipush 40, 2, [], 40, 0),
  (54, .if_icmp .ge 81, 3, [72], 0, 0),
  (57, .aload_n 0, 1, [], 0, 0),
  (58, .invokevirtual 166, 3, [110], 0, 0),
  (61, .iconst 0, 1, [], 0, 0),
  (62, .istore 6, 2, [], 0, 0),
  (64, .iload 6, 2, [], 0, 0),
  (66, .bipush 16, 2, [], 16, 0),
  (68, .if_icmp .ge 45, 3, [61], 0, 0),
  (71, .iload 5, 2, [], 0, 0),
  (73, .ifCond .eq 31, 3, [57], 0, 0),
  (76, .aload_n 0, 1, [], 0, 0),
  (77, .getfield 16, 3, [7, 2], 0, 0),
  (80, .bipush 40, 2, [], 40, 0),
  (82, .iload_n 1, 1, [], 0, 0),
  (83, .imul, 1, [], 0, 0),
  (84, .iload_n 2, 1, [], 0, 0),
  (85, .iadd, 1, [], 0, 0),
  (86, .iload 6, 2, [], 0, 0),
  (88, .iadd, 1, [], 0, 0),
  (89, .iaload, 1, [], 0, 0),
  (90, .aload_n 0, 1, [], 0, 0),
  (91, .getfield 31, 3, [7, 18], 0, 0),
  (94, .iload 6, 2, [], 0, 0),
  (96, .iaload, 1, [], 0, 0),
  (97, .if_icmp .ne 7, 3, [57], 0, 0),
  (100, .iconst 1, 1, [], 1, 0),
  (101, .goto 4, 3, [58], 0, 0),
  (104, .iconst 0, 1, [], 0, 0),
  (105, .istore 5, 2, [], 0, 0),
  (107, .iinc 6 1, 3, [], 1, 0),
  (110, .goto (-46), 3, [35], 0, 0),
  (113, .iload 4, 2, [], 0, 0),
  (115, .iload 5, 2, [], 0, 0),
  (117, .ifCond .eq 7, 3, [66], 0, 0),
  (120, .iconst 1, 1, [], 1, 0),
  (121, .goto 4, 3, [67], 0, 0),
  (124, .iconst 0, 1, [], 0, 0),
  (125, .iadd, 1, [], 0, 0),
  (126, .istore 4, 2, [], 0, 0),
  (128, .aload_n 0, 1, [], 0, 0),
  (129, .invokevirtual 198, 3, [113], 0, 0),
  (132, .goto (-87), 3, [26], 0, 0),
  (135, .aload_n 0, 1, [], 0, 0),
  (136, .invokevirtual 208, 3, [125], 0, 0),
  (139, .aload_n 0, 1, [], 0, 0),
  (140, .iload 4, 2, [], 0, 0),
  (142, .invokevirtual 72, 3, [88], 0, 0),
  (145, .ireturn, 1, [], 0, 0)]
/-- WindCarverModel.feltWith -/
def wk_133 : List wc_E := [
  (0, .aload_n 0, 1, [], 0, 0),
  (1, .invokevirtual 205, 3, [124], 0, 0),
  (4, .iload_n 2, 1, [], 0, 0),
  (5, .ifCond .lt 13, 3, [11], 0, 0),
  (8, .aload_n 0, 1, [], 0, 0),
  (9, .getfield 19, 3, [7, 5], 0, 0),
  (12, .bipush 9, 2, [], 9, 0),
  (14, .iload_n 2, 1, [], 0, 0),
  (15, .iadd, 1, [], 0, 0),
  (16, .iconst 1, 1, [], 1, 0),
  (17, .iastore, 1, [], 0, 0),
  (18, .iload_n 3, 1, [], 0, 0),
  (19, .ifCond .lt 13, 3, [20], 0, 0),
  (22, .aload_n 0, 1, [], 0, 0),
  (23, .getfield 19, 3, [7, 5], 0, 0),
  (26, .bipush 9, 2, [], 9, 0),
  (28, .iload_n 3, 1, [], 0, 0),
  (29, .iadd, 1, [], 0, 0),
  (30, .iconst 1, 1, [], 1, 0),
  (31, .iastore, 1, [], 0, 0),
  (32, .aload_n 0, 1, [], 0, 0),
  (33, .iload_n 1, 1, [], 0, 0),
  (34, .invokevirtual 201, 3, [111], 0, 0),
  (37, .istore 4, 2, [], 0, 0),
  (39, .aload_n 0, 1, [], 0, 0),
  (40, .invokevirtual 208, 3, [125], 0, 0),
  (43, .iload 4, 2, [], 0, 0),
  (45, .ireturn, 1, [], 0, 0)]
/-- WindCarverModel.walls -/
def wk_134 : List wc_E := [
  (0, .aload_n 0, 1, [], 0, 0),
  (1, .getfield 145, 3, [7, 4], 0, 0),
  (4, .ifCond .ne 6, 3, [5], 0, 0),
  (7, .ldc 179, 2, [], (-1000002), 0),
  (9, .ireturn, 1, [], 0, 0),
  (10, .iload_n 1, 1, [], 0, 0),
  (11, .invokestatic 180, 3, [106], 0, 0),
  (14, .ifCond .eq 27, 3, [20], 0, 0),
  (17, .iload_n 2, 1, [], 0, 0),
  (18, .i2l, 1, [], 0, 0),
  (19, .lconst 0, 1, [], 0, 0),
  (20, .ldc2_w 185, 3, [], 0, 99),
  (23, .invokestatic 57, 3, [85], 0, 0),
  (26, .ifCond .eq 15, 3, [20], 0, 0),
  (29, .iload_n 3, 1, [], 0, 0),
  (30, .i2l, 1, [], 0, 0),
  (31, .ldc2_w 223, 3, [], 0, (-1)),
  (34, .lconst 1, 1, [], 0, 1),
  (35, .invokestatic 57, 3, [85], 0, 0),
  (38, .ifCond .ne 6, 3, [22], 0, 0),
  (41, .ldc 67, 2, [], (-1000001), 0),
  (43, .ireturn, 1, [], 0, 0),
  (44, .aload_n 0, 1, [], 0, 0),
  (45, .iload_n 1, 1, [], 0, 0),
  (46, .invokevirtual 201, 3, [111], 0, 0),
  (49, .iload_n 2, 1, [], 0, 0),
  (50, .if_icmp .lt 14, 3, [33], 0, 0),
  (53, .iload_n 3, 1, [], 0, 0),
  (54, .ifCond .ge 7, 3, [31], 0, 0),
  (57, .iconst 0, 1, [], 0, 0),
  (58, .goto 5, 3, [32], 0, 0),
  (61, .ldc 204, 2, [], (-1000000), 0),
  (63, .ireturn, 1, [], 0, 0),
  (64, .iconst 0, 1, [], 0, 0),
  (65, .istore 4, 2, [], 0, 0),
  (67, .iload 4, 2, [], 0, 0),
  (69, .bipush 16, 2, [], 16, 0),
  (71, .if_icmp .ge 50, 3, [61], 0, 0),
  (74, .aload_n 0, 1, [], 0, 0),
  (75, .iload 4, 2, [], 0, 0),
  (77, .invokevirtual 172, 3, [108], 0, 0),
  (80, .ifCond .ne 35, 3, [59], 0, 0),
  (83, .aload_n 0, 1, [], 0, 0),
  (84, .iload_n 1, 1, [], 0, 0),
  (85, .iload 4, 2, [], 0, 0),
  (87, .iconst (-1), 1, [], (-1), 0),
  (88, .invokevirtual 225, 3, [133], 0, 0),
  (91, .iload_n 2, 1, [], 0, 0),
  (92, .if_icmp .lt 23, 3, [59], 0, 0),
  (95, .iload_n 3, 1, [], 0, 0),
  (96, .ifCond .ge 7, 3, [53], 0, 0),
  (99, .iconst 1, 1, [], 1, 0),
  (100, .goto 14, 3, [58], 0, 0),
  (103, .iload_n 3, 1, [], 0, 0),
  (104, .ifCond .ne 8, 3, [57], 0, 0),
  (107, .iload 4, 2, [], 0, 0),
  (109, .goto 5, 3, [58], 0, 0),
  (112, .ldc 204, 2, [], (-1000000), 0),
  (114, .ireturn, 1, [], 0, 0),
  (115, .iinc 4 1, 3, [], 1, 0),
  (118, .goto (-51), 3, [35], 0, 0),
  (121, .iconst 0, 1, [], 0, 0),
  (122, .istore 4, 2, [], 0, 0),
  (124, .iload 4, 2, [], 0, 0),
  (126, .bipush 16, 2, [], 16, 0),
  (128, .if_icmp .ge 79, 3, [102], 0, 0),
  (131, .iload 4, 2, [], 0, 0),
  (133, .iconst 1, 1, [], 1, 0),
  (134, .iadd, 1, [], 0, 0),
  (135, .istore 5, 2, [], 0, 0),
  (137, .iload 5, 2, [], 0, 0),
  (139, .bipush 16, 2, [], 16, 0),
  (141, .if_icmp .ge 60, 3, [100], 0, 0),
  (144, .aload_n 0, 1, [], 0, 0),
  (145, .iload 4, 2, [], 0, 0),
  (147, .invokevirtual 172, 3, [108], 0, 0),
  (150, .ifCond .ne 45, 3, [98], 0, 0),
  (153, .aload_n 0, 1, [], 0, 0),
  (154, .iload 5, 2, [], 0, 0),
  (156, .invokevirtual 172, 3, [108], 0, 0),
  (159, .ifCond .ne 36, 3, [98], 0, 0),
  (162, .aload_n 0, 1, [], 0, 0),
  (163, .iload_n 1, 1, [], 0, 0),
  (164, .iload 4, 2, [], 0, 0),
  (166, .iload 5, 2, [], 0, 0),
  (168, .invokevirtual 225, 3, [133], 0, 0),
  (171, .iload_n 2, 1, [], 0, 0),
  (172, .if_icmp .lt 23, 3, [98], 0, 0),
  (175, .iload_n 3, 1, [], 0, 0),
  (176, .ifCond .ge 7, 3, [92], 0, 0),
  (179, .iconst 2, 1, [], 2, 0),
  (180, .goto 14, 3, [97], 0, 0),
  (183, .iload_n 3, 1, [], 0, 0),
  (184, .ifCond .ne 8, 3, [96], 0, 0),
  (187, .iload 4, 2, [], 0, 0),
  (189, .goto 5, 3, [97], 0, 0),
  (192, .iload 5, 2, [], 0, 0),
  (194, .ireturn, 1, [], 0, 0),
  (195, .iinc 5 1, 3, [], 1, 0),
  (198, .goto (-61), 3, [70], 0, 0),
  (201, .iinc 4 1, 3, [], 1, 0),
  (204, .goto (-80), 3, [63], 0, 0),
  (207, .ldc 204, 2, [], (-1000000), 0),
  (209, .ireturn, 1, [], 0, 0)]
/-- WindCarverModel.hidden -/
def wk_135 : List wc_E := [
  (0, .aload_n 0, 1, [], 0, 0),
  (1, .getfield 145, 3, [7, 4], 0, 0),
  (4, .ifCond .ne 6, 3, [5], 0, 0),
  (7, .ldc 179, 2, [], (-1000002), 0),
  (9, .ireturn, 1, [], 0, 0),
  (10, .iload_n 1, 1, [], 0, 0),
  (11, .i2l, 1, [], 0, 0),
  (12, .lconst 1, 1, [], 0, 1),
  (13, .ldc2_w 183, 3, [], 0, 5),
  (16, .invokestatic 57, 3, [85], 0, 0),
  (19, .ifCond .eq 17, 3, [17], 0, 0),
  (22, .iload_n 2, 1, [], 0, 0),
  (23, .invokestatic 156, 3, [107], 0, 0),
  (26, .ifCond .eq 10, 3, [17], 0, 0),
  (29, .iload_n 3, 1, [], 0, 0),
  (30, .invokestatic 61, 3, [89], 0, 0),
  (33, .ifCond .ne 6, 3, [19], 0, 0),
  (36, .ldc 67, 2, [], (-1000001), 0),
  (38, .ireturn, 1, [], 0, 0),
  (39, .aload_n 0, 1, [], 0, 0),
  (40, .iload_n 3, 1, [], 0, 0),
  (41, .iload 4, 2, [], 0, 0),
  (43, .iconst 4, 1, [], 4, 0),
  (44, .invokevirtual 219, 3, [131], 0, 0),
  (47, .istore 5, 2, [], 0, 0),
  (49, .iload 5, 2, [], 0, 0),
  (51, .ifCond .ge 6, 3, [29], 0, 0),
  (54, .iload 5, 2, [], 0, 0),
  (56, .ireturn, 1, [], 0, 0),
  (57, .iconst 0, 1, [], 0, 0),
  (58, .istore 6, 2, [], 0, 0),
  (60, .iconst 0, 1, [], 0, 0),
  (61, .istore 7, 2, [], 0, 0),
  (63, .iload 7, 2, [], 0, 0),
  (65, .bipush 16, 2, [], 16, 0),
  (67, .if_icmp .ge 121, 3, [102], 0, 0),
  (70, .aload_n 0, 1, [], 0, 0),
  (71, .iload 7, 2, [], 0, 0),
  (73, .invokevirtual 172, 3, [108], 0, 0),
  (76, .ifCond .ne 106, 3, [100], 0, 0),
  (79, .aload_n 0, 1, [], 0, 0),
  (80, .getfield 19, 3, [7, 5], 0, 0),
  (83, .bipush 9, 2, [], 9, 0),
  (85, .iload 7, 2, [], 0, 0),
  (87, .iadd, 1, [], 0, 0),
  (88, .iload_n 1, 1, [], 0, 0),
  (89, .iastore, 1, [], 0, 0),
  (90, .aload_n 0, 1, [], 0, 0),
  (91, .invokevirtual 166, 3, [110], 0, 0),
  (94, .iconst 1, 1, [], 1, 0),
  (95, .istore 8, 2, [], 0, 0),
  (97, .iconst 0, 1, [], 0, 0),
  (98, .istore 9, 2, [], 0, 0),
  (100, .iload 9, 2, [], 0, 0),
  (102, .iconst 4, 1, [], 4, 0),
  (103, .if_icmp .ge 50, 3, [83], 0, 0),
  (106, .iload 8, 2, [], 0, 0),
  (108, .ifCond .eq 36, 3, [79], 0, 0),
  (111, .aload_n 0, 1, [], 0, 0),
  (112, .getfield 16, 3, [7, 2], 0, 0),
  (115, .bipush 40, 2, [], 40, 0),
  (117, .iload_n 3, 1, [], 0, 0),
  (118, .imul, 1, [], 0, 0),
  (119, .iload 4, 2, [], 0, 0),
  (121, .iadd, 1, [], 0, 0),
  (122, .iload 9, 2, [], 0, 0),
  (124, .iadd, 1, [], 0, 0),
  (125, .iaload, 1, [], 0, 0),
  (126, .aload_n 0, 1, [], 0, 0),
  (127, .getfield 31, 3, [7, 18], 0, 0),
  (130, .iconst 4, 1, [], 4, 0),
  (131, .iload 9, 2, [], 0, 0),
  (133, .imul, 1, [], 0, 0),
  (134, .iload_n 2, 1, [], 0, 0),
  (135, .iadd, 1, [], 0, 0),
  (136, .iaload, 1, [], 0, 0),
  (137, .if_icmp .ne 7, 3, [79], 0, 0),
  (140, .iconst 1, 1, [], 1, 0),
  (141, .goto 4, 3, [80], 0, 0),
  (144, .iconst 0, 1, [], 0, 0),
  (145, .istore 8, 2, [], 0, 0),
  (147, .iinc 9 1, 3, [], 1, 0),
  (150, .goto (-50), 3, [53], 0, 0),
  (153, .aload_n 0, 1, [], 0, 0),
  (154, .getfield 19, 3, [7, 5], 0, 0),
  (157, .bipush 9, 2, [], 9, 0),
  (159, .iload 7, 2, [], 0, 0),
  (161, .iadd, 1, [], 0, 0),
  (162, .iconst 0, 1, [], 0, 0),
  (163, .iastore, 1, [], 0, 0),
  (164, .iload 6, 2, [], 0, 0),
  (166, .iload 8, 2, [], 0, 0),
  (168, .ifCond .eq 10, 3, [97], 0, 0),
  (171, .iconst 1, 1, [], 1, 0),
  (172, .iload 7, 2, [], 0, 0),
  (174, .ishl, 1, [], 0, 0),
  (175, .goto 4, 3, [98], 0, 0),
  (178, .iconst 0, 1, [], 0, 0),
  (179, .ior, 1, [], 0, 0),
  (180, .istore 6, 2, [], 0, 0),
  (182, .iinc 7 1, 3, [], 1, 0),
  (185, .goto (-122), 3, [33], 0, 0),
  (188, .aload_n 0, 1, [], 0, 0),
  (189, .iload 6, 2, [], 0, 0),
  (191, .invokevirtual 72, 3, [88], 0, 0),
  (194, .ireturn, 1, [], 0, 0)]
/-- WindCarverModel.most -/
def wk_136 : List wc_E := [
  (0, .aload_n 0, 1, [], 0, 0),
  (1, .getfield 145, 3, [7, 4], 0, 0),
  (4, .ifCond .ne 6, 3, [5], 0, 0),
  (7, .ldc 179, 2, [], (-1000002), 0),
  (9, .ireturn, 1, [], 0, 0),
  (10, .iload_n 1, 1, [], 0, 0),
  (11, .invokestatic 156, 3, [107], 0, 0),
  (14, .ifCond .eq 13, 3, [14], 0, 0),
  (17, .iload_n 2, 1, [], 0, 0),
  (18, .i2l, 1, [], 0, 0),
  (19, .lconst 0, 1, [], 0, 0),
  (20, .lconst 1, 1, [], 0, 1),
  (21, .invokestatic 57, 3, [85], 0, 0),
  (24, .ifCond .ne 6, 3, [16], 0, 0),
  (27, .ldc 67, 2, [], (-1000001), 0),
  (29, .ireturn, 1, [], 0, 0),
  (30, .ldc 204, 2, [], (-1000000), 0),
  (32, .istore_n 3, 1, [], 0, 0),
  (33, .iconst (-1), 1, [], (-1), 0),
  (34, .istore 4, 2, [], 0, 0),
  (36, .iconst 0, 1, [], 0, 0),
  (37, .istore 5, 2, [], 0, 0),
  (39, .iload 5, 2, [], 0, 0),
  (41, .bipush 16, 2, [], 16, 0),
  (43, .if_icmp .ge 85, 3, [68], 0, 0),
  (46, .aload_n 0, 1, [], 0, 0),
  (47, .iload 5, 2, [], 0, 0),
  (49, .invokevirtual 172, 3, [108], 0, 0),
  (52, .ifCond .ne 70, 3, [66], 0, 0),
  (55, .aload_n 0, 1, [], 0, 0),
  (56, .getfield 19, 3, [7, 5], 0, 0),
  (59, .bipush 9, 2, [], 9, 0),
  (61, .iload 5, 2, [], 0, 0),
  (63, .iadd, 1, [], 0, 0),
  (64, .iconst 1, 1, [], 1, 0),
  (65, .iastore, 1, [], 0, 0),
  (66, .aload_n 0, 1, [], 0, 0),
  (67, .invokevirtual 166, 3, [110], 0, 0),
  (70, .aload_n 0, 1, [], 0, 0),
  (71, .getfield 19, 3, [7, 5], 0, 0),
  (74, .bipush 9, 2, [], 9, 0),
  (76, .iload 5, 2, [], 0, 0),
  (78, .iadd, 1, [], 0, 0),
  (79, .iconst 0, 1, [], 0, 0),
  (80, .iastore, 1, [], 0, 0),
  (81, .aload_n 0, 1, [], 0, 0),
  (82, .getfield 31, 3, [7, 18], 0, 0),
  (85, .bipush 16, 2, [], 16, 0),
  (87, .iload_n 1, 1, [], 0, 0),
  (88, .iadd, 1, [], 0, 0),
  (89, .iaload, 1, [], 0, 0),
  (90, .istore 6, 2, [], 0, 0),
  (92, .iload 6, 2, [], 0, 0),
  (94, .iload 4, 2, [], 0, 0),
  (96, .if_icmp .le 8, 3, [57], 0, 0),
  (99, .iload 5, 2, [], 0, 0),
  (101, .goto 4, 3, [58], 0, 0),
  (104, .iload_n 3, 1, [], 0, 0),
  (105, .istore_n 3, 1, [], 0, 0),
  (106, .iload 6, 2, [], 0, 0),
  (108, .iload 4, 2, [], 0, 0),
  (110, .if_icmp .le 8, 3, [64], 0, 0),
  (113, .iload 6, 2, [], 0, 0),
  (115, .goto 5, 3, [65], 0, 0),
  (118, .iload 4, 2, [], 0, 0),
  (120, .istore 4, 2, [], 0, 0),
  (122, .iinc 5 1, 3, [], 1, 0),
  (125, .goto (-86), 3, [22], 0, 0),
  (128, .iload_n 3, 1, [], 0, 0),
  (129, .ifCond .ge 8, 3, [72], 0, 0),
  (132, .ldc 204, 2, [], (-1000000), 0),
  (134, .goto 13, 3, [77], 0, 0),
  (137, .iload_n 2, 1, [], 0, 0),
  (138, .ifCond .ne 7, 3, [76], 0, 0),
  (141, .iload_n 3, 1, [], 0, 0),
  (142, .goto 5, 3, [77], 0, 0),
  (145, .iload 4, 2, [], 0, 0),
  (147, .ireturn, 1, [], 0, 0)]
/-- WindCarverModel.lots -/
def wk_137 : List wc_E := [
  (0, .aload_n 0, 1, [], 0, 0),
  (1, .getfield 145, 3, [7, 4], 0, 0),
  (4, .ifCond .ne 6, 3, [5], 0, 0),
  (7, .ldc 179, 2, [], (-1000002), 0),
  (9, .ireturn, 1, [], 0, 0),
  (10, .iload_n 1, 1, [], 0, 0),
  (11, .invokestatic 180, 3, [106], 0, 0),
  (14, .ifCond .eq 38, 3, [26], 0, 0),
  (17, .iload_n 2, 1, [], 0, 0),
  (18, .i2l, 1, [], 0, 0),
  (19, .lconst 0, 1, [], 0, 0),
  (20, .ldc2_w 185, 3, [], 0, 99),
  (23, .invokestatic 57, 3, [85], 0, 0),
  (26, .ifCond .eq 26, 3, [26], 0, 0),
  (29, .iload_n 3, 1, [], 0, 0),
  (30, .i2l, 1, [], 0, 0),
  (31, .lconst 0, 1, [], 0, 0),
  (32, .ldc2_w 228, 3, [], 0, 10),
  (35, .invokestatic 57, 3, [85], 0, 0),
  (38, .ifCond .eq 14, 3, [26], 0, 0),
  (41, .iload 4, 2, [], 0, 0),
  (43, .i2l, 1, [], 0, 0),
  (44, .lconst 0, 1, [], 0, 0),
  (45, .lconst 1, 1, [], 0, 1),
  (46, .invokestatic 57, 3, [85], 0, 0),
  (49, .ifCond .ne 6, 3, [28], 0, 0),
  (52, .ldc 67, 2, [], (-1000001), 0),
  (54, .ireturn, 1, [], 0, 0),
  (55, .aload_n 0, 1, [], 0, 0),
  (56, .invokevirtual 205, 3, [124], 0, 0),
  (59, .aload_n 0, 1, [], 0, 0),
  (60, .invokevirtual 187, 3, [114], 0, 0),
  (63, .istore 5, 2, [], 0, 0),
  (65, .iconst 0, 1, [], 0, 0),
  (66, .istore 6, 2, [], 0, 0),
  (68, .iconst 1, 1, [], 1, 0),
  (69, .istore 7, 2, [], 0, 0),
  (71, .iconst 0, 1, [], 0, 0),
  (72, .istore 8, 2, [], 0, 0),
  (74, .iload 8, 2, [], 0, 0),
  (76, .iload 5, 2, [], 0, 0),
  (78, .if_icmp .ge 16, 3, [48], 0, 0),
  (81, .iload 7, 2, [], 0, 0),
  (83, .bipush 10, 2, [], 10, 0),
  (85, .imul, 1, [], 0, 0),
  (86, .istore 7, 2, [], 0, 0),
  (88, .iinc 8 1, 3, [], 1, 0),
  (91, .goto (-17), 3, [39], 0, 0),
  (94, .iconst 0, 1, [], 0, 0),
  (95, .istore 8, 2, [], 0, 0),
  (97, .iload 8, 2, [], 0, 0),
  (99, .iconst 1, 1, [], 1, 0),
  (100, .iload 5, 2, [], 0, 0),
  (102, .ishl, 1, [], 0, 0),
  (103, .if_icmp .ge 106, 3, [105], 0, 0),
  (106, .iconst 1, 1, [], 1, 0),
  (107, .istore 9, 2, [], 0, 0),
  (109, .iconst 0, 1, [], 0, 0),
  (110, .istore 10, 2, [], 0, 0),
  (112, .iconst 0, 1, [], 0, 0),
  (113, .istore 11, 2, [], 0, 0),
  (115, .iload 11, 2, [], 0, 0),
  (117, .bipush 16, 2, [], 16, 0),
  (119, .if_icmp .ge 60, 3, [90], 0, 0),
  (122, .aload_n 0, 1, [], 0, 0),
  (123, .iload 11, 2, [], 0, 0),
  (125, .invokevirtual 172, 3, [108], 0, 0),
  (128, .ifCond .eq 45, 3, [88], 0, 0),
  (131, .iload 9, 2, [], 0, 0),
  (133, .iload 8, 2, [], 0, 0),
  (135, .iload 10, 2, [], 0, 0),
  (137, .invokestatic 216, 3, [86], 0, 0),
  (140, .ifCond .eq 7, 3, [75], 0, 0),
  (143, .iload_n 3, 1, [], 0, 0),
  (144, .goto 7, 3, [78], 0, 0),
  (147, .bipush 10, 2, [], 10, 0),
  (149, .iload_n 3, 1, [], 0, 0),
  (150, .isub, 1, [], 0, 0),
  (151, .imul, 1, [], 0, 0),
  (152, .istore 9, 2, [], 0, 0),
  (154, .iload 8, 2, [], 0, 0),
  (156, .iload 10, 2, [], 0, 0),
  (158, .invokestatic 216, 3, [86], 0, 0),
  (161, .ifCond .eq 9, 3, [87], 0, 0),
  (164, .aload_n 0, 1, [], 0, 0),
  (165, .iload 11, 2, [], 0, 0),
  (167, .invokevirtual 175, 3, [112], 0, 0),
  (170, .iinc 10 1, 3, [], 1, 0),
  (173, .iinc 11 1, 3, [], 1, 0),
  (176, .goto (-61), 3, [61], 0, 0),
  (179, .iload 6, 2, [], 0, 0),
  (181, .aload_n 0, 1, [], 0, 0),
  (182, .iload_n 1, 1, [], 0, 0),
  (183, .invokevirtual 201, 3, [111], 0, 0),
  (186, .iload_n 2, 1, [], 0, 0),
  (187, .if_icmp .lt 8, 3, [98], 0, 0),
  (190, .iload 9, 2, [], 0, 0),
  (192, .goto 4, 3, [99], 0, 0),
  (195, .iconst 0, 1, [], 0, 0),
  (196, .iadd, 1, [], 0, 0),
  (197, .istore 6, 2, [], 0, 0),
  (199, .aload_n 0, 1, [], 0, 0),
  (200, .invokevirtual 208, 3, [125], 0, 0),
  (203, .iinc 8 1, 3, [], 1, 0),
  (206, .goto (-109), 3, [50], 0, 0),
  (209, .iload 6, 2, [], 0, 0),
  (211, .istore 8, 2, [], 0, 0),
  (213, .iload 7, 2, [], 0, 0),
  (215, .istore 9, 2, [], 0, 0),
  (217, .iload 9, 2, [], 0, 0),
  (219, .ifCond .eq 21, 3, [120], 0, 0),
  (222, .iload 8, 2, [], 0, 0),
  (224, .iload 9, 2, [], 0, 0),
  (226, .irem, 1, [], 0, 0),
  (227, .istore 10, 2, [], 0, 0),
  (229, .iload 9, 2, [], 0, 0),
  (231, .istore 8, 2, [], 0, 0),
  (233, .iload 10, 2, [], 0, 0),
  (235, .istore 9, 2, [], 0, 0),
  (237, .goto (-20), 3, [109], 0, 0),
  (240, .iload 4, 2, [], 0, 0),
  (242, .ifCond .ne 11, 3, [126], 0, 0),
  (245, .iload 6, 2, [], 0, 0),
  (247, .iload 8, 2, [], 0, 0),
  (249, .idiv, 1, [], 0, 0),
  (250, .goto 8, 3, [129], 0, 0),
  (253, .iload 7, 2, [], 0, 0),
  (255, .iload 8, 2, [], 0, 0),
  (257, .idiv, 1, [], 0, 0),
  (258, .ireturn, 1, [], 0, 0)]
/-- WindCarverModel.image -/
def wk_138 : List wc_E := [
  (0, .iload_n 1, 1, [], 0, 0),
  (1, .i2l, 1, [], 0, 0),
  (2, .lconst 0, 1, [], 0, 0),
  (3, .lconst 1, 1, [], 0, 1),
  (4, .invokestatic 57, 3, [85], 0, 0),
  (7, .ifCond .ne 6, 3, [8], 0, 0),
  (10, .ldc 67, 2, [], (-1000001), 0),
  (12, .ireturn, 1, [], 0, 0),
  (13, .aload_n 0, 1, [], 0, 0),
  (14, .getfield 145, 3, [7, 4], 0, 0),
  (17, .ifCond .ne 6, 3, [13], 0, 0),
  (20, .ldc 179, 2, [], (-1000002), 0),
  (22, .ireturn, 1, [], 0, 0),
  (23, .iconst 0, 1, [], 0, 0),
  (24, .istore_n 2, 1, [], 0, 0),
  (25, .iload_n 2, 1, [], 0, 0),
  (26, .bipush 57, 2, [], 57, 0),
  (28, .if_icmp .ge 26, 3, [32], 0, 0),
  (31, .aload_n 0, 1, [], 0, 0),
  (32, .getfield 44, 3, [7, 25], 0, 0),
  (35, .bipush 57, 2, [], 57, 0),
  (37, .iload_n 1, 1, [], 0, 0),
  (38, .imul, 1, [], 0, 0),
  (39, .iload_n 2, 1, [], 0, 0),
  (40, .iadd, 1, [], 0, 0),
  (41, .aload_n 0, 1, [], 0, 0),
  (42, .getfield 19, 3, [7, 5], 0, 0),
  (45, .iload_n 2, 1, [], 0, 0),
  (46, .iaload, 1, [], 0, 0),
  (47, .iastore, 1, [], 0, 0),
  (48, .iinc 2 1, 3, [], 1, 0),
  (51, .goto (-26), 3, [15], 0, 0),
  (54, .aload_n 0, 1, [], 0, 0),
  (55, .getfield 40, 3, [7, 24], 0, 0),
  (58, .iload_n 1, 1, [], 0, 0),
  (59, .iconst 1, 1, [], 1, 0),
  (60, .bastore, 1, [], 0, 0),
  (61, .iconst 1, 1, [], 1, 0),
  (62, .ireturn, 1, [], 0, 0)]
/-- WindCarverModel.restore -/
def wk_139 : List wc_E := [
  (0, .iload_n 1, 1, [], 0, 0),
  (1, .i2l, 1, [], 0, 0),
  (2, .lconst 0, 1, [], 0, 0),
  (3, .lconst 1, 1, [], 0, 1),
  (4, .invokestatic 57, 3, [85], 0, 0),
  (7, .ifCond .ne 6, 3, [8], 0, 0),
  (10, .ldc 67, 2, [], (-1000001), 0),
  (12, .ireturn, 1, [], 0, 0),
  (13, .aload_n 0, 1, [], 0, 0),
  (14, .getfield 40, 3, [7, 24], 0, 0),
  (17, .iload_n 1, 1, [], 0, 0),
  (18, .baload, 1, [], 0, 0),
  (19, .ifCond .ne 6, 3, [15], 0, 0),
  (22, .ldc 179, 2, [], (-1000002), 0),
  (24, .ireturn, 1, [], 0, 0),
  (25, .iconst 0, 1, [], 0, 0),
  (26, .istore_n 2, 1, [], 0, 0),
  (27, .iload_n 2, 1, [], 0, 0),
  (28, .bipush 57, 2, [], 57, 0),
  (30, .if_icmp .ge 26, 3, [34], 0, 0),
  (33, .aload_n 0, 1, [], 0, 0),
  (34, .getfield 19, 3, [7, 5], 0, 0),
  (37, .iload_n 2, 1, [], 0, 0),
  (38, .aload_n 0, 1, [], 0, 0),
  (39, .getfield 44, 3, [7, 25], 0, 0),
  (42, .bipush 57, 2, [], 57, 0),
  (44, .iload_n 1, 1, [], 0, 0),
  (45, .imul, 1, [], 0, 0),
  (46, .iload_n 2, 1, [], 0, 0),
  (47, .iadd, 1, [], 0, 0),
  (48, .iaload, 1, [], 0, 0),
  (49, .iastore, 1, [], 0, 0),
  (50, .iinc 2 1, 3, [], 1, 0),
  (53, .goto (-26), 3, [17], 0, 0),
  (56, .aload_n 0, 1, [], 0, 0),
  (57, .iconst 0, 1, [], 0, 0),
  (58, .putfield 149, 3, [7, 22], 0, 0),
  (61, .iconst 1, 1, [], 1, 0),
  (62, .ireturn, 1, [], 0, 0)]
/-- WindCarverModel.kind -/
def wk_140 : List wc_E := [
  (0, .aload_n 0, 1, [], 0, 0),
  (1, .getfield 145, 3, [7, 4], 0, 0),
  (4, .ifCond .ne 6, 3, [5], 0, 0),
  (7, .ldc 179, 2, [], (-1000002), 0),
  (9, .ireturn, 1, [], 0, 0),
  (10, .iload_n 1, 1, [], 0, 0),
  (11, .invokestatic 180, 3, [106], 0, 0),
  (14, .ifCond .ne 8, 3, [10], 0, 0),
  (17, .ldc 67, 2, [], (-1000001), 0),
  (19, .goto 25, 3, [22], 0, 0),
  (22, .aload_n 0, 1, [], 0, 0),
  (23, .iload_n 1, 1, [], 0, 0),
  (24, .invokevirtual 172, 3, [108], 0, 0),
  (27, .ifCond .eq 15, 3, [21], 0, 0),
  (30, .aload_n 0, 1, [], 0, 0),
  (31, .getfield 19, 3, [7, 5], 0, 0),
  (34, .bipush 9, 2, [], 9, 0),
  (36, .iload_n 1, 1, [], 0, 0),
  (37, .iadd, 1, [], 0, 0),
  (38, .iaload, 1, [], 0, 0),
  (39, .goto 5, 3, [22], 0, 0),
  (42, .ldc 204, 2, [], (-1000000), 0),
  (44, .ireturn, 1, [], 0, 0)]
/-- WindCarverModel.isKind -/
def wk_141 : List wc_E := [
  (0, .iload_n 1, 1, [], 0, 0),
  (1, .ifCond .eq 28, 3, [17], 0, 0),
  (4, .iload_n 0, 1, [], 0, 0),
  (5, .iload_n 1, 1, [], 0, 0),
  (6, .if_icmp .eq 23, 3, [17], 0, 0),
  (9, .iload_n 1, 1, [], 0, 0),
  (10, .iconst 1, 1, [], 1, 0),
  (11, .if_icmp .ne 8, 3, [11], 0, 0),
  (14, .iload_n 0, 1, [], 0, 0),
  (15, .iconst 4, 1, [], 4, 0),
  (16, .if_icmp .lt 13, 3, [17], 0, 0),
  (19, .iload_n 1, 1, [], 0, 0),
  (20, .iconst 4, 1, [], 4, 0),
  (21, .if_icmp .ne 12, 3, [19], 0, 0),
  (24, .iload_n 0, 1, [], 0, 0),
  (25, .iconst 5, 1, [], 5, 0),
  (26, .if_icmp .ne 7, 3, [19], 0, 0),
  (29, .iconst 1, 1, [], 1, 0),
  (30, .goto 4, 3, [20], 0, 0),
  (33, .iconst 0, 1, [], 0, 0),
  (34, .ireturn, 1, [], 0, 0)]
/-- WindCarverModel.as -/
def wk_142 : List wc_E := [
  (0, .aload_n 0, 1, [], 0, 0),
  (1, .getfield 145, 3, [7, 4], 0, 0),
  (4, .ifCond .ne 6, 3, [5], 0, 0),
  (7, .ldc 179, 2, [], (-1000002), 0),
  (9, .ireturn, 1, [], 0, 0),
  (10, .iload_n 1, 1, [], 0, 0),
  (11, .invokestatic 180, 3, [106], 0, 0),
  (14, .ifCond .eq 15, 3, [14], 0, 0),
  (17, .iload_n 2, 1, [], 0, 0),
  (18, .i2l, 1, [], 0, 0),
  (19, .lconst 0, 1, [], 0, 0),
  (20, .ldc2_w 183, 3, [], 0, 5),
  (23, .invokestatic 57, 3, [85], 0, 0),
  (26, .ifCond .ne 6, 3, [16], 0, 0),
  (29, .ldc 67, 2, [], (-1000001), 0),
  (31, .ireturn, 1, [], 0, 0),
  (32, .aload_n 0, 1, [], 0, 0),
  (33, .iload_n 1, 1, [], 0, 0),
  (34, .invokevirtual 172, 3, [108], 0, 0),
  (37, .ifCond .ne 6, 3, [22], 0, 0),
  (40, .ldc 179, 2, [], (-1000002), 0),
  (42, .ireturn, 1, [], 0, 0),
  (43, .aload_n 0, 1, [], 0, 0),
  (44, .getfield 19, 3, [7, 5], 0, 0),
  (47, .bipush 9, 2, [], 9, 0),
  (49, .iload_n 1, 1, [], 0, 0),
  (50, .iadd, 1, [], 0, 0),
  (51, .iaload, 1, [], 0, 0),
  (52, .iload_n 2, 1, [], 0, 0),
  (53, .invokestatic 230, 3, [141], 0, 0),
  (56, .ifCond .eq 11, 3, [35], 0, 0),
  (59, .aload_n 0, 1, [], 0, 0),
  (60, .iload_n 1, 1, [], 0, 0),
  (61, .invokevirtual 72, 3, [88], 0, 0),
  (64, .goto 8, 3, [38], 0, 0),
  (67, .aload_n 0, 1, [], 0, 0),
  (68, .iconst 3, 1, [], 3, 0),
  (69, .invokevirtual 68, 3, [87], 0, 0),
  (72, .ireturn, 1, [], 0, 0)]
/-- WindCarverModel.begin -/
def wk_143 : List wc_E := [
  (0, .aload_n 0, 1, [], 0, 0),
  (1, .getfield 233, 3, [7, 27], 0, 0),
  (4, .bipush 16, 2, [], 16, 0),
  (6, .if_icmp .ge 23, 3, [16], 0, 0),
  (9, .aload_n 0, 1, [], 0, 0),
  (10, .getfield 47, 3, [7, 26], 0, 0),
  (13, .aload_n 0, 1, [], 0, 0),
  (14, .getfield 233, 3, [7, 27], 0, 0),
  (17, .iload_n 1, 1, [], 0, 0),
  (18, .iastore, 1, [], 0, 0),
  (19, .aload_n 0, 1, [], 0, 0),
  (20, .dup, 1, [], 0, 0),
  (21, .getfield 233, 3, [7, 27], 0, 0),
  (24, .iconst 1, 1, [], 1, 0),
  (25, .iadd, 1, [], 0, 0),
  (26, .putfield 233, 3, [7, 27], 0, 0),
  (29, .return_, 1, [], 0, 0)]
/-- WindCarverModel.lent -/
def wk_144 : List wc_E := [
  (0, .aload_n 0, 1, [], 0, 0),
  (1, .iload_n 2, 1, [], 0, 0),
  (2, .invokevirtual 236, 3, [143], 0, 0),
  (5, .iload_n 2, 1, [], 0, 0),
  (6, .bipush 10, 2, [], 10, 0),
  (8, .if_icmp .ne 15, 3, [13], 0, 0),
  (11, .aload_n 0, 1, [], 0, 0),
  (12, .getfield 19, 3, [7, 5], 0, 0),
  (15, .bipush 25, 2, [], 25, 0),
  (17, .iload_n 1, 1, [], 0, 0),
  (18, .iadd, 1, [], 0, 0),
  (19, .iaload, 1, [], 0, 0),
  (20, .goto 4, 3, [14], 0, 0),
  (23, .iload_n 1, 1, [], 0, 0),
  (24, .ireturn, 1, [], 0, 0)]
/-- WindCarverModel.wallMark -/
def wk_145 : List wc_E := [
  (0, .aload_n 0, 1, [], 0, 0),
  (1, .bipush 21, 2, [], 21, 0),
  (3, .invokevirtual 236, 3, [143], 0, 0),
  (6, .aload_n 0, 1, [], 0, 0),
  (7, .iload_n 1, 1, [], 0, 0),
  (8, .bipush 20, 2, [], 20, 0),
  (10, .invokevirtual 239, 3, [144], 0, 0),
  (13, .aload_n 0, 1, [], 0, 0),
  (14, .iload_n 1, 1, [], 0, 0),
  (15, .invokevirtual 201, 3, [111], 0, 0),
  (18, .iadd, 1, [], 0, 0),
  (19, .ireturn, 1, [], 0, 0)]
/-- WindCarverModel.handSize -/
def wk_146 : List wc_E := [
  (0, .aload_n 0, 1, [], 0, 0),
  (1, .bipush 13, 2, [], 13, 0),
  (3, .invokevirtual 236, 3, [143], 0, 0),
  (6, .aload_n 0, 1, [], 0, 0),
  (7, .iload_n 1, 1, [], 0, 0),
  (8, .bipush 10, 2, [], 10, 0),
  (10, .invokevirtual 239, 3, [144], 0, 0),
  (13, .bipush 100, 2, [], 100, 0),
  (15, .isub, 1, [], 0, 0),
  (16, .ireturn, 1, [], 0, 0)]
/-- WindCarverModel.sizeOfHand -/
def wk_147 : List wc_E := [
  (0, .aload_n 0, 1, [], 0, 0),
  (1, .getfield 19, 3, [7, 5], 0, 0),
  (4, .bipush 9, 2, [], 9, 0),
  (6, .iload_n 1, 1, [], 0, 0),
  (7, .iadd, 1, [], 0, 0),
  (8, .iaload, 1, [], 0, 0),
  (9, .iconst 5, 1, [], 5, 0),
  (10, .if_icmp .ne 17, 3, [17], 0, 0),
  (13, .aload_n 0, 1, [], 0, 0),
  (14, .bipush 14, 2, [], 14, 0),
  (16, .invokevirtual 236, 3, [143], 0, 0),
  (19, .iconst 2, 1, [], 2, 0),
  (20, .aload_n 0, 1, [], 0, 0),
  (21, .iload_n 1, 1, [], 0, 0),
  (22, .invokevirtual 242, 3, [146], 0, 0),
  (25, .imul, 1, [], 0, 0),
  (26, .ireturn, 1, [], 0, 0),
  (27, .aload_n 0, 1, [], 0, 0),
  (28, .iload_n 1, 1, [], 0, 0),
  (29, .invokevirtual 242, 3, [146], 0, 0),
  (32, .ireturn, 1, [], 0, 0)]
/-- WindCarverModel.markOf -/
def wk_148 : List wc_E := [
  (0, .aload_n 0, 1, [], 0, 0),
  (1, .getfield 19, 3, [7, 5], 0, 0),
  (4, .bipush 9, 2, [], 9, 0),
  (6, .iload_n 1, 1, [], 0, 0),
  (7, .iadd, 1, [], 0, 0),
  (8, .iaload, 1, [], 0, 0),
  (9, .istore_n 2, 1, [], 0, 0),
  (10, .iload_n 2, 1, [], 0, 0),
  (11, .iconst 2, 1, [], 2, 0),
  (12, .if_icmp .ne 17, 3, [19], 0, 0),
  (15, .aload_n 0, 1, [], 0, 0),
  (16, .bipush 24, 2, [], 24, 0),
  (18, .invokevirtual 236, 3, [143], 0, 0),
  (21, .iconst 2, 1, [], 2, 0),
  (22, .aload_n 0, 1, [], 0, 0),
  (23, .iload_n 1, 1, [], 0, 0),
  (24, .invokevirtual 245, 3, [145], 0, 0),
  (27, .imul, 1, [], 0, 0),
  (28, .ireturn, 1, [], 0, 0),
  (29, .iload_n 2, 1, [], 0, 0),
  (30, .iconst 3, 1, [], 3, 0),
  (31, .if_icmp .ne 19, 3, [31], 0, 0),
  (34, .aload_n 0, 1, [], 0, 0),
  (35, .bipush 22, 2, [], 22, 0),
  (37, .invokevirtual 236, 3, [143], 0, 0),
  (40, .aload_n 0, 1, [], 0, 0),
  (41, .iload_n 1, 1, [], 0, 0),
  (42, .invokevirtual 245, 3, [145], 0, 0),
  (45, .sipush 1000, 3, [], 1000, 0),
  (48, .isub, 1, [], 0, 0),
  (49, .ireturn, 1, [], 0, 0),
  (50, .iload_n 2, 1, [], 0, 0),
  (51, .iconst 1, 1, [], 1, 0),
  (52, .if_icmp .ne 9, 3, [38], 0, 0),
  (55, .aload_n 0, 1, [], 0, 0),
  (56, .iload_n 1, 1, [], 0, 0),
  (57, .invokevirtual 245, 3, [145], 0, 0),
  (60, .ireturn, 1, [], 0, 0),
  (61, .aload_n 0, 1, [], 0, 0),
  (62, .bipush 23, 2, [], 23, 0),
  (64, .invokevirtual 236, 3, [143], 0, 0),
  (67, .aload_n 0, 1, [], 0, 0),
  (68, .iload_n 1, 1, [], 0, 0),
  (69, .bipush 20, 2, [], 20, 0),
  (71, .invokevirtual 239, 3, [144], 0, 0),
  (74, .istore_n 3, 1, [], 0, 0),
  (75, .iload_n 3, 1, [], 0, 0),
  (76, .aload_n 0, 1, [], 0, 0),
  (77, .iload_n 1, 1, [], 0, 0),
  (78, .invokevirtual 248, 3, [147], 0, 0),
  (81, .isub, 1, [], 0, 0),
  (82, .ireturn, 1, [], 0, 0)]
/-- WindCarverModel.wallSize -/
def wk_149 : List wc_E := [
  (0, .aload_n 0, 1, [], 0, 0),
  (1, .bipush 11, 2, [], 11, 0),
  (3, .invokevirtual 236, 3, [143], 0, 0),
  (6, .aload_n 0, 1, [], 0, 0),
  (7, .iload_n 1, 1, [], 0, 0),
  (8, .bipush 10, 2, [], 10, 0),
  (10, .invokevirtual 239, 3, [144], 0, 0),
  (13, .istore_n 2, 1, [], 0, 0),
  (14, .iload_n 2, 1, [], 0, 0),
  (15, .aload_n 0, 1, [], 0, 0),
  (16, .iload_n 1, 1, [], 0, 0),
  (17, .invokevirtual 251, 3, [148], 0, 0),
  (20, .iadd, 1, [], 0, 0),
  (21, .ireturn, 1, [], 0, 0)]
/-- WindCarverModel.sizeOf -/
def wk_150 : List wc_E := [
  (0, .aload_n 0, 1, [], 0, 0),
  (1, .getfield 19, 3, [7, 5], 0, 0),
  (4, .bipush 9, 2, [], 9, 0),
  (6, .iload_n 1, 1, [], 0, 0),
  (7, .iadd, 1, [], 0, 0),
  (8, .iaload, 1, [], 0, 0),
  (9, .istore_n 2, 1, [], 0, 0),
  (10, .iload_n 2, 1, [], 0, 0),
  (11, .iconst 2, 1, [], 2, 0),
  (12, .if_icmp .ne 16, 3, [18], 0, 0),
  (15, .aload_n 0, 1, [], 0, 0),
  (16, .bipush 12, 2, [], 12, 0),
  (18, .invokevirtual 236, 3, [143], 0, 0),
  (21, .aload_n 0, 1, [], 0, 0),
  (22, .iload_n 1, 1, [], 0, 0),
  (23, .invokevirtual 254, 3, [149], 0, 0),
  (26, .ineg, 1, [], 0, 0),
  (27, .ireturn, 1, [], 0, 0),
  (28, .iload_n 2, 1, [], 0, 0),
  (29, .iconst 4, 1, [], 4, 0),
  (30, .if_icmp .lt 11, 3, [25], 0, 0),
  (33, .aload_n 0, 1, [], 0, 0),
  (34, .iload_n 1, 1, [], 0, 0),
  (35, .invokevirtual 248, 3, [147], 0, 0),
  (38, .goto 8, 3, [28], 0, 0),
  (41, .aload_n 0, 1, [], 0, 0),
  (42, .iload_n 1, 1, [], 0, 0),
  (43, .invokevirtual 254, 3, [149], 0, 0),
  (46, .ireturn, 1, [], 0, 0)]
/-- WindCarverModel.ask -/
def wk_151 : List wc_E := [
  (0, .aload_n 0, 1, [], 0, 0),
  (1, .getfield 145, 3, [7, 4], 0, 0),
  (4, .ifCond .ne 6, 3, [5], 0, 0),
  (7, .ldc 179, 2, [], (-1000002), 0),
  (9, .ireturn, 1, [], 0, 0),
  (10, .iload_n 1, 1, [], 0, 0),
  (11, .invokestatic 180, 3, [106], 0, 0),
  (14, .ifCond .eq 13, 3, [14], 0, 0),
  (17, .iload_n 2, 1, [], 0, 0),
  (18, .i2l, 1, [], 0, 0),
  (19, .lconst 0, 1, [], 0, 0),
  (20, .lconst 1, 1, [], 0, 1),
  (21, .invokestatic 57, 3, [85], 0, 0),
  (24, .ifCond .ne 6, 3, [16], 0, 0),
  (27, .ldc 67, 2, [], (-1000001), 0),
  (29, .ireturn, 1, [], 0, 0),
  (30, .aload_n 0, 1, [], 0, 0),
  (31, .iload_n 1, 1, [], 0, 0),
  (32, .invokevirtual 172, 3, [108], 0, 0),
  (35, .ifCond .ne 6, 3, [22], 0, 0),
  (38, .ldc 179, 2, [], (-1000002), 0),
  (40, .ireturn, 1, [], 0, 0),
  (41, .aload_n 0, 1, [], 0, 0),
  (42, .iconst 0, 1, [], 0, 0),
  (43, .putfield 233, 3, [7, 27], 0, 0),
  (46, .iload_n 2, 1, [], 0, 0),
  (47, .ifCond .ne 11, 3, [31], 0, 0),
  (50, .aload_n 0, 1, [], 0, 0),
  (51, .iload_n 1, 1, [], 0, 0),
  (52, .invokevirtual 257, 3, [150], 0, 0),
  (55, .goto 8, 3, [34], 0, 0),
  (58, .aload_n 0, 1, [], 0, 0),
  (59, .iload_n 1, 1, [], 0, 0),
  (60, .invokevirtual 251, 3, [148], 0, 0),
  (63, .ireturn, 1, [], 0, 0)]
/-- WindCarverModel.trace -/
def wk_152 : List wc_E := [
  (0, .iload_n 1, 1, [], 0, 0),
  (1, .i2l, 1, [], 0, 0),
  (2, .lconst 0, 1, [], 0, 0),
  (3, .aload_n 0, 1, [], 0, 0),
  (4, .getfield 233, 3, [7, 27], 0, 0),
  (7, .iconst 1, 1, [], 1, 0),
  (8, .isub, 1, [], 0, 0),
  (9, .i2l, 1, [], 0, 0),
  (10, .invokestatic 57, 3, [85], 0, 0),
  (13, .ifCond .eq 12, 3, [15], 0, 0),
  (16, .aload_n 0, 1, [], 0, 0),
  (17, .getfield 47, 3, [7, 26], 0, 0),
  (20, .iload_n 1, 1, [], 0, 0),
  (21, .iaload, 1, [], 0, 0),
  (22, .goto 5, 3, [16], 0, 0),
  (25, .ldc 204, 2, [], (-1000000), 0),
  (27, .ireturn, 1, [], 0, 0)]
/-- WindCarverModel.count -/
def wk_153 : List wc_E := [
  (0, .iconst 0, 1, [], 0, 0),
  (1, .istore_n 2, 1, [], 0, 0),
  (2, .iconst 0, 1, [], 0, 0),
  (3, .istore_n 3, 1, [], 0, 0),
  (4, .iload_n 3, 1, [], 0, 0),
  (5, .bipush 8, 2, [], 8, 0),
  (7, .if_icmp .ge 26, 3, [20], 0, 0),
  (10, .iload_n 2, 1, [], 0, 0),
  (11, .aload_n 0, 1, [], 0, 0),
  (12, .getfield 13, 3, [7, 1], 0, 0),
  (15, .iload_n 3, 1, [], 0, 0),
  (16, .iaload, 1, [], 0, 0),
  (17, .ifCond .lt 7, 3, [15], 0, 0),
  (20, .iconst 1, 1, [], 1, 0),
  (21, .goto 4, 3, [16], 0, 0),
  (24, .iconst 0, 1, [], 0, 0),
  (25, .iadd, 1, [], 0, 0),
  (26, .istore_n 2, 1, [], 0, 0),
  (27, .iinc 3 1, 3, [], 1, 0),
  (30, .goto (-26), 3, [4], 0, 0),
  (33, .aload_n 0, 1, [], 0, 0),
  (34, .invokevirtual 166, 3, [110], 0, 0),
  (37, .iload_n 1, 1, [], 0, 0),
  (38, .tableswitch 103 0 6 #[42, 44, 49, 56, 61, 93, 98], 42, [63, 24, 26, 29, 34, 37, 57, 60], 0, 0),
  (80, .iload_n 2, 1, [], 0, 0),
  (81, .ireturn, 1, [], 0, 0),
  (82, .aload_n 0, 1, [], 0, 0),
  (83, .invokevirtual 187, 3, [114], 0, 0),
  (86, .ireturn, 1, [], 0, 0),
  (87, .aload_n 0, 1, [], 0, 0),
  (88, .getfield 19, 3, [7, 5], 0, 0),
  (91, .iconst 0, 1, [], 0, 0),
  (92, .iaload, 1, [], 0, 0),
  (93, .ireturn, 1, [], 0, 0),
  (94, .aload_n 0, 1, [], 0, 0),
  (95, .getfield 159, 3, [7, 19], 0, 0),
  (98, .ireturn, 1, [], 0, 0),
  (99, .aload_n 0, 1, [], 0, 0),
  (100, .getfield 31, 3, [7, 18], 0, 0),
  (103, .bipush 16, 2, [], 16, 0),
  (105, .iaload, 1, [], 0, 0),
  (106, .aload_n 0, 1, [], 0, 0),
  (107, .getfield 31, 3, [7, 18], 0, 0),
  (110, .bipush 17, 2, [], 17, 0),
  (112, .iaload, 1, [], 0, 0),
  (113, .iadd, 1, [], 0, 0),
  (114, .aload_n 0, 1, [], 0, 0),
  (115, .getfield 31, 3, [7, 18], 0, 0),
  (118, .bipush 18, 2, [], 18, 0),
  (120, .iaload, 1, [], 0, 0),
  (121, .iadd, 1, [], 0, 0),
  (122, .aload_n 0, 1, [], 0, 0),
  (123, .getfield 31, 3, [7, 18], 0, 0),
  (126, .bipush 19, 2, [], 19, 0),
  (128, .iaload, 1, [], 0, 0),
  (129, .iadd, 1, [], 0, 0),
  (130, .ireturn, 1, [], 0, 0),
  (131, .aload_n 0, 1, [], 0, 0),
  (132, .getfield 149, 3, [7, 22], 0, 0),
  (135, .ireturn, 1, [], 0, 0),
  (136, .aload_n 0, 1, [], 0, 0),
  (137, .getfield 81, 3, [7, 8], 0, 0),
  (140, .ireturn, 1, [], 0, 0),
  (141, .ldc 67, 2, [], (-1000001), 0),
  (143, .ireturn, 1, [], 0, 0)]
/-- WindCarverModel.status -/
def wk_154 : List wc_E := [
  (0, .aload_n 0, 1, [], 0, 0),
  (1, .getfield 50, 3, [7, 3], 0, 0),
  (4, .ireturn, 1, [], 0, 0)]
def wc_cdl : List (List wc_E) := [wk_0, wk_1, wk_2, wk_3, wk_4, wk_5, wk_6, wk_7, wk_8, wk_9, wk_10, wk_11, wk_12, wk_13, wk_14, wk_15, wk_16, wk_17, wk_18, wk_19, wk_20, wk_21, wk_22, wk_23, wk_24, wk_25, wk_26, wk_27, wk_28, wk_29, wk_30, wk_31, wk_32, wk_33, wk_34, wk_35, wk_36, wk_37, wk_38, wk_39, wk_40, wk_41, wk_42, wk_43, wk_44, wk_45, wk_46, wk_47, wk_48, wk_49, wk_50, wk_51, wk_52, wk_53, wk_54, wk_55, wk_56, wk_57, wk_58, wk_59, wk_60, wk_61, wk_62, wk_63, wk_64, wk_65, wk_66, wk_67, wk_68, wk_69, wk_70, wk_71, wk_72, wk_73, wk_74, wk_75, wk_76, wk_77, wk_78, wk_79, wk_80, wk_81, wk_82, wk_83, wk_84, wk_85, wk_86, wk_87, wk_88, wk_89, wk_90, wk_91, wk_92, wk_93, wk_94, wk_95, wk_96, wk_97, wk_98, wk_99, wk_100, wk_101, wk_102, wk_103, wk_104, wk_105, wk_106, wk_107, wk_108, wk_109, wk_110, wk_111, wk_112, wk_113, wk_114, wk_115, wk_116, wk_117, wk_118, wk_119, wk_120, wk_121, wk_122, wk_123, wk_124, wk_125, wk_126, wk_127, wk_128, wk_129, wk_130, wk_131, wk_132, wk_133, wk_134, wk_135, wk_136, wk_137, wk_138, wk_139, wk_140, wk_141, wk_142, wk_143, wk_144, wk_145, wk_146, wk_147, wk_148, wk_149, wk_150, wk_151, wk_152, wk_153, wk_154]
def wc_cd (y : Nat) : List wc_E := (wc_cdl[y]?).getD []
theorem wk_ok_0 : ∀ y, y < 5 → 0 ≤ y → wc_chk (wc_m y).1 (wc_b y) (wc_cd y) = true := by decide +kernel
theorem wk_ok_5 : ∀ y, y < 10 → 5 ≤ y → wc_chk (wc_m y).1 (wc_b y) (wc_cd y) = true := by decide +kernel
theorem wk_ok_10 : ∀ y, y < 15 → 10 ≤ y → wc_chk (wc_m y).1 (wc_b y) (wc_cd y) = true := by decide +kernel
theorem wk_ok_15 : ∀ y, y < 20 → 15 ≤ y → wc_chk (wc_m y).1 (wc_b y) (wc_cd y) = true := by decide +kernel
theorem wk_ok_20 : ∀ y, y < 25 → 20 ≤ y → wc_chk (wc_m y).1 (wc_b y) (wc_cd y) = true := by decide +kernel
theorem wk_ok_25 : ∀ y, y < 30 → 25 ≤ y → wc_chk (wc_m y).1 (wc_b y) (wc_cd y) = true := by decide +kernel
theorem wk_ok_30 : ∀ y, y < 35 → 30 ≤ y → wc_chk (wc_m y).1 (wc_b y) (wc_cd y) = true := by decide +kernel
theorem wk_ok_35 : ∀ y, y < 40 → 35 ≤ y → wc_chk (wc_m y).1 (wc_b y) (wc_cd y) = true := by decide +kernel
theorem wk_ok_40 : ∀ y, y < 45 → 40 ≤ y → wc_chk (wc_m y).1 (wc_b y) (wc_cd y) = true := by decide +kernel
theorem wk_ok_45 : ∀ y, y < 50 → 45 ≤ y → wc_chk (wc_m y).1 (wc_b y) (wc_cd y) = true := by decide +kernel
theorem wk_ok_50 : ∀ y, y < 55 → 50 ≤ y → wc_chk (wc_m y).1 (wc_b y) (wc_cd y) = true := by decide +kernel
theorem wk_ok_55 : ∀ y, y < 60 → 55 ≤ y → wc_chk (wc_m y).1 (wc_b y) (wc_cd y) = true := by decide +kernel
theorem wk_ok_60 : ∀ y, y < 65 → 60 ≤ y → wc_chk (wc_m y).1 (wc_b y) (wc_cd y) = true := by decide +kernel
theorem wk_ok_65 : ∀ y, y < 70 → 65 ≤ y → wc_chk (wc_m y).1 (wc_b y) (wc_cd y) = true := by decide +kernel
theorem wk_ok_70 : ∀ y, y < 75 → 70 ≤ y → wc_chk (wc_m y).1 (wc_b y) (wc_cd y) = true := by decide +kernel
theorem wk_ok_75 : ∀ y, y < 80 → 75 ≤ y → wc_chk (wc_m y).1 (wc_b y) (wc_cd y) = true := by decide +kernel
theorem wk_ok_80 : ∀ y, y < 85 → 80 ≤ y → wc_chk (wc_m y).1 (wc_b y) (wc_cd y) = true := by decide +kernel
theorem wk_ok_85 : ∀ y, y < 90 → 85 ≤ y → wc_chk (wc_m y).1 (wc_b y) (wc_cd y) = true := by decide +kernel
theorem wk_ok_90 : ∀ y, y < 95 → 90 ≤ y → wc_chk (wc_m y).1 (wc_b y) (wc_cd y) = true := by decide +kernel
theorem wk_ok_95 : ∀ y, y < 100 → 95 ≤ y → wc_chk (wc_m y).1 (wc_b y) (wc_cd y) = true := by decide +kernel
theorem wk_ok_100 : ∀ y, y < 105 → 100 ≤ y → wc_chk (wc_m y).1 (wc_b y) (wc_cd y) = true := by decide +kernel
theorem wk_ok_105 : ∀ y, y < 110 → 105 ≤ y → wc_chk (wc_m y).1 (wc_b y) (wc_cd y) = true := by decide +kernel
theorem wk_ok_110 : ∀ y, y < 115 → 110 ≤ y → wc_chk (wc_m y).1 (wc_b y) (wc_cd y) = true := by decide +kernel
theorem wk_ok_115 : ∀ y, y < 120 → 115 ≤ y → wc_chk (wc_m y).1 (wc_b y) (wc_cd y) = true := by decide +kernel
theorem wk_ok_120 : ∀ y, y < 125 → 120 ≤ y → wc_chk (wc_m y).1 (wc_b y) (wc_cd y) = true := by decide +kernel
theorem wk_ok_125 : ∀ y, y < 130 → 125 ≤ y → wc_chk (wc_m y).1 (wc_b y) (wc_cd y) = true := by decide +kernel
theorem wk_ok_130 : ∀ y, y < 135 → 130 ≤ y → wc_chk (wc_m y).1 (wc_b y) (wc_cd y) = true := by decide +kernel
theorem wk_ok_135 : ∀ y, y < 140 → 135 ≤ y → wc_chk (wc_m y).1 (wc_b y) (wc_cd y) = true := by decide +kernel
theorem wk_ok_140 : ∀ y, y < 145 → 140 ≤ y → wc_chk (wc_m y).1 (wc_b y) (wc_cd y) = true := by decide +kernel
theorem wk_ok_145 : ∀ y, y < 150 → 145 ≤ y → wc_chk (wc_m y).1 (wc_b y) (wc_cd y) = true := by decide +kernel
theorem wk_ok_150 : ∀ y, y < 155 → 150 ≤ y → wc_chk (wc_m y).1 (wc_b y) (wc_cd y) = true := by decide +kernel
theorem wk_ok {y : Nat} (h : y < 155) : wc_good (wc_m y).1 (wc_b y) (wc_cd y) := by
  apply wc_good_of
  rcases Nat.lt_or_ge y 5 with h1 | h1
  · exact wk_ok_0 y h1 (by omega)
  rcases Nat.lt_or_ge y 10 with h1 | h1
  · exact wk_ok_5 y h1 (by omega)
  rcases Nat.lt_or_ge y 15 with h1 | h1
  · exact wk_ok_10 y h1 (by omega)
  rcases Nat.lt_or_ge y 20 with h1 | h1
  · exact wk_ok_15 y h1 (by omega)
  rcases Nat.lt_or_ge y 25 with h1 | h1
  · exact wk_ok_20 y h1 (by omega)
  rcases Nat.lt_or_ge y 30 with h1 | h1
  · exact wk_ok_25 y h1 (by omega)
  rcases Nat.lt_or_ge y 35 with h1 | h1
  · exact wk_ok_30 y h1 (by omega)
  rcases Nat.lt_or_ge y 40 with h1 | h1
  · exact wk_ok_35 y h1 (by omega)
  rcases Nat.lt_or_ge y 45 with h1 | h1
  · exact wk_ok_40 y h1 (by omega)
  rcases Nat.lt_or_ge y 50 with h1 | h1
  · exact wk_ok_45 y h1 (by omega)
  rcases Nat.lt_or_ge y 55 with h1 | h1
  · exact wk_ok_50 y h1 (by omega)
  rcases Nat.lt_or_ge y 60 with h1 | h1
  · exact wk_ok_55 y h1 (by omega)
  rcases Nat.lt_or_ge y 65 with h1 | h1
  · exact wk_ok_60 y h1 (by omega)
  rcases Nat.lt_or_ge y 70 with h1 | h1
  · exact wk_ok_65 y h1 (by omega)
  rcases Nat.lt_or_ge y 75 with h1 | h1
  · exact wk_ok_70 y h1 (by omega)
  rcases Nat.lt_or_ge y 80 with h1 | h1
  · exact wk_ok_75 y h1 (by omega)
  rcases Nat.lt_or_ge y 85 with h1 | h1
  · exact wk_ok_80 y h1 (by omega)
  rcases Nat.lt_or_ge y 90 with h1 | h1
  · exact wk_ok_85 y h1 (by omega)
  rcases Nat.lt_or_ge y 95 with h1 | h1
  · exact wk_ok_90 y h1 (by omega)
  rcases Nat.lt_or_ge y 100 with h1 | h1
  · exact wk_ok_95 y h1 (by omega)
  rcases Nat.lt_or_ge y 105 with h1 | h1
  · exact wk_ok_100 y h1 (by omega)
  rcases Nat.lt_or_ge y 110 with h1 | h1
  · exact wk_ok_105 y h1 (by omega)
  rcases Nat.lt_or_ge y 115 with h1 | h1
  · exact wk_ok_110 y h1 (by omega)
  rcases Nat.lt_or_ge y 120 with h1 | h1
  · exact wk_ok_115 y h1 (by omega)
  rcases Nat.lt_or_ge y 125 with h1 | h1
  · exact wk_ok_120 y h1 (by omega)
  rcases Nat.lt_or_ge y 130 with h1 | h1
  · exact wk_ok_125 y h1 (by omega)
  rcases Nat.lt_or_ge y 135 with h1 | h1
  · exact wk_ok_130 y h1 (by omega)
  rcases Nat.lt_or_ge y 140 with h1 | h1
  · exact wk_ok_135 y h1 (by omega)
  rcases Nat.lt_or_ge y 145 with h1 | h1
  · exact wk_ok_140 y h1 (by omega)
  rcases Nat.lt_or_ge y 150 with h1 | h1
  · exact wk_ok_145 y h1 (by omega)
  exact wk_ok_150 y h (by omega)
end
section
/-! WHAT A METHOD DOES, by the engine; and that the machine does it -/
def wc_mL (y : Nat) : Nat := (wc_m y).2.2.2.2.1
def wc_mR (y : Nat) : Option FieldType := (wc_m y).2.2.2.2.2.1
def wc_Sd : Nat → wc_S
  | 0 => fun _ _ _ _ _ => False
  | d + 1 => fun y as M r M' => (wc_en as).length ≤ wc_mL y ∧ ∃ n, wc_G (wc_Sd d) (0, fun _ => 0) (wc_mR y) (wc_cd y) n 0 (wc_lay as (wc_mL y)) [] M (fun r2 M2 => r2 = r ∧ M2 = M')
theorem wc_en_len (ad : wc_A) : ∀ as : List wc_V, (lg_sl (as.map (wc_cv ad))).length = (wc_en as).length
  | [] => rfl
  | v :: r => by
    have ih := wc_en_len ad r
    obtain v | v | v := v
    · show (lg_sl (.int v :: r.map (wc_cv ad))).length = (some (Sum.inl v) :: wc_en r).length
      simp [lg_sl, Value.category] at ih ⊢
      exact ih
    · show (lg_sl (.ref (ad v.1 v.2) :: r.map (wc_cv ad))).length = (some (Sum.inr (Sum.inl v)) :: wc_en r).length
      simp [lg_sl, Value.category] at ih ⊢
      exact ih
    · show (lg_sl (.long v :: r.map (wc_cv ad))).length = (some (Sum.inr (Sum.inr v)) :: none :: wc_en r).length
      simp [lg_sl, Value.category] at ih ⊢
      exact ih
theorem wc_en_at (ad : wc_A) : ∀ (as : List wc_V) (k i : Nat) (v : wc_V), (wc_en as)[i]? = some (some v) → (k + i, wc_cv ad v) ∈ lv_args k (as.map (wc_cv ad))
  | [], k, i, v, h => by simp [wc_en] at h
  | w :: r, k, i, v, h => by
    have ih := wc_en_at ad r
    obtain w | w | w := w
    · cases i with
      | zero =>
        cases h
        exact List.mem_cons_self
      | succ i =>
        have h2 := ih (k + 1) i v h
        refine List.mem_cons_of_mem _ ?_
        rw [show k + (i + 1) = k + 1 + i by omega]
        exact h2
    · cases i with
      | zero =>
        cases h
        exact List.mem_cons_self
      | succ i =>
        have h2 := ih (k + 1) i v h
        refine List.mem_cons_of_mem _ ?_
        rw [show k + (i + 1) = k + 1 + i by omega]
        exact h2
    · cases i with
      | zero =>
        cases h
        exact List.mem_cons_self
      | succ i =>
        cases i with
        | zero => cases h
        | succ i =>
          have h2 := ih (k + 2) i v h
          refine List.mem_cons_of_mem _ ?_
          rw [show k + (i + 1 + 1) = k + 2 + i by omega]
          exact h2
theorem wc_lay_lv {ad : wc_A} {as : List wc_V} {n : Nat} {ls : Array Slot} (h : (wc_en as).length ≤ n) (hl : lv_has ls n (lv_args 0 (as.map (wc_cv ad)))) : wc_lv ad n (wc_lay as n) ls := by
  refine ⟨hl.1, hl.2.1, by simp [wc_lay]; omega, fun i v hv => ?_⟩
  have h2 := wc_en_at ad as 0 i v (by
    unfold wc_lay at hv
    by_cases hlt : i < (wc_en as).length
    · rwa [List.getElem?_append_left hlt] at hv
    · rw [List.getElem?_append_right (by omega)] at hv
      rw [List.getElem?_replicate] at hv
      split at hv <;> cases hv)
  rw [Nat.zero_add] at h2
  exact hl.2.2 _ h2
theorem wc_lay_okL {as : List wc_V} {n : Nat} (h : wc_okS as) : wc_okL (wc_lay as n) := by
  have key : ∀ as : List wc_V, wc_okS as → wc_okL (wc_en as) := by
    intro as
    induction as with
    | nil => intro _ v hv; cases hv
    | cons w r ih =>
      intro h v hv
      have h2 := ih (fun x hx => h x (List.mem_cons_of_mem _ hx))
      obtain w | w | w := w
      · rcases List.mem_cons.mp hv with h1 | h1
        · cases h1; rfl
        · exact h2 v h1
      · rcases List.mem_cons.mp hv with h1 | h1
        · cases h1; exact h _ List.mem_cons_self
        · exact h2 v h1
      · rcases List.mem_cons.mp hv with h1 | h1
        · cases h1; rfl
        · rcases List.mem_cons.mp h1 with h3 | h3
          · cases h3
          · exact h2 v h3
  intro v hv
  rcases List.mem_append.mp hv with h1 | h1
  · exact key as h v h1
  · have := List.eq_of_mem_replicate h1
    cases this
theorem wc_Sd_ok (l : Launch) (ad : wc_A) (cA : Nat → ClassId) (D : va_G) (A : Nat → Prop) : ∀ d, wc_SS l ad cA D A d (wc_Sd d)
  | 0 => fun _ _ _ _ _ _ h => h.elim
  | d + 1 => by
    intro y as M r M' hy hM hok
    have hSS := wc_Sd_ok l ad cA D A d
    obtain ⟨hle, n, hG⟩ := hM
    refine Met.ofW (cc := wc_b y) (maxL := wc_mL y) (ret := wc_mR y) (wc_m_name y hy).1 rfl ?_
    intro p e s m args below meth c s₁ B hml hv
    obtain ⟨rfl, hP, hK, hD, hTZ⟩ := hv
    have hx := B.exec
    have hb := B.bytes
    have hr := B.returns
    have hts := atoms_spec (ws := wc_wsm y) B.pre
    have hown : s.vm.findClass (wc_cn (wc_m y).1) = some m.cls := findClass_of_methodNamed B.named
    have hlocks := B.notSynchronized
    have hl := lv_entry (as.map (wc_cv ad)) (n := wc_mL y) (by rw [wc_en_len]; exact hle)
    rw [lg_entry_eq]
    have hlv := wc_lay_lv hle hl
    have hC : wc_C p (headSpec (wc_wsm y) (wc_rm (d + 1))).room s m (as.map (wc_cv ad)).toArray c 0 0 ad cA D A (0, fun _ => 0) (wc_m y).1 (wc_mL y) d (wc_b y) :=
      ⟨hx, hb, hml, hown, fun w hw => hts w (List.mem_cons_of_mem _ hw), hK, hTZ, fun h => absurd h (Nat.lt_irrefl 0), ⟨Nat.le_refl _, Nat.le_refl _, Nat.le_refl _, Nat.le_refl _⟩⟩
    have key := wc_G_ok (below := below) (e := e) (meth := meth) (Q := MQ below (wc_Qc ad cA D A r M') (as.map (wc_cv ad)).toArray s 0 0 A) (K := fun r2 M2 => r2 = r ∧ M2 = M') hC (wk_ok hy) hSS ?_ n 0 (wc_lay as (wc_mL y)) [] M hG (wc_lay_okL hok) (fun v hv => by cases hv)
    · have hpc0 : wc_pc (wc_cd y) 0 = 0 := by
        have h0 : ∀ y, y < 155 → wc_pc (wc_cd y) 0 = 0 := by decide +kernel
        exact h0 y hy
      have h9 := key s.heap [] _ hP hD va_S.rf hlv
      rw [hpc0] at h9
      exact h9
    · intro i L st M2 P r2 hq hPP hK2
      obtain ⟨rfl, rfl⟩ := hK2
      rcases hcd : (wc_cd y)[i]? with _ | ⟨pc, ins, len, tg, ct, cl⟩
      · unfold wc_req at hq
        rw [hcd] at hq
        cases hq
      obtain ⟨hdec, hlen, -, -⟩ := wk_ok hy i pc ins len tg ct cl hcd
      have hpc : wc_pc (wc_cd y) i = pc := by unfold wc_pc; rw [hcd]
      intro H locs ls hP hD hS hlv
      rw [hpc]
      have hend : ∀ t : State, t.heap = H → s.WarmedH t.vm → wc_Wd ad cA D A M2 t t.heap := fun t ht hW => by
        rw [ht]
        exact wc_Wd.moved hW.alike ⟨hP, hK, hD, hTZ.kept hS.2.1⟩
      unfold wc_req at hq
      rw [hcd] at hq
      dsimp only at hq
      split at hq
      · rename_i v hri
        cases hq
        rw [hlen] at hdec
        rw [hri] at hr
        exact W.zret hx hb hr (vp_nar_int v) (fun t ht hW => ⟨⟨v, (), rfl, rfl, hend t ht hW⟩, hS.F ht⟩) hS.2.2 hdec hlocks
      · rename_i v hri
        cases hq
        rw [hlen] at hdec
        rw [hri] at hr
        exact W.zret hx hb hr (by rcases hPP with z | z <;> subst z <;> rfl) (fun t ht hW => ⟨⟨v, (), rfl, rfl, hend t ht hW⟩, hS.F ht⟩) hS.2.2 hdec hlocks
      · rename_i hri
        cases hq
        rw [hlen] at hdec
        rw [hri] at hr
        exact W.vret hx hb hr (fun t ht hW => ⟨⟨(), rfl, trivial, hend t ht hW⟩, hS.F ht⟩) hS.2.2 hdec hlocks
      · cases hq
/-- more depth does no harm -/
theorem wc_G_mono {S S' : wc_S} (hS : ∀ y as M r M', S y as M r M' → S' y as M r M') {X : Nat × (Nat → Int32)} {zr : Option FieldType} {cd : List wc_E} {K : Option Int32 → wc_M → Prop} :
    ∀ (n i : Nat) (L : wc_L) (st : List wc_V) (M : wc_M), wc_G S X zr cd n i L st M K → wc_G S' X zr cd n i L st M K
  | 0, _, _, _, _, h => h.elim
  | n + 1, i, L, st, M, h => by
    have ih := wc_G_mono hS (X := X) (zr := zr) (cd := cd) (K := K) n
    rcases h with ⟨i', L', st', M', h1, h2⟩ | ⟨P, t, f, st', h1, h2, h3⟩ | ⟨P, st', M', h1, h2, h3⟩ | ⟨y, as, rest, r, M', h1, h2, h3⟩ | ⟨x, cs, d, st', h1, h2, h3⟩ | ⟨P, r, h1, h2, h3⟩
    · exact Or.inl ⟨i', L', st', M', h1, ih _ _ _ _ h2⟩
    · exact Or.inr (Or.inl ⟨P, t, f, st', h1, fun z => ih _ _ _ _ (h2 z), fun z => ih _ _ _ _ (h3 z)⟩)
    · exact Or.inr (Or.inr (Or.inl ⟨P, st', M', h1, h2, ih _ _ _ _ h3⟩))
    · exact Or.inr (Or.inr (Or.inr (Or.inl ⟨y, as, rest, r, M', h1, hS _ _ _ _ _ h2, ih _ _ _ _ h3⟩)))
    · exact Or.inr (Or.inr (Or.inr (Or.inr (Or.inl ⟨x, cs, d, st', h1, fun q hq z => ih _ _ _ _ (h2 q hq z), fun z => ih _ _ _ _ (h3 z)⟩))))
    · exact Or.inr (Or.inr (Or.inr (Or.inr (Or.inr ⟨P, r, h1, h2, h3⟩))))
theorem wc_Sd_succ : ∀ (d y : Nat) (as : List wc_V) (M : wc_M) (r : Option Int32) (M' : wc_M), wc_Sd d y as M r M' → wc_Sd (d + 1) y as M r M'
  | 0, _, _, _, _, _, h => h.elim
  | d + 1, y, as, M, r, M', h => by
    obtain ⟨h1, n, h2⟩ := h
    exact ⟨h1, n, wc_G_mono (wc_Sd_succ d) n _ _ _ _ h2⟩
theorem wc_Sd_le {d d' y : Nat} {as : List wc_V} {M : wc_M} {r : Option Int32} {M' : wc_M} (hd : d ≤ d') (h : wc_Sd d y as M r M') : wc_Sd d' y as M r M' := by
  obtain ⟨k, rfl⟩ := Nat.exists_eq_add_of_le hd
  clear hd
  induction k with
  | zero => exact h
  | succ k ih => exact wc_Sd_succ _ _ _ _ _ _ ih
/-- more steps do no harm -/
theorem wc_G_fuel {S : wc_S} {X : Nat × (Nat → Int32)} {zr : Option FieldType} {cd : List wc_E} {K : Option Int32 → wc_M → Prop} :
    ∀ (n i : Nat) (L : wc_L) (st : List wc_V) (M : wc_M), wc_G S X zr cd n i L st M K → wc_G S X zr cd (n + 1) i L st M K
  | 0, _, _, _, _, h => h.elim
  | n + 1, i, L, st, M, h => by
    have ih := wc_G_fuel (S := S) (X := X) (zr := zr) (cd := cd) (K := K) n
    rcases h with ⟨i', L', st', M', h1, h2⟩ | ⟨P, t, f, st', h1, h2, h3⟩ | ⟨P, st', M', h1, h2, h3⟩ | ⟨y, as, rest, r, M', h1, h2, h3⟩ | ⟨x, cs, d, st', h1, h2, h3⟩ | ⟨P, r, h1, h2, h3⟩
    · exact Or.inl ⟨i', L', st', M', h1, ih _ _ _ _ h2⟩
    · exact Or.inr (Or.inl ⟨P, t, f, st', h1, fun z => ih _ _ _ _ (h2 z), fun z => ih _ _ _ _ (h3 z)⟩)
    · exact Or.inr (Or.inr (Or.inl ⟨P, st', M', h1, h2, ih _ _ _ _ h3⟩))
    · exact Or.inr (Or.inr (Or.inr (Or.inl ⟨y, as, rest, r, M', h1, h2, ih _ _ _ _ h3⟩)))
    · exact Or.inr (Or.inr (Or.inr (Or.inr (Or.inl ⟨x, cs, d, st', h1, fun q hq z => ih _ _ _ _ (h2 q hq z), fun z => ih _ _ _ _ (h3 z)⟩))))
    · exact Or.inr (Or.inr (Or.inr (Or.inr (Or.inr ⟨P, r, h1, h2, h3⟩))))
theorem wc_G_le {S : wc_S} {X : Nat × (Nat → Int32)} {zr : Option FieldType} {cd : List wc_E} {K : Option Int32 → wc_M → Prop} {n n' i : Nat} {L : wc_L} {st : List wc_V} {M : wc_M} (hn : n ≤ n') (h : wc_G S X zr cd n i L st M K) : wc_G S X zr cd n' i L st M K := by
  obtain ⟨k, rfl⟩ := Nat.exists_eq_add_of_le hn
  clear hn
  induction k with
  | zero => exact h
  | succ k ih => exact wc_G_fuel _ _ _ _ _ ih
/-- from here the method comes to its end with K -/
def wg (d : Nat) (X : Nat × (Nat → Int32)) (zr : Option FieldType) (cd : List wc_E) (i : Nat) (L : wc_L) (st : List wc_V) (M : wc_M) (K : Option Int32 → wc_M → Prop) : Prop := ∃ n, wc_G (wc_Sd d) X zr cd n i L st M K
section WGS
variable {d : Nat} {X : Nat × (Nat → Int32)} {zr : Option FieldType} {cd : List wc_E} {i : Nat} {L : wc_L} {st : List wc_V} {M : wc_M} {K : Option Int32 → wc_M → Prop}
def wc_blk (xl : Nat) (cd : List wc_E) : Nat → Nat → wc_L → List wc_V → wc_M → Option (Nat × wc_L × List wc_V × wc_M)
  | 0, i, L, st, M => some (i, L, st, M)
  | n + 1, i, L, st, M => match wc_stp xl cd i L st M with
    | some (i', L', st', M') => wc_blk xl cd n i' L' st' M'
    | none => none
theorem wg_blk (n : Nat) {i' : Nat} {L' : wc_L} {st' : List wc_V} {M' : wc_M} (h : wc_blk X.1 cd n i L st M = some (i', L', st', M')) (k : wg d X zr cd i' L' st' M' K) : wg d X zr cd i L st M K := by
  induction n generalizing i L st M with
  | zero =>
    cases h
    exact k
  | succ n ih =>
    unfold wc_blk at h
    split at h
    · rename_i i2 L2 st2 M2 h2
      obtain ⟨q, hq⟩ := ih h
      exact ⟨q + 1, Or.inl ⟨i2, L2, st2, M2, h2, hq⟩⟩
    · cases h
theorem wg_br {c : Prop} {t f : Nat} {st' : List wc_V} (h : wc_brq cd i st = some (c, t, f, st')) (kt : c → wg d X zr cd t L st' M K) (kf : ¬ c → wg d X zr cd f L st' M K) : wg d X zr cd i L st M K := by
  by_cases hc : c
  · obtain ⟨n, hn⟩ := kt hc
    exact ⟨n + 1, Or.inr (Or.inl ⟨c, t, f, st', h, fun _ => hn, fun z => absurd hc z⟩)⟩
  · obtain ⟨n, hn⟩ := kf hc
    exact ⟨n + 1, Or.inr (Or.inl ⟨c, t, f, st', h, fun z => absurd z hc, fun _ => hn⟩)⟩
theorem wg_ck {P : Prop} {st' : List wc_V} {M' : wc_M} (h : wc_chq X cd i st M = some (P, st', M')) (hP : P) (k : wg d X zr cd (i + 1) L st' M' K) : wg d X zr cd i L st M K := by
  obtain ⟨n, hn⟩ := k
  exact ⟨n + 1, Or.inr (Or.inr (Or.inl ⟨P, st', M', h, hP, hn⟩))⟩
theorem wg_ca {y d' : Nat} {as rest : List wc_V} {r : Option Int32} {M' : wc_M} (h : wc_caq cd i st = some (y, as, rest)) (hd : d' ≤ d) (hM : wc_Sd d' y as M r M') (k : wg d X zr cd (i + 1) L (wc_pu r rest) M' K) : wg d X zr cd i L st M K := by
  obtain ⟨n, hn⟩ := k
  exact ⟨n + 1, Or.inr (Or.inr (Or.inr (Or.inl ⟨y, as, rest, r, M', h, wc_Sd_le hd hM, hn⟩)))⟩
theorem wg_sw {x : Int32} {cs : List (Int32 × Nat)} {df : Nat} {st' : List wc_V} (h : wc_swq cd i st = some (x, cs, df, st')) (kt : ∀ q ∈ cs, x = q.1 → wg d X zr cd q.2 L st' M K) (kf : (∀ q ∈ cs, x ≠ q.1) → wg d X zr cd df L st' M K) : wg d X zr cd i L st M K := by
  by_cases hc : ∃ q ∈ cs, x = q.1
  · have hb : ∃ n, ∀ q ∈ cs, x = q.1 → wc_G (wc_Sd d) X zr cd n q.2 L st' M K := by
      clear h hc kf
      induction cs with
      | nil => exact ⟨0, fun q hq => by cases hq⟩
      | cons a r ih =>
        obtain ⟨n, hn⟩ := ih (fun q hq => kt q (List.mem_cons_of_mem _ hq))
        by_cases ha : x = a.1
        · obtain ⟨n2, hn2⟩ := kt a List.mem_cons_self ha
          refine ⟨n + n2, fun q hq he => ?_⟩
          rcases List.mem_cons.mp hq with h1 | h1
          · subst h1
            exact wc_G_le (by omega) hn2
          · exact wc_G_le (by omega) (hn q h1 he)
        · refine ⟨n, fun q hq he => ?_⟩
          rcases List.mem_cons.mp hq with h1 | h1
          · subst h1
            exact absurd he ha
          · exact hn q h1 he
    obtain ⟨n, hn⟩ := hb
    obtain ⟨q, hq, he⟩ := hc
    exact ⟨n + 1, Or.inr (Or.inr (Or.inr (Or.inr (Or.inl ⟨x, cs, df, st', h, hn, fun z => absurd he (z q hq)⟩))))⟩
  · have hc' : ∀ q ∈ cs, x ≠ q.1 := fun q hq he => hc ⟨q, hq, he⟩
    obtain ⟨n, hn⟩ := kf hc'
    exact ⟨n + 1, Or.inr (Or.inr (Or.inr (Or.inr (Or.inl ⟨x, cs, df, st', h, fun q hq he => absurd he (hc' q hq), fun _ => hn⟩))))⟩
theorem wg_re {P : Prop} {r : Option Int32} (h : wc_req zr cd i st = some (P, r)) (hP : P) (k : K r M) : wg d X zr cd i L st M K :=
  ⟨1, Or.inr (Or.inr (Or.inr (Or.inr (Or.inr ⟨P, r, h, hP, k⟩))))⟩
theorem wg_Sd {y : Nat} {as : List wc_V} {r : Option Int32} {M' : wc_M} (h : (wc_en as).length ≤ wc_mL y) (k : wg d (0, fun _ => 0) (wc_mR y) (wc_cd y) 0 (wc_lay as (wc_mL y)) [] M (fun r2 M2 => r2 = r ∧ M2 = M')) : wc_Sd (d + 1) y as M r M' := ⟨h, k⟩
end WGS
end
section
/-! TOOLS for the functions that the methods' code is: fewer locals known, checks as Booleans -/
def wk_le : wc_L → wc_L → Prop
  | [], [] => True
  | none :: r, _ :: r' => wk_le r r'
  | some v :: r, some v' :: r' => v = v' ∧ wk_le r r'
  | _, _ => False
theorem wk_e : wk_le [] [] := trivial
theorem wk_n {q : Option wc_V} {r r' : wc_L} (h : wk_le r r') : wk_le (none :: r) (q :: r') := by
  cases q <;> exact h
theorem wk_s {v : wc_V} {r r' : wc_L} (h : wk_le r r') : wk_le (some v :: r) (some v :: r') := ⟨rfl, h⟩
theorem wk_le_get : ∀ {L L' : wc_L} {i : Nat} {v : wc_V}, wk_le L L' → L[i]? = some (some v) → L'[i]? = some (some v)
  | [], [], _, _, _, h => by simp at h
  | none :: r, q :: r', i, v, hle, h => by
    have hle : wk_le r r' := by cases q <;> exact hle
    cases i with
    | zero => cases h
    | succ i => exact wk_le_get (L := r) (L' := r') hle h
  | some w :: r, some w' :: r', i, v, hle, h => by
    cases i with
    | zero =>
      cases h
      rw [← hle.1]
      rfl
    | succ i => exact wk_le_get (L := r) (L' := r') hle.2 h
  | some w :: r, none :: r', i, v, hle, h => hle.elim
  | [], _ :: _, _, _, hle, _ => hle.elim
  | none :: _, [], _, _, hle, _ => hle.elim
  | some _ :: _, [], _, _, hle, _ => hle.elim
theorem wk_le_len : ∀ {L L' : wc_L}, wk_le L L' → L.length = L'.length
  | [], [], _ => rfl
  | none :: r, q :: r', hle => by
    have hle : wk_le r r' := by cases q <;> exact hle
    simp [wk_le_len hle]
  | some w :: r, some w' :: r', hle => by simp [wk_le_len hle.2]
  | some w :: r, none :: r', hle => hle.elim
  | [], _ :: _, hle => hle.elim
  | none :: _, [], hle => hle.elim
  | some _ :: _, [], hle => hle.elim
theorem wk_le_set : ∀ {L L' : wc_L} {i : Nat} {v : wc_V}, wk_le L L' → wk_le (L.set i (some v)) (L'.set i (some v))
  | [], [], _, _, _ => trivial
  | none :: r, q :: r', i, v, hle => by
    have hle : wk_le r r' := by cases q <;> exact hle
    cases i with
    | zero => exact ⟨rfl, hle⟩
    | succ i => exact wk_n (wk_le_set (i := i) (v := v) hle)
  | some w :: r, some w' :: r', i, v, hle => by
    cases i with
    | zero => exact ⟨rfl, hle.2⟩
    | succ i => exact ⟨hle.1, wk_le_set (i := i) (v := v) hle.2⟩
  | some w :: r, none :: r', _, _, hle => hle.elim
  | [], _ :: _, _, _, hle => hle.elim
  | none :: _, [], _, _, hle => hle.elim
  | some _ :: _, [], _, _, hle => hle.elim
theorem wc_noL_set {L : wc_L} {i : Nat} {v : wc_V} (h : wc_noL L = true) (hv : ∀ x, v ≠ .inr (.inr x)) : wc_noL (L.set i (some v)) = true := by
  apply List.all_eq_true.mpr
  intro q hq
  rcases List.mem_or_eq_of_mem_set hq with h1 | h1
  · exact List.all_eq_true.mp h q h1
  · subst h1
    obtain v | v | v := v
    · rfl
    · rfl
    · exact absurd rfl (hv v)
theorem wc_stp_wk {xl i i' : Nat} {L L1 L' : wc_L} {st st' : List wc_V} {M M' : wc_M} {cd : List wc_E} (h : wc_stp xl cd i L st M = some (i', L', st', M')) (hle : wk_le L L1) (hn : wc_noL L1 = true) : ∃ L1', wc_stp xl cd i L1 st M = some (i', L1', st', M') ∧ wk_le L' L1' ∧ wc_noL L1' = true := by
  have lg : ∀ {n : Nat} {v : wc_V}, L[n]? = some (some v) → L1[n]? = some (some v) := fun {n v} hv => wk_le_get hle hv
  have ll := wk_le_len hle
  rcases hcd : cd[i]? with _ | ⟨pc, ins, len, tg, ct, cl⟩
  · unfold wc_stp at h
    rw [hcd] at h
    cases h
  unfold wc_stp at h ⊢
  rw [hcd] at h ⊢
  cases ins
  case iconst n =>
    cases h
    exact ⟨L1, rfl, hle, hn⟩
  case bipush n =>
    cases h
    exact ⟨L1, rfl, hle, hn⟩
  case sipush n =>
    cases h
    exact ⟨L1, rfl, hle, hn⟩
  case ldc n =>
    cases h
    exact ⟨L1, rfl, hle, hn⟩
  case ldc_w n =>
    cases h
    exact ⟨L1, rfl, hle, hn⟩
  case lconst n =>
    cases h
    exact ⟨L1, rfl, hle, hn⟩
  case ldc2_w n =>
    cases h
    exact ⟨L1, rfl, hle, hn⟩
  case iload_n n =>
    dsimp only at h
    split at h
    · rename_i v hv
      cases h
      exact ⟨L1, by dsimp only; rw [lg hv], hle, hn⟩
    · cases h
  case iload n =>
    dsimp only at h
    split at h
    · rename_i v hv
      cases h
      exact ⟨L1, by dsimp only; rw [lg hv], hle, hn⟩
    · cases h
  case aload_n n =>
    dsimp only at h
    split at h
    · rename_i v hv
      cases h
      exact ⟨L1, by dsimp only; rw [lg hv], hle, hn⟩
    · cases h
  case aload n =>
    dsimp only at h
    split at h
    · rename_i v hv
      cases h
      exact ⟨L1, by dsimp only; rw [lg hv], hle, hn⟩
    · cases h
  case lload_n n =>
    dsimp only at h
    split at h
    · rename_i v hv
      cases h
      exact ⟨L1, by dsimp only; rw [lg hv], hle, hn⟩
    · cases h
  case lload n =>
    dsimp only at h
    split at h
    · rename_i v hv
      cases h
      exact ⟨L1, by dsimp only; rw [lg hv], hle, hn⟩
    · cases h
  case istore_n n =>
    dsimp only at h
    split at h
    · rename_i v r
      split at h
      · rename_i hc
        simp only [Bool.and_eq_true] at hc
        cases h
        refine ⟨_, by dsimp only; rw [if_pos (by rw [hn, ← ll, hc.2]; rfl)], wk_le_set hle, wc_noL_set hn (fun x z => by cases z)⟩
      · cases h
    · cases h
  case istore n =>
    dsimp only at h
    split at h
    · rename_i v r
      split at h
      · rename_i hc
        simp only [Bool.and_eq_true] at hc
        cases h
        refine ⟨_, by dsimp only; rw [if_pos (by rw [hn, ← ll, hc.2]; rfl)], wk_le_set hle, wc_noL_set hn (fun x z => by cases z)⟩
      · cases h
    · cases h
  case astore_n n =>
    dsimp only at h
    split at h
    · rename_i v r
      split at h
      · rename_i hc
        simp only [Bool.and_eq_true] at hc
        cases h
        refine ⟨_, by dsimp only; rw [if_pos (by rw [hn, ← ll, hc.2]; rfl)], wk_le_set hle, wc_noL_set hn (fun x z => by cases z)⟩
      · cases h
    · cases h
  case astore n =>
    dsimp only at h
    split at h
    · rename_i v r
      split at h
      · rename_i hc
        simp only [Bool.and_eq_true] at hc
        cases h
        refine ⟨_, by dsimp only; rw [if_pos (by rw [hn, ← ll, hc.2]; rfl)], wk_le_set hle, wc_noL_set hn (fun x z => by cases z)⟩
      · cases h
    · cases h
  case iinc n k =>
    dsimp only at h
    split at h
    · rename_i v hv
      split at h
      · cases h
        refine ⟨_, by dsimp only; rw [lg hv]; dsimp only; rw [if_pos hn], wk_le_set hle, wc_noL_set hn (fun x z => by cases z)⟩
      · cases h
    · cases h
  case iadd =>
    dsimp only at h
    split at h
    · cases h
      exact ⟨L1, rfl, hle, hn⟩
    · cases h
  case isub =>
    dsimp only at h
    split at h
    · cases h
      exact ⟨L1, rfl, hle, hn⟩
    · cases h
  case imul =>
    dsimp only at h
    split at h
    · cases h
      exact ⟨L1, rfl, hle, hn⟩
    · cases h
  case iand =>
    dsimp only at h
    split at h
    · cases h
      exact ⟨L1, rfl, hle, hn⟩
    · cases h
  case ior =>
    dsimp only at h
    split at h
    · cases h
      exact ⟨L1, rfl, hle, hn⟩
    · cases h
  case ishl =>
    dsimp only at h
    split at h
    · cases h
      exact ⟨L1, rfl, hle, hn⟩
    · cases h
  case ishr =>
    dsimp only at h
    split at h
    · cases h
      exact ⟨L1, rfl, hle, hn⟩
    · cases h
  case lsub =>
    dsimp only at h
    split at h
    · cases h
      exact ⟨L1, rfl, hle, hn⟩
    · cases h
  case lcmp =>
    dsimp only at h
    split at h
    · cases h
      exact ⟨L1, rfl, hle, hn⟩
    · cases h
  case ineg =>
    dsimp only at h
    split at h
    · cases h
      exact ⟨L1, rfl, hle, hn⟩
    · cases h
  case i2l =>
    dsimp only at h
    split at h
    · cases h
      exact ⟨L1, rfl, hle, hn⟩
    · cases h
  case i2b =>
    dsimp only at h
    split at h
    · cases h
      exact ⟨L1, rfl, hle, hn⟩
    · cases h
  case i2s =>
    dsimp only at h
    split at h
    · cases h
      exact ⟨L1, rfl, hle, hn⟩
    · cases h
  case dup2 =>
    dsimp only at h
    split at h
    · cases h
      exact ⟨L1, rfl, hle, hn⟩
    · cases h
  case pop =>
    dsimp only at h
    split at h
    · cases h
      exact ⟨L1, rfl, hle, hn⟩
    · cases h
  case goto n =>
    dsimp only at h
    split at h
    · cases h
      exact ⟨L1, rfl, hle, hn⟩
    · cases h
  case dup =>
    dsimp only at h
    split at h
    · cases h
      exact ⟨L1, rfl, hle, hn⟩
    · cases h
      exact ⟨L1, rfl, hle, hn⟩
    · cases h
  case getfield n =>
    dsimp only at h ⊢
    split at h
    · rename_i c s k j r
      split at h
      · rename_i c2 hsh
        split at h
        · rename_i hc
          split at h
          · rename_i q hq
            cases h
            refine ⟨L1, ?_, hle, hn⟩
            rw [if_pos hc]
          · rename_i hq
            cases h
            refine ⟨L1, ?_, hle, hn⟩
            rw [if_pos hc]
        · cases h
      · cases h
    · cases h
  case putfield n =>
    dsimp only at h ⊢
    split at h
    · rename_i c s v k j r
      split at h
      · rename_i c2 hsh
        split at h
        · rename_i hc
          split at h
          · cases h
          · rename_i hq
            cases h
            refine ⟨L1, ?_, hle, hn⟩
            rw [if_pos hc]
        · cases h
      · cases h
    · cases h
  case getstatic n =>
    dsimp only at h
    split at h
    · cases h
      exact ⟨L1, rfl, hle, hn⟩
    · cases h
  case arraylength =>
    dsimp only at h ⊢
    split at h
    · rename_i k r
      split at h
      · cases h
        exact ⟨L1, rfl, hle, hn⟩
      · rename_i q hsh
        split at h
        · rename_i hc
          cases h
          refine ⟨L1, ?_, hle, hn⟩
          rw [if_pos hc]
        · cases h
      · cases h
    · cases h
  case invokestatic n =>
    dsimp only at h ⊢
    split at h
    · rename_i t y x r
      split at h
      · rename_i hc
        split at h
        · rename_i ht
          cases h
          refine ⟨L1, ?_, hle, hn⟩
          rw [if_pos hc, if_pos ht]
        · rename_i ht
          split at h
          · rename_i ht2
            cases h
            refine ⟨L1, ?_, hle, hn⟩
            rw [if_pos hc, if_neg ht, if_pos ht2]
          · cases h
      · cases h
    · cases h
  all_goals cases h
theorem wg_wk {d : Nat} {X : Nat × (Nat → Int32)} {zr : Option FieldType} {cd : List wc_E} {K : Option Int32 → wc_M → Prop} {i : Nat} {L L1 : wc_L} {st : List wc_V} {M : wc_M} (hle : wk_le L L1) (hn : wc_noL L1 = true) (h : wg d X zr cd i L st M K) : wg d X zr cd i L1 st M K := by
  obtain ⟨n, hG⟩ := h
  refine ⟨n, ?_⟩
  induction n generalizing i L L1 st M with
  | zero => exact hG
  | succ n ih =>
    rcases hG with ⟨i', L', st', M', h1, h2⟩ | ⟨P, t, f, st', h1, h2, h3⟩ | ⟨P, st', M', h1, h2, h3⟩ | ⟨y, as, rest, r, M', h1, h2, h3⟩ | ⟨x, cs, dd, st', h1, h2, h3⟩ | ⟨P, r, h1, h2, h3⟩
    · obtain ⟨L1', k1, k2, k3⟩ := wc_stp_wk h1 hle hn
      exact Or.inl ⟨i', L1', st', M', k1, ih k2 k3 h2⟩
    · exact Or.inr (Or.inl ⟨P, t, f, st', h1, fun z => ih hle hn (h2 z), fun z => ih hle hn (h3 z)⟩)
    · exact Or.inr (Or.inr (Or.inl ⟨P, st', M', h1, h2, ih hle hn h3⟩))
    · exact Or.inr (Or.inr (Or.inr (Or.inl ⟨y, as, rest, r, M', h1, h2, ih hle hn h3⟩)))
    · exact Or.inr (Or.inr (Or.inr (Or.inr (Or.inl ⟨x, cs, dd, st', h1, fun q hq z => ih hle hn (h2 q hq z), fun z => ih hle hn (h3 z)⟩))))
    · exact Or.inr (Or.inr (Or.inr (Or.inr (Or.inr ⟨P, r, h1, h2, h3⟩))))
/-- an index that lies in an array; a Boolean; a stretch to be copied -/
def wib (a : Int32) (n : Nat) : Bool := decide (¬ a < 0) && Nat.blt a.toNatClampNeg n
def wzb (v : Int32) : Bool := decide (v = 0) || decide (v = 1)
def wcb (sp dp n : Int32) (n0 n1 : Nat) : Bool := decide (¬ sp < 0) && decide (¬ dp < 0) && decide (¬ n < 0) && Nat.ble (sp.toNatClampNeg + n.toNatClampNeg) n0 && Nat.ble (dp.toNatClampNeg + n.toNatClampNeg) n1
theorem wib_in {a : Int32} {n : Nat} (h : wib a n = true) : vp_in a n := by
  unfold wib at h
  simp only [Bool.and_eq_true, decide_eq_true_eq] at h
  intro z
  rcases z with z | z
  · exact h.1 z
  · have := Nat.blt_eq.mp h.2
    omega
theorem wzb_in {v : Int32} (h : wzb v = true) : v = 0 ∨ v = 1 := by
  unfold wzb at h
  simpa using h
theorem wcb_in {sp dp n : Int32} {n0 n1 : Nat} (h : wcb sp dp n n0 n1 = true) : ¬ sp < 0 ∧ ¬ dp < 0 ∧ ¬ n < 0 ∧ sp.toNatClampNeg + n.toNatClampNeg ≤ n0 ∧ dp.toNatClampNeg + n.toNatClampNeg ≤ n1 := by
  unfold wcb at h
  simp only [Bool.and_eq_true, decide_eq_true_eq] at h
  exact ⟨h.1.1.1.1, h.1.1.1.2, h.1.1.2, Nat.ble_eq.mp h.1.2, Nat.ble_eq.mp h.2⟩
theorem wbs {α β : Type} {o : Option α} {f : α → Option β} {z : β} (h : o.bind f = some z) : ∃ a, o = some a ∧ f a = some z := Option.bind_eq_some_iff.mp h
theorem wif {c : Prop} [Decidable c] {α : Type} {a : Option α} {z : α} (h : (if c then a else none) = some z) : c ∧ a = some z := by
  by_cases hc : c
  · rw [if_pos hc] at h
    exact ⟨hc, h⟩
  · rw [if_neg hc] at h
    cases h
def wx0 : Nat × (Nat → Int32) := (0, fun _ => 0)
end
section
/-! THE METHODS AS FUNCTIONS on the memory: written by wip/whole/gen/dec.py out of the code; none: a condition of the machine does not hold, or the loop's count ran out -/
def wel {α β γ : Type} (f : α → γ) (g : β → γ) : α ⊕ β → γ
  | .inl a => f a
  | .inr b => g b
def f_C_isUpTo (a0 : Int32) (a1 : Int32) : Int32 :=
  (if a0 < (0 : Int32) then (0 : Int32) else (if a1 < a0 then (0 : Int32) else (1 : Int32)))
theorem b_C_isUpTo (a0 : Int32) (a1 : Int32) : f_C_isUpTo a0 a1 = 0 ∨ f_C_isUpTo a0 a1 = 1 := by
  unfold f_C_isUpTo
  repeat' split
  all_goals first | exact Or.inl rfl | exact Or.inr rfl
def l_R_make_11 (p0 : Nat) : Nat → Int32 → wc_M → Option (wc_M)
  | 0, _, _ => none
  | n + 1, x3, M => (if (40 : Int32) ≤ x3 then some M else (if wib x3 40 = true then l_R_make_11 p0 n (x3 + (1 : Int32)) (wc_up M 3 p0 (x3).toNatClampNeg (0 : Int32)) else none))
def f_R_make (p0 : Nat) (a1 : Int32) (a2 : Int32) (M : wc_M) : Option wc_M :=
  (Option.bind (l_R_make_11 p0 2000 (0 : Int32) (wc_up (wc_up (wc_up M 2 p0 1 (1 : Int32)) 2 p0 2 a1) 2 p0 3 a2)) fun t2 => some t2)
def f_C_withoutFinding (a1 : Int32) (M : wc_M) : Option (Int32 × wc_M) :=
  some (a1, (wc_up M 0 0 9 (0 : Int32)))
def f_C_found (a1 : Int32) (M : wc_M) : Option (Int32 × wc_M) :=
  some (((-1000010 : Int32) - a1), (wc_up M 0 0 9 a1))
def f_C_row (a1 : Int32) (a2 : Int32) (a3 : Int32) (M : wc_M) : Option (Int32 × wc_M) :=
  (if (f_C_isUpTo a1 (7 : Int32)) = (0 : Int32) then some ((-1000001 : Int32), M) else (if (f_C_isUpTo a2 (2 : Int32)) = (0 : Int32) then some ((-1000001 : Int32), M) else (if a3 ≤ (40 : Int32) then (if (0 : Int32) ≤ a3 then (if wib a1 8 = true then (Option.bind (f_R_make (a1).toNatClampNeg a2 a3 M) fun m3 => (Option.bind (f_C_withoutFinding a3 m3) fun q5 => some (q5.1, q5.2))) else none) else (Option.bind (f_C_found (4 : Int32) M) fun q7 => some (q7.1, q7.2))) else some ((-1000001 : Int32), M))))
def f_M_in (a0 : Int64) (a1 : Int64) (a2 : Int64) : Int32 :=
  (if (lg_cmp a0 a1) < (0 : Int32) then (0 : Int32) else (if (0 : Int32) < (lg_cmp a0 a2) then (0 : Int32) else (1 : Int32)))
theorem b_M_in (a0 : Int64) (a1 : Int64) (a2 : Int64) : f_M_in a0 a1 a2 = 0 ∨ f_M_in a0 a1 a2 = 1 := by
  unfold f_M_in
  repeat' split
  all_goals first | exact Or.inl rfl | exact Or.inr rfl
def f_M_isRow (a0 : Int32) : Int32 :=
  (f_M_in (a0).toInt64 (0 : Int64) (7 : Int64))
theorem b_M_isRow (a0 : Int32) : f_M_isRow a0 = 0 ∨ f_M_isRow a0 = 1 := by
  exact b_M_in ..
def f_M_well (a1 : Int32) (M : wc_M) : Option (Int32 × wc_M) :=
  some (a1, (wc_up M 21 0 3 (0 : Int32)))
def f_M_find (a1 : Int32) (M : wc_M) : Option (Int32 × wc_M) :=
  some (((-1000010 : Int32) - a1), (wc_up M 21 0 3 a1))
def l_M_row_32 (x1 : Int32) (x3 : Int32) : Nat → Int32 → wc_M → Option (wc_M)
  | 0, _, _ => none
  | n + 1, x4, M => (if (40 : Int32) ≤ x4 then some M else (if wib (((40 : Int32) * x1) + x4) 320 = true then l_M_row_32 x1 x3 n (x4 + (1 : Int32)) (wc_up M 24 0 ((((40 : Int32) * x1) + x4)).toNatClampNeg (0 : Int32)) else none))
def f_M_row (a1 : Int32) (a2 : Int32) (a3 : Int32) (M : wc_M) : Option (Int32 × wc_M) :=
  (if (f_M_isRow a1) = (0 : Int32) then some ((-1000001 : Int32), M) else (if (f_M_in (a2).toInt64 (0 : Int64) (2 : Int64)) = (0 : Int32) then some ((-1000001 : Int32), M) else (if a3 ≤ (40 : Int32) then (if (0 : Int32) ≤ a3 then (if wib a1 8 = true then (Option.bind (l_M_row_32 a1 a3 2000 (0 : Int32) (wc_up (wc_up M 22 0 (a1).toNatClampNeg a2) 23 0 (a1).toNatClampNeg a3)) fun t3 => (Option.bind (f_M_well a3 t3) fun q6 => some (q6.1, q6.2))) else none) else (Option.bind (f_M_find (4 : Int32) M) fun q8 => some (q8.1, q8.2))) else some ((-1000001 : Int32), M))))
def f_R_has (p0 : Nat) (a1 : Int32) (a2 : Int32) (M : wc_M) : Int32 :=
  (if a1 < (0 : Int32) then (0 : Int32) else (if a2 < (0 : Int32) then (0 : Int32) else (if ((M 2 p0 3) - a2) < a1 then (0 : Int32) else (1 : Int32))))
theorem b_R_has (p0 : Nat) (a1 : Int32) (a2 : Int32) (M : wc_M) : f_R_has p0 a1 a2 M = 0 ∨ f_R_has p0 a1 a2 M = 1 := by
  unfold f_R_has
  repeat' split
  all_goals first | exact Or.inl rfl | exact Or.inr rfl
def f_C_findingIn (a1 : Int32) (a2 : Int32) (a3 : Int32) (M : wc_M) : Option Int32 :=
  (if wib a1 8 = true then (if (M 2 (a1).toNatClampNeg 1) = (0 : Int32) then some (1 : Int32) else (if (f_R_has (a1).toNatClampNeg a2 a3 M) = (0 : Int32) then some (2 : Int32) else some (0 : Int32))) else none)
def f_R_lowestBits (p0 : Nat) (a1 : Int32) (M : wc_M) : Int32 :=
  (if (M 2 p0 2) = (0 : Int32) then (a1).toInt8.toInt32 else (if (M 2 p0 2) = (1 : Int32) then (a1).toInt16.toInt32 else a1))
def f_C_set (a1 : Int32) (a2 : Int32) (a3 : Int32) (M : wc_M) : Option (Int32 × wc_M) :=
  (if (f_C_isUpTo a1 (7 : Int32)) = (0 : Int32) then some ((-1000001 : Int32), M) else (Option.bind (f_C_findingIn a1 a2 (1 : Int32) M) fun v2 => (if v2 = (0 : Int32) then (if wib a1 8 = true then (if wib a2 40 = true then (Option.bind (f_C_withoutFinding (f_R_lowestBits (a1).toNatClampNeg a3 M) (wc_up M 3 (a1).toNatClampNeg (a2).toNatClampNeg (f_R_lowestBits (a1).toNatClampNeg a3 M))) fun q6 => some (q6.1, q6.2)) else none) else none) else (Option.bind (f_C_found v2 M) fun q8 => some (q8.1, q8.2)))))
def f_M_asLane (a0 : Int32) (a1 : Int32) : Int32 :=
  (if a0 = (0 : Int32) then ((a1 <<< ((24 : Int32) &&& (31 : Int32))) >>> ((24 : Int32) &&& (31 : Int32))) else (if a0 = (1 : Int32) then ((a1 <<< ((16 : Int32) &&& (31 : Int32))) >>> ((16 : Int32) &&& (31 : Int32))) else a1))
def f_M_set (a1 : Int32) (a2 : Int32) (a3 : Int32) (M : wc_M) : Option (Int32 × wc_M) :=
  (if (f_M_isRow a1) = (0 : Int32) then some ((-1000001 : Int32), M) else (if wib a1 8 = true then (if (0 : Int32) ≤ (M 23 0 (a1).toNatClampNeg) then (if (f_M_in (a2).toInt64 (0 : Int64) (((M 23 0 (a1).toNatClampNeg) - (1 : Int32))).toInt64) = (0 : Int32) then (Option.bind (f_M_find (2 : Int32) M) fun q3 => some (q3.1, q3.2)) else (if wib (((40 : Int32) * a1) + a2) 320 = true then (Option.bind (f_M_well ((wc_up M 24 0 ((((40 : Int32) * a1) + a2)).toNatClampNeg (f_M_asLane (M 22 0 (a1).toNatClampNeg) a3)) 24 0 ((((40 : Int32) * a1) + a2)).toNatClampNeg) (wc_up M 24 0 ((((40 : Int32) * a1) + a2)).toNatClampNeg (f_M_asLane (M 22 0 (a1).toNatClampNeg) a3))) fun q6 => some (q6.1, q6.2)) else none)) else (Option.bind (f_M_find (1 : Int32) M) fun q8 => some (q8.1, q8.2))) else none))
def f_C_copy (a1 : Int32) (a2 : Int32) (a3 : Int32) (a4 : Int32) (a5 : Int32) (M : wc_M) : Option (Int32 × wc_M) :=
  (if (f_C_isUpTo a1 (7 : Int32)) = (0 : Int32) then some ((-1000001 : Int32), M) else (if (f_C_isUpTo a3 (7 : Int32)) = (0 : Int32) then some ((-1000001 : Int32), M) else (if wib a1 8 = true then (if wib a3 8 = true then (if (M 2 (a1).toNatClampNeg 1) = (0 : Int32) then (Option.bind (f_C_found (1 : Int32) M) fun q4 => some (q4.1, q4.2)) else (if (M 2 (a3).toNatClampNeg 1) = (0 : Int32) then (Option.bind (f_C_found (1 : Int32) M) fun q6 => some (q6.1, q6.2)) else (if (M 2 (a1).toNatClampNeg 2) = (M 2 (a3).toNatClampNeg 2) then (if (f_R_has (a1).toNatClampNeg a2 a5 M) = (0 : Int32) then (Option.bind (f_C_found (2 : Int32) M) fun q8 => some (q8.1, q8.2)) else (if (f_R_has (a3).toNatClampNeg a4 a5 M) = (0 : Int32) then (Option.bind (f_C_found (2 : Int32) M) fun q10 => some (q10.1, q10.2)) else (if wcb a2 a4 a5 40 40 = true then (Option.bind (f_C_withoutFinding a5 (wc_cp M 3 (a1).toNatClampNeg 3 (a3).toNatClampNeg (a2).toNatClampNeg (a4).toNatClampNeg (a5).toNatClampNeg)) fun q13 => some (q13.1, q13.2)) else none))) else (Option.bind (f_C_found (5 : Int32) M) fun q15 => some (q15.1, q15.2))))) else none) else none)))
def l_M_copy_69 (x1 : Int32) (x2 : Int32) (x3 : Int32) (x4 : Int32) (x5 : Int32) : Nat → Int32 → wc_M → Option (wc_M)
  | 0, _, _ => none
  | n + 1, x6, M => (if x5 ≤ x6 then some M else (if wib ((((40 : Int32) * x1) + x2) + x6) 320 = true then (if wib x6 40 = true then l_M_copy_69 x1 x2 x3 x4 x5 n (x6 + (1 : Int32)) (wc_up M 26 0 (x6).toNatClampNeg (M 24 0 (((((40 : Int32) * x1) + x2) + x6)).toNatClampNeg)) else none) else none))
def l_M_copy_90 (x3 : Int32) (x4 : Int32) (x5 : Int32) : Nat → Int32 → wc_M → Option (wc_M)
  | 0, _, _ => none
  | n + 1, x6, M => (if x5 ≤ x6 then some M else (if wib x6 40 = true then (if wib ((((40 : Int32) * x3) + x4) + x6) 320 = true then l_M_copy_90 x3 x4 x5 n (x6 + (1 : Int32)) (wc_up M 24 0 (((((40 : Int32) * x3) + x4) + x6)).toNatClampNeg (M 26 0 (x6).toNatClampNeg)) else none) else none))
def f_M_copy (a1 : Int32) (a2 : Int32) (a3 : Int32) (a4 : Int32) (a5 : Int32) (M : wc_M) : Option (Int32 × wc_M) :=
  (if (f_M_isRow a1) = (0 : Int32) then some ((-1000001 : Int32), M) else (if (f_M_isRow a3) = (0 : Int32) then some ((-1000001 : Int32), M) else (if wib a1 8 = true then (if (M 23 0 (a1).toNatClampNeg) < (0 : Int32) then (Option.bind (f_M_find (1 : Int32) M) fun q3 => some (q3.1, q3.2)) else (if wib a3 8 = true then (if (0 : Int32) ≤ (M 23 0 (a3).toNatClampNeg) then (if (M 22 0 (a1).toNatClampNeg) = (M 22 0 (a3).toNatClampNeg) then (if a5 < (0 : Int32) then (Option.bind (f_M_find (2 : Int32) M) fun q6 => some (q6.1, q6.2)) else (if (f_M_in (a2).toInt64 (0 : Int64) (((M 23 0 (a1).toNatClampNeg)).toInt64 - (a5).toInt64)) = (0 : Int32) then (Option.bind (f_M_find (2 : Int32) M) fun q8 => some (q8.1, q8.2)) else (if (f_M_in (a4).toInt64 (0 : Int64) (((M 23 0 (a3).toNatClampNeg)).toInt64 - (a5).toInt64)) = (0 : Int32) then (Option.bind (f_M_find (2 : Int32) M) fun q10 => some (q10.1, q10.2)) else (Option.bind (l_M_copy_69 a1 a2 a3 a4 a5 2000 (0 : Int32) M) fun t13 => (Option.bind (l_M_copy_90 a3 a4 a5 2000 (0 : Int32) t13) fun t17 => (Option.bind (f_M_well a5 t17) fun q20 => some (q20.1, q20.2))))))) else (Option.bind (f_M_find (5 : Int32) M) fun q22 => some (q22.1, q22.2))) else (Option.bind (f_M_find (1 : Int32) M) fun q24 => some (q24.1, q24.2))) else none)) else none)))
def f_C_drop (a1 : Int32) (M : wc_M) : Option (Int32 × wc_M) :=
  (if (f_C_isUpTo a1 (7 : Int32)) = (0 : Int32) then some ((-1000001 : Int32), M) else (if wib a1 8 = true then (if (M 2 (a1).toNatClampNeg 1) = (0 : Int32) then (Option.bind (f_C_found (1 : Int32) M) fun q3 => some (q3.1, q3.2)) else (Option.bind (f_C_withoutFinding ((wc_up M 2 (a1).toNatClampNeg 1 (0 : Int32)) 2 (a1).toNatClampNeg 3) (wc_up M 2 (a1).toNatClampNeg 1 (0 : Int32))) fun q5 => some (q5.1, q5.2))) else none))
def f_M_drop (a1 : Int32) (M : wc_M) : Option (Int32 × wc_M) :=
  (if (f_M_isRow a1) = (0 : Int32) then some ((-1000001 : Int32), M) else (if wib a1 8 = true then (if (0 : Int32) ≤ (M 23 0 (a1).toNatClampNeg) then (Option.bind (f_M_well (M 23 0 (a1).toNatClampNeg) (wc_up M 23 0 (a1).toNatClampNeg (-1 : Int32))) fun q3 => some (q3.1, q3.2)) else (Option.bind (f_M_find (1 : Int32) M) fun q5 => some (q5.1, q5.2))) else none))
def f_T_add (a1 : Int32) (M : wc_M) : Option (Int32 × wc_M) :=
  (if (M 4 0 1) < (120 : Int32) then (if wib (M 4 0 1) 120 = true then some ((1 : Int32), (wc_up (wc_up M 5 0 ((M 4 0 1)).toNatClampNeg a1) 4 0 1 (((wc_up M 5 0 ((M 4 0 1)).toNatClampNeg a1) 4 0 1) + (1 : Int32)))) else none) else some ((0 : Int32), M))
def f_C_feed (a1 : Int32) (M : wc_M) : Option (Int32 × wc_M) :=
  (if (f_C_isUpTo a1 (255 : Int32)) = (0 : Int32) then some ((-1000001 : Int32), M) else (Option.bind (f_T_add a1 M) fun q2 => (if q2.1 = (0 : Int32) then some ((-1000003 : Int32), q2.2) else some ((q2.2 4 0 1), q2.2))))
def f_M_feed (a1 : Int32) (M : wc_M) : Option (Int32 × wc_M) :=
  (if (f_M_in (a1).toInt64 (0 : Int64) (255 : Int64)) = (0 : Int32) then some ((-1000001 : Int32), M) else (if (M 21 0 8) = (120 : Int32) then some ((-1000003 : Int32), M) else (if wib (M 21 0 8) 120 = true then some (((wc_up (wc_up M 27 0 ((M 21 0 8)).toNatClampNeg a1) 21 0 8 (((wc_up M 27 0 ((M 21 0 8)).toNatClampNeg a1) 21 0 8) + (1 : Int32))) 21 0 8), (wc_up (wc_up M 27 0 ((M 21 0 8)).toNatClampNeg a1) 21 0 8 (((wc_up M 27 0 ((M 21 0 8)).toNatClampNeg a1) 21 0 8) + (1 : Int32)))) else none)))
def f_P_put (p0 : Nat) (a1 : Int32) (a2 : Int32) (a3 : Int32) (M : wc_M) : Option wc_M :=
  (if wib a1 16 = true then some (wc_up (wc_up (wc_up M 9 p0 (a1).toNatClampNeg a2) 10 p0 (a1).toNatClampNeg a3) 11 p0 (a1).toNatClampNeg (0 : Int32)) else none)
def f_P_clear (p0 : Nat) (a1 : Int32) (M : wc_M) : Option wc_M :=
  (Option.bind (f_P_put p0 a1 (0 : Int32) (0 : Int32) M) fun m2 => some m2)
def l_P_begin_2 (p0 : Nat) : Nat → Int32 → wc_M → Option (wc_M)
  | 0, _, _ => none
  | n + 1, x1, M => (if (16 : Int32) ≤ x1 then some M else (Option.bind (f_P_clear p0 x1 M) fun m2 => l_P_begin_2 p0 n (x1 + (1 : Int32)) m2))
def f_P_begin (p0 : Nat) (M : wc_M) : Option wc_M :=
  (Option.bind (l_P_begin_2 p0 2000 (0 : Int32) M) fun t3 => some (wc_up (wc_up t3 6 p0 5 (1 : Int32)) 6 p0 6 (0 : Int32)))
def f_T_fail (a1 : Int32) (a2 : Int32) (M : wc_M) : Option (Int32 × wc_M) :=
  some ((0 : Int32), (wc_up (wc_up M 4 0 2 a1) 4 0 3 a2))
def f_T_readByte (a1 : Int32) (M : wc_M) : Option (Int32 × wc_M) :=
  (if (M 4 0 1) ≤ (M 4 0 4) then (Option.bind (f_T_fail (1 : Int32) (M 4 0 4) M) fun q2 => (if wzb q2.1 = true then some (q2.1, q2.2) else none)) else (if wib (M 4 0 4) 120 = true then (if (M 5 0 ((M 4 0 4)).toNatClampNeg) = a1 then some ((1 : Int32), (wc_up M 4 0 4 ((M 4 0 4) + (1 : Int32)))) else (Option.bind (f_T_fail (1 : Int32) (M 4 0 4) M) fun q5 => (if wzb q5.1 = true then some (q5.1, q5.2) else none))) else none))
def f_T_isFigure (a0 : Int32) : Int32 :=
  (if a0 < (48 : Int32) then (0 : Int32) else (if (57 : Int32) < a0 then (0 : Int32) else (1 : Int32)))
theorem b_T_isFigure (a0 : Int32) : f_T_isFigure a0 = 0 ∨ f_T_isFigure a0 = 1 := by
  unfold f_T_isFigure
  repeat' split
  all_goals first | exact Or.inl rfl | exact Or.inr rfl
def l_T_readNumber_4 (x1 : Int32) (M : wc_M) : Nat → Int32 → Int32 → Option (Int32 × Int32)
  | 0, _, _ => none
  | n + 1, x2, x3 => (if (3 : Int32) ≤ x2 then some (x2, x3) else (if (M 4 0 1) ≤ ((M 4 0 4) + x2) then some (x2, x3) else (if wib ((M 4 0 4) + x2) 120 = true then (if (f_T_isFigure (M 5 0 (((M 4 0 4) + x2)).toNatClampNeg)) = (0 : Int32) then some (x2, x3) else l_T_readNumber_4 x1 M n (x2 + (1 : Int32)) ((((10 : Int32) * x3) + (M 5 0 (((M 4 0 4) + x2)).toNatClampNeg)) - (48 : Int32))) else none)))
def f_T_readNumber (a1 : Int32) (M : wc_M) : Option (Int32 × wc_M) :=
  (Option.bind (l_T_readNumber_4 a1 M 2000 (0 : Int32) (0 : Int32)) fun t2 => (if t2.1 = (0 : Int32) then (Option.bind (f_T_fail (1 : Int32) (M 4 0 4) M) fun q5 => some ((-1 : Int32), q5.2)) else (if t2.1 = (3 : Int32) then (Option.bind (f_T_fail (1 : Int32) (M 4 0 4) M) fun q7 => some ((-1 : Int32), q7.2)) else (if t2.2 ≤ a1 then some (t2.2, (wc_up M 4 0 4 ((M 4 0 4) + t2.1))) else (Option.bind (f_T_fail (2 : Int32) (M 4 0 4) M) fun q9 => some ((-1 : Int32), q9.2))))))
def l_T_readLines_7_8 (p2 : Nat) : Nat → Int32 → wc_M → Option ((Int32 × wc_M) ⊕ (wc_M))
  | 0, _, _ => none
  | n + 1, x3, M => (if (4 : Int32) ≤ x3 then some (.inr M) else (Option.bind (f_T_readNumber (31 : Int32) M) fun q4 => (if wib x3 4 = true then (if ((wc_up q4.2 7 p2 (x3).toNatClampNeg q4.1) 7 p2 (x3).toNatClampNeg) < (0 : Int32) then some (.inl ((0 : Int32), (wc_up q4.2 7 p2 (x3).toNatClampNeg q4.1))) else (Option.bind (if (3 : Int32) ≤ x3 then some (59 : Int32) else some (44 : Int32)) fun t6 => (Option.bind (f_T_readByte t6 (wc_up q4.2 7 p2 (x3).toNatClampNeg q4.1)) fun q8 => (if q8.1 = (0 : Int32) then some (.inl ((0 : Int32), q8.2)) else l_T_readLines_7_8 p2 n (x3 + (1 : Int32)) q8.2)))) else none)))
def f_T_readLines_7 (a1 : Int32) (p2 : Nat) (M : wc_M) : Option (Int32 × wc_M) :=
  (Option.bind (f_T_readByte a1 M) fun q2 => (if q2.1 = (0 : Int32) then some ((0 : Int32), q2.2) else (Option.bind (l_T_readLines_7_8 p2 2000 (0 : Int32) q2.2) fun o12 => wel (fun r13 => some r13) (fun t10 => some ((1 : Int32), t10)) o12)))
def l_T_readLines_8_8 (p2 : Nat) : Nat → Int32 → wc_M → Option ((Int32 × wc_M) ⊕ (wc_M))
  | 0, _, _ => none
  | n + 1, x3, M => (if (4 : Int32) ≤ x3 then some (.inr M) else (Option.bind (f_T_readNumber (31 : Int32) M) fun q4 => (if wib x3 4 = true then (if ((wc_up q4.2 8 p2 (x3).toNatClampNeg q4.1) 8 p2 (x3).toNatClampNeg) < (0 : Int32) then some (.inl ((0 : Int32), (wc_up q4.2 8 p2 (x3).toNatClampNeg q4.1))) else (Option.bind (if (3 : Int32) ≤ x3 then some (59 : Int32) else some (44 : Int32)) fun t6 => (Option.bind (f_T_readByte t6 (wc_up q4.2 8 p2 (x3).toNatClampNeg q4.1)) fun q8 => (if q8.1 = (0 : Int32) then some (.inl ((0 : Int32), q8.2)) else l_T_readLines_8_8 p2 n (x3 + (1 : Int32)) q8.2)))) else none)))
def f_T_readLines_8 (a1 : Int32) (p2 : Nat) (M : wc_M) : Option (Int32 × wc_M) :=
  (Option.bind (f_T_readByte a1 M) fun q2 => (if q2.1 = (0 : Int32) then some ((0 : Int32), q2.2) else (Option.bind (l_T_readLines_8_8 p2 2000 (0 : Int32) q2.2) fun o12 => wel (fun r13 => some r13) (fun t10 => some ((1 : Int32), t10)) o12)))
def f_T_kindOf (a0 : Int32) : Int32 :=
  (if a0 = (104 : Int32) then (4 : Int32) else (if a0 = (110 : Int32) then (2 : Int32) else (if a0 = (115 : Int32) then (3 : Int32) else (if a0 = (118 : Int32) then (5 : Int32) else (if a0 = (119 : Int32) then (1 : Int32) else (0 : Int32))))))
def f_P_hasWork (p0 : Nat) (a1 : Int32) (M : wc_M) : Option Int32 :=
  (if wib a1 16 = true then (if (M 9 p0 (a1).toNatClampNeg) = (0 : Int32) then some (0 : Int32) else some (1 : Int32)) else none)
def f_T_readWork (a1 : Int32) (p2 : Nat) (M : wc_M) : Option (Int32 × wc_M) :=
  (Option.bind (f_T_readNumber (3 : Int32) M) fun q2 => (if q2.1 < (0 : Int32) then some ((0 : Int32), q2.2) else (Option.bind (f_T_readByte (44 : Int32) q2.2) fun q4 => (if q4.1 = (0 : Int32) then some ((0 : Int32), q4.2) else (Option.bind (f_T_readNumber (3 : Int32) q4.2) fun q6 => (if (0 : Int32) ≤ q6.1 then (Option.bind (f_P_hasWork p2 (((4 : Int32) * q2.1) + q6.1) q6.2) fun v8 => (if v8 = (0 : Int32) then (Option.bind (f_T_readByte (44 : Int32) q6.2) fun q10 => (if q10.1 = (0 : Int32) then some ((0 : Int32), q10.2) else (Option.bind (f_T_readNumber (99 : Int32) q10.2) fun q12 => (if q12.1 < (0 : Int32) then some ((0 : Int32), q12.2) else (Option.bind (f_T_readByte (59 : Int32) q12.2) fun q14 => (if q14.1 = (0 : Int32) then some ((0 : Int32), q14.2) else (Option.bind (f_P_put p2 (((4 : Int32) * q2.1) + q6.1) a1 q12.1 q14.2) fun m16 => some ((1 : Int32), m16)))))))) else (Option.bind (f_T_fail (2 : Int32) (q4.2 4 0 4) q6.2) fun q18 => (if wzb q18.1 = true then some (q18.1, q18.2) else none)))) else some ((0 : Int32), q6.2)))))))
def l_T_readWorks_2 (p1 : Nat) : Nat → Int32 → wc_M → Option ((Int32 × wc_M) ⊕ (wc_M))
  | 0, _, _ => none
  | n + 1, x2, M => (if (6 : Int32) < x2 then some (.inr M) else (if (M 4 0 1) ≤ (M 4 0 4) then some (.inr M) else (if wib (M 4 0 4) 120 = true then (if (f_T_kindOf (M 5 0 ((M 4 0 4)).toNatClampNeg)) = (0 : Int32) then (Option.bind (f_T_fail (1 : Int32) (M 4 0 4) M) fun q3 => (if wzb q3.1 = true then some (.inl (q3.1, q3.2)) else none)) else (if x2 = (6 : Int32) then (Option.bind (f_T_fail (3 : Int32) (M 4 0 4) M) fun q5 => (if wzb q5.1 = true then some (.inl (q5.1, q5.2)) else none)) else (Option.bind (f_T_readWork (f_T_kindOf (M 5 0 ((M 4 0 4)).toNatClampNeg)) p1 (wc_up M 4 0 4 ((M 4 0 4) + (1 : Int32)))) fun q7 => (if q7.1 = (0 : Int32) then some (.inl ((0 : Int32), q7.2)) else l_T_readWorks_2 p1 n (x2 + (1 : Int32)) q7.2)))) else none)))
def f_T_readWorks (p1 : Nat) (M : wc_M) : Option (Int32 × wc_M) :=
  (Option.bind (l_T_readWorks_2 p1 2000 (0 : Int32) M) fun o10 => wel (fun r11 => some r11) (fun t8 => some ((1 : Int32), t8)) o10)
def f_T_read (p1 : Nat) (M : wc_M) : Option (Int32 × wc_M) :=
  (Option.bind (f_P_begin p1 (wc_up M 4 0 4 (0 : Int32))) fun m2 => (Option.bind (f_T_readLines_7 (97 : Int32) p1 m2) fun q4 => (if q4.1 = (0 : Int32) then some ((0 : Int32), q4.2) else (Option.bind (f_T_readLines_8 (98 : Int32) p1 q4.2) fun q6 => (if q6.1 = (0 : Int32) then some ((0 : Int32), q6.2) else (Option.bind (f_T_readWorks p1 q6.2) fun q8 => (if q8.1 = (0 : Int32) then some ((0 : Int32), q8.2) else some ((1 : Int32), q8.2))))))))
def f_P_become (p0 : Nat) (p1 : Nat) (M : wc_M) : Option wc_M :=
  (if wzb ((wc_cp (wc_cp (wc_cp (wc_cp (wc_cp M 7 p1 7 p0 ((0 : Int32)).toNatClampNeg ((0 : Int32)).toNatClampNeg ((4 : Int32)).toNatClampNeg) 8 p1 8 p0 ((0 : Int32)).toNatClampNeg ((0 : Int32)).toNatClampNeg ((4 : Int32)).toNatClampNeg) 9 p1 9 p0 ((0 : Int32)).toNatClampNeg ((0 : Int32)).toNatClampNeg ((16 : Int32)).toNatClampNeg) 10 p1 10 p0 ((0 : Int32)).toNatClampNeg ((0 : Int32)).toNatClampNeg ((16 : Int32)).toNatClampNeg) 11 p1 11 p0 ((0 : Int32)).toNatClampNeg ((0 : Int32)).toNatClampNeg ((16 : Int32)).toNatClampNeg) 6 p1 5) = true then some (wc_up (wc_up (wc_cp (wc_cp (wc_cp (wc_cp (wc_cp M 7 p1 7 p0 ((0 : Int32)).toNatClampNeg ((0 : Int32)).toNatClampNeg ((4 : Int32)).toNatClampNeg) 8 p1 8 p0 ((0 : Int32)).toNatClampNeg ((0 : Int32)).toNatClampNeg ((4 : Int32)).toNatClampNeg) 9 p1 9 p0 ((0 : Int32)).toNatClampNeg ((0 : Int32)).toNatClampNeg ((16 : Int32)).toNatClampNeg) 10 p1 10 p0 ((0 : Int32)).toNatClampNeg ((0 : Int32)).toNatClampNeg ((16 : Int32)).toNatClampNeg) 11 p1 11 p0 ((0 : Int32)).toNatClampNeg ((0 : Int32)).toNatClampNeg ((16 : Int32)).toNatClampNeg) 6 p0 5 ((wc_cp (wc_cp (wc_cp (wc_cp (wc_cp M 7 p1 7 p0 ((0 : Int32)).toNatClampNeg ((0 : Int32)).toNatClampNeg ((4 : Int32)).toNatClampNeg) 8 p1 8 p0 ((0 : Int32)).toNatClampNeg ((0 : Int32)).toNatClampNeg ((4 : Int32)).toNatClampNeg) 9 p1 9 p0 ((0 : Int32)).toNatClampNeg ((0 : Int32)).toNatClampNeg ((16 : Int32)).toNatClampNeg) 10 p1 10 p0 ((0 : Int32)).toNatClampNeg ((0 : Int32)).toNatClampNeg ((16 : Int32)).toNatClampNeg) 11 p1 11 p0 ((0 : Int32)).toNatClampNeg ((0 : Int32)).toNatClampNeg ((16 : Int32)).toNatClampNeg) 6 p1 5)) 6 p0 6 ((wc_up (wc_cp (wc_cp (wc_cp (wc_cp (wc_cp M 7 p1 7 p0 ((0 : Int32)).toNatClampNeg ((0 : Int32)).toNatClampNeg ((4 : Int32)).toNatClampNeg) 8 p1 8 p0 ((0 : Int32)).toNatClampNeg ((0 : Int32)).toNatClampNeg ((4 : Int32)).toNatClampNeg) 9 p1 9 p0 ((0 : Int32)).toNatClampNeg ((0 : Int32)).toNatClampNeg ((16 : Int32)).toNatClampNeg) 10 p1 10 p0 ((0 : Int32)).toNatClampNeg ((0 : Int32)).toNatClampNeg ((16 : Int32)).toNatClampNeg) 11 p1 11 p0 ((0 : Int32)).toNatClampNeg ((0 : Int32)).toNatClampNeg ((16 : Int32)).toNatClampNeg) 6 p0 5 ((wc_cp (wc_cp (wc_cp (wc_cp (wc_cp M 7 p1 7 p0 ((0 : Int32)).toNatClampNeg ((0 : Int32)).toNatClampNeg ((4 : Int32)).toNatClampNeg) 8 p1 8 p0 ((0 : Int32)).toNatClampNeg ((0 : Int32)).toNatClampNeg ((4 : Int32)).toNatClampNeg) 9 p1 9 p0 ((0 : Int32)).toNatClampNeg ((0 : Int32)).toNatClampNeg ((16 : Int32)).toNatClampNeg) 10 p1 10 p0 ((0 : Int32)).toNatClampNeg ((0 : Int32)).toNatClampNeg ((16 : Int32)).toNatClampNeg) 11 p1 11 p0 ((0 : Int32)).toNatClampNeg ((0 : Int32)).toNatClampNeg ((16 : Int32)).toNatClampNeg) 6 p1 5)) 6 p1 6)) else none)
def l_P_works_4 (p0 : Nat) (M : wc_M) : Nat → Int32 → Int32 → Option (Int32)
  | 0, _, _ => none
  | n + 1, x1, x2 => (if (16 : Int32) ≤ x2 then some x1 else (Option.bind (f_P_hasWork p0 x2 M) fun v2 => (if v2 = (0 : Int32) then l_P_works_4 p0 M n x1 (x2 + (1 : Int32)) else l_P_works_4 p0 M n (x1 + (1 : Int32)) (x2 + (1 : Int32)))))
def f_P_works (p0 : Nat) (M : wc_M) : Option Int32 :=
  (Option.bind (l_P_works_4 p0 M 2000 (0 : Int32) (0 : Int32)) fun t3 => some t3)
def f_C_pass (M : wc_M) : Option (Int32 × wc_M) :=
  (Option.bind (f_T_read 1 M) fun q2 => (if q2.1 = (0 : Int32) then some (((-1000100 : Int32) - ((wc_up q2.2 4 0 1 (0 : Int32)) 4 0 3)), (wc_up q2.2 4 0 1 (0 : Int32))) else (Option.bind (f_P_become 0 1 (wc_up q2.2 4 0 1 (0 : Int32))) fun m4 => (Option.bind (f_P_works 0 (wc_up m4 16 0 2 (0 : Int32))) fun v6 => some (v6, (wc_up m4 16 0 2 (0 : Int32)))))))
def l_M_nextToken_17 : Nat → wc_M → Option (wc_M)
  | 0, _ => none
  | n + 1, M => (if (M 21 0 8) ≤ (M 21 0 10) then some M else (if wib (M 21 0 10) 120 = true then (if (f_M_in ((M 27 0 ((M 21 0 10)).toNatClampNeg)).toInt64 (48 : Int64) (57 : Int64)) = (0 : Int32) then some M else (Option.bind (if (M 21 0 12) ≤ (99 : Int32) then some ((((10 : Int32) * (M 21 0 12)) + (M 27 0 ((M 21 0 10)).toNatClampNeg)) - (48 : Int32)) else some (M 21 0 12)) fun t3 => l_M_nextToken_17 n (wc_up (wc_up M 21 0 12 t3) 21 0 10 (((wc_up M 21 0 12 t3) 21 0 10) + (1 : Int32))))) else none))
def f_M_nextToken (M : wc_M) : Option wc_M :=
  (Option.bind (if ((wc_up M 21 0 13 (M 21 0 10)) 21 0 10) = ((wc_up M 21 0 13 (M 21 0 10)) 21 0 8) then some (3 : Int32) else some (0 : Int32)) fun t1 => (Option.bind (l_M_nextToken_17 2000 (wc_up (wc_up (wc_up M 21 0 13 (M 21 0 10)) 21 0 11 t1) 21 0 12 (0 : Int32))) fun t5 => (if (t5 21 0 10) ≤ (t5 21 0 13) then (if (t5 21 0 11) = (0 : Int32) then (if wib (t5 21 0 10) 120 = true then (Option.bind (if (f_M_in (((wc_up t5 21 0 12 (t5 27 0 ((t5 21 0 10)).toNatClampNeg)) 21 0 12)).toInt64 (97 : Int64) (122 : Int64)) = (0 : Int32) then (if ((wc_up t5 21 0 12 (t5 27 0 ((t5 21 0 10)).toNatClampNeg)) 21 0 12) = (44 : Int32) then some (1 : Int32) else (if ((wc_up t5 21 0 12 (t5 27 0 ((t5 21 0 10)).toNatClampNeg)) 21 0 12) = (59 : Int32) then some (1 : Int32) else some (0 : Int32))) else some (1 : Int32)) fun t8 => some (wc_up (wc_up (wc_up t5 21 0 12 (t5 27 0 ((t5 21 0 10)).toNatClampNeg)) 21 0 11 t8) 21 0 10 (((wc_up (wc_up t5 21 0 12 (t5 27 0 ((t5 21 0 10)).toNatClampNeg)) 21 0 11 t8) 21 0 10) + (1 : Int32)))) else none) else some t5) else (if ((t5 21 0 10) - (t5 21 0 13)) ≤ (2 : Int32) then some (wc_up t5 21 0 11 (2 : Int32)) else some (wc_up t5 21 0 11 (0 : Int32))))))
def f_M_isLetter (a1 : Int32) (M : wc_M) : Int32 :=
  (if (M 21 0 11) = (1 : Int32) then (if (M 21 0 12) = a1 then (1 : Int32) else (0 : Int32)) else (0 : Int32))
theorem b_M_isLetter (a1 : Int32) (M : wc_M) : f_M_isLetter a1 M = 0 ∨ f_M_isLetter a1 M = 1 := by
  unfold f_M_isLetter
  repeat' split
  all_goals first | exact Or.inl rfl | exact Or.inr rfl
def f_M_faults (a1 : Int32) (M : wc_M) : Option (Int32 × wc_M) :=
  some ((0 : Int32), (wc_up M 21 0 14 a1))
def f_M_takes (a1 : Int32) (M : wc_M) : Option (Int32 × wc_M) :=
  (if (f_M_isLetter a1 M) = (0 : Int32) then (Option.bind (f_M_faults (1 : Int32) M) fun q2 => (if wzb q2.1 = true then some (q2.1, q2.2) else none)) else (Option.bind (f_M_nextToken M) fun m4 => some ((1 : Int32), m4)))
def f_M_takesNumber (a1 : Int32) (a2 : Int32) (a3 : Int32) (a4 : Int32) (M : wc_M) : Option (Int32 × wc_M) :=
  (if (M 21 0 11) = (2 : Int32) then (if (f_M_in ((M 21 0 12)).toInt64 (a1).toInt64 (a2).toInt64) = (0 : Int32) then (Option.bind (if (M 21 0 11) = (2 : Int32) then some (2 : Int32) else some (1 : Int32)) fun t1 => (Option.bind (f_M_faults t1 M) fun q3 => (if wzb q3.1 = true then some (q3.1, q3.2) else none))) else (if wib a3 57 = true then (Option.bind (f_M_nextToken (wc_up M 28 0 (a3).toNatClampNeg (M 21 0 12))) fun m7 => (Option.bind (f_M_takes a4 m7) fun q9 => (if wzb q9.1 = true then some (q9.1, q9.2) else none))) else none)) else (Option.bind (if (M 21 0 11) = (2 : Int32) then some (2 : Int32) else some (1 : Int32)) fun t10 => (Option.bind (f_M_faults t10 M) fun q12 => (if wzb q12.1 = true then some (q12.1, q12.2) else none))))
def l_M_readFour_6 (x2 : Int32) : Nat → Int32 → Int32 → wc_M → Option (Int32 × wc_M)
  | 0, _, _, _ => none
  | n + 1, x3, x4, M => (if (4 : Int32) ≤ x4 then some (x3, M) else (if x3 = (0 : Int32) then some (x3, M) else (Option.bind (if x4 = (3 : Int32) then some (59 : Int32) else some (44 : Int32)) fun t3 => (Option.bind (f_M_takesNumber (0 : Int32) (31 : Int32) (x2 + x4) t3 M) fun q5 => l_M_readFour_6 x2 n q5.1 (x4 + (1 : Int32)) q5.2))))
def f_M_readFour (a1 : Int32) (a2 : Int32) (M : wc_M) : Option (Int32 × wc_M) :=
  (Option.bind (f_M_takes a1 M) fun q2 => (Option.bind (l_M_readFour_6 a2 2000 q2.1 (0 : Int32) q2.2) fun t7 => (if wzb t7.1 = true then some (t7.1, t7.2) else none)))
def f_M_readWork (a1 : Int32) (M : wc_M) : Option (Int32 × wc_M) :=
  (if (M 21 0 16) = (6 : Int32) then (Option.bind (f_M_faults (3 : Int32) M) fun q2 => (if wzb q2.1 = true then some (q2.1, q2.2) else none)) else (Option.bind (f_M_nextToken M) fun m4 => (if (m4 21 0 11) = (2 : Int32) then (if (m4 21 0 12) ≤ (3 : Int32) then (Option.bind (f_M_nextToken (wc_up m4 21 0 17 (m4 21 0 12))) fun m6 => (Option.bind (f_M_takes (44 : Int32) m6) fun q8 => (if q8.1 = (0 : Int32) then some ((0 : Int32), q8.2) else (if (q8.2 21 0 11) = (2 : Int32) then (if (3 : Int32) < (q8.2 21 0 12) then (Option.bind (if (q8.2 21 0 11) = (2 : Int32) then some (2 : Int32) else some (1 : Int32)) fun t9 => (Option.bind (f_M_faults t9 q8.2) fun q11 => (if wzb q11.1 = true then some (q11.1, q11.2) else none))) else (if wib (((9 : Int32) + ((4 : Int32) * (q8.2 21 0 17))) + (q8.2 21 0 12)) 57 = true then (if (q8.2 28 0 ((((9 : Int32) + ((4 : Int32) * (q8.2 21 0 17))) + (q8.2 21 0 12))).toNatClampNeg) ≤ (0 : Int32) then (Option.bind (f_M_nextToken q8.2) fun m15 => (if wib ((9 : Int32) + (((4 : Int32) * (q8.2 21 0 17)) + (q8.2 21 0 12))) 57 = true then (Option.bind (f_M_takes (44 : Int32) (wc_up (wc_up m15 28 0 (((9 : Int32) + (((4 : Int32) * (q8.2 21 0 17)) + (q8.2 21 0 12)))).toNatClampNeg a1) 21 0 16 (((wc_up m15 28 0 (((9 : Int32) + (((4 : Int32) * (q8.2 21 0 17)) + (q8.2 21 0 12)))).toNatClampNeg a1) 21 0 16) + (1 : Int32)))) fun q18 => (if q18.1 = (0 : Int32) then some ((0 : Int32), q18.2) else (Option.bind (f_M_takesNumber (0 : Int32) (99 : Int32) ((25 : Int32) + (((4 : Int32) * (q8.2 21 0 17)) + (q8.2 21 0 12))) (59 : Int32) q18.2) fun q20 => (if q20.1 = (0 : Int32) then some ((0 : Int32), q20.2) else some ((1 : Int32), q20.2))))) else none)) else (Option.bind (if (q8.2 21 0 11) = (2 : Int32) then some (2 : Int32) else some (1 : Int32)) fun t21 => (Option.bind (f_M_faults t21 q8.2) fun q23 => (if wzb q23.1 = true then some (q23.1, q23.2) else none)))) else none)) else (Option.bind (if (q8.2 21 0 11) = (2 : Int32) then some (2 : Int32) else some (1 : Int32)) fun t25 => (Option.bind (f_M_faults t25 q8.2) fun q27 => (if wzb q27.1 = true then some (q27.1, q27.2) else none))))))) else (Option.bind (if (m4 21 0 11) = (2 : Int32) then some (2 : Int32) else some (1 : Int32)) fun t29 => (Option.bind (f_M_faults t29 m4) fun q31 => (if wzb q31.1 = true then some (q31.1, q31.2) else none)))) else (Option.bind (if (m4 21 0 11) = (2 : Int32) then some (2 : Int32) else some (1 : Int32)) fun t33 => (Option.bind (f_M_faults t33 m4) fun q35 => (if wzb q35.1 = true then some (q35.1, q35.2) else none))))))
def l_M_readPass_8 : Nat → Int32 → wc_M → Option (wc_M)
  | 0, _, _ => none
  | n + 1, x1, M => (if (57 : Int32) ≤ x1 then some M else (if wib x1 57 = true then l_M_readPass_8 n (x1 + (1 : Int32)) (wc_up M 28 0 (x1).toNatClampNeg (0 : Int32)) else none))
def l_M_readPass_34 : Nat → Int32 → wc_M → Option (Int32 × wc_M)
  | 0, _, _ => none
  | n + 1, x1, M => (if x1 = (0 : Int32) then some (x1, M) else (if (M 21 0 11) = (3 : Int32) then some (x1, M) else (Option.bind (if (f_M_isLetter (119 : Int32) M) = (0 : Int32) then (if (f_M_isLetter (110 : Int32) M) = (0 : Int32) then (if (f_M_isLetter (115 : Int32) M) = (0 : Int32) then (if (f_M_isLetter (104 : Int32) M) = (0 : Int32) then (if (f_M_isLetter (118 : Int32) M) = (0 : Int32) then some (0 : Int32) else some (5 : Int32)) else some (4 : Int32)) else some (3 : Int32)) else some (2 : Int32)) else some (1 : Int32)) fun t10 => (if t10 ≤ (0 : Int32) then (Option.bind (f_M_faults (1 : Int32) M) fun q12 => l_M_readPass_34 n q12.1 q12.2) else (Option.bind (f_M_readWork t10 M) fun q14 => l_M_readPass_34 n q14.1 q14.2)))))
def f_M_readPass (M : wc_M) : Option (Int32 × wc_M) :=
  (Option.bind (l_M_readPass_8 2000 (0 : Int32) (wc_up (wc_up M 21 0 10 (0 : Int32)) 21 0 16 (0 : Int32))) fun t2 => (Option.bind (f_M_nextToken t2) fun m5 => (Option.bind (f_M_readFour (97 : Int32) (1 : Int32) m5) fun q7 => (if q7.1 = (0 : Int32) then some ((0 : Int32), q7.2) else (Option.bind (f_M_readFour (98 : Int32) (5 : Int32) q7.2) fun q9 => (if q9.1 = (0 : Int32) then some ((0 : Int32), q9.2) else (Option.bind (l_M_readPass_34 2000 (1 : Int32) q9.2) fun t16 => (if wzb t16.1 = true then some (t16.1, t16.2) else none))))))))
def l_M_pass_19 : Nat → Int32 → wc_M → Option (wc_M)
  | 0, _, _ => none
  | n + 1, x2, M => (if (57 : Int32) ≤ x2 then some M else (if wib x2 57 = true then l_M_pass_19 n (x2 + (1 : Int32)) (wc_up M 25 0 (x2).toNatClampNeg (M 28 0 (x2).toNatClampNeg)) else none))
def f_M_pass (M : wc_M) : Option (Int32 × wc_M) :=
  (Option.bind (f_M_readPass M) fun q2 => (if q2.1 = (0 : Int32) then some (((-1000100 : Int32) - ((wc_up (wc_up q2.2 21 0 8 (0 : Int32)) 21 0 9 ((wc_up q2.2 21 0 8 (0 : Int32)) 21 0 14)) 21 0 13)), (wc_up (wc_up q2.2 21 0 8 (0 : Int32)) 21 0 9 ((wc_up q2.2 21 0 8 (0 : Int32)) 21 0 14))) else (Option.bind (l_M_pass_19 2000 (0 : Int32) (wc_up q2.2 21 0 8 (0 : Int32))) fun t4 => some (((wc_up (wc_up t4 21 0 4 (1 : Int32)) 21 0 22 (0 : Int32)) 21 0 16), (wc_up (wc_up t4 21 0 4 (1 : Int32)) 21 0 22 (0 : Int32))))))
def f_C_fault (M : wc_M) : Int32 :=
  (M 4 0 2)
def f_M_fault (M : wc_M) : Int32 :=
  (M 21 0 9)
def f_C_isCell (a0 : Int32) : Int32 :=
  (f_C_isUpTo a0 (15 : Int32))
theorem b_C_isCell (a0 : Int32) : f_C_isCell a0 = 0 ∨ f_C_isCell a0 = 1 := by
  exact b_C_isUpTo ..
def f_C_isWorkKind (a0 : Int32) : Int32 :=
  (if a0 < (1 : Int32) then (0 : Int32) else (if (5 : Int32) < a0 then (0 : Int32) else (1 : Int32)))
theorem b_C_isWorkKind (a0 : Int32) : f_C_isWorkKind a0 = 0 ∨ f_C_isWorkKind a0 = 1 := by
  unfold f_C_isWorkKind
  repeat' split
  all_goals first | exact Or.inl rfl | exact Or.inr rfl
def f_H_keep (p1 : Nat) (M : wc_M) : Option wc_M :=
  (if wib (M 16 0 1) 24 = true then (Option.bind (f_P_become (2 + ((M 16 0 1)).toNatClampNeg) p1 M) fun m3 => some (wc_up (wc_up m3 16 0 1 (wc_rem ((m3 16 0 1) + (1 : Int32)) (24 : Int32))) 16 0 2 (if (24 : Int32) < (((wc_up m3 16 0 1 (wc_rem ((m3 16 0 1) + (1 : Int32)) (24 : Int32))) 16 0 2) + (1 : Int32)) then (24 : Int32) else (((wc_up m3 16 0 1 (wc_rem ((m3 16 0 1) + (1 : Int32)) (24 : Int32))) 16 0 2) + (1 : Int32))))) else none)
def f_C_setUp (a1 : Int32) (a2 : Int32) (a3 : Int32) (M : wc_M) : Option (Int32 × wc_M) :=
  (if (M 6 0 5) = (0 : Int32) then some ((-1000002 : Int32), M) else (if (f_C_isCell a1) = (0 : Int32) then some ((-1000001 : Int32), M) else (if (f_C_isWorkKind a2) = (0 : Int32) then some ((-1000001 : Int32), M) else (if (f_C_isUpTo a3 (99 : Int32)) = (0 : Int32) then some ((-1000001 : Int32), M) else (Option.bind (f_P_hasWork 0 a1 M) fun v2 => (if v2 = (0 : Int32) then (Option.bind (f_P_works 0 M) fun v4 => (if v4 < (6 : Int32) then (Option.bind (f_H_keep 0 M) fun m6 => (Option.bind (f_P_put 0 a1 a2 a3 m6) fun m8 => (Option.bind (f_P_works 0 m8) fun v10 => some (v10, m8)))) else some ((-1000003 : Int32), M))) else some ((-1000002 : Int32), M)))))))
def f_M_isCell (a0 : Int32) : Int32 :=
  (f_M_in (a0).toInt64 (0 : Int64) (15 : Int64))
theorem b_M_isCell (a0 : Int32) : f_M_isCell a0 = 0 ∨ f_M_isCell a0 = 1 := by
  exact b_M_in ..
def f_M_isWork (a1 : Int32) (M : wc_M) : Option Int32 :=
  (if wib ((9 : Int32) + a1) 57 = true then (if (M 25 0 (((9 : Int32) + a1)).toNatClampNeg) ≤ (0 : Int32) then some (0 : Int32) else some (1 : Int32)) else none)
def l_M_workMany_4 (M : wc_M) : Nat → Int32 → Int32 → Option (Int32)
  | 0, _, _ => none
  | n + 1, x1, x2 => (if (16 : Int32) ≤ x2 then some x1 else (Option.bind (f_M_isWork x2 M) fun v2 => (if v2 = (0 : Int32) then l_M_workMany_4 M n (x1 + (0 : Int32)) (x2 + (1 : Int32)) else l_M_workMany_4 M n (x1 + (1 : Int32)) (x2 + (1 : Int32)))))
def f_M_workMany (M : wc_M) : Option Int32 :=
  (Option.bind (l_M_workMany_4 M 2000 (0 : Int32) (0 : Int32)) fun t3 => some t3)
def l_M_note_6 : Nat → Int32 → wc_M → Option (wc_M)
  | 0, _, _ => none
  | n + 1, x1, M => (if (1311 : Int32) ≤ x1 then some M else (if wib (x1 + (57 : Int32)) 1368 = true then (if wib x1 1368 = true then l_M_note_6 n (x1 + (1 : Int32)) (wc_up M 30 0 (x1).toNatClampNeg (M 30 0 ((x1 + (57 : Int32))).toNatClampNeg)) else none) else none))
def l_M_note_29 : Nat → Int32 → wc_M → Option (wc_M)
  | 0, _, _ => none
  | n + 1, x1, M => (if (57 : Int32) ≤ x1 then some M else (if wib x1 57 = true then (if wib (((57 : Int32) * (M 21 0 22)) + x1) 1368 = true then l_M_note_29 n (x1 + (1 : Int32)) (wc_up M 30 0 ((((57 : Int32) * (M 21 0 22)) + x1)).toNatClampNeg (M 25 0 (x1).toNatClampNeg)) else none) else none))
def f_M_note (M : wc_M) : Option wc_M :=
  (Option.bind (if (M 21 0 22) = (24 : Int32) then (Option.bind (l_M_note_6 2000 (0 : Int32) M) fun t2 => some (wc_up t2 21 0 22 ((t2 21 0 22) - (1 : Int32)))) else some M) fun t1 => (Option.bind (l_M_note_29 2000 (0 : Int32) t1) fun t6 => some (wc_up t6 21 0 22 ((t6 21 0 22) + (1 : Int32)))))
def f_M_setUp (a1 : Int32) (a2 : Int32) (a3 : Int32) (M : wc_M) : Option (Int32 × wc_M) :=
  (if (M 21 0 4) = (0 : Int32) then some ((-1000002 : Int32), M) else (if (f_M_isCell a1) = (0 : Int32) then some ((-1000001 : Int32), M) else (if (f_M_in (a2).toInt64 (1 : Int64) (5 : Int64)) = (0 : Int32) then some ((-1000001 : Int32), M) else (if (f_M_in (a3).toInt64 (0 : Int64) (99 : Int64)) = (0 : Int32) then some ((-1000001 : Int32), M) else (Option.bind (f_M_isWork a1 M) fun v2 => (if v2 = (0 : Int32) then (Option.bind (f_M_workMany M) fun v4 => (if v4 = (6 : Int32) then some ((-1000003 : Int32), M) else (Option.bind (f_M_note M) fun m6 => (if wib ((9 : Int32) + a1) 57 = true then (if wib ((25 : Int32) + a1) 57 = true then (if wib ((41 : Int32) + a1) 57 = true then (Option.bind (f_M_workMany (wc_up (wc_up (wc_up m6 25 0 (((9 : Int32) + a1)).toNatClampNeg a2) 25 0 (((25 : Int32) + a1)).toNatClampNeg a3) 25 0 (((41 : Int32) + a1)).toNatClampNeg (0 : Int32))) fun v11 => some (v11, (wc_up (wc_up (wc_up m6 25 0 (((9 : Int32) + a1)).toNatClampNeg a2) 25 0 (((25 : Int32) + a1)).toNatClampNeg a3) 25 0 (((41 : Int32) + a1)).toNatClampNeg (0 : Int32)))) else none) else none) else none)))) else some ((-1000002 : Int32), M)))))))
def f_C_take (a1 : Int32) (M : wc_M) : Option (Int32 × wc_M) :=
  (if (M 6 0 5) = (0 : Int32) then some ((-1000002 : Int32), M) else (if (f_C_isCell a1) = (0 : Int32) then some ((-1000001 : Int32), M) else (Option.bind (f_P_hasWork 0 a1 M) fun v2 => (if v2 = (0 : Int32) then some ((-1000002 : Int32), M) else (Option.bind (f_H_keep 0 M) fun m4 => (Option.bind (f_P_clear 0 a1 m4) fun m6 => (Option.bind (f_P_works 0 m6) fun v8 => some (v8, m6))))))))
def f_M_clear (a1 : Int32) (M : wc_M) : Option wc_M :=
  (if wib ((9 : Int32) + a1) 57 = true then (if wib ((25 : Int32) + a1) 57 = true then (if wib ((41 : Int32) + a1) 57 = true then some (wc_up (wc_up (wc_up M 25 0 (((9 : Int32) + a1)).toNatClampNeg (0 : Int32)) 25 0 (((25 : Int32) + a1)).toNatClampNeg (0 : Int32)) 25 0 (((41 : Int32) + a1)).toNatClampNeg (0 : Int32)) else none) else none) else none)
def f_M_take (a1 : Int32) (M : wc_M) : Option (Int32 × wc_M) :=
  (if (M 21 0 4) = (0 : Int32) then some ((-1000002 : Int32), M) else (if (f_M_isCell a1) = (0 : Int32) then some ((-1000001 : Int32), M) else (Option.bind (f_M_isWork a1 M) fun v2 => (if v2 = (0 : Int32) then some ((-1000002 : Int32), M) else (Option.bind (f_M_note M) fun m4 => (Option.bind (f_M_clear a1 m4) fun m6 => (Option.bind (f_M_workMany m6) fun v8 => some (v8, m6))))))))
def f_C_turn (a1 : Int32) (M : wc_M) : Option (Int32 × wc_M) :=
  (if (M 6 0 5) = (0 : Int32) then some ((-1000002 : Int32), M) else (if (f_C_isCell a1) = (0 : Int32) then some ((-1000001 : Int32), M) else (if wib a1 16 = true then (if (M 9 0 (a1).toNatClampNeg) = (3 : Int32) then (Option.bind (f_H_keep 0 M) fun m3 => some (((wc_up m3 11 0 (a1).toNatClampNeg ((1 : Int32) - (m3 11 0 (a1).toNatClampNeg))) 11 0 (a1).toNatClampNeg), (wc_up m3 11 0 (a1).toNatClampNeg ((1 : Int32) - (m3 11 0 (a1).toNatClampNeg))))) else some ((-1000002 : Int32), M)) else none)))
def f_M_turn (a1 : Int32) (M : wc_M) : Option (Int32 × wc_M) :=
  (if (M 21 0 4) = (0 : Int32) then some ((-1000002 : Int32), M) else (if (f_M_isCell a1) = (0 : Int32) then some ((-1000001 : Int32), M) else (if wib ((9 : Int32) + a1) 57 = true then (if (M 25 0 (((9 : Int32) + a1)).toNatClampNeg) = (3 : Int32) then (Option.bind (f_M_note M) fun m3 => (if wib ((41 : Int32) + a1) 57 = true then some (((wc_up m3 25 0 (((41 : Int32) + a1)).toNatClampNeg ((1 : Int32) - (m3 25 0 (((41 : Int32) + a1)).toNatClampNeg))) 25 0 (((41 : Int32) + a1)).toNatClampNeg), (wc_up m3 25 0 (((41 : Int32) + a1)).toNatClampNeg ((1 : Int32) - (m3 25 0 (((41 : Int32) + a1)).toNatClampNeg)))) else none)) else some ((-1000002 : Int32), M)) else none)))
def f_C_isLine (a0 : Int32) : Int32 :=
  (f_C_isUpTo a0 (3 : Int32))
theorem b_C_isLine (a0 : Int32) : f_C_isLine a0 = 0 ∨ f_C_isLine a0 = 1 := by
  exact b_C_isUpTo ..
def f_C_gust (a1 : Int32) (a2 : Int32) (M : wc_M) : Option (Int32 × wc_M) :=
  (if (M 6 0 5) = (0 : Int32) then some ((-1000002 : Int32), M) else (if (f_C_isLine a1) = (0 : Int32) then some ((-1000001 : Int32), M) else (if (f_C_isUpTo a2 (31 : Int32)) = (0 : Int32) then some ((-1000001 : Int32), M) else (if wib a1 4 = true then (Option.bind (f_H_keep 0 M) fun m3 => some ((M 7 0 (a1).toNatClampNeg), (wc_up m3 7 0 (a1).toNatClampNeg a2))) else none))))
def f_M_isRowOfPass (a0 : Int32) : Int32 :=
  (f_M_in (a0).toInt64 (0 : Int64) (3 : Int64))
theorem b_M_isRowOfPass (a0 : Int32) : f_M_isRowOfPass a0 = 0 ∨ f_M_isRowOfPass a0 = 1 := by
  exact b_M_in ..
def f_M_gust (a1 : Int32) (a2 : Int32) (M : wc_M) : Option (Int32 × wc_M) :=
  (if (M 21 0 4) = (0 : Int32) then some ((-1000002 : Int32), M) else (if (f_M_isRowOfPass a1) = (0 : Int32) then some ((-1000001 : Int32), M) else (if (f_M_in (a2).toInt64 (0 : Int64) (31 : Int64)) = (0 : Int32) then some ((-1000001 : Int32), M) else (Option.bind (f_M_note M) fun m2 => (if wib ((1 : Int32) + a1) 57 = true then some ((m2 25 0 (((1 : Int32) + a1)).toNatClampNeg), (wc_up m2 25 0 (((1 : Int32) + a1)).toNatClampNeg a2)) else none)))))
def f_A_on (p1 : Nat) (a2 : Int32) (M : wc_M) : Option Int32 :=
  (if wib a2 16 = true then (if (M 9 p1 (a2).toNatClampNeg) = (0 : Int32) then some (M 13 0 (a2).toNatClampNeg) else (if (M 9 p1 (a2).toNatClampNeg) = (1 : Int32) then some (0 : Int32) else (if (M 9 p1 (a2).toNatClampNeg) = (2 : Int32) then some ((M 13 0 (a2).toNatClampNeg) / (2 : Int32)) else (if (M 9 p1 (a2).toNatClampNeg) = (3 : Int32) then (if (M 11 p1 (a2).toNatClampNeg) = (1 : Int32) then some (M 13 0 (a2).toNatClampNeg) else some (0 : Int32)) else some (0 : Int32))))) else none)
def f_A_north (a0 : Int32) (a1 : Int32) (a2 : Int32) : Int32 :=
  (if a0 = (4 : Int32) then a1 else (if a0 = (5 : Int32) then (if (wc_rem a2 (2 : Int32)) = (0 : Int32) then a1 else (0 : Int32)) else (a1 / (2 : Int32))))
def f_A_bring (a1 : Int32) (a2 : Int32) (a3 : Int32) (M : wc_M) : Option wc_M :=
  (if a2 < (0 : Int32) then some (wc_up M 12 0 2 ((M 12 0 2) + a3)) else (if a2 < (4 : Int32) then (if a1 < (4 : Int32) then (if wib (((4 : Int32) * a1) + a2) 16 = true then some (wc_up M 13 0 ((((4 : Int32) * a1) + a2)).toNatClampNeg ((M 13 0 ((((4 : Int32) * a1) + a2)).toNatClampNeg) + a3)) else none) else (if wib a2 4 = true then some (wc_up M 14 0 (a2).toNatClampNeg ((M 14 0 (a2).toNatClampNeg) + a3)) else none)) else some (wc_up M 12 0 2 ((M 12 0 2) + a3))))
def f_A_part (a1 : Int32) (a2 : Int32) (p3 : Nat) (M : wc_M) : Option wc_M :=
  (if wib a1 16 = true then (Option.bind (f_A_bring ((a1 / (4 : Int32)) + (1 : Int32)) (wc_rem a1 (4 : Int32)) a2 M) fun m3 => (Option.bind (f_A_bring ((a1 / (4 : Int32)) + (1 : Int32)) ((wc_rem a1 (4 : Int32)) - (1 : Int32)) (f_A_north (M 9 p3 (a1).toNatClampNeg) ((M 13 0 (a1).toNatClampNeg) - a2) (M 6 p3 6)) m3) fun m5 => (Option.bind (f_A_bring ((a1 / (4 : Int32)) + (1 : Int32)) ((wc_rem a1 (4 : Int32)) + (1 : Int32)) (((M 13 0 (a1).toNatClampNeg) - a2) - (f_A_north (M 9 p3 (a1).toNatClampNeg) ((M 13 0 (a1).toNatClampNeg) - a2) (M 6 p3 6))) m5) fun m7 => some m7))) else none)
def l_A_blow_2 (p1 : Nat) : Nat → Int32 → wc_M → Option (wc_M)
  | 0, _, _ => none
  | n + 1, x2, M => (if (16 : Int32) ≤ x2 then some M else (Option.bind (if (4 : Int32) ≤ x2 then some (0 : Int32) else (if wib x2 4 = true then some (M 7 p1 (x2).toNatClampNeg) else none)) fun t1 => (if wib x2 16 = true then l_A_blow_2 p1 n (x2 + (1 : Int32)) (wc_up M 13 0 (x2).toNatClampNeg t1) else none)))
def l_A_blow_22 (p1 : Nat) : Nat → Int32 → wc_M → Option (wc_M)
  | 0, _, _ => none
  | n + 1, x2, M => (if (4 : Int32) ≤ x2 then some M else (if wib x2 4 = true then l_A_blow_22 p1 n (x2 + (1 : Int32)) (wc_up M 14 0 (x2).toNatClampNeg (0 : Int32)) else none))
def l_A_blow_37 (p1 : Nat) : Nat → Int32 → wc_M → Option (wc_M)
  | 0, _, _ => none
  | n + 1, x2, M => (if (16 : Int32) ≤ x2 then some M else (Option.bind (f_A_on p1 x2 M) fun v11 => (Option.bind (f_A_part x2 v11 p1 M) fun m13 => l_A_blow_37 p1 n (x2 + (1 : Int32)) m13)))
def f_A_blow (p1 : Nat) (M : wc_M) : Option wc_M :=
  (Option.bind (l_A_blow_2 p1 2000 (0 : Int32) M) fun t5 => (Option.bind (l_A_blow_22 p1 2000 (0 : Int32) t5) fun t8 => (Option.bind (l_A_blow_37 p1 2000 (0 : Int32) (wc_up t8 12 0 2 (0 : Int32))) fun t14 => some t14)))
def f_P_isTooMuch (p0 : Nat) (a1 : Int32) (a2 : Int32) (M : wc_M) : Option Int32 :=
  (Option.bind (f_P_hasWork p0 a1 M) fun v2 => (if v2 = (0 : Int32) then some (0 : Int32) else (if wib a1 16 = true then (if a2 ≤ (M 10 p0 (a1).toNatClampNeg) then some (0 : Int32) else some (1 : Int32)) else none)))
def l_P_breakAndRise_2 (p0 : Nat) : Nat → Int32 → wc_M → Option (wc_M)
  | 0, _, _ => none
  | n + 1, x2, M => (if (16 : Int32) ≤ x2 then some M else (if wib x2 16 = true then (Option.bind (f_P_isTooMuch p0 x2 (M 13 0 (x2).toNatClampNeg) M) fun v3 => (if v3 = (0 : Int32) then l_P_breakAndRise_2 p0 n (x2 + (1 : Int32)) M else (Option.bind (f_P_clear p0 x2 M) fun m5 => l_P_breakAndRise_2 p0 n (x2 + (1 : Int32)) m5))) else none))
def l_P_breakAndRise_25 (p0 : Nat) : Nat → Int32 → wc_M → Option (wc_M)
  | 0, _, _ => none
  | n + 1, x2, M => (if (4 : Int32) ≤ x2 then some M else (if wib x2 4 = true then l_P_breakAndRise_25 p0 n (x2 + (1 : Int32)) (wc_up M 7 p0 (x2).toNatClampNeg (wc_rem ((M 7 p0 (x2).toNatClampNeg) + (M 8 p0 (x2).toNatClampNeg)) (32 : Int32))) else none))
def f_P_breakAndRise (p0 : Nat) (M : wc_M) : Option wc_M :=
  (Option.bind (l_P_breakAndRise_2 p0 2000 (0 : Int32) M) fun t6 => (Option.bind (l_P_breakAndRise_25 p0 2000 (0 : Int32) (wc_up t6 6 p0 6 ((t6 6 p0 6) + (1 : Int32)))) fun t9 => some t9))
def f_C_spendHour (p1 : Nat) (M : wc_M) : Option wc_M :=
  (Option.bind (f_A_blow p1 M) fun m2 => (Option.bind (f_P_breakAndRise p1 m2) fun m4 => some m4))
def l_C_hours_25 (x1 : Int32) : Nat → Int32 → wc_M → Option (wc_M)
  | 0, _, _ => none
  | n + 1, x2, M => (if x1 ≤ x2 then some M else (Option.bind (f_H_keep 0 M) fun m2 => (Option.bind (f_C_spendHour 0 m2) fun m4 => l_C_hours_25 x1 n (x2 + (1 : Int32)) m4)))
def f_C_hours (a1 : Int32) (M : wc_M) : Option (Int32 × wc_M) :=
  (if (M 6 0 5) = (0 : Int32) then some ((-1000002 : Int32), M) else (if a1 < (1 : Int32) then some ((-1000001 : Int32), M) else (if a1 ≤ (20 : Int32) then (if ((M 6 0 6) + a1) ≤ (999 : Int32) then (Option.bind (l_C_hours_25 a1 2000 (0 : Int32) M) fun t5 => (Option.bind (f_P_works 0 t5) fun v8 => some (v8, t5))) else some ((-1000003 : Int32), M)) else some ((-1000001 : Int32), M))))
def f_M_goes (a1 : Int32) (a2 : Int32) (a3 : Int32) (M : wc_M) : Option wc_M :=
  (if (f_M_isRowOfPass a2) = (0 : Int32) then some (wc_up M 21 0 19 ((M 21 0 19) + a3)) else (if wib ((((4 : Int32) * a1) + (4 : Int32)) + a2) 20 = true then some (wc_up M 29 0 (((((4 : Int32) * a1) + (4 : Int32)) + a2)).toNatClampNeg ((M 29 0 (((((4 : Int32) * a1) + (4 : Int32)) + a2)).toNatClampNeg) + a3)) else none))
def l_M_blow_5 : Nat → Int32 → wc_M → Option (wc_M)
  | 0, _, _ => none
  | n + 1, x1, M => (if (20 : Int32) ≤ x1 then some M else (Option.bind (if (4 : Int32) ≤ x1 then some (0 : Int32) else (if wib ((1 : Int32) + x1) 57 = true then some (M 25 0 (((1 : Int32) + x1)).toNatClampNeg) else none)) fun t1 => (if wib x1 20 = true then l_M_blow_5 n (x1 + (1 : Int32)) (wc_up M 29 0 (x1).toNatClampNeg t1) else none)))
def l_M_blow_27 : Nat → Int32 → wc_M → Option (wc_M)
  | 0, _, _ => none
  | n + 1, x1, M => (if (16 : Int32) ≤ x1 then some M else (if wib x1 20 = true then (if wib ((9 : Int32) + x1) 57 = true then (Option.bind (if (M 25 0 (((9 : Int32) + x1)).toNatClampNeg) = (4 : Int32) then some (1 : Int32) else (if (M 25 0 (((9 : Int32) + x1)).toNatClampNeg) = (5 : Int32) then (if (wc_rem (M 25 0 ((0 : Int32)).toNatClampNeg) (2 : Int32)) = (0 : Int32) then some (1 : Int32) else some (0 : Int32)) else some (0 : Int32))) fun t9 => (Option.bind (if (M 25 0 (((9 : Int32) + x1)).toNatClampNeg) = (0 : Int32) then some (M 29 0 (x1).toNatClampNeg) else (if (M 25 0 (((9 : Int32) + x1)).toNatClampNeg) = (3 : Int32) then (if wib ((41 : Int32) + x1) 57 = true then (if (M 25 0 (((41 : Int32) + x1)).toNatClampNeg) = (1 : Int32) then some (M 29 0 (x1).toNatClampNeg) else (if (M 25 0 (((9 : Int32) + x1)).toNatClampNeg) = (2 : Int32) then some ((M 29 0 (x1).toNatClampNeg) / (2 : Int32)) else some (0 : Int32))) else none) else (if (M 25 0 (((9 : Int32) + x1)).toNatClampNeg) = (2 : Int32) then some ((M 29 0 (x1).toNatClampNeg) / (2 : Int32)) else some (0 : Int32)))) fun t10 => (Option.bind (if (M 25 0 (((9 : Int32) + x1)).toNatClampNeg) < (4 : Int32) then some (((M 29 0 (x1).toNatClampNeg) - t10) / (2 : Int32)) else (if t9 = (0 : Int32) then some (0 : Int32) else some (M 29 0 (x1).toNatClampNeg))) fun t12 => (Option.bind (f_M_goes (x1 / (4 : Int32)) (wc_rem x1 (4 : Int32)) t10 M) fun m14 => (Option.bind (f_M_goes (x1 / (4 : Int32)) ((wc_rem x1 (4 : Int32)) - (1 : Int32)) t12 m14) fun m16 => (Option.bind (f_M_goes (x1 / (4 : Int32)) ((wc_rem x1 (4 : Int32)) + (1 : Int32)) (((M 29 0 (x1).toNatClampNeg) - t10) - t12) m16) fun m18 => l_M_blow_27 n (x1 + (1 : Int32)) m18)))))) else none) else none))
def f_M_blow (M : wc_M) : Option wc_M :=
  (Option.bind (l_M_blow_5 2000 (0 : Int32) (wc_up M 21 0 19 (0 : Int32))) fun t5 => (Option.bind (l_M_blow_27 2000 (0 : Int32) t5) fun t22 => some t22))
def l_M_oneHour_7 : Nat → Int32 → wc_M → Option (wc_M)
  | 0, _, _ => none
  | n + 1, x1, M => (if (16 : Int32) ≤ x1 then some M else (Option.bind (f_M_isWork x1 M) fun v4 => (if v4 = (0 : Int32) then l_M_oneHour_7 n (x1 + (1 : Int32)) M else (if wib x1 20 = true then (if wib ((25 : Int32) + x1) 57 = true then (if (M 29 0 (x1).toNatClampNeg) ≤ (M 25 0 (((25 : Int32) + x1)).toNatClampNeg) then l_M_oneHour_7 n (x1 + (1 : Int32)) M else (Option.bind (f_M_clear x1 (wc_up M 21 0 20 ((M 21 0 20) ||| ((1 : Int32) <<< (x1 &&& (31 : Int32)))))) fun m8 => l_M_oneHour_7 n (x1 + (1 : Int32)) m8)) else none) else none))))
def l_M_oneHour_48 : Nat → Int32 → wc_M → Option (wc_M)
  | 0, _, _ => none
  | n + 1, x1, M => (if (4 : Int32) ≤ x1 then some M else (if wib ((1 : Int32) + x1) 57 = true then (if wib ((5 : Int32) + x1) 57 = true then l_M_oneHour_48 n (x1 + (1 : Int32)) (wc_up M 25 0 (((1 : Int32) + x1)).toNatClampNeg (wc_rem ((M 25 0 (((1 : Int32) + x1)).toNatClampNeg) + (M 25 0 (((5 : Int32) + x1)).toNatClampNeg)) (32 : Int32))) else none) else none))
def f_M_oneHour (M : wc_M) : Option wc_M :=
  (Option.bind (f_M_blow M) fun m2 => (Option.bind (l_M_oneHour_7 2000 (0 : Int32) (wc_up m2 21 0 20 (0 : Int32))) fun t9 => (Option.bind (l_M_oneHour_48 2000 (0 : Int32) (wc_up t9 25 0 ((0 : Int32)).toNatClampNeg ((t9 25 0 ((0 : Int32)).toNatClampNeg) + (1 : Int32)))) fun t13 => some t13)))
def l_M_hours_25 (x1 : Int32) : Nat → Int32 → wc_M → Option (wc_M)
  | 0, _, _ => none
  | n + 1, x2, M => (if x1 ≤ x2 then some M else (Option.bind (f_M_note M) fun m2 => (Option.bind (f_M_oneHour m2) fun m4 => l_M_hours_25 x1 n (x2 + (1 : Int32)) m4)))
def f_M_hours (a1 : Int32) (M : wc_M) : Option (Int32 × wc_M) :=
  (if (M 21 0 4) = (0 : Int32) then some ((-1000002 : Int32), M) else (if (f_M_in (a1).toInt64 (1 : Int64) (20 : Int64)) = (0 : Int32) then some ((-1000001 : Int32), M) else (if ((M 25 0 ((0 : Int32)).toNatClampNeg) + a1) ≤ (999 : Int32) then (Option.bind (l_M_hours_25 a1 2000 (0 : Int32) M) fun t5 => (Option.bind (f_M_workMany t5) fun v8 => some (v8, t5))) else some ((-1000003 : Int32), M))))
def f_H_takeBack (p1 : Nat) (M : wc_M) : Option wc_M :=
  (if wib ((wc_up (wc_up M 16 0 1 (wc_rem (((M 16 0 1) + (24 : Int32)) - (1 : Int32)) (24 : Int32))) 16 0 2 (((wc_up M 16 0 1 (wc_rem (((M 16 0 1) + (24 : Int32)) - (1 : Int32)) (24 : Int32))) 16 0 2) - (1 : Int32))) 16 0 1) 24 = true then (Option.bind (f_P_become p1 (2 + (((wc_up (wc_up M 16 0 1 (wc_rem (((M 16 0 1) + (24 : Int32)) - (1 : Int32)) (24 : Int32))) 16 0 2 (((wc_up M 16 0 1 (wc_rem (((M 16 0 1) + (24 : Int32)) - (1 : Int32)) (24 : Int32))) 16 0 2) - (1 : Int32))) 16 0 1)).toNatClampNeg) (wc_up (wc_up M 16 0 1 (wc_rem (((M 16 0 1) + (24 : Int32)) - (1 : Int32)) (24 : Int32))) 16 0 2 (((wc_up M 16 0 1 (wc_rem (((M 16 0 1) + (24 : Int32)) - (1 : Int32)) (24 : Int32))) 16 0 2) - (1 : Int32)))) fun m3 => some m3) else none)
def f_C_undo (M : wc_M) : Option (Int32 × wc_M) :=
  (if (M 16 0 2) = (0 : Int32) then some ((-1000002 : Int32), M) else (Option.bind (f_H_takeBack 0 M) fun m2 => some ((m2 16 0 2), m2)))
def l_M_undo_13 : Nat → Int32 → wc_M → Option (wc_M)
  | 0, _, _ => none
  | n + 1, x1, M => (if (57 : Int32) ≤ x1 then some M else (if wib (((57 : Int32) * (M 21 0 22)) + x1) 1368 = true then (if wib x1 57 = true then l_M_undo_13 n (x1 + (1 : Int32)) (wc_up M 25 0 (x1).toNatClampNeg (M 30 0 ((((57 : Int32) * (M 21 0 22)) + x1)).toNatClampNeg)) else none) else none))
def f_M_undo (M : wc_M) : Option (Int32 × wc_M) :=
  (if (M 21 0 22) = (0 : Int32) then some ((-1000002 : Int32), M) else (Option.bind (l_M_undo_13 2000 (0 : Int32) (wc_up M 21 0 22 ((M 21 0 22) - (1 : Int32)))) fun t3 => some ((t3 21 0 22), t3)))
def f_C_feltNow (a1 : Int32) (M : wc_M) : Option (Int32 × wc_M) :=
  (Option.bind (f_A_blow 0 M) fun m2 => (if wib a1 16 = true then some ((m2 13 0 (a1).toNatClampNeg), m2) else none))
def f_C_cell (a1 : Int32) (a2 : Int32) (M : wc_M) : Option (Int32 × wc_M) :=
  (if (M 6 0 5) = (0 : Int32) then some ((-1000002 : Int32), M) else (if (f_C_isCell a1) = (0 : Int32) then some ((-1000001 : Int32), M) else (if (f_C_isUpTo a2 (3 : Int32)) = (0 : Int32) then some ((-1000001 : Int32), M) else (if a2 = (0 : Int32) then (Option.bind (f_C_feltNow a1 M) fun q2 => some (q2.1, q2.2)) else (Option.bind (f_P_hasWork 0 a1 M) fun v4 => (if v4 = (0 : Int32) then some ((-1000000 : Int32), M) else (if a2 = (1 : Int32) then (if wib a1 16 = true then some ((M 9 0 (a1).toNatClampNeg), M) else none) else (if a2 = (2 : Int32) then (if wib a1 16 = true then some ((M 10 0 (a1).toNatClampNeg), M) else none) else (if wib a1 16 = true then some ((M 11 0 (a1).toNatClampNeg), M) else none)))))))))
def f_M_feltNow (a1 : Int32) (M : wc_M) : Option (Int32 × wc_M) :=
  (Option.bind (f_M_blow M) fun m2 => (if wib a1 20 = true then some ((m2 29 0 (a1).toNatClampNeg), m2) else none))
def f_M_cell (a1 : Int32) (a2 : Int32) (M : wc_M) : Option (Int32 × wc_M) :=
  (if (M 21 0 4) = (0 : Int32) then some ((-1000002 : Int32), M) else (if (f_M_isCell a1) = (0 : Int32) then some ((-1000001 : Int32), M) else (if (f_M_in (a2).toInt64 (0 : Int64) (3 : Int64)) = (0 : Int32) then some ((-1000001 : Int32), M) else (if a2 = (0 : Int32) then (Option.bind (f_M_feltNow a1 M) fun q2 => some (q2.1, q2.2)) else (Option.bind (f_M_isWork a1 M) fun v4 => (if v4 = (0 : Int32) then some ((-1000000 : Int32), M) else (Option.bind (if a2 = (1 : Int32) then some (9 : Int32) else (if a2 = (2 : Int32) then some (25 : Int32) else some (41 : Int32))) fun t5 => (if wib (t5 + a1) 57 = true then some ((M 25 0 ((t5 + a1)).toNatClampNeg), M) else none))))))))
def f_C_wind (a1 : Int32) (a2 : Int32) (M : wc_M) : Option Int32 :=
  (if (M 6 0 5) = (0 : Int32) then some (-1000002 : Int32) else (if (f_C_isLine a1) = (0 : Int32) then some (-1000001 : Int32) else (if (f_C_isUpTo a2 (1 : Int32)) = (0 : Int32) then some (-1000001 : Int32) else (if a2 = (0 : Int32) then (if wib a1 4 = true then some (M 7 0 (a1).toNatClampNeg) else none) else (if wib a1 4 = true then some (M 8 0 (a1).toNatClampNeg) else none)))))
def f_M_wind (a1 : Int32) (a2 : Int32) (M : wc_M) : Option Int32 :=
  (if (M 21 0 4) = (0 : Int32) then some (-1000002 : Int32) else (if (f_M_isRowOfPass a1) = (0 : Int32) then some (-1000001 : Int32) else (if (f_M_in (a2).toInt64 (0 : Int64) (1 : Int64)) = (0 : Int32) then some (-1000001 : Int32) else (if a2 = (0 : Int32) then (if wib ((1 : Int32) + a1) 57 = true then some (M 25 0 (((1 : Int32) + a1)).toNatClampNeg) else none) else (if wib ((5 : Int32) + a1) 57 = true then some (M 25 0 (((5 : Int32) + a1)).toNatClampNeg) else none)))))
def l_C_foretell_7 (x1 : Int32) : Nat → Int32 → wc_M → Option (wc_M)
  | 0, _, _ => none
  | n + 1, x2, M => (if x1 ≤ x2 then some M else (Option.bind (f_C_spendHour 1 M) fun m4 => l_C_foretell_7 x1 n (x2 + (1 : Int32)) m4))
def f_C_foretell (a1 : Int32) (M : wc_M) : Option wc_M :=
  (Option.bind (f_P_become 1 0 M) fun m2 => (Option.bind (l_C_foretell_7 a1 2000 (0 : Int32) m2) fun t5 => (Option.bind (f_A_blow 1 t5) fun m8 => some m8)))
def f_C_felt (a1 : Int32) (a2 : Int32) (M : wc_M) : Option (Int32 × wc_M) :=
  (if (M 6 0 5) = (0 : Int32) then some ((-1000002 : Int32), M) else (if (f_C_isCell a1) = (0 : Int32) then some ((-1000001 : Int32), M) else (if (f_C_isUpTo a2 (40 : Int32)) = (0 : Int32) then some ((-1000001 : Int32), M) else (Option.bind (f_C_foretell a2 M) fun m2 => (if wib a1 16 = true then some ((m2 13 0 (a1).toNatClampNeg), m2) else none)))))
def l_M_putAside_2 : Nat → Int32 → wc_M → Option (wc_M)
  | 0, _, _ => none
  | n + 1, x1, M => (if (57 : Int32) ≤ x1 then some M else (if wib x1 57 = true then l_M_putAside_2 n (x1 + (1 : Int32)) (wc_up M 31 0 (x1).toNatClampNeg (M 25 0 (x1).toNatClampNeg)) else none))
def f_M_putAside (M : wc_M) : Option wc_M :=
  (Option.bind (l_M_putAside_2 2000 (0 : Int32) M) fun t2 => some t2)
def l_M_takeBack_2 : Nat → Int32 → wc_M → Option (wc_M)
  | 0, _, _ => none
  | n + 1, x1, M => (if (57 : Int32) ≤ x1 then some M else (if wib x1 57 = true then l_M_takeBack_2 n (x1 + (1 : Int32)) (wc_up M 25 0 (x1).toNatClampNeg (M 31 0 (x1).toNatClampNeg)) else none))
def f_M_takeBack (M : wc_M) : Option wc_M :=
  (Option.bind (l_M_takeBack_2 2000 (0 : Int32) M) fun t2 => some t2)
def l_M_blowIn_4 (x1 : Int32) : Nat → Int32 → wc_M → Option (wc_M)
  | 0, _, _ => none
  | n + 1, x2, M => (if x1 ≤ x2 then some M else (Option.bind (f_M_oneHour M) fun m4 => l_M_blowIn_4 x1 n (x2 + (1 : Int32)) m4))
def f_M_blowIn (a1 : Int32) (M : wc_M) : Option wc_M :=
  (Option.bind (f_M_putAside M) fun m2 => (Option.bind (l_M_blowIn_4 a1 2000 (0 : Int32) m2) fun t5 => (Option.bind (f_M_blow t5) fun m8 => (Option.bind (f_M_takeBack m8) fun m10 => some m10))))
def f_M_felt (a1 : Int32) (a2 : Int32) (M : wc_M) : Option (Int32 × wc_M) :=
  (if (M 21 0 4) = (0 : Int32) then some ((-1000002 : Int32), M) else (if (f_M_isCell a1) = (0 : Int32) then some ((-1000001 : Int32), M) else (if (f_M_in (a2).toInt64 (0 : Int64) (40 : Int64)) = (0 : Int32) then some ((-1000001 : Int32), M) else (Option.bind (f_M_blowIn a2 M) fun m2 => (if wib a1 20 = true then some ((m2 29 0 (a1).toNatClampNeg), m2) else none)))))
def f_C_lost (a1 : Int32) (M : wc_M) : Option (Int32 × wc_M) :=
  (if (M 6 0 5) = (0 : Int32) then some ((-1000002 : Int32), M) else (if (f_C_isUpTo a1 (40 : Int32)) = (0 : Int32) then some ((-1000001 : Int32), M) else (Option.bind (f_C_foretell a1 M) fun m2 => some ((m2 12 0 2), m2))))
def f_M_lost (a1 : Int32) (M : wc_M) : Option (Int32 × wc_M) :=
  (if (M 21 0 4) = (0 : Int32) then some ((-1000002 : Int32), M) else (if (f_M_in (a1).toInt64 (0 : Int64) (40 : Int64)) = (0 : Int32) then some ((-1000001 : Int32), M) else (Option.bind (f_M_blowIn a1 M) fun m2 => some ((m2 21 0 19), m2))))
def f_C_leaves (a1 : Int32) (a2 : Int32) (M : wc_M) : Option (Int32 × wc_M) :=
  (if (M 6 0 5) = (0 : Int32) then some ((-1000002 : Int32), M) else (if (f_C_isLine a1) = (0 : Int32) then some ((-1000001 : Int32), M) else (if (f_C_isUpTo a2 (40 : Int32)) = (0 : Int32) then some ((-1000001 : Int32), M) else (Option.bind (f_C_foretell a2 M) fun m2 => (if wib a1 4 = true then some ((m2 14 0 (a1).toNatClampNeg), m2) else none)))))
def f_M_leaves (a1 : Int32) (a2 : Int32) (M : wc_M) : Option (Int32 × wc_M) :=
  (if (M 21 0 4) = (0 : Int32) then some ((-1000002 : Int32), M) else (if (f_M_isRowOfPass a1) = (0 : Int32) then some ((-1000001 : Int32), M) else (if (f_M_in (a2).toInt64 (0 : Int64) (40 : Int64)) = (0 : Int32) then some ((-1000001 : Int32), M) else (Option.bind (f_M_blowIn a2 M) fun m2 => (if wib ((16 : Int32) + a1) 20 = true then some ((m2 29 0 (((16 : Int32) + a1)).toNatClampNeg), m2) else none)))))
def l_P_firstToBreak_2 (p0 : Nat) (M : wc_M) : Nat → Int32 → Option ((Int32) ⊕ (Unit))
  | 0, _ => none
  | n + 1, x2 => (if (16 : Int32) ≤ x2 then some (.inr ()) else (if wib x2 16 = true then (Option.bind (f_P_isTooMuch p0 x2 (M 13 0 (x2).toNatClampNeg) M) fun v3 => (if v3 = (0 : Int32) then l_P_firstToBreak_2 p0 M n (x2 + (1 : Int32)) else some (.inl x2))) else none))
def f_P_firstToBreak (p0 : Nat) (M : wc_M) : Option Int32 :=
  (Option.bind (l_P_firstToBreak_2 p0 M 2000 (0 : Int32)) fun o6 => wel (fun r7 => some r7) (fun t4 => some (-1000000 : Int32)) o6)
def l_C_breaks_19 (x1 : Int32) : Nat → Int32 → wc_M → Option ((Int32 × wc_M) ⊕ (wc_M))
  | 0, _, _ => none
  | n + 1, x2, M => (if (40 : Int32) < x2 then some (.inr M) else (Option.bind (f_A_blow 1 M) fun m4 => (Option.bind (f_P_firstToBreak 1 m4) fun v6 => (if v6 = (-1000000 : Int32) then (Option.bind (f_C_spendHour 1 m4) fun m8 => l_C_breaks_19 x1 n (x2 + (1 : Int32)) m8) else (if x1 = (0 : Int32) then some (.inl (x2, m4)) else some (.inl (v6, m4)))))))
def f_C_breaks (a1 : Int32) (M : wc_M) : Option (Int32 × wc_M) :=
  (if (M 6 0 5) = (0 : Int32) then some ((-1000002 : Int32), M) else (if (f_C_isUpTo a1 (1 : Int32)) = (0 : Int32) then some ((-1000001 : Int32), M) else (Option.bind (f_P_become 1 0 M) fun m2 => (Option.bind (l_C_breaks_19 a1 2000 (1 : Int32) m2) fun o11 => wel (fun r12 => some r12) (fun t9 => some ((-1000000 : Int32), t9)) o11))))
def f_M_has (a0 : Int32) (a1 : Int32) : Int32 :=
  (if ((a0 >>> (a1 &&& (31 : Int32))) &&& (1 : Int32)) = (1 : Int32) then (1 : Int32) else (0 : Int32))
theorem b_M_has (a0 : Int32) (a1 : Int32) : f_M_has a0 a1 = 0 ∨ f_M_has a0 a1 = 1 := by
  unfold f_M_has
  repeat' split
  all_goals first | exact Or.inl rfl | exact Or.inr rfl
def l_M_breaks_20 (x1 : Int32) : Nat → Int32 → wc_M → Option (Int32 × wc_M)
  | 0, _, _ => none
  | n + 1, x2, M => (if (40 : Int32) ≤ x2 then some (x2, M) else (if (M 21 0 20) = (0 : Int32) then (Option.bind (f_M_oneHour M) fun m4 => l_M_breaks_20 x1 n (x2 + (1 : Int32)) m4) else some (x2, M)))
def l_M_breaks_36 (x1 : Int32) (x2 : Int32) (M : wc_M) : Nat → Int32 → Int32 → Option (Int32)
  | 0, _, _ => none
  | n + 1, x3, x4 => (if x4 < (0 : Int32) then some x3 else (if (f_M_has (M 21 0 20) x4) = (0 : Int32) then l_M_breaks_36 x1 x2 M n x3 (x4 + (-1 : Int32)) else l_M_breaks_36 x1 x2 M n x4 (x4 + (-1 : Int32))))
def f_M_breaks (a1 : Int32) (M : wc_M) : Option (Int32 × wc_M) :=
  (if (M 21 0 4) = (0 : Int32) then some ((-1000002 : Int32), M) else (if (f_M_in (a1).toInt64 (0 : Int64) (1 : Int64)) = (0 : Int32) then some ((-1000001 : Int32), M) else (Option.bind (f_M_putAside M) fun m2 => (Option.bind (l_M_breaks_20 a1 2000 (0 : Int32) (wc_up m2 21 0 20 (0 : Int32))) fun t5 => (Option.bind (f_M_takeBack t5.2) fun m8 => (Option.bind (l_M_breaks_36 a1 t5.1 m8 2000 (-1000000 : Int32) (15 : Int32)) fun t9 => (if (0 : Int32) ≤ t9 then (if a1 = (0 : Int32) then some (t5.1, m8) else some (t9, m8)) else some ((-1000000 : Int32), m8))))))))
def l_C_isFeltEverywhere_2 (p1 : Nat) (x2 : Int32) (M : wc_M) : Nat → Int32 → Option ((Int32) ⊕ (Unit))
  | 0, _ => none
  | n + 1, x3 => (if (16 : Int32) ≤ x3 then some (.inr ()) else (if wib (x2 + x3) 40 = true then (if wib x3 16 = true then (if (M 3 p1 ((x2 + x3)).toNatClampNeg) = (M 13 0 (x3).toNatClampNeg) then l_C_isFeltEverywhere_2 p1 x2 M n (x3 + (1 : Int32)) else some (.inl (0 : Int32))) else none) else none))
def f_C_isFeltEverywhere (p1 : Nat) (a2 : Int32) (M : wc_M) : Option Int32 :=
  (Option.bind (l_C_isFeltEverywhere_2 p1 a2 M 2000 (0 : Int32)) fun o5 => wel (fun r6 => some r6) (fun t3 => some (1 : Int32)) o5)
def l_C_stands_31 (x1 : Int32) (x2 : Int32) : Nat → Int32 → wc_M → Option ((Int32 × wc_M) ⊕ (wc_M))
  | 0, _, _ => none
  | n + 1, x4, M => (if (40 : Int32) ≤ x4 then some (.inr M) else (Option.bind (f_A_blow 1 M) fun m6 => (if wib x1 8 = true then (Option.bind (f_C_isFeltEverywhere (x1).toNatClampNeg x2 m6) fun v9 => (if v9 = (0 : Int32) then (Option.bind (f_C_withoutFinding x4 m6) fun q11 => some (.inl (q11.1, q11.2))) else (Option.bind (f_C_spendHour 1 m6) fun m13 => l_C_stands_31 x1 x2 n (x4 + (1 : Int32)) m13))) else none)))
def f_C_stands (a1 : Int32) (a2 : Int32) (M : wc_M) : Option (Int32 × wc_M) :=
  (if (M 6 0 5) = (0 : Int32) then some ((-1000002 : Int32), M) else (if (f_C_isUpTo a1 (7 : Int32)) = (0 : Int32) then some ((-1000001 : Int32), M) else (Option.bind (f_C_findingIn a1 a2 (16 : Int32) M) fun v2 => (if v2 = (0 : Int32) then (Option.bind (f_P_become 1 0 M) fun m4 => (Option.bind (l_C_stands_31 a1 a2 2000 (0 : Int32) m4) fun o18 => wel (fun r19 => some r19) (fun t14 => (Option.bind (f_C_withoutFinding (40 : Int32) t14) fun q17 => some (q17.1, q17.2))) o18)) else (Option.bind (f_C_found v2 M) fun q21 => some (q21.1, q21.2))))))
def f_M_lacks (a1 : Int32) (a2 : Int32) (a3 : Int32) (M : wc_M) : Option (Int32 × wc_M) :=
  (if wib a1 8 = true then (if (0 : Int32) ≤ (M 23 0 (a1).toNatClampNeg) then (if (f_M_in (a2).toInt64 (0 : Int64) (((M 23 0 (a1).toNatClampNeg) - a3)).toInt64) = (0 : Int32) then (Option.bind (f_M_find (2 : Int32) M) fun q3 => some (q3.1, q3.2)) else some ((0 : Int32), M)) else (Option.bind (f_M_find (1 : Int32) M) fun q5 => some (q5.1, q5.2))) else none)
def l_M_stands_35 (x1 : Int32) (x2 : Int32) (x4 : Int32) (M : wc_M) : Nat → Int32 → Int32 → Option (Int32)
  | 0, _, _ => none
  | n + 1, x5, x6 => (if (16 : Int32) ≤ x6 then some x5 else (if x5 = (0 : Int32) then l_M_stands_35 x1 x2 x4 M n (0 : Int32) (x6 + (1 : Int32)) else (if wib ((((40 : Int32) * x1) + x2) + x6) 320 = true then (if wib x6 20 = true then (if (M 24 0 (((((40 : Int32) * x1) + x2) + x6)).toNatClampNeg) = (M 29 0 (x6).toNatClampNeg) then l_M_stands_35 x1 x2 x4 M n (1 : Int32) (x6 + (1 : Int32)) else l_M_stands_35 x1 x2 x4 M n (0 : Int32) (x6 + (1 : Int32))) else none) else none)))
def l_M_stands_26 (x1 : Int32) (x2 : Int32) : Nat → Int32 → Int32 → wc_M → Option (Int32 × wc_M)
  | 0, _, _, _ => none
  | n + 1, x4, x5, M => (if x5 = (0 : Int32) then some (x4, M) else (if (40 : Int32) ≤ x4 then some (x4, M) else (Option.bind (f_M_blow M) fun m6 => (Option.bind (l_M_stands_35 x1 x2 x4 m6 2000 x5 (0 : Int32)) fun t7 => (Option.bind (if t7 = (0 : Int32) then some (0 : Int32) else some (1 : Int32)) fun t9 => (Option.bind (f_M_oneHour m6) fun m11 => l_M_stands_26 x1 x2 n (x4 + t9) t7 m11))))))
def f_M_stands (a1 : Int32) (a2 : Int32) (M : wc_M) : Option (Int32 × wc_M) :=
  (if (M 21 0 4) = (0 : Int32) then some ((-1000002 : Int32), M) else (if (f_M_isRow a1) = (0 : Int32) then some ((-1000001 : Int32), M) else (Option.bind (f_M_lacks a1 a2 (16 : Int32) M) fun q2 => (if (0 : Int32) ≤ q2.1 then (Option.bind (f_M_putAside q2.2) fun m4 => (Option.bind (l_M_stands_26 a1 a2 2000 (0 : Int32) (1 : Int32) m4) fun t13 => (Option.bind (f_M_takeBack t13.2) fun m16 => (Option.bind (f_M_well t13.1 m16) fun q18 => some (q18.1, q18.2))))) else some (q2.1, q2.2)))))
def l_C_chooseWall_2 (x1 : Int32) (x3 : Int32) (x4 : Int32) : Nat → Int32 → wc_M → Option ((Int32 × wc_M) ⊕ (wc_M))
  | 0, _, _ => none
  | n + 1, x5, M => (if (16 : Int32) ≤ x5 then some (.inr M) else (Option.bind (f_P_hasWork 0 x5 M) fun v2 => (if v2 = (0 : Int32) then (Option.bind (f_P_put 1 x5 (1 : Int32) (0 : Int32) M) fun m4 => (Option.bind (f_A_blow 1 m4) fun m6 => (Option.bind (f_P_clear 1 x5 m6) fun m8 => (if wib x3 16 = true then (if (m8 13 0 (x3).toNatClampNeg) < x4 then l_C_chooseWall_2 x1 x3 x4 n (x5 + (1 : Int32)) m8 else (if wib x1 2 = true then some (.inl ((1 : Int32), (wc_up m8 15 0 (x1).toNatClampNeg x5))) else none)) else none)))) else l_C_chooseWall_2 x1 x3 x4 n (x5 + (1 : Int32)) M)))
def f_C_chooseWall (a1 : Int32) (a2 : Int32) (a3 : Int32) (a4 : Int32) (M : wc_M) : Option (Int32 × wc_M) :=
  (Option.bind (l_C_chooseWall_2 a1 a3 a4 2000 a2 M) fun o13 => wel (fun r14 => some r14) (fun t11 => some ((0 : Int32), t11)) o13)
def l_C_chooseWalls_30 (x1 : Int32) (x2 : Int32) : Nat → Int32 → wc_M → Option ((Int32 × wc_M) ⊕ (wc_M))
  | 0, _, _ => none
  | n + 1, x3, M => (if (16 : Int32) ≤ x3 then some (.inr M) else (Option.bind (f_P_hasWork 0 x3 M) fun v9 => (if v9 = (0 : Int32) then (Option.bind (f_P_put 1 x3 (1 : Int32) (0 : Int32) M) fun m11 => (Option.bind (f_C_chooseWall (1 : Int32) (x3 + (1 : Int32)) x1 x2 (wc_up m11 15 0 ((0 : Int32)).toNatClampNeg x3)) fun q13 => (if q13.1 = (0 : Int32) then (Option.bind (f_P_clear 1 x3 q13.2) fun m15 => l_C_chooseWalls_30 x1 x2 n (x3 + (1 : Int32)) m15) else some (.inl ((2 : Int32), q13.2))))) else l_C_chooseWalls_30 x1 x2 n (x3 + (1 : Int32)) M)))
def f_C_chooseWalls (a1 : Int32) (a2 : Int32) (M : wc_M) : Option (Int32 × wc_M) :=
  (Option.bind (f_P_become 1 0 M) fun m2 => (Option.bind (f_A_blow 1 m2) fun m4 => (if wib a1 16 = true then (if (m4 13 0 (a1).toNatClampNeg) < a2 then (Option.bind (f_C_chooseWall (0 : Int32) (0 : Int32) a1 a2 m4) fun q7 => (if q7.1 = (0 : Int32) then (Option.bind (l_C_chooseWalls_30 a1 a2 2000 (0 : Int32) q7.2) fun o18 => wel (fun r19 => some r19) (fun t16 => some ((-1000000 : Int32), t16)) o18) else some ((1 : Int32), q7.2))) else some ((0 : Int32), m4)) else none)))
def f_C_walls (a1 : Int32) (a2 : Int32) (a3 : Int32) (M : wc_M) : Option (Int32 × wc_M) :=
  (if (M 6 0 5) = (0 : Int32) then some ((-1000002 : Int32), M) else (if (f_C_isCell a1) = (0 : Int32) then some ((-1000001 : Int32), M) else (if (f_C_isUpTo a2 (99 : Int32)) = (0 : Int32) then some ((-1000001 : Int32), M) else (if a3 < (-1 : Int32) then some ((-1000001 : Int32), M) else (if a3 ≤ (1 : Int32) then (Option.bind (f_C_chooseWalls a1 a2 M) fun q2 => (if a3 < (0 : Int32) then some (q2.1, q2.2) else (if q2.1 = (-1000000 : Int32) then some (q2.1, q2.2) else (if q2.1 ≤ a3 then some ((-1000000 : Int32), q2.2) else (if wib a3 2 = true then some ((q2.2 15 0 (a3).toNatClampNeg), q2.2) else none))))) else some ((-1000001 : Int32), M))))))
def f_M_feltWith (a1 : Int32) (a2 : Int32) (a3 : Int32) (M : wc_M) : Option (Int32 × wc_M) :=
  (Option.bind (f_M_putAside M) fun m2 => (Option.bind (if a2 < (0 : Int32) then some m2 else (if wib ((9 : Int32) + a2) 57 = true then some (wc_up m2 25 0 (((9 : Int32) + a2)).toNatClampNeg (1 : Int32)) else none)) fun t3 => (Option.bind (if a3 < (0 : Int32) then some t3 else (if wib ((9 : Int32) + a3) 57 = true then some (wc_up t3 25 0 (((9 : Int32) + a3)).toNatClampNeg (1 : Int32)) else none)) fun t5 => (Option.bind (f_M_feltNow a1 t5) fun q8 => (Option.bind (f_M_takeBack q8.2) fun m10 => some (q8.1, m10))))))
def l_M_walls_35 (x1 : Int32) (x2 : Int32) (x3 : Int32) : Nat → Int32 → wc_M → Option ((Int32 × wc_M) ⊕ (wc_M))
  | 0, _, _ => none
  | n + 1, x4, M => (if (16 : Int32) ≤ x4 then some (.inr M) else (Option.bind (f_M_isWork x4 M) fun v4 => (if v4 = (0 : Int32) then (Option.bind (f_M_feltWith x1 x4 (-1 : Int32) M) fun q6 => (if q6.1 < x2 then l_M_walls_35 x1 x2 x3 n (x4 + (1 : Int32)) q6.2 else (if (0 : Int32) ≤ x3 then (if x3 = (0 : Int32) then some (.inl (x4, q6.2)) else some (.inl ((-1000000 : Int32), q6.2))) else some (.inl ((1 : Int32), q6.2))))) else l_M_walls_35 x1 x2 x3 n (x4 + (1 : Int32)) M)))
def l_M_walls_70 (x1 : Int32) (x2 : Int32) (x3 : Int32) (x4 : Int32) : Nat → Int32 → wc_M → Option ((Int32 × wc_M) ⊕ (wc_M))
  | 0, _, _ => none
  | n + 1, x5, M => (if (16 : Int32) ≤ x5 then some (.inr M) else (Option.bind (f_M_isWork x4 M) fun v10 => (if v10 = (0 : Int32) then (Option.bind (f_M_isWork x5 M) fun v12 => (if v12 = (0 : Int32) then (Option.bind (f_M_feltWith x1 x4 x5 M) fun q14 => (if q14.1 < x2 then l_M_walls_70 x1 x2 x3 x4 n (x5 + (1 : Int32)) q14.2 else (if (0 : Int32) ≤ x3 then (if x3 = (0 : Int32) then some (.inl (x4, q14.2)) else some (.inl (x5, q14.2))) else some (.inl ((2 : Int32), q14.2))))) else l_M_walls_70 x1 x2 x3 x4 n (x5 + (1 : Int32)) M)) else l_M_walls_70 x1 x2 x3 x4 n (x5 + (1 : Int32)) M)))
def l_M_walls_63 (x1 : Int32) (x2 : Int32) (x3 : Int32) : Nat → Int32 → wc_M → Option ((Int32 × wc_M) ⊕ (wc_M))
  | 0, _, _ => none
  | n + 1, x4, M => (if (16 : Int32) ≤ x4 then some (.inr M) else (Option.bind (l_M_walls_70 x1 x2 x3 x4 2000 (x4 + (1 : Int32)) M) fun o11 => wel (fun r12 => some (.inl r12)) (fun t9 => l_M_walls_63 x1 x2 x3 n (x4 + (1 : Int32)) t9) o11))
def f_M_walls (a1 : Int32) (a2 : Int32) (a3 : Int32) (M : wc_M) : Option (Int32 × wc_M) :=
  (if (M 21 0 4) = (0 : Int32) then some ((-1000002 : Int32), M) else (if (f_M_isCell a1) = (0 : Int32) then some ((-1000001 : Int32), M) else (if (f_M_in (a2).toInt64 (0 : Int64) (99 : Int64)) = (0 : Int32) then some ((-1000001 : Int32), M) else (if (f_M_in (a3).toInt64 (-1 : Int64) (1 : Int64)) = (0 : Int32) then some ((-1000001 : Int32), M) else (Option.bind (f_M_feltNow a1 M) fun q2 => (if q2.1 < a2 then (Option.bind (l_M_walls_35 a1 a2 a3 2000 (0 : Int32) q2.2) fun o17 => wel (fun r18 => some r18) (fun t7 => (Option.bind (l_M_walls_63 a1 a2 a3 2000 (0 : Int32) t7) fun o15 => wel (fun r16 => some r16) (fun t13 => some ((-1000000 : Int32), t13)) o15)) o17) else (if (0 : Int32) ≤ a3 then some ((-1000000 : Int32), q2.2) else some ((0 : Int32), q2.2))))))))
def l_C_isFeltAlong_2 (x1 : Int32) (p2 : Nat) (x3 : Int32) (M : wc_M) : Nat → Int32 → Option ((Int32) ⊕ (Unit))
  | 0, _ => none
  | n + 1, x4 => (if (4 : Int32) ≤ x4 then some (.inr ()) else (if wib (x3 + x4) 40 = true then (if wib (((4 : Int32) * x4) + x1) 16 = true then (if (M 3 p2 ((x3 + x4)).toNatClampNeg) = (M 13 0 ((((4 : Int32) * x4) + x1)).toNatClampNeg) then l_C_isFeltAlong_2 x1 p2 x3 M n (x4 + (1 : Int32)) else some (.inl (0 : Int32))) else none) else none))
def f_C_isFeltAlong (a1 : Int32) (p2 : Nat) (a3 : Int32) (M : wc_M) : Option Int32 :=
  (Option.bind (l_C_isFeltAlong_2 a1 p2 a3 M 2000 (0 : Int32)) fun o5 => wel (fun r6 => some r6) (fun t3 => some (1 : Int32)) o5)
def l_C_hidden_39 (x1 : Int32) (x2 : Int32) (x3 : Int32) (x4 : Int32) : Nat → Int32 → Int32 → wc_M → Option (Int32 × wc_M)
  | 0, _, _, _ => none
  | n + 1, x6, x7, M => (if (16 : Int32) ≤ x7 then some (x6, M) else (Option.bind (f_P_hasWork 0 x7 M) fun v6 => (if v6 = (0 : Int32) then (Option.bind (f_P_put 1 x7 x1 (0 : Int32) M) fun m8 => (Option.bind (f_A_blow 1 m8) fun m10 => (Option.bind (f_P_clear 1 x7 m10) fun m12 => (if wib x3 8 = true then (Option.bind (f_C_isFeltAlong x2 (x3).toNatClampNeg x4 m12) fun v15 => (if v15 = (0 : Int32) then l_C_hidden_39 x1 x2 x3 x4 n x6 (x7 + (1 : Int32)) m12 else l_C_hidden_39 x1 x2 x3 x4 n (x6 ||| ((1 : Int32) <<< (x7 &&& (31 : Int32)))) (x7 + (1 : Int32)) m12)) else none)))) else l_C_hidden_39 x1 x2 x3 x4 n x6 (x7 + (1 : Int32)) M)))
def f_C_hidden (a1 : Int32) (a2 : Int32) (a3 : Int32) (a4 : Int32) (M : wc_M) : Option (Int32 × wc_M) :=
  (if (M 6 0 5) = (0 : Int32) then some ((-1000002 : Int32), M) else (if (f_C_isWorkKind a1) = (0 : Int32) then some ((-1000001 : Int32), M) else (if (f_C_isLine a2) = (0 : Int32) then some ((-1000001 : Int32), M) else (if (f_C_isUpTo a3 (7 : Int32)) = (0 : Int32) then some ((-1000001 : Int32), M) else (Option.bind (f_C_findingIn a3 a4 (4 : Int32) M) fun v2 => (if v2 = (0 : Int32) then (Option.bind (f_P_become 1 0 M) fun m4 => (Option.bind (l_C_hidden_39 a1 a2 a3 a4 2000 (0 : Int32) (0 : Int32) m4) fun t16 => (Option.bind (f_C_withoutFinding t16.1 t16.2) fun q19 => some (q19.1, q19.2)))) else (Option.bind (f_C_found v2 M) fun q21 => some (q21.1, q21.2))))))))
def l_M_hidden_53 (x1 : Int32) (x2 : Int32) (x3 : Int32) (x4 : Int32) (x6 : Int32) (x7 : Int32) (M : wc_M) : Nat → Int32 → Int32 → Option (Int32)
  | 0, _, _ => none
  | n + 1, x8, x9 => (if (4 : Int32) ≤ x9 then some x8 else (if x8 = (0 : Int32) then l_M_hidden_53 x1 x2 x3 x4 x6 x7 M n (0 : Int32) (x9 + (1 : Int32)) else (if wib ((((40 : Int32) * x3) + x4) + x9) 320 = true then (if wib (((4 : Int32) * x9) + x2) 20 = true then (if (M 24 0 (((((40 : Int32) * x3) + x4) + x9)).toNatClampNeg) = (M 29 0 ((((4 : Int32) * x9) + x2)).toNatClampNeg) then l_M_hidden_53 x1 x2 x3 x4 x6 x7 M n (1 : Int32) (x9 + (1 : Int32)) else l_M_hidden_53 x1 x2 x3 x4 x6 x7 M n (0 : Int32) (x9 + (1 : Int32))) else none) else none)))
def l_M_hidden_33 (x1 : Int32) (x2 : Int32) (x3 : Int32) (x4 : Int32) : Nat → Int32 → Int32 → wc_M → Option (Int32 × wc_M)
  | 0, _, _, _ => none
  | n + 1, x6, x7, M => (if (16 : Int32) ≤ x7 then some (x6, M) else (Option.bind (f_M_isWork x7 M) fun v4 => (if v4 = (0 : Int32) then (if wib ((9 : Int32) + x7) 57 = true then (Option.bind (f_M_blow (wc_up M 25 0 (((9 : Int32) + x7)).toNatClampNeg x1)) fun m7 => (Option.bind (l_M_hidden_53 x1 x2 x3 x4 x6 x7 m7 2000 (1 : Int32) (0 : Int32)) fun t8 => (if t8 = (0 : Int32) then l_M_hidden_33 x1 x2 x3 x4 n (x6 ||| (0 : Int32)) (x7 + (1 : Int32)) (wc_up m7 25 0 (((9 : Int32) + x7)).toNatClampNeg (0 : Int32)) else l_M_hidden_33 x1 x2 x3 x4 n (x6 ||| ((1 : Int32) <<< (x7 &&& (31 : Int32)))) (x7 + (1 : Int32)) (wc_up m7 25 0 (((9 : Int32) + x7)).toNatClampNeg (0 : Int32))))) else none) else l_M_hidden_33 x1 x2 x3 x4 n x6 (x7 + (1 : Int32)) M)))
def f_M_hidden (a1 : Int32) (a2 : Int32) (a3 : Int32) (a4 : Int32) (M : wc_M) : Option (Int32 × wc_M) :=
  (if (M 21 0 4) = (0 : Int32) then some ((-1000002 : Int32), M) else (if (f_M_in (a1).toInt64 (1 : Int64) (5 : Int64)) = (0 : Int32) then some ((-1000001 : Int32), M) else (if (f_M_isRowOfPass a2) = (0 : Int32) then some ((-1000001 : Int32), M) else (if (f_M_isRow a3) = (0 : Int32) then some ((-1000001 : Int32), M) else (Option.bind (f_M_lacks a3 a4 (4 : Int32) M) fun q2 => (if (0 : Int32) ≤ q2.1 then (Option.bind (l_M_hidden_33 a1 a2 a3 a4 2000 (0 : Int32) (0 : Int32) q2.2) fun t10 => (Option.bind (f_M_well t10.1 t10.2) fun q13 => some (q13.1, q13.2))) else some (q2.1, q2.2)))))))
def l_C_most_26 (x1 : Int32) (x2 : Int32) : Nat → Int32 → Int32 → Int32 → wc_M → Option (Int32 × Int32 × wc_M)
  | 0, _, _, _, _ => none
  | n + 1, x3, x4, x5, M => (if (16 : Int32) ≤ x5 then some (x3, x4, M) else (Option.bind (f_P_hasWork 0 x5 M) fun v4 => (if v4 = (0 : Int32) then (Option.bind (f_P_put 1 x5 (1 : Int32) (0 : Int32) M) fun m6 => (Option.bind (f_A_blow 1 m6) fun m8 => (Option.bind (f_P_clear 1 x5 m8) fun m10 => (if wib x1 4 = true then (if (m10 14 0 (x1).toNatClampNeg) ≤ x4 then l_C_most_26 x1 x2 n x3 x4 (x5 + (1 : Int32)) m10 else l_C_most_26 x1 x2 n x5 (m10 14 0 (x1).toNatClampNeg) (x5 + (1 : Int32)) m10) else none)))) else l_C_most_26 x1 x2 n x3 x4 (x5 + (1 : Int32)) M)))
def f_C_most (a1 : Int32) (a2 : Int32) (M : wc_M) : Option (Int32 × wc_M) :=
  (if (M 6 0 5) = (0 : Int32) then some ((-1000002 : Int32), M) else (if (f_C_isLine a1) = (0 : Int32) then some ((-1000001 : Int32), M) else (if (f_C_isUpTo a2 (1 : Int32)) = (0 : Int32) then some ((-1000001 : Int32), M) else (Option.bind (f_P_become 1 0 M) fun m2 => (Option.bind (l_C_most_26 a1 a2 2000 (-1000000 : Int32) (-1000000 : Int32) (0 : Int32) m2) fun t12 => (if a2 = (0 : Int32) then some (t12.1, t12.2.2) else some (t12.2.1, t12.2.2)))))))
def l_M_most_22 (x1 : Int32) (x2 : Int32) : Nat → Int32 → Int32 → Int32 → wc_M → Option (Int32 × Int32 × wc_M)
  | 0, _, _, _, _ => none
  | n + 1, x3, x4, x5, M => (if (16 : Int32) ≤ x5 then some (x3, x4, M) else (Option.bind (f_M_isWork x5 M) fun v2 => (if v2 = (0 : Int32) then (if wib ((9 : Int32) + x5) 57 = true then (Option.bind (f_M_blow (wc_up M 25 0 (((9 : Int32) + x5)).toNatClampNeg (1 : Int32))) fun m5 => (if wib ((16 : Int32) + x1) 20 = true then (Option.bind (if ((wc_up m5 25 0 (((9 : Int32) + x5)).toNatClampNeg (0 : Int32)) 29 0 (((16 : Int32) + x1)).toNatClampNeg) ≤ x4 then some x3 else some x5) fun t7 => (if ((wc_up m5 25 0 (((9 : Int32) + x5)).toNatClampNeg (0 : Int32)) 29 0 (((16 : Int32) + x1)).toNatClampNeg) ≤ x4 then l_M_most_22 x1 x2 n t7 x4 (x5 + (1 : Int32)) (wc_up m5 25 0 (((9 : Int32) + x5)).toNatClampNeg (0 : Int32)) else l_M_most_22 x1 x2 n t7 ((wc_up m5 25 0 (((9 : Int32) + x5)).toNatClampNeg (0 : Int32)) 29 0 (((16 : Int32) + x1)).toNatClampNeg) (x5 + (1 : Int32)) (wc_up m5 25 0 (((9 : Int32) + x5)).toNatClampNeg (0 : Int32)))) else none)) else none) else l_M_most_22 x1 x2 n x3 x4 (x5 + (1 : Int32)) M)))
def f_M_most (a1 : Int32) (a2 : Int32) (M : wc_M) : Option (Int32 × wc_M) :=
  (if (M 21 0 4) = (0 : Int32) then some ((-1000002 : Int32), M) else (if (f_M_isRowOfPass a1) = (0 : Int32) then some ((-1000001 : Int32), M) else (if (f_M_in (a2).toInt64 (0 : Int64) (1 : Int64)) = (0 : Int32) then some ((-1000001 : Int32), M) else (Option.bind (l_M_most_22 a1 a2 2000 (-1000000 : Int32) (-1 : Int32) (0 : Int32) M) fun t9 => (if (0 : Int32) ≤ t9.1 then (if a2 = (0 : Int32) then some (t9.1, t9.2.2) else some (t9.2.1, t9.2.2)) else some ((-1000000 : Int32), t9.2.2))))))
def l_C_breakByLot_11 (x2 : Int32) : Nat → Int32 → Int32 → Int32 → wc_M → Option (Int32 × wc_M)
  | 0, _, _, _, _ => none
  | n + 1, x3, x4, x5, M => (if (16 : Int32) ≤ x5 then some (x3, M) else (Option.bind (f_P_hasWork 0 x5 M) fun v4 => (if v4 = (0 : Int32) then l_C_breakByLot_11 x2 n x3 x4 (x5 + (1 : Int32)) M else (Option.bind (if (x4 &&& (1 : Int32)) = (1 : Int32) then (Option.bind (f_P_clear 1 x5 M) fun m7 => some ((x3 * x2), m7)) else some ((x3 * ((10 : Int32) - x2)), M)) fun t5 => l_C_breakByLot_11 x2 n t5.1 (x4 >>> ((1 : Int32) &&& (31 : Int32))) (x5 + (1 : Int32)) t5.2))))
def f_C_breakByLot (a1 : Int32) (a2 : Int32) (M : wc_M) : Option (Int32 × wc_M) :=
  (Option.bind (f_P_become 1 0 M) fun m2 => (Option.bind (l_C_breakByLot_11 a2 2000 (1 : Int32) a1 (0 : Int32) m2) fun t9 => some (t9.1, t9.2)))
def l_C_commonDivisor_6 : Nat → Int32 → Int32 → Int32 → Option (Int32)
  | 0, _, _, _ => none
  | n + 1, x2, x3, x4 => (if (100 : Int32) ≤ x4 then some x2 else (if x3 ≤ (0 : Int32) then some x2 else (if ¬ x3 = (0 : Int32) then l_C_commonDivisor_6 n x3 (wc_rem x2 x3) (x4 + (1 : Int32)) else none)))
def f_C_commonDivisor (a0 : Int32) (a1 : Int32) : Option Int32 :=
  (Option.bind (l_C_commonDivisor_6 2000 a0 a1 (0 : Int32)) fun t2 => some (if (1 : Int32) < t2 then t2 else (1 : Int32)))
def l_C_lots_31 (x1 : Int32) (x2 : Int32) (x3 : Int32) (x4 : Int32) : Nat → Int32 → Int32 → Int32 → Option (Int32 × Int32)
  | 0, _, _, _ => none
  | n + 1, x5, x6, x7 => (if x7 ≤ (0 : Int32) then some (x5, x6) else l_C_lots_31 x1 x2 x3 x4 n (x5 * (2 : Int32)) (x6 * (10 : Int32)) (x7 + (-1 : Int32)))
def l_C_lots_47 (x1 : Int32) (x2 : Int32) (x3 : Int32) (x4 : Int32) (x5 : Int32) (x6 : Int32) : Nat → Int32 → Int32 → wc_M → Option (Int32 × wc_M)
  | 0, _, _, _ => none
  | n + 1, x7, x8, M => (if x5 ≤ x8 then some (x7, M) else (Option.bind (f_C_breakByLot x8 x3 M) fun q6 => (Option.bind (f_A_blow 1 q6.2) fun m8 => (if wib x1 16 = true then (if (m8 13 0 (x1).toNatClampNeg) < x2 then l_C_lots_47 x1 x2 x3 x4 x5 x6 n x7 (x8 + (1 : Int32)) m8 else l_C_lots_47 x1 x2 x3 x4 x5 x6 n (x7 + q6.1) (x8 + (1 : Int32)) m8) else none))))
def f_C_lots (a1 : Int32) (a2 : Int32) (a3 : Int32) (a4 : Int32) (M : wc_M) : Option (Int32 × wc_M) :=
  (if (M 6 0 5) = (0 : Int32) then some ((-1000002 : Int32), M) else (if (f_C_isCell a1) = (0 : Int32) then some ((-1000001 : Int32), M) else (if (f_C_isUpTo a2 (99 : Int32)) = (0 : Int32) then some ((-1000001 : Int32), M) else (if (f_C_isUpTo a3 (10 : Int32)) = (0 : Int32) then some ((-1000001 : Int32), M) else (if (f_C_isUpTo a4 (1 : Int32)) = (0 : Int32) then some ((-1000001 : Int32), M) else (Option.bind (f_P_works 0 M) fun v2 => (Option.bind (l_C_lots_31 a1 a2 a3 a4 2000 (1 : Int32) (1 : Int32) v2) fun t3 => (Option.bind (l_C_lots_47 a1 a2 a3 a4 t3.1 t3.2 2000 (0 : Int32) (0 : Int32) M) fun t10 => (Option.bind (f_C_commonDivisor t3.2 t10.1) fun v13 => (Option.bind (if a4 = (0 : Int32) then some t10.1 else some t3.2) fun t14 => (if ¬ v13 = (0 : Int32) then some ((t14 / v13), t10.2) else none)))))))))))
def l_M_lots_39 (x1 : Int32) (x2 : Int32) (x3 : Int32) (x4 : Int32) (x5 : Int32) (x6 : Int32) : Nat → Int32 → Int32 → Option (Int32)
  | 0, _, _ => none
  | n + 1, x7, x8 => (if x5 ≤ x8 then some x7 else l_M_lots_39 x1 x2 x3 x4 x5 x6 n (x7 * (10 : Int32)) (x8 + (1 : Int32)))
def l_M_lots_61 (x1 : Int32) (x2 : Int32) (x3 : Int32) (x4 : Int32) (x5 : Int32) (x6 : Int32) (x7 : Int32) (x8 : Int32) : Nat → Int32 → Int32 → Int32 → wc_M → Option (Int32 × wc_M)
  | 0, _, _, _, _ => none
  | n + 1, x9, x10, x11, M => (if (16 : Int32) ≤ x11 then some (x9, M) else (Option.bind (f_M_isWork x11 M) fun v8 => (if v8 = (0 : Int32) then l_M_lots_61 x1 x2 x3 x4 x5 x6 x7 x8 n x9 x10 (x11 + (1 : Int32)) M else (Option.bind (if (f_M_has x8 x10) = (0 : Int32) then some ((10 : Int32) - x3) else some x3) fun t9 => (if (f_M_has x8 x10) = (0 : Int32) then l_M_lots_61 x1 x2 x3 x4 x5 x6 x7 x8 n (x9 * t9) (x10 + (1 : Int32)) (x11 + (1 : Int32)) M else (Option.bind (f_M_clear x11 M) fun m11 => l_M_lots_61 x1 x2 x3 x4 x5 x6 x7 x8 n (x9 * t9) (x10 + (1 : Int32)) (x11 + (1 : Int32)) m11))))))
def l_M_lots_50 (x1 : Int32) (x2 : Int32) (x3 : Int32) (x4 : Int32) (x5 : Int32) (x7 : Int32) : Nat → Int32 → Int32 → wc_M → Option (Int32 × wc_M)
  | 0, _, _, _ => none
  | n + 1, x6, x8, M => (if ((1 : Int32) <<< (x5 &&& (31 : Int32))) ≤ x8 then some (x6, M) else (Option.bind (l_M_lots_61 x1 x2 x3 x4 x5 x6 x7 x8 2000 (1 : Int32) (0 : Int32) (0 : Int32) M) fun t7 => (Option.bind (f_M_feltNow x1 t7.2) fun q10 => (Option.bind (if q10.1 < x2 then some (0 : Int32) else some t7.1) fun t11 => (Option.bind (f_M_takeBack q10.2) fun m13 => l_M_lots_50 x1 x2 x3 x4 x5 x7 n (x6 + t11) (x8 + (1 : Int32)) m13)))))
def l_M_lots_109 (x4 : Int32) (x6 : Int32) (x7 : Int32) : Nat → Int32 → Int32 → Option (Int32)
  | 0, _, _ => none
  | n + 1, x8, x9 => (if x9 = (0 : Int32) then some x8 else (if ¬ x9 = (0 : Int32) then l_M_lots_109 x4 x6 x7 n x9 (wc_rem x8 x9) else none))
def f_M_lots (a1 : Int32) (a2 : Int32) (a3 : Int32) (a4 : Int32) (M : wc_M) : Option (Int32 × wc_M) :=
  (if (M 21 0 4) = (0 : Int32) then some ((-1000002 : Int32), M) else (if (f_M_isCell a1) = (0 : Int32) then some ((-1000001 : Int32), M) else (if (f_M_in (a2).toInt64 (0 : Int64) (99 : Int64)) = (0 : Int32) then some ((-1000001 : Int32), M) else (if (f_M_in (a3).toInt64 (0 : Int64) (10 : Int64)) = (0 : Int32) then some ((-1000001 : Int32), M) else (if (f_M_in (a4).toInt64 (0 : Int64) (1 : Int64)) = (0 : Int32) then some ((-1000001 : Int32), M) else (Option.bind (f_M_putAside M) fun m2 => (Option.bind (f_M_workMany m2) fun v4 => (Option.bind (l_M_lots_39 a1 a2 a3 a4 v4 (0 : Int32) 2000 (1 : Int32) (0 : Int32)) fun t5 => (Option.bind (l_M_lots_50 a1 a2 a3 a4 v4 t5 2000 (0 : Int32) (0 : Int32) m2) fun t15 => (Option.bind (l_M_lots_109 a4 t15.1 t5 2000 t15.1 t5) fun t18 => (if a4 = (0 : Int32) then (if ¬ t18 = (0 : Int32) then some ((t15.1 / t18), t15.2) else none) else (if ¬ t18 = (0 : Int32) then some ((t5 / t18), t15.2) else none))))))))))))
def f_C_image (a1 : Int32) (M : wc_M) : Option (Int32 × wc_M) :=
  (if (f_C_isUpTo a1 (1 : Int32)) = (0 : Int32) then some ((-1000001 : Int32), M) else (if (M 6 0 5) = (0 : Int32) then some ((-1000002 : Int32), M) else (if wib a1 2 = true then (Option.bind (f_P_become (26 + (a1).toNatClampNeg) 0 M) fun m3 => some ((1 : Int32), m3)) else none)))
def l_M_image_15 (x1 : Int32) : Nat → Int32 → wc_M → Option (wc_M)
  | 0, _, _ => none
  | n + 1, x2, M => (if (57 : Int32) ≤ x2 then some M else (if wib x2 57 = true then (if wib (((57 : Int32) * x1) + x2) 114 = true then l_M_image_15 x1 n (x2 + (1 : Int32)) (wc_up M 33 0 ((((57 : Int32) * x1) + x2)).toNatClampNeg (M 25 0 (x2).toNatClampNeg)) else none) else none))
def f_M_image (a1 : Int32) (M : wc_M) : Option (Int32 × wc_M) :=
  (if (f_M_in (a1).toInt64 (0 : Int64) (1 : Int64)) = (0 : Int32) then some ((-1000001 : Int32), M) else (if (M 21 0 4) = (0 : Int32) then some ((-1000002 : Int32), M) else (Option.bind (l_M_image_15 a1 2000 (0 : Int32) M) fun t3 => (if wib a1 2 = true then some ((1 : Int32), (wc_up t3 32 0 (a1).toNatClampNeg (1 : Int32))) else none))))
def f_C_restore (a1 : Int32) (M : wc_M) : Option (Int32 × wc_M) :=
  (if (f_C_isUpTo a1 (1 : Int32)) = (0 : Int32) then some ((-1000001 : Int32), M) else (if wib a1 2 = true then (if (M 6 (26 + (a1).toNatClampNeg) 5) = (0 : Int32) then some ((-1000002 : Int32), M) else (Option.bind (f_P_become 0 (26 + (a1).toNatClampNeg) M) fun m3 => some ((1 : Int32), (wc_up m3 16 0 2 (0 : Int32))))) else none))
def l_M_restore_17 (x1 : Int32) : Nat → Int32 → wc_M → Option (wc_M)
  | 0, _, _ => none
  | n + 1, x2, M => (if (57 : Int32) ≤ x2 then some M else (if wib (((57 : Int32) * x1) + x2) 114 = true then (if wib x2 57 = true then l_M_restore_17 x1 n (x2 + (1 : Int32)) (wc_up M 25 0 (x2).toNatClampNeg (M 33 0 ((((57 : Int32) * x1) + x2)).toNatClampNeg)) else none) else none))
def f_M_restore (a1 : Int32) (M : wc_M) : Option (Int32 × wc_M) :=
  (if (f_M_in (a1).toInt64 (0 : Int64) (1 : Int64)) = (0 : Int32) then some ((-1000001 : Int32), M) else (if wib a1 2 = true then (if (M 32 0 (a1).toNatClampNeg) = (0 : Int32) then some ((-1000002 : Int32), M) else (Option.bind (l_M_restore_17 a1 2000 (0 : Int32) M) fun t4 => some ((1 : Int32), (wc_up t4 21 0 22 (0 : Int32))))) else none))
def f_C_kind (a1 : Int32) (M : wc_M) : Option Int32 :=
  (if (M 6 0 5) = (0 : Int32) then some (-1000002 : Int32) else (if (f_C_isCell a1) = (0 : Int32) then some (-1000001 : Int32) else (Option.bind (f_P_hasWork 0 a1 M) fun v2 => (if v2 = (0 : Int32) then some (-1000000 : Int32) else (if wib a1 16 = true then some (M 9 0 (a1).toNatClampNeg) else none)))))
def f_M_kind (a1 : Int32) (M : wc_M) : Option Int32 :=
  (if (M 21 0 4) = (0 : Int32) then some (-1000002 : Int32) else (if (f_M_isCell a1) = (0 : Int32) then some (-1000001 : Int32) else (Option.bind (f_M_isWork a1 M) fun v2 => (if v2 = (0 : Int32) then some (-1000000 : Int32) else (if wib ((9 : Int32) + a1) 57 = true then some (M 25 0 (((9 : Int32) + a1)).toNatClampNeg) else none)))))
def l_C_isA_4 (x1 : Int32) : Nat → Int32 → Int32 → Option ((Int32) ⊕ (Unit))
  | 0, _, _ => none
  | n + 1, x2, x3 => (if (6 : Int32) ≤ x3 then some (.inr ()) else (if (f_C_isUpTo x2 (5 : Int32)) = (0 : Int32) then some (.inr ()) else (if x2 = x1 then some (.inl (1 : Int32)) else (if wib x2 6 = true then l_C_isA_4 x1 n (wc_st 35 (x2).toNatClampNeg) (x3 + (1 : Int32)) else none))))
def f_C_isA (a0 : Int32) (a1 : Int32) : Option Int32 :=
  (Option.bind (l_C_isA_4 a1 2000 a0 (0 : Int32)) fun o4 => wel (fun r5 => some r5) (fun t2 => some (0 : Int32)) o4)
def f_C_as (a1 : Int32) (a2 : Int32) (M : wc_M) : Option (Int32 × wc_M) :=
  (if (M 6 0 5) = (0 : Int32) then some ((-1000002 : Int32), M) else (if (f_C_isCell a1) = (0 : Int32) then some ((-1000001 : Int32), M) else (if (f_C_isUpTo a2 (5 : Int32)) = (0 : Int32) then some ((-1000001 : Int32), M) else (Option.bind (f_P_hasWork 0 a1 M) fun v2 => (if v2 = (0 : Int32) then some ((-1000002 : Int32), M) else (if wib a1 16 = true then (Option.bind (f_C_isA (M 9 0 (a1).toNatClampNeg) a2) fun v5 => (if v5 = (0 : Int32) then (Option.bind (f_C_found (3 : Int32) M) fun q7 => some (q7.1, q7.2)) else (Option.bind (f_C_withoutFinding a1 M) fun q9 => some (q9.1, q9.2)))) else none))))))
def f_M_isKind (a0 : Int32) (a1 : Int32) : Int32 :=
  (if a1 = (0 : Int32) then (1 : Int32) else (if a0 = a1 then (1 : Int32) else (if a1 = (1 : Int32) then (if a0 < (4 : Int32) then (1 : Int32) else (if a1 = (4 : Int32) then (if a0 = (5 : Int32) then (1 : Int32) else (0 : Int32)) else (0 : Int32))) else (if a1 = (4 : Int32) then (if a0 = (5 : Int32) then (1 : Int32) else (0 : Int32)) else (0 : Int32)))))
theorem b_M_isKind (a0 : Int32) (a1 : Int32) : f_M_isKind a0 a1 = 0 ∨ f_M_isKind a0 a1 = 1 := by
  unfold f_M_isKind
  repeat' split
  all_goals first | exact Or.inl rfl | exact Or.inr rfl
def f_M_as (a1 : Int32) (a2 : Int32) (M : wc_M) : Option (Int32 × wc_M) :=
  (if (M 21 0 4) = (0 : Int32) then some ((-1000002 : Int32), M) else (if (f_M_isCell a1) = (0 : Int32) then some ((-1000001 : Int32), M) else (if (f_M_in (a2).toInt64 (0 : Int64) (5 : Int64)) = (0 : Int32) then some ((-1000001 : Int32), M) else (Option.bind (f_M_isWork a1 M) fun v2 => (if v2 = (0 : Int32) then some ((-1000002 : Int32), M) else (if wib ((9 : Int32) + a1) 57 = true then (if (f_M_isKind (M 25 0 (((9 : Int32) + a1)).toNatClampNeg) a2) = (0 : Int32) then (Option.bind (f_M_find (3 : Int32) M) fun q5 => some (q5.1, q5.2)) else (Option.bind (f_M_well a1 M) fun q7 => some (q7.1, q7.2))) else none))))))
def f_K_leave (a1 : Int32) (M : wc_M) : Option wc_M :=
  (if (16 : Int32) ≤ (M 19 0 1) then some M else (if wib (M 19 0 1) 16 = true then some (wc_up (wc_up M 20 0 ((M 19 0 1)).toNatClampNeg a1) 19 0 1 (((wc_up M 20 0 ((M 19 0 1)).toNatClampNeg a1) 19 0 1) + (1 : Int32))) else none))
def f_K_body : Nat → Int32 → Int32 → wc_M → Option (Int32 × wc_M)
  | 0, _, _, _ => none
  | n + 1, a1, a2, M => (if a2 ≤ (16 : Int32) then (Option.bind (f_K_leave a1 M) fun m2 => (if a1 = (10 : Int32) then some ((m2 19 0 3), m2) else (if a1 = (11 : Int32) then (Option.bind (f_K_body n (10 : Int32) (a2 + (1 : Int32)) m2) fun q3 => (if wib (q3.2 19 0 2) 6 = true then (Option.bind (f_K_body n (wc_st 37 ((q3.2 19 0 2)).toNatClampNeg) (a2 + (1 : Int32)) q3.2) fun q6 => some ((q3.1 + q6.1), q6.2)) else none)) else (if a1 = (12 : Int32) then (Option.bind (f_K_body n (11 : Int32) (a2 + (1 : Int32)) m2) fun q8 => some ((-q8.1), q8.2)) else (if a1 = (13 : Int32) then (Option.bind (f_K_body n (10 : Int32) (a2 + (1 : Int32)) m2) fun q10 => some ((q10.1 - (100 : Int32)), q10.2)) else (if a1 = (14 : Int32) then (Option.bind (f_K_body n (13 : Int32) (a2 + (1 : Int32)) m2) fun q12 => some (((2 : Int32) * q12.1), q12.2)) else (if a1 = (15 : Int32) then some ((0 : Int32), m2) else (if a1 = (16 : Int32) then some ((0 : Int32), m2) else (if a1 = (17 : Int32) then some ((0 : Int32), m2) else (if a1 = (18 : Int32) then some ((0 : Int32), m2) else (if a1 = (19 : Int32) then some ((0 : Int32), m2) else (if a1 = (20 : Int32) then some ((m2 19 0 4), m2) else (if a1 = (21 : Int32) then (Option.bind (f_K_body n (20 : Int32) (a2 + (1 : Int32)) m2) fun q14 => some ((q14.1 + (q14.2 19 0 5)), q14.2)) else (if a1 = (22 : Int32) then (Option.bind (f_K_body n (21 : Int32) (a2 + (1 : Int32)) m2) fun q16 => some ((q16.1 - (1000 : Int32)), q16.2)) else (if a1 = (23 : Int32) then (Option.bind (f_K_body n (20 : Int32) (a2 + (1 : Int32)) m2) fun q18 => (if wib (q18.2 19 0 2) 6 = true then (Option.bind (f_K_body n (wc_st 36 ((q18.2 19 0 2)).toNatClampNeg) (a2 + (1 : Int32)) q18.2) fun q21 => some ((q18.1 - q21.1), q21.2)) else none)) else (if a1 = (24 : Int32) then (Option.bind (f_K_body n (21 : Int32) (a2 + (1 : Int32)) m2) fun q23 => some (((2 : Int32) * q23.1), q23.2)) else some ((0 : Int32), m2))))))))))))))))) else some ((0 : Int32), M))
def f_K_askSize (M : wc_M) : Option (Int32 × wc_M) :=
  (if wib ((wc_up M 19 0 1 (0 : Int32)) 19 0 2) 6 = true then (Option.bind (f_K_body 18 (wc_st 36 (((wc_up M 19 0 1 (0 : Int32)) 19 0 2)).toNatClampNeg) (0 : Int32) (wc_up M 19 0 1 (0 : Int32))) fun q3 => some (q3.1, q3.2)) else none)
def f_K_askMark (M : wc_M) : Option (Int32 × wc_M) :=
  (if wib ((wc_up M 19 0 1 (0 : Int32)) 19 0 2) 6 = true then (Option.bind (f_K_body 18 (wc_st 37 (((wc_up M 19 0 1 (0 : Int32)) 19 0 2)).toNatClampNeg) (0 : Int32) (wc_up M 19 0 1 (0 : Int32))) fun q3 => some (q3.1, q3.2)) else none)
def f_C_ask (a1 : Int32) (a2 : Int32) (M : wc_M) : Option (Int32 × wc_M) :=
  (if (M 6 0 5) = (0 : Int32) then some ((-1000002 : Int32), M) else (if (f_C_isCell a1) = (0 : Int32) then some ((-1000001 : Int32), M) else (if (f_C_isUpTo a2 (1 : Int32)) = (0 : Int32) then some ((-1000001 : Int32), M) else (Option.bind (f_P_hasWork 0 a1 M) fun v2 => (if v2 = (0 : Int32) then some ((-1000002 : Int32), M) else (if wib a1 16 = true then (Option.bind (f_C_feltNow a1 (wc_up (wc_up (wc_up M 19 0 2 (M 9 0 (a1).toNatClampNeg)) 19 0 3 ((wc_up M 19 0 2 (M 9 0 (a1).toNatClampNeg)) 10 0 (a1).toNatClampNeg)) 19 0 4 a1)) fun q5 => (if a2 = (0 : Int32) then (Option.bind (f_K_askSize (wc_up q5.2 19 0 5 q5.1)) fun q7 => some (q7.1, q7.2)) else (Option.bind (f_K_askMark (wc_up q5.2 19 0 5 q5.1)) fun q9 => some (q9.1, q9.2)))) else none))))))
def f_M_begin (a1 : Int32) (M : wc_M) : Option wc_M :=
  (if (16 : Int32) ≤ (M 21 0 27) then some M else (if wib (M 21 0 27) 16 = true then some (wc_up (wc_up M 34 0 ((M 21 0 27)).toNatClampNeg a1) 21 0 27 (((wc_up M 34 0 ((M 21 0 27)).toNatClampNeg a1) 21 0 27) + (1 : Int32))) else none))
def f_M_lent (a1 : Int32) (a2 : Int32) (M : wc_M) : Option (Int32 × wc_M) :=
  (Option.bind (f_M_begin a2 M) fun m2 => (if a2 = (10 : Int32) then (if wib ((25 : Int32) + a1) 57 = true then some ((m2 25 0 (((25 : Int32) + a1)).toNatClampNeg), m2) else none) else some (a1, m2)))
def f_M_wallMark (a1 : Int32) (M : wc_M) : Option (Int32 × wc_M) :=
  (Option.bind (f_M_begin (21 : Int32) M) fun m2 => (Option.bind (f_M_lent a1 (20 : Int32) m2) fun q4 => (Option.bind (f_M_feltNow a1 q4.2) fun q6 => some ((q4.1 + q6.1), q6.2))))
def f_M_handSize (a1 : Int32) (M : wc_M) : Option (Int32 × wc_M) :=
  (Option.bind (f_M_begin (13 : Int32) M) fun m2 => (Option.bind (f_M_lent a1 (10 : Int32) m2) fun q4 => some ((q4.1 - (100 : Int32)), q4.2)))
def f_M_sizeOfHand (a1 : Int32) (M : wc_M) : Option (Int32 × wc_M) :=
  (if wib ((9 : Int32) + a1) 57 = true then (if (M 25 0 (((9 : Int32) + a1)).toNatClampNeg) = (5 : Int32) then (Option.bind (f_M_begin (14 : Int32) M) fun m3 => (Option.bind (f_M_handSize a1 m3) fun q5 => some (((2 : Int32) * q5.1), q5.2))) else (Option.bind (f_M_handSize a1 M) fun q7 => some (q7.1, q7.2))) else none)
def f_M_markOf (a1 : Int32) (M : wc_M) : Option (Int32 × wc_M) :=
  (if wib ((9 : Int32) + a1) 57 = true then (if (M 25 0 (((9 : Int32) + a1)).toNatClampNeg) = (2 : Int32) then (Option.bind (f_M_begin (24 : Int32) M) fun m3 => (Option.bind (f_M_wallMark a1 m3) fun q5 => some (((2 : Int32) * q5.1), q5.2))) else (if (M 25 0 (((9 : Int32) + a1)).toNatClampNeg) = (3 : Int32) then (Option.bind (f_M_begin (22 : Int32) M) fun m7 => (Option.bind (f_M_wallMark a1 m7) fun q9 => some ((q9.1 - (1000 : Int32)), q9.2))) else (if (M 25 0 (((9 : Int32) + a1)).toNatClampNeg) = (1 : Int32) then (Option.bind (f_M_wallMark a1 M) fun q11 => some (q11.1, q11.2)) else (Option.bind (f_M_begin (23 : Int32) M) fun m13 => (Option.bind (f_M_lent a1 (20 : Int32) m13) fun q15 => (Option.bind (f_M_sizeOfHand a1 q15.2) fun q17 => some ((q15.1 - q17.1), q17.2))))))) else none)
def f_M_wallSize (a1 : Int32) (M : wc_M) : Option (Int32 × wc_M) :=
  (Option.bind (f_M_begin (11 : Int32) M) fun m2 => (Option.bind (f_M_lent a1 (10 : Int32) m2) fun q4 => (Option.bind (f_M_markOf a1 q4.2) fun q6 => some ((q4.1 + q6.1), q6.2))))
def f_M_sizeOf (a1 : Int32) (M : wc_M) : Option (Int32 × wc_M) :=
  (if wib ((9 : Int32) + a1) 57 = true then (if (M 25 0 (((9 : Int32) + a1)).toNatClampNeg) = (2 : Int32) then (Option.bind (f_M_begin (12 : Int32) M) fun m3 => (Option.bind (f_M_wallSize a1 m3) fun q5 => some ((-q5.1), q5.2))) else (if (M 25 0 (((9 : Int32) + a1)).toNatClampNeg) < (4 : Int32) then (Option.bind (f_M_wallSize a1 M) fun q7 => some (q7.1, q7.2)) else (Option.bind (f_M_sizeOfHand a1 M) fun q9 => some (q9.1, q9.2)))) else none)
def f_M_ask (a1 : Int32) (a2 : Int32) (M : wc_M) : Option (Int32 × wc_M) :=
  (if (M 21 0 4) = (0 : Int32) then some ((-1000002 : Int32), M) else (if (f_M_isCell a1) = (0 : Int32) then some ((-1000001 : Int32), M) else (if (f_M_in (a2).toInt64 (0 : Int64) (1 : Int64)) = (0 : Int32) then some ((-1000001 : Int32), M) else (Option.bind (f_M_isWork a1 M) fun v2 => (if v2 = (0 : Int32) then some ((-1000002 : Int32), M) else (if a2 = (0 : Int32) then (Option.bind (f_M_sizeOf a1 (wc_up M 21 0 27 (0 : Int32))) fun q4 => some (q4.1, q4.2)) else (Option.bind (f_M_markOf a1 (wc_up M 21 0 27 (0 : Int32))) fun q6 => some (q6.1, q6.2))))))))
def f_C_trace (a1 : Int32) (M : wc_M) : Option Int32 :=
  (if (f_C_isUpTo a1 ((M 19 0 1) - (1 : Int32))) = (0 : Int32) then some (-1000000 : Int32) else (if wib a1 16 = true then some (M 20 0 (a1).toNatClampNeg) else none))
def f_M_trace (a1 : Int32) (M : wc_M) : Option Int32 :=
  (if (f_M_in (a1).toInt64 (0 : Int64) (((M 21 0 27) - (1 : Int32))).toInt64) = (0 : Int32) then some (-1000000 : Int32) else (if wib a1 16 = true then some (M 34 0 (a1).toNatClampNeg) else none))
def l_C_rowsThere_4 (M : wc_M) : Nat → Int32 → Int32 → Option (Int32)
  | 0, _, _ => none
  | n + 1, x1, x2 => (if (8 : Int32) ≤ x2 then some x1 else (if wib x2 8 = true then (if (M 2 (x2).toNatClampNeg 1) = (0 : Int32) then l_C_rowsThere_4 M n x1 (x2 + (1 : Int32)) else l_C_rowsThere_4 M n (x1 + (1 : Int32)) (x2 + (1 : Int32))) else none))
def f_C_rowsThere (M : wc_M) : Option Int32 :=
  (Option.bind (l_C_rowsThere_4 M 2000 (0 : Int32) (0 : Int32)) fun t2 => some t2)
def f_C_lostNow (M : wc_M) : Option (Int32 × wc_M) :=
  (Option.bind (f_A_blow 0 M) fun m2 => some ((m2 12 0 2), m2))
def l_C_leavingNow_9 (M : wc_M) : Nat → Int32 → Int32 → Option (Int32)
  | 0, _, _ => none
  | n + 1, x1, x2 => (if (4 : Int32) ≤ x2 then some x1 else (if wib x2 4 = true then l_C_leavingNow_9 M n (x1 + (M 14 0 (x2).toNatClampNeg)) (x2 + (1 : Int32)) else none))
def f_C_leavingNow (M : wc_M) : Option (Int32 × wc_M) :=
  (Option.bind (f_A_blow 0 M) fun m2 => (Option.bind (l_C_leavingNow_9 m2 2000 (0 : Int32) (0 : Int32)) fun t4 => some (t4, m2)))
def f_C_count (a1 : Int32) (M : wc_M) : Option (Int32 × wc_M) :=
  (if a1 = (0 : Int32) then (Option.bind (f_C_rowsThere M) fun v2 => some (v2, M)) else (if a1 = (1 : Int32) then (Option.bind (f_P_works 0 M) fun v4 => some (v4, M)) else (if a1 = (2 : Int32) then some ((M 6 0 6), M) else (if a1 = (3 : Int32) then (Option.bind (f_C_lostNow M) fun q6 => some (q6.1, q6.2)) else (if a1 = (4 : Int32) then (Option.bind (f_C_leavingNow M) fun q8 => some (q8.1, q8.2)) else (if a1 = (5 : Int32) then some ((M 16 0 2), M) else (if a1 = (6 : Int32) then some ((M 4 0 1), M) else some ((-1000001 : Int32), M))))))))
def l_M_count_4 (x1 : Int32) (M : wc_M) : Nat → Int32 → Int32 → Option (Int32)
  | 0, _, _ => none
  | n + 1, x2, x3 => (if (8 : Int32) ≤ x3 then some x2 else (if wib x3 8 = true then (if (M 23 0 (x3).toNatClampNeg) < (0 : Int32) then l_M_count_4 x1 M n (x2 + (0 : Int32)) (x3 + (1 : Int32)) else l_M_count_4 x1 M n (x2 + (1 : Int32)) (x3 + (1 : Int32))) else none))
def f_M_count (a1 : Int32) (M : wc_M) : Option (Int32 × wc_M) :=
  (Option.bind (l_M_count_4 a1 M 2000 (0 : Int32) (0 : Int32)) fun t2 => (Option.bind (f_M_blow M) fun m5 => (if a1 = (0 : Int32) then some (t2, m5) else (if a1 = (1 : Int32) then (Option.bind (f_M_workMany m5) fun v7 => some (v7, m5)) else (if a1 = (2 : Int32) then some ((m5 25 0 ((0 : Int32)).toNatClampNeg), m5) else (if a1 = (3 : Int32) then some ((m5 21 0 19), m5) else (if a1 = (4 : Int32) then some (((((m5 29 0 ((16 : Int32)).toNatClampNeg) + (m5 29 0 ((17 : Int32)).toNatClampNeg)) + (m5 29 0 ((18 : Int32)).toNatClampNeg)) + (m5 29 0 ((19 : Int32)).toNatClampNeg)), m5) else (if a1 = (5 : Int32) then some ((m5 21 0 22), m5) else (if a1 = (6 : Int32) then some ((m5 21 0 8), m5) else some ((-1000001 : Int32), m5))))))))))
def f_C_status (M : wc_M) : Int32 :=
  (M 0 0 9)
def f_M_status (M : wc_M) : Int32 :=
  (M 21 0 3)
end
section
/-! THE CONSTRUCTORS: codes and links (written by wip/whole/gen/emit16.py) -/
def wn_k0 : List wc_E := [
  (0, .aload_n 0, 1, [], 0, 0),
  (1, .invokespecial 1, 3, [300], 0, 0),
  (4, .aload_n 0, 1, [], 0, 0),
  (5, .bipush 8, 2, [], 8, 0),
  (7, .anewarray 9, 3, [2], 0, 0),
  (10, .putfield 11, 3, [0, 0], 0, 0),
  (13, .aload_n 0, 1, [], 0, 0),
  (14, .new 15, 3, [2], 0, 0),
  (17, .dup, 1, [], 0, 0),
  (18, .invokespecial 17, 3, [2], 0, 0),
  (21, .putfield 18, 3, [0, 1], 0, 0),
  (24, .aload_n 0, 1, [], 0, 0),
  (25, .new 22, 3, [3], 0, 0),
  (28, .dup, 1, [], 0, 0),
  (29, .invokespecial 24, 3, [3], 0, 0),
  (32, .putfield 25, 3, [0, 2], 0, 0),
  (35, .aload_n 0, 1, [], 0, 0),
  (36, .new 22, 3, [3], 0, 0),
  (39, .dup, 1, [], 0, 0),
  (40, .invokespecial 24, 3, [3], 0, 0),
  (43, .putfield 29, 3, [0, 3], 0, 0),
  (46, .aload_n 0, 1, [], 0, 0),
  (47, .new 32, 3, [4], 0, 0),
  (50, .dup, 1, [], 0, 0),
  (51, .invokespecial 34, 3, [4], 0, 0),
  (54, .putfield 35, 3, [0, 4], 0, 0),
  (57, .aload_n 0, 1, [], 0, 0),
  (58, .iconst 2, 1, [], 2, 0),
  (59, .newarray .int, 2, [], 0, 0),
  (61, .putfield 39, 3, [0, 5], 0, 0),
  (64, .aload_n 0, 1, [], 0, 0),
  (65, .new 43, 3, [5], 0, 0),
  (68, .dup, 1, [], 0, 0),
  (69, .invokespecial 45, 3, [5], 0, 0),
  (72, .putfield 46, 3, [0, 6], 0, 0),
  (75, .aload_n 0, 1, [], 0, 0),
  (76, .iconst 2, 1, [], 2, 0),
  (77, .anewarray 22, 3, [3], 0, 0),
  (80, .putfield 50, 3, [0, 7], 0, 0),
  (83, .aload_n 0, 1, [], 0, 0),
  (84, .new 54, 3, [6], 0, 0),
  (87, .dup, 1, [], 0, 0),
  (88, .invokespecial 56, 3, [6], 0, 0),
  (91, .putfield 57, 3, [0, 8], 0, 0),
  (94, .aload_n 0, 1, [], 0, 0),
  (95, .iconst 0, 1, [], 0, 0),
  (96, .putfield 61, 3, [0, 9], 0, 0),
  (99, .iconst 0, 1, [], 0, 0),
  (100, .istore_n 1, 1, [], 0, 0),
  (101, .iload_n 1, 1, [], 0, 0),
  (102, .bipush 8, 2, [], 8, 0),
  (104, .if_icmp .ge 22, 3, [61], 0, 0),
  (107, .aload_n 0, 1, [], 0, 0),
  (108, .getfield 11, 3, [0, 0], 0, 0),
  (111, .iload_n 1, 1, [], 0, 0),
  (112, .new 9, 3, [1], 0, 0),
  (115, .dup, 1, [], 0, 0),
  (116, .invokespecial 65, 3, [1], 0, 0),
  (119, .aastore, 1, [], 0, 0),
  (120, .iinc 1 1, 3, [], 1, 0),
  (123, .goto (-22), 3, [49], 0, 0),
  (126, .iconst 0, 1, [], 0, 0),
  (127, .istore_n 1, 1, [], 0, 0),
  (128, .iload_n 1, 1, [], 0, 0),
  (129, .iconst 2, 1, [], 2, 0),
  (130, .if_icmp .ge 22, 3, [75], 0, 0),
  (133, .aload_n 0, 1, [], 0, 0),
  (134, .getfield 50, 3, [0, 7], 0, 0),
  (137, .iload_n 1, 1, [], 0, 0),
  (138, .new 22, 3, [3], 0, 0),
  (141, .dup, 1, [], 0, 0),
  (142, .invokespecial 24, 3, [3], 0, 0),
  (145, .aastore, 1, [], 0, 0),
  (146, .iinc 1 1, 3, [], 1, 0),
  (149, .goto (-21), 3, [63], 0, 0),
  (152, .return_, 1, [], 0, 0)]
def wn_k1 : List wc_E := [
  (0, .aload_n 0, 1, [], 0, 0),
  (1, .invokespecial 3, 3, [300], 0, 0),
  (4, .aload_n 0, 1, [], 0, 0),
  (5, .bipush 40, 2, [], 40, 0),
  (7, .newarray .int, 2, [], 0, 0),
  (9, .putfield 9, 3, [1, 0], 0, 0),
  (12, .aload_n 0, 1, [], 0, 0),
  (13, .iconst 0, 1, [], 0, 0),
  (14, .putfield 15, 3, [1, 1], 0, 0),
  (17, .aload_n 0, 1, [], 0, 0),
  (18, .iconst 0, 1, [], 0, 0),
  (19, .putfield 19, 3, [1, 2], 0, 0),
  (22, .aload_n 0, 1, [], 0, 0),
  (23, .iconst 0, 1, [], 0, 0),
  (24, .putfield 23, 3, [1, 3], 0, 0),
  (27, .return_, 1, [], 0, 0)]
def wn_k2 : List wc_E := [
  (0, .aload_n 0, 1, [], 0, 0),
  (1, .invokespecial 3, 3, [300], 0, 0),
  (4, .aload_n 0, 1, [], 0, 0),
  (5, .bipush 120, 2, [], 120, 0),
  (7, .newarray .int, 2, [], 0, 0),
  (9, .putfield 11, 3, [2, 0], 0, 0),
  (12, .aload_n 0, 1, [], 0, 0),
  (13, .iconst 0, 1, [], 0, 0),
  (14, .putfield 15, 3, [2, 1], 0, 0),
  (17, .aload_n 0, 1, [], 0, 0),
  (18, .iconst 0, 1, [], 0, 0),
  (19, .putfield 19, 3, [2, 2], 0, 0),
  (22, .aload_n 0, 1, [], 0, 0),
  (23, .iconst 0, 1, [], 0, 0),
  (24, .putfield 22, 3, [2, 3], 0, 0),
  (27, .aload_n 0, 1, [], 0, 0),
  (28, .iconst 0, 1, [], 0, 0),
  (29, .putfield 25, 3, [2, 4], 0, 0),
  (32, .return_, 1, [], 0, 0)]
def wn_k3 : List wc_E := [
  (0, .aload_n 0, 1, [], 0, 0),
  (1, .invokespecial 3, 3, [300], 0, 0),
  (4, .aload_n 0, 1, [], 0, 0),
  (5, .iconst 4, 1, [], 4, 0),
  (6, .newarray .int, 2, [], 0, 0),
  (8, .putfield 9, 3, [3, 0], 0, 0),
  (11, .aload_n 0, 1, [], 0, 0),
  (12, .iconst 4, 1, [], 4, 0),
  (13, .newarray .int, 2, [], 0, 0),
  (15, .putfield 15, 3, [3, 1], 0, 0),
  (18, .aload_n 0, 1, [], 0, 0),
  (19, .bipush 16, 2, [], 16, 0),
  (21, .newarray .int, 2, [], 0, 0),
  (23, .putfield 18, 3, [3, 2], 0, 0),
  (26, .aload_n 0, 1, [], 0, 0),
  (27, .bipush 16, 2, [], 16, 0),
  (29, .newarray .int, 2, [], 0, 0),
  (31, .putfield 21, 3, [3, 3], 0, 0),
  (34, .aload_n 0, 1, [], 0, 0),
  (35, .bipush 16, 2, [], 16, 0),
  (37, .newarray .int, 2, [], 0, 0),
  (39, .putfield 24, 3, [3, 4], 0, 0),
  (42, .aload_n 0, 1, [], 0, 0),
  (43, .iconst 0, 1, [], 0, 0),
  (44, .putfield 27, 3, [3, 5], 0, 0),
  (47, .aload_n 0, 1, [], 0, 0),
  (48, .iconst 0, 1, [], 0, 0),
  (49, .putfield 31, 3, [3, 6], 0, 0),
  (52, .return_, 1, [], 0, 0)]
def wn_k4 : List wc_E := [
  (0, .aload_n 0, 1, [], 0, 0),
  (1, .invokespecial 3, 3, [300], 0, 0),
  (4, .aload_n 0, 1, [], 0, 0),
  (5, .bipush 16, 2, [], 16, 0),
  (7, .newarray .int, 2, [], 0, 0),
  (9, .putfield 9, 3, [4, 0], 0, 0),
  (12, .aload_n 0, 1, [], 0, 0),
  (13, .iconst 4, 1, [], 4, 0),
  (14, .newarray .int, 2, [], 0, 0),
  (16, .putfield 15, 3, [4, 1], 0, 0),
  (19, .aload_n 0, 1, [], 0, 0),
  (20, .iconst 0, 1, [], 0, 0),
  (21, .putfield 18, 3, [4, 2], 0, 0),
  (24, .return_, 1, [], 0, 0)]
def wn_k5 : List wc_E := [
  (0, .aload_n 0, 1, [], 0, 0),
  (1, .invokespecial 3, 3, [300], 0, 0),
  (4, .aload_n 0, 1, [], 0, 0),
  (5, .bipush 24, 2, [], 24, 0),
  (7, .anewarray 9, 3, [3], 0, 0),
  (10, .putfield 11, 3, [5, 0], 0, 0),
  (13, .aload_n 0, 1, [], 0, 0),
  (14, .iconst 0, 1, [], 0, 0),
  (15, .putfield 17, 3, [5, 1], 0, 0),
  (18, .aload_n 0, 1, [], 0, 0),
  (19, .iconst 0, 1, [], 0, 0),
  (20, .putfield 21, 3, [5, 2], 0, 0),
  (23, .iconst 0, 1, [], 0, 0),
  (24, .istore_n 1, 1, [], 0, 0),
  (25, .iload_n 1, 1, [], 0, 0),
  (26, .bipush 24, 2, [], 24, 0),
  (28, .if_icmp .ge 22, 3, [26], 0, 0),
  (31, .aload_n 0, 1, [], 0, 0),
  (32, .getfield 11, 3, [5, 0], 0, 0),
  (35, .iload_n 1, 1, [], 0, 0),
  (36, .new 9, 3, [3], 0, 0),
  (39, .dup, 1, [], 0, 0),
  (40, .invokespecial 24, 3, [3], 0, 0),
  (43, .aastore, 1, [], 0, 0),
  (44, .iinc 1 1, 3, [], 1, 0),
  (47, .goto (-22), 3, [14], 0, 0),
  (50, .return_, 1, [], 0, 0)]
def wn_k6 : List wc_E := [
  (0, .aload_n 0, 1, [], 0, 0),
  (1, .invokespecial 3, 3, [300], 0, 0),
  (4, .aload_n 0, 1, [], 0, 0),
  (5, .bipush 16, 2, [], 16, 0),
  (7, .newarray .int, 2, [], 0, 0),
  (9, .putfield 11, 3, [6, 0], 0, 0),
  (12, .aload_n 0, 1, [], 0, 0),
  (13, .iconst 0, 1, [], 0, 0),
  (14, .putfield 15, 3, [6, 1], 0, 0),
  (17, .aload_n 0, 1, [], 0, 0),
  (18, .iconst 0, 1, [], 0, 0),
  (19, .putfield 19, 3, [6, 2], 0, 0),
  (22, .aload_n 0, 1, [], 0, 0),
  (23, .iconst 0, 1, [], 0, 0),
  (24, .putfield 22, 3, [6, 3], 0, 0),
  (27, .aload_n 0, 1, [], 0, 0),
  (28, .iconst 0, 1, [], 0, 0),
  (29, .putfield 25, 3, [6, 4], 0, 0),
  (32, .aload_n 0, 1, [], 0, 0),
  (33, .iconst 0, 1, [], 0, 0),
  (34, .putfield 28, 3, [6, 5], 0, 0),
  (37, .return_, 1, [], 0, 0)]
def wn_k7 : List wc_E := [
  (0, .aload_n 0, 1, [], 0, 0),
  (1, .invokespecial 1, 3, [300], 0, 0),
  (4, .aload_n 0, 1, [], 0, 0),
  (5, .bipush 8, 2, [], 8, 0),
  (7, .newarray .int, 2, [], 0, 0),
  (9, .putfield 7, 3, [7, 0], 0, 0),
  (12, .aload_n 0, 1, [], 0, 0),
  (13, .bipush 8, 2, [], 8, 0),
  (15, .newarray .int, 2, [], 0, 0),
  (17, .putfield 13, 3, [7, 1], 0, 0),
  (20, .aload_n 0, 1, [], 0, 0),
  (21, .sipush 320, 3, [], 320, 0),
  (24, .newarray .int, 2, [], 0, 0),
  (26, .putfield 16, 3, [7, 2], 0, 0),
  (29, .aload_n 0, 1, [], 0, 0),
  (30, .bipush 57, 2, [], 57, 0),
  (32, .newarray .int, 2, [], 0, 0),
  (34, .putfield 19, 3, [7, 5], 0, 0),
  (37, .aload_n 0, 1, [], 0, 0),
  (38, .bipush 40, 2, [], 40, 0),
  (40, .newarray .int, 2, [], 0, 0),
  (42, .putfield 22, 3, [7, 6], 0, 0),
  (45, .aload_n 0, 1, [], 0, 0),
  (46, .bipush 120, 2, [], 120, 0),
  (48, .newarray .int, 2, [], 0, 0),
  (50, .putfield 25, 3, [7, 7], 0, 0),
  (53, .aload_n 0, 1, [], 0, 0),
  (54, .bipush 57, 2, [], 57, 0),
  (56, .newarray .int, 2, [], 0, 0),
  (58, .putfield 28, 3, [7, 15], 0, 0),
  (61, .aload_n 0, 1, [], 0, 0),
  (62, .bipush 20, 2, [], 20, 0),
  (64, .newarray .int, 2, [], 0, 0),
  (66, .putfield 31, 3, [7, 18], 0, 0),
  (69, .aload_n 0, 1, [], 0, 0),
  (70, .sipush 1368, 3, [], 1368, 0),
  (73, .newarray .int, 2, [], 0, 0),
  (75, .putfield 34, 3, [7, 21], 0, 0),
  (78, .aload_n 0, 1, [], 0, 0),
  (79, .bipush 57, 2, [], 57, 0),
  (81, .newarray .int, 2, [], 0, 0),
  (83, .putfield 37, 3, [7, 23], 0, 0),
  (86, .aload_n 0, 1, [], 0, 0),
  (87, .iconst 2, 1, [], 2, 0),
  (88, .newarray .boolean, 2, [], 0, 0),
  (90, .putfield 40, 3, [7, 24], 0, 0),
  (93, .aload_n 0, 1, [], 0, 0),
  (94, .bipush 114, 2, [], 114, 0),
  (96, .newarray .int, 2, [], 0, 0),
  (98, .putfield 44, 3, [7, 25], 0, 0),
  (101, .aload_n 0, 1, [], 0, 0),
  (102, .bipush 16, 2, [], 16, 0),
  (104, .newarray .int, 2, [], 0, 0),
  (106, .putfield 47, 3, [7, 26], 0, 0),
  (109, .iconst 0, 1, [], 0, 0),
  (110, .istore_n 1, 1, [], 0, 0),
  (111, .iload_n 1, 1, [], 0, 0),
  (112, .bipush 8, 2, [], 8, 0),
  (114, .if_icmp .ge 16, 3, [66], 0, 0),
  (117, .aload_n 0, 1, [], 0, 0),
  (118, .getfield 13, 3, [7, 1], 0, 0),
  (121, .iload_n 1, 1, [], 0, 0),
  (122, .iconst (-1), 1, [], (-1), 0),
  (123, .iastore, 1, [], 0, 0),
  (124, .iinc 1 1, 3, [], 1, 0),
  (127, .goto (-16), 3, [56], 0, 0),
  (130, .return_, 1, [], 0, 0)]
def wn_cdl : List (List wc_E) := [wn_k0, wn_k1, wn_k2, wn_k3, wn_k4, wn_k5, wn_k6, wn_k7]
def wn_cd (c : Nat) : List wc_E := (wn_cdl[c]?).getD []
def wn_mL (c : Nat) : Nat := (([2, 1, 1, 1, 1, 2, 1, 2] : List Nat)[c]?).getD 0
def wn_bl : List ByteArray := [prog_1_method_1_code, prog_6_method_1_code, prog_7_method_1_code, prog_5_method_1_code, prog_3_method_1_code, prog_2_method_1_code, prog_4_method_1_code, prog_9_method_1_code]
def wn_b (c : Nat) : ByteArray := (wn_bl[c]?).getD ⟨#[]⟩
def wn_y (c : Nat) : MethodName := ⟨wc_cn c, "<init>", "()V"⟩
def wn_mc (c : Nat) : Jvm.Cond := .code (wn_y c) (wn_b c) (wn_mL c) none
set_option maxRecDepth 100000 in
theorem wn_mc_ok0 : [15, 161, 25, 51, 92, 111, 131, 574].map (fun i => tables_1[i]?) = ((List.range 8).map wn_mc).map some := by rfl
theorem wn_mc_ok {c : Nat} (h : c < 8) : wn_mc c ∈ wc_tw := wc_tb (wc_pl _ wn_mc_ok0 _ (List.mem_map_of_mem (List.mem_range.mpr h))) rfl
theorem wn_im_ok0 : [14, 160, 24, 50, 91, 110, 130, 573].map (fun i => tables_1[i]?) = ((List.range 8).map (fun c => Jvm.Cond.instanceMethod (wn_y c))).map some := by decide +kernel
theorem wn_im_ok {c : Nat} (h : c < 8) : Jvm.Cond.instanceMethod (wn_y c) ∈ wc_tw := wc_tb (wc_pl _ wn_im_ok0 _ (List.mem_map_of_mem (List.mem_range.mpr h))) rfl
theorem wn_it_ok0 : [12, 158, 22, 48, 89, 108, 128, 571].map (fun i => tables_1[i]?) = ((List.range 8).map (fun c => Jvm.Cond.instantiable (wc_cn c) (wc_nf c))).map some := by decide +kernel
theorem wn_it_ok {c : Nat} (h : c < 8) : Jvm.Cond.instantiable (wc_cn c) (wc_nf c) ∈ wc_tw := wc_tb (wc_pl _ wn_it_ok0 _ (List.mem_map_of_mem (List.mem_range.mpr h))) rfl
def wn_cl : List (Nat × Nat × Nat) := [(8, 7, 0), (0, 9, 1), (0, 15, 2), (0, 22, 3), (0, 32, 4), (0, 43, 5), (5, 9, 3), (0, 54, 6), (8, 10, 7)]
theorem wn_cl_ok0 : [11, 19, 21, 47, 88, 107, 113, 127, 570].map (fun i => tables_1[i]?) = (wn_cl.map (fun q => Jvm.Cond.classLink (wc_cn q.1) q.2.1 (wc_cn q.2.2))).map some := by decide +kernel
theorem wn_cl_ok : ∀ q ∈ wn_cl, Jvm.Cond.classLink (wc_cn q.1) q.2.1 (wc_cn q.2.2) ∈ wc_tw := fun q h => wc_tb (wc_pl _ wn_cl_ok0 _ (List.mem_map_of_mem h)) rfl
def wn_nl : List (Nat × Nat × Nat) := [(0, 17, 2), (0, 24, 3), (0, 34, 4), (5, 24, 3), (0, 56, 6), (0, 65, 1)]
theorem wn_nl_ok0 : [23, 49, 90, 115, 129, 159].map (fun i => tables_1[i]?) = (wn_nl.map (fun q => Jvm.Cond.methodLinkNest (wc_cn q.1) q.2.1 (wn_y q.2.2) "WindCarver")).map some := by decide +kernel
theorem wn_nl_ok : ∀ q ∈ wn_nl, Jvm.Cond.methodLinkNest (wc_cn q.1) q.2.1 (wn_y q.2.2) "WindCarver" ∈ lw_tbl := fun q h => List.mem_append_right _ (wc_pl _ wn_nl_ok0 _ (List.mem_map_of_mem h))
def wn_ml : List (Nat × Nat × Nat) := [(8, 9, 0), (0, 45, 5), (8, 12, 7)]
theorem wn_ml_ok0 : [13, 109, 572].map (fun i => tables_1[i]?) = (wn_ml.map (fun q => Jvm.Cond.methodLink (wc_cn q.1) q.2.1 (wn_y q.2.2))).map some := by decide +kernel
theorem wn_ml_ok : ∀ q ∈ wn_ml, Jvm.Cond.methodLink (wc_cn q.1) q.2.1 (wn_y q.2.2) ∈ wc_tw := fun q h => wc_tb (wc_pl _ wn_ml_ok0 _ (List.mem_map_of_mem h)) rfl
def wn_ol : List (Nat × Nat) := [(0, 1), (2, 3), (3, 3), (4, 3), (5, 3), (6, 3), (1, 3), (7, 1)]
theorem wn_ol_ok0 : [16, 26, 52, 93, 112, 132, 162, 575].map (fun i => tables_1[i]?) = (wn_ol.map (fun q => Jvm.Cond.methodLink (wc_cn q.1) q.2 objectInit)).map some := by decide +kernel
theorem wn_ol_ok : ∀ q ∈ wn_ol, Jvm.Cond.methodLink (wc_cn q.1) q.2 objectInit ∈ wc_tw := fun q h => wc_tb (wc_pl _ wn_ol_ok0 _ (List.mem_map_of_mem h)) rfl
theorem wn_ob0 : [17, 18].map (fun i => tables_1[i]?) = [Jvm.Cond.instanceMethod objectInit, Jvm.Cond.code objectInit ⟨#[0xb1]⟩ 1 none].map some := by decide +kernel
theorem wn_ob1 : Jvm.Cond.instanceMethod objectInit ∈ wc_tw := wc_tb (wc_pl _ wn_ob0 _ (by simp)) rfl
theorem wn_ob2 : Jvm.Cond.code objectInit ⟨#[0xb1]⟩ 1 none ∈ wc_tw := wc_tb (wc_pl _ wn_ob0 _ (by simp)) rfl
theorem wn_ac0 : [46, 661, 20, 114].map (fun i => tables_1[i]?) = [Jvm.Cond.arrayClass .int, Jvm.Cond.arrayClass .boolean, Jvm.Cond.arrayOver (.object "WindCarver$Row"), Jvm.Cond.arrayOver (.object "WindCarver$Pass")].map some := by decide +kernel
theorem wn_ac {w : Jvm.Cond} (h : w ∈ [Jvm.Cond.arrayClass .int, Jvm.Cond.arrayClass .boolean, Jvm.Cond.arrayOver (.object "WindCarver$Row"), Jvm.Cond.arrayOver (.object "WindCarver$Pass")]) : w ∈ lw_tbl := List.mem_append_right _ (wc_pl _ wn_ac0 _ h)
end
section
/-! THE MAKER: a machine that runs constructors over a heap of numbered cells; what it makes the machine makes, at the addresses b, b + 1, .. -/
abbrev wn_V : Type := Int32 ⊕ Option Nat
abbrev wn_C : Type := (Nat × List wn_V) ⊕ (Nat × Nat × ((Nat → Int32) ⊕ (Nat → Option Nat)))
def wn_dv (c s : Nat) : wn_V := match wc_ty c s with
  | .object _ => .inr none
  | .array _ => .inr none
  | _ => .inl 0
def wn_fit (c s : Nat) (v : wc_V) : Option wn_V := match wc_ty c s, v with
  | .int, .inl x => some (.inl x)
  | .boolean, .inl x => if x = 0 then some (.inl x) else none
  | .object _, .inr (.inl (0, i)) => some (.inr (some i))
  | .array _, .inr (.inl (0, i)) => some (.inr (some i))
  | _, _ => none
def wn_stp (o : Nat) (cd : List wc_E) (i : Nat) (L : wc_L) (st : List wc_V) (h : List wn_C) (nc ns : Nat) : Option (Nat × wc_L × List wc_V × List wn_C × Nat × Nat) :=
  match cd[i]? with
  | none => none
  | some (_, ins, _, tg, ct, _) => match ins with
    | .iconst _ => some (i + 1, L, .inl ct :: st, h, nc, ns)
    | .bipush _ => some (i + 1, L, .inl ct :: st, h, nc, ns)
    | .sipush _ => some (i + 1, L, .inl ct :: st, h, nc, ns)
    | .iload_n n => match L[(n : Nat)]? with
      | some (some (.inl v)) => some (i + 1, L, .inl v :: st, h, nc, ns)
      | _ => none
    | .aload_n n => match L[(n : Nat)]? with
      | some (some (.inr (.inl v))) => some (i + 1, L, .inr (.inl v) :: st, h, nc, ns)
      | _ => none
    | .istore_n n => match st with
      | .inl v :: r => if wc_noL L && Nat.blt (n : Nat) L.length then some (i + 1, L.set (n : Nat) (some (.inl v)), r, h, nc, ns) else none
      | _ => none
    | .astore_n n => match st with
      | .inr (.inl v) :: r => if wc_noL L && Nat.blt (n : Nat) L.length then some (i + 1, L.set (n : Nat) (some (.inr (.inl v))), r, h, nc, ns) else none
      | _ => none
    | .iinc n _ => match L[n]? with
      | some (some (.inl v)) => if wc_noL L then some (i + 1, L.set n (some (.inl (v + ct))), st, h, nc, ns) else none
      | _ => none
    | .dup => match st with
      | .inr (.inl x) :: r => some (i + 1, L, .inr (.inl x) :: .inr (.inl x) :: r, h, nc, ns)
      | _ => none
    | .goto _ => match tg with
      | [t] => some (t, L, st, h, nc, ns)
      | _ => none
    | .if_icmp .ge _ => match tg, st with
      | [t], .inl y :: .inl x :: r => some (if y ≤ x then t else i + 1, L, r, h, nc, ns)
      | _, _ => none
    | .new _ => match tg with
      | [c] => if Nat.blt c 8 then some (i + 1, L, .inr (.inl (0, h.length)) :: st, h ++ [.inl (c, (List.range (wc_nf c)).map (wn_dv c))], nc + 1, ns + wc_nf c) else none
      | _ => none
    | .newarray ty => match ty, st with
      | .int, .inl n :: r => if decide (¬ n < 0) && Nat.ble n.toNatClampNeg 4000 then some (i + 1, L, .inr (.inl (0, h.length)) :: r, h ++ [.inr (0, n.toNatClampNeg, .inl (fun _ => 0))], nc + 1, ns + n.toNatClampNeg) else none
      | .boolean, .inl n :: r => if decide (¬ n < 0) && Nat.ble n.toNatClampNeg 4000 then some (i + 1, L, .inr (.inl (0, h.length)) :: r, h ++ [.inr (1, n.toNatClampNeg, .inl (fun _ => 0))], nc + 1, ns + n.toNatClampNeg) else none
      | _, _ => none
    | .anewarray _ => match tg, st with
      | [2], .inl n :: r => if decide (¬ n < 0) && Nat.ble n.toNatClampNeg 4000 then some (i + 1, L, .inr (.inl (0, h.length)) :: r, h ++ [.inr (2, n.toNatClampNeg, .inr (fun _ => none))], nc + 1, ns + n.toNatClampNeg) else none
      | [3], .inl n :: r => if decide (¬ n < 0) && Nat.ble n.toNatClampNeg 4000 then some (i + 1, L, .inr (.inl (0, h.length)) :: r, h ++ [.inr (3, n.toNatClampNeg, .inr (fun _ => none))], nc + 1, ns + n.toNatClampNeg) else none
      | _, _ => none
    | .getfield _ => match tg, st with
      | [c, s], .inr (.inl (0, j)) :: r => match h[j]? with
        | some (.inl (c', vs)) => if Nat.beq c c' && Nat.blt s (wc_nf c) && Nat.blt c 8 then (match vs[s]? with
            | some (.inl v) => some (i + 1, L, .inl v :: r, h, nc, ns)
            | some (.inr (some q)) => some (i + 1, L, .inr (.inl (0, q)) :: r, h, nc, ns)
            | _ => none) else none
        | _ => none
      | _, _ => none
    | .putfield _ => match tg, st with
      | [c, s], v :: .inr (.inl (0, j)) :: r => match h[j]? with
        | some (.inl (c', vs)) => if Nat.beq c c' && Nat.blt s (wc_nf c) && Nat.blt c 8 && Nat.beq o c && Nat.blt s vs.length then (match wn_fit c s v with
            | some x => some (i + 1, L, r, h.set j (.inl (c', vs.set s x)), nc, ns)
            | none => none) else none
        | _ => none
      | _, _ => none
    | .aastore => match st with
      | .inr (.inl (0, v)) :: .inl k :: .inr (.inl (0, j)) :: r => match h[j]?, h[v]? with
        | some (.inr (t, n, .inr g)), some (.inl (c, _)) => if ((Nat.beq t 2 && Nat.beq c 1) || (Nat.beq t 3 && Nat.beq c 3)) && wib k n then some (i + 1, L, r, h.set j (.inr (t, n, .inr (va_up g k.toNatClampNeg (some v)))), nc, ns) else none
        | _, _ => none
      | _ => none
    | .iastore => match st with
      | .inl v :: .inl k :: .inr (.inl (0, j)) :: r => match h[j]? with
        | some (.inr (0, n, .inl f)) => if wib k n then some (i + 1, L, r, h.set j (.inr (0, n, .inl (upd f k.toNatClampNeg v))), nc, ns) else none
        | _ => none
      | _ => none
    | _ => none
abbrev wn_S : Type := Nat → Nat → List wn_C → Option (List wn_C × Nat × Nat)
def wn_lp (S : wn_S) (o : Nat) (cd : List wc_E) : Nat → Nat → wc_L → List wc_V → List wn_C → Nat → Nat → Option (List wn_C × Nat × Nat)
  | 0, _, _, _, _, _, _ => none
  | n + 1, i, L, st, h, nc, ns => match cd[i]? with
    | some (_, .return_, _, _, _, _) => match st with
      | [] => some (h, nc, ns)
      | _ => none
    | some (_, .invokespecial _, _, [t], _, _) => match st with
      | .inr (.inl (0, j)) :: r => if Nat.beq t 300 then (if Nat.ble r.length 4 then wn_lp S o cd n (i + 1) L r h nc ns else none) else if Nat.ble r.length 4 && Nat.blt t 8 then (match S t j h with
          | some (h', mc, ms) => wn_lp S o cd n (i + 1) L r h' (nc + mc) (ns + ms)
          | none => none) else none
      | _ => none
    | _ => match wn_stp o cd i L st h nc ns with
      | some (i', L', st', h', nc', ns') => wn_lp S o cd n i' L' st' h' nc' ns'
      | none => none
def wn_Sd : Nat → wn_S
  | 0 => fun _ _ _ => none
  | d + 1 => fun c j h => if Nat.blt c 8 && Nat.ble 1 (wn_mL c) then wn_lp (wn_Sd d) c (wn_cd c) 2000 0 (some (.inr (.inl (0, j))) :: List.replicate (wn_mL c - 1) none) [] h 0 0 else none
/-- links of the makers' code -/
def wn_lnk (o : Nat) (ins : Instr) (tg : List Nat) (ct : Int32) : Bool := match ins, tg with
  | .iconst n, _ => decide (Int32.ofInt n = ct)
  | .bipush n, _ => decide ((Int8.ofInt n).toInt32 = ct)
  | .sipush n, _ => decide ((Int16.ofInt n).toInt32 = ct)
  | .iinc _ n, _ => decide (Int32.ofInt n = ct)
  | .getfield i, [c, s] => decide ((o, i, c, s) ∈ wc_fl)
  | .putfield i, [c, s] => decide ((o, i, c, s) ∈ wc_fl)
  | .new i, [c] => decide ((o, i, c) ∈ wn_cl)
  | .anewarray i, [t] => (Nat.beq t 2 && decide ((o, i, 1) ∈ wn_cl)) || (Nat.beq t 3 && decide ((o, i, 3) ∈ wn_cl))
  | .invokespecial i, [t] => if Nat.beq t 300 then decide ((o, i) ∈ wn_ol) else (decide ((o, i, t) ∈ wn_nl) || decide ((o, i, t) ∈ wn_ml))
  | _, _ => true
def wn_good (o : Nat) (bytes : ByteArray) (cd : List wc_E) : Prop := ∀ (i pc : Nat) (ins : Instr) (len : Nat) (tg : List Nat) (ct : Int32) (cl : Int64), cd[i]? = some (pc, ins, len, tg, ct, cl) →
  decode bytes pc = .ok (ins, len) ∧ len = wc_len ins len ∧ wn_lnk o ins tg ct = true ∧ wc_nxt cd i pc ins len tg = true
def wn_chk (o : Nat) (bytes : ByteArray) (cd : List wc_E) : Bool := cd.zipIdx.all (fun q => decide (decode bytes q.1.1 = .ok (q.1.2.1, q.1.2.2.1)) && decide (q.1.2.2.1 = wc_len q.1.2.1 q.1.2.2.1) && wn_lnk o q.1.2.1 q.1.2.2.2.1 q.1.2.2.2.2.1 && wc_nxt cd q.2 q.1.1 q.1.2.1 q.1.2.2.1 q.1.2.2.2.1)
theorem wn_good_of {o : Nat} {bytes : ByteArray} {cd : List wc_E} (h : wn_chk o bytes cd = true) : wn_good o bytes cd := by
  intro i pc ins len tg ct cl hi
  have h1 := List.all_eq_true.mp h ((pc, ins, len, tg, ct, cl), i) (List.mem_zipIdx_iff_getElem?.mpr hi)
  simp only [Bool.and_eq_true, decide_eq_true_eq] at h1
  exact ⟨h1.1.1.1, h1.1.1.2, h1.1.2, h1.2⟩
theorem wn_k_ok0 : ∀ c, c < 8 → wn_chk c (wn_b c) (wn_cd c) = true := by decide +kernel
/-- the heap that the machine has -/
def wn_ad (b : Nat) (tt : Nat → Nat) : wc_A
  | 0, i => b + i
  | k + 1, _ => tt (k + 1)
def wn_cv (b : Nat) : wn_V → Value
  | .inl v => .int v
  | .inr none => .null
  | .inr (some i) => .ref (b + i)
def wn_cc (b : Nat) (cA : Nat → ClassId) : wn_C → va_E
  | .inl (c, vs) => .inr (c, vs.map (wn_cv b))
  | .inr (t, n, .inl f) => .inl (cA t, n, .inl f)
  | .inr (t, n, .inr g) => .inl (cA t, n, .inr (.inr (.inr (.inr (fun s => (g s).map (fun i => b + i))))))
def wn_H (b : Nat) (cA : Nat → ClassId) (D : va_G) (h : List wn_C) (H : Heap) : Prop := H.size = b + h.length ∧ ∀ (i : Nat) (x : wn_C), h[i]? = some x → va_at D wc_cls (b + i, wn_cc b cA x) H
theorem wn_H_set {b : Nat} {cA : Nat → ClassId} {D : va_G} {h : List wn_C} {H H1 : Heap} {j : Nat} {x x0 : wn_C} (hH : wn_H b cA D h H) (h0 : h[j]? = some x0) (hx : va_at D wc_cls (b + j, wn_cc b cA x) H1) (z : H1.size = H.size) (oq : ∀ q : Nat, q ≠ b + j → H1[q]? = H[q]?) : wn_H b cA D (h.set j x) H1 := by
  have hlt := (List.getElem?_eq_some_iff.mp h0).1
  refine ⟨by rw [z, List.length_set]; exact hH.1, fun i y hy => ?_⟩
  by_cases hi : i = j
  · subst hi
    rw [List.getElem?_set_self hlt] at hy
    cases hy
    exact hx
  · rw [List.getElem?_set_ne (Ne.symm hi)] at hy
    exact (hH.2 i y hy).kept (oq _ (by show b + i ≠ b + j; omega))
theorem wn_H_push {b : Nat} {cA : Nat → ClassId} {D : va_G} {h : List wn_C} {H H1 : Heap} {x : wn_C} (hH : wn_H b cA D h H) (hx : va_at D wc_cls (b + h.length, wn_cc b cA x) H1) (z : H1.size = H.size + 1) (oq : ∀ q : Nat, q < H.size → H1[q]? = H[q]?) : wn_H b cA D (h ++ [x]) H1 := by
  refine ⟨by rw [z, hH.1, List.length_append]; rfl, fun i y hy => ?_⟩
  by_cases hi : i < h.length
  · rw [List.getElem?_append_left hi] at hy
    exact (hH.2 i y hy).kept (oq _ (by rw [hH.1]; show b + i < _; omega))
  · rw [List.getElem?_append_right (by omega)] at hy
    have hz : i - h.length < 1 := (List.getElem?_eq_some_iff.mp hy).1
    have hi2 : i = h.length := by omega
    subst hi2
    rw [Nat.sub_self] at hy
    cases hy
    exact hx
theorem wn_dv0 : ∀ c, c < 8 → ∀ j, j < wc_nf c → defaultValue (wc_ty c j) = wn_cv 0 (wn_dv c j) := by decide +kernel
theorem wn_dvb (b c j : Nat) : wn_cv b (wn_dv c j) = wn_cv 0 (wn_dv c j) := by
  unfold wn_dv
  split <;> rfl
def wn_W (cA : Nat → ClassId) (D : va_G) (U : State) : Prop := va_K D wc_cls (wc_tys cA) U ∧ (∀ q ∈ wn_nl, va_Nw (.methodLinkNest (wc_cn q.1) q.2.1 (wn_y q.2.2) "WindCarver") U) ∧ va_AO "WindCarver$Row" U ∧ va_AO "WindCarver$Pass" U
theorem wn_W.moved {cA : Nat → ClassId} {D : va_G} {u U : State} (hW : u.WarmedH U.vm) (h : wn_W cA D u) : wn_W cA D U := ⟨va_K.moved hW.alike h.1, fun q hq => (h.2.1 q hq).warmM hW, h.2.2.1.moved hW.alike, h.2.2.2.moved hW.alike⟩
theorem wn_W.same {cA : Nat → ClassId} {D : va_G} {u U : State} (hv : u.vm = U.vm) (h : wn_W cA D u) : wn_W cA D U := by
  have ha : u.vm.Alike U.vm := by rw [hv]; exact Vm.Alike.refl _
  exact ⟨va_K.moved ha h.1, fun q hq => va_Nw.same rfl hv (h.2.1 q hq), h.2.2.1.moved ha, h.2.2.2.moved ha⟩
section WNS
variable {p : Program} {l : Launch} {e : Env} {R : Room} {s : State} {m : MethodId} {args : Array Value} {below : List Frame} {meth : Method} {c : Code} {Q : State → Prop}
variable {b : Nat} {cA : Nat → ClassId} {D : va_G} {o nL dep : Nat} {bytes : ByteArray} {cd : List wc_E} {tt : Nat → Nat}
def wn_A (b : Nat) : Nat → Prop := fun q => b ≤ q
def wn_Cx (p : Program) (R : Room) (s : State) (m : MethodId) (args : Array Value) (meth : Method) (c : Code) (b : Nat) (cA : Nat → ClassId) (D : va_G) (o nL dep : Nat) (bytes : ByteArray) : Prop :=
  p.tables.exec = Jvm.exec ∧ c.code = bytes ∧ c.maxLocals = nL ∧ s.vm.findClass (wc_cn o) = some m.cls ∧ (∀ w ∈ wc_tw, w.before args s = true) ∧ wn_W cA D s ∧ (dep + 1 ≤ R.frames ∧ 40 * (dep + 1) ≤ R.locals) ∧ (o < 8 → meth.name = "<init>") ∧ b ≤ s.heap.size
def wn_At (p : Program) (l : Launch) (e : Env) (R : Room) (s : State) (m : MethodId) (args : Array Value) (below : List Frame) (meth : Method) (c : Code) (Q : State → Prop) (b : Nat) (tt : Nat → Nat) (cA : Nat → ClassId) (D : va_G) (nL : Nat) (cd : List wc_E) (i : Nat) (L : wc_L) (st : List wc_V) (h : List wn_C) (nc ns : Nat) : Prop :=
  ∀ (H : Heap) (locs : List Loc) (ls : Array Slot), wn_H b cA D h H → va_S (wn_A b) s.heap H locs → wc_lv (wn_ad b tt) nL L ls → W p l e R s m args below meth c H locs nc ns Q (F0 m (wc_pc cd i) ls (st.map (wc_cv (wn_ad b tt))))
theorem wn_fit_ok {c1 s1 : Nat} {v : wc_V} {x : wn_V} (h : wn_fit c1 s1 v = some x) : wn_cv b x = wc_cv (wn_ad b tt) v ∧ narrow (wc_ty c1 s1) (wc_cv (wn_ad b tt) v) = wc_cv (wn_ad b tt) v ∧ fits (wc_ty c1 s1) (wc_cv (wn_ad b tt) v) = true := by
  unfold wn_fit at h
  split at h
  · rename_i x1 ht; cases h; rw [ht]; exact ⟨rfl, rfl, rfl⟩
  · rename_i x1 ht
    split at h
    · rename_i h0; cases h; rw [ht]; subst h0; exact ⟨rfl, rfl, rfl⟩
    · cases h
  · rename_i C i ht; cases h; rw [ht]; exact ⟨rfl, rfl, rfl⟩
  · rename_i C i ht; cases h; rw [ht]; exact ⟨rfl, rfl, rfl⟩
  · cases h
theorem wn_mono {i i' : Nat} {L L' : wc_L} {st st' : List wc_V} {h h' : List wn_C} {nc ns nc' ns' : Nat} (hq : wn_stp o cd i L st h nc ns = some (i', L', st', h', nc', ns')) : nc ≤ nc' ∧ ns ≤ ns' := by
  unfold wn_stp at hq
  split at hq
  · cases hq
  · split at hq
    all_goals (repeat' split at hq)
    all_goals first | (cases hq; done) | (simp only [Option.some.injEq, Prod.mk.injEq] at hq; omega)
theorem wn_stp_ok {i i' : Nat} {L L' : wc_L} {st st' : List wc_V} {h h' : List wn_C} {nc ns nc' ns' : Nat} (hC : wn_Cx p R s m args meth c b cA D o nL dep bytes) (hg : wn_good o bytes cd) (hq : wn_stp o cd i L st h nc ns = some (i', L', st', h', nc', ns')) (hcc : nc' ≤ R.cells) (hss : ns' ≤ R.slots)
    (k : wn_At p l e R s m args below meth c Q b tt cA D nL cd i' L' st' h' nc' ns') : wn_At p l e R s m args below meth c Q b tt cA D nL cd i L st h nc ns := by
  obtain ⟨hx, hb, hml, hown, hts, ⟨hK, hNw, hAO1, hAO2⟩, ⟨hfr, hlo⟩, hnm, hbs⟩ := hC
  rcases hcd : cd[i]? with _ | ⟨pc, ins, len, tg, ct, cl⟩
  · unfold wn_stp at hq
    rw [hcd] at hq
    cases hq
  obtain ⟨hdec, hlen, hlnk, hnx⟩ := hg i pc ins len tg ct cl hcd
  have hpc : wc_pc cd i = pc := by unfold wc_pc; rw [hcd]
  intro H locs ls hH hS hl
  rw [hpc]
  have lg : ∀ {n : Nat} {v : wc_V}, L[n]? = some (some v) → ls[n]? = some (.val (wc_cv (wn_ad b tt) v)) := fun {n v} hv => hl.2.2.2 n v hv
  have hA : ∀ j, wn_A b (b + j) := fun j => Nat.le_add_right _ _
  have hSn : ∀ {H1 : Heap}, H1.size = H.size + 1 → (∀ q : Nat, q < H.size → H1[q]? = H[q]?) → va_S (wn_A b) s.heap H1 locs := fun {H1} z1 o1 => ⟨Nat.le_trans hS.1 (by omega), fun x h1 h2 => (o1 x (Nat.lt_of_lt_of_le h1 hS.1)).trans (hS.2.1 x h1 h2), hS.2.2⟩
  have hK1 := hK.2 0 _ rfl
  have hK2 := hK.2 1 _ rfl
  have hK3 := hK.2 2 _ rfl
  have hK4 := hK.2 3 _ rfl
  unfold wn_stp at hq
  rw [hcd] at hq
  cases ins
  case iconst n =>
    cases hq
    have hn : wc_pc cd (i + 1) = pc + 1 := by rw [hlen] at hnx; exact Nat.eq_of_beq_eq_true hnx
    rw [hlen] at hdec
    have k := k H locs ls hH hS hl
    rw [hn] at k
    exact lv_iconst hx hb hdec (of_decide_eq_true hlnk) k
  case bipush n =>
    cases hq
    have hn : wc_pc cd (i + 1) = pc + 2 := by rw [hlen] at hnx; exact Nat.eq_of_beq_eq_true hnx
    rw [hlen] at hdec
    have k := k H locs ls hH hS hl
    rw [hn] at k
    exact lv_bipush hx hb hdec (of_decide_eq_true hlnk) k
  case sipush n =>
    cases hq
    have hn : wc_pc cd (i + 1) = pc + 3 := by rw [hlen] at hnx; exact Nat.eq_of_beq_eq_true hnx
    rw [hlen] at hdec
    have k := k H locs ls hH hS hl
    rw [hn] at k
    exact lv_sipush hx hb hdec (of_decide_eq_true hlnk) k
  case iload_n n =>
    dsimp only at hq
    split at hq
    · rename_i v hv
      cases hq
      have hn : wc_pc cd (i + 1) = pc + 1 := by rw [hlen] at hnx; exact Nat.eq_of_beq_eq_true hnx
      rw [hlen] at hdec
      have k := k H locs ls hH hS hl
      rw [hn] at k
      exact lv_iload_n hx hb hdec rfl (lg hv) k
    · cases hq
  case aload_n n =>
    dsimp only at hq
    split at hq
    · rename_i v hv
      cases hq
      have hn : wc_pc cd (i + 1) = pc + 1 := by rw [hlen] at hnx; exact Nat.eq_of_beq_eq_true hnx
      rw [hlen] at hdec
      have k := k H locs ls hH hS hl
      rw [hn] at k
      exact lv_aload_n hx hb hdec rfl (lg hv) k
    · cases hq
  case istore_n n =>
    dsimp only at hq
    split at hq
    · rename_i v r
      split at hq
      · rename_i hc
        simp only [Bool.and_eq_true] at hc
        obtain ⟨hno, hlt⟩ := hc
        cases hq
        have hn : wc_pc cd (i + 1) = pc + 1 := by rw [hlen] at hnx; exact Nat.eq_of_beq_eq_true hnx
        rw [hlen] at hdec
        exact lv_istore_n hx hb hdec rfl (wc_lv_has hl) (by rw [← hl.2.2.1]; exact Nat.blt_eq.mp hlt) rfl (fun ls1 h1 => by
          have k := k H locs ls1 hH hS (wc_lv_set (v := .inl v) hl.2.2.1 hno h1)
          rw [hn] at k
          exact k)
      · cases hq
    · cases hq
  case astore_n n =>
    dsimp only at hq
    split at hq
    · rename_i v r
      split at hq
      · rename_i hc
        simp only [Bool.and_eq_true] at hc
        obtain ⟨hno, hlt⟩ := hc
        cases hq
        have hn : wc_pc cd (i + 1) = pc + 1 := by rw [hlen] at hnx; exact Nat.eq_of_beq_eq_true hnx
        rw [hlen] at hdec
        exact lv_astore_n hx hb hdec rfl (wc_lv_has hl) (by rw [← hl.2.2.1]; exact Nat.blt_eq.mp hlt) rfl (fun ls1 h1 => by
          have k := k H locs ls1 hH hS (wc_lv_set (v := .inr (.inl v)) hl.2.2.1 hno h1)
          rw [hn] at k
          exact k)
      · cases hq
    · cases hq
  case iinc n q =>
    dsimp only at hq
    split at hq
    · rename_i v hv
      split at hq
      · rename_i hno
        cases hq
        have hn : wc_pc cd (i + 1) = pc + 3 := by rw [hlen] at hnx; exact Nat.eq_of_beq_eq_true hnx
        rw [hlen] at hdec
        obtain ⟨k0, hk0⟩ := List.getElem?_of_mem (wc_lp_in (ad := wn_ad b tt) (L := L) (q := (n, .int v)) |>.mpr ⟨.inl v, hv, rfl⟩)
        exact lv_iinc (v := v + ct) hx hb hdec (wc_lv_has hl) (k := k0) hk0 (by rw [of_decide_eq_true hlnk]) (by rw [← hl.2.2.1]; exact (List.getElem?_eq_some_iff.mp hv).1) rfl (fun ls1 h1 => by
          have k := k H locs ls1 hH hS (wc_lv_set (v := .inl (v + ct)) hl.2.2.1 hno h1)
          rw [hn] at k
          exact k)
      · cases hq
    · cases hq
  case dup =>
    dsimp only at hq
    split at hq
    · cases hq
      have hn : wc_pc cd (i + 1) = pc + 1 := by rw [hlen] at hnx; exact Nat.eq_of_beq_eq_true hnx
      rw [hlen] at hdec
      have k := k H locs ls hH hS hl
      rw [hn] at k
      exact lv_dup hx hb hdec rfl k
    · cases hq
  case goto n =>
    dsimp only at hq
    split at hq
    · rename_i t
      cases hq
      rw [hlen] at hdec
      have k := k H locs ls hH hS hl
      exact lv_goto hx hb hdec (of_decide_eq_true hnx) k
    · cases hq
  case if_icmp cnd n =>
    cases cnd
    case ge =>
      dsimp only at hq
      split at hq
      · rename_i t y x r
        cases hq
        have hnx2 := (Bool.and_eq_true _ _).mp hnx
        have ht := of_decide_eq_true hnx2.1
        have hn := Nat.eq_of_beq_eq_true hnx2.2
        rw [hlen] at hdec
        have k := k H locs ls hH hS hl
        refine lv_icmp_ge hx hb hdec ht (fun z => ?_) (fun z => ?_)
        · rw [if_pos z] at k
          exact k
        · rw [if_neg z, hn] at k
          exact k
      · cases hq
    all_goals cases hq
  case new n =>
    dsimp only at hq
    split at hq
    · rename_i c1
      split at hq
      · rename_i h8
        have h8 := Nat.blt_eq.mp h8
        cases hq
        have hn : wc_pc cd (i + 1) = pc + 3 := by rw [hlen] at hnx; exact Nat.eq_of_beq_eq_true hnx
        rw [hlen] at hdec
        have hKn := hK.1 c1 _ (wc_cls_at h8)
        refine W.newcK hx hb hown (hts _ (wn_cl_ok _ (of_decide_eq_true hlnk))) (hts _ (wn_it_ok h8)) (hts _ (wc_in_ok h8)) rfl hdec (by omega) (by omega) hKn.2.1 hH.1 (fun H1 kC hkC e1 z1 o1 => ?_)
        have hP1 : va_at D wc_cls (b + h.length, wn_cc b cA (.inl (c1, (List.range (wc_nf c1)).map (wn_dv c1)))) H1 := by
          refine ⟨_, wc_cls_at h8, (u_born (wc_ty c1) hts (wc_lay_ok h8) hKn hkC e1 (wc_ty_ok c1 h8)).to (fun j hj => ?_)⟩
          show defaultValue (wc_ty c1 j) = vp_V (((List.range (wc_nf c1)).map (wn_dv c1)).map (wn_cv b)) j
          unfold vp_V
          rw [List.getD_eq_getElem?_getD, List.getElem?_map, List.getElem?_map, List.getElem?_range hj]
          show _ = wn_cv b (wn_dv c1 j)
          rw [wn_dvb]
          exact wn_dv0 c1 h8 j hj
        have k := k H1 locs ls (wn_H_push hH hP1 (by rw [z1, hH.1]) (by rw [hH.1]; exact o1)) (hSn (by rw [z1, hH.1]) (by rw [hH.1]; exact o1)) hl
        rw [hn] at k
        exact k
      · cases hq
    · cases hq
  case newarray ty =>
    dsimp only at hq
    split at hq
    · rename_i n r
      split at hq
      · rename_i hc
        simp only [Bool.and_eq_true, decide_eq_true_eq] at hc
        have h4 := Nat.ble_eq.mp hc.2
        cases hq
        have hn : wc_pc cd (i + 1) = pc + 2 := by rw [hlen] at hnx; exact Nat.eq_of_beq_eq_true hnx
        rw [hlen] at hdec
        refine va_newaK (atype := .int) hx hb (hts _ (wc_tl (wn_ac (by simp [newarray.typeOf])) rfl)) rfl hdec rfl hc.1 rfl (by show n.toNatClampNeg * componentBytes .int ≤ 536870912; simp only [componentBytes]; omega) (by omega) (by omega) hH.1 (fun H1 cA1 e1 z1 o1 hAr hNm => ?_)
        have hcA : cA1 = cA 0 := by
          have h9 := hK1.2
          exact Option.some.inj (hNm.symm.trans h9)
        subst hcA
        have k := k H1 locs ls (wn_H_push hH e1 (by rw [z1, hH.1]) (by rw [hH.1]; exact o1)) (hSn (by rw [z1, hH.1]) (by rw [hH.1]; exact o1)) hl
        rw [hn] at k
        exact k
      · cases hq
    · rename_i n r
      split at hq
      · rename_i hc
        simp only [Bool.and_eq_true, decide_eq_true_eq] at hc
        have h4 := Nat.ble_eq.mp hc.2
        cases hq
        have hn : wc_pc cd (i + 1) = pc + 2 := by rw [hlen] at hnx; exact Nat.eq_of_beq_eq_true hnx
        rw [hlen] at hdec
        refine va_newaK (atype := .boolean) hx hb (hts _ (wc_tl (wn_ac (by simp [newarray.typeOf])) rfl)) rfl hdec rfl hc.1 rfl (by show n.toNatClampNeg * componentBytes .boolean ≤ 536870912; simp only [componentBytes]; omega) (by omega) (by omega) hH.1 (fun H1 cA1 e1 z1 o1 hAr hNm => ?_)
        have hcA : cA1 = cA 1 := by
          have h9 := hK2.2
          exact Option.some.inj (hNm.symm.trans h9)
        subst hcA
        have k := k H1 locs ls (wn_H_push hH e1 (by rw [z1, hH.1]) (by rw [hH.1]; exact o1)) (hSn (by rw [z1, hH.1]) (by rw [hH.1]; exact o1)) hl
        rw [hn] at k
        exact k
      · cases hq
    · cases hq
  case anewarray idx =>
    dsimp only at hq
    split at hq
    · rename_i n r
      split at hq
      · rename_i hc
        simp only [Bool.and_eq_true, decide_eq_true_eq] at hc
        have h4 := Nat.ble_eq.mp hc.2
        cases hq
        have hn : wc_pc cd (i + 1) = pc + 3 := by rw [hlen] at hnx; exact Nat.eq_of_beq_eq_true hnx
        rw [hlen] at hdec
        have hlk : (o, idx, 1) ∈ wn_cl := by
          unfold wn_lnk at hlnk
          simpa using hlnk
        refine W.anew (C := "WindCarver$Row") hx hb hown (hts _ (wn_cl_ok _ hlk)) (va_AO.use hAO1) rfl hdec rfl hc.1 (by omega) (by omega) (by omega) (fun cA1 kA comp f1 f2 f3 f4 => ?_)
        obtain ⟨kA2, comp2, g1, g2, g3, g4⟩ := hK3.2
        have hcA : cA1 = cA 2 := Option.some.inj (f1.symm.trans g4)
        subst hcA
        generalize hH1 : H.push ({ cls := cA 2, slots := Array.replicate n.toNatClampNeg .null, vm := .none } : Cell) = H1
        have z1 : H1.size = H.size + 1 := by rw [← hH1, Array.size_push]
        have e1 : H1[b + h.length]? = some (arrV (cA 2) n.toNatClampNeg (fun _ => .null)) := by rw [← hH.1, ← hH1, Array.getElem?_push_size, ← arrV_new]
        have o1 : ∀ q : Nat, q < H.size → H1[q]? = H[q]? := fun q hq => by rw [← hH1, Array.getElem?_push, if_neg (Nat.ne_of_lt hq)]
        have hP1 : va_at D wc_cls (b + h.length, wn_cc b cA (.inr (2, n.toNatClampNeg, .inr (fun _ => none)))) H1 := by
          show H1[b + h.length]? = some (vp_cell _ _)
          rw [e1]
          rfl
        have k := k H1 locs ls (wn_H_push hH hP1 z1 o1) (hSn z1 o1) hl
        rw [hn] at k
        rw [hH.1]
        exact k
      · cases hq
    · rename_i n r
      split at hq
      · rename_i hc
        simp only [Bool.and_eq_true, decide_eq_true_eq] at hc
        have h4 := Nat.ble_eq.mp hc.2
        cases hq
        have hn : wc_pc cd (i + 1) = pc + 3 := by rw [hlen] at hnx; exact Nat.eq_of_beq_eq_true hnx
        rw [hlen] at hdec
        have hlk : (o, idx, 3) ∈ wn_cl := by
          unfold wn_lnk at hlnk
          simpa using hlnk
        refine W.anew (C := "WindCarver$Pass") hx hb hown (hts _ (wn_cl_ok _ hlk)) (va_AO.use hAO2) rfl hdec rfl hc.1 (by omega) (by omega) (by omega) (fun cA1 kA comp f1 f2 f3 f4 => ?_)
        obtain ⟨kA2, comp2, g1, g2, g3, g4⟩ := hK4.2
        have hcA : cA1 = cA 3 := Option.some.inj (f1.symm.trans g4)
        subst hcA
        generalize hH1 : H.push ({ cls := cA 3, slots := Array.replicate n.toNatClampNeg .null, vm := .none } : Cell) = H1
        have z1 : H1.size = H.size + 1 := by rw [← hH1, Array.size_push]
        have e1 : H1[b + h.length]? = some (arrV (cA 3) n.toNatClampNeg (fun _ => .null)) := by rw [← hH.1, ← hH1, Array.getElem?_push_size, ← arrV_new]
        have o1 : ∀ q : Nat, q < H.size → H1[q]? = H[q]? := fun q hq => by rw [← hH1, Array.getElem?_push, if_neg (Nat.ne_of_lt hq)]
        have hP1 : va_at D wc_cls (b + h.length, wn_cc b cA (.inr (3, n.toNatClampNeg, .inr (fun _ => none)))) H1 := by
          show H1[b + h.length]? = some (vp_cell _ _)
          rw [e1]
          rfl
        have k := k H1 locs ls (wn_H_push hH hP1 z1 o1) (hSn z1 o1) hl
        rw [hn] at k
        rw [hH.1]
        exact k
      · cases hq
    · cases hq
  case getfield n =>
    dsimp only at hq
    split at hq
    · rename_i c1 s1 j1 r
      split at hq
      · rename_i c2 vs hj
        split at hq
        · rename_i hc
          simp only [Bool.and_eq_true] at hc
          have hcc := Nat.eq_of_beq_eq_true hc.1.1
          subst hcc
          have hlt := Nat.blt_eq.mp hc.1.2
          have h8 := Nat.blt_eq.mp hc.2
          have hn : wc_pc cd (i + 1) = pc + 3 := by rw [hlen] at hnx; exact Nat.eq_of_beq_eq_true hnx
          rw [hlen] at hdec
          have hP1 : va_P D wc_cls [(b + j1, .inr (c1, vs.map (wn_cv b)))] H := fun q x hx => by
            have hz : q < 1 := (List.getElem?_eq_some_iff.mp hx).1
            rw [show q = 0 by omega] at hx
            cases hx
            exact hH.2 j1 _ hj
          have hlk : Jvm.Cond.fieldLink (wc_cn o) n (wc_cn c1) (wc_F c1 s1).2.1 (wc_F c1 s1).2.2.1 ∈ wc_tw := wc_fl_ok _ (of_decide_eq_true hlnk)
          have go : ∀ (v : wn_V) (w : Value), vs[s1]? = some v → wn_cv b v = w → W p l e R s m args below meth c H locs nc ns Q (F0 m (pc + 3) ls (w :: r.map (wc_cv (wn_ad b tt)))) → W p l e R s m args below meth c H locs nc ns Q (F0 m pc ls (.ref (b + j1) :: r.map (wc_cv (wn_ad b tt)))) := fun v w hv hw kk =>
            va_get (D := D) (ci := c1) (v := w) (C := wc_cn c1) (T := wc_F c1) (N := wc_nf c1) hx hb hts (wc_lay_ok h8) hown hK hP1 0 rfl (wc_cls_at h8) s1 hlt (hts _ hlk) (fun _ h9 => by rw [wc_F1 c1 h8 s1 hlt] at h9; exact h9) (by rw [List.getElem?_map, hv]; show some (wn_cv b v) = some w; rw [hw]) hdec kk
          split at hq
          · rename_i v hv
            cases hq
            have k := k H locs ls hH hS hl
            rw [hn] at k
            exact go _ _ hv rfl k
          · rename_i q1 hv
            cases hq
            have k := k H locs ls hH hS hl
            rw [hn] at k
            exact go _ _ hv rfl k
          · cases hq
        · cases hq
      · cases hq
    · cases hq
  case putfield n =>
    dsimp only at hq
    split at hq
    · rename_i c1 s1 v j1 r
      split at hq
      · rename_i c2 vs hj
        split at hq
        · rename_i hc
          simp only [Bool.and_eq_true] at hc
          have hcc := Nat.eq_of_beq_eq_true hc.1.1.1.1
          subst hcc
          have hlt := Nat.blt_eq.mp hc.1.1.1.2
          have h8 := Nat.blt_eq.mp hc.1.1.2
          have hoc := Nat.eq_of_beq_eq_true hc.1.2
          subst hoc
          have hvl := Nat.blt_eq.mp hc.2
          have hn : wc_pc cd (i + 1) = pc + 3 := by rw [hlen] at hnx; exact Nat.eq_of_beq_eq_true hnx
          rw [hlen] at hdec
          have hlk : Jvm.Cond.fieldLink (wc_cn o) n (wc_cn o) (wc_F o s1).2.1 (wc_F o s1).2.2.1 ∈ wc_tw := wc_fl_ok _ (of_decide_eq_true hlnk)
          split at hq
          · rename_i x hfx
            cases hq
            obtain ⟨hcv, hnar, hfit⟩ := wn_fit_ok (b := b) (tt := tt) hfx
            have hap := va_apart (own := wc_cn o) (D := D) (ci := o) hts (wc_lay_ok h8) (wc_ty o) (wc_ty_ok o h8) (wc_nm o h8) hK (wc_cls_at h8)
            obtain ⟨r0, h1, cell, q1, q2, q3, q4⟩ := hH.2 j1 _ hj
            have hr : r0 = (wc_cn o, wc_F o, wc_nf o) := Option.some.inj (h1.symm.trans (wc_cls_at h8))
            subst hr
            obtain ⟨hSl, hfc, kC, hkC, hkind⟩ := hK.1 o _ (wc_cls_at h8)
            obtain ⟨cf, kf, fi, f, hi, hsl⟩ := hSl s1 hlt
            have hlay := hts _ (wc_lay_ok h8 _ (u_in_lay hlt))
            have hst := (u_facts hfc hkC (u_lays hts (wc_lay_ok h8) hlt) hi).1
            have hsame : s.fieldFound? (wc_cn o) (wc_F o s1).2.1 (wc_F o s1).2.2.1 = some (cf, kf, fi, f) := by rw [wc_F1 o h8 s1 hlt] at hi; exact hi
            have fin : ∀ H1 : Heap, H1[b + j1]? = some (cell.setSlot f.slot (wc_cv (wn_ad b tt) v)) → H1.size = H.size → (∀ q, q ≠ b + j1 → H1[q]? = H[q]?) → W p l e R s m args below meth c H1 (locs ++ [⟨b + j1, f.slot⟩]) nc ns Q (F0 m (pc + 3) ls (st'.map (wc_cv (wn_ad b tt)))) := fun H1 e1 e2 e3 => by
              have k := k H1 (locs ++ [⟨b + j1, f.slot⟩]) ls (wn_H_set hH hj ?_ e2 e3) (hS.put e2 e3 (hA j1)) hl
              · rw [hn] at k
                exact k
              · refine ⟨_, wc_cls_at h8, t_OB.to (V := updV (vp_V (vs.map (wn_cv b))) s1 (wc_cv (wn_ad b tt) v)) ⟨_, e1, q2, q3, ?_⟩ (fun j _ => ?_)⟩
                · rw [hsl]
                  exact t_set q4 hap hlt _
                · rw [vp_updV_set (by simpa using hvl), ← hcv]
                  show vp_V _ j = vp_V ((vs.set s1 x).map (wn_cv b)) j
                  rw [List.map_set]
            unfold u_lay at hlay
            split at hlay
            · rename_i hfi
              have hcf : m.cls = cf := by
                obtain ⟨_, _, c', _, _, _, -, -, hf', -, -, -, hown2, -⟩ := Cond.laysFinal_spec hlay
                have e1 : c' = cf := by have := hi.symm.trans hf'; simp at this; exact this.1.symm
                rw [wc_F1 o h8 s1 hlt] at hown2
                rw [← e1]; exact Option.some.inj (hown.symm.trans hown2)
              have h6 := u_fits hfc hkC hkind (Or.inr hlay) hi (wc_ty_ok o h8 s1 hlt) hnar hfit
              exact W.putFinK hx hb hown (hts _ hlk) hsame hst hcf (hnm h8) (by rw [q2]; exact h6) q1 q3 (by rw [hsl]; exact k2_hasslot (q4 s1 hlt)) rfl rfl hdec fin
            · have h6 := u_store hfc hkC hkind hlay hi (wc_ty_ok o h8 s1 hlt) hnar hfit
              exact W.putK hx hb (f := f) ⟨hown, hts _ hlk, ⟨_, _, _, hsame⟩, hst⟩ (by rw [q2]; exact h6) q1 q3 (by rw [hsl]; exact k2_hasslot (q4 s1 hlt)) rfl rfl hdec fin
          · cases hq
        · cases hq
      · cases hq
    · cases hq
  case aastore =>
    dsimp only at hq
    split at hq
    · rename_i v k1 j1 r
      split at hq
      · rename_i t n g c1 vs hj hv
        split at hq
        · rename_i hc
          simp only [Bool.and_eq_true, Bool.or_eq_true] at hc
          obtain ⟨htc, hib⟩ := hc
          have hin := wib_in hib
          cases hq
          have hn : wc_pc cd (i + 1) = pc + 1 := by rw [hlen] at hnx; exact Nat.eq_of_beq_eq_true hnx
          rw [hlen] at hdec
          have h0 : ¬ k1 < 0 := fun z => hin (Or.inl z)
          have hlt : k1.toNatClampNeg < n := Nat.not_le.mp fun z => hin (Or.inr z)
          have harr : ∃ (C : String) (kA : Class) (comp : ClassId), s.vm.classes[cA t]? = some kA ∧ kA.kind = .array comp (.object C) ∧ s.vm.findClass C = some comp ∧ C = wc_cn c1 ∧ c1 < 8 := by
            rcases htc with ⟨h1, h2⟩ | ⟨h1, h2⟩
            · have h1 := Nat.eq_of_beq_eq_true h1
              have h2 := Nat.eq_of_beq_eq_true h2
              subst h1
              subst h2
              obtain ⟨kA, comp, g1, g2, g3, -⟩ := hK3.2
              exact ⟨_, kA, comp, g1, g2, g3, rfl, by decide⟩
            · have h1 := Nat.eq_of_beq_eq_true h1
              have h2 := Nat.eq_of_beq_eq_true h2
              subst h1
              subst h2
              obtain ⟨kA, comp, g1, g2, g3, -⟩ := hK4.2
              exact ⟨_, kA, comp, g1, g2, g3, rfl, by decide⟩
          obtain ⟨C, kA, comp, m1, m2, m3, m4, h8⟩ := harr
          have hcl := (hK.1 c1 _ (wc_cls_at h8)).2
          have hcomp : comp = D.1 c1 := by rw [m4] at m3; exact Option.some.inj (m3.symm.trans hcl.1)
          subst hcomp
          obtain ⟨kC, hkC, -⟩ := hcl.2
          obtain ⟨r1, hr1, cellV, g1, g2, g3, -⟩ := hH.2 v _ hv
          have hcell : H[b + j1]? = some (vp_cell (cA t) (n, .inr (.inr (.inr (.inr (fun s => (g s).map (fun i => b + i))))))) := hH.2 j1 _ hj
          refine W.aast hx hb hcell (fun q h => by cases h) (fun h => by cases h) m1 m2 rfl hkC ⟨h0, by show _ < (arrV _ _ _).slots.size; rw [arrV_size]; exact hlt⟩ g1 (fun q h => by rw [g3] at h; cases h) (by rw [g2]; exact hkC) (by rw [g2]; exact va_assign hcl) rfl rfl hdec (fun H1 e z oq => ?_)
          have k := k H1 (locs ++ [⟨b + j1, k1.toNatClampNeg⟩]) ls (wn_H_set hH hj ?_ z oq) (hS.put z oq (hA j1)) hl
          · rw [hn] at k
            exact k
          · show H1[b + j1]? = some (vp_cell _ _)
            rw [e]
            rw [vp_cell_q, vp_cell_q, arrV_store]
            congr 2
            funext q
            by_cases hqq : q = k1.toNatClampNeg
            · subst hqq
              simp [updV, va_up, va_rf]
            · simp [updV, va_up, hqq]
        · cases hq
      · cases hq
    · cases hq
  case iastore =>
    dsimp only at hq
    split at hq
    · rename_i v k1 j1 r
      split at hq
      · rename_i n f hj
        split at hq
        · rename_i hib
          have hin := wib_in hib
          cases hq
          have hn : wc_pc cd (i + 1) = pc + 1 := by rw [hlen] at hnx; exact Nat.eq_of_beq_eq_true hnx
          rw [hlen] at hdec
          have hcell : H[b + j1]? = some (vp_cell (cA 0) (n, .inl f)) := hH.2 j1 _ hj
          refine W.iast hx hb hcell (hK1.1 n (fun j => .int (f j))) (fun q => by cases q) (by show ¬ (k1 < 0 ∨ (arrV _ _ _).slots.size ≤ _); rw [arrV_size]; exact hin) rfl rfl hdec (fun H1 e z oq => ?_)
          have k := k H1 (locs ++ [⟨b + j1, k1.toNatClampNeg⟩]) ls (wn_H_set hH hj ?_ z oq) (hS.put z oq (hA j1)) hl
          · rw [hn] at k
            exact k
          · show H1[b + j1]? = some (vp_cell _ _)
            rw [e]
            rw [vp_cell_i, vp_cell_i, arrV_store]
            congr 2
            funext q
            by_cases hqq : q = k1.toNatClampNeg
            · subst hqq
              simp [updV, upd]
            · simp [updV, upd, hqq]
        · cases hq
      · cases hq
    · cases hq
  all_goals cases hq
end WNS
end
section
/-! THE MAKER's runs are the machine's: constructors by contract -/
def wn_rm (d mc ms : Nat) : Room := { frames := d, cells := mc, slots := ms, locals := 40 * d }
def wn_wsm (c : Nat) : List Jvm.Cond := wn_mc c :: wc_tw
def wn_Pw (b : Nat) (cA : Nat → ClassId) (D : va_G) (h : List wn_C) (U : State) : Prop := wn_H b cA D h U.heap ∧ wn_W cA D U
def wn_Pc (b : Nat) (cA : Nat → ClassId) (D : va_G) (j : Nat) (h : List wn_C) : Array Value → State → Prop := va_Pc [.ref (b + j)] (wn_Pw b cA D h)
def wn_Qc (b : Nat) (cA : Nat → ClassId) (D : va_G) (h : List wn_C) : Array Value → State → Outcome → State → Prop := va_Qv (fun _ : Unit => True) (fun _ t => wn_H b cA D h t.heap) (wn_A b)
def wn_SS (l : Launch) (b : Nat) (cA : Nat → ClassId) (D : va_G) (d : Nat) (S : wn_S) : Prop :=
  ∀ (c j : Nat) (h h' : List wn_C) (mc ms : Nat), c < 8 → S c j h = some (h', mc, ms) → Met l (wn_y c) (wn_wsm c) (wn_rm d mc ms) (wn_Pc b cA D j h) (wn_Qc b cA D h') mc ms (wn_A b)
theorem wn_blind {b : Nat} {cA : Nat → ClassId} {D : va_G} {j : Nat} {h : List wn_C} : FrameBlind (wn_Pc b cA D j h) := fun a U g mk q => ⟨q.1, q.2.1, q.2.2.same (u := U) (U := U.calling g mk a) rfl⟩
theorem wn_good_in {c : Nat} (hc : c < 8) : GoodIn wc_tw (wn_wsm c) := fun w hw => by
  rcases List.mem_cons.mp hw with h | h
  · subst h; exact ⟨wn_mc_ok hc, good_of_word (wc_goodw _ (wn_mc_ok hc))⟩
  · exact ⟨h, good_of_word (wc_goodw _ h)⟩
theorem wn_y_ok : ∀ c, c < 8 → plainName (wn_y c).cls = true ∧ ((wn_y c).cls ≠ "java/lang/invoke/MethodHandle" ∧ (wn_y c).cls ≠ "java/lang/invoke/VarHandle") ∧ (parseMethodDescriptor (wn_y c).desc).map (fun d => d.parameters.length) = some 0 := by decide +kernel
theorem wn_mL_ok : ∀ c, c < 8 → wn_mL c ≤ 12 := by decide +kernel
theorem wn_lp_mono {S : wn_S} {o : Nat} {cd : List wc_E} : ∀ (n i : Nat) (L : wc_L) (st : List wc_V) (h : List wn_C) (nc ns : Nat) (h' : List wn_C) (mc ms : Nat), wn_lp S o cd n i L st h nc ns = some (h', mc, ms) → nc ≤ mc ∧ ns ≤ ms
  | 0, _, _, _, _, _, _, _, _, _, hq => nomatch hq
  | n + 1, i, L, st, h, nc, ns, h', mc, ms, hq => by
    have ih := wn_lp_mono (S := S) (o := o) (cd := cd) n
    unfold wn_lp at hq
    split at hq
    · split at hq
      · cases hq
        exact ⟨Nat.le_refl _, Nat.le_refl _⟩
      · cases hq
    · split at hq
      · split at hq
        · split at hq
          · exact ih _ _ _ _ _ _ _ _ _ hq
          · cases hq
        · split at hq
          · split at hq
            · have := ih _ _ _ _ _ _ _ _ _ hq
              omega
            · cases hq
          · cases hq
      · cases hq
    · split at hq
      · rename_i h2
        have h1 := wn_mono h2
        have h3 := ih _ _ _ _ _ _ _ _ _ hq
        omega
      · cases hq
section WNL
variable {p : Program} {l : Launch} {e : Env} {R : Room} {s : State} {m : MethodId} {args : Array Value} {below : List Frame} {meth : Method} {c : Code} {Q : State → Prop}
variable {b : Nat} {cA : Nat → ClassId} {D : va_G} {o nL dep : Nat} {bytes : ByteArray} {cd : List wc_E} {tt : Nat → Nat}
theorem wn_call {i pc idx t j : Nat} {L : wc_L} {r : List wc_V} {h h' : List wn_C} {nc ns mc ms : Nat} {S : wn_S} {H : Heap} {locs : List Loc} {ls : Array Slot} (hC : wn_Cx p R s m args meth c b cA D o nL dep bytes) (hSS : wn_SS l b cA D dep S) (h8 : t < 8) (h4 : Nat.ble r.length 4 = true) (hM : S t j h = some (h', mc, ms)) (hcc : nc + mc ≤ R.cells) (hss : ns + ms ≤ R.slots)
    (hlk : (o, idx, t) ∈ wn_nl ∨ (o, idx, t) ∈ wn_ml) (hdec : decode bytes pc = .ok (.invokespecial idx, 3)) (hn : wc_pc cd (i + 1) = pc + 3) (hH : wn_H b cA D h H) (hS : va_S (wn_A b) s.heap H locs) (hl : wc_lv (wn_ad b tt) nL L ls)
    (k : wn_At p l e R s m args below meth c Q b tt cA D nL cd (i + 1) L r h' (nc + mc) (ns + ms)) : W p l e R s m args below meth c H locs nc ns Q (F0 m pc ls ((.inr (.inl (0, j)) :: r : List wc_V).map (wc_cv (wn_ad b tt)))) := by
  obtain ⟨hx, hb, hml, hown, hts, hW, ⟨hfr, hlo⟩, hnm, hbs⟩ := hC
  have hMet := hSS t j h h' mc ms h8 hM
  have hmL := wn_mL_ok t h8
  obtain ⟨hy1, hy2, hy3⟩ := wn_y_ok t h8
  have hini : (Jvm.Cond.initialized (wn_y t).cls).before args s = true := hts _ (wc_in_ok h8)
  have hpre : PreS s H (wn_Pc b cA D j h) [.ref (b + j)] := ⟨wn_blind, fun U hU hWm => ⟨rfl, by rw [hU]; exact hH, hW.moved hWm⟩⟩
  have hrun : va_Run p l e R s m args below meth c H locs nc ns mc ms (F0 m pc ls (.ref (b + j) :: r.map (wc_cv (wn_ad b tt)))) (r.map (wc_cv (wn_ad b tt))) (wn_Qc b cA D h' (Value.ref (b + j) :: []).toArray) (wn_A b) := by
    rcases hlk with hlk | hlk
    · exact va_runIN (As := []) (n := 0) ⟨hx, hb, hml, hown, hts⟩ hMet ⟨va_cnB 0 hts (wn_good_in h8) rfl rfl rfl (hW.2.1 _ hlk) hini ⟨hy2.1, hy2.2, hy3⟩ ⟨hfr, by show 8 + (wn_mL t + 11) + 40 * dep ≤ R.locals; omega⟩, rfl, hts _ (wn_im_ok h8)⟩ hpre rfl rfl hl.1 rfl (lv_room (wc_cat4 h4)) hdec ⟨hcc, hss⟩
    · exact va_runI (As := []) (n := 0) ⟨hx, hb, hml, hown, hts⟩ hMet ⟨callB_of 0 hts (wn_good_in h8) rfl rfl rfl hini (hts _ (wn_ml_ok _ hlk)) ⟨hy2.1, hy2.2, hy3⟩ ⟨hfr, by show 8 + (wn_mL t + 11) + 40 * dep ≤ R.locals; omega⟩, rfl, hts _ (wn_im_ok h8)⟩ hpre rfl rfl hl.1 rfl (lv_room (wc_cat4 h4)) hdec ⟨hcc, hss⟩
  refine va_callv (a := (Value.ref (b + j) :: []).toArray) (post := fun _ : Unit => True) (B := fun _ t => wn_H b cA D h' t.heap) (A1 := wn_A b) hrun hS (fun q _ h => h) (fun q h => h) (fun u t H1 locs1 ht hvm hw hB hz hk hS1 => ?_)
  rw [ht] at hB
  have k := k H1 locs1 ls hB hS1 hl
  rw [hn] at k
  exact k
theorem wn_lp_ok {S : wn_S} {hh : List wn_C} {mc ms : Nat} (hC : wn_Cx p R s m args meth c b cA D o nL dep bytes) (hg : wn_good o bytes cd) (hSS : wn_SS l b cA D dep S) (hcc : mc ≤ R.cells) (hss : ms ≤ R.slots)
    (hend : ∀ (i pc len : Nat) (tg : List Nat) (ct : Int32) (cl : Int64) (L : wc_L), cd[i]? = some (pc, .return_, len, tg, ct, cl) → wn_At p l e R s m args below meth c Q b tt cA D nL cd i L [] hh mc ms) :
    ∀ (n i : Nat) (L : wc_L) (st : List wc_V) (h : List wn_C) (nc ns : Nat), wn_lp S o cd n i L st h nc ns = some (hh, mc, ms) → wn_At p l e R s m args below meth c Q b tt cA D nL cd i L st h nc ns
  | 0, _, _, _, _, _, _, hq => nomatch hq
  | n + 1, i, L, st, h, nc, ns, hq => by
    have ih := wn_lp_ok hC hg hSS hcc hss hend n
    unfold wn_lp at hq
    split at hq
    · rename_i pc len tg ct cl hcd
      split at hq
      · cases hq
        exact hend i pc len tg ct cl L hcd
      · cases hq
    · rename_i pc idx len t ct cl hcd
      obtain ⟨hdec, hlen, hlnk, hnx⟩ := hg i pc _ len [t] ct cl hcd
      have hpc : wc_pc cd i = pc := by unfold wc_pc; rw [hcd]
      have hn : wc_pc cd (i + 1) = pc + 3 := by rw [hlen] at hnx; exact Nat.eq_of_beq_eq_true hnx
      rw [hlen] at hdec
      split at hq
      · rename_i j r
        split at hq
        · rename_i ht
          have ht := Nat.eq_of_beq_eq_true ht
          subst ht
          split at hq
          · rename_i h4
            have k := ih _ _ _ _ _ _ hq
            have hlk : (o, idx) ∈ wn_ol := of_decide_eq_true hlnk
            obtain ⟨hx, hb, hml, hown, hts, hW, ⟨hfr, hlo⟩, hnm, hbs⟩ := hC
            intro H locs ls hH hS hl
            rw [hpc]
            have k := k H locs ls hH hS hl
            rw [hn] at k
            have hc4 := wc_cat4 (ad := wn_ad b tt) h4
            exact W.objInit hx hb hown (hts _ (wn_ol_ok _ hlk)) (hts _ wn_ob1) (hts _ wn_ob2) rfl (by rw [hml]; exact hl.1) rfl hdec (by omega) (by show 2 * 0 + _ + 12 ≤ _; omega) k
          · cases hq
        · rename_i ht
          split at hq
          · rename_i hc
            simp only [Bool.and_eq_true] at hc
            have h8 := Nat.blt_eq.mp hc.2
            split at hq
            · rename_i h' mc' ms' hM
              have hmo := wn_lp_mono _ _ _ _ _ _ _ _ _ _ hq
              have k := ih _ _ _ _ _ _ hq
              intro H locs ls hH hS hl
              rw [hpc]
              have hlk : (o, idx, t) ∈ wn_nl ∨ (o, idx, t) ∈ wn_ml := by
                replace hlnk : (if Nat.beq t 300 then decide ((o, idx) ∈ wn_ol) else (decide ((o, idx, t) ∈ wn_nl) || decide ((o, idx, t) ∈ wn_ml))) = true := hlnk
                rw [if_neg ht] at hlnk
                simpa using hlnk
              exact wn_call hC hSS h8 hc.1 hM (by omega) (by omega) hlk hdec hn hH hS hl k
            · cases hq
          · cases hq
      · cases hq
    · split at hq
      · rename_i h2
        have hmo := wn_lp_mono _ _ _ _ _ _ _ _ _ _ hq
        exact wn_stp_ok hC hg h2 (by omega) (by omega) (ih _ _ _ _ _ _ hq)
      · cases hq
end WNL
theorem wn_pc0 : ∀ c, c < 8 → wc_pc (wn_cd c) 0 = 0 := by decide +kernel
theorem wn_Sd_ok (l : Launch) (b : Nat) (cA : Nat → ClassId) (D : va_G) : ∀ d, wn_SS l b cA D d (wn_Sd d)
  | 0 => fun _ _ _ _ _ _ _ h => nomatch h
  | d + 1 => by
    intro c j h h' mc ms h8 hM
    have hSS := wn_Sd_ok l b cA D d
    unfold wn_Sd at hM
    split at hM
    · rename_i hc
      simp only [Bool.and_eq_true] at hc
      have hL1 := Nat.ble_eq.mp hc.2
      refine Met.ofW (cc := wn_b c) (maxL := wn_mL c) (ret := none) (wn_y_ok c h8).1 rfl ?_
      intro p e s m args below meth c0 s₁ B hml hv
      obtain ⟨rfl, hH, hW⟩ := hv
      have hx := B.exec
      have hb := B.bytes
      have hr := B.returns
      have hts := atoms_spec (ws := wn_wsm c) B.pre
      have hown : s.vm.findClass (wc_cn c) = some m.cls := findClass_of_methodNamed B.named
      have hlocks := B.notSynchronized
      have hin : meth.name = "<init>" := (name_of_methodNamed B.named B.method).1
      have hl := lv_entry [.ref (b + j)] (n := wn_mL c) hL1
      rw [lg_entry_eq]
      have hlv : wc_lv (wn_ad b (fun _ => 0)) (wn_mL c) (some (.inr (.inl (0, j))) :: List.replicate (wn_mL c - 1) none) ((lg_sl [.ref (b + j)] ++ List.replicate (wn_mL c - (lg_sl [.ref (b + j)]).length) Slot.unset).toArray) := by
        refine ⟨hl.1, hl.2.1, by simp; omega, fun i v hv => ?_⟩
        cases i with
        | zero =>
          cases hv
          exact hl.2.2 (0, .ref (b + j)) List.mem_cons_self
        | succ i =>
          rw [List.getElem?_cons_succ, List.getElem?_replicate] at hv
          split at hv <;> cases hv
      have hC : wn_Cx p (headSpec (wn_wsm c) (wn_rm (d + 1) mc ms)).room s m [Value.ref (b + j)].toArray meth c0 b cA D c (wn_mL c) d (wn_b c) :=
        ⟨hx, hb, hml, hown, fun w hw => hts w (List.mem_cons_of_mem _ hw), hW, ⟨Nat.le_refl _, Nat.le_refl _⟩, fun _ => hin, by rw [hH.1]; exact Nat.le_add_right _ _⟩
      have key := wn_lp_ok (tt := fun _ => 0) (e := e) (below := below) (Q := MQ below (wn_Qc b cA D h') [Value.ref (b + j)].toArray s mc ms (wn_A b)) hC (wn_good_of (wn_k_ok0 c h8)) hSS (Nat.le_refl _) (Nat.le_refl _) ?_ 2000 0 _ [] h 0 0 hM
      · have h9 := key s.heap [] _ hH va_S.rf hlv
        rw [wn_pc0 c h8] at h9
        exact h9
      · intro i pc len tg ct cl L hcd
        obtain ⟨hdec, hlen, -, -⟩ := wn_good_of (wn_k_ok0 c h8) i pc _ len tg ct cl hcd
        have hpc : wc_pc (wn_cd c) i = pc := by unfold wc_pc; rw [hcd]
        rw [hlen] at hdec
        intro H locs ls hH2 hS hlv2
        rw [hpc]
        exact W.vret hx hb hr (fun t ht hWm => ⟨⟨(), rfl, trivial, by show wn_H b cA D h' t.heap; rw [ht]; exact hH2⟩, hS.F ht⟩) hS.2.2 hdec hlocks
    · cases hM
/-- what the two constructors make, from an empty world: cells 0 .. -/
def wn_h1 : List wn_C := match wn_Sd 4 0 0 [.inl (0, (List.range (wc_nf 0)).map (wn_dv 0))] with
  | some (h, _, _) => h
  | none => []
def wn_h2 : List wn_C := match wn_Sd 4 7 197 (wn_h1 ++ [.inl (7, (List.range (wc_nf 7)).map (wn_dv 7))]) with
  | some (h, _, _) => h
  | none => []
def wn_t1 : Bool := match wn_Sd 4 0 0 [.inl (0, (List.range (wc_nf 0)).map (wn_dv 0))] with
  | some (h, nc, ns) => Nat.beq h.length 197 && Nat.beq nc 196 && Nat.ble ns 20000
  | none => false
def wn_t2 : Bool := match wn_Sd 4 7 197 (wn_h1 ++ [.inl (7, (List.range (wc_nf 7)).map (wn_dv 7))]) with
  | some (h, nc, ns) => Nat.beq h.length 211 && Nat.beq nc 13 && Nat.ble ns 20000
  | none => false
theorem wn_t1_ok : wn_t1 = true := by decide +kernel
theorem wn_t2_ok : wn_t2 = true := by decide +kernel
end
section
/-! WHAT IS MADE: the cells in the order of their making; the world of the engine at the start -/
def wq_ord : List (Nat × Nat) := [(0, 0), (1, 0), (4, 0), (5, 0), (6, 0), (7, 0), (8, 0), (9, 0), (10, 0), (11, 0), (6, 1), (7, 1), (8, 1), (9, 1), (10, 1), (11, 1), (12, 0), (13, 0), (14, 0), (15, 0), (16, 0), (17, 0), (6, 2), (7, 2), (8, 2), (9, 2), (10, 2), (11, 2), (6, 3), (7, 3), (8, 3), (9, 3), (10, 3), (11, 3), (6, 4), (7, 4), (8, 4), (9, 4), (10, 4), (11, 4), (6, 5), (7, 5), (8, 5), (9, 5), (10, 5), (11, 5), (6, 6), (7, 6), (8, 6), (9, 6), (10, 6), (11, 6), (6, 7), (7, 7), (8, 7), (9, 7), (10, 7), (11, 7), (6, 8), (7, 8), (8, 8), (9, 8), (10, 8), (11, 8), (6, 9), (7, 9), (8, 9), (9, 9), (10, 9), (11, 9), (6, 10), (7, 10), (8, 10), (9, 10), (10, 10), (11, 10), (6, 11), (7, 11), (8, 11), (9, 11), (10, 11), (11, 11), (6, 12), (7, 12), (8, 12), (9, 12), (10, 12), (11, 12), (6, 13), (7, 13), (8, 13), (9, 13), (10, 13), (11, 13), (6, 14), (7, 14), (8, 14), (9, 14), (10, 14), (11, 14), (6, 15), (7, 15), (8, 15), (9, 15), (10, 15), (11, 15), (6, 16), (7, 16), (8, 16), (9, 16), (10, 16), (11, 16), (6, 17), (7, 17), (8, 17), (9, 17), (10, 17), (11, 17), (6, 18), (7, 18), (8, 18), (9, 18), (10, 18), (11, 18), (6, 19), (7, 19), (8, 19), (9, 19), (10, 19), (11, 19), (6, 20), (7, 20), (8, 20), (9, 20), (10, 20), (11, 20), (6, 21), (7, 21), (8, 21), (9, 21), (10, 21), (11, 21), (6, 22), (7, 22), (8, 22), (9, 22), (10, 22), (11, 22), (6, 23), (7, 23), (8, 23), (9, 23), (10, 23), (11, 23), (6, 24), (7, 24), (8, 24), (9, 24), (10, 24), (11, 24), (6, 25), (7, 25), (8, 25), (9, 25), (10, 25), (11, 25), (18, 0), (19, 0), (20, 0), (2, 0), (3, 0), (2, 1), (3, 1), (2, 2), (3, 2), (2, 3), (3, 3), (2, 4), (3, 4), (2, 5), (3, 5), (2, 6), (3, 6), (2, 7), (3, 7), (6, 26), (7, 26), (8, 26), (9, 26), (10, 26), (11, 26), (6, 27), (7, 27), (8, 27), (9, 27), (10, 27), (11, 27), (21, 0), (22, 0), (23, 0), (24, 0), (25, 0), (26, 0), (27, 0), (28, 0), (29, 0), (30, 0), (31, 0), (32, 0), (33, 0), (34, 0)]
def wq_pos (k i : Nat) : Nat := (([[0], [1], [169, 171, 173, 175, 177, 179, 181, 183], [170, 172, 174, 176, 178, 180, 182, 184], [2], [3], [4, 10, 22, 28, 34, 40, 46, 52, 58, 64, 70, 76, 82, 88, 94, 100, 106, 112, 118, 124, 130, 136, 142, 148, 154, 160, 185, 191], [5, 11, 23, 29, 35, 41, 47, 53, 59, 65, 71, 77, 83, 89, 95, 101, 107, 113, 119, 125, 131, 137, 143, 149, 155, 161, 186, 192], [6, 12, 24, 30, 36, 42, 48, 54, 60, 66, 72, 78, 84, 90, 96, 102, 108, 114, 120, 126, 132, 138, 144, 150, 156, 162, 187, 193], [7, 13, 25, 31, 37, 43, 49, 55, 61, 67, 73, 79, 85, 91, 97, 103, 109, 115, 121, 127, 133, 139, 145, 151, 157, 163, 188, 194], [8, 14, 26, 32, 38, 44, 50, 56, 62, 68, 74, 80, 86, 92, 98, 104, 110, 116, 122, 128, 134, 140, 146, 152, 158, 164, 189, 195], [9, 15, 27, 33, 39, 45, 51, 57, 63, 69, 75, 81, 87, 93, 99, 105, 111, 117, 123, 129, 135, 141, 147, 153, 159, 165, 190, 196], [16], [17], [18], [19], [20], [21], [166], [167], [168], [197], [198], [199], [200], [201], [202], [203], [204], [205], [206], [207], [208], [209], [210]] : List (List Nat))[k]?.getD [])[i]?.getD 0
def w0M : wc_M := fun k _ _ => if k = 23 then -1 else 0
def wq_eq (x : wn_C) (k i : Nat) : Bool := match x, wc_sh k with
  | .inl (c, vs), (0, c') => Nat.beq c c' && decide (vs = (List.range (wc_nf c)).map (fun s => match wc_rf k i s with
    | some r => .inr (some (wq_pos r.1 r.2))
    | none => .inl (w0M k i s)))
  | .inr (0, n, .inl f), (1, n') => Nat.beq n n' && (List.range n).all (fun s => decide (f s = w0M k i s))
  | .inr (1, n, .inl f), (2, n') => Nat.beq n n' && (List.range n).all (fun s => decide (f s = w0M k i s))
  | .inr (2, n, .inr g), (3, n') => Nat.beq n n' && (List.range n).all (fun s => decide (g s = (wc_rf k i s).map (fun r => wq_pos r.1 r.2)))
  | .inr (3, n, .inr g), (4, n') => Nat.beq n n' && (List.range n).all (fun s => decide (g s = (wc_rf k i s).map (fun r => wq_pos r.1 r.2)))
  | _, _ => false
def wq_all : List wn_C → List (Nat × Nat) → Bool
  | [], [] => true
  | x :: h, q :: r => wq_eq x q.1 q.2 && wq_all h r
  | _, _ => false
theorem wq_all_ok : wq_all wn_h2 wq_ord = true := by decide +kernel
theorem wq_all_at : ∀ {h : List wn_C} {r : List (Nat × Nat)} {j : Nat} {q : Nat × Nat}, wq_all h r = true → r[j]? = some q → ∃ x, h[j]? = some x ∧ wq_eq x q.1 q.2 = true
  | [], [], j, q, _, h2 => by simp at h2
  | x :: h, q0 :: r, j, q, h1, h2 => by
    simp only [wq_all, Bool.and_eq_true] at h1
    cases j with
    | zero =>
      cases h2
      exact ⟨x, rfl, h1.1⟩
    | succ j => exact wq_all_at (h := h) (r := r) (j := j) h1.2 h2
  | [], _ :: _, _, _, h1, _ => by cases h1
  | _ :: _, [], _, _, h1, _ => by cases h1
theorem wq_ord_ok : ∀ q ∈ wc_wl, wq_ord[wq_pos q.1 q.2]? = some q := by decide +kernel
def wq_ad (b : Nat) (tt : Nat → Nat) : wc_A := fun k i => if Nat.blt k 35 then b + wq_pos k i else tt k
theorem wq_rf_lt {k i s : Nat} {q : Nat × Nat} (h : wc_ok (k, i) = true) (hk : k < 35) (hq : wc_rf k i s = some q) : q.1 < 35 := by
  have h0 : ∀ k, k < 35 → ∀ s, s < 28 → (match ((wc_rfl[k]?).getD [])[s]? with
    | some (some (k', _, _)) => Nat.blt k' 35
    | _ => true) = true := by decide +kernel
  unfold wc_rf at hq
  split at hq
  · split at hq
    · rename_i k' b n he
      cases hq
      have hlt : s < 28 := Nat.lt_of_lt_of_le (List.getElem?_eq_some_iff.mp he).1 (wc_rf_len k hk)
      have h1 := h0 k hk s hlt
      rw [he] at h1
      exact Nat.blt_eq.mp h1
    · cases hq
  · cases hq
    show 2 < 35
    decide
  · cases hq
    show 6 < 35
    decide
  · cases hq
theorem vq_cell_i {cA : ClassId} {n : Nat} {f g : Nat → Int32} (h : ∀ s, s < n → f s = g s) : vp_cell cA (n, .inl f) = vp_cell cA (n, .inl g) := by
  rw [vp_cell_i, vp_cell_i]
  unfold arrV
  congr 1
  apply Array.ext
  · simp
  · intro i h1 h2
    have h3 : i < n := by simpa using h1
    simp [h i h3]
theorem vq_cell_q {cA : ClassId} {n : Nat} {f g : Nat → Option Nat} (h : ∀ s, s < n → f s = g s) : vp_cell cA (n, .inr (.inr (.inr (.inr f)))) = vp_cell cA (n, .inr (.inr (.inr (.inr g)))) := by
  rw [vp_cell_q, vp_cell_q]
  unfold arrV
  congr 1
  apply Array.ext
  · simp
  · intro i h1 h2
    have h3 : i < n := by simpa using h1
    simp [h i h3]
theorem wq_at {b : Nat} {tt : Nat → Nat} {cA : Nat → ClassId} {D : va_G} {H : Heap} {x : wn_C} {k i : Nat} (hk : k < 35) (hok : wc_ok (k, i) = true) (he : wq_eq x k i = true) (h : va_at D wc_cls (b + wq_pos k i, wn_cc b cA x) H) : va_at D wc_cls (wq_ad b tt k i, wc_ent (wq_ad b tt) cA w0M (k, i)) H := by
  have hadk : wq_ad b tt k i = b + wq_pos k i := by unfold wq_ad; rw [if_pos (Nat.blt_eq.mpr hk)]
  have hadr : ∀ {s : Nat} {q : Nat × Nat}, wc_rf k i s = some q → wq_ad b tt q.1 q.2 = b + wq_pos q.1 q.2 := fun {s q} hq => by
    unfold wq_ad
    rw [if_pos (Nat.blt_eq.mpr (wq_rf_lt hok hk hq))]
  have hmap : ∀ s, (wc_rf k i s).map (fun r => wq_ad b tt r.1 r.2) = ((wc_rf k i s).map (fun r => wq_pos r.1 r.2)).map (fun i => b + i) := fun s => by
    cases hr : wc_rf k i s with
    | none => rfl
    | some q => simp [hadr hr]
  rw [hadk]
  unfold wq_eq at he
  split at he
  · rename_i c vs c' hsh
    simp only [Bool.and_eq_true, decide_eq_true_eq] at he
    have hc := Nat.eq_of_beq_eq_true he.1
    subst hc
    rw [wc_ent0 hsh]
    have hv := he.2
    subst hv
    have e : (List.range (wc_nf c)).map (fun s => wc_fld (wq_ad b tt) k i s w0M) = ((List.range (wc_nf c)).map (fun s => match wc_rf k i s with
        | some r => (.inr (some (wq_pos r.1 r.2)) : wn_V)
        | none => .inl (w0M k i s))).map (wn_cv b) := by
      rw [List.map_map]
      apply List.map_congr_left
      intro s _
      unfold wc_fld
      simp only [Function.comp]
      cases hr : wc_rf k i s with
      | none => rfl
      | some q =>
        show Value.ref _ = Value.ref _
        rw [hadr hr]
    rw [e]
    exact h
  · rename_i n f n' hsh
    simp only [Bool.and_eq_true] at he
    have hc := Nat.eq_of_beq_eq_true he.1
    subst hc
    rw [wc_ent1 hsh]
    show H[b + wq_pos k i]? = some (vp_cell (cA 0) (n, .inl (fun s => w0M k i s)))
    rw [← vq_cell_i (f := f) (fun s hs => of_decide_eq_true (List.all_eq_true.mp he.2 s (List.mem_range.mpr hs)))]
    exact h
  · rename_i n f n' hsh
    simp only [Bool.and_eq_true] at he
    have hc := Nat.eq_of_beq_eq_true he.1
    subst hc
    rw [wc_ent2 hsh]
    show H[b + wq_pos k i]? = some (vp_cell (cA 1) (n, .inl (fun s => w0M k i s)))
    rw [← vq_cell_i (f := f) (fun s hs => of_decide_eq_true (List.all_eq_true.mp he.2 s (List.mem_range.mpr hs)))]
    exact h
  · rename_i n g n' hsh
    simp only [Bool.and_eq_true] at he
    have hc := Nat.eq_of_beq_eq_true he.1
    subst hc
    rw [wc_ent3 hsh]
    show H[b + wq_pos k i]? = some (vp_cell (cA 2) (n, .inr (.inr (.inr (.inr (fun s => (wc_rf k i s).map (fun r => wq_ad b tt r.1 r.2)))))))
    rw [← vq_cell_q (f := fun s => (g s).map (fun i => b + i)) (fun s hs => by rw [hmap, of_decide_eq_true (List.all_eq_true.mp he.2 s (List.mem_range.mpr hs))])]
    exact h
  · rename_i n g n' hsh
    simp only [Bool.and_eq_true] at he
    have hc := Nat.eq_of_beq_eq_true he.1
    subst hc
    rw [wc_ent4 hsh]
    show H[b + wq_pos k i]? = some (vp_cell (cA 3) (n, .inr (.inr (.inr (.inr (fun s => (wc_rf k i s).map (fun r => wq_ad b tt r.1 r.2)))))))
    rw [← vq_cell_q (f := fun s => (g s).map (fun i => b + i)) (fun s hs => by rw [hmap, of_decide_eq_true (List.all_eq_true.mp he.2 s (List.mem_range.mpr hs))])]
    exact h
  · cases he
theorem wq_wl_ok : ∀ q ∈ wc_wl, q.1 < 35 ∧ wc_ok q = true := by decide +kernel
theorem wq_world {b : Nat} {tt : Nat → Nat} {cA : Nat → ClassId} {D : va_G} {H : Heap} (h : wn_H b cA D wn_h2 H) : va_P D wc_cls (wc_ws (wq_ad b tt) cA w0M) H := by
  intro j q hj
  unfold wc_ws at hj
  rw [List.getElem?_map] at hj
  cases hq : wc_wl[j]? with
  | none => rw [hq] at hj; cases hj
  | some k =>
    rw [hq] at hj
    cases hj
    have hm := List.mem_of_getElem? hq
    obtain ⟨x, hx, he⟩ := wq_all_at wq_all_ok (wq_ord_ok k hm)
    obtain ⟨h35, hok⟩ := wq_wl_ok k hm
    exact wq_at h35 hok he (h.2 _ x hx)
theorem wq_apart {b : Nat} {tt : Nat → Nat} {cA : Nat → ClassId} (M : wc_M) : va_D (wn_A b) (wc_ws (wq_ad b tt) cA M) := by
  have key : ∀ (j : Nat) (q : Nat × va_E), (wc_ws (wq_ad b tt) cA M)[j]? = some q → ∃ k, wc_wl[j]? = some k ∧ q.1 = b + wq_pos k.1 k.2 := by
    intro j q hj
    unfold wc_ws at hj
    rw [List.getElem?_map] at hj
    cases hq : wc_wl[j]? with
    | none => rw [hq] at hj; cases hj
    | some k =>
      rw [hq] at hj
      cases hj
      obtain ⟨h35, hok⟩ := wq_wl_ok k (List.mem_of_getElem? hq)
      exact ⟨k, rfl, by show wq_ad b tt k.1 k.2 = _; unfold wq_ad; rw [if_pos (Nat.blt_eq.mpr h35)]⟩
  refine ⟨fun i j p q hi hj hpq => ?_, fun k q hq => ?_⟩
  · obtain ⟨k1, h1, e1⟩ := key i p hi
    obtain ⟨k2, h2, e2⟩ := key j q hj
    have hp : wq_pos k1.1 k1.2 = wq_pos k2.1 k2.2 := by omega
    have hk : k1 = k2 := by
      have a1 := wq_ord_ok k1 (List.mem_of_getElem? h1)
      have a2 := wq_ord_ok k2 (List.mem_of_getElem? h2)
      rw [hp, a2] at a1
      exact (Option.some.inj a1).symm
    rw [hk] at h1
    exact (List.getElem?_inj (List.getElem?_eq_some_iff.mp h1).1 wc_wl_nd).mp (h1.trans h2.symm)
  · obtain ⟨k1, h1, e1⟩ := key k q hq
    rw [e1]
    exact Nat.le_add_right _ _
end
