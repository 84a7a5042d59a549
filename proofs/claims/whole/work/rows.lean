section
-- ===== PART A: goes FIRST, ahead of the names: the tables' words, and 'selects' of the private methods out of them =====
/-- a private method of a class that the tables say can be made, by its rows of tables_1 -/
def lw_okq (q : MethodName × Nat) : Prop := (q.1.cls ≠ "java/lang/invoke/MethodHandle" ∧ q.1.cls ≠ "java/lang/invoke/VarHandle") ∧ Cond.instantiable q.1.cls q.2 ∈ tables_1 ∧ Cond.privateMethod q.1 ∈ tables_1 ∧ Cond.instanceMethod q.1 ∈ tables_1
theorem lw_p0 : lw_okq (⟨"WindCarver", "found", "(I)I"⟩, 10) := ⟨⟨by decide +kernel, by decide +kernel⟩, List.mem_of_getElem? (i := 12) (by decide +kernel), List.mem_of_getElem? (i := 220) (by decide +kernel), List.mem_of_getElem? (i := 221) (by decide +kernel)⟩
theorem lw_p1 : lw_okq (⟨"WindCarver", "withoutFinding", "(I)I"⟩, 10) := ⟨⟨by decide +kernel, by decide +kernel⟩, List.mem_of_getElem? (i := 12) (by decide +kernel), List.mem_of_getElem? (i := 229) (by decide +kernel), List.mem_of_getElem? (i := 230) (by decide +kernel)⟩
theorem lw_p2 : lw_okq (⟨"WindCarver", "findingIn", "(III)I"⟩, 10) := ⟨⟨by decide +kernel, by decide +kernel⟩, List.mem_of_getElem? (i := 12) (by decide +kernel), List.mem_of_getElem? (i := 237) (by decide +kernel), List.mem_of_getElem? (i := 238) (by decide +kernel)⟩
theorem lw_p3 : lw_okq (⟨"WindCarver$Text", "readLines", "(I[I)Z"⟩, 5) := ⟨⟨by decide +kernel, by decide +kernel⟩, List.mem_of_getElem? (i := 22) (by decide +kernel), List.mem_of_getElem? (i := 289) (by decide +kernel), List.mem_of_getElem? (i := 290) (by decide +kernel)⟩
theorem lw_p4 : lw_okq (⟨"WindCarver$Text", "readByte", "(I)Z"⟩, 5) := ⟨⟨by decide +kernel, by decide +kernel⟩, List.mem_of_getElem? (i := 22) (by decide +kernel), List.mem_of_getElem? (i := 293) (by decide +kernel), List.mem_of_getElem? (i := 294) (by decide +kernel)⟩
theorem lw_p5 : lw_okq (⟨"WindCarver$Text", "fail", "(II)Z"⟩, 5) := ⟨⟨by decide +kernel, by decide +kernel⟩, List.mem_of_getElem? (i := 22) (by decide +kernel), List.mem_of_getElem? (i := 297) (by decide +kernel), List.mem_of_getElem? (i := 298) (by decide +kernel)⟩
theorem lw_p6 : lw_okq (⟨"WindCarver$Text", "readNumber", "(I)I"⟩, 5) := ⟨⟨by decide +kernel, by decide +kernel⟩, List.mem_of_getElem? (i := 22) (by decide +kernel), List.mem_of_getElem? (i := 301) (by decide +kernel), List.mem_of_getElem? (i := 302) (by decide +kernel)⟩
theorem lw_p7 : lw_okq (⟨"WindCarver$Text", "readWorks", "(LWindCarver$Pass;)Z"⟩, 5) := ⟨⟨by decide +kernel, by decide +kernel⟩, List.mem_of_getElem? (i := 22) (by decide +kernel), List.mem_of_getElem? (i := 308) (by decide +kernel), List.mem_of_getElem? (i := 309) (by decide +kernel)⟩
theorem lw_p8 : lw_okq (⟨"WindCarver$Text", "readWork", "(ILWindCarver$Pass;)Z"⟩, 5) := ⟨⟨by decide +kernel, by decide +kernel⟩, List.mem_of_getElem? (i := 22) (by decide +kernel), List.mem_of_getElem? (i := 315) (by decide +kernel), List.mem_of_getElem? (i := 316) (by decide +kernel)⟩
theorem lw_p9 : lw_okq (⟨"WindCarver", "spendHour", "(LWindCarver$Pass;)V"⟩, 10) := ⟨⟨by decide +kernel, by decide +kernel⟩, List.mem_of_getElem? (i := 12) (by decide +kernel), List.mem_of_getElem? (i := 380) (by decide +kernel), List.mem_of_getElem? (i := 381) (by decide +kernel)⟩
theorem lw_p10 : lw_okq (⟨"WindCarver$Air", "on", "(LWindCarver$Pass;I)I"⟩, 3) := ⟨⟨by decide +kernel, by decide +kernel⟩, List.mem_of_getElem? (i := 89) (by decide +kernel), List.mem_of_getElem? (i := 388) (by decide +kernel), List.mem_of_getElem? (i := 389) (by decide +kernel)⟩
theorem lw_p11 : lw_okq (⟨"WindCarver$Air", "part", "(IILWindCarver$Pass;)V"⟩, 3) := ⟨⟨by decide +kernel, by decide +kernel⟩, List.mem_of_getElem? (i := 89) (by decide +kernel), List.mem_of_getElem? (i := 392) (by decide +kernel), List.mem_of_getElem? (i := 393) (by decide +kernel)⟩
theorem lw_p12 : lw_okq (⟨"WindCarver$Air", "bring", "(III)V"⟩, 3) := ⟨⟨by decide +kernel, by decide +kernel⟩, List.mem_of_getElem? (i := 89) (by decide +kernel), List.mem_of_getElem? (i := 399) (by decide +kernel), List.mem_of_getElem? (i := 400) (by decide +kernel)⟩
theorem lw_p13 : lw_okq (⟨"WindCarver", "feltNow", "(I)I"⟩, 10) := ⟨⟨by decide +kernel, by decide +kernel⟩, List.mem_of_getElem? (i := 12) (by decide +kernel), List.mem_of_getElem? (i := 423) (by decide +kernel), List.mem_of_getElem? (i := 424) (by decide +kernel)⟩
theorem lw_p14 : lw_okq (⟨"WindCarver", "foretell", "(I)V"⟩, 10) := ⟨⟨by decide +kernel, by decide +kernel⟩, List.mem_of_getElem? (i := 12) (by decide +kernel), List.mem_of_getElem? (i := 436) (by decide +kernel), List.mem_of_getElem? (i := 437) (by decide +kernel)⟩
theorem lw_p15 : lw_okq (⟨"WindCarver", "isFeltEverywhere", "([II)Z"⟩, 10) := ⟨⟨by decide +kernel, by decide +kernel⟩, List.mem_of_getElem? (i := 12) (by decide +kernel), List.mem_of_getElem? (i := 461) (by decide +kernel), List.mem_of_getElem? (i := 462) (by decide +kernel)⟩
def lw_privs_1 : List (MethodName × Nat) := [(⟨"WindCarver", "found", "(I)I"⟩, 10), (⟨"WindCarver", "withoutFinding", "(I)I"⟩, 10), (⟨"WindCarver", "findingIn", "(III)I"⟩, 10), (⟨"WindCarver$Text", "readLines", "(I[I)Z"⟩, 5), (⟨"WindCarver$Text", "readByte", "(I)Z"⟩, 5), (⟨"WindCarver$Text", "fail", "(II)Z"⟩, 5), (⟨"WindCarver$Text", "readNumber", "(I)I"⟩, 5), (⟨"WindCarver$Text", "readWorks", "(LWindCarver$Pass;)Z"⟩, 5), (⟨"WindCarver$Text", "readWork", "(ILWindCarver$Pass;)Z"⟩, 5), (⟨"WindCarver", "spendHour", "(LWindCarver$Pass;)V"⟩, 10), (⟨"WindCarver$Air", "on", "(LWindCarver$Pass;I)I"⟩, 3), (⟨"WindCarver$Air", "part", "(IILWindCarver$Pass;)V"⟩, 3), (⟨"WindCarver$Air", "bring", "(III)V"⟩, 3), (⟨"WindCarver", "feltNow", "(I)I"⟩, 10), (⟨"WindCarver", "foretell", "(I)V"⟩, 10), (⟨"WindCarver", "isFeltEverywhere", "([II)Z"⟩, 10)]
theorem lw_r1 : ∀ q ∈ lw_privs_1, lw_okq q := List.forall_mem_cons.mpr ⟨lw_p0, List.forall_mem_cons.mpr ⟨lw_p1, List.forall_mem_cons.mpr ⟨lw_p2, List.forall_mem_cons.mpr ⟨lw_p3, List.forall_mem_cons.mpr ⟨lw_p4, List.forall_mem_cons.mpr ⟨lw_p5, List.forall_mem_cons.mpr ⟨lw_p6, List.forall_mem_cons.mpr ⟨lw_p7, List.forall_mem_cons.mpr ⟨lw_p8, List.forall_mem_cons.mpr ⟨lw_p9, List.forall_mem_cons.mpr ⟨lw_p10, List.forall_mem_cons.mpr ⟨lw_p11, List.forall_mem_cons.mpr ⟨lw_p12, List.forall_mem_cons.mpr ⟨lw_p13, List.forall_mem_cons.mpr ⟨lw_p14, List.forall_mem_cons.mpr ⟨lw_p15, fun _ h => absurd h List.not_mem_nil⟩⟩⟩⟩⟩⟩⟩⟩⟩⟩⟩⟩⟩⟩⟩⟩
theorem lw_p16 : lw_okq (⟨"WindCarver", "chooseWalls", "(II)I"⟩, 10) := ⟨⟨by decide +kernel, by decide +kernel⟩, List.mem_of_getElem? (i := 12) (by decide +kernel), List.mem_of_getElem? (i := 469) (by decide +kernel), List.mem_of_getElem? (i := 470) (by decide +kernel)⟩
theorem lw_p17 : lw_okq (⟨"WindCarver", "chooseWall", "(IIII)Z"⟩, 10) := ⟨⟨by decide +kernel, by decide +kernel⟩, List.mem_of_getElem? (i := 12) (by decide +kernel), List.mem_of_getElem? (i := 473) (by decide +kernel), List.mem_of_getElem? (i := 474) (by decide +kernel)⟩
theorem lw_p18 : lw_okq (⟨"WindCarver", "isFeltAlong", "(I[II)Z"⟩, 10) := ⟨⟨by decide +kernel, by decide +kernel⟩, List.mem_of_getElem? (i := 12) (by decide +kernel), List.mem_of_getElem? (i := 481) (by decide +kernel), List.mem_of_getElem? (i := 482) (by decide +kernel)⟩
theorem lw_p19 : lw_okq (⟨"WindCarver", "breakByLot", "(II)I"⟩, 10) := ⟨⟨by decide +kernel, by decide +kernel⟩, List.mem_of_getElem? (i := 12) (by decide +kernel), List.mem_of_getElem? (i := 493) (by decide +kernel), List.mem_of_getElem? (i := 494) (by decide +kernel)⟩
theorem lw_p20 : lw_okq (⟨"WindCarver$Asked", "leave", "(I)V"⟩, 6) := ⟨⟨by decide +kernel, by decide +kernel⟩, List.mem_of_getElem? (i := 128) (by decide +kernel), List.mem_of_getElem? (i := 537) (by decide +kernel), List.mem_of_getElem? (i := 538) (by decide +kernel)⟩
theorem lw_p21 : lw_okq (⟨"WindCarver", "rowsThere", "()I"⟩, 10) := ⟨⟨by decide +kernel, by decide +kernel⟩, List.mem_of_getElem? (i := 12) (by decide +kernel), List.mem_of_getElem? (i := 555) (by decide +kernel), List.mem_of_getElem? (i := 556) (by decide +kernel)⟩
theorem lw_p22 : lw_okq (⟨"WindCarver", "lostNow", "()I"⟩, 10) := ⟨⟨by decide +kernel, by decide +kernel⟩, List.mem_of_getElem? (i := 12) (by decide +kernel), List.mem_of_getElem? (i := 559) (by decide +kernel), List.mem_of_getElem? (i := 560) (by decide +kernel)⟩
theorem lw_p23 : lw_okq (⟨"WindCarver", "leavingNow", "()I"⟩, 10) := ⟨⟨by decide +kernel, by decide +kernel⟩, List.mem_of_getElem? (i := 12) (by decide +kernel), List.mem_of_getElem? (i := 563) (by decide +kernel), List.mem_of_getElem? (i := 564) (by decide +kernel)⟩
theorem lw_p24 : lw_okq (⟨"WindCarverModel", "find", "(I)I"⟩, 28) := ⟨⟨by decide +kernel, by decide +kernel⟩, List.mem_of_getElem? (i := 571) (by decide +kernel), List.mem_of_getElem? (i := 676) (by decide +kernel), List.mem_of_getElem? (i := 677) (by decide +kernel)⟩
theorem lw_p25 : lw_okq (⟨"WindCarverModel", "well", "(I)I"⟩, 28) := ⟨⟨by decide +kernel, by decide +kernel⟩, List.mem_of_getElem? (i := 571) (by decide +kernel), List.mem_of_getElem? (i := 681) (by decide +kernel), List.mem_of_getElem? (i := 682) (by decide +kernel)⟩
theorem lw_p26 : lw_okq (⟨"WindCarverModel", "readPass", "()Z"⟩, 28) := ⟨⟨by decide +kernel, by decide +kernel⟩, List.mem_of_getElem? (i := 571) (by decide +kernel), List.mem_of_getElem? (i := 710) (by decide +kernel), List.mem_of_getElem? (i := 711) (by decide +kernel)⟩
theorem lw_p27 : lw_okq (⟨"WindCarverModel", "nextToken", "()V"⟩, 28) := ⟨⟨by decide +kernel, by decide +kernel⟩, List.mem_of_getElem? (i := 571) (by decide +kernel), List.mem_of_getElem? (i := 714) (by decide +kernel), List.mem_of_getElem? (i := 715) (by decide +kernel)⟩
theorem lw_p28 : lw_okq (⟨"WindCarverModel", "readFour", "(II)Z"⟩, 28) := ⟨⟨by decide +kernel, by decide +kernel⟩, List.mem_of_getElem? (i := 571) (by decide +kernel), List.mem_of_getElem? (i := 722) (by decide +kernel), List.mem_of_getElem? (i := 723) (by decide +kernel)⟩
theorem lw_p29 : lw_okq (⟨"WindCarverModel", "takes", "(I)Z"⟩, 28) := ⟨⟨by decide +kernel, by decide +kernel⟩, List.mem_of_getElem? (i := 571) (by decide +kernel), List.mem_of_getElem? (i := 726) (by decide +kernel), List.mem_of_getElem? (i := 727) (by decide +kernel)⟩
theorem lw_p30 : lw_okq (⟨"WindCarverModel", "isLetter", "(I)Z"⟩, 28) := ⟨⟨by decide +kernel, by decide +kernel⟩, List.mem_of_getElem? (i := 571) (by decide +kernel), List.mem_of_getElem? (i := 730) (by decide +kernel), List.mem_of_getElem? (i := 731) (by decide +kernel)⟩
theorem lw_p31 : lw_okq (⟨"WindCarverModel", "faults", "(I)Z"⟩, 28) := ⟨⟨by decide +kernel, by decide +kernel⟩, List.mem_of_getElem? (i := 571) (by decide +kernel), List.mem_of_getElem? (i := 734) (by decide +kernel), List.mem_of_getElem? (i := 735) (by decide +kernel)⟩
def lw_privs_2 : List (MethodName × Nat) := [(⟨"WindCarver", "chooseWalls", "(II)I"⟩, 10), (⟨"WindCarver", "chooseWall", "(IIII)Z"⟩, 10), (⟨"WindCarver", "isFeltAlong", "(I[II)Z"⟩, 10), (⟨"WindCarver", "breakByLot", "(II)I"⟩, 10), (⟨"WindCarver$Asked", "leave", "(I)V"⟩, 6), (⟨"WindCarver", "rowsThere", "()I"⟩, 10), (⟨"WindCarver", "lostNow", "()I"⟩, 10), (⟨"WindCarver", "leavingNow", "()I"⟩, 10), (⟨"WindCarverModel", "find", "(I)I"⟩, 28), (⟨"WindCarverModel", "well", "(I)I"⟩, 28), (⟨"WindCarverModel", "readPass", "()Z"⟩, 28), (⟨"WindCarverModel", "nextToken", "()V"⟩, 28), (⟨"WindCarverModel", "readFour", "(II)Z"⟩, 28), (⟨"WindCarverModel", "takes", "(I)Z"⟩, 28), (⟨"WindCarverModel", "isLetter", "(I)Z"⟩, 28), (⟨"WindCarverModel", "faults", "(I)Z"⟩, 28)]
theorem lw_r2 : ∀ q ∈ lw_privs_2, lw_okq q := List.forall_mem_cons.mpr ⟨lw_p16, List.forall_mem_cons.mpr ⟨lw_p17, List.forall_mem_cons.mpr ⟨lw_p18, List.forall_mem_cons.mpr ⟨lw_p19, List.forall_mem_cons.mpr ⟨lw_p20, List.forall_mem_cons.mpr ⟨lw_p21, List.forall_mem_cons.mpr ⟨lw_p22, List.forall_mem_cons.mpr ⟨lw_p23, List.forall_mem_cons.mpr ⟨lw_p24, List.forall_mem_cons.mpr ⟨lw_p25, List.forall_mem_cons.mpr ⟨lw_p26, List.forall_mem_cons.mpr ⟨lw_p27, List.forall_mem_cons.mpr ⟨lw_p28, List.forall_mem_cons.mpr ⟨lw_p29, List.forall_mem_cons.mpr ⟨lw_p30, List.forall_mem_cons.mpr ⟨lw_p31, fun _ h => absurd h List.not_mem_nil⟩⟩⟩⟩⟩⟩⟩⟩⟩⟩⟩⟩⟩⟩⟩⟩
theorem lw_p32 : lw_okq (⟨"WindCarverModel", "takesNumber", "(IIII)Z"⟩, 28) := ⟨⟨by decide +kernel, by decide +kernel⟩, List.mem_of_getElem? (i := 571) (by decide +kernel), List.mem_of_getElem? (i := 738) (by decide +kernel), List.mem_of_getElem? (i := 739) (by decide +kernel)⟩
theorem lw_p33 : lw_okq (⟨"WindCarverModel", "readWork", "(I)Z"⟩, 28) := ⟨⟨by decide +kernel, by decide +kernel⟩, List.mem_of_getElem? (i := 571) (by decide +kernel), List.mem_of_getElem? (i := 742) (by decide +kernel), List.mem_of_getElem? (i := 743) (by decide +kernel)⟩
theorem lw_p34 : lw_okq (⟨"WindCarverModel", "isWork", "(I)Z"⟩, 28) := ⟨⟨by decide +kernel, by decide +kernel⟩, List.mem_of_getElem? (i := 571) (by decide +kernel), List.mem_of_getElem? (i := 762) (by decide +kernel), List.mem_of_getElem? (i := 763) (by decide +kernel)⟩
theorem lw_p35 : lw_okq (⟨"WindCarverModel", "workMany", "()I"⟩, 28) := ⟨⟨by decide +kernel, by decide +kernel⟩, List.mem_of_getElem? (i := 571) (by decide +kernel), List.mem_of_getElem? (i := 766) (by decide +kernel), List.mem_of_getElem? (i := 767) (by decide +kernel)⟩
theorem lw_p36 : lw_okq (⟨"WindCarverModel", "note", "()V"⟩, 28) := ⟨⟨by decide +kernel, by decide +kernel⟩, List.mem_of_getElem? (i := 571) (by decide +kernel), List.mem_of_getElem? (i := 770) (by decide +kernel), List.mem_of_getElem? (i := 771) (by decide +kernel)⟩
theorem lw_p37 : lw_okq (⟨"WindCarverModel", "clear", "(I)V"⟩, 28) := ⟨⟨by decide +kernel, by decide +kernel⟩, List.mem_of_getElem? (i := 571) (by decide +kernel), List.mem_of_getElem? (i := 778) (by decide +kernel), List.mem_of_getElem? (i := 779) (by decide +kernel)⟩
theorem lw_p38 : lw_okq (⟨"WindCarverModel", "oneHour", "()V"⟩, 28) := ⟨⟨by decide +kernel, by decide +kernel⟩, List.mem_of_getElem? (i := 571) (by decide +kernel), List.mem_of_getElem? (i := 800) (by decide +kernel), List.mem_of_getElem? (i := 801) (by decide +kernel)⟩
theorem lw_p39 : lw_okq (⟨"WindCarverModel", "blow", "()V"⟩, 28) := ⟨⟨by decide +kernel, by decide +kernel⟩, List.mem_of_getElem? (i := 571) (by decide +kernel), List.mem_of_getElem? (i := 804) (by decide +kernel), List.mem_of_getElem? (i := 805) (by decide +kernel)⟩
theorem lw_p40 : lw_okq (⟨"WindCarverModel", "goes", "(III)V"⟩, 28) := ⟨⟨by decide +kernel, by decide +kernel⟩, List.mem_of_getElem? (i := 571) (by decide +kernel), List.mem_of_getElem? (i := 808) (by decide +kernel), List.mem_of_getElem? (i := 809) (by decide +kernel)⟩
theorem lw_p41 : lw_okq (⟨"WindCarverModel", "feltNow", "(I)I"⟩, 28) := ⟨⟨by decide +kernel, by decide +kernel⟩, List.mem_of_getElem? (i := 571) (by decide +kernel), List.mem_of_getElem? (i := 820) (by decide +kernel), List.mem_of_getElem? (i := 821) (by decide +kernel)⟩
theorem lw_p42 : lw_okq (⟨"WindCarverModel", "blowIn", "(I)V"⟩, 28) := ⟨⟨by decide +kernel, by decide +kernel⟩, List.mem_of_getElem? (i := 571) (by decide +kernel), List.mem_of_getElem? (i := 834) (by decide +kernel), List.mem_of_getElem? (i := 835) (by decide +kernel)⟩
theorem lw_p43 : lw_okq (⟨"WindCarverModel", "putAside", "()V"⟩, 28) := ⟨⟨by decide +kernel, by decide +kernel⟩, List.mem_of_getElem? (i := 571) (by decide +kernel), List.mem_of_getElem? (i := 838) (by decide +kernel), List.mem_of_getElem? (i := 839) (by decide +kernel)⟩
theorem lw_p44 : lw_okq (⟨"WindCarverModel", "takeBack", "()V"⟩, 28) := ⟨⟨by decide +kernel, by decide +kernel⟩, List.mem_of_getElem? (i := 571) (by decide +kernel), List.mem_of_getElem? (i := 842) (by decide +kernel), List.mem_of_getElem? (i := 843) (by decide +kernel)⟩
theorem lw_p45 : lw_okq (⟨"WindCarverModel", "lacks", "(III)I"⟩, 28) := ⟨⟨by decide +kernel, by decide +kernel⟩, List.mem_of_getElem? (i := 571) (by decide +kernel), List.mem_of_getElem? (i := 865) (by decide +kernel), List.mem_of_getElem? (i := 866) (by decide +kernel)⟩
theorem lw_p46 : lw_okq (⟨"WindCarverModel", "feltWith", "(III)I"⟩, 28) := ⟨⟨by decide +kernel, by decide +kernel⟩, List.mem_of_getElem? (i := 571) (by decide +kernel), List.mem_of_getElem? (i := 874) (by decide +kernel), List.mem_of_getElem? (i := 875) (by decide +kernel)⟩
theorem lw_p47 : lw_okq (⟨"WindCarverModel", "sizeOf", "(I)I"⟩, 28) := ⟨⟨by decide +kernel, by decide +kernel⟩, List.mem_of_getElem? (i := 571) (by decide +kernel), List.mem_of_getElem? (i := 914) (by decide +kernel), List.mem_of_getElem? (i := 915) (by decide +kernel)⟩
def lw_privs_3 : List (MethodName × Nat) := [(⟨"WindCarverModel", "takesNumber", "(IIII)Z"⟩, 28), (⟨"WindCarverModel", "readWork", "(I)Z"⟩, 28), (⟨"WindCarverModel", "isWork", "(I)Z"⟩, 28), (⟨"WindCarverModel", "workMany", "()I"⟩, 28), (⟨"WindCarverModel", "note", "()V"⟩, 28), (⟨"WindCarverModel", "clear", "(I)V"⟩, 28), (⟨"WindCarverModel", "oneHour", "()V"⟩, 28), (⟨"WindCarverModel", "blow", "()V"⟩, 28), (⟨"WindCarverModel", "goes", "(III)V"⟩, 28), (⟨"WindCarverModel", "feltNow", "(I)I"⟩, 28), (⟨"WindCarverModel", "blowIn", "(I)V"⟩, 28), (⟨"WindCarverModel", "putAside", "()V"⟩, 28), (⟨"WindCarverModel", "takeBack", "()V"⟩, 28), (⟨"WindCarverModel", "lacks", "(III)I"⟩, 28), (⟨"WindCarverModel", "feltWith", "(III)I"⟩, 28), (⟨"WindCarverModel", "sizeOf", "(I)I"⟩, 28)]
theorem lw_r3 : ∀ q ∈ lw_privs_3, lw_okq q := List.forall_mem_cons.mpr ⟨lw_p32, List.forall_mem_cons.mpr ⟨lw_p33, List.forall_mem_cons.mpr ⟨lw_p34, List.forall_mem_cons.mpr ⟨lw_p35, List.forall_mem_cons.mpr ⟨lw_p36, List.forall_mem_cons.mpr ⟨lw_p37, List.forall_mem_cons.mpr ⟨lw_p38, List.forall_mem_cons.mpr ⟨lw_p39, List.forall_mem_cons.mpr ⟨lw_p40, List.forall_mem_cons.mpr ⟨lw_p41, List.forall_mem_cons.mpr ⟨lw_p42, List.forall_mem_cons.mpr ⟨lw_p43, List.forall_mem_cons.mpr ⟨lw_p44, List.forall_mem_cons.mpr ⟨lw_p45, List.forall_mem_cons.mpr ⟨lw_p46, List.forall_mem_cons.mpr ⟨lw_p47, fun _ h => absurd h List.not_mem_nil⟩⟩⟩⟩⟩⟩⟩⟩⟩⟩⟩⟩⟩⟩⟩⟩
theorem lw_p48 : lw_okq (⟨"WindCarverModel", "begin", "(I)V"⟩, 28) := ⟨⟨by decide +kernel, by decide +kernel⟩, List.mem_of_getElem? (i := 571) (by decide +kernel), List.mem_of_getElem? (i := 918) (by decide +kernel), List.mem_of_getElem? (i := 919) (by decide +kernel)⟩
theorem lw_p49 : lw_okq (⟨"WindCarverModel", "wallSize", "(I)I"⟩, 28) := ⟨⟨by decide +kernel, by decide +kernel⟩, List.mem_of_getElem? (i := 571) (by decide +kernel), List.mem_of_getElem? (i := 922) (by decide +kernel), List.mem_of_getElem? (i := 923) (by decide +kernel)⟩
theorem lw_p50 : lw_okq (⟨"WindCarverModel", "lent", "(II)I"⟩, 28) := ⟨⟨by decide +kernel, by decide +kernel⟩, List.mem_of_getElem? (i := 571) (by decide +kernel), List.mem_of_getElem? (i := 926) (by decide +kernel), List.mem_of_getElem? (i := 927) (by decide +kernel)⟩
theorem lw_p51 : lw_okq (⟨"WindCarverModel", "markOf", "(I)I"⟩, 28) := ⟨⟨by decide +kernel, by decide +kernel⟩, List.mem_of_getElem? (i := 571) (by decide +kernel), List.mem_of_getElem? (i := 930) (by decide +kernel), List.mem_of_getElem? (i := 931) (by decide +kernel)⟩
theorem lw_p52 : lw_okq (⟨"WindCarverModel", "wallMark", "(I)I"⟩, 28) := ⟨⟨by decide +kernel, by decide +kernel⟩, List.mem_of_getElem? (i := 571) (by decide +kernel), List.mem_of_getElem? (i := 934) (by decide +kernel), List.mem_of_getElem? (i := 935) (by decide +kernel)⟩
theorem lw_p53 : lw_okq (⟨"WindCarverModel", "sizeOfHand", "(I)I"⟩, 28) := ⟨⟨by decide +kernel, by decide +kernel⟩, List.mem_of_getElem? (i := 571) (by decide +kernel), List.mem_of_getElem? (i := 938) (by decide +kernel), List.mem_of_getElem? (i := 939) (by decide +kernel)⟩
theorem lw_p54 : lw_okq (⟨"WindCarverModel", "handSize", "(I)I"⟩, 28) := ⟨⟨by decide +kernel, by decide +kernel⟩, List.mem_of_getElem? (i := 571) (by decide +kernel), List.mem_of_getElem? (i := 942) (by decide +kernel), List.mem_of_getElem? (i := 943) (by decide +kernel)⟩
def lw_privs_4 : List (MethodName × Nat) := [(⟨"WindCarverModel", "begin", "(I)V"⟩, 28), (⟨"WindCarverModel", "wallSize", "(I)I"⟩, 28), (⟨"WindCarverModel", "lent", "(II)I"⟩, 28), (⟨"WindCarverModel", "markOf", "(I)I"⟩, 28), (⟨"WindCarverModel", "wallMark", "(I)I"⟩, 28), (⟨"WindCarverModel", "sizeOfHand", "(I)I"⟩, 28), (⟨"WindCarverModel", "handSize", "(I)I"⟩, 28)]
theorem lw_r4 : ∀ q ∈ lw_privs_4, lw_okq q := List.forall_mem_cons.mpr ⟨lw_p48, List.forall_mem_cons.mpr ⟨lw_p49, List.forall_mem_cons.mpr ⟨lw_p50, List.forall_mem_cons.mpr ⟨lw_p51, List.forall_mem_cons.mpr ⟨lw_p52, List.forall_mem_cons.mpr ⟨lw_p53, List.forall_mem_cons.mpr ⟨lw_p54, fun _ h => absurd h List.not_mem_nil⟩⟩⟩⟩⟩⟩⟩
def lw_privs : List (MethodName × Nat) := lw_privs_1 ++ (lw_privs_2 ++ (lw_privs_3 ++ (lw_privs_4)))
def lw_tbl : List Cond := k2_sels lw_privs ++ tables_1
theorem lw_privs_ok : ∀ q ∈ lw_privs, lw_okq q := by
  show ∀ q ∈ lw_privs_1 ++ (lw_privs_2 ++ (lw_privs_3 ++ (lw_privs_4))), lw_okq q
  exact List.forall_mem_append.mpr ⟨lw_r1, List.forall_mem_append.mpr ⟨lw_r2, List.forall_mem_append.mpr ⟨lw_r3, lw_r4⟩⟩⟩
end
section
/-! NAMES AND TABLES of the class, the reference and the law: written by wip/whole/gen/emit02.py out of claim/JAVAP.txt and the tables of the Statement -/
def wc_cnl : List String := ["WindCarver", "WindCarver$Row", "WindCarver$Text", "WindCarver$Pass", "WindCarver$Air", "WindCarver$Acts", "WindCarver$Asked", "WindCarverModel", "WindCarverLaw"]
def wc_cn (ci : Nat) : String := (wc_cnl[ci]?).getD ""
def wc_nfl : List Nat := [10, 4, 5, 7, 3, 3, 6, 28]
def wc_nf (ci : Nat) : Nat := (wc_nfl[ci]?).getD 0
def wc_ftab : List (List (String × String × String × Bool)) := [
  [("WindCarver", "rows", "[LWindCarver$Row;", true), ("WindCarver", "text", "LWindCarver$Text;", true), ("WindCarver", "now", "LWindCarver$Pass;", true), ("WindCarver", "other", "LWindCarver$Pass;", true), ("WindCarver", "air", "LWindCarver$Air;", true), ("WindCarver", "chosen", "[I", true), ("WindCarver", "acts", "LWindCarver$Acts;", true), ("WindCarver", "images", "[LWindCarver$Pass;", true), ("WindCarver", "asked", "LWindCarver$Asked;", true), ("WindCarver", "finding", "I", false)],
  [("WindCarver$Row", "items", "[I", true), ("WindCarver$Row", "there", "Z", false), ("WindCarver$Row", "lane", "I", false), ("WindCarver$Row", "length", "I", false)],
  [("WindCarver$Text", "tape", "[I", true), ("WindCarver$Text", "length", "I", false), ("WindCarver$Text", "fault", "I", false), ("WindCarver$Text", "place", "I", false), ("WindCarver$Text", "at", "I", false)],
  [("WindCarver$Pass", "gusts", "[I", true), ("WindCarver$Pass", "rises", "[I", true), ("WindCarver$Pass", "kinds", "[I", true), ("WindCarver$Pass", "holds", "[I", true), ("WindCarver$Pass", "\x6fpen", "[I", true), ("WindCarver$Pass", "there", "Z", false), ("WindCarver$Pass", "hour", "I", false)],
  [("WindCarver$Air", "felt", "[I", true), ("WindCarver$Air", "leaving", "[I", true), ("WindCarver$Air", "lost", "I", false)],
  [("WindCarver$Acts", "ahead", "[LWindCarver$Pass;", true), ("WindCarver$Acts", "next", "I", false), ("WindCarver$Acts", "kept", "I", false)],
  [("WindCarver$Asked", "trace", "[I", true), ("WindCarver$Asked", "traced", "I", false), ("WindCarver$Asked", "kind", "I", false), ("WindCarver$Asked", "holds", "I", false), ("WindCarver$Asked", "cell", "I", false), ("WindCarver$Asked", "felt", "I", false)],
  [("WindCarverModel", "lanes", "[I", true), ("WindCarverModel", "sizes", "[I", true), ("WindCarverModel", "items", "[I", true), ("WindCarverModel", "status", "I", false), ("WindCarverModel", "isThere", "Z", false), ("WindCarverModel", "st", "[I", true), ("WindCarverModel", "moved", "[I", true), ("WindCarverModel", "tape", "[I", true), ("WindCarverModel", "bytes", "I", false), ("WindCarverModel", "latest", "I", false), ("WindCarverModel", "place", "I", false), ("WindCarverModel", "token", "I", false), ("WindCarverModel", "value", "I", false), ("WindCarverModel", "begins", "I", false), ("WindCarverModel", "wrong", "I", false), ("WindCarverModel", "read", "[I", true), ("WindCarverModel", "works", "I", false), ("WindCarverModel", "readX", "I", false), ("WindCarverModel", "felt", "[I", true), ("WindCarverModel", "lostNow", "I", false), ("WindCarverModel", "brokenNow", "I", false), ("WindCarverModel", "acts", "[I", true), ("WindCarverModel", "actMany", "I", false), ("WindCarverModel", "aside", "[I", true), ("WindCarverModel", "isKept", "[Z", true), ("WindCarverModel", "kept", "[I", true), ("WindCarverModel", "trace", "[I", true), ("WindCarverModel", "traced", "I", false)]]
def wc_F (ci : Nat) : u_T := fun k => ((((wc_ftab[ci]?).getD [])[k]?).getD ("", "", "", false))
abbrev wc_cls : List vw_C := (List.range 8).map (fun ci => (wc_cn ci, wc_F ci, wc_nf ci))
/-- kinds of cells: how many, and of which shape: 0 an object of a class, 1 ints, 2 booleans, 3 Rows, 4 Passes, 9 a table of a class, 10 the script -/
def wc_cntl : List Nat := [1, 1, 8, 8, 1, 1, 28, 28, 28, 28, 28, 28, 1, 1, 1, 1, 1, 1, 1, 1, 1, 1, 1, 1, 1, 1, 1, 1, 1, 1, 1, 1, 1, 1, 1, 1, 1, 1, 1]
def wc_cnt (k : Nat) : Nat := (wc_cntl[k]?).getD 0
def wc_shl : List (Nat × Nat) := [(0, 0), (3, 8), (0, 1), (1, 40), (0, 2), (1, 120), (0, 3), (1, 4), (1, 4), (1, 16), (1, 16), (1, 16), (0, 4), (1, 16), (1, 4), (1, 2), (0, 5), (4, 24), (4, 2), (0, 6), (1, 16), (0, 7), (1, 8), (1, 8), (1, 320), (1, 57), (1, 40), (1, 120), (1, 57), (1, 20), (1, 1368), (1, 57), (2, 2), (1, 114), (1, 16), (9, 6), (9, 6), (9, 6), (10, 0)]
def wc_sh (k : Nat) : Nat × Nat := (wc_shl[k]?).getD (99, 0)
def wc_rfl : List (List (Option (Nat × Bool × Nat))) := [
  [some (1, false, 0), some (4, false, 0), some (6, false, 0), some (6, false, 1), some (12, false, 0), some (15, false, 0), some (16, false, 0), some (18, false, 0), some (19, false, 0), none],
  [],
  [some (3, true, 0), none, none, none],
  [],
  [some (5, false, 0), none, none, none, none],
  [],
  [some (7, true, 0), some (8, true, 0), some (9, true, 0), some (10, true, 0), some (11, true, 0), none, none],
  [],
  [],
  [],
  [],
  [],
  [some (13, false, 0), some (14, false, 0), none],
  [],
  [],
  [],
  [some (17, false, 0), none, none],
  [],
  [],
  [some (20, false, 0), none, none, none, none, none],
  [],
  [some (22, false, 0), some (23, false, 0), some (24, false, 0), none, none, some (25, false, 0), some (26, false, 0), some (27, false, 0), none, none, none, none, none, none, none, some (28, false, 0), none, none, some (29, false, 0), none, none, some (30, false, 0), none, some (31, false, 0), some (32, false, 0), some (33, false, 0), some (34, false, 0), none],
  [],
  [],
  [],
  [],
  [],
  [],
  [],
  [],
  [],
  [],
  [],
  [],
  [],
  [],
  [],
  [],
  []]
def wc_bol : List (Nat × Nat) := [(1, 1), (3, 5), (7, 4)]
def wc_stl : List (List Int32) := [[-1, 0, 1, 1, 0, 4], [10, 11, 12, 11, 13, 14], [20, 21, 24, 22, 23, 23]]
/-- links: (own class, index, class, place of the field) ; (own, index, kind) ; constants ; (own, index, method) -/
def wc_fl : List (Nat × Nat × Nat × Nat) := [(2, 11, 2, 0), (2, 15, 2, 1), (0, 115, 2, 1), (2, 19, 2, 2), (0, 136, 2, 2), (2, 22, 2, 3), (0, 122, 2, 3), (2, 25, 2, 4), (3, 9, 3, 0), (4, 22, 3, 0), (2, 33, 3, 0), (0, 170, 3, 0), (3, 15, 3, 1), (2, 40, 3, 1), (0, 189, 3, 1), (3, 18, 3, 2), (4, 35, 3, 2), (0, 161, 3, 2), (3, 21, 3, 3), (0, 186, 3, 3), (3, 24, 3, 4), (4, 38, 3, 4), (0, 164, 3, 4), (3, 27, 3, 5), (0, 139, 3, 5), (3, 31, 3, 6), (4, 41, 3, 6), (0, 173, 3, 6), (4, 9, 4, 0), (0, 195, 4, 0), (4, 15, 4, 1), (0, 201, 4, 1), (4, 18, 4, 2), (0, 198, 4, 2), (5, 11, 5, 0), (5, 17, 5, 1), (5, 21, 5, 2), (0, 129, 5, 2), (6, 11, 6, 0), (0, 251, 6, 0), (6, 15, 6, 1), (0, 248, 6, 1), (6, 19, 6, 2), (0, 232, 6, 2), (6, 22, 6, 3), (0, 235, 6, 3), (6, 25, 6, 4), (0, 237, 6, 4), (6, 28, 6, 5), (0, 240, 6, 5), (1, 9, 1, 0), (0, 89, 1, 0), (1, 15, 1, 1), (0, 92, 1, 1), (1, 19, 1, 2), (0, 96, 1, 2), (1, 23, 1, 3), (0, 108, 1, 3), (0, 11, 0, 0), (0, 18, 0, 1), (0, 25, 0, 2), (0, 29, 0, 3), (0, 35, 0, 4), (0, 39, 0, 5), (0, 46, 0, 6), (0, 50, 0, 7), (0, 57, 0, 8), (0, 61, 0, 9), (7, 7, 7, 0), (7, 13, 7, 1), (7, 16, 7, 2), (7, 50, 7, 3), (7, 145, 7, 4), (7, 19, 7, 5), (7, 22, 7, 6), (7, 25, 7, 7), (7, 81, 7, 8), (7, 141, 7, 9), (7, 85, 7, 10), (7, 91, 7, 11), (7, 94, 7, 12), (7, 88, 7, 13), (7, 105, 7, 14), (7, 28, 7, 15), (7, 124, 7, 16), (7, 127, 7, 17), (7, 31, 7, 18), (7, 159, 7, 19), (7, 169, 7, 20), (7, 34, 7, 21), (7, 149, 7, 22), (7, 37, 7, 23), (7, 40, 7, 24), (7, 44, 7, 25), (7, 47, 7, 26), (7, 233, 7, 27)]
def wc_flp : List Nat := [27, 28, 29, 30, 31, 32, 33, 34, 53, 54, 55, 56, 57, 58, 59, 60, 61, 62, 63, 64, 65, 66, 67, 68, 69, 70, 71, 72, 94, 95, 96, 97, 98, 99, 116, 117, 118, 119, 133, 134, 135, 136, 137, 138, 139, 140, 141, 142, 143, 144, 163, 164, 165, 166, 167, 168, 169, 170, 180, 181, 182, 183, 184, 185, 186, 187, 188, 189, 576, 577, 578, 579, 580, 581, 582, 583, 584, 585, 586, 587, 588, 589, 590, 591, 592, 593, 594, 595, 596, 597, 598, 599, 600, 601, 602, 603]
def wc_gs : List (Nat × Nat × Nat) := [(0, 263, 35), (6, 31, 36), (6, 38, 37)]
def wc_gsn : List (String × String) := [("WindCarver", "IS_TOO"), ("WindCarver$Asked", "SIZE_BODY"), ("WindCarver$Asked", "MARK_BODY")]
def wc_gsp : List Nat := [521, 531, 540]
def wc_ld : List (Nat × Nat × Int32) := [(0, 70, (-1000001)), (0, 266, (-1000010)), (0, 116, (-1000003)), (0, 121, (-1000100)), (0, 140, (-1000002)), (0, 185, (-1000000)), (3, 57, (-1000000)), (7, 67, (-1000001)), (7, 54, (-1000010)), (7, 84, (-1000003)), (7, 144, (-1000100)), (7, 179, (-1000002)), (7, 204, (-1000000))]
def wc_ldp : List Nat := [218, 223, 267, 323, 342, 426, 455, 674, 679, 704, 745, 754, 823]
def wc_le : List (Nat × Nat × Int64) := [(7, 55, 7), (7, 65, 2), (7, 79, 255), (7, 97, 48), (7, 99, 57), (7, 101, 97), (7, 103, 122), (7, 152, 15), (7, 183, 5), (7, 185, 99), (7, 154, 3), (7, 194, 31), (7, 196, 20), (7, 211, 40), (7, 223, (-1)), (7, 228, 10)]
def wc_lep : List Nat := [669, 673, 703, 717, 718, 719, 720, 758, 759, 760, 792, 793, 798, 832, 872, 889]
def wc_ml : List (Nat × Nat × Nat) := [(8, 13, 0), (0, 66, 32), (0, 71, 37), (0, 75, 52), (0, 79, 38), (8, 18, 1), (0, 82, 39), (0, 99, 53), (0, 86, 54), (8, 22, 2), (8, 27, 3), (8, 32, 4), (0, 111, 55), (8, 36, 5), (0, 117, 56), (2, 28, 66), (3, 41, 68), (3, 45, 67), (2, 36, 57), (2, 47, 61), (2, 58, 64), (2, 51, 62), (2, 73, 63), (2, 43, 58), (2, 55, 60), (2, 62, 59), (2, 66, 69), (2, 69, 67), (0, 125, 65), (0, 132, 70), (3, 49, 69), (8, 41, 6), (8, 45, 7), (0, 141, 33), (0, 144, 35), (0, 147, 69), (0, 150, 79), (5, 25, 65), (0, 153, 67), (8, 49, 8), (0, 157, 68), (8, 53, 9), (8, 57, 10), (0, 167, 34), (8, 62, 11), (0, 176, 44), (0, 204, 74), (4, 27, 75), (4, 31, 76), (4, 44, 77), (4, 48, 78), (0, 267, 73), (3, 53, 71), (8, 66, 12), (0, 179, 80), (8, 70, 13), (0, 182, 41), (8, 74, 14), (8, 78, 15), (0, 192, 45), (8, 82, 16), (8, 86, 17), (8, 90, 18), (0, 207, 72), (8, 94, 19), (0, 211, 46), (8, 98, 20), (0, 215, 48), (0, 271, 49), (8, 102, 21), (0, 219, 47), (8, 107, 22), (8, 111, 23), (0, 223, 50), (0, 226, 51), (8, 115, 24), (8, 119, 25), (8, 123, 26), (8, 127, 27), (0, 229, 36), (8, 131, 28), (0, 242, 81), (6, 34, 83), (6, 41, 84), (0, 245, 82), (8, 135, 29), (8, 139, 30), (0, 254, 40), (0, 257, 42), (0, 260, 43), (8, 143, 31), (8, 17, 90), (7, 61, 89), (7, 57, 85), (7, 68, 87), (7, 72, 88), (8, 21, 92), (7, 75, 91), (8, 26, 93), (8, 31, 94), (8, 35, 95), (8, 40, 104), (7, 137, 103), (7, 114, 96), (7, 130, 101), (7, 117, 99), (7, 108, 98), (7, 111, 97), (7, 120, 100), (7, 134, 102), (8, 44, 105), (8, 48, 116), (7, 180, 106), (7, 172, 108), (7, 187, 114), (7, 191, 115), (8, 52, 117), (7, 175, 112), (8, 56, 118), (8, 61, 119), (7, 156, 107), (8, 65, 120), (7, 198, 113), (7, 166, 110), (7, 162, 109), (8, 69, 121), (8, 73, 122), (7, 201, 111), (8, 77, 123), (8, 81, 127), (7, 213, 126), (7, 205, 124), (7, 208, 125), (8, 85, 128), (8, 89, 129), (8, 93, 130), (7, 216, 86), (8, 97, 132), (7, 219, 131), (8, 101, 134), (7, 225, 133), (8, 106, 135), (8, 110, 136), (8, 114, 137), (8, 118, 138), (8, 122, 139), (8, 126, 140), (8, 130, 142), (7, 230, 141), (8, 134, 151), (7, 257, 150), (7, 236, 143), (7, 254, 149), (7, 239, 144), (7, 251, 148), (7, 245, 145), (7, 248, 147), (7, 242, 146), (8, 138, 152), (8, 142, 153), (8, 146, 154)]
def wc_mlp : List Nat := [211, 215, 219, 224, 228, 232, 236, 240, 244, 248, 255, 259, 263, 268, 272, 276, 280, 284, 288, 292, 296, 300, 304, 307, 311, 314, 318, 322, 324, 329, 333, 334, 338, 343, 346, 349, 350, 354, 358, 359, 363, 364, 368, 372, 375, 379, 383, 387, 391, 395, 398, 402, 406, 410, 414, 418, 422, 427, 431, 435, 439, 443, 447, 451, 456, 460, 464, 468, 472, 476, 480, 484, 488, 492, 496, 502, 506, 510, 514, 518, 523, 527, 533, 536, 542, 546, 550, 554, 558, 562, 566, 662, 666, 670, 675, 680, 684, 688, 691, 695, 699, 705, 709, 713, 721, 725, 729, 733, 737, 741, 746, 750, 755, 761, 765, 769, 773, 777, 781, 785, 789, 794, 799, 803, 807, 811, 815, 819, 824, 828, 833, 837, 841, 845, 849, 853, 857, 860, 864, 868, 873, 877, 881, 885, 890, 894, 898, 902, 906, 909, 913, 917, 921, 925, 929, 933, 937, 941, 945, 949, 953]
/-- the methods, constructors apart: (own class, static, name, maxLocals, what it returns, how many arguments) -/
def wc_mtl : List (Nat × Bool × String × String × Nat × Option FieldType × Nat) := [
  (0, false, "row", "(III)I", 4, (some .int), 3),
  (0, false, "set", "(III)I", 6, (some .int), 3),
  (0, false, "copy", "(IIIII)I", 8, (some .int), 5),
  (0, false, "drop", "(I)I", 2, (some .int), 1),
  (0, false, "feed", "(I)I", 2, (some .int), 1),
  (0, false, "pass", "()I", 2, (some .int), 0),
  (0, false, "fault", "()I", 1, (some .int), 0),
  (0, false, "setUp", "(III)I", 4, (some .int), 3),
  (0, false, "take", "(I)I", 2, (some .int), 1),
  (0, false, "turn", "(I)I", 2, (some .int), 1),
  (0, false, "gust", "(II)I", 4, (some .int), 2),
  (0, false, "hours", "(I)I", 3, (some .int), 1),
  (0, false, "undo", "()I", 1, (some .int), 0),
  (0, false, "cell", "(II)I", 3, (some .int), 2),
  (0, false, "wind", "(II)I", 3, (some .int), 2),
  (0, false, "felt", "(II)I", 3, (some .int), 2),
  (0, false, "lost", "(I)I", 2, (some .int), 1),
  (0, false, "leaves", "(II)I", 3, (some .int), 2),
  (0, false, "breaks", "(I)I", 4, (some .int), 1),
  (0, false, "stands", "(II)I", 5, (some .int), 2),
  (0, false, "walls", "(III)I", 5, (some .int), 3),
  (0, false, "hidden", "(IIII)I", 8, (some .int), 4),
  (0, false, "most", "(II)I", 6, (some .int), 2),
  (0, false, "lots", "(IIII)I", 10, (some .int), 4),
  (0, false, "image", "(I)I", 2, (some .int), 1),
  (0, false, "restore", "(I)I", 2, (some .int), 1),
  (0, false, "kind", "(I)I", 2, (some .int), 1),
  (0, false, "as", "(II)I", 3, (some .int), 2),
  (0, false, "ask", "(II)I", 3, (some .int), 2),
  (0, false, "trace", "(I)I", 2, (some .int), 1),
  (0, false, "count", "(I)I", 2, (some .int), 1),
  (0, false, "status", "()I", 1, (some .int), 0),
  (0, true, "isUpTo", "(II)Z", 2, (some .boolean), 2),
  (0, true, "isCell", "(I)Z", 1, (some .boolean), 1),
  (0, true, "isLine", "(I)Z", 1, (some .boolean), 1),
  (0, true, "isWorkKind", "(I)Z", 1, (some .boolean), 1),
  (0, true, "isA", "(II)Z", 4, (some .boolean), 2),
  (0, false, "found", "(I)I", 2, (some .int), 1),
  (0, false, "withoutFinding", "(I)I", 2, (some .int), 1),
  (0, false, "findingIn", "(III)I", 4, (some .int), 3),
  (0, false, "rowsThere", "()I", 3, (some .int), 0),
  (0, false, "feltNow", "(I)I", 2, (some .int), 1),
  (0, false, "lostNow", "()I", 1, (some .int), 0),
  (0, false, "leavingNow", "()I", 3, (some .int), 0),
  (0, false, "spendHour", "(LWindCarver$Pass;)V", 2, none, 1),
  (0, false, "foretell", "(I)V", 3, none, 1),
  (0, false, "isFeltEverywhere", "([II)Z", 4, (some .boolean), 2),
  (0, false, "isFeltAlong", "(I[II)Z", 5, (some .boolean), 3),
  (0, false, "chooseWalls", "(II)I", 4, (some .int), 2),
  (0, false, "chooseWall", "(IIII)Z", 6, (some .boolean), 4),
  (0, false, "breakByLot", "(II)I", 6, (some .int), 2),
  (0, true, "commonDivisor", "(II)I", 6, (some .int), 2),
  (1, false, "make", "(II)V", 4, none, 2),
  (1, false, "has", "(II)Z", 3, (some .boolean), 2),
  (1, false, "lowestBits", "(I)I", 2, (some .int), 1),
  (2, false, "add", "(I)Z", 2, (some .boolean), 1),
  (2, false, "read", "(LWindCarver$Pass;)Z", 2, (some .boolean), 1),
  (2, false, "readLines", "(I[I)Z", 4, (some .boolean), 2),
  (2, false, "readWorks", "(LWindCarver$Pass;)Z", 4, (some .boolean), 1),
  (2, false, "readWork", "(ILWindCarver$Pass;)Z", 7, (some .boolean), 2),
  (2, true, "kindOf", "(I)I", 1, (some .int), 1),
  (2, false, "readByte", "(I)Z", 2, (some .boolean), 1),
  (2, false, "readNumber", "(I)I", 4, (some .int), 1),
  (2, true, "isFigure", "(I)Z", 1, (some .boolean), 1),
  (2, false, "fail", "(II)Z", 3, (some .boolean), 2),
  (3, false, "become", "(LWindCarver$Pass;)V", 2, none, 1),
  (3, false, "begin", "()V", 2, none, 0),
  (3, false, "put", "(III)V", 4, none, 3),
  (3, false, "clear", "(I)V", 2, none, 1),
  (3, false, "hasWork", "(I)Z", 2, (some .boolean), 1),
  (3, false, "works", "()I", 3, (some .int), 0),
  (3, false, "isTooMuch", "(II)Z", 3, (some .boolean), 2),
  (3, false, "firstToBreak", "([I)I", 3, (some .int), 1),
  (3, false, "breakAndRise", "([I)V", 3, none, 1),
  (4, false, "blow", "(LWindCarver$Pass;)V", 3, none, 1),
  (4, false, "on", "(LWindCarver$Pass;I)I", 3, (some .int), 2),
  (4, false, "part", "(IILWindCarver$Pass;)V", 8, none, 3),
  (4, true, "north", "(III)I", 3, (some .int), 3),
  (4, false, "bring", "(III)V", 4, none, 3),
  (5, false, "keep", "(LWindCarver$Pass;)V", 2, none, 1),
  (5, false, "takeBack", "(LWindCarver$Pass;)V", 2, none, 1),
  (6, false, "askSize", "()I", 1, (some .int), 0),
  (6, false, "askMark", "()I", 1, (some .int), 0),
  (6, true, "body", "(LWindCarver$Asked;II)I", 4, (some .int), 3),
  (6, false, "leave", "(I)V", 2, none, 1),
  (7, true, "in", "(JJJ)Z", 6, (some .boolean), 3),
  (7, true, "has", "(II)Z", 2, (some .boolean), 2),
  (7, false, "find", "(I)I", 2, (some .int), 1),
  (7, false, "well", "(I)I", 2, (some .int), 1),
  (7, true, "isRow", "(I)Z", 1, (some .boolean), 1),
  (7, false, "row", "(III)I", 5, (some .int), 3),
  (7, true, "asLane", "(II)I", 2, (some .int), 2),
  (7, false, "set", "(III)I", 4, (some .int), 3),
  (7, false, "copy", "(IIIII)I", 7, (some .int), 5),
  (7, false, "drop", "(I)I", 3, (some .int), 1),
  (7, false, "feed", "(I)I", 2, (some .int), 1),
  (7, false, "nextToken", "()V", 1, none, 0),
  (7, false, "faults", "(I)Z", 2, (some .boolean), 1),
  (7, false, "isLetter", "(I)Z", 2, (some .boolean), 1),
  (7, false, "takes", "(I)Z", 2, (some .boolean), 1),
  (7, false, "takesNumber", "(IIII)Z", 5, (some .boolean), 4),
  (7, false, "readFour", "(II)Z", 5, (some .boolean), 2),
  (7, false, "readWork", "(I)Z", 3, (some .boolean), 1),
  (7, false, "readPass", "()Z", 3, (some .boolean), 0),
  (7, false, "pass", "()I", 3, (some .int), 0),
  (7, false, "fault", "()I", 1, (some .int), 0),
  (7, true, "isCell", "(I)Z", 1, (some .boolean), 1),
  (7, true, "isRowOfPass", "(I)Z", 1, (some .boolean), 1),
  (7, false, "isWork", "(I)Z", 2, (some .boolean), 1),
  (7, false, "goes", "(III)V", 4, none, 3),
  (7, false, "blow", "()V", 9, none, 0),
  (7, false, "feltNow", "(I)I", 2, (some .int), 1),
  (7, false, "clear", "(I)V", 2, none, 1),
  (7, false, "oneHour", "()V", 2, none, 0),
  (7, false, "workMany", "()I", 3, (some .int), 0),
  (7, false, "note", "()V", 2, none, 0),
  (7, false, "setUp", "(III)I", 4, (some .int), 3),
  (7, false, "take", "(I)I", 2, (some .int), 1),
  (7, false, "turn", "(I)I", 2, (some .int), 1),
  (7, false, "gust", "(II)I", 4, (some .int), 2),
  (7, false, "hours", "(I)I", 3, (some .int), 1),
  (7, false, "undo", "()I", 2, (some .int), 0),
  (7, false, "cell", "(II)I", 3, (some .int), 2),
  (7, false, "wind", "(II)I", 3, (some .int), 2),
  (7, false, "putAside", "()V", 2, none, 0),
  (7, false, "takeBack", "()V", 2, none, 0),
  (7, false, "blowIn", "(I)V", 3, none, 1),
  (7, false, "felt", "(II)I", 3, (some .int), 2),
  (7, false, "lost", "(I)I", 2, (some .int), 1),
  (7, false, "leaves", "(II)I", 3, (some .int), 2),
  (7, false, "breaks", "(I)I", 5, (some .int), 1),
  (7, false, "lacks", "(III)I", 4, (some .int), 3),
  (7, false, "stands", "(II)I", 7, (some .int), 2),
  (7, false, "feltWith", "(III)I", 5, (some .int), 3),
  (7, false, "walls", "(III)I", 6, (some .int), 3),
  (7, false, "hidden", "(IIII)I", 10, (some .int), 4),
  (7, false, "most", "(II)I", 7, (some .int), 2),
  (7, false, "lots", "(IIII)I", 12, (some .int), 4),
  (7, false, "image", "(I)I", 3, (some .int), 1),
  (7, false, "restore", "(I)I", 3, (some .int), 1),
  (7, false, "kind", "(I)I", 2, (some .int), 1),
  (7, true, "isKind", "(II)Z", 2, (some .boolean), 2),
  (7, false, "as", "(II)I", 3, (some .int), 2),
  (7, false, "begin", "(I)V", 2, none, 1),
  (7, false, "lent", "(II)I", 3, (some .int), 2),
  (7, false, "wallMark", "(I)I", 2, (some .int), 1),
  (7, false, "handSize", "(I)I", 2, (some .int), 1),
  (7, false, "sizeOfHand", "(I)I", 2, (some .int), 1),
  (7, false, "markOf", "(I)I", 4, (some .int), 1),
  (7, false, "wallSize", "(I)I", 3, (some .int), 1),
  (7, false, "sizeOf", "(I)I", 3, (some .int), 1),
  (7, false, "ask", "(II)I", 3, (some .int), 2),
  (7, false, "trace", "(I)I", 2, (some .int), 1),
  (7, false, "count", "(I)I", 4, (some .int), 1),
  (7, false, "status", "()I", 1, (some .int), 0)]
def wc_mtb : List ByteArray := [prog_1_method_2_code, prog_1_method_3_code, prog_1_method_4_code, prog_1_method_5_code, prog_1_method_6_code, prog_1_method_7_code, prog_1_method_8_code, prog_1_method_9_code, prog_1_method_10_code, prog_1_method_11_code, prog_1_method_12_code, prog_1_method_13_code, prog_1_method_14_code, prog_1_method_15_code, prog_1_method_16_code, prog_1_method_17_code, prog_1_method_18_code, prog_1_method_19_code, prog_1_method_20_code, prog_1_method_21_code, prog_1_method_22_code, prog_1_method_23_code, prog_1_method_24_code, prog_1_method_25_code, prog_1_method_26_code, prog_1_method_27_code, prog_1_method_28_code, prog_1_method_29_code, prog_1_method_30_code, prog_1_method_31_code, prog_1_method_32_code, prog_1_method_33_code, prog_1_method_34_code, prog_1_method_35_code, prog_1_method_36_code, prog_1_method_37_code, prog_1_method_38_code, prog_1_method_39_code, prog_1_method_40_code, prog_1_method_41_code, prog_1_method_42_code, prog_1_method_43_code, prog_1_method_44_code, prog_1_method_45_code, prog_1_method_46_code, prog_1_method_47_code, prog_1_method_48_code, prog_1_method_49_code, prog_1_method_50_code, prog_1_method_51_code, prog_1_method_52_code, prog_1_method_53_code, prog_6_method_2_code, prog_6_method_3_code, prog_6_method_4_code, prog_7_method_2_code, prog_7_method_3_code, prog_7_method_4_code, prog_7_method_5_code, prog_7_method_6_code, prog_7_method_7_code, prog_7_method_8_code, prog_7_method_9_code, prog_7_method_10_code, prog_7_method_11_code, prog_5_method_2_code, prog_5_method_3_code, prog_5_method_4_code, prog_5_method_5_code, prog_5_method_6_code, prog_5_method_7_code, prog_5_method_8_code, prog_5_method_9_code, prog_5_method_10_code, prog_3_method_2_code, prog_3_method_3_code, prog_3_method_4_code, prog_3_method_5_code, prog_3_method_6_code, prog_2_method_2_code, prog_2_method_3_code, prog_4_method_2_code, prog_4_method_3_code, prog_4_method_4_code, prog_4_method_5_code, prog_9_method_2_code, prog_9_method_3_code, prog_9_method_4_code, prog_9_method_5_code, prog_9_method_6_code, prog_9_method_7_code, prog_9_method_8_code, prog_9_method_9_code, prog_9_method_10_code, prog_9_method_11_code, prog_9_method_12_code, prog_9_method_13_code, prog_9_method_14_code, prog_9_method_15_code, prog_9_method_16_code, prog_9_method_17_code, prog_9_method_18_code, prog_9_method_19_code, prog_9_method_20_code, prog_9_method_21_code, prog_9_method_22_code, prog_9_method_23_code, prog_9_method_24_code, prog_9_method_25_code, prog_9_method_26_code, prog_9_method_27_code, prog_9_method_28_code, prog_9_method_29_code, prog_9_method_30_code, prog_9_method_31_code, prog_9_method_32_code, prog_9_method_33_code, prog_9_method_34_code, prog_9_method_35_code, prog_9_method_36_code, prog_9_method_37_code, prog_9_method_38_code, prog_9_method_39_code, prog_9_method_40_code, prog_9_method_41_code, prog_9_method_42_code, prog_9_method_43_code, prog_9_method_44_code, prog_9_method_45_code, prog_9_method_46_code, prog_9_method_47_code, prog_9_method_48_code, prog_9_method_49_code, prog_9_method_50_code, prog_9_method_51_code, prog_9_method_52_code, prog_9_method_53_code, prog_9_method_54_code, prog_9_method_55_code, prog_9_method_56_code, prog_9_method_57_code, prog_9_method_58_code, prog_9_method_59_code, prog_9_method_60_code, prog_9_method_61_code, prog_9_method_62_code, prog_9_method_63_code, prog_9_method_64_code, prog_9_method_65_code, prog_9_method_66_code, prog_9_method_67_code, prog_9_method_68_code, prog_9_method_69_code, prog_9_method_70_code, prog_9_method_71_code]
def wc_mcp : List Nat := [214, 235, 251, 258, 262, 271, 337, 341, 362, 367, 371, 378, 413, 421, 430, 434, 442, 446, 450, 459, 467, 479, 487, 491, 505, 509, 513, 517, 526, 549, 553, 569, 217, 345, 374, 348, 520, 222, 231, 239, 557, 425, 561, 565, 382, 438, 463, 483, 471, 475, 495, 498, 227, 243, 247, 266, 275, 291, 310, 317, 313, 295, 303, 306, 299, 327, 279, 287, 283, 321, 332, 409, 454, 405, 386, 390, 394, 397, 401, 353, 417, 530, 545, 535, 539, 672, 859, 678, 683, 668, 665, 690, 687, 694, 698, 702, 716, 736, 732, 728, 740, 724, 744, 712, 708, 749, 757, 791, 764, 810, 806, 822, 780, 802, 768, 772, 753, 776, 784, 788, 797, 814, 818, 827, 840, 844, 836, 831, 848, 852, 856, 867, 863, 876, 871, 880, 884, 888, 893, 897, 901, 908, 905, 920, 928, 936, 944, 940, 932, 924, 916, 912, 948, 952, 956]
def wc_mkp : List Nat := [212, 233, 249, 256, 260, 269, 335, 339, 360, 365, 369, 376, 411, 419, 428, 432, 440, 444, 448, 457, 465, 477, 485, 489, 503, 507, 511, 515, 524, 547, 551, 567, 216, 344, 373, 347, 519, 221, 230, 238, 556, 424, 560, 564, 381, 437, 462, 482, 470, 474, 494, 497, 225, 241, 245, 264, 273, 290, 309, 316, 312, 294, 302, 305, 298, 325, 277, 285, 281, 319, 330, 407, 452, 403, 384, 389, 393, 396, 400, 351, 415, 528, 543, 534, 538, 671, 858, 677, 682, 667, 663, 689, 685, 692, 696, 700, 715, 735, 731, 727, 739, 723, 743, 711, 706, 747, 756, 790, 763, 809, 805, 821, 779, 801, 767, 771, 751, 774, 782, 786, 795, 812, 816, 825, 839, 843, 835, 829, 846, 850, 854, 866, 861, 875, 869, 878, 882, 886, 891, 895, 899, 907, 903, 919, 927, 935, 943, 939, 931, 923, 915, 910, 946, 950, 954]
def wc_msp : List (Nat × Nat) := [(0, 268), (1, 289), (2, 305), (3, 312), (4, 316), (5, 325), (6, 391), (7, 395), (8, 416), (9, 421), (10, 425), (11, 432), (12, 467), (13, 475), (14, 484), (15, 488), (16, 496), (17, 500), (18, 504), (19, 513), (20, 521), (21, 533), (22, 541), (23, 545), (24, 559), (25, 563), (26, 567), (27, 571), (28, 580), (29, 603), (30, 607), (31, 623), (37, 0), (38, 1), (39, 2), (40, 21), (41, 13), (42, 22), (43, 23), (44, 9), (45, 14), (46, 15), (47, 18), (48, 16), (49, 17), (50, 19), (52, 281), (53, 297), (54, 301), (55, 320), (56, 329), (57, 3), (58, 7), (59, 8), (61, 4), (62, 6), (64, 5), (65, 381), (66, 333), (67, 341), (68, 337), (69, 375), (70, 386), (71, 463), (72, 508), (73, 459), (74, 440), (75, 10), (76, 11), (78, 12), (79, 407), (80, 471), (81, 584), (82, 599), (84, 20), (87, 24), (88, 25), (90, 719), (92, 741), (93, 748), (94, 752), (95, 756), (96, 27), (97, 31), (98, 30), (99, 29), (100, 32), (101, 28), (102, 33), (103, 26), (104, 762), (105, 803), (108, 34), (109, 40), (110, 39), (111, 41), (112, 37), (113, 38), (114, 35), (115, 36), (116, 807), (117, 830), (118, 838), (119, 842), (120, 851), (121, 868), (122, 872), (123, 881), (124, 43), (125, 44), (126, 42), (127, 885), (128, 902), (129, 906), (130, 910), (131, 45), (132, 917), (133, 46), (134, 925), (135, 934), (136, 938), (137, 942), (138, 947), (139, 951), (140, 955), (142, 959), (143, 48), (144, 50), (145, 52), (146, 54), (147, 53), (148, 51), (149, 49), (150, 47), (151, 966), (152, 1002), (153, 1006), (154, 1010)]
def wc_inp : List Nat := [1, 7, 2, 3, 4, 5, 6, 8]
def wc_lyp : List (List Nat) := [[190, 192, 194, 196, 198, 200, 202, 204, 206, 208], [171, 173, 175, 177], [35, 37, 39, 41, 43], [73, 75, 77, 79, 81, 83, 85], [100, 102, 104], [120, 122, 124], [145, 147, 149, 151, 153, 155], [604, 606, 608, 610, 612, 614, 616, 618, 620, 622, 624, 626, 628, 630, 632, 634, 636, 638, 640, 642, 644, 646, 648, 650, 652, 654, 656, 658]]
end
section
/-! FACTS of the tables, decided by the kernel -/
theorem wc_pl {ws tb : List Jvm.Cond} (is : List Nat) (h : is.map (fun i => tb[i]?) = ws.map some) : ∀ w ∈ ws, w ∈ tb := by
  intro w hw
  have h1 : some w ∈ is.map (fun i => tb[i]?) := by rw [h]; exact List.mem_map_of_mem hw
  obtain ⟨i, -, hi⟩ := List.mem_map.mp h1
  exact List.mem_of_getElem? hi
def wc_tw : List Jvm.Cond := lw_tbl.filter goodWord
theorem wc_tl {w : Jvm.Cond} (h : w ∈ lw_tbl) (g : goodWord w = true) : w ∈ wc_tw := List.mem_filter.mpr ⟨h, g⟩
theorem wc_tb {w : Jvm.Cond} (h : w ∈ tables_1) (g : goodWord w = true) : w ∈ wc_tw := wc_tl (List.mem_append_right _ h) g
theorem wc_goodw : ∀ w ∈ wc_tw, goodWord w = true := fun w h => (List.mem_filter.mp h).2
/-- a field link's word -/
def wc_flw (q : Nat × Nat × Nat × Nat) : Jvm.Cond := .fieldLink (wc_cn q.1) q.2.1 (wc_cn q.2.2.1) (wc_F q.2.2.1 q.2.2.2).2.1 (wc_F q.2.2.1 q.2.2.2).2.2.1
theorem wc_fl_ok0 : wc_flp.map (fun i => tables_1[i]?) = (wc_fl.map wc_flw).map some := by decide +kernel
theorem wc_fl_ok : ∀ q ∈ wc_fl, wc_flw q ∈ wc_tw := fun q h => wc_tb (wc_pl wc_flp wc_fl_ok0 _ (List.mem_map_of_mem h)) rfl
def wc_gsw (q : Nat × Nat × Nat) : Jvm.Cond := .fieldLink (wc_cn q.1) q.2.1 ((wc_gsn[q.2.2 - 35]?).getD ("", "")).1 ((wc_gsn[q.2.2 - 35]?).getD ("", "")).2 "[I"
theorem wc_gs_ok0 : wc_gsp.map (fun i => tables_1[i]?) = (wc_gs.map wc_gsw).map some := by decide +kernel
theorem wc_gs_ok : ∀ q ∈ wc_gs, wc_gsw q ∈ wc_tw := fun q h => wc_tb (wc_pl wc_gsp wc_gs_ok0 _ (List.mem_map_of_mem h)) rfl
theorem wc_ld_ok0 : wc_ldp.map (fun i => tables_1[i]?) = (wc_ld.map (fun q => Jvm.Cond.constant (wc_cn q.1) q.2.1 q.2.2)).map some := by decide +kernel
theorem wc_ld_ok : ∀ q ∈ wc_ld, Jvm.Cond.constant (wc_cn q.1) q.2.1 q.2.2 ∈ wc_tw := fun q h => wc_tb (wc_pl wc_ldp wc_ld_ok0 _ (List.mem_map_of_mem h)) rfl
theorem wc_le_ok0 : wc_lep.map (fun i => tables_1[i]?) = (wc_le.map (fun q => Jvm.Cond.constantLong (wc_cn q.1) q.2.1 q.2.2)).map some := by decide +kernel
theorem wc_le_ok : ∀ q ∈ wc_le, Jvm.Cond.constantLong (wc_cn q.1) q.2.1 q.2.2 ∈ wc_tw := fun q h => wc_tb (wc_pl wc_lep wc_le_ok0 _ (List.mem_map_of_mem h)) rfl
/-- methods -/
abbrev wc_mt : Type := Nat × Bool × String × String × Nat × Option FieldType × Nat
def wc_m (y : Nat) : wc_mt := (wc_mtl[y]?).getD (0, false, "", "", 0, none, 0)
def wc_y (y : Nat) : MethodName := ⟨wc_cn (wc_m y).1, (wc_m y).2.2.1, (wc_m y).2.2.2.1⟩
def wc_b (y : Nat) : ByteArray := (wc_mtb[y]?).getD ⟨#[]⟩
def wc_mc (y : Nat) : Jvm.Cond := .code (wc_y y) (wc_b y) (wc_m y).2.2.2.2.1 (wc_m y).2.2.2.2.2.1
def wc_mk (y : Nat) : Jvm.Cond := if (wc_m y).2.1 then .static (wc_y y) else .instanceMethod (wc_y y)
theorem wc_ml_ok0 : wc_mlp.map (fun i => tables_1[i]?) = (wc_ml.map (fun q => Jvm.Cond.methodLink (wc_cn q.1) q.2.1 (wc_y q.2.2))).map some := by decide +kernel
theorem wc_ml_ok : ∀ q ∈ wc_ml, Jvm.Cond.methodLink (wc_cn q.1) q.2.1 (wc_y q.2.2) ∈ wc_tw := fun q h => wc_tb (wc_pl wc_mlp wc_ml_ok0 _ (List.mem_map_of_mem h)) rfl
set_option maxRecDepth 100000 in
set_option maxHeartbeats 4000000 in
theorem wc_mc_ok0 : wc_mcp.map (fun i => tables_1[i]?) = ((List.range 155).map wc_mc).map some := by rfl
theorem wc_mc_ok {y : Nat} (h : y < 155) : wc_mc y ∈ wc_tw := wc_tb (wc_pl wc_mcp wc_mc_ok0 _ (List.mem_map_of_mem (List.mem_range.mpr h))) rfl
theorem wc_mk_ok0 : wc_mkp.map (fun i => tables_1[i]?) = ((List.range 155).map wc_mk).map some := by decide +kernel
theorem wc_mk_ok {y : Nat} (h : y < 155) : wc_mk y ∈ wc_tw := wc_tb (wc_pl wc_mkp wc_mk_ok0 _ (List.mem_map_of_mem (List.mem_range.mpr h))) (by unfold wc_mk; split <;> rfl)
theorem wc_ms_ok0 : (wc_msp.map (·.2)).map (fun i => lw_tbl[i]?) = (wc_msp.map (fun q => Jvm.Cond.selects (wc_y q.1).cls (wc_y q.1) (wc_y q.1))).map some := by decide +kernel
theorem wc_ms_in : ∀ y, y < 155 → (wc_m y).2.1 = false → y ∈ wc_msp.map (·.1) := by decide +kernel
theorem wc_ms_ok {y : Nat} (h : y < 155) (hs : (wc_m y).2.1 = false) : Jvm.Cond.selects (wc_y y).cls (wc_y y) (wc_y y) ∈ wc_tw := by
  obtain ⟨q, hq, rfl⟩ := List.mem_map.mp (wc_ms_in y h hs)
  exact wc_tl (wc_pl _ wc_ms_ok0 _ (List.mem_map_of_mem hq)) rfl
theorem wc_in_ok0 : wc_inp.map (fun i => tables_1[i]?) = ((List.range 8).map (fun c => Jvm.Cond.initialized (wc_cn c))).map some := by decide +kernel
theorem wc_in_ok {c : Nat} (h : c < 8) : Jvm.Cond.initialized (wc_cn c) ∈ wc_tw := wc_tb (wc_pl wc_inp wc_in_ok0 _ (List.mem_map_of_mem (List.mem_range.mpr h))) rfl
theorem wc_m_cls : ∀ y, y < 155 → (wc_m y).1 < 8 ∧ (wc_m y).2.2.2.2.1 ≤ 12 := by decide +kernel
theorem wc_m_name : ∀ y, y < 155 → plainName (wc_y y).cls = true ∧ ((wc_y y).cls ≠ "java/lang/invoke/MethodHandle" ∧ (wc_y y).cls ≠ "java/lang/invoke/VarHandle") ∧ (parseMethodDescriptor (wc_y y).desc).map (fun d => d.parameters.length) = some (wc_m y).2.2.2.2.2.2 := by decide +kernel
theorem wc_lay_ok0 : (List.range 8).map (fun c => ((wc_lyp[c]?).getD []).map (fun i => tables_1[i]?)) = (List.range 8).map (fun c => (u_ws (wc_cn c) (wc_F c) (wc_nf c)).map some) := by decide +kernel
theorem wc_lay_ok {c : Nat} (h : c < 8) : ∀ w ∈ u_ws (wc_cn c) (wc_F c) (wc_nf c), w ∈ wc_tw := by
  have h1 := congrArg (fun l => l[c]?) wc_lay_ok0
  simp only [List.getElem?_map, List.getElem?_range h, Option.map_some] at h1
  refine fun w hw => wc_tb (wc_pl _ (Option.some.inj h1) _ hw) ?_
  obtain ⟨k, -, rfl⟩ := List.mem_map.mp hw
  unfold u_lay
  split <;> rfl
theorem wc_nm : ∀ c, c < 8 → ∀ a, a < wc_nf c → ∀ b, b < wc_nf c → a ≠ b → (wc_F c a).2.1 ≠ (wc_F c b).2.1 := by decide +kernel
def wc_ty (c : Nat) : Nat → FieldType := fun k => (parseFieldDescriptor (wc_F c k).2.2.1).getD .int
theorem wc_ty_ok : ∀ c, c < 8 → ∀ k, k < wc_nf c → parseFieldDescriptor (wc_F c k).2.2.1 = some (wc_ty c k) := by decide +kernel
end
section
/-! THE ENGINE: a small machine over a memory of ints that stands for the class's, the reference's and the law's bytecode, and what one of its steps is -/
abbrev wc_V : Type := Int32 ⊕ ((Nat × Nat) ⊕ Int64)
abbrev wc_M : Type := Nat → Nat → Nat → Int32
abbrev wc_L : Type := List (Option wc_V)
/-- a row of code: where it stands, the instruction, its length, targets or links, the constant -/
abbrev wc_E : Type := Nat × Instr × Nat × List Nat × Int32 × Int64
def wc_up (M : wc_M) (k i s : Nat) (v : Int32) : wc_M := fun k' i' s' => if k' = k ∧ i' = i ∧ s' = s then v else M k' i' s'
def wc_cp (M : wc_M) (k i k' i' sp dp n : Nat) : wc_M := fun a b c => if a = k' ∧ b = i' ∧ dp ≤ c ∧ c < dp + n then M k i (sp + (c - dp)) else M a b c
/-- the cell that a field or an element refers to, if it isn't a number -/
def wc_rf (k i s : Nat) : Option (Nat × Nat) := match wc_sh k with
  | (0, _) => match ((wc_rfl[k]?).getD [])[s]? with
    | some (some (k', b, n)) => some (k', cond b i n)
    | _ => none
  | (3, _) => some (2, s)
  | (4, _) => some (6, (cond (Nat.beq k 17) 2 26) + s)
  | _ => none
def wc_bo (c s : Nat) : Bool := wc_bol.any (fun q => Nat.beq q.1 c && Nat.beq q.2 s)
def wc_st (k s : Nat) : Int32 := (((wc_stl[k - 35]?).getD [])[s]?).getD 0
def wc_noL (L : wc_L) : Bool := L.all (fun q => match q with | some (.inr (.inr _)) => false | _ => true)
def wc_rem (x y : Int32) : Int32 := x - x / y * y
/-- a step that no condition hinders -/
def wc_stp (xl : Nat) (cd : List wc_E) (i : Nat) (L : wc_L) (st : List wc_V) (M : wc_M) : Option (Nat × wc_L × List wc_V × wc_M) :=
  match cd[i]? with
  | none => none
  | some (_, ins, _, tg, ct, cl) => match ins with
    | .iconst _ => some (i + 1, L, .inl ct :: st, M)
    | .bipush _ => some (i + 1, L, .inl ct :: st, M)
    | .sipush _ => some (i + 1, L, .inl ct :: st, M)
    | .ldc _ => some (i + 1, L, .inl ct :: st, M)
    | .ldc_w _ => some (i + 1, L, .inl ct :: st, M)
    | .lconst _ => some (i + 1, L, .inr (.inr cl) :: st, M)
    | .ldc2_w _ => some (i + 1, L, .inr (.inr cl) :: st, M)
    | .iload_n n => match L[(n : Nat)]? with
      | some (some (.inl v)) => some (i + 1, L, .inl v :: st, M)
      | _ => none
    | .iload n => match L[n]? with
      | some (some (.inl v)) => some (i + 1, L, .inl v :: st, M)
      | _ => none
    | .aload_n n => match L[(n : Nat)]? with
      | some (some (.inr (.inl v))) => some (i + 1, L, .inr (.inl v) :: st, M)
      | _ => none
    | .aload n => match L[n]? with
      | some (some (.inr (.inl v))) => some (i + 1, L, .inr (.inl v) :: st, M)
      | _ => none
    | .lload_n n => match L[(n : Nat)]? with
      | some (some (.inr (.inr v))) => some (i + 1, L, .inr (.inr v) :: st, M)
      | _ => none
    | .lload n => match L[n]? with
      | some (some (.inr (.inr v))) => some (i + 1, L, .inr (.inr v) :: st, M)
      | _ => none
    | .istore_n n => match st with
      | .inl v :: r => if wc_noL L && Nat.blt (n : Nat) L.length then some (i + 1, L.set (n : Nat) (some (.inl v)), r, M) else none
      | _ => none
    | .istore n => match st with
      | .inl v :: r => if wc_noL L && Nat.blt n L.length then some (i + 1, L.set n (some (.inl v)), r, M) else none
      | _ => none
    | .astore_n n => match st with
      | .inr (.inl v) :: r => if wc_noL L && Nat.blt (n : Nat) L.length then some (i + 1, L.set (n : Nat) (some (.inr (.inl v))), r, M) else none
      | _ => none
    | .astore n => match st with
      | .inr (.inl v) :: r => if wc_noL L && Nat.blt n L.length then some (i + 1, L.set n (some (.inr (.inl v))), r, M) else none
      | _ => none
    | .iinc n _ => match L[n]? with
      | some (some (.inl v)) => if wc_noL L then some (i + 1, L.set n (some (.inl (v + ct))), st, M) else none
      | _ => none
    | .iadd => match st with
      | .inl y :: .inl x :: r => some (i + 1, L, .inl (x + y) :: r, M)
      | _ => none
    | .isub => match st with
      | .inl y :: .inl x :: r => some (i + 1, L, .inl (x - y) :: r, M)
      | _ => none
    | .imul => match st with
      | .inl y :: .inl x :: r => some (i + 1, L, .inl (x * y) :: r, M)
      | _ => none
    | .iand => match st with
      | .inl y :: .inl x :: r => some (i + 1, L, .inl (x &&& y) :: r, M)
      | _ => none
    | .ior => match st with
      | .inl y :: .inl x :: r => some (i + 1, L, .inl (x ||| y) :: r, M)
      | _ => none
    | .ishl => match st with
      | .inl y :: .inl x :: r => some (i + 1, L, .inl (x <<< (y &&& 31)) :: r, M)
      | _ => none
    | .ishr => match st with
      | .inl y :: .inl x :: r => some (i + 1, L, .inl (x >>> (y &&& 31)) :: r, M)
      | _ => none
    | .ineg => match st with
      | .inl x :: r => some (i + 1, L, .inl (-x) :: r, M)
      | _ => none
    | .i2l => match st with
      | .inl x :: r => some (i + 1, L, .inr (.inr x.toInt64) :: r, M)
      | _ => none
    | .i2b => match st with
      | .inl x :: r => some (i + 1, L, .inl x.toInt8.toInt32 :: r, M)
      | _ => none
    | .i2s => match st with
      | .inl x :: r => some (i + 1, L, .inl x.toInt16.toInt32 :: r, M)
      | _ => none
    | .lsub => match st with
      | .inr (.inr y) :: .inr (.inr x) :: r => some (i + 1, L, .inr (.inr (x - y)) :: r, M)
      | _ => none
    | .lcmp => match st with
      | .inr (.inr y) :: .inr (.inr x) :: r => some (i + 1, L, .inl (lg_cmp x y) :: r, M)
      | _ => none
    | .dup => match st with
      | .inl x :: r => some (i + 1, L, .inl x :: .inl x :: r, M)
      | .inr (.inl x) :: r => some (i + 1, L, .inr (.inl x) :: .inr (.inl x) :: r, M)
      | _ => none
    | .dup2 => match st with
      | .inl y :: .inr (.inl x) :: r => some (i + 1, L, .inl y :: .inr (.inl x) :: .inl y :: .inr (.inl x) :: r, M)
      | _ => none
    | .pop => match st with
      | .inl _ :: r => some (i + 1, L, r, M)
      | _ => none
    | .goto _ => match tg with
      | [t] => some (t, L, st, M)
      | _ => none
    | .getfield _ => match tg, st with
      | [c, s], .inr (.inl (k, j)) :: r => match wc_sh k with
        | (0, c') => if Nat.beq c c' && Nat.blt s (wc_nf c) then match wc_rf k j s with
            | some q => some (i + 1, L, .inr (.inl q) :: r, M)
            | none => some (i + 1, L, .inl (M k j s) :: r, M)
          else none
        | _ => none
      | _, _ => none
    | .putfield _ => match tg, st with
      | [c, s], .inl v :: .inr (.inl (k, j)) :: r => match wc_sh k with
        | (0, c') => if Nat.beq c c' && Nat.blt s (wc_nf c) && !(wc_bo c s) then match wc_rf k j s with
            | some _ => none
            | none => some (i + 1, L, r, wc_up M k j s v)
          else none
        | _ => none
      | _, _ => none
    | .getstatic _ => match tg with
      | [k] => some (i + 1, L, .inr (.inl (k, 0)) :: st, M)
      | _ => none
    | .arraylength => match st with
      | .inr (.inl (k, 0)) :: r => match wc_sh k with
        | (10, _) => if Nat.blt 0 xl then some (i + 1, L, .inl (Int32.ofNat (xl - 1)) :: r, M) else none
        | _ => none
      | _ => none
    | .invokestatic _ => match tg, st with
      | [t], .inl y :: .inl x :: r => if Nat.ble r.length 4 then (if Nat.beq t 201 then some (i + 1, L, .inl (if x < y then y else x) :: r, M) else if Nat.beq t 202 then some (i + 1, L, .inl (if y < x then y else x) :: r, M) else none) else none
      | _, _ => none
    | _ => none
/-- a branch: the condition, where to go if it holds, if not -/
def wc_brq (cd : List wc_E) (i : Nat) (st : List wc_V) : Option (Prop × Nat × Nat × List wc_V) :=
  match cd[i]? with
  | none => none
  | some (_, ins, _, tg, _, _) => match ins, tg, st with
    | .ifCond .eq _, [t], .inl x :: r => some (x = 0, t, i + 1, r)
    | .ifCond .ne _, [t], .inl x :: r => some (x ≠ 0, t, i + 1, r)
    | .ifCond .lt _, [t], .inl x :: r => some (x < 0, t, i + 1, r)
    | .ifCond .ge _, [t], .inl x :: r => some (0 ≤ x, t, i + 1, r)
    | .ifCond .gt _, [t], .inl x :: r => some (0 < x, t, i + 1, r)
    | .ifCond .le _, [t], .inl x :: r => some (x ≤ 0, t, i + 1, r)
    | .if_icmp .eq _, [t], .inl y :: .inl x :: r => some (x = y, t, i + 1, r)
    | .if_icmp .ne _, [t], .inl y :: .inl x :: r => some (x ≠ y, t, i + 1, r)
    | .if_icmp .lt _, [t], .inl y :: .inl x :: r => some (x < y, t, i + 1, r)
    | .if_icmp .ge _, [t], .inl y :: .inl x :: r => some (y ≤ x, t, i + 1, r)
    | .if_icmp .gt _, [t], .inl y :: .inl x :: r => some (y < x, t, i + 1, r)
    | .if_icmp .le _, [t], .inl y :: .inl x :: r => some (x ≤ y, t, i + 1, r)
    | _, _, _ => none
/-- a step under a condition -/
def wc_chq (X : Nat × (Nat → Int32)) (cd : List wc_E) (i : Nat) (st : List wc_V) (M : wc_M) : Option (Prop × List wc_V × wc_M) :=
  match cd[i]? with
  | none => none
  | some (_, ins, _, tg, _, _) => match ins with
    | .iaload => match st with
      | .inl a :: .inr (.inl (k, j)) :: r => match wc_sh k with
        | (1, n) => some (vp_in a n, .inl (M k j a.toNatClampNeg) :: r, M)
        | (9, n) => if Nat.beq j 0 then some (vp_in a n, .inl (wc_st k a.toNatClampNeg) :: r, M) else none
        | (10, _) => if Nat.beq j 0 then some (vp_in a (X.1 - 1), .inl (X.2 a.toNatClampNeg) :: r, M) else none
        | _ => none
      | _ => none
    | .baload => match st with
      | .inl a :: .inr (.inl (k, j)) :: r => match wc_sh k with
        | (2, n) => some (vp_in a n, .inl (M k j a.toNatClampNeg) :: r, M)
        | _ => none
      | _ => none
    | .aaload => match st with
      | .inl a :: .inr (.inl (k, j)) :: r => match wc_sh k with
        | (3, n) => match wc_rf k j a.toNatClampNeg with
          | some q => some (vp_in a n, .inr (.inl q) :: r, M)
          | none => none
        | (4, n) => match wc_rf k j a.toNatClampNeg with
          | some q => some (vp_in a n, .inr (.inl q) :: r, M)
          | none => none
        | _ => none
      | _ => none
    | .iastore => match st with
      | .inl v :: .inl a :: .inr (.inl (k, j)) :: r => match wc_sh k with
        | (1, n) => some (vp_in a n, r, wc_up M k j a.toNatClampNeg v)
        | _ => none
      | _ => none
    | .bastore => match st with
      | .inl v :: .inl a :: .inr (.inl (k, j)) :: r => match wc_sh k with
        | (2, n) => some (vp_in a n ∧ (v = 0 ∨ v = 1), r, wc_up M k j a.toNatClampNeg v)
        | _ => none
      | _ => none
    | .idiv => match st with
      | .inl y :: .inl x :: r => some (y ≠ 0, .inl (x / y) :: r, M)
      | _ => none
    | .irem => match st with
      | .inl y :: .inl x :: r => some (y ≠ 0, .inl (wc_rem x y) :: r, M)
      | _ => none
    | .putfield _ => match tg, st with
      | [c, s], .inl v :: .inr (.inl (k, j)) :: r => match wc_sh k with
        | (0, c') => if Nat.beq c c' && Nat.blt s (wc_nf c) && wc_bo c s then some (v = 0 ∨ v = 1, r, wc_up M k j s v) else none
        | _ => none
      | _, _ => none
    | .invokestatic _ => match tg, st with
      | [t], .inl n :: .inl dp :: .inr (.inl (k', j')) :: .inl sp :: .inr (.inl (k, j)) :: r => match wc_sh k, wc_sh k' with
        | (1, n0), (1, n1) => if Nat.beq t 200 && Nat.ble r.length 4 then some (¬ sp < 0 ∧ ¬ dp < 0 ∧ ¬ n < 0 ∧ sp.toNatClampNeg + n.toNatClampNeg ≤ n0 ∧ dp.toNatClampNeg + n.toNatClampNeg ≤ n1, r, wc_cp M k j k' j' sp.toNatClampNeg dp.toNatClampNeg n.toNatClampNeg) else none
        | _, _ => none
      | _, _ => none
    | _ => none
/-- a call: the method, the arguments, what stays on the stack -/
def wc_caq (cd : List wc_E) (i : Nat) (st : List wc_V) : Option (Nat × List wc_V × List wc_V) :=
  match cd[i]? with
  | none => none
  | some (_, ins, _, tg, _, _) => match ins, tg with
    | .invokestatic _, [y] => if Nat.blt y 155 && (wc_m y).2.1 && Nat.ble (wc_m y).2.2.2.2.2.2 st.length && Nat.ble (st.drop (wc_m y).2.2.2.2.2.2).length 4 then some (y, (st.take (wc_m y).2.2.2.2.2.2).reverse, st.drop (wc_m y).2.2.2.2.2.2) else none
    | .invokevirtual _, [y] => if Nat.blt y 155 && !(wc_m y).2.1 && Nat.ble ((wc_m y).2.2.2.2.2.2 + 1) st.length && Nat.ble (st.drop ((wc_m y).2.2.2.2.2.2 + 1)).length 4 then (match (st.take ((wc_m y).2.2.2.2.2.2 + 1)).reverse with
        | .inr (.inl (k, j)) :: as => match wc_sh k with
          | (0, c) => if Nat.beq c (wc_m y).1 then some (y, .inr (.inl (k, j)) :: as, st.drop ((wc_m y).2.2.2.2.2.2 + 1)) else none
          | _ => none
        | _ => none) else none
    | _, _ => none
/-- a switch: the number, cases and targets, the default's target -/
def wc_swq (cd : List wc_E) (i : Nat) (st : List wc_V) : Option (Int32 × List (Int32 × Nat) × Nat × List wc_V) :=
  match cd[i]? with
  | none => none
  | some (_, ins, _, tg, ct, _) => match ins, tg, st with
    | .tableswitch _ _ _ _, d :: ts, .inl x :: r => some (x, ts.zipIdx.map (fun q => (ct + Int32.ofNat q.2, q.1)), d, r)
    | .lookupswitch _ ps, d :: ts, .inl x :: r => some (x, (ps.toList.map (fun q => Int32.ofInt q.1)).zip ts, d, r)
    | _, _, _ => none
/-- a return -/
def wc_req (zr : Option FieldType) (cd : List wc_E) (i : Nat) (st : List wc_V) : Option (Prop × Option Int32) :=
  match cd[i]? with
  | none => none
  | some (_, ins, _, _, _, _) => match ins, zr, st with
    | .ireturn, some .int, [.inl v] => some (True, some v)
    | .ireturn, some .boolean, [.inl v] => some (v = 0 ∨ v = 1, some v)
    | .return_, none, [] => some (True, none)
    | _, _, _ => none
abbrev wc_S : Type := Nat → List wc_V → wc_M → Option Int32 → wc_M → Prop
def wc_pu (r : Option Int32) (st : List wc_V) : List wc_V := match r with
  | some v => .inl v :: st
  | none => st
/-- from here the method comes to its end, within n steps, with K of its answer and the memory; S says what the called methods do -/
def wc_G (S : wc_S) (X : Nat × (Nat → Int32)) (zr : Option FieldType) (cd : List wc_E) : Nat → Nat → wc_L → List wc_V → wc_M → (Option Int32 → wc_M → Prop) → Prop
  | 0, _, _, _, _, _ => False
  | n + 1, i, L, st, M, K =>
    (∃ i' L' st' M', wc_stp X.1 cd i L st M = some (i', L', st', M') ∧ wc_G S X zr cd n i' L' st' M' K) ∨
    (∃ c t f st', wc_brq cd i st = some (c, t, f, st') ∧ (c → wc_G S X zr cd n t L st' M K) ∧ (¬ c → wc_G S X zr cd n f L st' M K)) ∨
    (∃ P st' M', wc_chq X cd i st M = some (P, st', M') ∧ P ∧ wc_G S X zr cd n (i + 1) L st' M' K) ∨
    (∃ y as rest r M', wc_caq cd i st = some (y, as, rest) ∧ S y as M r M' ∧ wc_G S X zr cd n (i + 1) L (wc_pu r rest) M' K) ∨
    (∃ x cs d st', wc_swq cd i st = some (x, cs, d, st') ∧ (∀ q ∈ cs, x = q.1 → wc_G S X zr cd n q.2 L st' M K) ∧ ((∀ q ∈ cs, x ≠ q.1) → wc_G S X zr cd n d L st' M K)) ∨
    (∃ P r, wc_req zr cd i st = some (P, r) ∧ P ∧ K r M)
/-- the locals with which a method begins -/
def wc_en : List wc_V → wc_L
  | [] => []
  | .inr (.inr v) :: r => some (.inr (.inr v)) :: none :: wc_en r
  | v :: r => some v :: wc_en r
def wc_lay (as : List wc_V) (n : Nat) : wc_L := wc_en as ++ List.replicate (n - (wc_en as).length) none
end
section
/-! THE ENGINE STANDS FOR THE MACHINE: worlds, frames, and one step of each kind -/
abbrev wc_A : Type := Nat → Nat → Nat
def wc_cv (ad : wc_A) : wc_V → Value
  | .inl v => .int v
  | .inr (.inl q) => .ref (ad q.1 q.2)
  | .inr (.inr v) => .long v
def wc_ok (q : Nat × Nat) : Bool := Nat.blt q.2 (wc_cnt q.1)
def wc_okv : wc_V → Bool
  | .inr (.inl q) => wc_ok q
  | _ => true
def wc_okS (st : List wc_V) : Prop := ∀ v ∈ st, wc_okv v = true
def wc_okL (L : wc_L) : Prop := ∀ v, some v ∈ L → wc_okv v = true
def wc_wl : List (Nat × Nat) := (List.range 35).flatMap (fun k => (List.range (wc_cnt k)).map (fun i => (k, i)))
theorem wc_wl_in {k i : Nat} (hk : k < 35) (h : wc_ok (k, i) = true) : (k, i) ∈ wc_wl :=
  List.mem_flatMap.mpr ⟨k, List.mem_range.mpr hk, List.mem_map.mpr ⟨i, List.mem_range.mpr (Nat.blt_eq.mp h), rfl⟩⟩
theorem wc_wl_nd : wc_wl.Nodup := by decide +kernel
theorem wc_sh_lt : ∀ k, 35 ≤ k → (wc_sh k).1 ≠ 0 ∧ (wc_sh k).1 ≠ 1 ∧ (wc_sh k).1 ≠ 2 ∧ (wc_sh k).1 ≠ 3 ∧ (wc_sh k).1 ≠ 4 := by
  intro k hk
  by_cases h : k < 39
  · have h2 : ∀ k, k < 39 → 35 ≤ k → (wc_sh k).1 ≠ 0 ∧ (wc_sh k).1 ≠ 1 ∧ (wc_sh k).1 ≠ 2 ∧ (wc_sh k).1 ≠ 3 ∧ (wc_sh k).1 ≠ 4 := by decide +kernel
    exact h2 k h hk
  · have e : wc_shl[k]? = none := List.getElem?_eq_none (by show 39 ≤ k; omega)
    unfold wc_sh
    rw [e]
    decide
def wc_fld (ad : wc_A) (k i s : Nat) (M : wc_M) : Value := match wc_rf k i s with
  | some q => .ref (ad q.1 q.2)
  | none => .int (M k i s)
def wc_ent (ad : wc_A) (cA : Nat → ClassId) (M : wc_M) (q : Nat × Nat) : va_E := match wc_sh q.1 with
  | (0, c) => .inr (c, (List.range (wc_nf c)).map (fun s => wc_fld ad q.1 q.2 s M))
  | (1, n) => .inl (cA 0, n, .inl (fun s => M q.1 q.2 s))
  | (2, n) => .inl (cA 1, n, .inl (fun s => M q.1 q.2 s))
  | (3, n) => .inl (cA 2, n, .inr (.inr (.inr (.inr (fun s => (wc_rf q.1 q.2 s).map (fun r => ad r.1 r.2))))))
  | (4, n) => .inl (cA 3, n, .inr (.inr (.inr (.inr (fun s => (wc_rf q.1 q.2 s).map (fun r => ad r.1 r.2))))))
  | _ => .inr (0, [])
def wc_ws (ad : wc_A) (cA : Nat → ClassId) (M : wc_M) : va_W := wc_wl.map (fun q => (ad q.1 q.2, wc_ent ad cA M q))
def wc_tys (cA : Nat → ClassId) : List (ClassId × FieldType) := [(cA 0, .int), (cA 1, .boolean), (cA 2, .object "WindCarver$Row"), (cA 3, .object "WindCarver$Pass")]
/-- a place of the world, and the world with that place set -/
theorem wc_plc {ad : wc_A} {cA : Nat → ClassId} {M : wc_M} {k i : Nat} (hk : k < 35) (h : wc_ok (k, i) = true) :
    ∃ q0 : Nat, (wc_ws ad cA M)[q0]? = some (ad k i, wc_ent ad cA M (k, i)) ∧ wc_wl[q0]? = some (k, i) := by
  obtain ⟨q0, h0⟩ := List.getElem?_of_mem (wc_wl_in hk h)
  exact ⟨q0, by simp [wc_ws, List.getElem?_map, h0], h0⟩
theorem wc_plset {ad : wc_A} {cA : Nat → ClassId} {M M' : wc_M} {k i q0 : Nat} {e : va_E} (h0 : wc_wl[q0]? = some (k, i)) (he : wc_ent ad cA M' (k, i) = e) (hM : ∀ q : Nat × Nat, q ≠ (k, i) → wc_ent ad cA M' q = wc_ent ad cA M q) :
    (wc_ws ad cA M).set q0 (ad k i, e) = wc_ws ad cA M' := by
  apply List.ext_getElem?
  intro j
  have hlt : q0 < wc_wl.length := (List.getElem?_eq_some_iff.mp h0).1
  by_cases hj : j = q0
  · subst hj
    rw [List.getElem?_set_self (by simpa [wc_ws] using hlt)]
    simp [wc_ws, List.getElem?_map, h0, he]
  · rw [List.getElem?_set_ne (Ne.symm hj)]
    simp only [wc_ws, List.getElem?_map]
    cases hq : wc_wl[j]? with
    | none => rfl
    | some q =>
      have hne : q ≠ (k, i) := by
        intro z
        subst z
        obtain ⟨l1, e1⟩ := List.getElem?_eq_some_iff.mp hq
        obtain ⟨l2, e2⟩ := List.getElem?_eq_some_iff.mp h0
        exact hj ((List.getElem?_inj l1 wc_wl_nd).mp (hq.trans h0.symm))
      simp [hM q hne]
theorem wc_up_off {M : wc_M} {k i s : Nat} {v : Int32} {q : Nat × Nat} (h : q ≠ (k, i)) (t : Nat) : wc_up M k i s v q.1 q.2 t = M q.1 q.2 t := by
  unfold wc_up
  rw [if_neg]
  rintro ⟨h1, h2, -⟩
  exact h (Prod.ext h1 h2)
theorem wc_ent_off {ad : wc_A} {cA : Nat → ClassId} {M M' : wc_M} {q : Nat × Nat} (h : ∀ t, M' q.1 q.2 t = M q.1 q.2 t) : wc_ent ad cA M' q = wc_ent ad cA M q := by
  unfold wc_ent wc_fld
  simp only [h]
/-- what a reference in a cell of the world refers to is a cell -/
def wc_rf_t (k s : Nat) : Bool := match ((wc_rfl[k]?).getD [])[s]? with
    | some (some (k', b, n)) => cond b (Nat.ble (wc_cnt k) (wc_cnt k')) (Nat.blt n (wc_cnt k'))
    | _ => true
theorem wc_rf_ok0 : ∀ k, k < 35 → ∀ s, s < 28 → wc_rf_t k s = true := by decide +kernel
theorem wc_rf_len : ∀ k, k < 35 → ((wc_rfl[k]?).getD []).length ≤ 28 := by decide +kernel
theorem wc_sh3 : ∀ k, k < 35 → (wc_sh k).1 = 3 → (wc_sh k).2 = 8 := by decide +kernel
theorem wc_sh4 : ∀ k, k < 35 → (wc_sh k).1 = 4 → (wc_sh k).2 + cond (Nat.beq k 17) 2 26 ≤ 28 := by decide +kernel
theorem wc_rf_ok {k i s : Nat} {q : Nat × Nat} (hk : k < 35) (h : wc_ok (k, i) = true) (hq : wc_rf k i s = some q) (hs : (wc_sh k).1 = 0 ∨ s < (wc_sh k).2) : wc_ok q = true := by
  unfold wc_rf at hq
  have h' : i < wc_cnt k := Nat.blt_eq.mp h
  split at hq
  · split at hq
    · rename_i k' b n he
      cases hq
      have hlt : s < 28 := Nat.lt_of_lt_of_le (List.getElem?_eq_some_iff.mp he).1 (wc_rf_len k hk)
      have h1 := wc_rf_ok0 k hk s hlt
      unfold wc_rf_t at h1
      rw [he] at h1
      apply Nat.blt_eq.mpr
      cases b with
      | true => exact Nat.lt_of_lt_of_le h' (Nat.ble_eq.mp h1)
      | false => exact Nat.blt_eq.mp h1
    · cases hq
  · rename_i n he
    cases hq
    have h1 := wc_sh3 k hk (by rw [he])
    rw [he] at hs h1
    have h2 : s < n := hs.resolve_left (by simp)
    apply Nat.blt_eq.mpr
    show s < 8
    simp at h1
    omega
  · rename_i n he
    cases hq
    have h1 := wc_sh4 k hk (by rw [he])
    rw [he] at hs h1
    have h2 : s < n := hs.resolve_left (by simp)
    apply Nat.blt_eq.mpr
    show _ + s < 28
    simp only at h1
    omega
  · cases hq
theorem wc_k35 {k : Nat} {t n : Nat} (h : wc_sh k = (t, n)) (ht : t < 5) : k < 35 := by
  rcases Nat.lt_or_ge k 35 with h1 | h1
  · exact h1
  · have h2 := wc_sh_lt k h1
    rw [h] at h2
    omega
end
section
/-! ONE STEP of the engine is one step of the machine -/
def wc_len (ins : Instr) (n : Nat) : Nat := match ins with
  | .bipush _ | .ldc _ | .iload _ | .aload _ | .lload _ | .istore _ | .astore _ | .newarray _ => 2
  | .sipush _ | .ldc_w _ | .ldc2_w _ | .iinc _ _ | .goto _ | .if_icmp _ _ | .ifCond _ _ | .getfield _ | .putfield _ | .getstatic _ | .invokestatic _ | .invokevirtual _ | .invokespecial _ | .new _ | .anewarray _ => 3
  | .tableswitch _ _ _ _ | .lookupswitch _ _ => n
  | _ => 1
def wc_pc (cd : List wc_E) (i : Nat) : Nat := match cd[i]? with
  | some q => q.1
  | none => 0
def wc_nt : List (Nat × Nat × Nat) := [(0, 102, 200), (3, 35, 200), (0, 275, 201), (5, 29, 202)]
def wc_ny (t : Nat) : MethodName := if Nat.beq t 200 then arraycopyName else if Nat.beq t 201 then Lib.Math.max.name else Lib.Math.min.name
theorem wc_nt_ok : ∀ q ∈ wc_nt, Jvm.Cond.methodLink (wc_cn q.1) q.2.1 (wc_ny q.2.2) ∈ wc_tw := by
  have h : [252, 328, 499, 355].map (fun i => tables_1[i]?) = (wc_nt.map (fun q => Jvm.Cond.methodLink (wc_cn q.1) q.2.1 (wc_ny q.2.2))).map some := by decide +kernel
  exact fun q hq => wc_tb (wc_pl _ h _ (List.mem_map_of_mem hq)) rfl
theorem wc_nat0 : [500, 356, 10, 9, 253, 254, 501, 357].map (fun i => tables_1[i]?) = [Jvm.Cond.static Lib.Math.max.name, .static Lib.Math.min.name, .initialized "java/lang/Math", .initialized "java/lang/System", .static arraycopyName, .native arraycopyName, .code Lib.Math.max.name Lib.Math.max.code 2 (some .int), .code Lib.Math.min.name Lib.Math.min.code 2 (some .int)].map some := by decide +kernel
theorem wc_nat {w : Jvm.Cond} (i : Nat) (h : [Jvm.Cond.static Lib.Math.max.name, .static Lib.Math.min.name, .initialized "java/lang/Math", .initialized "java/lang/System", .static arraycopyName, .native arraycopyName, .code Lib.Math.max.name Lib.Math.max.code 2 (some .int), .code Lib.Math.min.name Lib.Math.min.code 2 (some .int)][i]? = some w) (g : goodWord w = true) : w ∈ wc_tw := wc_tb (wc_pl _ wc_nat0 _ (List.mem_of_getElem? h)) g
def wc_lnk (o : Nat) (ins : Instr) (tg : List Nat) (ct : Int32) (cl : Int64) : Bool := match ins, tg with
  | .iconst n, _ => decide (Int32.ofInt n = ct)
  | .bipush n, _ => decide ((Int8.ofInt n).toInt32 = ct)
  | .sipush n, _ => decide ((Int16.ofInt n).toInt32 = ct)
  | .ldc i, _ => decide ((o, i, ct) ∈ wc_ld)
  | .ldc_w i, _ => decide ((o, i, ct) ∈ wc_ld)
  | .lconst n, _ => decide (Int64.ofNat (n : Nat) = cl)
  | .ldc2_w i, _ => decide ((o, i, cl) ∈ wc_le)
  | .iinc _ n, _ => decide (Int32.ofInt n = ct)
  | .getfield i, [c, s] => decide ((o, i, c, s) ∈ wc_fl)
  | .putfield i, [c, s] => decide ((o, i, c, s) ∈ wc_fl)
  | .getstatic i, [k] => decide ((o, i, k) ∈ wc_gs) && Nat.ble 35 k && Nat.blt k 38
  | .invokestatic i, [y] => if Nat.blt y 155 then decide ((o, i, y) ∈ wc_ml) && Nat.beq o (wc_m y).1 else decide ((o, i, y) ∈ wc_nt)
  | .invokevirtual i, [y] => decide ((o, i, y) ∈ wc_ml)
  | .tableswitch _ lo hi offs, _ :: ts => decide (ct.toInt = lo) && decide (hi + 1 = lo + (ts.length : Int)) && decide (ts.length = offs.size) && decide (0 ≤ lo) && decide (hi < 1000)
  | .lookupswitch _ ps, _ :: ts => (ps.toList.zip (ps.toList.drop 1)).all (fun (a, next) => a.1 < next.1) && decide (ts.length = ps.toList.length) && ps.toList.all (fun q => decide ((Int32.ofInt q.1).toInt = q.1))
  | _, _ => true
def wc_nxt (cd : List wc_E) (i pc : Nat) (ins : Instr) (len : Nat) (tg : List Nat) : Bool := match ins, tg with
  | .goto off, [t] => decide ((pc : Int) + off = (wc_pc cd t : Int))
  | .ifCond _ off, [t] => decide ((pc : Int) + off = (wc_pc cd t : Int)) && Nat.beq (wc_pc cd (i + 1)) (pc + 3)
  | .if_icmp _ off, [t] => decide ((pc : Int) + off = (wc_pc cd t : Int)) && Nat.beq (wc_pc cd (i + 1)) (pc + 3)
  | .tableswitch d _ _ offs, t :: ts => decide ((pc : Int) + d = (wc_pc cd t : Int)) && (offs.toList.zip ts).all (fun q => decide ((pc : Int) + q.1 = (wc_pc cd q.2 : Int)))
  | .lookupswitch d ps, t :: ts => decide ((pc : Int) + d = (wc_pc cd t : Int)) && (ps.toList.zip ts).all (fun q => decide ((pc : Int) + q.1.2 = (wc_pc cd q.2 : Int)))
  | .ireturn, _ => true
  | .return_, _ => true
  | _, _ => Nat.beq (wc_pc cd (i + 1)) (pc + len)
def wc_good (o : Nat) (bytes : ByteArray) (cd : List wc_E) : Prop := ∀ (i pc : Nat) (ins : Instr) (len : Nat) (tg : List Nat) (ct : Int32) (cl : Int64), cd[i]? = some (pc, ins, len, tg, ct, cl) →
  decode bytes pc = .ok (ins, len) ∧ len = wc_len ins len ∧ wc_lnk o ins tg ct cl = true ∧ wc_nxt cd i pc ins len tg = true
def wc_chk (o : Nat) (bytes : ByteArray) (cd : List wc_E) : Bool := cd.zipIdx.all (fun q => decide (decode bytes q.1.1 = .ok (q.1.2.1, q.1.2.2.1)) && decide (q.1.2.2.1 = wc_len q.1.2.1 q.1.2.2.1) && wc_lnk o q.1.2.1 q.1.2.2.2.1 q.1.2.2.2.2.1 q.1.2.2.2.2.2 && wc_nxt cd q.2 q.1.1 q.1.2.1 q.1.2.2.1 q.1.2.2.2.1)
theorem wc_good_of {o : Nat} {bytes : ByteArray} {cd : List wc_E} (h : wc_chk o bytes cd = true) : wc_good o bytes cd := by
  intro i pc ins len tg ct cl hi
  have h1 := List.all_eq_true.mp h ((pc, ins, len, tg, ct, cl), i) (List.mem_zipIdx_iff_getElem?.mpr hi)
  simp only [Bool.and_eq_true, decide_eq_true_eq] at h1
  exact ⟨h1.1.1.1, h1.1.1.2, h1.1.2, h1.2⟩
theorem wc_F1 : ∀ c, c < 8 → ∀ k, k < wc_nf c → (wc_F c k).1 = wc_cn c := by decide +kernel
def wc_pf_t (k s : Nat) : Bool := match wc_sh k with
  | (0, c) => Nat.blt c 8 && (if Nat.blt s (wc_nf c) then (match ((wc_rfl[k]?).getD [])[s]? with
    | some (some _) => true
    | _ => !(wc_F c s).2.2.2 && decide ((wc_F c s).2.2.1 = (if wc_bo c s then "Z" else "I"))) else true)
  | _ => true
theorem wc_pf_ok : ∀ k, k < 35 → ∀ s, s < 28 → wc_pf_t k s = true := by decide +kernel
theorem wc_nf28 : ∀ c, c < 8 → wc_nf c ≤ 28 := by decide +kernel
theorem wc_sh0 : ∀ k, k < 35 → (wc_sh k).1 = 0 → (wc_sh k).2 < 8 := by decide +kernel
theorem wc_c8 {k c : Nat} (h : wc_sh k = (0, c)) : c < 8 := by
  have h1 := wc_sh0 k (wc_k35 h (by decide)) (by rw [h])
  rw [h] at h1
  exact h1
theorem wc_cls_at {c : Nat} (h : c < 8) : wc_cls[c]? = some (wc_cn c, wc_F c, wc_nf c) := by
  simp [wc_cls, List.getElem?_map, List.getElem?_range h]
theorem wc_pf_at {k c s j : Nat} (h : wc_sh k = (0, c)) (hs : s < wc_nf c) (hr : wc_rf k j s = none) : (wc_F c s).2.2.2 = false ∧ (wc_F c s).2.2.1 = (if wc_bo c s then "Z" else "I") := by
  have h8 := wc_c8 h
  have h1 := wc_pf_ok k (wc_k35 h (by decide)) s (Nat.lt_of_lt_of_le hs (wc_nf28 c h8))
  unfold wc_pf_t at h1
  unfold wc_rf at hr
  simp only [h] at h1 hr
  rw [if_pos (Nat.blt_eq.mpr hs)] at h1
  cases he : ((wc_rfl[k]?).getD [])[s]? with
  | none =>
    rw [he] at h1
    simp at h1
    exact ⟨h1.2.1, h1.2.2⟩
  | some z =>
    cases z with
    | none =>
      rw [he] at h1
      simp at h1
      exact ⟨h1.2.1, h1.2.2⟩
    | some z =>
      rw [he] at hr
      cases hr
/-- the world's entries -/
theorem wc_ent0 {ad : wc_A} {cA : Nat → ClassId} {M : wc_M} {k i c : Nat} (h : wc_sh k = (0, c)) : wc_ent ad cA M (k, i) = .inr (c, (List.range (wc_nf c)).map (fun s => wc_fld ad k i s M)) := by
  unfold wc_ent
  simp only [h]
theorem wc_ent1 {ad : wc_A} {cA : Nat → ClassId} {M : wc_M} {k i n : Nat} (h : wc_sh k = (1, n)) : wc_ent ad cA M (k, i) = .inl (cA 0, n, .inl (fun s => M k i s)) := by
  unfold wc_ent
  simp only [h]
theorem wc_ent2 {ad : wc_A} {cA : Nat → ClassId} {M : wc_M} {k i n : Nat} (h : wc_sh k = (2, n)) : wc_ent ad cA M (k, i) = .inl (cA 1, n, .inl (fun s => M k i s)) := by
  unfold wc_ent
  simp only [h]
theorem wc_ent3 {ad : wc_A} {cA : Nat → ClassId} {M : wc_M} {k i n : Nat} (h : wc_sh k = (3, n)) : wc_ent ad cA M (k, i) = .inl (cA 2, n, .inr (.inr (.inr (.inr (fun s => (wc_rf k i s).map (fun r => ad r.1 r.2)))))) := by
  unfold wc_ent
  simp only [h]
theorem wc_ent4 {ad : wc_A} {cA : Nat → ClassId} {M : wc_M} {k i n : Nat} (h : wc_sh k = (4, n)) : wc_ent ad cA M (k, i) = .inl (cA 3, n, .inr (.inr (.inr (.inr (fun s => (wc_rf k i s).map (fun r => ad r.1 r.2)))))) := by
  unfold wc_ent
  simp only [h]
theorem wc_off {ad : wc_A} {cA : Nat → ClassId} {M : wc_M} {k i s : Nat} {v : Int32} : ∀ q : Nat × Nat, q ≠ (k, i) → wc_ent ad cA (wc_up M k i s v) q = wc_ent ad cA M q := fun q hq => wc_ent_off (fun t => wc_up_off hq t)
/-- a field set, an element set -/
theorem wc_set0 {ad : wc_A} {cA : Nat → ClassId} {M : wc_M} {k i s c q0 : Nat} {v : Int32} (h0 : wc_wl[q0]? = some (k, i)) (h : wc_sh k = (0, c)) (hr : wc_rf k i s = none) :
    (wc_ws ad cA M).set q0 (ad k i, .inr (c, ((List.range (wc_nf c)).map (fun s => wc_fld ad k i s M)).set s (.int v))) = wc_ws ad cA (wc_up M k i s v) := by
  refine wc_plset h0 ?_ wc_off
  rw [wc_ent0 h]
  congr 2
  apply List.ext_getElem?
  intro j
  by_cases hj : j = s
  · subst hj
    by_cases hlt : j < wc_nf c
    · rw [List.getElem?_set_self (by simpa using hlt)]
      simp [List.getElem?_map, List.getElem?_range hlt, wc_fld, hr, wc_up]
    · rw [List.getElem?_eq_none (by simpa using hlt), List.getElem?_eq_none (by simpa using hlt)]
  · rw [List.getElem?_set_ne (Ne.symm hj)]
    simp only [List.getElem?_map]
    by_cases ht : j < wc_nf c
    · rw [List.getElem?_range ht]
      simp only [Option.map_some]
      congr 1
      unfold wc_fld wc_up
      simp [hj]
    · rw [List.getElem?_eq_none (by simpa using ht)]
      rfl
theorem wc_set1 {ad : wc_A} {cA : Nat → ClassId} {M : wc_M} {k i s n q0 : Nat} {v : Int32} (h0 : wc_wl[q0]? = some (k, i)) (h : wc_sh k = (1, n)) :
    (wc_ws ad cA M).set q0 (ad k i, .inl (cA 0, n, .inl (upd (fun s => M k i s) s v))) = wc_ws ad cA (wc_up M k i s v) := by
  refine wc_plset h0 ?_ wc_off
  rw [wc_ent1 h]
  congr 3
  refine congrArg Sum.inl (funext fun t => ?_)
  simp [wc_up, upd]
theorem wc_set2 {ad : wc_A} {cA : Nat → ClassId} {M : wc_M} {k i s n q0 : Nat} {v : Int32} (h0 : wc_wl[q0]? = some (k, i)) (h : wc_sh k = (2, n)) :
    (wc_ws ad cA M).set q0 (ad k i, .inl (cA 1, n, .inl (upd (fun s => M k i s) s v))) = wc_ws ad cA (wc_up M k i s v) := by
  refine wc_plset h0 ?_ wc_off
  rw [wc_ent2 h]
  congr 3
  refine congrArg Sum.inl (funext fun t => ?_)
  simp [wc_up, upd]
theorem wc_setc {ad : wc_A} {cA : Nat → ClassId} {M : wc_M} {k i k' i' sp dp n n1 q0 : Nat} (h0 : wc_wl[q0]? = some (k', i')) (h : wc_sh k' = (1, n1)) :
    (wc_ws ad cA M).set q0 (ad k' i', .inl (cA 0, n1, .inl (va_cpy (fun s => M k i s) (fun s => M k' i' s) sp dp n))) = wc_ws ad cA (wc_cp M k i k' i' sp dp n) := by
  refine wc_plset h0 ?_ (fun q hq => wc_ent_off (fun t => ?_))
  · rw [wc_ent1 h]
    congr 3
    refine congrArg Sum.inl (funext fun t => ?_)
    simp [wc_cp, va_cpy]
  · unfold wc_cp
    rw [if_neg]
    rintro ⟨h1, h2, -⟩
    exact hq (Prod.ext h1 h2)
end
section
/-! FRAMES: what a frame of the engine says of a frame of the machine; steps without a condition -/
def wc_lv (ad : wc_A) (nL : Nat) (L : wc_L) (ls : Array Slot) : Prop := ls.size = nL ∧ lv_wf ls ∧ L.length = nL ∧ ∀ (i : Nat) (v : wc_V), L[i]? = some (some v) → ls[i]? = some (.val (wc_cv ad v))
def wc_lp (ad : wc_A) (L : wc_L) : List (Nat × Value) := L.zipIdx.filterMap (fun q => q.1.map (fun v => (q.2, wc_cv ad v)))
theorem wc_lp_in {ad : wc_A} {L : wc_L} {q : Nat × Value} : q ∈ wc_lp ad L ↔ ∃ v, L[q.1]? = some (some v) ∧ wc_cv ad v = q.2 := by
  unfold wc_lp
  rw [List.mem_filterMap]
  constructor
  · rintro ⟨⟨z, i⟩, hz, he⟩
    cases z with
    | none => cases he
    | some v =>
      cases he
      exact ⟨v, List.mem_zipIdx_iff_getElem?.mp hz, rfl⟩
  · rintro ⟨v, hv, he⟩
    refine ⟨(some v, q.1), List.mem_zipIdx_iff_getElem?.mpr hv, ?_⟩
    show some (q.1, wc_cv ad v) = some q
    rw [he]
theorem wc_lv_has {ad : wc_A} {nL : Nat} {L : wc_L} {ls : Array Slot} (h : wc_lv ad nL L ls) : lv_has ls nL (wc_lp ad L) := by
  refine ⟨h.1, h.2.1, fun q hq => ?_⟩
  obtain ⟨v, h1, h2⟩ := wc_lp_in.mp hq
  rw [← h2]
  exact h.2.2.2 _ _ h1
theorem wc_noL_cat {ad : wc_A} {L : wc_L} (h : wc_noL L = true) {i : Nat} {v : wc_V} (hv : L[i]? = some (some v)) : (wc_cv ad v).category = 1 := by
  have h1 := List.all_eq_true.mp h (some v) (List.mem_of_getElem? hv)
  obtain v | v | v := v
  · rfl
  · rfl
  · cases h1
/-- a local stored -/
theorem wc_lv_set {ad : wc_A} {nL n : Nat} {L : wc_L} {ls' : Array Slot} {v : wc_V} (hL : L.length = nL) (hn : wc_noL L = true)
    (h : lv_has ls' nL ((n, wc_cv ad v) :: (wc_lp ad L).filter (fun q => !(q.1 == n) && !(q.1 + 1 == n && q.2.category == 2)))) : wc_lv ad nL (L.set n (some v)) ls' := by
  refine ⟨h.1, h.2.1, by rw [List.length_set]; exact hL, fun i w hw => ?_⟩
  by_cases hi : i = n
  · subst hi
    have hlt : i < L.length := by
      have := (List.getElem?_eq_some_iff.mp hw).1
      rwa [List.length_set] at this
    rw [List.getElem?_set_self hlt] at hw
    cases hw
    exact h.2.2 (i, wc_cv ad v) List.mem_cons_self
  · rw [List.getElem?_set_ne (Ne.symm hi)] at hw
    refine h.2.2 (i, wc_cv ad w) (List.mem_cons_of_mem _ (List.mem_filter.mpr ⟨wc_lp_in.mpr ⟨w, hw, rfl⟩, ?_⟩))
    have hc := wc_noL_cat (ad := ad) hn hw
    simp [hi, hc]
def wc_gsm (k : Nat) : String × String := (wc_gsn[k - 35]?).getD ("", "")
/-- the tables of the class that nobody writes, at the addresses ad 35 0 .. ad 37 0 -/
def wc_TZ (ad : wc_A) (A : Nat → Prop) (U : State) (H : Heap) : Prop := ∀ k, 35 ≤ k → k < 38 → va_T .int (ad k 0) 6 (fun j => .int (wc_st k j)) A U H ∧ va_Z (wc_gsm k).1 (wc_gsm k).2 "[I" (.ref (ad k 0)) A U H
/-- what holds throughout a frame -/
def wc_C (p : Program) (R : Room) (s : State) (m : MethodId) (args : Array Value) (c : Code) (cells slots : Nat) (ad : wc_A) (cA : Nat → ClassId) (D : va_G) (A : Nat → Prop) (X : Nat × (Nat → Int32)) (o nL dep : Nat) (bytes : ByteArray) : Prop :=
  p.tables.exec = Jvm.exec ∧ c.code = bytes ∧ c.maxLocals = nL ∧ s.vm.findClass (wc_cn o) = some m.cls ∧ (∀ w ∈ wc_tw, w.before args s = true) ∧ va_K D wc_cls (wc_tys cA) s ∧ wc_TZ ad A s s.heap ∧
  (0 < X.1 → va_X (ad 38 0) (X.1 - 1) X.2 s s.heap ∧ ad 38 0 < s.heap.size ∧ ¬ A (ad 38 0)) ∧ (dep + 1 ≤ R.frames ∧ 40 * (dep + 1) ≤ R.locals ∧ cells ≤ R.cells ∧ slots ≤ R.slots)
/-- from here the machine comes to Q, whatever heap holds the memory -/
def wc_At (p : Program) (l : Launch) (e : Env) (R : Room) (s : State) (m : MethodId) (args : Array Value) (below : List Frame) (meth : Method) (c : Code) (cells slots : Nat) (Q : State → Prop) (ad : wc_A) (cA : Nat → ClassId) (D : va_G) (A : Nat → Prop) (nL : Nat) (cd : List wc_E) (i : Nat) (L : wc_L) (st : List wc_V) (M : wc_M) : Prop :=
  ∀ (H : Heap) (locs : List Loc) (ls : Array Slot), va_P D wc_cls (wc_ws ad cA M) H → va_D A (wc_ws ad cA M) → va_S A s.heap H locs → wc_lv ad nL L ls →
    W p l e R s m args below meth c H locs cells slots Q (F0 m (wc_pc cd i) ls (st.map (wc_cv ad)))
theorem wc_stp_ks {xl i i' : Nat} {L L' : wc_L} {st st' : List wc_V} {M M' : wc_M} {cd : List wc_E} {o : Nat} {bytes : ByteArray} (hg : wc_good o bytes cd) (h : wc_stp xl cd i L st M = some (i', L', st', M')) (hL : wc_okL L) (hs : wc_okS st) : wc_okL L' ∧ wc_okS st' := by
  have lg : ∀ {n : Nat} {v : wc_V}, L[n]? = some (some v) → wc_okv v = true := fun {n v} hv => hL v (List.mem_of_getElem? hv)
  have ls : ∀ {n : Nat} {v : wc_V}, wc_okv v = true → wc_okL (L.set n (some v)) := fun {n v} hv w hw => by
    rcases List.mem_or_eq_of_mem_set hw with h1 | h1
    · exact hL w h1
    · cases h1; exact hv
  have sc : ∀ {v : wc_V} {r : List wc_V}, wc_okv v = true → wc_okS r → wc_okS (v :: r) := fun {v r} hv hr w hw => by
    rcases List.mem_cons.mp hw with h1 | h1
    · subst h1; exact hv
    · exact hr w h1
  have st1 : ∀ {v : wc_V} {r : List wc_V}, wc_okS (v :: r) → wc_okS r := fun {v r} hr w hw => hr w (List.mem_cons_of_mem _ hw)
  have st0 : ∀ {v : wc_V} {r : List wc_V}, wc_okS (v :: r) → wc_okv v = true := fun {v r} hr => hr v List.mem_cons_self
  rcases hcd : cd[i]? with _ | ⟨pc, ins, len, tg, ct, cl⟩
  · unfold wc_stp at h
    rw [hcd] at h
    cases h
  obtain ⟨-, -, hlnk, -⟩ := hg i pc ins len tg ct cl hcd
  unfold wc_stp at h
  rw [hcd] at h
  cases ins
  case iconst n =>
    cases h
    exact ⟨hL, sc rfl hs⟩
  case bipush n =>
    cases h
    exact ⟨hL, sc rfl hs⟩
  case sipush n =>
    cases h
    exact ⟨hL, sc rfl hs⟩
  case ldc n =>
    cases h
    exact ⟨hL, sc rfl hs⟩
  case ldc_w n =>
    cases h
    exact ⟨hL, sc rfl hs⟩
  case lconst n =>
    cases h
    exact ⟨hL, sc rfl hs⟩
  case ldc2_w n =>
    cases h
    exact ⟨hL, sc rfl hs⟩
  case iload_n n =>
    dsimp only at h
    split at h
    · rename_i v hv
      cases h
      exact ⟨hL, sc (lg hv) hs⟩
    · cases h
  case iload n =>
    dsimp only at h
    split at h
    · rename_i v hv
      cases h
      exact ⟨hL, sc (lg hv) hs⟩
    · cases h
  case aload_n n =>
    dsimp only at h
    split at h
    · rename_i v hv
      cases h
      exact ⟨hL, sc (lg hv) hs⟩
    · cases h
  case aload n =>
    dsimp only at h
    split at h
    · rename_i v hv
      cases h
      exact ⟨hL, sc (lg hv) hs⟩
    · cases h
  case lload_n n =>
    dsimp only at h
    split at h
    · rename_i v hv
      cases h
      exact ⟨hL, sc (lg hv) hs⟩
    · cases h
  case lload n =>
    dsimp only at h
    split at h
    · rename_i v hv
      cases h
      exact ⟨hL, sc (lg hv) hs⟩
    · cases h
  case istore_n n =>
    dsimp only at h
    split at h
    · split at h
      · cases h
        exact ⟨ls (st0 hs), st1 hs⟩
      · cases h
    · cases h
  case istore n =>
    dsimp only at h
    split at h
    · split at h
      · cases h
        exact ⟨ls (st0 hs), st1 hs⟩
      · cases h
    · cases h
  case astore_n n =>
    dsimp only at h
    split at h
    · split at h
      · cases h
        exact ⟨ls (st0 hs), st1 hs⟩
      · cases h
    · cases h
  case astore n =>
    dsimp only at h
    split at h
    · split at h
      · cases h
        exact ⟨ls (st0 hs), st1 hs⟩
      · cases h
    · cases h
  case iinc n k =>
    dsimp only at h
    split at h
    · split at h
      · cases h
        exact ⟨ls rfl, hs⟩
      · cases h
    · cases h
  case iadd =>
    dsimp only at h
    split at h
    · cases h
      exact ⟨hL, sc rfl (st1 (st1 hs))⟩
    · cases h
  case isub =>
    dsimp only at h
    split at h
    · cases h
      exact ⟨hL, sc rfl (st1 (st1 hs))⟩
    · cases h
  case imul =>
    dsimp only at h
    split at h
    · cases h
      exact ⟨hL, sc rfl (st1 (st1 hs))⟩
    · cases h
  case iand =>
    dsimp only at h
    split at h
    · cases h
      exact ⟨hL, sc rfl (st1 (st1 hs))⟩
    · cases h
  case ior =>
    dsimp only at h
    split at h
    · cases h
      exact ⟨hL, sc rfl (st1 (st1 hs))⟩
    · cases h
  case ishl =>
    dsimp only at h
    split at h
    · cases h
      exact ⟨hL, sc rfl (st1 (st1 hs))⟩
    · cases h
  case ishr =>
    dsimp only at h
    split at h
    · cases h
      exact ⟨hL, sc rfl (st1 (st1 hs))⟩
    · cases h
  case lsub =>
    dsimp only at h
    split at h
    · cases h
      exact ⟨hL, sc rfl (st1 (st1 hs))⟩
    · cases h
  case lcmp =>
    dsimp only at h
    split at h
    · cases h
      exact ⟨hL, sc rfl (st1 (st1 hs))⟩
    · cases h
  case ineg =>
    dsimp only at h
    split at h
    · cases h
      exact ⟨hL, sc rfl (st1 hs)⟩
    · cases h
  case i2l =>
    dsimp only at h
    split at h
    · cases h
      exact ⟨hL, sc rfl (st1 hs)⟩
    · cases h
  case i2b =>
    dsimp only at h
    split at h
    · cases h
      exact ⟨hL, sc rfl (st1 hs)⟩
    · cases h
  case i2s =>
    dsimp only at h
    split at h
    · cases h
      exact ⟨hL, sc rfl (st1 hs)⟩
    · cases h
  case dup =>
    dsimp only at h
    split at h
    · cases h
      exact ⟨hL, sc (st0 hs) hs⟩
    · cases h
      exact ⟨hL, sc (st0 hs) hs⟩
    · cases h
  case dup2 =>
    dsimp only at h
    split at h
    · cases h
      exact ⟨hL, sc (st0 hs) (sc (st0 (st1 hs)) hs)⟩
    · cases h
  case pop =>
    dsimp only at h
    split at h
    · cases h
      exact ⟨hL, st1 hs⟩
    · cases h
  case goto n =>
    dsimp only at h
    split at h
    · cases h
      exact ⟨hL, hs⟩
    · cases h
  case getfield n =>
    dsimp only at h
    split at h
    · rename_i c s k j r
      split at h
      · rename_i c2 hsh
        split at h
        · split at h
          · rename_i q hq
            cases h
            have h35 := wc_k35 hsh (by decide)
            exact ⟨hL, sc (wc_rf_ok h35 (st0 hs) hq (Or.inl (by rw [hsh]))) (st1 hs)⟩
          · cases h
            exact ⟨hL, sc rfl (st1 hs)⟩
        · cases h
      · cases h
    · cases h
  case putfield n =>
    dsimp only at h
    split at h
    · split at h
      · split at h
        · split at h
          · cases h
          · cases h
            exact ⟨hL, st1 (st1 hs)⟩
        · cases h
      · cases h
    · cases h
  case getstatic n =>
    dsimp only at h
    split at h
    · rename_i k
      cases h
      unfold wc_lnk at hlnk
      simp only [Bool.and_eq_true, decide_eq_true_eq] at hlnk
      have h35 := Nat.ble_eq.mp hlnk.1.2
      have h38 := Nat.blt_eq.mp hlnk.2
      have hk : ∀ k, k < 38 → 35 ≤ k → wc_ok (k, 0) = true := by decide
      exact ⟨hL, sc (hk k h38 h35) hs⟩
    · cases h
  case arraylength =>
    dsimp only at h
    split at h
    · split at h
      · split at h
        · cases h
          exact ⟨hL, sc rfl (st1 hs)⟩
        · cases h
      · cases h
    · cases h
  case invokestatic n =>
    dsimp only at h
    split at h
    · split at h
      · split at h
        · cases h
          exact ⟨hL, sc rfl (st1 (st1 hs))⟩
        · split at h
          · cases h
            exact ⟨hL, sc rfl (st1 (st1 hs))⟩
          · cases h
      · cases h
    · cases h
  all_goals cases h
end
section
/-! STEPS without a condition: the machine follows -/
section WCS
variable {p : Program} {l : Launch} {e : Env} {R : Room} {s : State} {m : MethodId} {args : Array Value} {below : List Frame} {meth : Method} {c : Code} {cells slots : Nat} {Q : State → Prop}
variable {ad : wc_A} {cA : Nat → ClassId} {D : va_G} {A : Nat → Prop} {X : Nat × (Nat → Int32)} {o nL dep : Nat} {bytes : ByteArray} {cd : List wc_E}
theorem wc_cat4 {r : List wc_V} (h : Nat.ble r.length 4 = true) : ((r.map (wc_cv ad)).map fun v => v.category).sum ≤ 8 := by
  have h4 := Nat.ble_eq.mp h
  have key : ∀ r : List wc_V, ((r.map (wc_cv ad)).map fun v => v.category).sum ≤ 2 * r.length := by
    intro r
    induction r with
    | nil => simp
    | cons v r ih =>
      have hv : (wc_cv ad v).category ≤ 2 := by
        obtain v | v | v := v <;> simp [wc_cv, Value.category]
      simp only [List.map_cons, List.sum_cons, List.length_cons]
      omega
  have := key r
  omega
theorem wc_stp_ok {i i' : Nat} {L L' : wc_L} {st st' : List wc_V} {M M' : wc_M} (hC : wc_C p R s m args c cells slots ad cA D A X o nL dep bytes) (hg : wc_good o bytes cd) (h : wc_stp X.1 cd i L st M = some (i', L', st', M')) (hL : wc_okL L) (hs : wc_okS st)
    (k : wc_At p l e R s m args below meth c cells slots Q ad cA D A nL cd i' L' st' M') : wc_At p l e R s m args below meth c cells slots Q ad cA D A nL cd i L st M := by
  obtain ⟨hx, hb, hml, hown, hts, hK, hTZ, hXS, hfr, hlo, hce, hsl⟩ := hC
  rcases hcd : cd[i]? with _ | ⟨pc, ins, len, tg, ct, cl⟩
  · unfold wc_stp at h
    rw [hcd] at h
    cases h
  obtain ⟨hdec, hlen, hlnk, hnx⟩ := hg i pc ins len tg ct cl hcd
  have hpc : wc_pc cd i = pc := by unfold wc_pc; rw [hcd]
  intro H locs ls hP hD hS hl
  rw [hpc]
  have lg : ∀ {n : Nat} {v : wc_V}, L[n]? = some (some v) → ls[n]? = some (.val (wc_cv ad v)) := fun {n v} hv => hl.2.2.2 n v hv
  unfold wc_stp at h
  rw [hcd] at h
  cases ins
  case iconst n =>
    cases h
    have hn : wc_pc cd (i + 1) = pc + 1 := by rw [hlen] at hnx; exact Nat.eq_of_beq_eq_true hnx
    have k := k H locs ls hP hD hS hl
    rw [hn] at k
    rw [hlen] at hdec
    exact lv_iconst hx hb hdec (of_decide_eq_true hlnk) k
  case bipush n =>
    cases h
    have hn : wc_pc cd (i + 1) = pc + 2 := by rw [hlen] at hnx; exact Nat.eq_of_beq_eq_true hnx
    have k := k H locs ls hP hD hS hl
    rw [hn] at k
    rw [hlen] at hdec
    exact lv_bipush hx hb hdec (of_decide_eq_true hlnk) k
  case sipush n =>
    cases h
    have hn : wc_pc cd (i + 1) = pc + 3 := by rw [hlen] at hnx; exact Nat.eq_of_beq_eq_true hnx
    have k := k H locs ls hP hD hS hl
    rw [hn] at k
    rw [hlen] at hdec
    exact lv_sipush hx hb hdec (of_decide_eq_true hlnk) k
  case lconst n =>
    cases h
    have hn : wc_pc cd (i + 1) = pc + 1 := by rw [hlen] at hnx; exact Nat.eq_of_beq_eq_true hnx
    have k := k H locs ls hP hD hS hl
    rw [hn] at k
    rw [hlen] at hdec
    exact lv_lconst hx hb hdec (of_decide_eq_true hlnk) k
  case ldc n =>
    cases h
    have hn : wc_pc cd (i + 1) = pc + 2 := by rw [hlen] at hnx; exact Nat.eq_of_beq_eq_true hnx
    have k := k H locs ls hP hD hS hl
    rw [hn] at k
    rw [hlen] at hdec
    exact lv_ldc hx hb hown (hts _ (wc_ld_ok _ (of_decide_eq_true hlnk))) hdec k
  case ldc_w n =>
    cases h
    have hn : wc_pc cd (i + 1) = pc + 3 := by rw [hlen] at hnx; exact Nat.eq_of_beq_eq_true hnx
    have k := k H locs ls hP hD hS hl
    rw [hn] at k
    rw [hlen] at hdec
    exact lv_ldcw hx hb hown (hts _ (wc_ld_ok _ (of_decide_eq_true hlnk))) hdec k
  case ldc2_w n =>
    cases h
    have hn : wc_pc cd (i + 1) = pc + 3 := by rw [hlen] at hnx; exact Nat.eq_of_beq_eq_true hnx
    have k := k H locs ls hP hD hS hl
    rw [hn] at k
    rw [hlen] at hdec
    exact lv_ldc2 hx hb hown (hts _ (wc_le_ok _ (of_decide_eq_true hlnk))) hdec k
  case iload_n n =>
    dsimp only at h
    split at h
    · rename_i v hv
      cases h
      have hn : wc_pc cd (i + 1) = pc + 1 := by rw [hlen] at hnx; exact Nat.eq_of_beq_eq_true hnx
      have k := k H locs ls hP hD hS hl
      rw [hn] at k
      rw [hlen] at hdec
      exact lv_iload_n hx hb hdec rfl (lg hv) k
    · cases h
  case iload n =>
    dsimp only at h
    split at h
    · rename_i v hv
      cases h
      have hn : wc_pc cd (i + 1) = pc + 2 := by rw [hlen] at hnx; exact Nat.eq_of_beq_eq_true hnx
      have k := k H locs ls hP hD hS hl
      rw [hn] at k
      rw [hlen] at hdec
      exact lv_iload hx hb hdec (lg hv) k
    · cases h
  case aload_n n =>
    dsimp only at h
    split at h
    · rename_i v hv
      cases h
      have hn : wc_pc cd (i + 1) = pc + 1 := by rw [hlen] at hnx; exact Nat.eq_of_beq_eq_true hnx
      have k := k H locs ls hP hD hS hl
      rw [hn] at k
      rw [hlen] at hdec
      exact lv_aload_n hx hb hdec rfl (lg hv) k
    · cases h
  case aload n =>
    dsimp only at h
    split at h
    · rename_i v hv
      cases h
      have hn : wc_pc cd (i + 1) = pc + 2 := by rw [hlen] at hnx; exact Nat.eq_of_beq_eq_true hnx
      have k := k H locs ls hP hD hS hl
      rw [hn] at k
      rw [hlen] at hdec
      exact lv_aload hx hb hdec (lg hv) k
    · cases h
  case lload_n n =>
    dsimp only at h
    split at h
    · rename_i v hv
      cases h
      have hn : wc_pc cd (i + 1) = pc + 1 := by rw [hlen] at hnx; exact Nat.eq_of_beq_eq_true hnx
      have k := k H locs ls hP hD hS hl
      rw [hn] at k
      rw [hlen] at hdec
      exact lv_lload_n hx hb hdec rfl (lg hv) k
    · cases h
  case lload n =>
    dsimp only at h
    split at h
    · rename_i v hv
      cases h
      have hn : wc_pc cd (i + 1) = pc + 2 := by rw [hlen] at hnx; exact Nat.eq_of_beq_eq_true hnx
      have k := k H locs ls hP hD hS hl
      rw [hn] at k
      rw [hlen] at hdec
      exact lv_lload hx hb hdec (lg hv) k
    · cases h
  case istore_n n =>
    dsimp only at h
    split at h
    · rename_i v r
      split at h
      · rename_i hc
        simp only [Bool.and_eq_true] at hc
        obtain ⟨hno, hlt⟩ := hc
        cases h
        have hn : wc_pc cd (i + 1) = pc + 1 := by rw [hlen] at hnx; exact Nat.eq_of_beq_eq_true hnx
        rw [hlen] at hdec
        exact lv_istore_n hx hb hdec rfl (wc_lv_has hl) (by rw [← hl.2.2.1]; exact Nat.blt_eq.mp hlt) rfl (fun ls1 h1 => by
          have k := k H locs ls1 hP hD hS (wc_lv_set (v := .inl v) hl.2.2.1 hno h1)
          rw [hn] at k
          exact k)
      · cases h
    · cases h
  case istore n =>
    dsimp only at h
    split at h
    · rename_i v r
      split at h
      · rename_i hc
        simp only [Bool.and_eq_true] at hc
        obtain ⟨hno, hlt⟩ := hc
        cases h
        have hn : wc_pc cd (i + 1) = pc + 2 := by rw [hlen] at hnx; exact Nat.eq_of_beq_eq_true hnx
        rw [hlen] at hdec
        exact lv_istore hx hb hdec (wc_lv_has hl) (by rw [← hl.2.2.1]; exact Nat.blt_eq.mp hlt) rfl (fun ls1 h1 => by
          have k := k H locs ls1 hP hD hS (wc_lv_set (v := .inl v) hl.2.2.1 hno h1)
          rw [hn] at k
          exact k)
      · cases h
    · cases h
  case astore_n n =>
    dsimp only at h
    split at h
    · rename_i v r
      split at h
      · rename_i hc
        simp only [Bool.and_eq_true] at hc
        obtain ⟨hno, hlt⟩ := hc
        cases h
        have hn : wc_pc cd (i + 1) = pc + 1 := by rw [hlen] at hnx; exact Nat.eq_of_beq_eq_true hnx
        rw [hlen] at hdec
        exact lv_astore_n hx hb hdec rfl (wc_lv_has hl) (by rw [← hl.2.2.1]; exact Nat.blt_eq.mp hlt) rfl (fun ls1 h1 => by
          have k := k H locs ls1 hP hD hS (wc_lv_set (v := .inr (.inl v)) hl.2.2.1 hno h1)
          rw [hn] at k
          exact k)
      · cases h
    · cases h
  case astore n =>
    dsimp only at h
    split at h
    · rename_i v r
      split at h
      · rename_i hc
        simp only [Bool.and_eq_true] at hc
        obtain ⟨hno, hlt⟩ := hc
        cases h
        have hn : wc_pc cd (i + 1) = pc + 2 := by rw [hlen] at hnx; exact Nat.eq_of_beq_eq_true hnx
        rw [hlen] at hdec
        exact lv_astore hx hb hdec (wc_lv_has hl) (by rw [← hl.2.2.1]; exact Nat.blt_eq.mp hlt) rfl (fun ls1 h1 => by
          have k := k H locs ls1 hP hD hS (wc_lv_set (v := .inr (.inl v)) hl.2.2.1 hno h1)
          rw [hn] at k
          exact k)
      · cases h
    · cases h
  case iinc n q =>
    dsimp only at h
    split at h
    · rename_i v hv
      split at h
      · rename_i hno
        cases h
        have hn : wc_pc cd (i + 1) = pc + 3 := by rw [hlen] at hnx; exact Nat.eq_of_beq_eq_true hnx
        rw [hlen] at hdec
        obtain ⟨k0, hk0⟩ := List.getElem?_of_mem (wc_lp_in (ad := ad) (L := L) (q := (n, .int v)) |>.mpr ⟨.inl v, hv, rfl⟩)
        exact lv_iinc (v := v + ct) hx hb hdec (wc_lv_has hl) (k := k0) hk0 (by rw [of_decide_eq_true hlnk]) (by rw [← hl.2.2.1]; exact (List.getElem?_eq_some_iff.mp hv).1) rfl (fun ls1 h1 => by
          have k := k H locs ls1 hP hD hS (wc_lv_set (v := .inl (v + ct)) hl.2.2.1 hno h1)
          rw [hn] at k
          exact k)
      · cases h
    · cases h
  case iadd =>
    dsimp only at h
    split at h
    · cases h
      have hn : wc_pc cd (i + 1) = pc + 1 := by rw [hlen] at hnx; exact Nat.eq_of_beq_eq_true hnx
      have k := k H locs ls hP hD hS hl
      rw [hn] at k
      rw [hlen] at hdec
      exact lv_iadd hx hb hdec k
    · cases h
  case isub =>
    dsimp only at h
    split at h
    · cases h
      have hn : wc_pc cd (i + 1) = pc + 1 := by rw [hlen] at hnx; exact Nat.eq_of_beq_eq_true hnx
      have k := k H locs ls hP hD hS hl
      rw [hn] at k
      rw [hlen] at hdec
      exact lv_isub hx hb hdec k
    · cases h
  case imul =>
    dsimp only at h
    split at h
    · cases h
      have hn : wc_pc cd (i + 1) = pc + 1 := by rw [hlen] at hnx; exact Nat.eq_of_beq_eq_true hnx
      have k := k H locs ls hP hD hS hl
      rw [hn] at k
      rw [hlen] at hdec
      exact lv_imul hx hb hdec k
    · cases h
  case iand =>
    dsimp only at h
    split at h
    · cases h
      have hn : wc_pc cd (i + 1) = pc + 1 := by rw [hlen] at hnx; exact Nat.eq_of_beq_eq_true hnx
      have k := k H locs ls hP hD hS hl
      rw [hn] at k
      rw [hlen] at hdec
      exact lv_iand hx hb hdec k
    · cases h
  case ior =>
    dsimp only at h
    split at h
    · cases h
      have hn : wc_pc cd (i + 1) = pc + 1 := by rw [hlen] at hnx; exact Nat.eq_of_beq_eq_true hnx
      have k := k H locs ls hP hD hS hl
      rw [hn] at k
      rw [hlen] at hdec
      exact lv_ior hx hb hdec k
    · cases h
  case ishl =>
    dsimp only at h
    split at h
    · cases h
      have hn : wc_pc cd (i + 1) = pc + 1 := by rw [hlen] at hnx; exact Nat.eq_of_beq_eq_true hnx
      have k := k H locs ls hP hD hS hl
      rw [hn] at k
      rw [hlen] at hdec
      exact lv_ishl hx hb hdec k
    · cases h
  case ishr =>
    dsimp only at h
    split at h
    · cases h
      have hn : wc_pc cd (i + 1) = pc + 1 := by rw [hlen] at hnx; exact Nat.eq_of_beq_eq_true hnx
      have k := k H locs ls hP hD hS hl
      rw [hn] at k
      rw [hlen] at hdec
      exact lv_ishr hx hb hdec k
    · cases h
  case ineg =>
    dsimp only at h
    split at h
    · cases h
      have hn : wc_pc cd (i + 1) = pc + 1 := by rw [hlen] at hnx; exact Nat.eq_of_beq_eq_true hnx
      have k := k H locs ls hP hD hS hl
      rw [hn] at k
      rw [hlen] at hdec
      exact lv_ineg hx hb hdec k
    · cases h
  case lsub =>
    dsimp only at h
    split at h
    · cases h
      have hn : wc_pc cd (i + 1) = pc + 1 := by rw [hlen] at hnx; exact Nat.eq_of_beq_eq_true hnx
      have k := k H locs ls hP hD hS hl
      rw [hn] at k
      rw [hlen] at hdec
      exact lv_lsub hx hb hdec k
    · cases h
  case lcmp =>
    dsimp only at h
    split at h
    · cases h
      have hn : wc_pc cd (i + 1) = pc + 1 := by rw [hlen] at hnx; exact Nat.eq_of_beq_eq_true hnx
      have k := k H locs ls hP hD hS hl
      rw [hn] at k
      rw [hlen] at hdec
      exact W.lcmp hx hb hdec k
    · cases h
  case i2l =>
    dsimp only at h
    split at h
    · cases h
      have hn : wc_pc cd (i + 1) = pc + 1 := by rw [hlen] at hnx; exact Nat.eq_of_beq_eq_true hnx
      have k := k H locs ls hP hD hS hl
      rw [hn] at k
      rw [hlen] at hdec
      exact lv_i2l hx hb hdec rfl k
    · cases h
  case i2b =>
    dsimp only at h
    split at h
    · cases h
      have hn : wc_pc cd (i + 1) = pc + 1 := by rw [hlen] at hnx; exact Nat.eq_of_beq_eq_true hnx
      have k := k H locs ls hP hD hS hl
      rw [hn] at k
      rw [hlen] at hdec
      exact lv_i2b hx hb hdec rfl k
    · cases h
  case i2s =>
    dsimp only at h
    split at h
    · cases h
      have hn : wc_pc cd (i + 1) = pc + 1 := by rw [hlen] at hnx; exact Nat.eq_of_beq_eq_true hnx
      have k := k H locs ls hP hD hS hl
      rw [hn] at k
      rw [hlen] at hdec
      exact lv_i2s hx hb hdec rfl k
    · cases h
  case dup =>
    dsimp only at h
    split at h
    · cases h
      have hn : wc_pc cd (i + 1) = pc + 1 := by rw [hlen] at hnx; exact Nat.eq_of_beq_eq_true hnx
      have k := k H locs ls hP hD hS hl
      rw [hn] at k
      rw [hlen] at hdec
      exact lv_dup hx hb hdec rfl k
    · cases h
      have hn : wc_pc cd (i + 1) = pc + 1 := by rw [hlen] at hnx; exact Nat.eq_of_beq_eq_true hnx
      have k := k H locs ls hP hD hS hl
      rw [hn] at k
      rw [hlen] at hdec
      exact lv_dup hx hb hdec rfl k
    · cases h
  case dup2 =>
    dsimp only at h
    split at h
    · cases h
      have hn : wc_pc cd (i + 1) = pc + 1 := by rw [hlen] at hnx; exact Nat.eq_of_beq_eq_true hnx
      have k := k H locs ls hP hD hS hl
      rw [hn] at k
      rw [hlen] at hdec
      exact lv_dup2_11 hx hb hdec rfl rfl k
    · cases h
  case pop =>
    dsimp only at h
    split at h
    · cases h
      have hn : wc_pc cd (i + 1) = pc + 1 := by rw [hlen] at hnx; exact Nat.eq_of_beq_eq_true hnx
      have k := k H locs ls hP hD hS hl
      rw [hn] at k
      rw [hlen] at hdec
      exact lv_pop hx hb hdec rfl k
    · cases h
  case goto n =>
    dsimp only at h
    split at h
    · rename_i t
      cases h
      rw [hlen] at hdec
      have k := k H locs ls hP hD hS hl
      exact lv_goto hx hb hdec (of_decide_eq_true hnx) k
    · cases h
  case getfield n =>
    dsimp only at h
    split at h
    · rename_i c1 s1 k1 j1 r
      split at h
      · rename_i c2 hsh
        split at h
        · rename_i hc
          simp only [Bool.and_eq_true] at hc
          have hcc := Nat.eq_of_beq_eq_true hc.1
          subst hcc
          have hlt := Nat.blt_eq.mp hc.2
          have h35 := wc_k35 hsh (by decide)
          have h8 := wc_c8 hsh
          obtain ⟨q0, hq0, -⟩ := wc_plc (ad := ad) (cA := cA) (M := M) h35 (hs _ List.mem_cons_self)
          rw [wc_ent0 hsh] at hq0
          have hlk : Jvm.Cond.fieldLink (wc_cn o) n (wc_cn c1) (wc_F c1 s1).2.1 (wc_F c1 s1).2.2.1 ∈ wc_tw := wc_fl_ok _ (of_decide_eq_true hlnk)
          have hn : wc_pc cd (i + 1) = pc + 3 := by rw [hlen] at hnx; exact Nat.eq_of_beq_eq_true hnx
          rw [hlen] at hdec
          have go : ∀ v : Value, wc_fld ad k1 j1 s1 M = v → W p l e R s m args below meth c H locs cells slots Q (F0 m (pc + 3) ls (v :: r.map (wc_cv ad))) → W p l e R s m args below meth c H locs cells slots Q (F0 m pc ls ((.inr (.inl (k1, j1)) :: r : List wc_V).map (wc_cv ad))) := fun v hv kk =>
            va_get (D := D) (ci := c1) (v := v) (C := wc_cn c1) (T := wc_F c1) (N := wc_nf c1) hx hb hts (wc_lay_ok h8) hown hK hP q0 hq0 (wc_cls_at h8) s1 hlt (hts _ hlk) (fun _ h9 => by rw [wc_F1 c1 h8 s1 hlt] at h9; exact h9) (by rw [List.getElem?_map, List.getElem?_range hlt]; show some (wc_fld ad k1 j1 s1 M) = some v; rw [hv]) hdec kk
          split at h
          · rename_i q hq
            cases h
            have k := k H locs ls hP hD hS hl
            rw [hn] at k
            exact go _ (by unfold wc_fld; rw [hq]; rfl) k
          · rename_i hq
            cases h
            have k := k H locs ls hP hD hS hl
            rw [hn] at k
            exact go _ (by unfold wc_fld; rw [hq]; rfl) k
        · cases h
      · cases h
    · cases h
  case putfield n =>
    dsimp only at h
    split at h
    · rename_i c1 s1 v k1 j1 r
      split at h
      · rename_i c2 hsh
        split at h
        · rename_i hc
          simp only [Bool.and_eq_true, Bool.not_eq_true'] at hc
          have hcc := Nat.eq_of_beq_eq_true hc.1.1
          subst hcc
          have hlt := Nat.blt_eq.mp hc.1.2
          have hbo := hc.2
          have h35 := wc_k35 hsh (by decide)
          have h8 := wc_c8 hsh
          obtain ⟨q0, hq0, hw0⟩ := wc_plc (ad := ad) (cA := cA) (M := M) h35 (hs _ (List.mem_cons_of_mem _ List.mem_cons_self))
          rw [wc_ent0 hsh] at hq0
          have hlk : Jvm.Cond.fieldLink (wc_cn o) n (wc_cn c1) (wc_F c1 s1).2.1 (wc_F c1 s1).2.2.1 ∈ wc_tw := wc_fl_ok _ (of_decide_eq_true hlnk)
          have hn : wc_pc cd (i + 1) = pc + 3 := by rw [hlen] at hnx; exact Nat.eq_of_beq_eq_true hnx
          rw [hlen] at hdec
          split at h
          · cases h
          · rename_i hq
            cases h
            obtain ⟨hfi, hde⟩ := wc_pf_at hsh hlt hq
            rw [hbo] at hde
            exact va_put (D := D) (ci := c1) (v := .int v) (ty := .int) (C := wc_cn c1) (T := wc_F c1) (N := wc_nf c1) hx hb hts (wc_lay_ok h8) (wc_ty c1) (wc_ty_ok c1 h8) (wc_nm c1 h8) hown hK hP hD hS q0 hq0 (wc_cls_at h8) s1 hlt (hts _ hlk) (fun _ h9 => by rw [wc_F1 c1 h8 s1 hlt] at h9; exact h9) hfi (by rw [hde]; decide +kernel) rfl rfl (by simpa using hlt) hdec (fun H1 locs1 hP1 hD1 hS1 => by
              rw [wc_set0 hw0 hsh hq] at hP1 hD1
              have k := k H1 locs1 ls hP1 hD1 hS1 hl
              rw [hn] at k
              exact k)
        · cases h
      · cases h
    · cases h
  case getstatic n =>
    dsimp only at h
    split at h
    · rename_i k1
      cases h
      unfold wc_lnk at hlnk
      simp only [Bool.and_eq_true, decide_eq_true_eq] at hlnk
      have h35 := Nat.ble_eq.mp hlnk.1.2
      have h38 := Nat.blt_eq.mp hlnk.2
      have hn : wc_pc cd (i + 1) = pc + 3 := by rw [hlen] at hnx; exact Nat.eq_of_beq_eq_true hnx
      have k := k H locs ls hP hD hS hl
      rw [hn] at k
      rw [hlen] at hdec
      exact va_gets hx hb (hTZ k1 h35 h38).2 hS hown (hts _ (wc_gs_ok _ hlnk.1.1)) (fun _ h9 => h9) hdec k
    · cases h
  case arraylength =>
    dsimp only at h
    split at h
    · rename_i k1 r
      split at h
      · rename_i n1 hsh
        split at h
        · rename_i hc
          cases h
          have h38 : k1 = 38 := by
            have hh : ∀ k, k < 39 → (wc_sh k).1 = 10 → k = 38 := by decide
            rcases Nat.lt_or_ge k1 39 with h1 | h1
            · exact hh k1 h1 (by rw [hsh])
            · have e1 : wc_shl[k1]? = none := List.getElem?_eq_none (by show 39 ≤ k1; exact h1)
              unfold wc_sh at hsh
              rw [e1] at hsh
              cases hsh
          subst h38
          have hn : wc_pc cd (i + 1) = pc + 1 := by rw [hlen] at hnx; exact Nat.eq_of_beq_eq_true hnx
          have k := k H locs ls hP hD hS hl
          rw [hn] at k
          rw [hlen] at hdec
          obtain ⟨g1, g2, g3⟩ := hXS (Nat.blt_eq.mp hc)
          exact va_slen hx hb g1 g2 g3 hS hdec k
        · cases h
      · cases h
    · cases h
  case invokestatic n =>
    dsimp only at h
    split at h
    · rename_i t y x r
      split at h
      · rename_i h4
        have hn : wc_pc cd (i + 1) = pc + 3 := by rw [hlen] at hnx; exact Nat.eq_of_beq_eq_true hnx
        rw [hlen] at hdec
        have hq := wc_cat4 (ad := ad) h4
        have hlk : Jvm.Cond.methodLink (wc_cn o) n (wc_ny t) ∈ wc_tw ∨ t < 155 := by
          rcases Nat.lt_or_ge t 155 with h1 | h1
          · exact Or.inr h1
          · refine Or.inl (wc_nt_ok (o, n, t) ?_)
            unfold wc_lnk at hlnk
            replace hlnk : (if Nat.blt t 155 then decide ((o, n, t) ∈ wc_ml) && Nat.beq o (wc_m t).1 else decide ((o, n, t) ∈ wc_nt)) = true := hlnk
            rw [if_neg (by rw [Nat.blt_eq]; omega)] at hlnk
            exact of_decide_eq_true hlnk
        split at h
        · rename_i ht
          have ht := Nat.eq_of_beq_eq_true ht
          subst ht
          cases h
          have k := k H locs ls hP hD hS hl
          rw [hn] at k
          exact va_mmax hx hb (by rw [hml, hl.1]) hown (hts _ (hlk.resolve_right (by decide))) (hts _ (wc_nat 0 rfl rfl)) (hts _ (wc_nat 2 rfl rfl)) (hts _ (wc_nat 6 rfl rfl)) (by omega) (by omega) hce hsl hdec k
        · split at h
          · rename_i ht
            have ht := Nat.eq_of_beq_eq_true ht
            subst ht
            cases h
            have k := k H locs ls hP hD hS hl
            rw [hn] at k
            exact va_mmin hx hb (by rw [hml, hl.1]) hown (hts _ (hlk.resolve_right (by decide))) (hts _ (wc_nat 1 rfl rfl)) (hts _ (wc_nat 2 rfl rfl)) (hts _ (wc_nat 7 rfl rfl)) (by omega) (by omega) hce hsl hdec k
          · cases h
      · cases h
    · cases h
  all_goals cases h
end WCS
end
