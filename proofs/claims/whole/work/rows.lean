section
-- ===== PART A: goes FIRST, ahead of the names: the tables' words, and 'selects' of the private methods out of them =====
/-- a private method of a class that the tables say can be made, by its rows of tables_1 -/
def lw_okq (q : MethodName × Nat) : Prop := (q.1.cls ≠ "java/lang/invoke/MethodHandle" ∧ q.1.cls ≠ "java/lang/invoke/VarHandle") ∧ Cond.instantiable q.1.cls q.2 ∈ tables_1 ∧ Cond.privateMethod q.1 ∈ tables_1 ∧ Cond.instanceMethod q.1 ∈ tables_1
theorem lw_p0 : lw_okq (⟨"EchoesFirst$Text", "step", "()V"⟩, 7) := ⟨⟨by decide +kernel, by decide +kernel⟩, List.mem_of_getElem? (i := 19) (by decide +kernel), List.mem_of_getElem? (i := 246) (by decide +kernel), List.mem_of_getElem? (i := 247) (by decide +kernel)⟩
theorem lw_p1 : lw_okq (⟨"EchoesFirst$Text", "readItem", "(I)Z"⟩, 7) := ⟨⟨by decide +kernel, by decide +kernel⟩, List.mem_of_getElem? (i := 19) (by decide +kernel), List.mem_of_getElem? (i := 259) (by decide +kernel), List.mem_of_getElem? (i := 260) (by decide +kernel)⟩
theorem lw_p2 : lw_okq (⟨"EchoesFirst$Text", "readPlaces", "()Z"⟩, 7) := ⟨⟨by decide +kernel, by decide +kernel⟩, List.mem_of_getElem? (i := 19) (by decide +kernel), List.mem_of_getElem? (i := 263) (by decide +kernel), List.mem_of_getElem? (i := 264) (by decide +kernel)⟩
theorem lw_p3 : lw_okq (⟨"EchoesFirst$Text", "stepToNumber", "(II)Z"⟩, 7) := ⟨⟨by decide +kernel, by decide +kernel⟩, List.mem_of_getElem? (i := 19) (by decide +kernel), List.mem_of_getElem? (i := 267) (by decide +kernel), List.mem_of_getElem? (i := 268) (by decide +kernel)⟩
theorem lw_p4 : lw_okq (⟨"EchoesFirst$Text", "stepToStop", "()Z"⟩, 7) := ⟨⟨by decide +kernel, by decide +kernel⟩, List.mem_of_getElem? (i := 19) (by decide +kernel), List.mem_of_getElem? (i := 271) (by decide +kernel), List.mem_of_getElem? (i := 272) (by decide +kernel)⟩
theorem lw_p5 : lw_okq (⟨"EchoesFirst$Text", "readFar", "()Z"⟩, 7) := ⟨⟨by decide +kernel, by decide +kernel⟩, List.mem_of_getElem? (i := 19) (by decide +kernel), List.mem_of_getElem? (i := 275) (by decide +kernel), List.mem_of_getElem? (i := 276) (by decide +kernel)⟩
theorem lw_p6 : lw_okq (⟨"EchoesFirst$Text", "readPerson", "()Z"⟩, 7) := ⟨⟨by decide +kernel, by decide +kernel⟩, List.mem_of_getElem? (i := 19) (by decide +kernel), List.mem_of_getElem? (i := 283) (by decide +kernel), List.mem_of_getElem? (i := 284) (by decide +kernel)⟩
theorem lw_p7 : lw_okq (⟨"EchoesFirst$Text", "readSounds", "()I"⟩, 7) := ⟨⟨by decide +kernel, by decide +kernel⟩, List.mem_of_getElem? (i := 19) (by decide +kernel), List.mem_of_getElem? (i := 287) (by decide +kernel), List.mem_of_getElem? (i := 288) (by decide +kernel)⟩
theorem lw_p8 : lw_okq (⟨"EchoesFirst", "makersOf", "(II)I"⟩, 8) := ⟨⟨by decide +kernel, by decide +kernel⟩, List.mem_of_getElem? (i := 11) (by decide +kernel), List.mem_of_getElem? (i := 362) (by decide +kernel), List.mem_of_getElem? (i := 363) (by decide +kernel)⟩
theorem lw_p9 : lw_okq (⟨"EchoesFirst", "secondToMake", "(II)I"⟩, 8) := ⟨⟨by decide +kernel, by decide +kernel⟩, List.mem_of_getElem? (i := 11) (by decide +kernel), List.mem_of_getElem? (i := 366) (by decide +kernel), List.mem_of_getElem? (i := 367) (by decide +kernel)⟩
theorem lw_p10 : lw_okq (⟨"EchoesFirst", "secondToBegin", "(IIII)I"⟩, 8) := ⟨⟨by decide +kernel, by decide +kernel⟩, List.mem_of_getElem? (i := 11) (by decide +kernel), List.mem_of_getElem? (i := 370) (by decide +kernel), List.mem_of_getElem? (i := 371) (by decide +kernel)⟩
theorem lw_p11 : lw_okq (⟨"EchoesFirst", "isAgainstStill", "(III)Z"⟩, 8) := ⟨⟨by decide +kernel, by decide +kernel⟩, List.mem_of_getElem? (i := 11) (by decide +kernel), List.mem_of_getElem? (i := 384) (by decide +kernel), List.mem_of_getElem? (i := 385) (by decide +kernel)⟩
theorem lw_p12 : lw_okq (⟨"EchoesFirst", "reaches", "(IIII)Z"⟩, 8) := ⟨⟨by decide +kernel, by decide +kernel⟩, List.mem_of_getElem? (i := 11) (by decide +kernel), List.mem_of_getElem? (i := 388) (by decide +kernel), List.mem_of_getElem? (i := 389) (by decide +kernel)⟩
theorem lw_p13 : lw_okq (⟨"EchoesFirst", "findSets", "()V"⟩, 8) := ⟨⟨by decide +kernel, by decide +kernel⟩, List.mem_of_getElem? (i := 11) (by decide +kernel), List.mem_of_getElem? (i := 400) (by decide +kernel), List.mem_of_getElem? (i := 401) (by decide +kernel)⟩
theorem lw_p14 : lw_okq (⟨"EchoesFirst$DeedSets", "letIn", "(I)V"⟩, 7) := ⟨⟨by decide +kernel, by decide +kernel⟩, List.mem_of_getElem? (i := 168) (by decide +kernel), List.mem_of_getElem? (i := 424) (by decide +kernel), List.mem_of_getElem? (i := 425) (by decide +kernel)⟩
theorem lw_p15 : lw_okq (⟨"EchoesFirst$DeedSets", "seenGoals", "()I"⟩, 7) := ⟨⟨by decide +kernel, by decide +kernel⟩, List.mem_of_getElem? (i := 168) (by decide +kernel), List.mem_of_getElem? (i := 435) (by decide +kernel), List.mem_of_getElem? (i := 436) (by decide +kernel)⟩
def lw_privs_1 : List (MethodName × Nat) := [(⟨"EchoesFirst$Text", "step", "()V"⟩, 7), (⟨"EchoesFirst$Text", "readItem", "(I)Z"⟩, 7), (⟨"EchoesFirst$Text", "readPlaces", "()Z"⟩, 7), (⟨"EchoesFirst$Text", "stepToNumber", "(II)Z"⟩, 7), (⟨"EchoesFirst$Text", "stepToStop", "()Z"⟩, 7), (⟨"EchoesFirst$Text", "readFar", "()Z"⟩, 7), (⟨"EchoesFirst$Text", "readPerson", "()Z"⟩, 7), (⟨"EchoesFirst$Text", "readSounds", "()I"⟩, 7), (⟨"EchoesFirst", "makersOf", "(II)I"⟩, 8), (⟨"EchoesFirst", "secondToMake", "(II)I"⟩, 8), (⟨"EchoesFirst", "secondToBegin", "(IIII)I"⟩, 8), (⟨"EchoesFirst", "isAgainstStill", "(III)Z"⟩, 8), (⟨"EchoesFirst", "reaches", "(IIII)Z"⟩, 8), (⟨"EchoesFirst", "findSets", "()V"⟩, 8), (⟨"EchoesFirst$DeedSets", "letIn", "(I)V"⟩, 7), (⟨"EchoesFirst$DeedSets", "seenGoals", "()I"⟩, 7)]
theorem lw_r1 : ∀ q ∈ lw_privs_1, lw_okq q := List.forall_mem_cons.mpr ⟨lw_p0, List.forall_mem_cons.mpr ⟨lw_p1, List.forall_mem_cons.mpr ⟨lw_p2, List.forall_mem_cons.mpr ⟨lw_p3, List.forall_mem_cons.mpr ⟨lw_p4, List.forall_mem_cons.mpr ⟨lw_p5, List.forall_mem_cons.mpr ⟨lw_p6, List.forall_mem_cons.mpr ⟨lw_p7, List.forall_mem_cons.mpr ⟨lw_p8, List.forall_mem_cons.mpr ⟨lw_p9, List.forall_mem_cons.mpr ⟨lw_p10, List.forall_mem_cons.mpr ⟨lw_p11, List.forall_mem_cons.mpr ⟨lw_p12, List.forall_mem_cons.mpr ⟨lw_p13, List.forall_mem_cons.mpr ⟨lw_p14, List.forall_mem_cons.mpr ⟨lw_p15, fun _ h => absurd h List.not_mem_nil⟩⟩⟩⟩⟩⟩⟩⟩⟩⟩⟩⟩⟩⟩⟩⟩
theorem lw_p16 : lw_okq (⟨"EchoesFirst", "peopleInEachSet", "()I"⟩, 8) := ⟨⟨by decide +kernel, by decide +kernel⟩, List.mem_of_getElem? (i := 11) (by decide +kernel), List.mem_of_getElem? (i := 450) (by decide +kernel), List.mem_of_getElem? (i := 451) (by decide +kernel)⟩
theorem lw_p17 : lw_okq (⟨"EchoesFirst", "setsInWhichHeMakes", "(II)J"⟩, 8) := ⟨⟨by decide +kernel, by decide +kernel⟩, List.mem_of_getElem? (i := 11) (by decide +kernel), List.mem_of_getElem? (i := 466) (by decide +kernel), List.mem_of_getElem? (i := 467) (by decide +kernel)⟩
theorem lw_p18 : lw_okq (⟨"EchoesFirst$Course", "remember", "(II)V"⟩, 12) := ⟨⟨by decide +kernel, by decide +kernel⟩, List.mem_of_getElem? (i := 118) (by decide +kernel), List.mem_of_getElem? (i := 481) (by decide +kernel), List.mem_of_getElem? (i := 482) (by decide +kernel)⟩
theorem lw_p19 : lw_okq (⟨"EchoesFirst$Course", "loseOldest", "()V"⟩, 12) := ⟨⟨by decide +kernel, by decide +kernel⟩, List.mem_of_getElem? (i := 118) (by decide +kernel), List.mem_of_getElem? (i := 485) (by decide +kernel), List.mem_of_getElem? (i := 486) (by decide +kernel)⟩
theorem lw_p20 : lw_okq (⟨"EchoesFirst", "dueBits", "()I"⟩, 8) := ⟨⟨by decide +kernel, by decide +kernel⟩, List.mem_of_getElem? (i := 11) (by decide +kernel), List.mem_of_getElem? (i := 522) (by decide +kernel), List.mem_of_getElem? (i := 523) (by decide +kernel)⟩
theorem lw_p21 : lw_okq (⟨"EchoesFirst", "isMadeByDone", "(I)Z"⟩, 8) := ⟨⟨by decide +kernel, by decide +kernel⟩, List.mem_of_getElem? (i := 11) (by decide +kernel), List.mem_of_getElem? (i := 526) (by decide +kernel), List.mem_of_getElem? (i := 527) (by decide +kernel)⟩
theorem lw_p22 : lw_okq (⟨"EchoesFirst", "pastBits", "()I"⟩, 8) := ⟨⟨by decide +kernel, by decide +kernel⟩, List.mem_of_getElem? (i := 11) (by decide +kernel), List.mem_of_getElem? (i := 530) (by decide +kernel), List.mem_of_getElem? (i := 531) (by decide +kernel)⟩
theorem lw_p23 : lw_okq (⟨"EchoesFirst", "lieBits", "()I"⟩, 8) := ⟨⟨by decide +kernel, by decide +kernel⟩, List.mem_of_getElem? (i := 11) (by decide +kernel), List.mem_of_getElem? (i := 534) (by decide +kernel), List.mem_of_getElem? (i := 535) (by decide +kernel)⟩
theorem lw_p24 : lw_okq (⟨"EchoesFirst", "playersOf", "(III)I"⟩, 8) := ⟨⟨by decide +kernel, by decide +kernel⟩, List.mem_of_getElem? (i := 11) (by decide +kernel), List.mem_of_getElem? (i := 550) (by decide +kernel), List.mem_of_getElem? (i := 551) (by decide +kernel)⟩
theorem lw_p25 : lw_okq (⟨"EchoesFirst", "someoneCould", "(III)Z"⟩, 8) := ⟨⟨by decide +kernel, by decide +kernel⟩, List.mem_of_getElem? (i := 11) (by decide +kernel), List.mem_of_getElem? (i := 574) (by decide +kernel), List.mem_of_getElem? (i := 575) (by decide +kernel)⟩
theorem lw_p26 : lw_okq (⟨"EchoesFirst", "markOfShout", "(I)I"⟩, 8) := ⟨⟨by decide +kernel, by decide +kernel⟩, List.mem_of_getElem? (i := 11) (by decide +kernel), List.mem_of_getElem? (i := 583) (by decide +kernel), List.mem_of_getElem? (i := 584) (by decide +kernel)⟩
theorem lw_p27 : lw_okq (⟨"EchoesFirst", "markOfSound", "(I)I"⟩, 8) := ⟨⟨by decide +kernel, by decide +kernel⟩, List.mem_of_getElem? (i := 11) (by decide +kernel), List.mem_of_getElem? (i := 588) (by decide +kernel), List.mem_of_getElem? (i := 589) (by decide +kernel)⟩
theorem lw_p28 : lw_okq (⟨"EchoesFirst", "markOfFall", "(I)I"⟩, 8) := ⟨⟨by decide +kernel, by decide +kernel⟩, List.mem_of_getElem? (i := 11) (by decide +kernel), List.mem_of_getElem? (i := 597) (by decide +kernel), List.mem_of_getElem? (i := 598) (by decide +kernel)⟩
theorem lw_p29 : lw_okq (⟨"EchoesFirst", "markOfName", "(I)I"⟩, 8) := ⟨⟨by decide +kernel, by decide +kernel⟩, List.mem_of_getElem? (i := 11) (by decide +kernel), List.mem_of_getElem? (i := 607) (by decide +kernel), List.mem_of_getElem? (i := 608) (by decide +kernel)⟩
theorem lw_p30 : lw_okq (⟨"EchoesFirst", "markOfShot", "(I)I"⟩, 8) := ⟨⟨by decide +kernel, by decide +kernel⟩, List.mem_of_getElem? (i := 11) (by decide +kernel), List.mem_of_getElem? (i := 612) (by decide +kernel), List.mem_of_getElem? (i := 613) (by decide +kernel)⟩
theorem lw_p31 : lw_okq (⟨"EchoesFirst", "markOfBell", "(I)I"⟩, 8) := ⟨⟨by decide +kernel, by decide +kernel⟩, List.mem_of_getElem? (i := 11) (by decide +kernel), List.mem_of_getElem? (i := 621) (by decide +kernel), List.mem_of_getElem? (i := 622) (by decide +kernel)⟩
def lw_privs_2 : List (MethodName × Nat) := [(⟨"EchoesFirst", "peopleInEachSet", "()I"⟩, 8), (⟨"EchoesFirst", "setsInWhichHeMakes", "(II)J"⟩, 8), (⟨"EchoesFirst$Course", "remember", "(II)V"⟩, 12), (⟨"EchoesFirst$Course", "loseOldest", "()V"⟩, 12), (⟨"EchoesFirst", "dueBits", "()I"⟩, 8), (⟨"EchoesFirst", "isMadeByDone", "(I)Z"⟩, 8), (⟨"EchoesFirst", "pastBits", "()I"⟩, 8), (⟨"EchoesFirst", "lieBits", "()I"⟩, 8), (⟨"EchoesFirst", "playersOf", "(III)I"⟩, 8), (⟨"EchoesFirst", "someoneCould", "(III)Z"⟩, 8), (⟨"EchoesFirst", "markOfShout", "(I)I"⟩, 8), (⟨"EchoesFirst", "markOfSound", "(I)I"⟩, 8), (⟨"EchoesFirst", "markOfFall", "(I)I"⟩, 8), (⟨"EchoesFirst", "markOfName", "(I)I"⟩, 8), (⟨"EchoesFirst", "markOfShot", "(I)I"⟩, 8), (⟨"EchoesFirst", "markOfBell", "(I)I"⟩, 8)]
theorem lw_r2 : ∀ q ∈ lw_privs_2, lw_okq q := List.forall_mem_cons.mpr ⟨lw_p16, List.forall_mem_cons.mpr ⟨lw_p17, List.forall_mem_cons.mpr ⟨lw_p18, List.forall_mem_cons.mpr ⟨lw_p19, List.forall_mem_cons.mpr ⟨lw_p20, List.forall_mem_cons.mpr ⟨lw_p21, List.forall_mem_cons.mpr ⟨lw_p22, List.forall_mem_cons.mpr ⟨lw_p23, List.forall_mem_cons.mpr ⟨lw_p24, List.forall_mem_cons.mpr ⟨lw_p25, List.forall_mem_cons.mpr ⟨lw_p26, List.forall_mem_cons.mpr ⟨lw_p27, List.forall_mem_cons.mpr ⟨lw_p28, List.forall_mem_cons.mpr ⟨lw_p29, List.forall_mem_cons.mpr ⟨lw_p30, List.forall_mem_cons.mpr ⟨lw_p31, fun _ h => absurd h List.not_mem_nil⟩⟩⟩⟩⟩⟩⟩⟩⟩⟩⟩⟩⟩⟩⟩⟩
theorem lw_p32 : lw_okq (⟨"EchoesFirst", "imageOf", "(I)LEchoesFirst$Course;"⟩, 8) := ⟨⟨by decide +kernel, by decide +kernel⟩, List.mem_of_getElem? (i := 11) (by decide +kernel), List.mem_of_getElem? (i := 630) (by decide +kernel), List.mem_of_getElem? (i := 631) (by decide +kernel)⟩
theorem lw_p33 : lw_okq (⟨"EchoesFirstModel", "next", "()V"⟩, 28) := ⟨⟨by decide +kernel, by decide +kernel⟩, List.mem_of_getElem? (i := 650) (by decide +kernel), List.mem_of_getElem? (i := 757) (by decide +kernel), List.mem_of_getElem? (i := 758) (by decide +kernel)⟩
theorem lw_p34 : lw_okq (⟨"EchoesFirstModel", "byteAt", "(I)I"⟩, 28) := ⟨⟨by decide +kernel, by decide +kernel⟩, List.mem_of_getElem? (i := 650) (by decide +kernel), List.mem_of_getElem? (i := 761) (by decide +kernel), List.mem_of_getElem? (i := 762) (by decide +kernel)⟩
theorem lw_p35 : lw_okq (⟨"EchoesFirstModel", "readItem", "(Z)V"⟩, 28) := ⟨⟨by decide +kernel, by decide +kernel⟩, List.mem_of_getElem? (i := 650) (by decide +kernel), List.mem_of_getElem? (i := 765) (by decide +kernel), List.mem_of_getElem? (i := 766) (by decide +kernel)⟩
theorem lw_p36 : lw_okq (⟨"EchoesFirstModel", "readPlaces", "(Z)V"⟩, 28) := ⟨⟨by decide +kernel, by decide +kernel⟩, List.mem_of_getElem? (i := 650) (by decide +kernel), List.mem_of_getElem? (i := 770) (by decide +kernel), List.mem_of_getElem? (i := 771) (by decide +kernel)⟩
theorem lw_p37 : lw_okq (⟨"EchoesFirstModel", "must", "(Z)V"⟩, 28) := ⟨⟨by decide +kernel, by decide +kernel⟩, List.mem_of_getElem? (i := 650) (by decide +kernel), List.mem_of_getElem? (i := 774) (by decide +kernel), List.mem_of_getElem? (i := 775) (by decide +kernel)⟩
theorem lw_p38 : lw_okq (⟨"EchoesFirstModel", "readInto", "([IIII)I"⟩, 28) := ⟨⟨by decide +kernel, by decide +kernel⟩, List.mem_of_getElem? (i := 650) (by decide +kernel), List.mem_of_getElem? (i := 778) (by decide +kernel), List.mem_of_getElem? (i := 779) (by decide +kernel)⟩
theorem lw_p39 : lw_okq (⟨"EchoesFirstModel", "readFar", "()V"⟩, 28) := ⟨⟨by decide +kernel, by decide +kernel⟩, List.mem_of_getElem? (i := 650) (by decide +kernel), List.mem_of_getElem? (i := 783) (by decide +kernel), List.mem_of_getElem? (i := 784) (by decide +kernel)⟩
theorem lw_p40 : lw_okq (⟨"EchoesFirstModel", "readPerson", "()V"⟩, 28) := ⟨⟨by decide +kernel, by decide +kernel⟩, List.mem_of_getElem? (i := 650) (by decide +kernel), List.mem_of_getElem? (i := 788) (by decide +kernel), List.mem_of_getElem? (i := 789) (by decide +kernel)⟩
theorem lw_p41 : lw_okq (⟨"EchoesFirstModel", "isPlace", "(I)Z"⟩, 28) := ⟨⟨by decide +kernel, by decide +kernel⟩, List.mem_of_getElem? (i := 650) (by decide +kernel), List.mem_of_getElem? (i := 799) (by decide +kernel), List.mem_of_getElem? (i := 800) (by decide +kernel)⟩
theorem lw_p42 : lw_okq (⟨"EchoesFirstModel", "farOf", "(II)I"⟩, 28) := ⟨⟨by decide +kernel, by decide +kernel⟩, List.mem_of_getElem? (i := 650) (by decide +kernel), List.mem_of_getElem? (i := 803) (by decide +kernel), List.mem_of_getElem? (i := 804) (by decide +kernel)⟩
theorem lw_p43 : lw_okq (⟨"EchoesFirstModel", "isPerson", "(I)Z"⟩, 28) := ⟨⟨by decide +kernel, by decide +kernel⟩, List.mem_of_getElem? (i := 650) (by decide +kernel), List.mem_of_getElem? (i := 811) (by decide +kernel), List.mem_of_getElem? (i := 812) (by decide +kernel)⟩
theorem lw_p44 : lw_okq (⟨"EchoesFirstModel", "whoOf", "(I)I"⟩, 28) := ⟨⟨by decide +kernel, by decide +kernel⟩, List.mem_of_getElem? (i := 650) (by decide +kernel), List.mem_of_getElem? (i := 833) (by decide +kernel), List.mem_of_getElem? (i := 834) (by decide +kernel)⟩
theorem lw_p45 : lw_okq (⟨"EchoesFirstModel", "isHeard", "(I)Z"⟩, 28) := ⟨⟨by decide +kernel, by decide +kernel⟩, List.mem_of_getElem? (i := 650) (by decide +kernel), List.mem_of_getElem? (i := 837) (by decide +kernel), List.mem_of_getElem? (i := 838) (by decide +kernel)⟩
theorem lw_p46 : lw_okq (⟨"EchoesFirstModel", "makesOf", "(III)I"⟩, 28) := ⟨⟨by decide +kernel, by decide +kernel⟩, List.mem_of_getElem? (i := 650) (by decide +kernel), List.mem_of_getElem? (i := 841) (by decide +kernel), List.mem_of_getElem? (i := 842) (by decide +kernel)⟩
theorem lw_p47 : lw_okq (⟨"EchoesFirstModel", "can", "(III)Z"⟩, 28) := ⟨⟨by decide +kernel, by decide +kernel⟩, List.mem_of_getElem? (i := 650) (by decide +kernel), List.mem_of_getElem? (i := 845) (by decide +kernel), List.mem_of_getElem? (i := 846) (by decide +kernel)⟩
def lw_privs_3 : List (MethodName × Nat) := [(⟨"EchoesFirst", "imageOf", "(I)LEchoesFirst$Course;"⟩, 8), (⟨"EchoesFirstModel", "next", "()V"⟩, 28), (⟨"EchoesFirstModel", "byteAt", "(I)I"⟩, 28), (⟨"EchoesFirstModel", "readItem", "(Z)V"⟩, 28), (⟨"EchoesFirstModel", "readPlaces", "(Z)V"⟩, 28), (⟨"EchoesFirstModel", "must", "(Z)V"⟩, 28), (⟨"EchoesFirstModel", "readInto", "([IIII)I"⟩, 28), (⟨"EchoesFirstModel", "readFar", "()V"⟩, 28), (⟨"EchoesFirstModel", "readPerson", "()V"⟩, 28), (⟨"EchoesFirstModel", "isPlace", "(I)Z"⟩, 28), (⟨"EchoesFirstModel", "farOf", "(II)I"⟩, 28), (⟨"EchoesFirstModel", "isPerson", "(I)Z"⟩, 28), (⟨"EchoesFirstModel", "whoOf", "(I)I"⟩, 28), (⟨"EchoesFirstModel", "isHeard", "(I)Z"⟩, 28), (⟨"EchoesFirstModel", "makesOf", "(III)I"⟩, 28), (⟨"EchoesFirstModel", "can", "(III)Z"⟩, 28)]
theorem lw_r3 : ∀ q ∈ lw_privs_3, lw_okq q := List.forall_mem_cons.mpr ⟨lw_p32, List.forall_mem_cons.mpr ⟨lw_p33, List.forall_mem_cons.mpr ⟨lw_p34, List.forall_mem_cons.mpr ⟨lw_p35, List.forall_mem_cons.mpr ⟨lw_p36, List.forall_mem_cons.mpr ⟨lw_p37, List.forall_mem_cons.mpr ⟨lw_p38, List.forall_mem_cons.mpr ⟨lw_p39, List.forall_mem_cons.mpr ⟨lw_p40, List.forall_mem_cons.mpr ⟨lw_p41, List.forall_mem_cons.mpr ⟨lw_p42, List.forall_mem_cons.mpr ⟨lw_p43, List.forall_mem_cons.mpr ⟨lw_p44, List.forall_mem_cons.mpr ⟨lw_p45, List.forall_mem_cons.mpr ⟨lw_p46, List.forall_mem_cons.mpr ⟨lw_p47, fun _ h => absurd h List.not_mem_nil⟩⟩⟩⟩⟩⟩⟩⟩⟩⟩⟩⟩⟩⟩⟩⟩
theorem lw_p48 : lw_okq (⟨"EchoesFirstModel", "fits", "(III)I"⟩, 28) := ⟨⟨by decide +kernel, by decide +kernel⟩, List.mem_of_getElem? (i := 650) (by decide +kernel), List.mem_of_getElem? (i := 849) (by decide +kernel), List.mem_of_getElem? (i := 850) (by decide +kernel)⟩
theorem lw_p49 : lw_okq (⟨"EchoesFirstModel", "allHeard", "()I"⟩, 28) := ⟨⟨by decide +kernel, by decide +kernel⟩, List.mem_of_getElem? (i := 650) (by decide +kernel), List.mem_of_getElem? (i := 853) (by decide +kernel), List.mem_of_getElem? (i := 854) (by decide +kernel)⟩
theorem lw_p50 : lw_okq (⟨"EchoesFirstModel", "findLeast", "()Z"⟩, 28) := ⟨⟨by decide +kernel, by decide +kernel⟩, List.mem_of_getElem? (i := 650) (by decide +kernel), List.mem_of_getElem? (i := 865) (by decide +kernel), List.mem_of_getElem? (i := 866) (by decide +kernel)⟩
theorem lw_p51 : lw_okq (⟨"EchoesFirstModel", "findDeeds", "()V"⟩, 28) := ⟨⟨by decide +kernel, by decide +kernel⟩, List.mem_of_getElem? (i := 650) (by decide +kernel), List.mem_of_getElem? (i := 869) (by decide +kernel), List.mem_of_getElem? (i := 870) (by decide +kernel)⟩
theorem lw_p52 : lw_okq (⟨"EchoesFirstModel", "findWays", "(III)V"⟩, 28) := ⟨⟨by decide +kernel, by decide +kernel⟩, List.mem_of_getElem? (i := 650) (by decide +kernel), List.mem_of_getElem? (i := 873) (by decide +kernel), List.mem_of_getElem? (i := 874) (by decide +kernel)⟩
theorem lw_p53 : lw_okq (⟨"EchoesFirstModel", "waysWithout", "(II)I"⟩, 28) := ⟨⟨by decide +kernel, by decide +kernel⟩, List.mem_of_getElem? (i := 650) (by decide +kernel), List.mem_of_getElem? (i := 877) (by decide +kernel), List.mem_of_getElem? (i := 878) (by decide +kernel)⟩
theorem lw_p54 : lw_okq (⟨"EchoesFirstModel", "goesOn", "(III)Z"⟩, 28) := ⟨⟨by decide +kernel, by decide +kernel⟩, List.mem_of_getElem? (i := 650) (by decide +kernel), List.mem_of_getElem? (i := 885) (by decide +kernel), List.mem_of_getElem? (i := 886) (by decide +kernel)⟩
theorem lw_p55 : lw_okq (⟨"EchoesFirstModel", "knows", "(II)V"⟩, 28) := ⟨⟨by decide +kernel, by decide +kernel⟩, List.mem_of_getElem? (i := 650) (by decide +kernel), List.mem_of_getElem? (i := 897) (by decide +kernel), List.mem_of_getElem? (i := 898) (by decide +kernel)⟩
theorem lw_p56 : lw_okq (⟨"EchoesFirstModel", "due", "()I"⟩, 28) := ⟨⟨by decide +kernel, by decide +kernel⟩, List.mem_of_getElem? (i := 650) (by decide +kernel), List.mem_of_getElem? (i := 921) (by decide +kernel), List.mem_of_getElem? (i := 922) (by decide +kernel)⟩
theorem lw_p57 : lw_okq (⟨"EchoesFirstModel", "fitsOf", "(I)I"⟩, 28) := ⟨⟨by decide +kernel, by decide +kernel⟩, List.mem_of_getElem? (i := 650) (by decide +kernel), List.mem_of_getElem? (i := 925) (by decide +kernel), List.mem_of_getElem? (i := 926) (by decide +kernel)⟩
theorem lw_p58 : lw_okq (⟨"EchoesFirstModel", "past", "()I"⟩, 28) := ⟨⟨by decide +kernel, by decide +kernel⟩, List.mem_of_getElem? (i := 650) (by decide +kernel), List.mem_of_getElem? (i := 929) (by decide +kernel), List.mem_of_getElem? (i := 930) (by decide +kernel)⟩
theorem lw_p59 : lw_okq (⟨"EchoesFirstModel", "lies", "()I"⟩, 28) := ⟨⟨by decide +kernel, by decide +kernel⟩, List.mem_of_getElem? (i := 650) (by decide +kernel), List.mem_of_getElem? (i := 933) (by decide +kernel), List.mem_of_getElem? (i := 934) (by decide +kernel)⟩
theorem lw_p60 : lw_okq (⟨"EchoesFirstModel", "beginOf", "(IIII)I"⟩, 28) := ⟨⟨by decide +kernel, by decide +kernel⟩, List.mem_of_getElem? (i := 650) (by decide +kernel), List.mem_of_getElem? (i := 945) (by decide +kernel), List.mem_of_getElem? (i := 946) (by decide +kernel)⟩
theorem lw_p61 : lw_okq (⟨"EchoesFirstModel", "isRow", "(I)Z"⟩, 28) := ⟨⟨by decide +kernel, by decide +kernel⟩, List.mem_of_getElem? (i := 650) (by decide +kernel), List.mem_of_getElem? (i := 957) (by decide +kernel), List.mem_of_getElem? (i := 958) (by decide +kernel)⟩
theorem lw_p62 : lw_okq (⟨"EchoesFirstModel", "soundMark", "(I)I"⟩, 28) := ⟨⟨by decide +kernel, by decide +kernel⟩, List.mem_of_getElem? (i := 650) (by decide +kernel), List.mem_of_getElem? (i := 971) (by decide +kernel), List.mem_of_getElem? (i := 972) (by decide +kernel)⟩
theorem lw_p63 : lw_okq (⟨"EchoesFirstModel", "shoutMark", "(I)I"⟩, 28) := ⟨⟨by decide +kernel, by decide +kernel⟩, List.mem_of_getElem? (i := 650) (by decide +kernel), List.mem_of_getElem? (i := 975) (by decide +kernel), List.mem_of_getElem? (i := 976) (by decide +kernel)⟩
def lw_privs_4 : List (MethodName × Nat) := [(⟨"EchoesFirstModel", "fits", "(III)I"⟩, 28), (⟨"EchoesFirstModel", "allHeard", "()I"⟩, 28), (⟨"EchoesFirstModel", "findLeast", "()Z"⟩, 28), (⟨"EchoesFirstModel", "findDeeds", "()V"⟩, 28), (⟨"EchoesFirstModel", "findWays", "(III)V"⟩, 28), (⟨"EchoesFirstModel", "waysWithout", "(II)I"⟩, 28), (⟨"EchoesFirstModel", "goesOn", "(III)Z"⟩, 28), (⟨"EchoesFirstModel", "knows", "(II)V"⟩, 28), (⟨"EchoesFirstModel", "due", "()I"⟩, 28), (⟨"EchoesFirstModel", "fitsOf", "(I)I"⟩, 28), (⟨"EchoesFirstModel", "past", "()I"⟩, 28), (⟨"EchoesFirstModel", "lies", "()I"⟩, 28), (⟨"EchoesFirstModel", "beginOf", "(IIII)I"⟩, 28), (⟨"EchoesFirstModel", "isRow", "(I)Z"⟩, 28), (⟨"EchoesFirstModel", "soundMark", "(I)I"⟩, 28), (⟨"EchoesFirstModel", "shoutMark", "(I)I"⟩, 28)]
theorem lw_r4 : ∀ q ∈ lw_privs_4, lw_okq q := List.forall_mem_cons.mpr ⟨lw_p48, List.forall_mem_cons.mpr ⟨lw_p49, List.forall_mem_cons.mpr ⟨lw_p50, List.forall_mem_cons.mpr ⟨lw_p51, List.forall_mem_cons.mpr ⟨lw_p52, List.forall_mem_cons.mpr ⟨lw_p53, List.forall_mem_cons.mpr ⟨lw_p54, List.forall_mem_cons.mpr ⟨lw_p55, List.forall_mem_cons.mpr ⟨lw_p56, List.forall_mem_cons.mpr ⟨lw_p57, List.forall_mem_cons.mpr ⟨lw_p58, List.forall_mem_cons.mpr ⟨lw_p59, List.forall_mem_cons.mpr ⟨lw_p60, List.forall_mem_cons.mpr ⟨lw_p61, List.forall_mem_cons.mpr ⟨lw_p62, List.forall_mem_cons.mpr ⟨lw_p63, fun _ h => absurd h List.not_mem_nil⟩⟩⟩⟩⟩⟩⟩⟩⟩⟩⟩⟩⟩⟩⟩⟩
theorem lw_p64 : lw_okq (⟨"EchoesFirstModel", "fallMark", "(I)I"⟩, 28) := ⟨⟨by decide +kernel, by decide +kernel⟩, List.mem_of_getElem? (i := 650) (by decide +kernel), List.mem_of_getElem? (i := 980) (by decide +kernel), List.mem_of_getElem? (i := 981) (by decide +kernel)⟩
theorem lw_p65 : lw_okq (⟨"EchoesFirstModel", "shotMark", "(I)I"⟩, 28) := ⟨⟨by decide +kernel, by decide +kernel⟩, List.mem_of_getElem? (i := 650) (by decide +kernel), List.mem_of_getElem? (i := 986) (by decide +kernel), List.mem_of_getElem? (i := 987) (by decide +kernel)⟩
def lw_privs_5 : List (MethodName × Nat) := [(⟨"EchoesFirstModel", "fallMark", "(I)I"⟩, 28), (⟨"EchoesFirstModel", "shotMark", "(I)I"⟩, 28)]
theorem lw_r5 : ∀ q ∈ lw_privs_5, lw_okq q := List.forall_mem_cons.mpr ⟨lw_p64, List.forall_mem_cons.mpr ⟨lw_p65, fun _ h => absurd h List.not_mem_nil⟩⟩
def lw_privs : List (MethodName × Nat) := lw_privs_1 ++ (lw_privs_2 ++ (lw_privs_3 ++ (lw_privs_4 ++ (lw_privs_5))))
def lw_tbl : List Cond := k2_sels lw_privs ++ tables_1
theorem lw_privs_ok : ∀ q ∈ lw_privs, lw_okq q := by
  show ∀ q ∈ lw_privs_1 ++ (lw_privs_2 ++ (lw_privs_3 ++ (lw_privs_4 ++ (lw_privs_5)))), lw_okq q
  exact List.forall_mem_append.mpr ⟨lw_r1, List.forall_mem_append.mpr ⟨lw_r2, List.forall_mem_append.mpr ⟨lw_r3, List.forall_mem_append.mpr ⟨lw_r4, lw_r5⟩⟩⟩⟩

/-! ===== BEGIN words of one list among another's, by their places ===== -/
theorem goodIn_r {big : List Cond} (ws : List Cond) (ps : List Nat) (hp : ws = ps.filterMap (fun i => big[i]?)) (h : ws.all goodWord = true) : GoodIn big ws := by
  intro w hw
  have h1 := List.all_eq_true.mp h w hw
  rw [hp] at hw
  obtain ⟨i, -, hi⟩ := List.mem_filterMap.mp hw
  have hm : w ∈ big := by first | exact List.mem_of_getElem? hi | exact List.getElem?_mem hi
  exact ⟨hm, good_of_word h1⟩
theorem goodIn_app {big a b : List Cond} (ha : GoodIn big a) (hb : GoodIn big b) : GoodIn big (a ++ b) := fun w h => (List.mem_append.mp h).elim (ha w) (hb w)
theorem goodIn_ca {big a b : List Cond} {c : Cond} (ha : GoodIn big (c :: a)) (hb : GoodIn big b) : GoodIn big (c :: (a ++ b)) := fun w h => (List.mem_cons.mp h).elim (fun e => ha w (List.mem_cons.mpr (Or.inl e))) (fun h => (List.mem_append.mp h).elim (fun h => ha w (List.mem_cons.mpr (Or.inr h))) (hb w))
theorem goodIn_sub {big ws : List Cond} (hm : ∀ w ∈ ws, w ∈ big) (h : ws.all goodWord = true) : GoodIn big ws := fun w hw => ⟨hm w hw, good_of_word (List.all_eq_true.mp h w hw)⟩
/-! ===== END ===== -/

/-! ===== BEGIN printed: names, fields, word lists, decode rows ===== -/
def RX0 : String := "EchoesFirst$Course"
def TX0 : u_T := fun k => match k with
  | 0 => ("EchoesFirst$Course", "isKept", "Z", false)
  | 1 => ("EchoesFirst$Course", "now", "I", false)
  | 2 => ("EchoesFirst$Course", "doneCount", "I", false)
  | 3 => ("EchoesFirst$Course", "undoCount", "I", false)
  | 4 => ("EchoesFirst$Course", "donePerson", "[I", true)
  | 5 => ("EchoesFirst$Course", "doneSound", "[I", true)
  | 6 => ("EchoesFirst$Course", "doneSecond", "[I", true)
  | 7 => ("EchoesFirst$Course", "donePlace", "[I", true)
  | 8 => ("EchoesFirst$Course", "place", "[I", true)
  | 9 => ("EchoesFirst$Course", "undoWhat", "[I", true)
  | 10 => ("EchoesFirst$Course", "undoPerson", "[I", true)
  | _ => ("EchoesFirst$Course", "undoPlace", "[I", true)
def tyX0 : Nat → FieldType := fun k => match k with
  | 0 => .boolean
  | 1 => .int
  | 2 => .int
  | 3 => .int
  | 4 => .array .int
  | 5 => .array .int
  | 6 => .array .int
  | 7 => .array .int
  | 8 => .array .int
  | 9 => .array .int
  | 10 => .array .int
  | _ => .array .int
abbrev wsX00 : List Cond := u_ws RX0 TX0 12
theorem nmX0 : ∀ a, a < 12 → ∀ b, b < 12 → a ≠ b → (TX0 a).2.1 ≠ (TX0 b).2.1 := by decide +kernel
theorem tyX0_ok : ∀ k, k < 12 → parseFieldDescriptor (TX0 k).2.2.1 = some (tyX0 k) := by decide +kernel
abbrev cX0_init : ByteArray := prog_2_method_1_code
def yX0_init : MethodName := ⟨RX0, "<init>", "()V"⟩
abbrev cX0_startIn : ByteArray := prog_2_method_2_code
def yX0_startIn : MethodName := ⟨RX0, "startIn", "(LEchoesFirst$Valley;)V"⟩
abbrev cX0_copyFrom : ByteArray := prog_2_method_3_code
def yX0_copyFrom : MethodName := ⟨RX0, "copyFrom", "(LEchoesFirst$Course;)V"⟩
abbrev cX0_placeOf : ByteArray := prog_2_method_4_code
def yX0_placeOf : MethodName := ⟨RX0, "placeOf", "(I)I"⟩
abbrev cX0_passSecond : ByteArray := prog_2_method_5_code
def yX0_passSecond : MethodName := ⟨RX0, "passSecond", "()V"⟩
abbrev cX0_addDone : ByteArray := prog_2_method_6_code
def yX0_addDone : MethodName := ⟨RX0, "addDone", "(II)V"⟩
abbrev cX0_move : ByteArray := prog_2_method_7_code
def yX0_move : MethodName := ⟨RX0, "move", "(II)V"⟩
abbrev cX0_remember : ByteArray := prog_2_method_8_code
def yX0_remember : MethodName := ⟨RX0, "remember", "(II)V"⟩
abbrev cX0_loseOldest : ByteArray := prog_2_method_9_code
def yX0_loseOldest : MethodName := ⟨RX0, "loseOldest", "()V"⟩
abbrev cX0_takeBack : ByteArray := prog_2_method_10_code
def yX0_takeBack : MethodName := ⟨RX0, "takeBack", "()V"⟩
abbrev cX0_timesDone : ByteArray := prog_2_method_11_code
def yX0_timesDone : MethodName := ⟨RX0, "timesDone", "(I)I"⟩
def RX1 : String := "EchoesFirst$DeedSets"
def TX1 : u_T := fun k => match k with
  | 0 => ("EchoesFirst$DeedSets", "size", "I", false)
  | 1 => ("EchoesFirst$DeedSets", "goals", "I", false)
  | 2 => ("EchoesFirst$DeedSets", "numbers", "[I", true)
  | 3 => ("EchoesFirst$DeedSets", "reached", "[I", true)
  | 4 => ("EchoesFirst$DeedSets", "fewest", "[I", true)
  | 5 => ("EchoesFirst$DeedSets", "ways", "[J", true)
  | _ => ("EchoesFirst$DeedSets", "firstRow", "[J", true)
def tyX1 : Nat → FieldType := fun k => match k with
  | 0 => .int
  | 1 => .int
  | 2 => .array .int
  | 3 => .array .int
  | 4 => .array .int
  | 5 => .array .long
  | _ => .array .long
abbrev wsX10 : List Cond := u_ws RX1 TX1 7
theorem nmX1 : ∀ a, a < 7 → ∀ b, b < 7 → a ≠ b → (TX1 a).2.1 ≠ (TX1 b).2.1 := by decide +kernel
theorem tyX1_ok : ∀ k, k < 7 → parseFieldDescriptor (TX1 k).2.2.1 = some (tyX1 k) := by decide +kernel
abbrev cX1_init : ByteArray := prog_3_method_1_code
def yX1_init : MethodName := ⟨RX1, "<init>", "()V"⟩
abbrev cX1_empty : ByteArray := prog_3_method_2_code
def yX1_empty : MethodName := ⟨RX1, "empty", "()V"⟩
abbrev cX1_addGoal : ByteArray := prog_3_method_3_code
def yX1_addGoal : MethodName := ⟨RX1, "addGoal", "()I"⟩
abbrev cX1_addDeed : ByteArray := prog_3_method_4_code
def yX1_addDeed : MethodName := ⟨RX1, "addDeed", "(II)V"⟩
abbrev cX1_solve : ByteArray := prog_3_method_5_code
def yX1_solve : MethodName := ⟨RX1, "solve", "(II)V"⟩
abbrev cX1_letIn : ByteArray := prog_3_method_6_code
def yX1_letIn : MethodName := ⟨RX1, "letIn", "(I)V"⟩
abbrev cX1_seenGoals : ByteArray := prog_3_method_7_code
def yX1_seenGoals : MethodName := ⟨RX1, "seenGoals", "()I"⟩
abbrev cX1_areThere : ByteArray := prog_3_method_8_code
def yX1_areThere : MethodName := ⟨RX1, "areThere", "()Z"⟩
abbrev cX1_sizeOfEach : ByteArray := prog_3_method_9_code
def yX1_sizeOfEach : MethodName := ⟨RX1, "sizeOfEach", "()I"⟩
abbrev cX1_howMany : ByteArray := prog_3_method_10_code
def yX1_howMany : MethodName := ⟨RX1, "howMany", "()J"⟩
abbrev cX1_numberInFirst : ByteArray := prog_3_method_11_code
def yX1_numberInFirst : MethodName := ⟨RX1, "numberInFirst", "(I)I"⟩
def RX2 : String := "EchoesFirst$Log"
def TX2 : u_T := fun k => match k with
  | 0 => ("EchoesFirst$Log", "size", "I", false)
  | 1 => ("EchoesFirst$Log", "seconds", "[I", true)
  | 2 => ("EchoesFirst$Log", "places", "[I", true)
  | 3 => ("EchoesFirst$Log", "sounds", "[I", true)
  | _ => ("EchoesFirst$Log", "heardOnes", "[I", true)
def tyX2 : Nat → FieldType := fun k => match k with
  | 0 => .int
  | 1 => .array .int
  | 2 => .array .int
  | 3 => .array .int
  | _ => .array .int
abbrev wsX20 : List Cond := u_ws RX2 TX2 5
theorem nmX2 : ∀ a, a < 5 → ∀ b, b < 5 → a ≠ b → (TX2 a).2.1 ≠ (TX2 b).2.1 := by decide +kernel
theorem tyX2_ok : ∀ k, k < 5 → parseFieldDescriptor (TX2 k).2.2.1 = some (tyX2 k) := by decide +kernel
abbrev cX2_init : ByteArray := prog_4_method_1_code
def yX2_init : MethodName := ⟨RX2, "<init>", "()V"⟩
abbrev cX2_has : ByteArray := prog_4_method_2_code
def yX2_has : MethodName := ⟨RX2, "has", "(I)Z"⟩
abbrev cX2_add : ByteArray := prog_4_method_3_code
def yX2_add : MethodName := ⟨RX2, "add", "(IIII)V"⟩
abbrev cX2_isHeard : ByteArray := prog_4_method_4_code
def yX2_isHeard : MethodName := ⟨RX2, "isHeard", "(I)Z"⟩
abbrev cX2_timesHeard : ByteArray := prog_4_method_5_code
def yX2_timesHeard : MethodName := ⟨RX2, "timesHeard", "(I)I"⟩
def RX3 : String := "EchoesFirst$Text"
def TX3 : u_T := fun k => match k with
  | 0 => ("EchoesFirst$Text", "length", "I", false)
  | 1 => ("EchoesFirst$Text", "draft", "LEchoesFirst$Valley;", true)
  | 2 => ("EchoesFirst$Text", "bytes", "[I", true)
  | 3 => ("EchoesFirst$Text", "start", "I", false)
  | 4 => ("EchoesFirst$Text", "next", "I", false)
  | 5 => ("EchoesFirst$Text", "token", "I", false)
  | _ => ("EchoesFirst$Text", "number", "I", false)
def tyX3 : Nat → FieldType := fun k => match k with
  | 0 => .int
  | 1 => .object "EchoesFirst$Valley"
  | 2 => .array .int
  | 3 => .int
  | 4 => .int
  | 5 => .int
  | _ => .int
abbrev wsX30 : List Cond := u_ws RX3 TX3 7
theorem nmX3 : ∀ a, a < 7 → ∀ b, b < 7 → a ≠ b → (TX3 a).2.1 ≠ (TX3 b).2.1 := by decide +kernel
theorem tyX3_ok : ∀ k, k < 7 → parseFieldDescriptor (TX3 k).2.2.1 = some (tyX3 k) := by decide +kernel
abbrev cX3_init : ByteArray := prog_5_method_1_code
def yX3_init : MethodName := ⟨RX3, "<init>", "()V"⟩
abbrev cX3_add : ByteArray := prog_5_method_2_code
def yX3_add : MethodName := ⟨RX3, "add", "(I)V"⟩
abbrev cX3_read : ByteArray := prog_5_method_3_code
def yX3_read : MethodName := ⟨RX3, "read", "()I"⟩
abbrev cX3_readItem : ByteArray := prog_5_method_4_code
def yX3_readItem : MethodName := ⟨RX3, "readItem", "(I)Z"⟩
abbrev cX3_readPlaces : ByteArray := prog_5_method_5_code
def yX3_readPlaces : MethodName := ⟨RX3, "readPlaces", "()Z"⟩
abbrev cX3_readFar : ByteArray := prog_5_method_6_code
def yX3_readFar : MethodName := ⟨RX3, "readFar", "()Z"⟩
abbrev cX3_readPerson : ByteArray := prog_5_method_7_code
def yX3_readPerson : MethodName := ⟨RX3, "readPerson", "()Z"⟩
abbrev cX3_readSounds : ByteArray := prog_5_method_8_code
def yX3_readSounds : MethodName := ⟨RX3, "readSounds", "()I"⟩
abbrev cX3_stepToNumber : ByteArray := prog_5_method_9_code
def yX3_stepToNumber : MethodName := ⟨RX3, "stepToNumber", "(II)Z"⟩
abbrev cX3_stepToStop : ByteArray := prog_5_method_10_code
def yX3_stepToStop : MethodName := ⟨RX3, "stepToStop", "()Z"⟩
abbrev cX3_step : ByteArray := prog_5_method_11_code
def yX3_step : MethodName := ⟨RX3, "step", "()V"⟩
abbrev cX3_kindOf : ByteArray := prog_5_method_12_code
def yX3_kindOf : MethodName := ⟨RX3, "kindOf", "(I)I"⟩
abbrev cX3_valueOf : ByteArray := prog_5_method_13_code
def yX3_valueOf : MethodName := ⟨RX3, "valueOf", "(III)I"⟩
def RX4 : String := "EchoesFirst$Valley"
def TX4 : u_T := fun k => match k with
  | 0 => ("EchoesFirst$Valley", "places", "I", false)
  | 1 => ("EchoesFirst$Valley", "people", "I", false)
  | 2 => ("EchoesFirst$Valley", "seconds", "[I", true)
  | 3 => ("EchoesFirst$Valley", "home", "[I", true)
  | 4 => ("EchoesFirst$Valley", "can", "[I", true)
  | 5 => ("EchoesFirst$Valley", "from", "[I", true)
  | _ => ("EchoesFirst$Valley", "to", "[I", true)
def tyX4 : Nat → FieldType := fun k => match k with
  | 0 => .int
  | 1 => .int
  | 2 => .array .int
  | 3 => .array .int
  | 4 => .array .int
  | 5 => .array .int
  | _ => .array .int
abbrev wsX40 : List Cond := u_ws RX4 TX4 7
theorem nmX4 : ∀ a, a < 7 → ∀ b, b < 7 → a ≠ b → (TX4 a).2.1 ≠ (TX4 b).2.1 := by decide +kernel
theorem tyX4_ok : ∀ k, k < 7 → parseFieldDescriptor (TX4 k).2.2.1 = some (tyX4 k) := by decide +kernel
abbrev cX4_init : ByteArray := prog_6_method_1_code
def yX4_init : MethodName := ⟨RX4, "<init>", "()V"⟩
abbrev cX4_becomeAsAtFirst : ByteArray := prog_6_method_2_code
def yX4_becomeAsAtFirst : MethodName := ⟨RX4, "becomeAsAtFirst", "()V"⟩
abbrev cX4_copyFrom : ByteArray := prog_6_method_3_code
def yX4_copyFrom : MethodName := ⟨RX4, "copyFrom", "(LEchoesFirst$Valley;)V"⟩
abbrev cX4_isPlace : ByteArray := prog_6_method_4_code
def yX4_isPlace : MethodName := ⟨RX4, "isPlace", "(I)Z"⟩
abbrev cX4_isPerson : ByteArray := prog_6_method_5_code
def yX4_isPerson : MethodName := ⟨RX4, "isPerson", "(I)Z"⟩
abbrev cX4_secondsBetween : ByteArray := prog_6_method_6_code
def yX4_secondsBetween : MethodName := ⟨RX4, "secondsBetween", "(II)I"⟩
abbrev cX4_setBetween : ByteArray := prog_6_method_7_code
def yX4_setBetween : MethodName := ⟨RX4, "setBetween", "(III)V"⟩
abbrev cX4_addPerson : ByteArray := prog_6_method_8_code
def yX4_addPerson : MethodName := ⟨RX4, "addPerson", "(IIII)V"⟩
abbrev cX4_canMake : ByteArray := prog_6_method_9_code
def yX4_canMake : MethodName := ⟨RX4, "canMake", "(II)Z"⟩
abbrev cX4_isThere : ByteArray := prog_6_method_10_code
def yX4_isThere : MethodName := ⟨RX4, "isThere", "(II)Z"⟩
abbrev cX4_howManyCan : ByteArray := prog_6_method_11_code
def yX4_howManyCan : MethodName := ⟨RX4, "howManyCan", "(I)I"⟩
def RX5 : String := "EchoesFirst"
def TX5 : u_T := fun k => match k with
  | 0 => ("EchoesFirst", "text", "LEchoesFirst$Text;", true)
  | 1 => ("EchoesFirst", "told", "LEchoesFirst$Valley;", true)
  | 2 => ("EchoesFirst", "log", "LEchoesFirst$Log;", true)
  | 3 => ("EchoesFirst", "course", "LEchoesFirst$Course;", true)
  | 4 => ("EchoesFirst", "imageZero", "LEchoesFirst$Course;", true)
  | 5 => ("EchoesFirst", "imageOne", "LEchoesFirst$Course;", true)
  | 6 => ("EchoesFirst", "sets", "LEchoesFirst$DeedSets;", true)
  | _ => ("EchoesFirst", "asked", "J", false)
def tyX5 : Nat → FieldType := fun k => match k with
  | 0 => .object "EchoesFirst$Text"
  | 1 => .object "EchoesFirst$Valley"
  | 2 => .object "EchoesFirst$Log"
  | 3 => .object "EchoesFirst$Course"
  | 4 => .object "EchoesFirst$Course"
  | 5 => .object "EchoesFirst$Course"
  | 6 => .object "EchoesFirst$DeedSets"
  | _ => .long
abbrev wsX50 : List Cond := u_ws RX5 TX5 8
theorem nmX5 : ∀ a, a < 8 → ∀ b, b < 8 → a ≠ b → (TX5 a).2.1 ≠ (TX5 b).2.1 := by decide +kernel
theorem tyX5_ok : ∀ k, k < 8 → parseFieldDescriptor (TX5 k).2.2.1 = some (tyX5 k) := by decide +kernel
abbrev cX5_init : ByteArray := prog_1_method_1_code
def yX5_init : MethodName := ⟨RX5, "<init>", "()V"⟩
abbrev cX5_type : ByteArray := prog_1_method_2_code
def yX5_type : MethodName := ⟨RX5, "type", "(I)I"⟩
abbrev cX5_clear : ByteArray := prog_1_method_3_code
def yX5_clear : MethodName := ⟨RX5, "clear", "()I"⟩
abbrev cX5_valley : ByteArray := prog_1_method_4_code
def yX5_valley : MethodName := ⟨RX5, "valley", "()I"⟩
abbrev cX5_far : ByteArray := prog_1_method_5_code
def yX5_far : MethodName := ⟨RX5, "far", "(II)I"⟩
abbrev cX5_person : ByteArray := prog_1_method_6_code
def yX5_person : MethodName := ⟨RX5, "person", "(II)I"⟩
abbrev cX5_heard : ByteArray := prog_1_method_7_code
def yX5_heard : MethodName := ⟨RX5, "heard", "(IIII)I"⟩
abbrev cX5_forget : ByteArray := prog_1_method_8_code
def yX5_forget : MethodName := ⟨RX5, "forget", "()I"⟩
abbrev cX5_who : ByteArray := prog_1_method_9_code
def yX5_who : MethodName := ⟨RX5, "who", "(I)I"⟩
abbrev cX5_nobody : ByteArray := prog_1_method_10_code
def yX5_nobody : MethodName := ⟨RX5, "nobody", "()I"⟩
abbrev cX5_deeds : ByteArray := prog_1_method_11_code
def yX5_deeds : MethodName := ⟨RX5, "deeds", "(I)I"⟩
abbrev cX5_first : ByteArray := prog_1_method_12_code
def yX5_first : MethodName := ⟨RX5, "first", "(I)I"⟩
abbrev cX5_odds : ByteArray := prog_1_method_13_code
def yX5_odds : MethodName := ⟨RX5, "odds", "(III)I"⟩
abbrev cX5_second : ByteArray := prog_1_method_14_code
def yX5_second : MethodName := ⟨RX5, "second", "()I"⟩
abbrev cX5_makes : ByteArray := prog_1_method_15_code
def yX5_makes : MethodName := ⟨RX5, "makes", "(II)I"⟩
abbrev cX5_moves : ByteArray := prog_1_method_16_code
def yX5_moves : MethodName := ⟨RX5, "moves", "(II)I"⟩
abbrev cX5_undo : ByteArray := prog_1_method_17_code
def yX5_undo : MethodName := ⟨RX5, "undo", "()I"⟩
abbrev cX5_done : ByteArray := prog_1_method_18_code
def yX5_done : MethodName := ⟨RX5, "done", "(II)I"⟩
abbrev cX5_now : ByteArray := prog_1_method_19_code
def yX5_now : MethodName := ⟨RX5, "now", "(I)I"⟩
abbrev cX5_sit : ByteArray := prog_1_method_20_code
def yX5_sit : MethodName := ⟨RX5, "sit", "(I)I"⟩
abbrev cX5_begin : ByteArray := prog_1_method_21_code
def yX5_begin : MethodName := ⟨RX5, "begin", "(IIII)I"⟩
abbrev cX5_together : ByteArray := prog_1_method_22_code
def yX5_together : MethodName := ⟨RX5, "together", "(III)I"⟩
abbrev cX5_played : ByteArray := prog_1_method_23_code
def yX5_played : MethodName := ⟨RX5, "played", "(III)I"⟩
abbrev cX5_sure : ByteArray := prog_1_method_24_code
def yX5_sure : MethodName := ⟨RX5, "sure", "(II)I"⟩
abbrev cX5_mark : ByteArray := prog_1_method_25_code
def yX5_mark : MethodName := ⟨RX5, "mark", "(II)I"⟩
abbrev cX5_keep : ByteArray := prog_1_method_26_code
def yX5_keep : MethodName := ⟨RX5, "keep", "(I)I"⟩
abbrev cX5_back : ByteArray := prog_1_method_27_code
def yX5_back : MethodName := ⟨RX5, "back", "(I)I"⟩
abbrev cX5_count : ByteArray := prog_1_method_28_code
def yX5_count : MethodName := ⟨RX5, "count", "(I)I"⟩
abbrev cX5_trace : ByteArray := prog_1_method_29_code
def yX5_trace : MethodName := ⟨RX5, "trace", "()J"⟩
abbrev cX5_isWithin : ByteArray := prog_1_method_30_code
def yX5_isWithin : MethodName := ⟨RX5, "isWithin", "(II)Z"⟩
abbrev cX5_isSound : ByteArray := prog_1_method_31_code
def yX5_isSound : MethodName := ⟨RX5, "isSound", "(I)Z"⟩
abbrev cX5_at : ByteArray := prog_1_method_32_code
def yX5_at : MethodName := ⟨RX5, "at", "([II)I"⟩
abbrev cX5_copyRow : ByteArray := prog_1_method_33_code
def yX5_copyRow : MethodName := ⟨RX5, "copyRow", "([I[I)V"⟩
abbrev cX5_isRowOfSounds : ByteArray := prog_1_method_34_code
def yX5_isRowOfSounds : MethodName := ⟨RX5, "isRowOfSounds", "(I)Z"⟩
abbrev cX5_figuresOf : ByteArray := prog_1_method_35_code
def yX5_figuresOf : MethodName := ⟨RX5, "figuresOf", "(I)I"⟩
abbrev cX5_greatestDivisor : ByteArray := prog_1_method_36_code
def yX5_greatestDivisor : MethodName := ⟨RX5, "greatestDivisor", "(JJ)J"⟩
abbrev cX5_imageOf : ByteArray := prog_1_method_37_code
def yX5_imageOf : MethodName := ⟨RX5, "imageOf", "(I)LEchoesFirst$Course;"⟩
abbrev cX5_secondToBegin : ByteArray := prog_1_method_38_code
def yX5_secondToBegin : MethodName := ⟨RX5, "secondToBegin", "(IIII)I"⟩
abbrev cX5_playersOf : ByteArray := prog_1_method_39_code
def yX5_playersOf : MethodName := ⟨RX5, "playersOf", "(III)I"⟩
abbrev cX5_reaches : ByteArray := prog_1_method_40_code
def yX5_reaches : MethodName := ⟨RX5, "reaches", "(IIII)Z"⟩
abbrev cX5_isAgainstStill : ByteArray := prog_1_method_41_code
def yX5_isAgainstStill : MethodName := ⟨RX5, "isAgainstStill", "(III)Z"⟩
abbrev cX5_someoneCould : ByteArray := prog_1_method_42_code
def yX5_someoneCould : MethodName := ⟨RX5, "someoneCould", "(III)Z"⟩
abbrev cX5_secondToMake : ByteArray := prog_1_method_43_code
def yX5_secondToMake : MethodName := ⟨RX5, "secondToMake", "(II)I"⟩
abbrev cX5_makersOf : ByteArray := prog_1_method_44_code
def yX5_makersOf : MethodName := ⟨RX5, "makersOf", "(II)I"⟩
abbrev cX5_findSets : ByteArray := prog_1_method_45_code
def yX5_findSets : MethodName := ⟨RX5, "findSets", "()V"⟩
abbrev cX5_numberOf : ByteArray := prog_1_method_46_code
def yX5_numberOf : MethodName := ⟨RX5, "numberOf", "(III)I"⟩
abbrev cX5_peopleInEachSet : ByteArray := prog_1_method_47_code
def yX5_peopleInEachSet : MethodName := ⟨RX5, "peopleInEachSet", "()I"⟩
abbrev cX5_setsInWhichHeMakes : ByteArray := prog_1_method_48_code
def yX5_setsInWhichHeMakes : MethodName := ⟨RX5, "setsInWhichHeMakes", "(II)J"⟩
abbrev cX5_isMadeByDone : ByteArray := prog_1_method_49_code
def yX5_isMadeByDone : MethodName := ⟨RX5, "isMadeByDone", "(I)Z"⟩
abbrev cX5_dueBits : ByteArray := prog_1_method_50_code
def yX5_dueBits : MethodName := ⟨RX5, "dueBits", "()I"⟩
abbrev cX5_pastBits : ByteArray := prog_1_method_51_code
def yX5_pastBits : MethodName := ⟨RX5, "pastBits", "()I"⟩
abbrev cX5_lieBits : ByteArray := prog_1_method_52_code
def yX5_lieBits : MethodName := ⟨RX5, "lieBits", "()I"⟩
abbrev cX5_markOfSound : ByteArray := prog_1_method_53_code
def yX5_markOfSound : MethodName := ⟨RX5, "markOfSound", "(I)I"⟩
abbrev cX5_markOfShout : ByteArray := prog_1_method_54_code
def yX5_markOfShout : MethodName := ⟨RX5, "markOfShout", "(I)I"⟩
abbrev cX5_markOfFall : ByteArray := prog_1_method_55_code
def yX5_markOfFall : MethodName := ⟨RX5, "markOfFall", "(I)I"⟩
abbrev cX5_markOfName : ByteArray := prog_1_method_56_code
def yX5_markOfName : MethodName := ⟨RX5, "markOfName", "(I)I"⟩
abbrev cX5_markOfShot : ByteArray := prog_1_method_57_code
def yX5_markOfShot : MethodName := ⟨RX5, "markOfShot", "(I)I"⟩
abbrev cX5_markOfBell : ByteArray := prog_1_method_58_code
def yX5_markOfBell : MethodName := ⟨RX5, "markOfBell", "(I)I"⟩
def RX6 : String := "EchoesFirstModel"
def TX6 : u_T := fun k => match k with
  | 0 => ("EchoesFirstModel", "places", "I", false)
  | 1 => ("EchoesFirstModel", "fars", "[I", true)
  | 2 => ("EchoesFirstModel", "people", "I", false)
  | 3 => ("EchoesFirstModel", "person", "[I", true)
  | 4 => ("EchoesFirstModel", "entries", "I", false)
  | 5 => ("EchoesFirstModel", "log", "[I", true)
  | 6 => ("EchoesFirstModel", "st", "[I", true)
  | 7 => ("EchoesFirstModel", "images", "[I", true)
  | 8 => ("EchoesFirstModel", "isKept", "[Z", true)
  | 9 => ("EchoesFirstModel", "trace", "J", false)
  | 10 => ("EchoesFirstModel", "text", "[I", true)
  | 11 => ("EchoesFirstModel", "texted", "I", false)
  | 12 => ("EchoesFirstModel", "cursor", "I", false)
  | 13 => ("EchoesFirstModel", "start", "I", false)
  | 14 => ("EchoesFirstModel", "token", "I", false)
  | 15 => ("EchoesFirstModel", "number", "I", false)
  | 16 => ("EchoesFirstModel", "word", "J", false)
  | 17 => ("EchoesFirstModel", "isWrong", "Z", false)
  | 18 => ("EchoesFirstModel", "saidPlaces", "I", false)
  | 19 => ("EchoesFirstModel", "saidFars", "[I", true)
  | 20 => ("EchoesFirstModel", "saidPeople", "I", false)
  | 21 => ("EchoesFirstModel", "saidPerson", "[I", true)
  | 22 => ("EchoesFirstModel", "few", "[I", true)
  | 23 => ("EchoesFirstModel", "many", "I", false)
  | 24 => ("EchoesFirstModel", "numbers", "[I", true)
  | 25 => ("EchoesFirstModel", "covers", "[I", true)
  | 26 => ("EchoesFirstModel", "ways", "[I", true)
  | _ => ("EchoesFirstModel", "least", "I", false)
def tyX6 : Nat → FieldType := fun k => match k with
  | 0 => .int
  | 1 => .array .int
  | 2 => .int
  | 3 => .array .int
  | 4 => .int
  | 5 => .array .int
  | 6 => .array .int
  | 7 => .array .int
  | 8 => .array .boolean
  | 9 => .long
  | 10 => .array .int
  | 11 => .int
  | 12 => .int
  | 13 => .int
  | 14 => .int
  | 15 => .int
  | 16 => .long
  | 17 => .boolean
  | 18 => .int
  | 19 => .array .int
  | 20 => .int
  | 21 => .array .int
  | 22 => .array .int
  | 23 => .int
  | 24 => .array .int
  | 25 => .array .int
  | 26 => .array .int
  | _ => .int
abbrev wsX60 : List Cond := u_ws RX6 TX6 28
theorem nmX6 : ∀ a, a < 28 → ∀ b, b < 28 → a ≠ b → (TX6 a).2.1 ≠ (TX6 b).2.1 := by decide +kernel
theorem tyX6_ok : ∀ k, k < 28 → parseFieldDescriptor (TX6 k).2.2.1 = some (tyX6 k) := by decide +kernel
abbrev cX6_init : ByteArray := prog_8_method_1_code
def yX6_init : MethodName := ⟨RX6, "<init>", "()V"⟩
abbrev cX6_in : ByteArray := prog_8_method_3_code
def yX6_in : MethodName := ⟨RX6, "in", "(III)Z"⟩
abbrev cX6_has : ByteArray := prog_8_method_4_code
def yX6_has : MethodName := ⟨RX6, "has", "(II)Z"⟩
abbrev cX6_isPlace : ByteArray := prog_8_method_6_code
def yX6_isPlace : MethodName := ⟨RX6, "isPlace", "(I)Z"⟩
abbrev cX6_isSound : ByteArray := prog_8_method_7_code
def yX6_isSound : MethodName := ⟨RX6, "isSound", "(I)Z"⟩
abbrev cX6_isPerson : ByteArray := prog_8_method_8_code
def yX6_isPerson : MethodName := ⟨RX6, "isPerson", "(I)Z"⟩
abbrev cX6_isSecond : ByteArray := prog_8_method_9_code
def yX6_isSecond : MethodName := ⟨RX6, "isSecond", "(I)Z"⟩
abbrev cX6_type : ByteArray := prog_8_method_10_code
def yX6_type : MethodName := ⟨RX6, "type", "(I)I"⟩
abbrev cX6_clear : ByteArray := prog_8_method_11_code
def yX6_clear : MethodName := ⟨RX6, "clear", "()I"⟩
abbrev cX6_byteAt : ByteArray := prog_8_method_12_code
def yX6_byteAt : MethodName := ⟨RX6, "byteAt", "(I)I"⟩
abbrev cX6_next : ByteArray := prog_8_method_13_code
def yX6_next : MethodName := ⟨RX6, "next", "()V"⟩
abbrev cX6_must : ByteArray := prog_8_method_14_code
def yX6_must : MethodName := ⟨RX6, "must", "(Z)V"⟩
abbrev cX6_readInto : ByteArray := prog_8_method_15_code
def yX6_readInto : MethodName := ⟨RX6, "readInto", "([IIII)I"⟩
abbrev cX6_readPlaces : ByteArray := prog_8_method_16_code
def yX6_readPlaces : MethodName := ⟨RX6, "readPlaces", "(Z)V"⟩
abbrev cX6_readFar : ByteArray := prog_8_method_17_code
def yX6_readFar : MethodName := ⟨RX6, "readFar", "()V"⟩
abbrev cX6_readPerson : ByteArray := prog_8_method_18_code
def yX6_readPerson : MethodName := ⟨RX6, "readPerson", "()V"⟩
abbrev cX6_readItem : ByteArray := prog_8_method_19_code
def yX6_readItem : MethodName := ⟨RX6, "readItem", "(Z)V"⟩
abbrev cX6_valley : ByteArray := prog_8_method_20_code
def yX6_valley : MethodName := ⟨RX6, "valley", "()I"⟩
abbrev cX6_farOf : ByteArray := prog_8_method_21_code
def yX6_farOf : MethodName := ⟨RX6, "farOf", "(II)I"⟩
abbrev cX6_far : ByteArray := prog_8_method_22_code
def yX6_far : MethodName := ⟨RX6, "far", "(II)I"⟩
abbrev cX6_person : ByteArray := prog_8_method_23_code
def yX6_person : MethodName := ⟨RX6, "person", "(II)I"⟩
abbrev cX6_heard : ByteArray := prog_8_method_24_code
def yX6_heard : MethodName := ⟨RX6, "heard", "(IIII)I"⟩
abbrev cX6_forget : ByteArray := prog_8_method_25_code
def yX6_forget : MethodName := ⟨RX6, "forget", "()I"⟩
abbrev cX6_isHeard : ByteArray := prog_8_method_26_code
def yX6_isHeard : MethodName := ⟨RX6, "isHeard", "(I)Z"⟩
abbrev cX6_fits : ByteArray := prog_8_method_27_code
def yX6_fits : MethodName := ⟨RX6, "fits", "(III)I"⟩
abbrev cX6_allHeard : ByteArray := prog_8_method_28_code
def yX6_allHeard : MethodName := ⟨RX6, "allHeard", "()I"⟩
abbrev cX6_can : ByteArray := prog_8_method_29_code
def yX6_can : MethodName := ⟨RX6, "can", "(III)Z"⟩
abbrev cX6_makesOf : ByteArray := prog_8_method_30_code
def yX6_makesOf : MethodName := ⟨RX6, "makesOf", "(III)I"⟩
abbrev cX6_whoOf : ByteArray := prog_8_method_31_code
def yX6_whoOf : MethodName := ⟨RX6, "whoOf", "(I)I"⟩
abbrev cX6_who : ByteArray := prog_8_method_32_code
def yX6_who : MethodName := ⟨RX6, "who", "(I)I"⟩
abbrev cX6_nobody : ByteArray := prog_8_method_33_code
def yX6_nobody : MethodName := ⟨RX6, "nobody", "()I"⟩
abbrev cX6_findDeeds : ByteArray := prog_8_method_34_code
def yX6_findDeeds : MethodName := ⟨RX6, "findDeeds", "()V"⟩
abbrev cX6_findWays : ByteArray := prog_8_method_35_code
def yX6_findWays : MethodName := ⟨RX6, "findWays", "(III)V"⟩
abbrev cX6_findLeast : ByteArray := prog_8_method_36_code
def yX6_findLeast : MethodName := ⟨RX6, "findLeast", "()Z"⟩
abbrev cX6_waysWithout : ByteArray := prog_8_method_37_code
def yX6_waysWithout : MethodName := ⟨RX6, "waysWithout", "(II)I"⟩
abbrev cX6_deeds : ByteArray := prog_8_method_38_code
def yX6_deeds : MethodName := ⟨RX6, "deeds", "(I)I"⟩
abbrev cX6_goesOn : ByteArray := prog_8_method_39_code
def yX6_goesOn : MethodName := ⟨RX6, "goesOn", "(III)Z"⟩
abbrev cX6_first : ByteArray := prog_8_method_40_code
def yX6_first : MethodName := ⟨RX6, "first", "(I)I"⟩
abbrev cX6_odds : ByteArray := prog_8_method_41_code
def yX6_odds : MethodName := ⟨RX6, "odds", "(III)I"⟩
abbrev cX6_knows : ByteArray := prog_8_method_42_code
def yX6_knows : MethodName := ⟨RX6, "knows", "(II)V"⟩
abbrev cX6_second : ByteArray := prog_8_method_43_code
def yX6_second : MethodName := ⟨RX6, "second", "()I"⟩
abbrev cX6_makes : ByteArray := prog_8_method_44_code
def yX6_makes : MethodName := ⟨RX6, "makes", "(II)I"⟩
abbrev cX6_moves : ByteArray := prog_8_method_45_code
def yX6_moves : MethodName := ⟨RX6, "moves", "(II)I"⟩
abbrev cX6_undo : ByteArray := prog_8_method_46_code
def yX6_undo : MethodName := ⟨RX6, "undo", "()I"⟩
abbrev cX6_done : ByteArray := prog_8_method_47_code
def yX6_done : MethodName := ⟨RX6, "done", "(II)I"⟩
abbrev cX6_fitsOf : ByteArray := prog_8_method_48_code
def yX6_fitsOf : MethodName := ⟨RX6, "fitsOf", "(I)I"⟩
abbrev cX6_due : ByteArray := prog_8_method_49_code
def yX6_due : MethodName := ⟨RX6, "due", "()I"⟩
abbrev cX6_past : ByteArray := prog_8_method_50_code
def yX6_past : MethodName := ⟨RX6, "past", "()I"⟩
abbrev cX6_lies : ByteArray := prog_8_method_51_code
def yX6_lies : MethodName := ⟨RX6, "lies", "()I"⟩
abbrev cX6_now : ByteArray := prog_8_method_52_code
def yX6_now : MethodName := ⟨RX6, "now", "(I)I"⟩
abbrev cX6_sit : ByteArray := prog_8_method_53_code
def yX6_sit : MethodName := ⟨RX6, "sit", "(I)I"⟩
abbrev cX6_beginOf : ByteArray := prog_8_method_54_code
def yX6_beginOf : MethodName := ⟨RX6, "beginOf", "(IIII)I"⟩
abbrev cX6_begin : ByteArray := prog_8_method_55_code
def yX6_begin : MethodName := ⟨RX6, "begin", "(IIII)I"⟩
abbrev cX6_together : ByteArray := prog_8_method_56_code
def yX6_together : MethodName := ⟨RX6, "together", "(III)I"⟩
abbrev cX6_isRow : ByteArray := prog_8_method_57_code
def yX6_isRow : MethodName := ⟨RX6, "isRow", "(I)Z"⟩
abbrev cX6_played : ByteArray := prog_8_method_58_code
def yX6_played : MethodName := ⟨RX6, "played", "(III)I"⟩
abbrev cX6_sure : ByteArray := prog_8_method_59_code
def yX6_sure : MethodName := ⟨RX6, "sure", "(II)I"⟩
abbrev cX6_soundMark : ByteArray := prog_8_method_60_code
def yX6_soundMark : MethodName := ⟨RX6, "soundMark", "(I)I"⟩
abbrev cX6_shoutMark : ByteArray := prog_8_method_61_code
def yX6_shoutMark : MethodName := ⟨RX6, "shoutMark", "(I)I"⟩
abbrev cX6_fallMark : ByteArray := prog_8_method_62_code
def yX6_fallMark : MethodName := ⟨RX6, "fallMark", "(I)I"⟩
abbrev cX6_shotMark : ByteArray := prog_8_method_63_code
def yX6_shotMark : MethodName := ⟨RX6, "shotMark", "(I)I"⟩
abbrev cX6_mark : ByteArray := prog_8_method_64_code
def yX6_mark : MethodName := ⟨RX6, "mark", "(II)I"⟩
abbrev cX6_keep : ByteArray := prog_8_method_65_code
def yX6_keep : MethodName := ⟨RX6, "keep", "(I)I"⟩
abbrev cX6_back : ByteArray := prog_8_method_66_code
def yX6_back : MethodName := ⟨RX6, "back", "(I)I"⟩
abbrev cX6_count : ByteArray := prog_8_method_67_code
def yX6_count : MethodName := ⟨RX6, "count", "(I)I"⟩
abbrev cX6_trace : ByteArray := prog_8_method_68_code
def yX6_trace : MethodName := ⟨RX6, "trace", "()J"⟩
def RJ6 : String := "java/lang/Integer"
def TJ6 : u_T := fun k => match k with
  | _ => ("", "", "", false)
def tyJ6 : Nat → FieldType := fun k => match k with
  | _ => .int
abbrev wsJ60 : List Cond := u_ws RJ6 TJ6 0
theorem nmJ6 : ∀ a, a < 0 → ∀ b, b < 0 → a ≠ b → (TJ6 a).2.1 ≠ (TJ6 b).2.1 := by decide +kernel
theorem tyJ6_ok : ∀ k, k < 0 → parseFieldDescriptor (TJ6 k).2.2.1 = some (tyJ6 k) := by decide +kernel
abbrev cJ6_bitCount_0f7a4 : ByteArray := prog_9_method_49_code
def yJ6_bitCount_0f7a4 : MethodName := ⟨RJ6, "bitCount", "(I)I"⟩
def RJ9 : String := "java/lang/Math"
def TJ9 : u_T := fun k => match k with
  | _ => ("", "", "", false)
def tyJ9 : Nat → FieldType := fun k => match k with
  | _ => .int
abbrev wsJ90 : List Cond := u_ws RJ9 TJ9 0
theorem nmJ9 : ∀ a, a < 0 → ∀ b, b < 0 → a ≠ b → (TJ9 a).2.1 ≠ (TJ9 b).2.1 := by decide +kernel
theorem tyJ9_ok : ∀ k, k < 0 → parseFieldDescriptor (TJ9 k).2.2.1 = some (tyJ9 k) := by decide +kernel
abbrev cJ9_max_7cf53 : ByteArray := prog_10_method_65_code
def yJ9_max_7cf53 : MethodName := ⟨RJ9, "max", "(II)I"⟩
abbrev cJ9_min_7cf53 : ByteArray := prog_10_method_69_code
def yJ9_min_7cf53 : MethodName := ⟨RJ9, "min", "(II)I"⟩
def RL : String := "EchoesFirstLaw"
abbrev cL_law : ByteArray := code
def yL_law : MethodName := ⟨RL, "law", "([I)Z"⟩
abbrev vwCl : List vw_C := [(RX0, TX0, 12), (RX1, TX1, 7), (RX2, TX2, 5), (RX3, TX3, 7), (RX4, TX4, 7), (RX5, TX5, 8), (RX6, TX6, 28)]
end
section
/-! ===== A LITTLE MACHINE over numbered cells: what it does, by program; part 03 says that the big one does the same ===== -/
/-- a memory: the cells (0, 1, 2: an array of ints, longs, booleans; 3 + c: an object of class c; 100: the script, the cell 0; how many places; of an object its references: 0 none, k + 1 the cell k), the ints, the longs -/
abbrev am_M : Type := List (Nat × Nat × List Nat) × (Nat → Nat → Int32) × (Nat → Nat → Int64)
/-- an instruction: its place in the bytes, itself, numbers that go with it, its constant -/
abbrev am_E : Type := Nat × Instr × List Nat × Int32 × Int64
/-- a method: own class, name, bytes, locals, answer's type, arguments (with the receiver), kind (0 static, 1 virtual, 2 constructor), class number, frames, locals' words, places of its words (code, static or instance, selects, initialized) -/
abbrev am_Y : Type := String × MethodName × ByteArray × Nat × Option FieldType × Nat × Nat × Nat × Nat × Nat × List Nat
def am_u {α : Type} (f : Nat → Nat → α) (k j : Nat) (v : α) : Nat → Nat → α := fun a b => if a = k then (if b = j then v else f a b) else f a b
def am_z {α : Type} (f : Nat → Nat → α) (k : Nat) (v : α) : Nat → Nat → α := fun a b => if a = k then v else f a b
def am_ty (ci j : Nat) : FieldType := match ci with
  | 0 => tyX0 j
  | 1 => tyX1 j
  | 2 => tyX2 j
  | 3 => tyX3 j
  | 4 => tyX4 j
  | 5 => tyX5 j
  | _ => tyX6 j
def am_all : List Prop → Prop
  | [] => True
  | [p] => p
  | p :: q :: r => p ∧ am_all (q :: r)
abbrev am_O : Type := Option (List Prop × Nat × List Value × List Value × am_M)
def am_pu (i : Nat) (ls st : List Value) (M : am_M) (v : Value) : am_O := some ([], i + 1, ls, v :: st, M)
def am_ild (k i : Nat) (ls st : List Value) (M : am_M) : am_O := match ls[k]? with
  | some (.int v) => some ([], i + 1, ls, .int v :: st, M)
  | _ => none
def am_ald (k i : Nat) (ls st : List Value) (M : am_M) : am_O := match ls[k]? with
  | some (.ref v) => some ([], i + 1, ls, .ref v :: st, M)
  | _ => none
def am_lld (k i : Nat) (ls st : List Value) (M : am_M) : am_O := match ls[k]? with
  | some (.long v) => match ls[k + 1]? with
    | some .null => some ([], i + 1, ls, .long v :: st, M)
    | _ => none
  | _ => none
def am_ist (k i : Nat) (ls st : List Value) (M : am_M) : am_O := match st with
  | .int v :: r => if k < ls.length then some ([], i + 1, ls.set k (.int v), r, M) else none
  | _ => none
def am_ast (k i : Nat) (ls st : List Value) (M : am_M) : am_O := match st with
  | .ref v :: r => if k < ls.length then some ([], i + 1, ls.set k (.ref v), r, M) else none
  | _ => none
def am_lst (k i : Nat) (ls st : List Value) (M : am_M) : am_O := match st with
  | .long v :: r => if k + 1 < ls.length then some ([], i + 1, (ls.set k (.long v)).set (k + 1) .null, r, M) else none
  | _ => none
def am_inc (k : Nat) (c : Int32) (i : Nat) (ls st : List Value) (M : am_M) : am_O := match ls[k]? with
  | some (.int v) => some ([], i + 1, ls.set k (.int (v + c)), st, M)
  | _ => none
def am_i2 (f : Int32 → Int32 → Int32) (i : Nat) (ls st : List Value) (M : am_M) : am_O := match st with
  | .int y :: .int x :: r => some ([], i + 1, ls, .int (f x y) :: r, M)
  | _ => none
def am_i2d (f : Int32 → Int32 → Int32) (i : Nat) (ls st : List Value) (M : am_M) : am_O := match st with
  | .int y :: .int x :: r => some ([¬ y = 0], i + 1, ls, .int (f x y) :: r, M)
  | _ => none
def am_l2 (f : Int64 → Int64 → Int64) (i : Nat) (ls st : List Value) (M : am_M) : am_O := match st with
  | .long y :: .long x :: r => some ([], i + 1, ls, .long (f x y) :: r, M)
  | _ => none
def am_l2d (f : Int64 → Int64 → Int64) (i : Nat) (ls st : List Value) (M : am_M) : am_O := match st with
  | .long y :: .long x :: r => some ([¬ y = 0], i + 1, ls, .long (f x y) :: r, M)
  | _ => none
def am_ls (f : Int64 → Int32 → Int64) (i : Nat) (ls st : List Value) (M : am_M) : am_O := match st with
  | .int y :: .long x :: r => some ([], i + 1, ls, .long (f x y) :: r, M)
  | _ => none
def am_b1 (x : List Nat) (f : Int32 → Bool) (i : Nat) (ls st : List Value) (M : am_M) : am_O := match st with
  | .int v :: r => some ([], (bif f v then x.headD 0 else i + 1), ls, r, M)
  | _ => none
def am_b2 (x : List Nat) (f : Int32 → Int32 → Bool) (i : Nat) (ls st : List Value) (M : am_M) : am_O := match st with
  | .int w :: .int v :: r => some ([], (bif f v w then x.headD 0 else i + 1), ls, r, M)
  | _ => none
/-- the branch of a lookupswitch -/
def am_lsw : List (Int × Int) → List Nat → Nat → Int → Nat
  | (k, _) :: ps, t :: ts, d, v => bif decide (v = k) then t else am_lsw ps ts d v
  | _, _, d, _ => d
def am_fld (M : am_M) (k ci j : Nat) (rs : List Nat) : Option Value := match am_ty ci j with
  | .int => some (.int (M.2.1 k j))
  | .boolean => some (.int (M.2.1 k j))
  | .long => some (.long (M.2.2 k j))
  | _ => match rs[j]? with
    | some (r + 1) => some (.ref r)
    | _ => none
def am_get (ci j i : Nat) (ls st : List Value) (M : am_M) : am_O := match st with
  | .ref k :: r => match M.1[k]? with
    | some (t, n, rs) => if t = ci + 3 ∧ j < n then (match am_fld M k ci j rs with
      | some v => some ([], i + 1, ls, v :: r, M)
      | none => none) else none
    | none => none
  | _ => none
def am_put (ci j i : Nat) (ls st : List Value) (M : am_M) : am_O := match st with
  | v :: .ref k :: r => match M.1[k]? with
    | some (t, n, rs) => if t = ci + 3 ∧ j < n ∧ rs.length = n then (match am_ty ci j with
      | .int => (match v with
        | .int y => some ([], i + 1, ls, r, (M.1, am_u M.2.1 k j y, M.2.2))
        | _ => none)
      | .boolean => (match v with
        | .int y => some ([y = 0 ∨ y = 1], i + 1, ls, r, (M.1, am_u M.2.1 k j y, M.2.2))
        | _ => none)
      | .long => (match v with
        | .long y => some ([], i + 1, ls, r, (M.1, M.2.1, am_u M.2.2 k j y))
        | _ => none)
      | .array _ => (match v with
        | .ref y => some ([], i + 1, ls, r, (M.1.set k (t, n, rs.set j (y + 1)), M.2.1, M.2.2))
        | _ => none)
      | .object _ => (match v with
        | .ref y => some ([], i + 1, ls, r, (M.1.set k (t, n, rs.set j (y + 1)), M.2.1, M.2.2))
        | _ => none)
      | _ => none) else none
    | none => none
  | _ => none
def am_iald (tag i : Nat) (ls st : List Value) (M : am_M) : am_O := match st with
  | .int j :: .ref k :: r => match M.1[k]? with
    | some (t, n, _) => if t = tag ∨ (tag = 0 ∧ t = 100) then some ([vp_in j n], i + 1, ls, .int (M.2.1 k j.toNatClampNeg) :: r, M) else none
    | none => none
  | _ => none
def am_lald (i : Nat) (ls st : List Value) (M : am_M) : am_O := match st with
  | .int j :: .ref k :: r => match M.1[k]? with
    | some (t, n, _) => if t = 1 then some ([vp_in j n], i + 1, ls, .long (M.2.2 k j.toNatClampNeg) :: r, M) else none
    | none => none
  | _ => none
def am_iast (i : Nat) (ls st : List Value) (M : am_M) : am_O := match st with
  | .int v :: .int j :: .ref k :: r => match M.1[k]? with
    | some (t, n, _) => if t = 0 then some ([vp_in j n], i + 1, ls, r, (M.1, am_u M.2.1 k j.toNatClampNeg v, M.2.2)) else none
    | none => none
  | _ => none
def am_zast (i : Nat) (ls st : List Value) (M : am_M) : am_O := match st with
  | .int v :: .int j :: .ref k :: r => match M.1[k]? with
    | some (t, n, _) => if t = 2 then some ([vp_in j n, vp_nar .boolean v = v], i + 1, ls, r, (M.1, am_u M.2.1 k j.toNatClampNeg v, M.2.2)) else none
    | none => none
  | _ => none
def am_last (i : Nat) (ls st : List Value) (M : am_M) : am_O := match st with
  | .long v :: .int j :: .ref k :: r => match M.1[k]? with
    | some (t, n, _) => if t = 1 then some ([vp_in j n], i + 1, ls, r, (M.1, M.2.1, am_u M.2.2 k j.toNatClampNeg v)) else none
    | none => none
  | _ => none
def am_len (i : Nat) (ls st : List Value) (M : am_M) : am_O := match st with
  | .ref k :: r => match M.1[k]? with
    | some (t, n, _) => if t < 3 ∨ t = 100 then some ([], i + 1, ls, .int (Int32.ofNat n) :: r, M) else none
    | none => none
  | _ => none
def am_new (ci n i : Nat) (ls st : List Value) (M : am_M) : am_O :=
  some ([], i + 1, ls, .ref M.1.length :: st, (M.1 ++ [(ci + 3, n, List.replicate n 0)], am_z M.2.1 M.1.length 0, am_z M.2.2 M.1.length 0))
def am_newa (tag i : Nat) (ls st : List Value) (M : am_M) : am_O := match st with
  | .int n :: r => some ([¬ n < 0, n.toNatClampNeg ≤ 10000], i + 1, ls, .ref M.1.length :: r, (M.1 ++ [(tag, n.toNatClampNeg, [])], am_z M.2.1 M.1.length 0, am_z M.2.2 M.1.length 0))
  | _ => none
def am_dup (i : Nat) (ls st : List Value) (M : am_M) : am_O := match st with
  | .int v :: r => some ([], i + 1, ls, .int v :: .int v :: r, M)
  | .ref v :: r => some ([], i + 1, ls, .ref v :: .ref v :: r, M)
  | _ => none
def am_dup2 (i : Nat) (ls st : List Value) (M : am_M) : am_O := match st with
  | .int v :: .ref w :: r => some ([], i + 1, ls, .int v :: .ref w :: .int v :: .ref w :: r, M)
  | _ => none
def am_pop (i : Nat) (ls st : List Value) (M : am_M) : am_O := match st with
  | .int _ :: r => some ([], i + 1, ls, r, M)
  | _ => none
def am_oini (i : Nat) (ls st : List Value) (M : am_M) : am_O := match st with
  | [.ref _] => some ([], i + 1, ls, [], M)
  | _ => none
/-- one instruction that is no call and no return -/
def am_stp (ins : Instr) (x : List Nat) (c : Int32) (d : Int64) (i : Nat) (ls st : List Value) (M : am_M) : am_O := match ins with
  | .iconst _ => am_pu i ls st M (.int c)
  | .bipush _ => am_pu i ls st M (.int c)
  | .sipush _ => am_pu i ls st M (.int c)
  | .ldc _ => am_pu i ls st M (.int c)
  | .ldc_w _ => am_pu i ls st M (.int c)
  | .lconst _ => am_pu i ls st M (.long d)
  | .ldc2_w _ => am_pu i ls st M (.long d)
  | .iload_n k => am_ild k.val i ls st M
  | .iload k => am_ild k i ls st M
  | .aload_n k => am_ald k.val i ls st M
  | .lload_n k => am_lld k.val i ls st M
  | .lload k => am_lld k i ls st M
  | .istore_n k => am_ist k.val i ls st M
  | .istore k => am_ist k i ls st M
  | .astore_n k => am_ast k.val i ls st M
  | .lstore_n k => am_lst k.val i ls st M
  | .lstore k => am_lst k i ls st M
  | .iinc k _ => am_inc k c i ls st M
  | .iadd => am_i2 (fun a b => a + b) i ls st M
  | .isub => am_i2 (fun a b => a - b) i ls st M
  | .imul => am_i2 (fun a b => a * b) i ls st M
  | .idiv => am_i2d (fun a b => a / b) i ls st M
  | .irem => am_i2d (fun a b => a - a / b * b) i ls st M
  | .iand => am_i2 (fun a b => a &&& b) i ls st M
  | .ior => am_i2 (fun a b => a ||| b) i ls st M
  | .ixor => am_i2 (fun a b => a ^^^ b) i ls st M
  | .ishl => am_i2 (fun a b => a <<< (b &&& 31)) i ls st M
  | .ishr => am_i2 (fun a b => a >>> (b &&& 31)) i ls st M
  | .iushr => am_i2 (fun a b => (a.toUInt32 >>> (b.toUInt32 &&& Int32.toUInt32 31)).toInt32) i ls st M
  | .ladd => am_l2 (fun a b => a + b) i ls st M
  | .lsub => am_l2 (fun a b => a - b) i ls st M
  | .ldiv => am_l2d (fun a b => a / b) i ls st M
  | .lrem => am_l2d (fun a b => a - a / b * b) i ls st M
  | .land => am_l2 (fun a b => a &&& b) i ls st M
  | .lor => am_l2 (fun a b => a ||| b) i ls st M
  | .lshl => am_ls (fun a b => a <<< (b.toInt64 &&& 63)) i ls st M
  | .lshr => am_ls (fun a b => a >>> (b.toInt64 &&& 63)) i ls st M
  | .lcmp => (match st with
    | .long y :: .long v :: r => some ([], i + 1, ls, .int (lg_cmp v y) :: r, M)
    | _ => none)
  | .i2l => (match st with
    | .int v :: r => some ([], i + 1, ls, .long v.toInt64 :: r, M)
    | _ => none)
  | .l2i => (match st with
    | .long v :: r => some ([], i + 1, ls, .int v.toInt32 :: r, M)
    | _ => none)
  | .dup => am_dup i ls st M
  | .dup2 => am_dup2 i ls st M
  | .pop => am_pop i ls st M
  | .goto _ => some ([], x.headD 0, ls, st, M)
  | .ifCond .eq _ => am_b1 x (fun v => decide (v = 0)) i ls st M
  | .ifCond .ne _ => am_b1 x (fun v => !decide (v = 0)) i ls st M
  | .ifCond .lt _ => am_b1 x (fun v => decide (v < 0)) i ls st M
  | .ifCond .ge _ => am_b1 x (fun v => decide (0 ≤ v)) i ls st M
  | .ifCond .gt _ => am_b1 x (fun v => decide (0 < v)) i ls st M
  | .ifCond .le _ => am_b1 x (fun v => decide (v ≤ 0)) i ls st M
  | .if_icmp .eq _ => am_b2 x (fun v w => decide (v = w)) i ls st M
  | .if_icmp .ne _ => am_b2 x (fun v w => !decide (v = w)) i ls st M
  | .if_icmp .lt _ => am_b2 x (fun v w => decide (v < w)) i ls st M
  | .if_icmp .ge _ => am_b2 x (fun v w => decide (w ≤ v)) i ls st M
  | .if_icmp .gt _ => am_b2 x (fun v w => decide (w < v)) i ls st M
  | .if_icmp .le _ => am_b2 x (fun v w => decide (v ≤ w)) i ls st M
  | .tableswitch _ lo hi _ => (match st with
    | .int v :: r => some ([], (bif decide (v.toInt < lo ∨ hi < v.toInt) then x.getD 1 0 else x.getD (2 + (v.toInt - lo).toNat) 0), ls, r, M)
    | _ => none)
  | .lookupswitch _ ps => (match st with
    | .int v :: r => some ([], am_lsw ps.toList (x.drop 2) (x.getD 1 0) v.toInt, ls, r, M)
    | _ => none)
  | .getfield _ => am_get (x.getD 0 0) (x.getD 1 0) i ls st M
  | .putfield _ => am_put (x.getD 0 0) (x.getD 1 0) i ls st M
  | .iaload => am_iald 0 i ls st M
  | .baload => am_iald 2 i ls st M
  | .laload => am_lald i ls st M
  | .iastore => am_iast i ls st M
  | .bastore => am_zast i ls st M
  | .lastore => am_last i ls st M
  | .arraylength => am_len i ls st M
  | .new _ => am_new (x.getD 0 0) (x.getD 1 0) i ls st M
  | .newarray .int => am_newa 0 i ls st M
  | .newarray .long => am_newa 1 i ls st M
  | .newarray .boolean => am_newa 2 i ls st M
  | .invokespecial _ => am_oini i ls st M
  | _ => none
/-- a return, a call, or else -/
def am_kind (ins : Instr) (x : List Nat) : Nat := match ins with
  | .ireturn => 1
  | .lreturn => 1
  | .areturn => 1
  | .return_ => 1
  | .invokestatic _ => 2
  | .invokevirtual _ => 2
  | .invokespecial _ => if x.headD 0 = 9999 then 0 else 2
  | _ => 0
def am_rt (ins : Instr) (ret : Option FieldType) (st : List Value) : Option (List Prop × Option Value) := match ins with
  | .return_ => (match ret with
    | none => (match st with
      | [] => some ([], none)
      | _ => none)
    | _ => none)
  | .ireturn => (match ret with
    | some .int => (match st with
      | [.int v] => some ([], some (.int v))
      | _ => none)
    | some .boolean => (match st with
      | [.int v] => some ([v = 0 ∨ v = 1], some (.int v))
      | _ => none)
    | _ => none)
  | .lreturn => (match ret with
    | some .long => (match st with
      | [.long v] => some ([], some (.long v))
      | _ => none)
    | _ => none)
  | .areturn => (match ret with
    | some (.object _) => (match st with
      | [.ref v] => some ([], some (.ref v))
      | _ => none)
    | _ => none)
  | _ => none
def am_arg : List Value → List Value
  | [] => []
  | v :: r => match v.category with
    | 2 => v :: .null :: am_arg r
    | _ => v :: am_arg r
def am_ent (as : List Value) (n : Nat) : List Value := am_arg as ++ List.replicate (n - (am_arg as).length) .null
noncomputable def am_if {α : Type} (p : Prop) (v : Option α) : Option α := @ite (Option α) p (Classical.propDecidable p) v none
theorem am_if_t {α : Type} {p : Prop} (h : p) (v : Option α) : am_if p v = v := by unfold am_if; rw [if_pos h]
theorem am_if_f {α : Type} {p : Prop} (h : ¬ p) (v : Option α) : am_if p v = none := by unfold am_if; rw [if_neg h]
theorem am_if_s {α : Type} {p : Prop} {v : Option α} {r : α} (h : am_if p v = some r) : p ∧ v = some r := by
  unfold am_if at h
  split at h
  · exact ⟨by assumption, h⟩
  · cases h
/-- a call: who, with what -/
def am_rcv (kind ci : Nat) (as : List Value) (M : am_M) : Bool := match kind with
  | 0 => true
  | _ => match as with
    | .ref k :: _ => match M.1[k]? with
      | some (t, _, _) => decide (t = ci + 3)
      | none => false
    | _ => false
def am_cat (st : List Value) : Nat := (st.map fun v => v.category).sum
section AMR
variable (CT : Nat → List am_E) (YT : Nat → am_Y)
noncomputable def am_run : Nat → Nat → Nat → List Value → List Value → am_M → Option (Option Value × am_M)
  | 0, _, _, _, _, _ => none
  | f + 1, mi, i, ls, st, M => match (CT mi)[i]? with
    | none => none
    | some e => match am_kind e.2.1 e.2.2.1 with
      | 0 => (match am_stp e.2.1 e.2.2.1 e.2.2.2.1 e.2.2.2.2 i ls st M with
        | none => none
        | some (ps, i', ls', st', M') => am_if (am_all ps) (am_run f mi i' ls' st' M'))
      | 1 => (match am_rt e.2.1 (YT mi).2.2.2.2.1 st with
        | none => none
        | some (ps, v) => am_if (am_all ps) (some (v, M)))
      | _ =>
        let y := YT (e.2.2.1.headD 0)
        let as := (st.take y.2.2.2.2.2.1).reverse
        let rest := st.drop y.2.2.2.2.2.1
        if as.length = y.2.2.2.2.2.1 ∧ (am_arg as).length ≤ y.2.2.2.1 ∧ am_rcv y.2.2.2.2.2.2.1 y.2.2.2.2.2.2.2.1 as M = true ∧ am_cat rest ≤ 8 then
          (match am_run f (e.2.2.1.headD 0) 0 (am_ent as y.2.2.2.1) [] M with
          | none => none
          | some (v, M') => am_run f mi (i + 1) ls (v.toList ++ rest) M')
        else none
end AMR
end
section
/-! ===== THE PROGRAM as the little machine has it (by program out of the printed names), and that it is the bytecode ===== -/
def am_nest : List Cond := [.methodLinkNest "EchoesFirst$Text" 45 ⟨"EchoesFirst", "at", "([II)I"⟩ "EchoesFirst", .methodLinkNest "EchoesFirst$Text" 87 ⟨"EchoesFirst", "isSound", "(I)Z"⟩ "EchoesFirst", .methodLinkNest "EchoesFirst$Valley" 37 ⟨"EchoesFirst", "copyRow", "([I[I)V"⟩ "EchoesFirst", .methodLinkNest "EchoesFirst$Course" 51 ⟨"EchoesFirst", "copyRow", "([I[I)V"⟩ "EchoesFirst", .methodLinkNest "EchoesFirst$Course" 55 ⟨"EchoesFirst", "at", "([II)I"⟩ "EchoesFirst", .methodLinkNest "EchoesFirst$Log" 28 ⟨"EchoesFirst", "at", "([II)I"⟩ "EchoesFirst", .methodLinkNest "EchoesFirst$Valley" 45 ⟨"EchoesFirst", "at", "([II)I"⟩ "EchoesFirst", .methodLinkNest "EchoesFirst$DeedSets" 35 ⟨"EchoesFirst", "at", "([II)I"⟩ "EchoesFirst"]
def am_K0 : List am_E := [(0, .new 7, [5, 8, 76, 77, 67], 0, 0), (3, .dup, [], 0, 0), (4, .invokespecial 9, [52, 0, 78], 0, 0), (7, .astore_n 1, [], 0, 0), (8, .new 10, [6, 28, 715, 716, 73], 0, 0), (11, .dup, [], 0, 0),
  (12, .invokespecial 12, [110, 0, 717], 0, 0), (15, .astore_n 2, [], 0, 0), (16, .iconst 0, [], 0, 0), (17, .istore_n 3, [], 0, 0), (18, .iload_n 3, [], 0, 0), (19, .aload_n 0, [], 0, 0),
  (20, .arraylength, [], 0, 0), (21, .iconst 5, [], 5, 0), (22, .isub, [], 0, 0), (23, .if_icmp .gt 908, [621], 0, 0), (26, .aload_n 0, [], 0, 0), (27, .iload_n 3, [], 0, 0),
  (28, .iaload, [], 0, 0), (29, .bipush 31, [], 31, 0), (31, .iand, [], 0, 0), (32, .tableswitch 893 0 27 #[128, 151, 164, 177, 210, 243, 296, 309, 332, 345, 368, 391, 434, 447, 480, 513, 526, 559, 582, 605, 658, 701, 744, 777, 810, 833, 856, 879], [128, 619, 22, 39, 46, 53, 80, 107, 154, 161, 178, 185, 202, 219, 256, 263, 290, 317, 324, 351, 368, 385, 432, 469, 506, 533, 560, 577, 594, 611], 0, 0), (160, .aload_n 1, [], 0, 0), (161, .aload_n 0, [], 0, 0),
  (162, .iload_n 3, [], 0, 0), (163, .iconst 1, [], 1, 0), (164, .iadd, [], 0, 0), (165, .iaload, [], 0, 0), (166, .invokevirtual 13, [53, 0, 287], 0, 0), (169, .aload_n 2, [], 0, 0),
  (170, .aload_n 0, [], 0, 0), (171, .iload_n 3, [], 0, 0), (172, .iconst 1, [], 1, 0), (173, .iadd, [], 0, 0), (174, .iaload, [], 0, 0), (175, .invokevirtual 17, [117, 0, 807], 0, 0),
  (178, .if_icmp .eq 747, [619], 0, 0), (181, .iconst 0, [], 0, 0), (182, .ireturn, [], 0, 0), (183, .aload_n 1, [], 0, 0), (184, .invokevirtual 18, [54, 0, 298], 0, 0), (187, .aload_n 2, [], 0, 0),
  (188, .invokevirtual 22, [118, 0, 814], 0, 0), (191, .if_icmp .eq 734, [619], 0, 0), (194, .iconst 0, [], 0, 0), (195, .ireturn, [], 0, 0), (196, .aload_n 1, [], 0, 0), (197, .invokevirtual 23, [55, 0, 302], 0, 0),
  (200, .aload_n 2, [], 0, 0), (201, .invokevirtual 26, [127, 0, 818], 0, 0), (204, .if_icmp .eq 721, [619], 0, 0), (207, .iconst 0, [], 0, 0), (208, .ireturn, [], 0, 0), (209, .aload_n 1, [], 0, 0),
  (210, .aload_n 0, [], 0, 0), (211, .iload_n 3, [], 0, 0), (212, .iconst 1, [], 1, 0), (213, .iadd, [], 0, 0), (214, .iaload, [], 0, 0), (215, .aload_n 0, [], 0, 0),
  (216, .iload_n 3, [], 0, 0), (217, .iconst 2, [], 2, 0), (218, .iadd, [], 0, 0), (219, .iaload, [], 0, 0), (220, .invokevirtual 27, [56, 0, 375], 0, 0), (223, .aload_n 2, [], 0, 0),
  (224, .aload_n 0, [], 0, 0), (225, .iload_n 3, [], 0, 0), (226, .iconst 1, [], 1, 0), (227, .iadd, [], 0, 0), (228, .iaload, [], 0, 0), (229, .aload_n 0, [], 0, 0),
  (230, .iload_n 3, [], 0, 0), (231, .iconst 2, [], 2, 0), (232, .iadd, [], 0, 0), (233, .iaload, [], 0, 0), (234, .invokevirtual 31, [129, 0, 860], 0, 0), (237, .if_icmp .eq 688, [619], 0, 0),
  (240, .iconst 0, [], 0, 0), (241, .ireturn, [], 0, 0), (242, .aload_n 1, [], 0, 0), (243, .aload_n 0, [], 0, 0), (244, .iload_n 3, [], 0, 0), (245, .iconst 1, [], 1, 0),
  (246, .iadd, [], 0, 0), (247, .iaload, [], 0, 0), (248, .aload_n 0, [], 0, 0), (249, .iload_n 3, [], 0, 0), (250, .iconst 2, [], 2, 0), (251, .iadd, [], 0, 0),
  (252, .iaload, [], 0, 0), (253, .invokevirtual 32, [57, 0, 387], 0, 0), (256, .aload_n 2, [], 0, 0), (257, .aload_n 0, [], 0, 0), (258, .iload_n 3, [], 0, 0), (259, .iconst 1, [], 1, 0),
  (260, .iadd, [], 0, 0), (261, .iaload, [], 0, 0), (262, .aload_n 0, [], 0, 0), (263, .iload_n 3, [], 0, 0), (264, .iconst 2, [], 2, 0), (265, .iadd, [], 0, 0),
  (266, .iaload, [], 0, 0), (267, .invokevirtual 35, [130, 0, 872], 0, 0), (270, .if_icmp .eq 655, [619], 0, 0), (273, .iconst 0, [], 0, 0), (274, .ireturn, [], 0, 0), (275, .aload_n 1, [], 0, 0),
  (276, .aload_n 0, [], 0, 0), (277, .iload_n 3, [], 0, 0), (278, .iconst 1, [], 1, 0), (279, .iadd, [], 0, 0), (280, .iaload, [], 0, 0), (281, .aload_n 0, [], 0, 0),
  (282, .iload_n 3, [], 0, 0), (283, .iconst 2, [], 2, 0), (284, .iadd, [], 0, 0), (285, .iaload, [], 0, 0), (286, .aload_n 0, [], 0, 0), (287, .iload_n 3, [], 0, 0),
  (288, .iconst 3, [], 3, 0), (289, .iadd, [], 0, 0), (290, .iaload, [], 0, 0), (291, .aload_n 0, [], 0, 0), (292, .iload_n 3, [], 0, 0), (293, .iconst 4, [], 4, 0),
  (294, .iadd, [], 0, 0), (295, .iaload, [], 0, 0), (296, .invokevirtual 36, [58, 0, 401], 0, 0), (299, .aload_n 2, [], 0, 0), (300, .aload_n 0, [], 0, 0), (301, .iload_n 3, [], 0, 0),
  (302, .iconst 1, [], 1, 0), (303, .iadd, [], 0, 0), (304, .iaload, [], 0, 0), (305, .aload_n 0, [], 0, 0), (306, .iload_n 3, [], 0, 0), (307, .iconst 2, [], 2, 0),
  (308, .iadd, [], 0, 0), (309, .iaload, [], 0, 0), (310, .aload_n 0, [], 0, 0), (311, .iload_n 3, [], 0, 0), (312, .iconst 3, [], 3, 0), (313, .iadd, [], 0, 0),
  (314, .iaload, [], 0, 0), (315, .aload_n 0, [], 0, 0), (316, .iload_n 3, [], 0, 0), (317, .iconst 4, [], 4, 0), (318, .iadd, [], 0, 0), (319, .iaload, [], 0, 0),
  (320, .invokevirtual 40, [131, 0, 880], 0, 0), (323, .if_icmp .eq 602, [619], 0, 0), (326, .iconst 0, [], 0, 0), (327, .ireturn, [], 0, 0), (328, .aload_n 1, [], 0, 0), (329, .invokevirtual 41, [59, 0, 410], 0, 0),
  (332, .aload_n 2, [], 0, 0), (333, .invokevirtual 44, [132, 0, 890], 0, 0), (336, .if_icmp .eq 589, [619], 0, 0), (339, .iconst 0, [], 0, 0), (340, .ireturn, [], 0, 0), (341, .aload_n 1, [], 0, 0),
  (342, .aload_n 0, [], 0, 0), (343, .iload_n 3, [], 0, 0), (344, .iconst 1, [], 1, 0), (345, .iadd, [], 0, 0), (346, .iaload, [], 0, 0), (347, .invokevirtual 45, [60, 0, 414], 0, 0),
  (350, .aload_n 2, [], 0, 0), (351, .aload_n 0, [], 0, 0), (352, .iload_n 3, [], 0, 0), (353, .iconst 1, [], 1, 0), (354, .iadd, [], 0, 0), (355, .iaload, [], 0, 0),
  (356, .invokevirtual 48, [139, 0, 894], 0, 0), (359, .if_icmp .eq 566, [619], 0, 0), (362, .iconst 0, [], 0, 0), (363, .ireturn, [], 0, 0), (364, .aload_n 1, [], 0, 0), (365, .invokevirtual 49, [61, 0, 457], 0, 0),
  (368, .aload_n 2, [], 0, 0), (369, .invokevirtual 52, [140, 0, 922], 0, 0), (372, .if_icmp .eq 553, [619], 0, 0), (375, .iconst 0, [], 0, 0), (376, .ireturn, [], 0, 0), (377, .aload_n 1, [], 0, 0),
  (378, .aload_n 0, [], 0, 0), (379, .iload_n 3, [], 0, 0), (380, .iconst 1, [], 1, 0), (381, .iadd, [], 0, 0), (382, .iaload, [], 0, 0), (383, .invokevirtual 53, [62, 0, 461], 0, 0),
  (386, .aload_n 2, [], 0, 0), (387, .aload_n 0, [], 0, 0), (388, .iload_n 3, [], 0, 0), (389, .iconst 1, [], 1, 0), (390, .iadd, [], 0, 0), (391, .iaload, [], 0, 0),
  (392, .invokevirtual 56, [145, 0, 926], 0, 0), (395, .if_icmp .eq 530, [619], 0, 0), (398, .iconst 0, [], 0, 0), (399, .ireturn, [], 0, 0), (400, .aload_n 1, [], 0, 0), (401, .aload_n 0, [], 0, 0),
  (402, .iload_n 3, [], 0, 0), (403, .iconst 1, [], 1, 0), (404, .iadd, [], 0, 0), (405, .iaload, [], 0, 0), (406, .invokevirtual 57, [63, 0, 519], 0, 0), (409, .aload_n 2, [], 0, 0),
  (410, .aload_n 0, [], 0, 0), (411, .iload_n 3, [], 0, 0), (412, .iconst 1, [], 1, 0), (413, .iadd, [], 0, 0), (414, .iaload, [], 0, 0), (415, .invokevirtual 60, [147, 0, 946], 0, 0),
  (418, .if_icmp .eq 507, [619], 0, 0), (421, .iconst 0, [], 0, 0), (422, .ireturn, [], 0, 0), (423, .aload_n 1, [], 0, 0), (424, .aload_n 0, [], 0, 0), (425, .iload_n 3, [], 0, 0),
  (426, .iconst 1, [], 1, 0), (427, .iadd, [], 0, 0), (428, .iaload, [], 0, 0), (429, .aload_n 0, [], 0, 0), (430, .iload_n 3, [], 0, 0), (431, .iconst 2, [], 2, 0),
  (432, .iadd, [], 0, 0), (433, .iaload, [], 0, 0), (434, .aload_n 0, [], 0, 0), (435, .iload_n 3, [], 0, 0), (436, .iconst 3, [], 3, 0), (437, .iadd, [], 0, 0),
  (438, .iaload, [], 0, 0), (439, .invokevirtual 61, [64, 0, 527], 0, 0), (442, .aload_n 2, [], 0, 0), (443, .aload_n 0, [], 0, 0), (444, .iload_n 3, [], 0, 0), (445, .iconst 1, [], 1, 0),
  (446, .iadd, [], 0, 0), (447, .iaload, [], 0, 0), (448, .aload_n 0, [], 0, 0), (449, .iload_n 3, [], 0, 0), (450, .iconst 2, [], 2, 0), (451, .iadd, [], 0, 0),
  (452, .iaload, [], 0, 0), (453, .aload_n 0, [], 0, 0), (454, .iload_n 3, [], 0, 0), (455, .iconst 3, [], 3, 0), (456, .iadd, [], 0, 0), (457, .iaload, [], 0, 0),
  (458, .invokevirtual 65, [148, 0, 954], 0, 0), (461, .if_icmp .eq 464, [619], 0, 0), (464, .iconst 0, [], 0, 0), (465, .ireturn, [], 0, 0), (466, .aload_n 1, [], 0, 0), (467, .invokevirtual 66, [65, 0, 538], 0, 0),
  (470, .aload_n 2, [], 0, 0), (471, .invokevirtual 69, [150, 0, 958], 0, 0), (474, .if_icmp .eq 451, [619], 0, 0), (477, .iconst 0, [], 0, 0), (478, .ireturn, [], 0, 0), (479, .aload_n 1, [], 0, 0),
  (480, .aload_n 0, [], 0, 0), (481, .iload_n 3, [], 0, 0), (482, .iconst 1, [], 1, 0), (483, .iadd, [], 0, 0), (484, .iaload, [], 0, 0), (485, .aload_n 0, [], 0, 0),
  (486, .iload_n 3, [], 0, 0), (487, .iconst 2, [], 2, 0), (488, .iadd, [], 0, 0), (489, .iaload, [], 0, 0), (490, .invokevirtual 70, [66, 0, 555], 0, 0), (493, .aload_n 2, [], 0, 0),
  (494, .aload_n 0, [], 0, 0), (495, .iload_n 3, [], 0, 0), (496, .iconst 1, [], 1, 0), (497, .iadd, [], 0, 0), (498, .iaload, [], 0, 0), (499, .aload_n 0, [], 0, 0),
  (500, .iload_n 3, [], 0, 0), (501, .iconst 2, [], 2, 0), (502, .iadd, [], 0, 0), (503, .iaload, [], 0, 0), (504, .invokevirtual 73, [151, 0, 966], 0, 0), (507, .if_icmp .eq 418, [619], 0, 0),
  (510, .iconst 0, [], 0, 0), (511, .ireturn, [], 0, 0), (512, .aload_n 1, [], 0, 0), (513, .aload_n 0, [], 0, 0), (514, .iload_n 3, [], 0, 0), (515, .iconst 1, [], 1, 0),
  (516, .iadd, [], 0, 0), (517, .iaload, [], 0, 0), (518, .aload_n 0, [], 0, 0), (519, .iload_n 3, [], 0, 0), (520, .iconst 2, [], 2, 0), (521, .iadd, [], 0, 0),
  (522, .iaload, [], 0, 0), (523, .invokevirtual 74, [67, 0, 563], 0, 0), (526, .aload_n 2, [], 0, 0), (527, .aload_n 0, [], 0, 0), (528, .iload_n 3, [], 0, 0), (529, .iconst 1, [], 1, 0),
  (530, .iadd, [], 0, 0), (531, .iaload, [], 0, 0), (532, .aload_n 0, [], 0, 0), (533, .iload_n 3, [], 0, 0), (534, .iconst 2, [], 2, 0), (535, .iadd, [], 0, 0),
  (536, .iaload, [], 0, 0), (537, .invokevirtual 77, [152, 0, 970], 0, 0), (540, .if_icmp .eq 385, [619], 0, 0), (543, .iconst 0, [], 0, 0), (544, .ireturn, [], 0, 0), (545, .aload_n 1, [], 0, 0),
  (546, .invokevirtual 78, [68, 0, 571], 0, 0), (549, .aload_n 2, [], 0, 0), (550, .invokevirtual 81, [153, 0, 974], 0, 0), (553, .if_icmp .eq 372, [619], 0, 0), (556, .iconst 0, [], 0, 0), (557, .ireturn, [], 0, 0),
  (558, .aload_n 1, [], 0, 0), (559, .aload_n 0, [], 0, 0), (560, .iload_n 3, [], 0, 0), (561, .iconst 1, [], 1, 0), (562, .iadd, [], 0, 0), (563, .iaload, [], 0, 0),
  (564, .aload_n 0, [], 0, 0), (565, .iload_n 3, [], 0, 0), (566, .iconst 2, [], 2, 0), (567, .iadd, [], 0, 0), (568, .iaload, [], 0, 0), (569, .invokevirtual 82, [69, 0, 579], 0, 0),
  (572, .aload_n 2, [], 0, 0), (573, .aload_n 0, [], 0, 0), (574, .iload_n 3, [], 0, 0), (575, .iconst 1, [], 1, 0), (576, .iadd, [], 0, 0), (577, .iaload, [], 0, 0),
  (578, .aload_n 0, [], 0, 0), (579, .iload_n 3, [], 0, 0), (580, .iconst 2, [], 2, 0), (581, .iadd, [], 0, 0), (582, .iaload, [], 0, 0), (583, .invokevirtual 85, [154, 0, 978], 0, 0),
  (586, .if_icmp .eq 339, [619], 0, 0), (589, .iconst 0, [], 0, 0), (590, .ireturn, [], 0, 0), (591, .aload_n 1, [], 0, 0), (592, .aload_n 0, [], 0, 0), (593, .iload_n 3, [], 0, 0),
  (594, .iconst 1, [], 1, 0), (595, .iadd, [], 0, 0), (596, .iaload, [], 0, 0), (597, .invokevirtual 86, [70, 0, 583], 0, 0), (600, .aload_n 2, [], 0, 0), (601, .aload_n 0, [], 0, 0),
  (602, .iload_n 3, [], 0, 0), (603, .iconst 1, [], 1, 0), (604, .iadd, [], 0, 0), (605, .iaload, [], 0, 0), (606, .invokevirtual 89, [159, 0, 982], 0, 0), (609, .if_icmp .eq 316, [619], 0, 0),
  (612, .iconst 0, [], 0, 0), (613, .ireturn, [], 0, 0), (614, .aload_n 1, [], 0, 0), (615, .aload_n 0, [], 0, 0), (616, .iload_n 3, [], 0, 0), (617, .iconst 1, [], 1, 0),
  (618, .iadd, [], 0, 0), (619, .iaload, [], 0, 0), (620, .invokevirtual 90, [71, 0, 603], 0, 0), (623, .aload_n 2, [], 0, 0), (624, .aload_n 0, [], 0, 0), (625, .iload_n 3, [], 0, 0),
  (626, .iconst 1, [], 1, 0), (627, .iadd, [], 0, 0), (628, .iaload, [], 0, 0), (629, .invokevirtual 93, [160, 0, 1002], 0, 0), (632, .if_icmp .eq 293, [619], 0, 0), (635, .iconst 0, [], 0, 0),
  (636, .ireturn, [], 0, 0), (637, .aload_n 1, [], 0, 0), (638, .aload_n 0, [], 0, 0), (639, .iload_n 3, [], 0, 0), (640, .iconst 1, [], 1, 0), (641, .iadd, [], 0, 0),
  (642, .iaload, [], 0, 0), (643, .aload_n 0, [], 0, 0), (644, .iload_n 3, [], 0, 0), (645, .iconst 2, [], 2, 0), (646, .iadd, [], 0, 0), (647, .iaload, [], 0, 0),
  (648, .aload_n 0, [], 0, 0), (649, .iload_n 3, [], 0, 0), (650, .iconst 3, [], 3, 0), (651, .iadd, [], 0, 0), (652, .iaload, [], 0, 0), (653, .aload_n 0, [], 0, 0),
  (654, .iload_n 3, [], 0, 0), (655, .iconst 4, [], 4, 0), (656, .iadd, [], 0, 0), (657, .iaload, [], 0, 0), (658, .invokevirtual 94, [72, 0, 607], 0, 0), (661, .aload_n 2, [], 0, 0),
  (662, .aload_n 0, [], 0, 0), (663, .iload_n 3, [], 0, 0), (664, .iconst 1, [], 1, 0), (665, .iadd, [], 0, 0), (666, .iaload, [], 0, 0), (667, .aload_n 0, [], 0, 0),
  (668, .iload_n 3, [], 0, 0), (669, .iconst 2, [], 2, 0), (670, .iadd, [], 0, 0), (671, .iaload, [], 0, 0), (672, .aload_n 0, [], 0, 0), (673, .iload_n 3, [], 0, 0),
  (674, .iconst 3, [], 3, 0), (675, .iadd, [], 0, 0), (676, .iaload, [], 0, 0), (677, .aload_n 0, [], 0, 0), (678, .iload_n 3, [], 0, 0), (679, .iconst 4, [], 4, 0),
  (680, .iadd, [], 0, 0), (681, .iaload, [], 0, 0), (682, .invokevirtual 97, [162, 0, 1006], 0, 0), (685, .if_icmp .eq 240, [619], 0, 0), (688, .iconst 0, [], 0, 0), (689, .ireturn, [], 0, 0),
  (690, .aload_n 1, [], 0, 0), (691, .aload_n 0, [], 0, 0), (692, .iload_n 3, [], 0, 0), (693, .iconst 1, [], 1, 0), (694, .iadd, [], 0, 0), (695, .iaload, [], 0, 0),
  (696, .aload_n 0, [], 0, 0), (697, .iload_n 3, [], 0, 0), (698, .iconst 2, [], 2, 0), (699, .iadd, [], 0, 0), (700, .iaload, [], 0, 0), (701, .aload_n 0, [], 0, 0),
  (702, .iload_n 3, [], 0, 0), (703, .iconst 3, [], 3, 0), (704, .iadd, [], 0, 0), (705, .iaload, [], 0, 0), (706, .invokevirtual 98, [73, 0, 611], 0, 0), (709, .aload_n 2, [], 0, 0),
  (710, .aload_n 0, [], 0, 0), (711, .iload_n 3, [], 0, 0), (712, .iconst 1, [], 1, 0), (713, .iadd, [], 0, 0), (714, .iaload, [], 0, 0), (715, .aload_n 0, [], 0, 0),
  (716, .iload_n 3, [], 0, 0), (717, .iconst 2, [], 2, 0), (718, .iadd, [], 0, 0), (719, .iaload, [], 0, 0), (720, .aload_n 0, [], 0, 0), (721, .iload_n 3, [], 0, 0),
  (722, .iconst 3, [], 3, 0), (723, .iadd, [], 0, 0), (724, .iaload, [], 0, 0), (725, .invokevirtual 101, [163, 0, 1014], 0, 0), (728, .if_icmp .eq 197, [619], 0, 0), (731, .iconst 0, [], 0, 0),
  (732, .ireturn, [], 0, 0), (733, .aload_n 1, [], 0, 0), (734, .aload_n 0, [], 0, 0), (735, .iload_n 3, [], 0, 0), (736, .iconst 1, [], 1, 0), (737, .iadd, [], 0, 0),
  (738, .iaload, [], 0, 0), (739, .aload_n 0, [], 0, 0), (740, .iload_n 3, [], 0, 0), (741, .iconst 2, [], 2, 0), (742, .iadd, [], 0, 0), (743, .iaload, [], 0, 0),
  (744, .aload_n 0, [], 0, 0), (745, .iload_n 3, [], 0, 0), (746, .iconst 3, [], 3, 0), (747, .iadd, [], 0, 0), (748, .iaload, [], 0, 0), (749, .invokevirtual 102, [74, 0, 619], 0, 0),
  (752, .aload_n 2, [], 0, 0), (753, .aload_n 0, [], 0, 0), (754, .iload_n 3, [], 0, 0), (755, .iconst 1, [], 1, 0), (756, .iadd, [], 0, 0), (757, .iaload, [], 0, 0),
  (758, .aload_n 0, [], 0, 0), (759, .iload_n 3, [], 0, 0), (760, .iconst 2, [], 2, 0), (761, .iadd, [], 0, 0), (762, .iaload, [], 0, 0), (763, .aload_n 0, [], 0, 0),
  (764, .iload_n 3, [], 0, 0), (765, .iconst 3, [], 3, 0), (766, .iadd, [], 0, 0), (767, .iaload, [], 0, 0), (768, .invokevirtual 105, [165, 0, 1018], 0, 0), (771, .if_icmp .eq 154, [619], 0, 0),
  (774, .iconst 0, [], 0, 0), (775, .ireturn, [], 0, 0), (776, .aload_n 1, [], 0, 0), (777, .aload_n 0, [], 0, 0), (778, .iload_n 3, [], 0, 0), (779, .iconst 1, [], 1, 0),
  (780, .iadd, [], 0, 0), (781, .iaload, [], 0, 0), (782, .aload_n 0, [], 0, 0), (783, .iload_n 3, [], 0, 0), (784, .iconst 2, [], 2, 0), (785, .iadd, [], 0, 0),
  (786, .iaload, [], 0, 0), (787, .invokevirtual 106, [75, 0, 635], 0, 0), (790, .aload_n 2, [], 0, 0), (791, .aload_n 0, [], 0, 0), (792, .iload_n 3, [], 0, 0), (793, .iconst 1, [], 1, 0),
  (794, .iadd, [], 0, 0), (795, .iaload, [], 0, 0), (796, .aload_n 0, [], 0, 0), (797, .iload_n 3, [], 0, 0), (798, .iconst 2, [], 2, 0), (799, .iadd, [], 0, 0),
  (800, .iaload, [], 0, 0), (801, .invokevirtual 109, [166, 0, 1027], 0, 0), (804, .if_icmp .eq 121, [619], 0, 0), (807, .iconst 0, [], 0, 0), (808, .ireturn, [], 0, 0), (809, .aload_n 1, [], 0, 0),
  (810, .aload_n 0, [], 0, 0), (811, .iload_n 3, [], 0, 0), (812, .iconst 1, [], 1, 0), (813, .iadd, [], 0, 0), (814, .iaload, [], 0, 0), (815, .aload_n 0, [], 0, 0),
  (816, .iload_n 3, [], 0, 0), (817, .iconst 2, [], 2, 0), (818, .iadd, [], 0, 0), (819, .iaload, [], 0, 0), (820, .invokevirtual 110, [76, 0, 643], 0, 0), (823, .aload_n 2, [], 0, 0),
  (824, .aload_n 0, [], 0, 0), (825, .iload_n 3, [], 0, 0), (826, .iconst 1, [], 1, 0), (827, .iadd, [], 0, 0), (828, .iaload, [], 0, 0), (829, .aload_n 0, [], 0, 0),
  (830, .iload_n 3, [], 0, 0), (831, .iconst 2, [], 2, 0), (832, .iadd, [], 0, 0), (833, .iaload, [], 0, 0), (834, .invokevirtual 113, [171, 0, 1031], 0, 0), (837, .if_icmp .eq 88, [619], 0, 0),
  (840, .iconst 0, [], 0, 0), (841, .ireturn, [], 0, 0), (842, .aload_n 1, [], 0, 0), (843, .aload_n 0, [], 0, 0), (844, .iload_n 3, [], 0, 0), (845, .iconst 1, [], 1, 0),
  (846, .iadd, [], 0, 0), (847, .iaload, [], 0, 0), (848, .invokevirtual 114, [77, 0, 691], 0, 0), (851, .aload_n 2, [], 0, 0), (852, .aload_n 0, [], 0, 0), (853, .iload_n 3, [], 0, 0),
  (854, .iconst 1, [], 1, 0), (855, .iadd, [], 0, 0), (856, .iaload, [], 0, 0), (857, .invokevirtual 117, [172, 0, 1057], 0, 0), (860, .if_icmp .eq 65, [619], 0, 0), (863, .iconst 0, [], 0, 0),
  (864, .ireturn, [], 0, 0), (865, .aload_n 1, [], 0, 0), (866, .aload_n 0, [], 0, 0), (867, .iload_n 3, [], 0, 0), (868, .iconst 1, [], 1, 0), (869, .iadd, [], 0, 0),
  (870, .iaload, [], 0, 0), (871, .invokevirtual 118, [78, 0, 703], 0, 0), (874, .aload_n 2, [], 0, 0), (875, .aload_n 0, [], 0, 0), (876, .iload_n 3, [], 0, 0), (877, .iconst 1, [], 1, 0),
  (878, .iadd, [], 0, 0), (879, .iaload, [], 0, 0), (880, .invokevirtual 121, [173, 0, 1061], 0, 0), (883, .if_icmp .eq 42, [619], 0, 0), (886, .iconst 0, [], 0, 0), (887, .ireturn, [], 0, 0),
  (888, .aload_n 1, [], 0, 0), (889, .aload_n 0, [], 0, 0), (890, .iload_n 3, [], 0, 0), (891, .iconst 1, [], 1, 0), (892, .iadd, [], 0, 0), (893, .iaload, [], 0, 0),
  (894, .invokevirtual 122, [79, 0, 707], 0, 0), (897, .aload_n 2, [], 0, 0), (898, .aload_n 0, [], 0, 0), (899, .iload_n 3, [], 0, 0), (900, .iconst 1, [], 1, 0), (901, .iadd, [], 0, 0),
  (902, .iaload, [], 0, 0), (903, .invokevirtual 125, [174, 0, 1065], 0, 0), (906, .if_icmp .eq 19, [619], 0, 0), (909, .iconst 0, [], 0, 0), (910, .ireturn, [], 0, 0), (911, .aload_n 1, [], 0, 0),
  (912, .invokevirtual 126, [80, 0, 711], 0, 0), (915, .aload_n 2, [], 0, 0), (916, .invokevirtual 130, [175, 0, 1069], 0, 0), (919, .lcmp, [], 0, 0), (920, .ifCond .eq 5, [619], 0, 0), (923, .iconst 0, [], 0, 0),
  (924, .ireturn, [], 0, 0), (925, .iinc 3 5, [], 5, 0), (928, .goto (-910), [10], 0, 0), (931, .iconst 1, [], 1, 0), (932, .ireturn, [], 0, 0)]
def am_K1 : List am_E := [(0, .aload_n 0, [], 0, 0), (1, .invokespecial 3, [9999, 0, 188, 82, 83], 0, 0), (4, .aload_n 0, [], 0, 0), (5, .bipush 10, [], 10, 0), (7, .newarray .int, [130], 0, 0), (9, .putfield 9, [0, 4, 196], 0, 0),
  (12, .aload_n 0, [], 0, 0), (13, .bipush 10, [], 10, 0), (15, .newarray .int, [130], 0, 0), (17, .putfield 15, [0, 5, 198], 0, 0), (20, .aload_n 0, [], 0, 0), (21, .bipush 10, [], 10, 0),
  (23, .newarray .int, [130], 0, 0), (25, .putfield 18, [0, 6, 200], 0, 0), (28, .aload_n 0, [], 0, 0), (29, .bipush 10, [], 10, 0), (31, .newarray .int, [130], 0, 0), (33, .putfield 21, [0, 7, 202], 0, 0),
  (36, .aload_n 0, [], 0, 0), (37, .bipush 6, [], 6, 0), (39, .newarray .int, [130], 0, 0), (41, .putfield 24, [0, 8, 204], 0, 0), (44, .aload_n 0, [], 0, 0), (45, .bipush 10, [], 10, 0),
  (47, .newarray .int, [130], 0, 0), (49, .putfield 27, [0, 9, 205], 0, 0), (52, .aload_n 0, [], 0, 0), (53, .bipush 10, [], 10, 0), (55, .newarray .int, [130], 0, 0), (57, .putfield 30, [0, 10, 206], 0, 0),
  (60, .aload_n 0, [], 0, 0), (61, .bipush 10, [], 10, 0), (63, .newarray .int, [130], 0, 0), (65, .putfield 33, [0, 11, 207], 0, 0), (68, .return_, [], 0, 0)]
def am_K2 : List am_E := [(0, .aload_n 0, [], 0, 0), (1, .iconst 0, [], 0, 0), (2, .putfield 36, [0, 1, 190], 0, 0), (5, .aload_n 0, [], 0, 0), (6, .iconst 0, [], 0, 0), (7, .putfield 40, [0, 2, 192], 0, 0),
  (10, .aload_n 0, [], 0, 0), (11, .iconst 0, [], 0, 0), (12, .putfield 43, [0, 3, 194], 0, 0), (15, .aload_n 1, [], 0, 0), (16, .getfield 46, [4, 3, 108], 0, 0), (19, .aload_n 0, [], 0, 0),
  (20, .getfield 24, [0, 8, 204], 0, 0), (23, .invokestatic 51, [84, 1, 3], 0, 0), (26, .return_, [], 0, 0)]
def am_K3 : List am_E := [(0, .aload_n 0, [], 0, 0), (1, .aload_n 1, [], 0, 0), (2, .getfield 36, [0, 1, 190], 0, 0), (5, .putfield 36, [0, 1, 190], 0, 0), (8, .aload_n 0, [], 0, 0), (9, .aload_n 1, [], 0, 0),
  (10, .getfield 40, [0, 2, 192], 0, 0), (13, .putfield 40, [0, 2, 192], 0, 0), (16, .aload_n 0, [], 0, 0), (17, .aload_n 1, [], 0, 0), (18, .getfield 43, [0, 3, 194], 0, 0), (21, .putfield 43, [0, 3, 194], 0, 0),
  (24, .aload_n 1, [], 0, 0), (25, .getfield 9, [0, 4, 196], 0, 0), (28, .aload_n 0, [], 0, 0), (29, .getfield 9, [0, 4, 196], 0, 0), (32, .invokestatic 51, [84, 1, 3], 0, 0), (35, .aload_n 1, [], 0, 0),
  (36, .getfield 15, [0, 5, 198], 0, 0), (39, .aload_n 0, [], 0, 0), (40, .getfield 15, [0, 5, 198], 0, 0), (43, .invokestatic 51, [84, 1, 3], 0, 0), (46, .aload_n 1, [], 0, 0), (47, .getfield 18, [0, 6, 200], 0, 0),
  (50, .aload_n 0, [], 0, 0), (51, .getfield 18, [0, 6, 200], 0, 0), (54, .invokestatic 51, [84, 1, 3], 0, 0), (57, .aload_n 1, [], 0, 0), (58, .getfield 21, [0, 7, 202], 0, 0), (61, .aload_n 0, [], 0, 0),
  (62, .getfield 21, [0, 7, 202], 0, 0), (65, .invokestatic 51, [84, 1, 3], 0, 0), (68, .aload_n 1, [], 0, 0), (69, .getfield 24, [0, 8, 204], 0, 0), (72, .aload_n 0, [], 0, 0), (73, .getfield 24, [0, 8, 204], 0, 0),
  (76, .invokestatic 51, [84, 1, 3], 0, 0), (79, .aload_n 1, [], 0, 0), (80, .getfield 27, [0, 9, 205], 0, 0), (83, .aload_n 0, [], 0, 0), (84, .getfield 27, [0, 9, 205], 0, 0), (87, .invokestatic 51, [84, 1, 3], 0, 0),
  (90, .aload_n 1, [], 0, 0), (91, .getfield 30, [0, 10, 206], 0, 0), (94, .aload_n 0, [], 0, 0), (95, .getfield 30, [0, 10, 206], 0, 0), (98, .invokestatic 51, [84, 1, 3], 0, 0), (101, .aload_n 1, [], 0, 0),
  (102, .getfield 33, [0, 11, 207], 0, 0), (105, .aload_n 0, [], 0, 0), (106, .getfield 33, [0, 11, 207], 0, 0), (109, .invokestatic 51, [84, 1, 3], 0, 0), (112, .return_, [], 0, 0)]
def am_K4 : List am_E := [(0, .aload_n 0, [], 0, 0), (1, .getfield 24, [0, 8, 204], 0, 0), (4, .iload_n 1, [], 0, 0), (5, .invokestatic 55, [83, 1, 4], 0, 0), (8, .ireturn, [], 0, 0)]
def am_K5 : List am_E := [(0, .aload_n 0, [], 0, 0), (1, .iconst 0, [], 0, 0), (2, .iconst 0, [], 0, 0), (3, .invokevirtual 59, [8, 0, 546], 0, 0), (6, .aload_n 0, [], 0, 0), (7, .dup, [], 0, 0),
  (8, .getfield 36, [0, 1, 190], 0, 0), (11, .iconst 1, [], 1, 0), (12, .iadd, [], 0, 0), (13, .putfield 36, [0, 1, 190], 0, 0), (16, .return_, [], 0, 0)]
def am_K6 : List am_E := [(0, .aload_n 0, [], 0, 0), (1, .getfield 40, [0, 2, 192], 0, 0), (4, .ifCond .lt 75, [44], 0, 0), (7, .aload_n 0, [], 0, 0), (8, .getfield 40, [0, 2, 192], 0, 0), (11, .bipush 10, [], 10, 0),
  (13, .if_icmp .ge 66, [44], 0, 0), (16, .aload_n 0, [], 0, 0), (17, .iconst 1, [], 1, 0), (18, .iload_n 1, [], 0, 0), (19, .invokevirtual 59, [8, 0, 546], 0, 0), (22, .aload_n 0, [], 0, 0),
  (23, .getfield 9, [0, 4, 196], 0, 0), (26, .aload_n 0, [], 0, 0), (27, .getfield 40, [0, 2, 192], 0, 0), (30, .iload_n 1, [], 0, 0), (31, .iastore, [], 0, 0), (32, .aload_n 0, [], 0, 0),
  (33, .getfield 15, [0, 5, 198], 0, 0), (36, .aload_n 0, [], 0, 0), (37, .getfield 40, [0, 2, 192], 0, 0), (40, .iload_n 2, [], 0, 0), (41, .iastore, [], 0, 0), (42, .aload_n 0, [], 0, 0),
  (43, .getfield 18, [0, 6, 200], 0, 0), (46, .aload_n 0, [], 0, 0), (47, .getfield 40, [0, 2, 192], 0, 0), (50, .aload_n 0, [], 0, 0), (51, .getfield 36, [0, 1, 190], 0, 0), (54, .iastore, [], 0, 0),
  (55, .aload_n 0, [], 0, 0), (56, .getfield 21, [0, 7, 202], 0, 0), (59, .aload_n 0, [], 0, 0), (60, .getfield 40, [0, 2, 192], 0, 0), (63, .aload_n 0, [], 0, 0), (64, .iload_n 1, [], 0, 0),
  (65, .invokevirtual 63, [4, 0, 554], 0, 0), (68, .iastore, [], 0, 0), (69, .aload_n 0, [], 0, 0), (70, .dup, [], 0, 0), (71, .getfield 40, [0, 2, 192], 0, 0), (74, .iconst 1, [], 1, 0),
  (75, .iadd, [], 0, 0), (76, .putfield 40, [0, 2, 192], 0, 0), (79, .return_, [], 0, 0)]
def am_K7 : List am_E := [(0, .iload_n 1, [], 0, 0), (1, .ifCond .lt 25, [16], 0, 0), (4, .iload_n 1, [], 0, 0), (5, .aload_n 0, [], 0, 0), (6, .getfield 24, [0, 8, 204], 0, 0), (9, .arraylength, [], 0, 0),
  (10, .if_icmp .ge 16, [16], 0, 0), (13, .aload_n 0, [], 0, 0), (14, .iconst 2, [], 2, 0), (15, .iload_n 1, [], 0, 0), (16, .invokevirtual 59, [8, 0, 546], 0, 0), (19, .aload_n 0, [], 0, 0),
  (20, .getfield 24, [0, 8, 204], 0, 0), (23, .iload_n 1, [], 0, 0), (24, .iload_n 2, [], 0, 0), (25, .iastore, [], 0, 0), (26, .return_, [], 0, 0)]
def am_K8 : List am_E := [(0, .aload_n 0, [], 0, 0), (1, .getfield 43, [0, 3, 194], 0, 0), (4, .bipush 10, [], 10, 0), (6, .if_icmp .lt 7, [6], 0, 0), (9, .aload_n 0, [], 0, 0), (10, .invokevirtual 67, [9, 0, 550], 0, 0),
  (13, .aload_n 0, [], 0, 0), (14, .getfield 43, [0, 3, 194], 0, 0), (17, .ifCond .lt 56, [39], 0, 0), (20, .aload_n 0, [], 0, 0), (21, .getfield 43, [0, 3, 194], 0, 0), (24, .bipush 10, [], 10, 0),
  (26, .if_icmp .ge 47, [39], 0, 0), (29, .aload_n 0, [], 0, 0), (30, .getfield 27, [0, 9, 205], 0, 0), (33, .aload_n 0, [], 0, 0), (34, .getfield 43, [0, 3, 194], 0, 0), (37, .iload_n 1, [], 0, 0),
  (38, .iastore, [], 0, 0), (39, .aload_n 0, [], 0, 0), (40, .getfield 30, [0, 10, 206], 0, 0), (43, .aload_n 0, [], 0, 0), (44, .getfield 43, [0, 3, 194], 0, 0), (47, .iload_n 2, [], 0, 0),
  (48, .iastore, [], 0, 0), (49, .aload_n 0, [], 0, 0), (50, .getfield 33, [0, 11, 207], 0, 0), (53, .aload_n 0, [], 0, 0), (54, .getfield 43, [0, 3, 194], 0, 0), (57, .aload_n 0, [], 0, 0),
  (58, .iload_n 2, [], 0, 0), (59, .invokevirtual 63, [4, 0, 554], 0, 0), (62, .iastore, [], 0, 0), (63, .aload_n 0, [], 0, 0), (64, .dup, [], 0, 0), (65, .getfield 43, [0, 3, 194], 0, 0),
  (68, .iconst 1, [], 1, 0), (69, .iadd, [], 0, 0), (70, .putfield 43, [0, 3, 194], 0, 0), (73, .return_, [], 0, 0)]
def am_K9 : List am_E := [(0, .iconst 1, [], 1, 0), (1, .istore_n 1, [], 0, 0), (2, .iload_n 1, [], 0, 0), (3, .bipush 10, [], 10, 0), (5, .if_icmp .ge 51, [37], 0, 0), (8, .aload_n 0, [], 0, 0),
  (9, .getfield 27, [0, 9, 205], 0, 0), (12, .iload_n 1, [], 0, 0), (13, .iconst 1, [], 1, 0), (14, .isub, [], 0, 0), (15, .aload_n 0, [], 0, 0), (16, .getfield 27, [0, 9, 205], 0, 0),
  (19, .iload_n 1, [], 0, 0), (20, .iaload, [], 0, 0), (21, .iastore, [], 0, 0), (22, .aload_n 0, [], 0, 0), (23, .getfield 30, [0, 10, 206], 0, 0), (26, .iload_n 1, [], 0, 0),
  (27, .iconst 1, [], 1, 0), (28, .isub, [], 0, 0), (29, .aload_n 0, [], 0, 0), (30, .getfield 30, [0, 10, 206], 0, 0), (33, .iload_n 1, [], 0, 0), (34, .iaload, [], 0, 0),
  (35, .iastore, [], 0, 0), (36, .aload_n 0, [], 0, 0), (37, .getfield 33, [0, 11, 207], 0, 0), (40, .iload_n 1, [], 0, 0), (41, .iconst 1, [], 1, 0), (42, .isub, [], 0, 0),
  (43, .aload_n 0, [], 0, 0), (44, .getfield 33, [0, 11, 207], 0, 0), (47, .iload_n 1, [], 0, 0), (48, .iaload, [], 0, 0), (49, .iastore, [], 0, 0), (50, .iinc 1 1, [], 1, 0),
  (53, .goto (-51), [2], 0, 0), (56, .aload_n 0, [], 0, 0), (57, .bipush 9, [], 9, 0), (59, .putfield 43, [0, 3, 194], 0, 0), (62, .return_, [], 0, 0)]
def am_K10 : List am_E := [(0, .aload_n 0, [], 0, 0), (1, .dup, [], 0, 0), (2, .getfield 43, [0, 3, 194], 0, 0), (5, .iconst 1, [], 1, 0), (6, .isub, [], 0, 0), (7, .putfield 43, [0, 3, 194], 0, 0),
  (10, .aload_n 0, [], 0, 0), (11, .getfield 27, [0, 9, 205], 0, 0), (14, .aload_n 0, [], 0, 0), (15, .getfield 43, [0, 3, 194], 0, 0), (18, .invokestatic 55, [83, 1, 4], 0, 0), (21, .istore_n 1, [], 0, 0),
  (22, .aload_n 0, [], 0, 0), (23, .getfield 30, [0, 10, 206], 0, 0), (26, .aload_n 0, [], 0, 0), (27, .getfield 43, [0, 3, 194], 0, 0), (30, .invokestatic 55, [83, 1, 4], 0, 0), (33, .istore_n 2, [], 0, 0),
  (34, .iload_n 1, [], 0, 0), (35, .ifCond .ne 16, [27], 0, 0), (38, .aload_n 0, [], 0, 0), (39, .dup, [], 0, 0), (40, .getfield 36, [0, 1, 190], 0, 0), (43, .iconst 1, [], 1, 0),
  (44, .isub, [], 0, 0), (45, .putfield 36, [0, 1, 190], 0, 0), (48, .goto 51, [53], 0, 0), (51, .iload_n 1, [], 0, 0), (52, .iconst 1, [], 1, 0), (53, .if_icmp .ne 16, [37], 0, 0),
  (56, .aload_n 0, [], 0, 0), (57, .dup, [], 0, 0), (58, .getfield 40, [0, 2, 192], 0, 0), (61, .iconst 1, [], 1, 0), (62, .isub, [], 0, 0), (63, .putfield 40, [0, 2, 192], 0, 0),
  (66, .goto 33, [53], 0, 0), (69, .iload_n 2, [], 0, 0), (70, .ifCond .lt 29, [53], 0, 0), (73, .iload_n 2, [], 0, 0), (74, .aload_n 0, [], 0, 0), (75, .getfield 24, [0, 8, 204], 0, 0),
  (78, .arraylength, [], 0, 0), (79, .if_icmp .ge 20, [53], 0, 0), (82, .aload_n 0, [], 0, 0), (83, .getfield 24, [0, 8, 204], 0, 0), (86, .iload_n 2, [], 0, 0), (87, .aload_n 0, [], 0, 0),
  (88, .getfield 33, [0, 11, 207], 0, 0), (91, .aload_n 0, [], 0, 0), (92, .getfield 43, [0, 3, 194], 0, 0), (95, .invokestatic 55, [83, 1, 4], 0, 0), (98, .iastore, [], 0, 0), (99, .return_, [], 0, 0)]
def am_K11 : List am_E := [(0, .iconst 0, [], 0, 0), (1, .istore_n 2, [], 0, 0), (2, .iconst 0, [], 0, 0), (3, .istore_n 3, [], 0, 0), (4, .iload_n 3, [], 0, 0), (5, .aload_n 0, [], 0, 0),
  (6, .getfield 40, [0, 2, 192], 0, 0), (9, .if_icmp .ge 24, [17], 0, 0), (12, .aload_n 0, [], 0, 0), (13, .getfield 15, [0, 5, 198], 0, 0), (16, .iload_n 3, [], 0, 0), (17, .invokestatic 55, [83, 1, 4], 0, 0),
  (20, .iload_n 1, [], 0, 0), (21, .if_icmp .ne 6, [15], 0, 0), (24, .iinc 2 1, [], 1, 0), (27, .iinc 3 1, [], 1, 0), (30, .goto (-26), [4], 0, 0), (33, .iload_n 2, [], 0, 0),
  (34, .ireturn, [], 0, 0)]
def am_K12 : List am_E := [(0, .aload_n 0, [], 0, 0), (1, .invokespecial 3, [9999, 0, 238, 82, 83], 0, 0), (4, .aload_n 0, [], 0, 0), (5, .bipush 48, [], 48, 0), (7, .newarray .int, [130], 0, 0), (9, .putfield 11, [1, 2, 241], 0, 0),
  (12, .aload_n 0, [], 0, 0), (13, .bipush 48, [], 48, 0), (15, .newarray .int, [130], 0, 0), (17, .putfield 15, [1, 3, 242], 0, 0), (20, .aload_n 0, [], 0, 0), (21, .sipush 256, [], 256, 0),
  (24, .newarray .int, [130], 0, 0), (26, .putfield 18, [1, 4, 243], 0, 0), (29, .aload_n 0, [], 0, 0), (30, .sipush 256, [], 256, 0), (33, .newarray .long, [261], 0, 0), (35, .putfield 21, [1, 5, 244], 0, 0),
  (38, .aload_n 0, [], 0, 0), (39, .sipush 256, [], 256, 0), (42, .newarray .long, [261], 0, 0), (44, .putfield 25, [1, 6, 245], 0, 0), (47, .return_, [], 0, 0)]
def am_K13 : List am_E := [(0, .aload_n 0, [], 0, 0), (1, .iconst 0, [], 0, 0), (2, .putfield 28, [1, 0, 239], 0, 0), (5, .aload_n 0, [], 0, 0), (6, .iconst 0, [], 0, 0), (7, .putfield 32, [1, 1, 240], 0, 0),
  (10, .return_, [], 0, 0)]
def am_K14 : List am_E := [(0, .aload_n 0, [], 0, 0), (1, .getfield 32, [1, 1, 240], 0, 0), (4, .iconst 1, [], 1, 0), (5, .iadd, [], 0, 0), (6, .istore_n 1, [], 0, 0), (7, .aload_n 0, [], 0, 0),
  (8, .getfield 32, [1, 1, 240], 0, 0), (11, .iload_n 1, [], 0, 0), (12, .iadd, [], 0, 0), (13, .sipush 256, [], 256, 0), (16, .if_icmp .lt 5, [13], 0, 0), (19, .iconst 0, [], 0, 0),
  (20, .ireturn, [], 0, 0), (21, .aload_n 0, [], 0, 0), (22, .dup, [], 0, 0), (23, .getfield 32, [1, 1, 240], 0, 0), (26, .iload_n 1, [], 0, 0), (27, .iadd, [], 0, 0),
  (28, .putfield 32, [1, 1, 240], 0, 0), (31, .iload_n 1, [], 0, 0), (32, .ireturn, [], 0, 0)]
def am_K15 : List am_E := [(0, .iconst 0, [], 0, 0), (1, .istore_n 3, [], 0, 0), (2, .iload_n 3, [], 0, 0), (3, .aload_n 0, [], 0, 0), (4, .getfield 28, [1, 0, 239], 0, 0), (7, .if_icmp .ge 21, [14], 0, 0),
  (10, .aload_n 0, [], 0, 0), (11, .getfield 11, [1, 2, 241], 0, 0), (14, .iload_n 3, [], 0, 0), (15, .invokestatic 35, [83, 1, 7], 0, 0), (18, .iload_n 1, [], 0, 0), (19, .if_icmp .ge 9, [14], 0, 0),
  (22, .iinc 3 1, [], 1, 0), (25, .goto (-23), [2], 0, 0), (28, .iload_n 3, [], 0, 0), (29, .aload_n 0, [], 0, 0), (30, .getfield 28, [1, 0, 239], 0, 0), (33, .if_icmp .ge 34, [36], 0, 0),
  (36, .iload_n 3, [], 0, 0), (37, .bipush 48, [], 48, 0), (39, .if_icmp .ge 28, [36], 0, 0), (42, .aload_n 0, [], 0, 0), (43, .getfield 11, [1, 2, 241], 0, 0), (46, .iload_n 3, [], 0, 0),
  (47, .invokestatic 35, [83, 1, 7], 0, 0), (50, .iload_n 1, [], 0, 0), (51, .if_icmp .ne 16, [36], 0, 0), (54, .aload_n 0, [], 0, 0), (55, .getfield 15, [1, 3, 242], 0, 0), (58, .iload_n 3, [], 0, 0),
  (59, .dup2, [], 0, 0), (60, .iaload, [], 0, 0), (61, .iload_n 2, [], 0, 0), (62, .ior, [], 0, 0), (63, .iastore, [], 0, 0), (64, .goto 94, [88], 0, 0),
  (67, .iload_n 3, [], 0, 0), (68, .aload_n 0, [], 0, 0), (69, .getfield 28, [1, 0, 239], 0, 0), (72, .if_icmp .gt 86, [88], 0, 0), (75, .aload_n 0, [], 0, 0), (76, .getfield 28, [1, 0, 239], 0, 0),
  (79, .bipush 48, [], 48, 0), (81, .if_icmp .ge 77, [88], 0, 0), (84, .aload_n 0, [], 0, 0), (85, .getfield 28, [1, 0, 239], 0, 0), (88, .istore 4, [], 0, 0), (90, .iload 4, [], 0, 0),
  (92, .iload_n 3, [], 0, 0), (93, .if_icmp .le 41, [72], 0, 0), (96, .aload_n 0, [], 0, 0), (97, .getfield 11, [1, 2, 241], 0, 0), (100, .iload 4, [], 0, 0), (102, .aload_n 0, [], 0, 0),
  (103, .getfield 11, [1, 2, 241], 0, 0), (106, .iload 4, [], 0, 0), (108, .iconst 1, [], 1, 0), (109, .isub, [], 0, 0), (110, .iaload, [], 0, 0), (111, .iastore, [], 0, 0),
  (112, .aload_n 0, [], 0, 0), (113, .getfield 15, [1, 3, 242], 0, 0), (116, .iload 4, [], 0, 0), (118, .aload_n 0, [], 0, 0), (119, .getfield 15, [1, 3, 242], 0, 0), (122, .iload 4, [], 0, 0),
  (124, .iconst 1, [], 1, 0), (125, .isub, [], 0, 0), (126, .iaload, [], 0, 0), (127, .iastore, [], 0, 0), (128, .iinc 4 (-1), [], (-1), 0), (131, .goto (-41), [47], 0, 0),
  (134, .aload_n 0, [], 0, 0), (135, .getfield 11, [1, 2, 241], 0, 0), (138, .iload_n 3, [], 0, 0), (139, .iload_n 1, [], 0, 0), (140, .iastore, [], 0, 0), (141, .aload_n 0, [], 0, 0),
  (142, .getfield 15, [1, 3, 242], 0, 0), (145, .iload_n 3, [], 0, 0), (146, .iload_n 2, [], 0, 0), (147, .iastore, [], 0, 0), (148, .aload_n 0, [], 0, 0), (149, .dup, [], 0, 0),
  (150, .getfield 28, [1, 0, 239], 0, 0), (153, .iconst 1, [], 1, 0), (154, .iadd, [], 0, 0), (155, .putfield 28, [1, 0, 239], 0, 0), (158, .return_, [], 0, 0)]
def am_K16 : List am_E := [(0, .iconst 0, [], 0, 0), (1, .istore_n 3, [], 0, 0), (2, .iload_n 3, [], 0, 0), (3, .aload_n 0, [], 0, 0), (4, .getfield 32, [1, 1, 240], 0, 0), (7, .if_icmp .gt 54, [34], 0, 0),
  (10, .iload_n 3, [], 0, 0), (11, .sipush 256, [], 256, 0), (14, .if_icmp .ge 47, [34], 0, 0), (17, .aload_n 0, [], 0, 0), (18, .getfield 18, [1, 4, 243], 0, 0), (21, .iload_n 3, [], 0, 0),
  (22, .iload_n 3, [], 0, 0), (23, .ifCond .ne 7, [16], 0, 0), (26, .iconst 0, [], 0, 0), (27, .goto 5, [17], 0, 0), (30, .bipush 99, [], 99, 0), (32, .iastore, [], 0, 0),
  (33, .aload_n 0, [], 0, 0), (34, .getfield 21, [1, 5, 244], 0, 0), (37, .iload_n 3, [], 0, 0), (38, .iload_n 3, [], 0, 0), (39, .ifCond .ne 7, [25], 0, 0), (42, .lconst 1, [], 0, 1),
  (43, .goto 4, [26], 0, 0), (46, .lconst 0, [], 0, 0), (47, .lastore, [], 0, 0), (48, .aload_n 0, [], 0, 0), (49, .getfield 25, [1, 6, 245], 0, 0), (52, .iload_n 3, [], 0, 0),
  (53, .lconst 0, [], 0, 0), (54, .lastore, [], 0, 0), (55, .iinc 3 1, [], 1, 0), (58, .goto (-56), [2], 0, 0), (61, .aload_n 0, [], 0, 0), (62, .getfield 28, [1, 0, 239], 0, 0),
  (65, .iconst 1, [], 1, 0), (66, .isub, [], 0, 0), (67, .istore_n 3, [], 0, 0), (68, .iload_n 3, [], 0, 0), (69, .ifCond .lt 40, [59], 0, 0), (72, .aload_n 0, [], 0, 0),
  (73, .getfield 11, [1, 2, 241], 0, 0), (76, .iload_n 3, [], 0, 0), (77, .invokestatic 35, [83, 1, 7], 0, 0), (80, .istore 4, [], 0, 0), (82, .iload 4, [], 0, 0), (84, .sipush 10000, [], 10000, 0),
  (87, .idiv, [], 0, 0), (88, .iload_n 1, [], 0, 0), (89, .if_icmp .eq 14, [57], 0, 0), (92, .iload 4, [], 0, 0), (94, .iload_n 2, [], 0, 0), (95, .if_icmp .eq 8, [57], 0, 0),
  (98, .aload_n 0, [], 0, 0), (99, .iload_n 3, [], 0, 0), (100, .invokevirtual 39, [17, 0, 489], 0, 0), (103, .iinc 3 (-1), [], (-1), 0), (106, .goto (-38), [39], 0, 0), (109, .return_, [], 0, 0)]
def am_K17 : List am_E := [(0, .aload_n 0, [], 0, 0), (1, .getfield 15, [1, 3, 242], 0, 0), (4, .iload_n 1, [], 0, 0), (5, .invokestatic 35, [83, 1, 7], 0, 0), (8, .istore_n 2, [], 0, 0), (9, .aload_n 0, [], 0, 0),
  (10, .getfield 32, [1, 1, 240], 0, 0), (13, .sipush 255, [], 255, 0), (16, .invokestatic 43, [178, 0, 493], 0, 0), (19, .istore_n 3, [], 0, 0), (20, .iload_n 3, [], 0, 0), (21, .ifCond .le 104, [74], 0, 0),
  (24, .iload_n 3, [], 0, 0), (25, .iload_n 2, [], 0, 0), (26, .iconst (-1), [], (-1), 0), (27, .ixor, [], 0, 0), (28, .iand, [], 0, 0), (29, .istore 4, [], 0, 0),
  (31, .aload_n 0, [], 0, 0), (32, .getfield 18, [1, 4, 243], 0, 0), (35, .iload 4, [], 0, 0), (37, .iaload, [], 0, 0), (38, .iconst 1, [], 1, 0), (39, .iadd, [], 0, 0),
  (40, .istore 5, [], 0, 0), (42, .iload 5, [], 0, 0), (44, .aload_n 0, [], 0, 0), (45, .getfield 18, [1, 4, 243], 0, 0), (48, .iload_n 3, [], 0, 0), (49, .iaload, [], 0, 0),
  (50, .if_icmp .gt 69, [72], 0, 0), (53, .aload_n 0, [], 0, 0), (54, .getfield 21, [1, 5, 244], 0, 0), (57, .iload_n 3, [], 0, 0), (58, .iload 5, [], 0, 0), (60, .aload_n 0, [], 0, 0),
  (61, .getfield 18, [1, 4, 243], 0, 0), (64, .iload_n 3, [], 0, 0), (65, .iaload, [], 0, 0), (66, .if_icmp .ge 13, [45], 0, 0), (69, .aload_n 0, [], 0, 0), (70, .getfield 21, [1, 5, 244], 0, 0),
  (73, .iload 4, [], 0, 0), (75, .laload, [], 0, 0), (76, .goto 17, [54], 0, 0), (79, .aload_n 0, [], 0, 0), (80, .getfield 21, [1, 5, 244], 0, 0), (83, .iload_n 3, [], 0, 0),
  (84, .laload, [], 0, 0), (85, .aload_n 0, [], 0, 0), (86, .getfield 21, [1, 5, 244], 0, 0), (89, .iload 4, [], 0, 0), (91, .laload, [], 0, 0), (92, .ladd, [], 0, 0),
  (93, .lastore, [], 0, 0), (94, .aload_n 0, [], 0, 0), (95, .getfield 25, [1, 6, 245], 0, 0), (98, .iload_n 3, [], 0, 0), (99, .aload_n 0, [], 0, 0), (100, .getfield 25, [1, 6, 245], 0, 0),
  (103, .iload 4, [], 0, 0), (105, .laload, [], 0, 0), (106, .lconst 1, [], 0, 1), (107, .iload_n 1, [], 0, 0), (108, .lshl, [], 0, 0), (109, .lor, [], 0, 0),
  (110, .lastore, [], 0, 0), (111, .aload_n 0, [], 0, 0), (112, .getfield 18, [1, 4, 243], 0, 0), (115, .iload_n 3, [], 0, 0), (116, .iload 5, [], 0, 0), (118, .iastore, [], 0, 0),
  (119, .iinc 3 (-1), [], (-1), 0), (122, .goto (-102), [10], 0, 0), (125, .return_, [], 0, 0)]
def am_K18 : List am_E := [(0, .iconst 0, [], 0, 0), (1, .aload_n 0, [], 0, 0), (2, .getfield 32, [1, 1, 240], 0, 0), (5, .sipush 255, [], 255, 0), (8, .invokestatic 43, [178, 0, 493], 0, 0), (11, .invokestatic 49, [177, 0, 504], 0, 0),
  (14, .ireturn, [], 0, 0)]
def am_K19 : List am_E := [(0, .aload_n 0, [], 0, 0), (1, .getfield 18, [1, 4, 243], 0, 0), (4, .aload_n 0, [], 0, 0), (5, .invokevirtual 52, [18, 0, 500], 0, 0), (8, .iaload, [], 0, 0), (9, .bipush 99, [], 99, 0),
  (11, .if_icmp .ge 7, [9], 0, 0), (14, .iconst 1, [], 1, 0), (15, .goto 4, [10], 0, 0), (18, .iconst 0, [], 0, 0), (19, .ireturn, [], 0, 0)]
def am_K20 : List am_E := [(0, .aload_n 0, [], 0, 0), (1, .getfield 18, [1, 4, 243], 0, 0), (4, .aload_n 0, [], 0, 0), (5, .invokevirtual 52, [18, 0, 500], 0, 0), (8, .iaload, [], 0, 0), (9, .ireturn, [], 0, 0)]
def am_K21 : List am_E := [(0, .aload_n 0, [], 0, 0), (1, .getfield 21, [1, 5, 244], 0, 0), (4, .aload_n 0, [], 0, 0), (5, .invokevirtual 52, [18, 0, 500], 0, 0), (8, .laload, [], 0, 0), (9, .lreturn, [], 0, 0)]
def am_K22 : List am_E := [(0, .aload_n 0, [], 0, 0), (1, .getfield 25, [1, 6, 245], 0, 0), (4, .aload_n 0, [], 0, 0), (5, .invokevirtual 52, [18, 0, 500], 0, 0), (8, .laload, [], 0, 0), (9, .lstore_n 2, [], 0, 0),
  (10, .iconst 0, [], 0, 0), (11, .istore 4, [], 0, 0), (13, .iconst 0, [], 0, 0), (14, .istore 5, [], 0, 0), (16, .iload 5, [], 0, 0), (18, .aload_n 0, [], 0, 0),
  (19, .getfield 28, [1, 0, 239], 0, 0), (22, .if_icmp .ge 39, [33], 0, 0), (25, .lload_n 2, [], 0, 0), (26, .iload 5, [], 0, 0), (28, .lshr, [], 0, 0), (29, .lconst 1, [], 0, 1),
  (30, .land, [], 0, 0), (31, .lconst 0, [], 0, 0), (32, .lcmp, [], 0, 0), (33, .ifCond .eq 22, [31], 0, 0), (36, .iload 4, [], 0, 0), (38, .iload_n 1, [], 0, 0),
  (39, .if_icmp .ne 13, [30], 0, 0), (42, .aload_n 0, [], 0, 0), (43, .getfield 11, [1, 2, 241], 0, 0), (46, .iload 5, [], 0, 0), (48, .invokestatic 35, [83, 1, 7], 0, 0), (51, .ireturn, [], 0, 0),
  (52, .iinc 4 1, [], 1, 0), (55, .iinc 5 1, [], 1, 0), (58, .goto (-42), [10], 0, 0), (61, .bipush (-5), [], (-5), 0), (63, .ireturn, [], 0, 0)]
def am_K23 : List am_E := [(0, .aload_n 0, [], 0, 0), (1, .invokespecial 3, [9999, 0, 162, 82, 83], 0, 0), (4, .aload_n 0, [], 0, 0), (5, .bipush 8, [], 8, 0), (7, .newarray .int, [130], 0, 0), (9, .putfield 9, [2, 1, 165], 0, 0),
  (12, .aload_n 0, [], 0, 0), (13, .bipush 8, [], 8, 0), (15, .newarray .int, [130], 0, 0), (17, .putfield 15, [2, 2, 167], 0, 0), (20, .aload_n 0, [], 0, 0), (21, .bipush 8, [], 8, 0),
  (23, .newarray .int, [130], 0, 0), (25, .putfield 18, [2, 3, 169], 0, 0), (28, .aload_n 0, [], 0, 0), (29, .bipush 8, [], 8, 0), (31, .newarray .int, [130], 0, 0), (33, .putfield 21, [2, 4, 171], 0, 0),
  (36, .return_, [], 0, 0)]
def am_K24 : List am_E := [(0, .iload_n 1, [], 0, 0), (1, .ifCond .lt 15, [8], 0, 0), (4, .iload_n 1, [], 0, 0), (5, .aload_n 0, [], 0, 0), (6, .getfield 24, [2, 0, 163], 0, 0), (9, .if_icmp .ge 7, [8], 0, 0),
  (12, .iconst 1, [], 1, 0), (13, .goto 4, [9], 0, 0), (16, .iconst 0, [], 0, 0), (17, .ireturn, [], 0, 0)]
def am_K25 : List am_E := [(0, .aload_n 0, [], 0, 0), (1, .getfield 24, [2, 0, 163], 0, 0), (4, .ifCond .lt 63, [37], 0, 0), (7, .aload_n 0, [], 0, 0), (8, .getfield 24, [2, 0, 163], 0, 0), (11, .bipush 8, [], 8, 0),
  (13, .if_icmp .ge 54, [37], 0, 0), (16, .aload_n 0, [], 0, 0), (17, .getfield 9, [2, 1, 165], 0, 0), (20, .aload_n 0, [], 0, 0), (21, .getfield 24, [2, 0, 163], 0, 0), (24, .iload_n 1, [], 0, 0),
  (25, .iastore, [], 0, 0), (26, .aload_n 0, [], 0, 0), (27, .getfield 15, [2, 2, 167], 0, 0), (30, .aload_n 0, [], 0, 0), (31, .getfield 24, [2, 0, 163], 0, 0), (34, .iload_n 2, [], 0, 0),
  (35, .iastore, [], 0, 0), (36, .aload_n 0, [], 0, 0), (37, .getfield 18, [2, 3, 169], 0, 0), (40, .aload_n 0, [], 0, 0), (41, .getfield 24, [2, 0, 163], 0, 0), (44, .iload_n 3, [], 0, 0),
  (45, .iastore, [], 0, 0), (46, .aload_n 0, [], 0, 0), (47, .getfield 21, [2, 4, 171], 0, 0), (50, .aload_n 0, [], 0, 0), (51, .getfield 24, [2, 0, 163], 0, 0), (54, .iload 4, [], 0, 0),
  (56, .iastore, [], 0, 0), (57, .aload_n 0, [], 0, 0), (58, .dup, [], 0, 0), (59, .getfield 24, [2, 0, 163], 0, 0), (62, .iconst 1, [], 1, 0), (63, .iadd, [], 0, 0),
  (64, .putfield 24, [2, 0, 163], 0, 0), (67, .return_, [], 0, 0)]
def am_K26 : List am_E := [(0, .aload_n 0, [], 0, 0), (1, .getfield 21, [2, 4, 171], 0, 0), (4, .iload_n 1, [], 0, 0), (5, .invokestatic 28, [83, 1, 5], 0, 0), (8, .iconst 1, [], 1, 0), (9, .if_icmp .ne 7, [8], 0, 0),
  (12, .iconst 1, [], 1, 0), (13, .goto 4, [9], 0, 0), (16, .iconst 0, [], 0, 0), (17, .ireturn, [], 0, 0)]
def am_K27 : List am_E := [(0, .iconst 0, [], 0, 0), (1, .istore_n 2, [], 0, 0), (2, .iconst 0, [], 0, 0), (3, .istore_n 3, [], 0, 0), (4, .iload_n 3, [], 0, 0), (5, .aload_n 0, [], 0, 0),
  (6, .getfield 24, [2, 0, 163], 0, 0), (9, .if_icmp .ge 32, [21], 0, 0), (12, .aload_n 0, [], 0, 0), (13, .iload_n 3, [], 0, 0), (14, .invokevirtual 32, [26, 0, 671], 0, 0), (17, .ifCond .eq 18, [19], 0, 0),
  (20, .aload_n 0, [], 0, 0), (21, .getfield 18, [2, 3, 169], 0, 0), (24, .iload_n 3, [], 0, 0), (25, .invokestatic 28, [83, 1, 5], 0, 0), (28, .iload_n 1, [], 0, 0), (29, .if_icmp .ne 6, [19], 0, 0),
  (32, .iinc 2 1, [], 1, 0), (35, .iinc 3 1, [], 1, 0), (38, .goto (-34), [4], 0, 0), (41, .iload_n 2, [], 0, 0), (42, .ireturn, [], 0, 0)]
def am_K28 : List am_E := [(0, .aload_n 0, [], 0, 0), (1, .invokespecial 3, [9999, 0, 89, 82, 83], 0, 0), (4, .aload_n 0, [], 0, 0), (5, .new 9, [4, 7, 90, 91, 69], 0, 0), (8, .dup, [], 0, 0), (9, .invokespecial 11, [41, 0, 92], 0, 0),
  (12, .putfield 12, [3, 1, 133], 0, 0), (15, .aload_n 0, [], 0, 0), (16, .sipush 200, [], 200, 0), (19, .newarray .int, [130], 0, 0), (21, .putfield 18, [3, 2, 135], 0, 0), (24, .return_, [], 0, 0)]
def am_K29 : List am_E := [(0, .aload_n 0, [], 0, 0), (1, .getfield 22, [3, 0, 131], 0, 0), (4, .ifCond .lt 33, [19], 0, 0), (7, .aload_n 0, [], 0, 0), (8, .getfield 22, [3, 0, 131], 0, 0), (11, .sipush 200, [], 200, 0),
  (14, .if_icmp .ge 23, [19], 0, 0), (17, .aload_n 0, [], 0, 0), (18, .getfield 18, [3, 2, 135], 0, 0), (21, .aload_n 0, [], 0, 0), (22, .getfield 22, [3, 0, 131], 0, 0), (25, .iload_n 1, [], 0, 0),
  (26, .iastore, [], 0, 0), (27, .aload_n 0, [], 0, 0), (28, .dup, [], 0, 0), (29, .getfield 22, [3, 0, 131], 0, 0), (32, .iconst 1, [], 1, 0), (33, .iadd, [], 0, 0),
  (34, .putfield 22, [3, 0, 131], 0, 0), (37, .return_, [], 0, 0)]
def am_K30 : List am_E := [(0, .aload_n 0, [], 0, 0), (1, .iconst 0, [], 0, 0), (2, .putfield 26, [3, 4, 137], 0, 0), (5, .aload_n 0, [], 0, 0), (6, .getfield 12, [3, 1, 133], 0, 0), (9, .invokevirtual 29, [42, 0, 310], 0, 0),
  (12, .iconst 0, [], 0, 0), (13, .istore_n 1, [], 0, 0), (14, .iload_n 1, [], 0, 0), (15, .aload_n 0, [], 0, 0), (16, .getfield 22, [3, 0, 131], 0, 0), (19, .if_icmp .gt 33, [26], 0, 0),
  (22, .aload_n 0, [], 0, 0), (23, .invokevirtual 32, [38, 0, 311], 0, 0), (26, .aload_n 0, [], 0, 0), (27, .getfield 35, [3, 5, 138], 0, 0), (30, .ifCond .ne 5, [19], 0, 0), (33, .iload_n 1, [], 0, 0),
  (34, .ireturn, [], 0, 0), (35, .aload_n 0, [], 0, 0), (36, .iload_n 1, [], 0, 0), (37, .invokevirtual 38, [31, 0, 324], 0, 0), (40, .ifCond .ne 6, [24], 0, 0), (43, .goto 9, [26], 0, 0),
  (46, .iinc 1 1, [], 1, 0), (49, .goto (-35), [8], 0, 0), (52, .bipush (-10), [], (-10), 0), (54, .aload_n 0, [], 0, 0), (55, .getfield 42, [3, 3, 136], 0, 0), (58, .isub, [], 0, 0),
  (59, .ireturn, [], 0, 0)]
def am_K31 : List am_E := [(0, .aload_n 0, [], 0, 0), (1, .getfield 35, [3, 5, 138], 0, 0), (4, .iconst 1, [], 1, 0), (5, .if_icmp .ne 16, [11], 0, 0), (8, .aload_n 0, [], 0, 0), (9, .getfield 26, [3, 4, 137], 0, 0),
  (12, .aload_n 0, [], 0, 0), (13, .getfield 42, [3, 3, 136], 0, 0), (16, .isub, [], 0, 0), (17, .iconst 1, [], 1, 0), (18, .if_icmp .eq 5, [13], 0, 0), (21, .iconst 0, [], 0, 0),
  (22, .ireturn, [], 0, 0), (23, .aload_n 0, [], 0, 0), (24, .getfield 18, [3, 2, 135], 0, 0), (27, .aload_n 0, [], 0, 0), (28, .getfield 42, [3, 3, 136], 0, 0), (31, .invokestatic 45, [83, 1, 0], 0, 0),
  (34, .lookupswitch 81 #[(102, 51), (110, 34), (112, 56)], [34, 43, 28, 19, 31], 0, 0), (68, .iload_n 1, [], 0, 0), (69, .ifCond .ne 14, [26], 0, 0), (72, .aload_n 0, [], 0, 0), (73, .invokevirtual 49, [32, 0, 328], 0, 0), (76, .ifCond .eq 7, [26], 0, 0),
  (79, .iconst 1, [], 1, 0), (80, .goto 4, [27], 0, 0), (83, .iconst 0, [], 0, 0), (84, .ireturn, [], 0, 0), (85, .aload_n 0, [], 0, 0), (86, .invokevirtual 53, [33, 0, 340], 0, 0),
  (89, .ireturn, [], 0, 0), (90, .aload_n 0, [], 0, 0), (91, .getfield 12, [3, 1, 133], 0, 0), (94, .getfield 56, [4, 1, 104], 0, 0), (97, .bipush 6, [], 6, 0), (99, .if_icmp .ge 14, [41], 0, 0),
  (102, .aload_n 0, [], 0, 0), (103, .invokevirtual 59, [34, 0, 348], 0, 0), (106, .ifCond .eq 7, [41], 0, 0), (109, .iconst 1, [], 1, 0), (110, .goto 4, [42], 0, 0), (113, .iconst 0, [], 0, 0),
  (114, .ireturn, [], 0, 0), (115, .iconst 0, [], 0, 0), (116, .ireturn, [], 0, 0)]
def am_K32 : List am_E := [(0, .aload_n 0, [], 0, 0), (1, .iconst 2, [], 2, 0), (2, .bipush 6, [], 6, 0), (4, .invokevirtual 62, [36, 0, 332], 0, 0), (7, .ifCond .ne 5, [7], 0, 0), (10, .iconst 0, [], 0, 0),
  (11, .ireturn, [], 0, 0), (12, .aload_n 0, [], 0, 0), (13, .getfield 12, [3, 1, 133], 0, 0), (16, .aload_n 0, [], 0, 0), (17, .getfield 66, [3, 6, 139], 0, 0), (20, .putfield 69, [4, 0, 101], 0, 0),
  (23, .aload_n 0, [], 0, 0), (24, .invokevirtual 72, [37, 0, 336], 0, 0), (27, .ireturn, [], 0, 0)]
def am_K33 : List am_E := [(0, .aload_n 0, [], 0, 0), (1, .iconst 0, [], 0, 0), (2, .aload_n 0, [], 0, 0), (3, .getfield 12, [3, 1, 133], 0, 0), (6, .getfield 69, [4, 0, 101], 0, 0), (9, .iconst 1, [], 1, 0),
  (10, .isub, [], 0, 0), (11, .invokevirtual 62, [36, 0, 332], 0, 0), (14, .ifCond .ne 5, [11], 0, 0), (17, .iconst 0, [], 0, 0), (18, .ireturn, [], 0, 0), (19, .aload_n 0, [], 0, 0),
  (20, .getfield 66, [3, 6, 139], 0, 0), (23, .istore_n 1, [], 0, 0), (24, .aload_n 0, [], 0, 0), (25, .iconst 0, [], 0, 0), (26, .aload_n 0, [], 0, 0), (27, .getfield 12, [3, 1, 133], 0, 0),
  (30, .getfield 69, [4, 0, 101], 0, 0), (33, .iconst 1, [], 1, 0), (34, .isub, [], 0, 0), (35, .invokevirtual 62, [36, 0, 332], 0, 0), (38, .ifCond .ne 5, [25], 0, 0), (41, .iconst 0, [], 0, 0),
  (42, .ireturn, [], 0, 0), (43, .aload_n 0, [], 0, 0), (44, .getfield 66, [3, 6, 139], 0, 0), (47, .istore_n 2, [], 0, 0), (48, .aload_n 0, [], 0, 0), (49, .iconst 0, [], 0, 0),
  (50, .bipush 9, [], 9, 0), (52, .invokevirtual 62, [36, 0, 332], 0, 0), (55, .ifCond .ne 5, [35], 0, 0), (58, .iconst 0, [], 0, 0), (59, .ireturn, [], 0, 0), (60, .aload_n 0, [], 0, 0),
  (61, .getfield 12, [3, 1, 133], 0, 0), (64, .iload_n 1, [], 0, 0), (65, .iload_n 2, [], 0, 0), (66, .aload_n 0, [], 0, 0), (67, .getfield 66, [3, 6, 139], 0, 0), (70, .invokevirtual 75, [47, 0, 344], 0, 0),
  (73, .aload_n 0, [], 0, 0), (74, .invokevirtual 72, [37, 0, 336], 0, 0), (77, .ireturn, [], 0, 0)]
def am_K34 : List am_E := [(0, .aload_n 0, [], 0, 0), (1, .iconst 0, [], 0, 0), (2, .aload_n 0, [], 0, 0), (3, .getfield 12, [3, 1, 133], 0, 0), (6, .getfield 69, [4, 0, 101], 0, 0), (9, .iconst 1, [], 1, 0),
  (10, .isub, [], 0, 0), (11, .invokevirtual 62, [36, 0, 332], 0, 0), (14, .ifCond .ne 5, [11], 0, 0), (17, .iconst 0, [], 0, 0), (18, .ireturn, [], 0, 0), (19, .aload_n 0, [], 0, 0),
  (20, .getfield 66, [3, 6, 139], 0, 0), (23, .istore_n 1, [], 0, 0), (24, .aload_n 0, [], 0, 0), (25, .iconst 0, [], 0, 0), (26, .bipush 40, [], 40, 0), (28, .invokevirtual 62, [36, 0, 332], 0, 0),
  (31, .ifCond .ne 5, [21], 0, 0), (34, .iconst 0, [], 0, 0), (35, .ireturn, [], 0, 0), (36, .aload_n 0, [], 0, 0), (37, .getfield 66, [3, 6, 139], 0, 0), (40, .istore_n 2, [], 0, 0),
  (41, .aload_n 0, [], 0, 0), (42, .iload_n 2, [], 0, 0), (43, .bipush 40, [], 40, 0), (45, .invokevirtual 62, [36, 0, 332], 0, 0), (48, .ifCond .ne 5, [31], 0, 0), (51, .iconst 0, [], 0, 0),
  (52, .ireturn, [], 0, 0), (53, .aload_n 0, [], 0, 0), (54, .getfield 66, [3, 6, 139], 0, 0), (57, .istore_n 3, [], 0, 0), (58, .aload_n 0, [], 0, 0), (59, .invokevirtual 79, [35, 0, 352], 0, 0),
  (62, .istore 4, [], 0, 0), (64, .iload 4, [], 0, 0), (66, .ifCond .ne 5, [41], 0, 0), (69, .iconst 0, [], 0, 0), (70, .ireturn, [], 0, 0), (71, .aload_n 0, [], 0, 0),
  (72, .getfield 12, [3, 1, 133], 0, 0), (75, .iload_n 1, [], 0, 0), (76, .iload 4, [], 0, 0), (78, .iload_n 2, [], 0, 0), (79, .iload_n 3, [], 0, 0), (80, .invokevirtual 83, [48, 0, 359], 0, 0),
  (83, .iconst 1, [], 1, 0), (84, .ireturn, [], 0, 0)]
def am_K35 : List am_E := [(0, .iconst 0, [], 0, 0), (1, .istore_n 1, [], 0, 0), (2, .iconst 0, [], 0, 0), (3, .istore_n 2, [], 0, 0), (4, .iload_n 2, [], 0, 0), (5, .bipush 8, [], 8, 0),
  (7, .if_icmp .gt 63, [41], 0, 0), (10, .aload_n 0, [], 0, 0), (11, .invokevirtual 32, [38, 0, 311], 0, 0), (14, .aload_n 0, [], 0, 0), (15, .getfield 35, [3, 5, 138], 0, 0), (18, .iconst 3, [], 3, 0),
  (19, .if_icmp .ne 5, [15], 0, 0), (22, .iload_n 1, [], 0, 0), (23, .ireturn, [], 0, 0), (24, .aload_n 0, [], 0, 0), (25, .getfield 35, [3, 5, 138], 0, 0), (28, .iconst 2, [], 2, 0),
  (29, .if_icmp .ne 24, [30], 0, 0), (32, .aload_n 0, [], 0, 0), (33, .getfield 66, [3, 6, 139], 0, 0), (36, .invokestatic 87, [82, 1, 1], 0, 0), (39, .ifCond .eq 14, [30], 0, 0), (42, .iload_n 1, [], 0, 0),
  (43, .aload_n 0, [], 0, 0), (44, .getfield 66, [3, 6, 139], 0, 0), (47, .ishr, [], 0, 0), (48, .iconst 1, [], 1, 0), (49, .iand, [], 0, 0), (50, .ifCond .eq 5, [32], 0, 0),
  (53, .iconst 0, [], 0, 0), (54, .ireturn, [], 0, 0), (55, .iload_n 1, [], 0, 0), (56, .iconst 1, [], 1, 0), (57, .aload_n 0, [], 0, 0), (58, .getfield 66, [3, 6, 139], 0, 0),
  (61, .ishl, [], 0, 0), (62, .ior, [], 0, 0), (63, .istore_n 1, [], 0, 0), (64, .iinc 2 1, [], 1, 0), (67, .goto (-63), [4], 0, 0), (70, .iconst 0, [], 0, 0),
  (71, .ireturn, [], 0, 0)]
def am_K36 : List am_E := [(0, .aload_n 0, [], 0, 0), (1, .invokevirtual 32, [38, 0, 311], 0, 0), (4, .aload_n 0, [], 0, 0), (5, .getfield 35, [3, 5, 138], 0, 0), (8, .iconst 2, [], 2, 0), (9, .if_icmp .ne 23, [16], 0, 0),
  (12, .aload_n 0, [], 0, 0), (13, .getfield 66, [3, 6, 139], 0, 0), (16, .iload_n 1, [], 0, 0), (17, .if_icmp .lt 15, [16], 0, 0), (20, .aload_n 0, [], 0, 0), (21, .getfield 66, [3, 6, 139], 0, 0),
  (24, .iload_n 2, [], 0, 0), (25, .if_icmp .gt 7, [16], 0, 0), (28, .iconst 1, [], 1, 0), (29, .goto 4, [17], 0, 0), (32, .iconst 0, [], 0, 0), (33, .ireturn, [], 0, 0)]
def am_K37 : List am_E := [(0, .aload_n 0, [], 0, 0), (1, .invokevirtual 32, [38, 0, 311], 0, 0), (4, .aload_n 0, [], 0, 0), (5, .getfield 35, [3, 5, 138], 0, 0), (8, .iconst 3, [], 3, 0), (9, .if_icmp .ne 7, [8], 0, 0),
  (12, .iconst 1, [], 1, 0), (13, .goto 4, [9], 0, 0), (16, .iconst 0, [], 0, 0), (17, .ireturn, [], 0, 0)]
def am_K38 : List am_E := [(0, .aload_n 0, [], 0, 0), (1, .aload_n 0, [], 0, 0), (2, .getfield 26, [3, 4, 137], 0, 0), (5, .putfield 42, [3, 3, 136], 0, 0), (8, .aload_n 0, [], 0, 0), (9, .getfield 42, [3, 3, 136], 0, 0),
  (12, .aload_n 0, [], 0, 0), (13, .getfield 22, [3, 0, 131], 0, 0), (16, .if_icmp .ge 32, [23], 0, 0), (19, .aload_n 0, [], 0, 0), (20, .getfield 18, [3, 2, 135], 0, 0), (23, .aload_n 0, [], 0, 0),
  (24, .getfield 42, [3, 3, 136], 0, 0), (27, .invokestatic 45, [83, 1, 0], 0, 0), (30, .bipush 32, [], 32, 0), (32, .if_icmp .ne 16, [23], 0, 0), (35, .aload_n 0, [], 0, 0), (36, .dup, [], 0, 0),
  (37, .getfield 42, [3, 3, 136], 0, 0), (40, .iconst 1, [], 1, 0), (41, .iadd, [], 0, 0), (42, .putfield 42, [3, 3, 136], 0, 0), (45, .goto (-37), [4], 0, 0), (48, .aload_n 0, [], 0, 0),
  (49, .aload_n 0, [], 0, 0), (50, .getfield 42, [3, 3, 136], 0, 0), (53, .aload_n 0, [], 0, 0), (54, .getfield 22, [3, 0, 131], 0, 0), (57, .if_icmp .ge 20, [36], 0, 0), (60, .aload_n 0, [], 0, 0),
  (61, .getfield 18, [3, 2, 135], 0, 0), (64, .aload_n 0, [], 0, 0), (65, .getfield 42, [3, 3, 136], 0, 0), (68, .invokestatic 45, [83, 1, 0], 0, 0), (71, .invokestatic 90, [39, 0, 318], 0, 0), (74, .goto 4, [37], 0, 0),
  (77, .iconst 0, [], 0, 0), (78, .putfield 35, [3, 5, 138], 0, 0), (81, .aload_n 0, [], 0, 0), (82, .aload_n 0, [], 0, 0), (83, .getfield 35, [3, 5, 138], 0, 0), (86, .ifCond .ne 10, [45], 0, 0),
  (89, .aload_n 0, [], 0, 0), (90, .getfield 42, [3, 3, 136], 0, 0), (93, .goto 9, [49], 0, 0), (96, .aload_n 0, [], 0, 0), (97, .getfield 42, [3, 3, 136], 0, 0), (100, .iconst 1, [], 1, 0),
  (101, .iadd, [], 0, 0), (102, .putfield 26, [3, 4, 137], 0, 0), (105, .aload_n 0, [], 0, 0), (106, .getfield 35, [3, 5, 138], 0, 0), (109, .iconst 1, [], 1, 0), (110, .if_icmp .eq 12, [59], 0, 0),
  (113, .aload_n 0, [], 0, 0), (114, .getfield 35, [3, 5, 138], 0, 0), (117, .iconst 2, [], 2, 0), (118, .if_icmp .eq 4, [59], 0, 0), (121, .return_, [], 0, 0), (122, .aload_n 0, [], 0, 0),
  (123, .getfield 26, [3, 4, 137], 0, 0), (126, .aload_n 0, [], 0, 0), (127, .getfield 22, [3, 0, 131], 0, 0), (130, .if_icmp .ge 37, [80], 0, 0), (133, .aload_n 0, [], 0, 0), (134, .getfield 18, [3, 2, 135], 0, 0),
  (137, .aload_n 0, [], 0, 0), (138, .getfield 26, [3, 4, 137], 0, 0), (141, .invokestatic 45, [83, 1, 0], 0, 0), (144, .invokestatic 90, [39, 0, 318], 0, 0), (147, .aload_n 0, [], 0, 0), (148, .getfield 35, [3, 5, 138], 0, 0),
  (151, .if_icmp .ne 16, [80], 0, 0), (154, .aload_n 0, [], 0, 0), (155, .dup, [], 0, 0), (156, .getfield 26, [3, 4, 137], 0, 0), (159, .iconst 1, [], 1, 0), (160, .iadd, [], 0, 0),
  (161, .putfield 26, [3, 4, 137], 0, 0), (164, .goto (-42), [59], 0, 0), (167, .aload_n 0, [], 0, 0), (168, .getfield 35, [3, 5, 138], 0, 0), (171, .iconst 2, [], 2, 0), (172, .if_icmp .ne 59, [112], 0, 0),
  (175, .aload_n 0, [], 0, 0), (176, .aload_n 0, [], 0, 0), (177, .getfield 26, [3, 4, 137], 0, 0), (180, .aload_n 0, [], 0, 0), (181, .getfield 42, [3, 3, 136], 0, 0), (184, .isub, [], 0, 0),
  (185, .aload_n 0, [], 0, 0), (186, .getfield 18, [3, 2, 135], 0, 0), (189, .aload_n 0, [], 0, 0), (190, .getfield 42, [3, 3, 136], 0, 0), (193, .invokestatic 45, [83, 1, 0], 0, 0), (196, .aload_n 0, [], 0, 0),
  (197, .getfield 18, [3, 2, 135], 0, 0), (200, .aload_n 0, [], 0, 0), (201, .getfield 42, [3, 3, 136], 0, 0), (204, .iconst 1, [], 1, 0), (205, .iadd, [], 0, 0), (206, .invokestatic 45, [83, 1, 0], 0, 0),
  (209, .invokestatic 94, [40, 0, 321], 0, 0), (212, .putfield 66, [3, 6, 139], 0, 0), (215, .aload_n 0, [], 0, 0), (216, .aload_n 0, [], 0, 0), (217, .getfield 66, [3, 6, 139], 0, 0), (220, .ifCond .ge 7, [110], 0, 0),
  (223, .iconst 4, [], 4, 0), (224, .goto 4, [111], 0, 0), (227, .iconst 2, [], 2, 0), (228, .putfield 35, [3, 5, 138], 0, 0), (231, .return_, [], 0, 0)]
def am_K39 : List am_E := [(0, .iload_n 0, [], 0, 0), (1, .bipush 97, [], 97, 0), (3, .if_icmp .lt 11, [8], 0, 0), (6, .iload_n 0, [], 0, 0), (7, .bipush 122, [], 122, 0), (9, .if_icmp .gt 5, [8], 0, 0),
  (12, .iconst 1, [], 1, 0), (13, .ireturn, [], 0, 0), (14, .iload_n 0, [], 0, 0), (15, .bipush 48, [], 48, 0), (17, .if_icmp .lt 11, [16], 0, 0), (20, .iload_n 0, [], 0, 0),
  (21, .bipush 57, [], 57, 0), (23, .if_icmp .gt 5, [16], 0, 0), (26, .iconst 2, [], 2, 0), (27, .ireturn, [], 0, 0), (28, .iload_n 0, [], 0, 0), (29, .bipush 59, [], 59, 0),
  (31, .if_icmp .ne 7, [21], 0, 0), (34, .iconst 3, [], 3, 0), (35, .goto 4, [22], 0, 0), (38, .iconst 4, [], 4, 0), (39, .ireturn, [], 0, 0)]
def am_K40 : List am_E := [(0, .iload_n 0, [], 0, 0), (1, .iconst 1, [], 1, 0), (2, .if_icmp .ne 8, [7], 0, 0), (5, .iload_n 1, [], 0, 0), (6, .bipush 48, [], 48, 0), (8, .isub, [], 0, 0),
  (9, .ireturn, [], 0, 0), (10, .iload_n 0, [], 0, 0), (11, .iconst 2, [], 2, 0), (12, .if_icmp .gt 9, [13], 0, 0), (15, .iload_n 1, [], 0, 0), (16, .bipush 48, [], 48, 0),
  (18, .if_icmp .ne 7, [15], 0, 0), (21, .iconst (-1), [], (-1), 0), (22, .goto 15, [24], 0, 0), (25, .iload_n 1, [], 0, 0), (26, .bipush 48, [], 48, 0), (28, .isub, [], 0, 0),
  (29, .bipush 10, [], 10, 0), (31, .imul, [], 0, 0), (32, .iload_n 2, [], 0, 0), (33, .iadd, [], 0, 0), (34, .bipush 48, [], 48, 0), (36, .isub, [], 0, 0),
  (37, .ireturn, [], 0, 0)]
def am_K41 : List am_E := [(0, .aload_n 0, [], 0, 0), (1, .invokespecial 3, [9999, 0, 95, 82, 83], 0, 0), (4, .aload_n 0, [], 0, 0), (5, .bipush 36, [], 36, 0), (7, .newarray .int, [130], 0, 0), (9, .putfield 9, [4, 2, 106], 0, 0),
  (12, .aload_n 0, [], 0, 0), (13, .bipush 6, [], 6, 0), (15, .newarray .int, [130], 0, 0), (17, .putfield 15, [4, 3, 107], 0, 0), (20, .aload_n 0, [], 0, 0), (21, .bipush 6, [], 6, 0),
  (23, .newarray .int, [130], 0, 0), (25, .putfield 18, [4, 4, 109], 0, 0), (28, .aload_n 0, [], 0, 0), (29, .bipush 6, [], 6, 0), (31, .newarray .int, [130], 0, 0), (33, .putfield 21, [4, 5, 111], 0, 0),
  (36, .aload_n 0, [], 0, 0), (37, .bipush 6, [], 6, 0), (39, .newarray .int, [130], 0, 0), (41, .putfield 24, [4, 6, 113], 0, 0), (44, .aload_n 0, [], 0, 0), (45, .invokevirtual 27, [42, 0, 96], 0, 0),
  (48, .return_, [], 0, 0)]
def am_K42 : List am_E := [(0, .aload_n 0, [], 0, 0), (1, .iconst 4, [], 4, 0), (2, .putfield 30, [4, 0, 100], 0, 0), (5, .aload_n 0, [], 0, 0), (6, .iconst 0, [], 0, 0), (7, .putfield 34, [4, 1, 103], 0, 0),
  (10, .iconst 0, [], 0, 0), (11, .istore_n 1, [], 0, 0), (12, .iload_n 1, [], 0, 0), (13, .aload_n 0, [], 0, 0), (14, .getfield 9, [4, 2, 106], 0, 0), (17, .arraylength, [], 0, 0),
  (18, .if_icmp .ge 41, [35], 0, 0), (21, .iload_n 1, [], 0, 0), (22, .bipush 6, [], 6, 0), (24, .idiv, [], 0, 0), (25, .iload_n 1, [], 0, 0), (26, .bipush 6, [], 6, 0),
  (28, .irem, [], 0, 0), (29, .if_icmp .ne 7, [22], 0, 0), (32, .iconst 1, [], 1, 0), (33, .goto 4, [23], 0, 0), (36, .iconst 0, [], 0, 0), (37, .istore_n 2, [], 0, 0),
  (38, .aload_n 0, [], 0, 0), (39, .getfield 9, [4, 2, 106], 0, 0), (42, .iload_n 1, [], 0, 0), (43, .iload_n 2, [], 0, 0), (44, .ifCond .eq 7, [31], 0, 0), (47, .iconst 1, [], 1, 0),
  (48, .goto 4, [32], 0, 0), (51, .iconst 3, [], 3, 0), (52, .iastore, [], 0, 0), (53, .iinc 1 1, [], 1, 0), (56, .goto (-44), [8], 0, 0), (59, .return_, [], 0, 0)]
def am_K43 : List am_E := [(0, .aload_n 0, [], 0, 0), (1, .aload_n 1, [], 0, 0), (2, .getfield 30, [4, 0, 100], 0, 0), (5, .putfield 30, [4, 0, 100], 0, 0), (8, .aload_n 0, [], 0, 0), (9, .aload_n 1, [], 0, 0),
  (10, .getfield 34, [4, 1, 103], 0, 0), (13, .putfield 34, [4, 1, 103], 0, 0), (16, .aload_n 1, [], 0, 0), (17, .getfield 9, [4, 2, 106], 0, 0), (20, .aload_n 0, [], 0, 0), (21, .getfield 9, [4, 2, 106], 0, 0),
  (24, .invokestatic 37, [84, 1, 2], 0, 0), (27, .aload_n 1, [], 0, 0), (28, .getfield 15, [4, 3, 107], 0, 0), (31, .aload_n 0, [], 0, 0), (32, .getfield 15, [4, 3, 107], 0, 0), (35, .invokestatic 37, [84, 1, 2], 0, 0),
  (38, .aload_n 1, [], 0, 0), (39, .getfield 18, [4, 4, 109], 0, 0), (42, .aload_n 0, [], 0, 0), (43, .getfield 18, [4, 4, 109], 0, 0), (46, .invokestatic 37, [84, 1, 2], 0, 0), (49, .aload_n 1, [], 0, 0),
  (50, .getfield 21, [4, 5, 111], 0, 0), (53, .aload_n 0, [], 0, 0), (54, .getfield 21, [4, 5, 111], 0, 0), (57, .invokestatic 37, [84, 1, 2], 0, 0), (60, .aload_n 1, [], 0, 0), (61, .getfield 24, [4, 6, 113], 0, 0),
  (64, .aload_n 0, [], 0, 0), (65, .getfield 24, [4, 6, 113], 0, 0), (68, .invokestatic 37, [84, 1, 2], 0, 0), (71, .return_, [], 0, 0)]
def am_K44 : List am_E := [(0, .iload_n 1, [], 0, 0), (1, .ifCond .lt 15, [8], 0, 0), (4, .iload_n 1, [], 0, 0), (5, .aload_n 0, [], 0, 0), (6, .getfield 30, [4, 0, 100], 0, 0), (9, .if_icmp .ge 7, [8], 0, 0),
  (12, .iconst 1, [], 1, 0), (13, .goto 4, [9], 0, 0), (16, .iconst 0, [], 0, 0), (17, .ireturn, [], 0, 0)]
def am_K45 : List am_E := [(0, .iload_n 1, [], 0, 0), (1, .ifCond .lt 15, [8], 0, 0), (4, .iload_n 1, [], 0, 0), (5, .aload_n 0, [], 0, 0), (6, .getfield 34, [4, 1, 103], 0, 0), (9, .if_icmp .ge 7, [8], 0, 0),
  (12, .iconst 1, [], 1, 0), (13, .goto 4, [9], 0, 0), (16, .iconst 0, [], 0, 0), (17, .ireturn, [], 0, 0)]
def am_K46 : List am_E := [(0, .iload_n 1, [], 0, 0), (1, .ifCond .lt 23, [12], 0, 0), (4, .iload_n 1, [], 0, 0), (5, .bipush 6, [], 6, 0), (7, .if_icmp .ge 17, [12], 0, 0), (10, .iload_n 2, [], 0, 0),
  (11, .ifCond .lt 13, [12], 0, 0), (14, .iload_n 2, [], 0, 0), (15, .bipush 6, [], 6, 0), (17, .if_icmp .ge 7, [12], 0, 0), (20, .iconst 1, [], 1, 0), (21, .goto 4, [13], 0, 0),
  (24, .iconst 0, [], 0, 0), (25, .istore_n 3, [], 0, 0), (26, .iload_n 3, [], 0, 0), (27, .ifCond .eq 17, [25], 0, 0), (30, .aload_n 0, [], 0, 0), (31, .getfield 9, [4, 2, 106], 0, 0),
  (34, .iload_n 1, [], 0, 0), (35, .bipush 6, [], 6, 0), (37, .imul, [], 0, 0), (38, .iload_n 2, [], 0, 0), (39, .iadd, [], 0, 0), (40, .iaload, [], 0, 0),
  (41, .goto 4, [26], 0, 0), (44, .iconst 0, [], 0, 0), (45, .ireturn, [], 0, 0)]
def am_K47 : List am_E := [(0, .iload_n 1, [], 0, 0), (1, .ifCond .lt 43, [28], 0, 0), (4, .iload_n 1, [], 0, 0), (5, .bipush 6, [], 6, 0), (7, .if_icmp .ge 37, [28], 0, 0), (10, .iload_n 2, [], 0, 0),
  (11, .ifCond .lt 33, [28], 0, 0), (14, .iload_n 2, [], 0, 0), (15, .bipush 6, [], 6, 0), (17, .if_icmp .ge 27, [28], 0, 0), (20, .aload_n 0, [], 0, 0), (21, .getfield 9, [4, 2, 106], 0, 0),
  (24, .iload_n 1, [], 0, 0), (25, .bipush 6, [], 6, 0), (27, .imul, [], 0, 0), (28, .iload_n 2, [], 0, 0), (29, .iadd, [], 0, 0), (30, .iload_n 3, [], 0, 0),
  (31, .iastore, [], 0, 0), (32, .aload_n 0, [], 0, 0), (33, .getfield 9, [4, 2, 106], 0, 0), (36, .iload_n 2, [], 0, 0), (37, .bipush 6, [], 6, 0), (39, .imul, [], 0, 0),
  (40, .iload_n 1, [], 0, 0), (41, .iadd, [], 0, 0), (42, .iload_n 3, [], 0, 0), (43, .iastore, [], 0, 0), (44, .return_, [], 0, 0)]
def am_K48 : List am_E := [(0, .aload_n 0, [], 0, 0), (1, .getfield 34, [4, 1, 103], 0, 0), (4, .ifCond .lt 63, [37], 0, 0), (7, .aload_n 0, [], 0, 0), (8, .getfield 34, [4, 1, 103], 0, 0), (11, .bipush 6, [], 6, 0),
  (13, .if_icmp .ge 54, [37], 0, 0), (16, .aload_n 0, [], 0, 0), (17, .getfield 15, [4, 3, 107], 0, 0), (20, .aload_n 0, [], 0, 0), (21, .getfield 34, [4, 1, 103], 0, 0), (24, .iload_n 1, [], 0, 0),
  (25, .iastore, [], 0, 0), (26, .aload_n 0, [], 0, 0), (27, .getfield 18, [4, 4, 109], 0, 0), (30, .aload_n 0, [], 0, 0), (31, .getfield 34, [4, 1, 103], 0, 0), (34, .iload_n 2, [], 0, 0),
  (35, .iastore, [], 0, 0), (36, .aload_n 0, [], 0, 0), (37, .getfield 21, [4, 5, 111], 0, 0), (40, .aload_n 0, [], 0, 0), (41, .getfield 34, [4, 1, 103], 0, 0), (44, .iload_n 3, [], 0, 0),
  (45, .iastore, [], 0, 0), (46, .aload_n 0, [], 0, 0), (47, .getfield 24, [4, 6, 113], 0, 0), (50, .aload_n 0, [], 0, 0), (51, .getfield 34, [4, 1, 103], 0, 0), (54, .iload 4, [], 0, 0),
  (56, .iastore, [], 0, 0), (57, .aload_n 0, [], 0, 0), (58, .dup, [], 0, 0), (59, .getfield 34, [4, 1, 103], 0, 0), (62, .iconst 1, [], 1, 0), (63, .iadd, [], 0, 0),
  (64, .putfield 34, [4, 1, 103], 0, 0), (67, .return_, [], 0, 0)]
def am_K49 : List am_E := [(0, .aload_n 0, [], 0, 0), (1, .iload_n 1, [], 0, 0), (2, .invokevirtual 41, [45, 0, 443], 0, 0), (5, .ifCond .eq 22, [15], 0, 0), (8, .aload_n 0, [], 0, 0), (9, .getfield 18, [4, 4, 109], 0, 0),
  (12, .iload_n 1, [], 0, 0), (13, .invokestatic 45, [83, 1, 6], 0, 0), (16, .iload_n 2, [], 0, 0), (17, .ishr, [], 0, 0), (18, .iconst 1, [], 1, 0), (19, .iand, [], 0, 0),
  (20, .ifCond .eq 7, [15], 0, 0), (23, .iconst 1, [], 1, 0), (24, .goto 4, [16], 0, 0), (27, .iconst 0, [], 0, 0), (28, .ireturn, [], 0, 0)]
def am_K50 : List am_E := [(0, .aload_n 0, [], 0, 0), (1, .iload_n 1, [], 0, 0), (2, .invokevirtual 41, [45, 0, 443], 0, 0), (5, .ifCond .eq 31, [18], 0, 0), (8, .iload_n 2, [], 0, 0), (9, .aload_n 0, [], 0, 0),
  (10, .getfield 21, [4, 5, 111], 0, 0), (13, .iload_n 1, [], 0, 0), (14, .invokestatic 45, [83, 1, 6], 0, 0), (17, .if_icmp .lt 19, [18], 0, 0), (20, .iload_n 2, [], 0, 0), (21, .aload_n 0, [], 0, 0),
  (22, .getfield 24, [4, 6, 113], 0, 0), (25, .iload_n 1, [], 0, 0), (26, .invokestatic 45, [83, 1, 6], 0, 0), (29, .if_icmp .gt 7, [18], 0, 0), (32, .iconst 1, [], 1, 0), (33, .goto 4, [19], 0, 0),
  (36, .iconst 0, [], 0, 0), (37, .ireturn, [], 0, 0)]
def am_K51 : List am_E := [(0, .iconst 0, [], 0, 0), (1, .istore_n 2, [], 0, 0), (2, .iconst 0, [], 0, 0), (3, .istore_n 3, [], 0, 0), (4, .iload_n 3, [], 0, 0), (5, .aload_n 0, [], 0, 0),
  (6, .getfield 34, [4, 1, 103], 0, 0), (9, .if_icmp .ge 21, [16], 0, 0), (12, .aload_n 0, [], 0, 0), (13, .iload_n 3, [], 0, 0), (14, .iload_n 1, [], 0, 0), (15, .invokevirtual 49, [49, 0, 661], 0, 0),
  (18, .ifCond .eq 6, [14], 0, 0), (21, .iinc 2 1, [], 1, 0), (24, .iinc 3 1, [], 1, 0), (27, .goto (-23), [4], 0, 0), (30, .iload_n 2, [], 0, 0), (31, .ireturn, [], 0, 0)]
def am_K52 : List am_E := [(0, .aload_n 0, [], 0, 0), (1, .invokespecial 1, [9999, 0, 81, 82, 83], 0, 0), (4, .aload_n 0, [], 0, 0), (5, .new 7, [3, 7, 84, 85, 68], 0, 0), (8, .dup, [], 0, 0), (9, .invokespecial 9, [28, 0, 86], 0, 0),
  (12, .putfield 10, [5, 0, 262], 0, 0), (15, .aload_n 0, [], 0, 0), (16, .new 16, [4, 7, 155, 91, 69], 0, 0), (19, .dup, [], 0, 0), (20, .invokespecial 18, [41, 0, 156], 0, 0), (23, .putfield 19, [5, 1, 263], 0, 0),
  (26, .aload_n 0, [], 0, 0), (27, .new 23, [2, 5, 157, 158, 70], 0, 0), (30, .dup, [], 0, 0), (31, .invokespecial 25, [23, 0, 159], 0, 0), (34, .putfield 26, [5, 2, 264], 0, 0), (37, .aload_n 0, [], 0, 0),
  (38, .new 30, [0, 12, 183, 184, 71], 0, 0), (41, .dup, [], 0, 0), (42, .invokespecial 32, [1, 0, 185], 0, 0), (45, .putfield 33, [5, 3, 265], 0, 0), (48, .aload_n 0, [], 0, 0), (49, .new 30, [0, 12, 183, 184, 71], 0, 0),
  (52, .dup, [], 0, 0), (53, .invokespecial 32, [1, 0, 185], 0, 0), (56, .putfield 37, [5, 4, 266], 0, 0), (59, .aload_n 0, [], 0, 0), (60, .new 30, [0, 12, 183, 184, 71], 0, 0), (63, .dup, [], 0, 0),
  (64, .invokespecial 32, [1, 0, 185], 0, 0), (67, .putfield 40, [5, 5, 267], 0, 0), (70, .aload_n 0, [], 0, 0), (71, .new 43, [1, 7, 233, 234, 72], 0, 0), (74, .dup, [], 0, 0), (75, .invokespecial 45, [12, 0, 235], 0, 0),
  (78, .putfield 46, [5, 6, 268], 0, 0), (81, .return_, [], 0, 0)]
def am_K53 : List am_E := [(0, .iload_n 1, [], 0, 0), (1, .sipush 255, [], 255, 0), (4, .invokestatic 50, [81, 0, 291], 0, 0), (7, .ifCond .ne 5, [6], 0, 0), (10, .iconst (-1), [], (-1), 0), (11, .ireturn, [], 0, 0),
  (12, .aload_n 0, [], 0, 0), (13, .getfield 10, [5, 0, 262], 0, 0), (16, .getfield 54, [3, 0, 132], 0, 0), (19, .sipush 200, [], 200, 0), (22, .if_icmp .lt 6, [13], 0, 0), (25, .bipush (-3), [], (-3), 0),
  (27, .ireturn, [], 0, 0), (28, .aload_n 0, [], 0, 0), (29, .getfield 10, [5, 0, 262], 0, 0), (32, .iload_n 1, [], 0, 0), (33, .invokevirtual 58, [29, 0, 294], 0, 0), (36, .aload_n 0, [], 0, 0),
  (37, .getfield 10, [5, 0, 262], 0, 0), (40, .getfield 54, [3, 0, 132], 0, 0), (43, .ireturn, [], 0, 0)]
def am_K54 : List am_E := [(0, .aload_n 0, [], 0, 0), (1, .getfield 10, [5, 0, 262], 0, 0), (4, .getfield 54, [3, 0, 132], 0, 0), (7, .istore_n 1, [], 0, 0), (8, .aload_n 0, [], 0, 0), (9, .getfield 10, [5, 0, 262], 0, 0),
  (12, .iconst 0, [], 0, 0), (13, .putfield 54, [3, 0, 132], 0, 0), (16, .iload_n 1, [], 0, 0), (17, .ireturn, [], 0, 0)]
def am_K55 : List am_E := [(0, .aload_n 0, [], 0, 0), (1, .getfield 10, [5, 0, 262], 0, 0), (4, .invokevirtual 62, [30, 0, 306], 0, 0), (7, .istore_n 1, [], 0, 0), (8, .iload_n 1, [], 0, 0), (9, .ifCond .ge 5, [8], 0, 0),
  (12, .iload_n 1, [], 0, 0), (13, .ireturn, [], 0, 0), (14, .aload_n 0, [], 0, 0), (15, .getfield 19, [5, 1, 263], 0, 0), (18, .aload_n 0, [], 0, 0), (19, .getfield 10, [5, 0, 262], 0, 0),
  (22, .getfield 66, [3, 1, 134], 0, 0), (25, .invokevirtual 69, [43, 0, 363], 0, 0), (28, .aload_n 0, [], 0, 0), (29, .getfield 10, [5, 0, 262], 0, 0), (32, .iconst 0, [], 0, 0), (33, .putfield 54, [3, 0, 132], 0, 0),
  (36, .aload_n 0, [], 0, 0), (37, .getfield 26, [5, 2, 264], 0, 0), (40, .iconst 0, [], 0, 0), (41, .putfield 73, [2, 0, 164], 0, 0), (44, .aload_n 0, [], 0, 0), (45, .getfield 33, [5, 3, 265], 0, 0),
  (48, .aload_n 0, [], 0, 0), (49, .getfield 19, [5, 1, 263], 0, 0), (52, .invokevirtual 76, [2, 0, 370], 0, 0), (55, .aload_n 0, [], 0, 0), (56, .getfield 37, [5, 4, 266], 0, 0), (59, .iconst 0, [], 0, 0),
  (60, .putfield 79, [0, 0, 189], 0, 0), (63, .aload_n 0, [], 0, 0), (64, .getfield 40, [5, 5, 267], 0, 0), (67, .iconst 0, [], 0, 0), (68, .putfield 79, [0, 0, 189], 0, 0), (71, .iload_n 1, [], 0, 0),
  (72, .ireturn, [], 0, 0)]
def am_K56 : List am_E := [(0, .aload_n 0, [], 0, 0), (1, .getfield 19, [5, 1, 263], 0, 0), (4, .iload_n 1, [], 0, 0), (5, .invokevirtual 83, [44, 0, 379], 0, 0), (8, .ifCond .eq 14, [10], 0, 0), (11, .aload_n 0, [], 0, 0),
  (12, .getfield 19, [5, 1, 263], 0, 0), (15, .iload_n 2, [], 0, 0), (16, .invokevirtual 83, [44, 0, 379], 0, 0), (19, .ifCond .ne 5, [12], 0, 0), (22, .iconst (-1), [], (-1), 0), (23, .ireturn, [], 0, 0),
  (24, .aload_n 0, [], 0, 0), (25, .getfield 19, [5, 1, 263], 0, 0), (28, .iload_n 1, [], 0, 0), (29, .iload_n 2, [], 0, 0), (30, .invokevirtual 87, [46, 0, 383], 0, 0), (33, .ireturn, [], 0, 0)]
def am_K57 : List am_E := [(0, .aload_n 0, [], 0, 0), (1, .getfield 19, [5, 1, 263], 0, 0), (4, .iload_n 1, [], 0, 0), (5, .invokevirtual 91, [45, 0, 391], 0, 0), (8, .ifCond .ne 5, [7], 0, 0), (11, .iconst (-1), [], (-1), 0),
  (12, .ireturn, [], 0, 0), (13, .iload_n 2, [], 0, 0), (14, .tableswitch 75 0 3 #[30, 39, 51, 63], [30, 32, 9, 14, 20, 26], 0, 0), (44, .aload_n 0, [], 0, 0), (45, .getfield 33, [5, 3, 265], 0, 0), (48, .iload_n 1, [], 0, 0),
  (49, .invokevirtual 94, [4, 0, 395], 0, 0), (52, .ireturn, [], 0, 0), (53, .aload_n 0, [], 0, 0), (54, .getfield 19, [5, 1, 263], 0, 0), (57, .getfield 98, [4, 4, 110], 0, 0), (60, .iload_n 1, [], 0, 0),
  (61, .invokestatic 102, [83, 0, 400], 0, 0), (64, .ireturn, [], 0, 0), (65, .aload_n 0, [], 0, 0), (66, .getfield 19, [5, 1, 263], 0, 0), (69, .getfield 106, [4, 5, 112], 0, 0), (72, .iload_n 1, [], 0, 0),
  (73, .invokestatic 102, [83, 0, 400], 0, 0), (76, .ireturn, [], 0, 0), (77, .aload_n 0, [], 0, 0), (78, .getfield 19, [5, 1, 263], 0, 0), (81, .getfield 109, [4, 6, 114], 0, 0), (84, .iload_n 1, [], 0, 0),
  (85, .invokestatic 102, [83, 0, 400], 0, 0), (88, .ireturn, [], 0, 0), (89, .iconst (-1), [], (-1), 0), (90, .ireturn, [], 0, 0)]
def am_K58 : List am_E := [(0, .iload_n 1, [], 0, 0), (1, .bipush 40, [], 40, 0), (3, .invokestatic 50, [81, 0, 291], 0, 0), (6, .ifCond .eq 30, [16], 0, 0), (9, .aload_n 0, [], 0, 0), (10, .getfield 19, [5, 1, 263], 0, 0),
  (13, .iload_n 2, [], 0, 0), (14, .invokevirtual 83, [44, 0, 379], 0, 0), (17, .ifCond .eq 19, [16], 0, 0), (20, .iload_n 3, [], 0, 0), (21, .invokestatic 112, [82, 0, 405], 0, 0), (24, .ifCond .eq 12, [16], 0, 0),
  (27, .iload 4, [], 0, 0), (29, .iconst 1, [], 1, 0), (30, .invokestatic 50, [81, 0, 291], 0, 0), (33, .ifCond .ne 5, [18], 0, 0), (36, .iconst (-1), [], (-1), 0), (37, .ireturn, [], 0, 0),
  (38, .aload_n 0, [], 0, 0), (39, .getfield 26, [5, 2, 264], 0, 0), (42, .getfield 73, [2, 0, 164], 0, 0), (45, .bipush 8, [], 8, 0), (47, .if_icmp .lt 6, [25], 0, 0), (50, .bipush (-3), [], (-3), 0),
  (52, .ireturn, [], 0, 0), (53, .aload_n 0, [], 0, 0), (54, .getfield 26, [5, 2, 264], 0, 0), (57, .iload_n 1, [], 0, 0), (58, .iload_n 2, [], 0, 0), (59, .iload_n 3, [], 0, 0),
  (60, .iload 4, [], 0, 0), (62, .invokevirtual 115, [25, 0, 406], 0, 0), (65, .aload_n 0, [], 0, 0), (66, .getfield 26, [5, 2, 264], 0, 0), (69, .getfield 73, [2, 0, 164], 0, 0), (72, .ireturn, [], 0, 0)]
def am_K59 : List am_E := [(0, .aload_n 0, [], 0, 0), (1, .getfield 26, [5, 2, 264], 0, 0), (4, .getfield 73, [2, 0, 164], 0, 0), (7, .istore_n 1, [], 0, 0), (8, .aload_n 0, [], 0, 0), (9, .getfield 26, [5, 2, 264], 0, 0),
  (12, .iconst 0, [], 0, 0), (13, .putfield 73, [2, 0, 164], 0, 0), (16, .iload_n 1, [], 0, 0), (17, .ireturn, [], 0, 0)]
def am_K60 : List am_E := [(0, .aload_n 0, [], 0, 0), (1, .getfield 26, [5, 2, 264], 0, 0), (4, .iload_n 1, [], 0, 0), (5, .invokevirtual 118, [24, 0, 418], 0, 0), (8, .ifCond .ne 5, [7], 0, 0), (11, .iconst (-1), [], (-1), 0),
  (12, .ireturn, [], 0, 0), (13, .aload_n 0, [], 0, 0), (14, .getfield 26, [5, 2, 264], 0, 0), (17, .iload_n 1, [], 0, 0), (18, .invokevirtual 121, [26, 0, 422], 0, 0), (21, .ifCond .eq 12, [17], 0, 0),
  (24, .aload_n 0, [], 0, 0), (25, .iload_n 1, [], 0, 0), (26, .iconst 0, [], 0, 0), (27, .invokevirtual 124, [95, 0, 427], 0, 0), (30, .goto 4, [18], 0, 0), (33, .iconst 0, [], 0, 0),
  (34, .ireturn, [], 0, 0)]
def am_K61 : List am_E := [(0, .iconst 0, [], 0, 0), (1, .istore_n 1, [], 0, 0), (2, .iload_n 1, [], 0, 0), (3, .aload_n 0, [], 0, 0), (4, .getfield 26, [5, 2, 264], 0, 0), (7, .getfield 73, [2, 0, 164], 0, 0),
  (10, .if_icmp .ge 31, [21], 0, 0), (13, .aload_n 0, [], 0, 0), (14, .getfield 26, [5, 2, 264], 0, 0), (17, .iload_n 1, [], 0, 0), (18, .invokevirtual 121, [26, 0, 422], 0, 0), (21, .ifCond .eq 14, [19], 0, 0),
  (24, .aload_n 0, [], 0, 0), (25, .iload_n 1, [], 0, 0), (26, .iconst 0, [], 0, 0), (27, .invokevirtual 124, [95, 0, 427], 0, 0), (30, .ifCond .ne 5, [19], 0, 0), (33, .iload_n 1, [], 0, 0),
  (34, .ireturn, [], 0, 0), (35, .iinc 1 1, [], 1, 0), (38, .goto (-36), [2], 0, 0), (41, .bipush (-9), [], (-9), 0), (43, .ireturn, [], 0, 0)]
def am_K62 : List am_E := [(0, .iload_n 1, [], 0, 0), (1, .iconst 2, [], 2, 0), (2, .invokestatic 50, [81, 0, 291], 0, 0), (5, .ifCond .ne 5, [6], 0, 0), (8, .iconst (-1), [], (-1), 0), (9, .ireturn, [], 0, 0),
  (10, .aload_n 0, [], 0, 0), (11, .invokevirtual 127, [96, 0, 465], 0, 0), (14, .aload_n 0, [], 0, 0), (15, .getfield 46, [5, 6, 268], 0, 0), (18, .invokevirtual 130, [19, 0, 496], 0, 0), (21, .ifCond .ne 6, [14], 0, 0),
  (24, .bipush (-9), [], (-9), 0), (26, .ireturn, [], 0, 0), (27, .iload_n 1, [], 0, 0), (28, .ifCond .ne 11, [20], 0, 0), (31, .aload_n 0, [], 0, 0), (32, .getfield 46, [5, 6, 268], 0, 0),
  (35, .invokevirtual 134, [20, 0, 507], 0, 0), (38, .ireturn, [], 0, 0), (39, .iload_n 1, [], 0, 0), (40, .iconst 1, [], 1, 0), (41, .if_icmp .ne 14, [28], 0, 0), (44, .aload_n 0, [], 0, 0),
  (45, .getfield 46, [5, 6, 268], 0, 0), (48, .invokevirtual 137, [21, 0, 511], 0, 0), (51, .l2i, [], 0, 0), (52, .goto 7, [30], 0, 0), (55, .aload_n 0, [], 0, 0), (56, .invokevirtual 141, [98, 0, 515], 0, 0),
  (59, .ireturn, [], 0, 0)]
def am_K63 : List am_E := [(0, .iload_n 1, [], 0, 0), (1, .ifCond .ge 5, [4], 0, 0), (4, .iconst (-1), [], (-1), 0), (5, .ireturn, [], 0, 0), (6, .aload_n 0, [], 0, 0), (7, .invokevirtual 127, [96, 0, 465], 0, 0),
  (10, .aload_n 0, [], 0, 0), (11, .getfield 46, [5, 6, 268], 0, 0), (14, .invokevirtual 130, [19, 0, 496], 0, 0), (17, .ifCond .ne 6, [12], 0, 0), (20, .bipush (-9), [], (-9), 0), (22, .ireturn, [], 0, 0),
  (23, .iload_n 1, [], 0, 0), (24, .aload_n 0, [], 0, 0), (25, .getfield 46, [5, 6, 268], 0, 0), (28, .invokevirtual 134, [20, 0, 507], 0, 0), (31, .if_icmp .ge 14, [22], 0, 0), (34, .aload_n 0, [], 0, 0),
  (35, .getfield 46, [5, 6, 268], 0, 0), (38, .iload_n 1, [], 0, 0), (39, .invokevirtual 144, [22, 0, 523], 0, 0), (42, .goto 5, [23], 0, 0), (45, .bipush (-5), [], (-5), 0), (47, .ireturn, [], 0, 0)]
def am_K64 : List am_E := [(0, .aload_n 0, [], 0, 0), (1, .getfield 19, [5, 1, 263], 0, 0), (4, .iload_n 1, [], 0, 0), (5, .invokevirtual 91, [45, 0, 391], 0, 0), (8, .ifCond .eq 33, [19], 0, 0), (11, .aload_n 0, [], 0, 0),
  (12, .getfield 26, [5, 2, 264], 0, 0), (15, .iload_n 2, [], 0, 0), (16, .invokevirtual 118, [24, 0, 418], 0, 0), (19, .ifCond .eq 22, [19], 0, 0), (22, .aload_n 0, [], 0, 0), (23, .getfield 26, [5, 2, 264], 0, 0),
  (26, .iload_n 2, [], 0, 0), (27, .invokevirtual 121, [26, 0, 422], 0, 0), (30, .ifCond .eq 11, [19], 0, 0), (33, .iload_n 3, [], 0, 0), (34, .iconst 1, [], 1, 0), (35, .invokestatic 50, [81, 0, 291], 0, 0),
  (38, .ifCond .ne 5, [21], 0, 0), (41, .iconst (-1), [], (-1), 0), (42, .ireturn, [], 0, 0), (43, .aload_n 0, [], 0, 0), (44, .invokevirtual 127, [96, 0, 465], 0, 0), (47, .aload_n 0, [], 0, 0),
  (48, .getfield 46, [5, 6, 268], 0, 0), (51, .invokevirtual 130, [19, 0, 496], 0, 0), (54, .ifCond .ne 6, [29], 0, 0), (57, .bipush (-9), [], (-9), 0), (59, .ireturn, [], 0, 0), (60, .aload_n 0, [], 0, 0),
  (61, .getfield 46, [5, 6, 268], 0, 0), (64, .invokevirtual 137, [21, 0, 511], 0, 0), (67, .lstore 4, [], 0, 0), (69, .aload_n 0, [], 0, 0), (70, .iload_n 1, [], 0, 0), (71, .iload_n 2, [], 0, 0),
  (72, .invokevirtual 147, [99, 0, 531], 0, 0), (75, .lstore 6, [], 0, 0), (77, .lload 4, [], 0, 0), (79, .lload 6, [], 0, 0), (81, .invokestatic 151, [87, 0, 535], 0, 0), (84, .lstore 8, [], 0, 0),
  (86, .lload 8, [], 0, 0), (88, .lconst 0, [], 0, 0), (89, .lcmp, [], 0, 0), (90, .ifCond .le 21, [55], 0, 0), (93, .iload_n 3, [], 0, 0), (94, .ifCond .ne 8, [50], 0, 0),
  (97, .lload 6, [], 0, 0), (99, .goto 5, [51], 0, 0), (102, .lload 4, [], 0, 0), (104, .lload 8, [], 0, 0), (106, .ldiv, [], 0, 0), (107, .l2i, [], 0, 0),
  (108, .goto 5, [56], 0, 0), (111, .bipush (-9), [], (-9), 0), (113, .ireturn, [], 0, 0)]
def am_K65 : List am_E := [(0, .aload_n 0, [], 0, 0), (1, .getfield 33, [5, 3, 265], 0, 0), (4, .getfield 155, [0, 1, 191], 0, 0), (7, .bipush 60, [], 60, 0), (9, .if_icmp .lt 6, [7], 0, 0), (12, .bipush (-2), [], (-2), 0),
  (14, .ireturn, [], 0, 0), (15, .aload_n 0, [], 0, 0), (16, .getfield 33, [5, 3, 265], 0, 0), (19, .invokevirtual 158, [5, 0, 542], 0, 0), (22, .aload_n 0, [], 0, 0), (23, .getfield 33, [5, 3, 265], 0, 0),
  (26, .getfield 155, [0, 1, 191], 0, 0), (29, .ireturn, [], 0, 0)]
def am_K66 : List am_E := [(0, .aload_n 0, [], 0, 0), (1, .getfield 19, [5, 1, 263], 0, 0), (4, .iload_n 1, [], 0, 0), (5, .invokevirtual 91, [45, 0, 391], 0, 0), (8, .ifCond .eq 10, [8], 0, 0), (11, .iload_n 2, [], 0, 0),
  (12, .invokestatic 112, [82, 0, 405], 0, 0), (15, .ifCond .ne 5, [10], 0, 0), (18, .iconst (-1), [], (-1), 0), (19, .ireturn, [], 0, 0), (20, .aload_n 0, [], 0, 0), (21, .getfield 19, [5, 1, 263], 0, 0),
  (24, .iload_n 1, [], 0, 0), (25, .iload_n 2, [], 0, 0), (26, .invokevirtual 161, [49, 0, 439], 0, 0), (29, .ifCond .eq 21, [24], 0, 0), (32, .aload_n 0, [], 0, 0), (33, .getfield 19, [5, 1, 263], 0, 0),
  (36, .iload_n 1, [], 0, 0), (37, .aload_n 0, [], 0, 0), (38, .getfield 33, [5, 3, 265], 0, 0), (41, .getfield 155, [0, 1, 191], 0, 0), (44, .invokevirtual 164, [50, 0, 445], 0, 0), (47, .ifCond .ne 6, [26], 0, 0),
  (50, .bipush (-2), [], (-2), 0), (52, .ireturn, [], 0, 0), (53, .aload_n 0, [], 0, 0), (54, .getfield 33, [5, 3, 265], 0, 0), (57, .getfield 167, [0, 2, 193], 0, 0), (60, .bipush 10, [], 10, 0),
  (62, .if_icmp .lt 6, [33], 0, 0), (65, .bipush (-3), [], (-3), 0), (67, .ireturn, [], 0, 0), (68, .aload_n 0, [], 0, 0), (69, .getfield 33, [5, 3, 265], 0, 0), (72, .iload_n 1, [], 0, 0),
  (73, .iload_n 2, [], 0, 0), (74, .invokevirtual 170, [6, 0, 559], 0, 0), (77, .aload_n 0, [], 0, 0), (78, .getfield 33, [5, 3, 265], 0, 0), (81, .getfield 167, [0, 2, 193], 0, 0), (84, .ireturn, [], 0, 0)]
def am_K67 : List am_E := [(0, .aload_n 0, [], 0, 0), (1, .getfield 19, [5, 1, 263], 0, 0), (4, .iload_n 1, [], 0, 0), (5, .invokevirtual 91, [45, 0, 391], 0, 0), (8, .ifCond .eq 14, [10], 0, 0), (11, .aload_n 0, [], 0, 0),
  (12, .getfield 19, [5, 1, 263], 0, 0), (15, .iload_n 2, [], 0, 0), (16, .invokevirtual 83, [44, 0, 379], 0, 0), (19, .ifCond .ne 5, [12], 0, 0), (22, .iconst (-1), [], (-1), 0), (23, .ireturn, [], 0, 0),
  (24, .aload_n 0, [], 0, 0), (25, .getfield 33, [5, 3, 265], 0, 0), (28, .iload_n 1, [], 0, 0), (29, .invokevirtual 94, [4, 0, 395], 0, 0), (32, .istore_n 3, [], 0, 0), (33, .iload_n 3, [], 0, 0),
  (34, .iload_n 2, [], 0, 0), (35, .if_icmp .ne 6, [22], 0, 0), (38, .bipush (-2), [], (-2), 0), (40, .ireturn, [], 0, 0), (41, .aload_n 0, [], 0, 0), (42, .getfield 33, [5, 3, 265], 0, 0),
  (45, .iload_n 1, [], 0, 0), (46, .iload_n 2, [], 0, 0), (47, .invokevirtual 174, [7, 0, 567], 0, 0), (50, .iload_n 3, [], 0, 0), (51, .ireturn, [], 0, 0)]
def am_K68 : List am_E := [(0, .aload_n 0, [], 0, 0), (1, .getfield 33, [5, 3, 265], 0, 0), (4, .getfield 177, [0, 3, 195], 0, 0), (7, .ifCond .gt 6, [6], 0, 0), (10, .bipush (-2), [], (-2), 0), (12, .ireturn, [], 0, 0),
  (13, .aload_n 0, [], 0, 0), (14, .getfield 33, [5, 3, 265], 0, 0), (17, .invokevirtual 180, [10, 0, 575], 0, 0), (20, .aload_n 0, [], 0, 0), (21, .getfield 33, [5, 3, 265], 0, 0), (24, .getfield 177, [0, 3, 195], 0, 0),
  (27, .ireturn, [], 0, 0)]
def am_K69 : List am_E := [(0, .iload_n 1, [], 0, 0), (1, .ifCond .lt 14, [7], 0, 0), (4, .iload_n 1, [], 0, 0), (5, .aload_n 0, [], 0, 0), (6, .getfield 33, [5, 3, 265], 0, 0), (9, .getfield 167, [0, 2, 193], 0, 0),
  (12, .if_icmp .lt 5, [9], 0, 0), (15, .iconst (-1), [], (-1), 0), (16, .ireturn, [], 0, 0), (17, .iload_n 2, [], 0, 0), (18, .tableswitch 78 0 3 #[30, 42, 54, 66], [30, 35, 11, 17, 23, 29], 0, 0), (48, .aload_n 0, [], 0, 0),
  (49, .getfield 33, [5, 3, 265], 0, 0), (52, .getfield 183, [0, 4, 197], 0, 0), (55, .iload_n 1, [], 0, 0), (56, .invokestatic 102, [83, 0, 400], 0, 0), (59, .ireturn, [], 0, 0), (60, .aload_n 0, [], 0, 0),
  (61, .getfield 33, [5, 3, 265], 0, 0), (64, .getfield 186, [0, 5, 199], 0, 0), (67, .iload_n 1, [], 0, 0), (68, .invokestatic 102, [83, 0, 400], 0, 0), (71, .ireturn, [], 0, 0), (72, .aload_n 0, [], 0, 0),
  (73, .getfield 33, [5, 3, 265], 0, 0), (76, .getfield 189, [0, 6, 201], 0, 0), (79, .iload_n 1, [], 0, 0), (80, .invokestatic 102, [83, 0, 400], 0, 0), (83, .ireturn, [], 0, 0), (84, .aload_n 0, [], 0, 0),
  (85, .getfield 33, [5, 3, 265], 0, 0), (88, .getfield 192, [0, 7, 203], 0, 0), (91, .iload_n 1, [], 0, 0), (92, .invokestatic 102, [83, 0, 400], 0, 0), (95, .ireturn, [], 0, 0), (96, .iconst (-1), [], (-1), 0),
  (97, .ireturn, [], 0, 0)]
def am_K70 : List am_E := [(0, .iload_n 1, [], 0, 0), (1, .tableswitch 42 0 2 #[27, 32, 37], [27, 11, 2, 5, 8], 0, 0), (28, .aload_n 0, [], 0, 0), (29, .invokevirtual 195, [101, 0, 587], 0, 0), (32, .ireturn, [], 0, 0), (33, .aload_n 0, [], 0, 0),
  (34, .invokevirtual 198, [102, 0, 595], 0, 0), (37, .ireturn, [], 0, 0), (38, .aload_n 0, [], 0, 0), (39, .invokevirtual 201, [103, 0, 599], 0, 0), (42, .ireturn, [], 0, 0), (43, .iconst (-1), [], (-1), 0),
  (44, .ireturn, [], 0, 0)]
def am_K71 : List am_E := [(0, .aload_n 0, [], 0, 0), (1, .getfield 19, [5, 1, 263], 0, 0), (4, .iload_n 1, [], 0, 0), (5, .invokevirtual 83, [44, 0, 379], 0, 0), (8, .ifCond .ne 5, [7], 0, 0), (11, .iconst (-1), [], (-1), 0),
  (12, .ireturn, [], 0, 0), (13, .iconst 0, [], 0, 0), (14, .istore_n 2, [], 0, 0), (15, .iconst 1, [], 1, 0), (16, .istore_n 3, [], 0, 0), (17, .iload_n 3, [], 0, 0),
  (18, .aload_n 0, [], 0, 0), (19, .getfield 19, [5, 1, 263], 0, 0), (22, .getfield 204, [4, 0, 102], 0, 0), (25, .if_icmp .ge 32, [31], 0, 0), (28, .aload_n 0, [], 0, 0), (29, .getfield 19, [5, 1, 263], 0, 0),
  (32, .iload_n 1, [], 0, 0), (33, .iload_n 3, [], 0, 0), (34, .invokevirtual 87, [46, 0, 383], 0, 0), (37, .aload_n 0, [], 0, 0), (38, .getfield 19, [5, 1, 263], 0, 0), (41, .iload_n 1, [], 0, 0),
  (42, .iload_n 2, [], 0, 0), (43, .invokevirtual 87, [46, 0, 383], 0, 0), (46, .if_icmp .le 5, [29], 0, 0), (49, .iload_n 3, [], 0, 0), (50, .istore_n 2, [], 0, 0), (51, .iinc 3 1, [], 1, 0),
  (54, .goto (-37), [11], 0, 0), (57, .iload_n 2, [], 0, 0), (58, .ireturn, [], 0, 0)]
def am_K72 : List am_E := [(0, .aload_n 0, [], 0, 0), (1, .getfield 19, [5, 1, 263], 0, 0), (4, .iload_n 1, [], 0, 0), (5, .invokevirtual 91, [45, 0, 391], 0, 0), (8, .ifCond .eq 31, [17], 0, 0), (11, .iload_n 2, [], 0, 0),
  (12, .invokestatic 112, [82, 0, 405], 0, 0), (15, .ifCond .eq 24, [17], 0, 0), (18, .aload_n 0, [], 0, 0), (19, .getfield 19, [5, 1, 263], 0, 0), (22, .iload_n 3, [], 0, 0), (23, .invokevirtual 83, [44, 0, 379], 0, 0),
  (26, .ifCond .eq 13, [17], 0, 0), (29, .iload 4, [], 0, 0), (31, .bipush 40, [], 40, 0), (33, .invokestatic 50, [81, 0, 291], 0, 0), (36, .ifCond .ne 5, [19], 0, 0), (39, .iconst (-1), [], (-1), 0),
  (40, .ireturn, [], 0, 0), (41, .aload_n 0, [], 0, 0), (42, .iload_n 1, [], 0, 0), (43, .iload_n 2, [], 0, 0), (44, .iload_n 3, [], 0, 0), (45, .iload 4, [], 0, 0),
  (47, .invokevirtual 207, [89, 0, 435], 0, 0), (50, .ireturn, [], 0, 0)]
def am_K73 : List am_E := [(0, .iload_n 1, [], 0, 0), (1, .invokestatic 112, [82, 0, 405], 0, 0), (4, .ifCond .eq 31, [17], 0, 0), (7, .aload_n 0, [], 0, 0), (8, .getfield 19, [5, 1, 263], 0, 0), (11, .iload_n 2, [], 0, 0),
  (12, .invokevirtual 83, [44, 0, 379], 0, 0), (15, .ifCond .eq 20, [17], 0, 0), (18, .iload_n 3, [], 0, 0), (19, .ifCond .le 16, [17], 0, 0), (22, .iload_n 3, [], 0, 0), (23, .iconst 1, [], 1, 0),
  (24, .aload_n 0, [], 0, 0), (25, .getfield 19, [5, 1, 263], 0, 0), (28, .getfield 211, [4, 1, 105], 0, 0), (31, .ishl, [], 0, 0), (32, .if_icmp .lt 5, [19], 0, 0), (35, .iconst (-1), [], (-1), 0),
  (36, .ireturn, [], 0, 0), (37, .iconst 0, [], 0, 0), (38, .istore 4, [], 0, 0), (40, .iload 4, [], 0, 0), (42, .bipush 40, [], 40, 0), (44, .if_icmp .gt 27, [38], 0, 0),
  (47, .iload_n 3, [], 0, 0), (48, .aload_n 0, [], 0, 0), (49, .iload_n 1, [], 0, 0), (50, .iload_n 2, [], 0, 0), (51, .iload 4, [], 0, 0), (53, .invokevirtual 214, [90, 0, 615], 0, 0),
  (56, .iconst (-1), [], (-1), 0), (57, .ixor, [], 0, 0), (58, .iand, [], 0, 0), (59, .ifCond .ne 6, [36], 0, 0), (62, .iload 4, [], 0, 0), (64, .ireturn, [], 0, 0),
  (65, .iinc 4 1, [], 1, 0), (68, .goto (-28), [21], 0, 0), (71, .bipush (-9), [], (-9), 0), (73, .ireturn, [], 0, 0)]
def am_K74 : List am_E := [(0, .iload_n 1, [], 0, 0), (1, .invokestatic 218, [85, 0, 623], 0, 0), (4, .ifCond .eq 23, [12], 0, 0), (7, .aload_n 0, [], 0, 0), (8, .getfield 19, [5, 1, 263], 0, 0), (11, .iload_n 2, [], 0, 0),
  (12, .invokevirtual 83, [44, 0, 379], 0, 0), (15, .ifCond .eq 12, [12], 0, 0), (18, .iload_n 3, [], 0, 0), (19, .bipush 40, [], 40, 0), (21, .invokestatic 50, [81, 0, 291], 0, 0), (24, .ifCond .ne 5, [14], 0, 0),
  (27, .iconst (-1), [], (-1), 0), (28, .ireturn, [], 0, 0), (29, .iconst 1, [], 1, 0), (30, .istore 4, [], 0, 0), (32, .iload_n 1, [], 0, 0), (33, .istore 5, [], 0, 0),
  (35, .iload_n 1, [], 0, 0), (36, .invokestatic 221, [86, 0, 626], 0, 0), (39, .iconst 1, [], 1, 0), (40, .isub, [], 0, 0), (41, .istore 6, [], 0, 0), (43, .iload 6, [], 0, 0),
  (45, .ifCond .lt 40, [46], 0, 0), (48, .iload 4, [], 0, 0), (50, .aload_n 0, [], 0, 0), (51, .iload 5, [], 0, 0), (53, .bipush 10, [], 10, 0), (55, .irem, [], 0, 0),
  (56, .iconst 1, [], 1, 0), (57, .isub, [], 0, 0), (58, .iload_n 2, [], 0, 0), (59, .iload_n 3, [], 0, 0), (60, .iload 6, [], 0, 0), (62, .iadd, [], 0, 0),
  (63, .invokevirtual 214, [90, 0, 615], 0, 0), (66, .invokestatic 224, [176, 0, 629], 0, 0), (69, .imul, [], 0, 0), (70, .istore 4, [], 0, 0), (72, .iload 5, [], 0, 0), (74, .bipush 10, [], 10, 0),
  (76, .idiv, [], 0, 0), (77, .istore 5, [], 0, 0), (79, .iinc 6 (-1), [], (-1), 0), (82, .goto (-39), [23], 0, 0), (85, .iload 4, [], 0, 0), (87, .ireturn, [], 0, 0)]
def am_K75 : List am_E := [(0, .aload_n 0, [], 0, 0), (1, .getfield 19, [5, 1, 263], 0, 0), (4, .iload_n 1, [], 0, 0), (5, .invokevirtual 83, [44, 0, 379], 0, 0), (8, .ifCond .eq 10, [8], 0, 0), (11, .iload_n 2, [], 0, 0),
  (12, .invokestatic 112, [82, 0, 405], 0, 0), (15, .ifCond .ne 5, [10], 0, 0), (18, .iconst (-1), [], (-1), 0), (19, .ireturn, [], 0, 0), (20, .iconst 0, [], 0, 0), (21, .istore_n 3, [], 0, 0),
  (22, .iconst 0, [], 0, 0), (23, .istore 4, [], 0, 0), (25, .iload 4, [], 0, 0), (27, .bipush 40, [], 40, 0), (29, .if_icmp .gt 34, [32], 0, 0), (32, .aload_n 0, [], 0, 0),
  (33, .iload_n 1, [], 0, 0), (34, .iload_n 2, [], 0, 0), (35, .iload 4, [], 0, 0), (37, .invokevirtual 229, [92, 0, 449], 0, 0), (40, .ifCond .ne 14, [29], 0, 0), (43, .aload_n 0, [], 0, 0),
  (44, .iload_n 1, [], 0, 0), (45, .iload_n 2, [], 0, 0), (46, .iload 4, [], 0, 0), (48, .invokevirtual 233, [93, 0, 639], 0, 0), (51, .ifCond .ne 6, [30], 0, 0), (54, .iinc 3 1, [], 1, 0),
  (57, .iinc 4 1, [], 1, 0), (60, .goto (-35), [14], 0, 0), (63, .iload_n 3, [], 0, 0), (64, .ireturn, [], 0, 0)]
def am_K76 : List am_E := [(0, .iload_n 1, [], 0, 0), (1, .iconst 5, [], 5, 0), (2, .invokestatic 50, [81, 0, 291], 0, 0), (5, .ifCond .eq 10, [7], 0, 0), (8, .iload_n 2, [], 0, 0), (9, .invokestatic 112, [82, 0, 405], 0, 0),
  (12, .ifCond .ne 6, [9], 0, 0), (15, .ldc 236, [647], (-1000000), 0), (17, .ireturn, [], 0, 0), (18, .iload_n 1, [], 0, 0), (19, .tableswitch 63 1 5 #[33, 39, 45, 51, 57], [33, 31, 11, 15, 19, 23, 27], 0, 0), (52, .aload_n 0, [], 0, 0),
  (53, .iload_n 2, [], 0, 0), (54, .invokevirtual 237, [105, 0, 648], 0, 0), (57, .ireturn, [], 0, 0), (58, .aload_n 0, [], 0, 0), (59, .iload_n 2, [], 0, 0), (60, .invokevirtual 240, [106, 0, 662], 0, 0),
  (63, .ireturn, [], 0, 0), (64, .aload_n 0, [], 0, 0), (65, .iload_n 2, [], 0, 0), (66, .invokevirtual 243, [107, 0, 672], 0, 0), (69, .ireturn, [], 0, 0), (70, .aload_n 0, [], 0, 0),
  (71, .iload_n 2, [], 0, 0), (72, .invokevirtual 246, [108, 0, 677], 0, 0), (75, .ireturn, [], 0, 0), (76, .aload_n 0, [], 0, 0), (77, .iload_n 2, [], 0, 0), (78, .invokevirtual 249, [109, 0, 686], 0, 0),
  (81, .ireturn, [], 0, 0), (82, .aload_n 0, [], 0, 0), (83, .iload_n 2, [], 0, 0), (84, .invokevirtual 252, [104, 0, 653], 0, 0), (87, .ireturn, [], 0, 0)]
def am_K77 : List am_E := [(0, .iload_n 1, [], 0, 0), (1, .iconst 1, [], 1, 0), (2, .invokestatic 50, [81, 0, 291], 0, 0), (5, .ifCond .ne 5, [6], 0, 0), (8, .iconst (-1), [], (-1), 0), (9, .ireturn, [], 0, 0),
  (10, .aload_n 0, [], 0, 0), (11, .iload_n 1, [], 0, 0), (12, .invokevirtual 255, [88, 0, 695], 0, 0), (15, .astore_n 2, [], 0, 0), (16, .aload_n 2, [], 0, 0), (17, .aload_n 0, [], 0, 0),
  (18, .getfield 33, [5, 3, 265], 0, 0), (21, .invokevirtual 259, [3, 0, 699], 0, 0), (24, .aload_n 2, [], 0, 0), (25, .iconst 1, [], 1, 0), (26, .putfield 79, [0, 0, 189], 0, 0), (29, .aload_n 0, [], 0, 0),
  (30, .getfield 33, [5, 3, 265], 0, 0), (33, .getfield 155, [0, 1, 191], 0, 0), (36, .ireturn, [], 0, 0)]
def am_K78 : List am_E := [(0, .iload_n 1, [], 0, 0), (1, .iconst 1, [], 1, 0), (2, .invokestatic 50, [81, 0, 291], 0, 0), (5, .ifCond .ne 5, [6], 0, 0), (8, .iconst (-1), [], (-1), 0), (9, .ireturn, [], 0, 0),
  (10, .aload_n 0, [], 0, 0), (11, .iload_n 1, [], 0, 0), (12, .invokevirtual 255, [88, 0, 695], 0, 0), (15, .astore_n 2, [], 0, 0), (16, .aload_n 2, [], 0, 0), (17, .getfield 79, [0, 0, 189], 0, 0),
  (20, .ifCond .ne 6, [15], 0, 0), (23, .bipush (-2), [], (-2), 0), (25, .ireturn, [], 0, 0), (26, .aload_n 0, [], 0, 0), (27, .getfield 33, [5, 3, 265], 0, 0), (30, .aload_n 2, [], 0, 0),
  (31, .invokevirtual 259, [3, 0, 699], 0, 0), (34, .aload_n 0, [], 0, 0), (35, .getfield 33, [5, 3, 265], 0, 0), (38, .getfield 155, [0, 1, 191], 0, 0), (41, .ireturn, [], 0, 0)]
def am_K79 : List am_E := [(0, .iload_n 1, [], 0, 0), (1, .tableswitch 99 0 6 #[43, 51, 59, 67, 75, 83, 91], [43, 30, 2, 6, 10, 14, 18, 22, 26], 0, 0), (44, .aload_n 0, [], 0, 0), (45, .getfield 19, [5, 1, 263], 0, 0), (48, .getfield 204, [4, 0, 102], 0, 0), (51, .ireturn, [], 0, 0),
  (52, .aload_n 0, [], 0, 0), (53, .getfield 19, [5, 1, 263], 0, 0), (56, .getfield 211, [4, 1, 105], 0, 0), (59, .ireturn, [], 0, 0), (60, .aload_n 0, [], 0, 0), (61, .getfield 26, [5, 2, 264], 0, 0),
  (64, .getfield 73, [2, 0, 164], 0, 0), (67, .ireturn, [], 0, 0), (68, .aload_n 0, [], 0, 0), (69, .getfield 33, [5, 3, 265], 0, 0), (72, .getfield 155, [0, 1, 191], 0, 0), (75, .ireturn, [], 0, 0),
  (76, .aload_n 0, [], 0, 0), (77, .getfield 33, [5, 3, 265], 0, 0), (80, .getfield 167, [0, 2, 193], 0, 0), (83, .ireturn, [], 0, 0), (84, .aload_n 0, [], 0, 0), (85, .getfield 33, [5, 3, 265], 0, 0),
  (88, .getfield 177, [0, 3, 195], 0, 0), (91, .ireturn, [], 0, 0), (92, .aload_n 0, [], 0, 0), (93, .getfield 10, [5, 0, 262], 0, 0), (96, .getfield 54, [3, 0, 132], 0, 0), (99, .ireturn, [], 0, 0),
  (100, .iconst (-1), [], (-1), 0), (101, .ireturn, [], 0, 0)]
def am_K80 : List am_E := [(0, .aload_n 0, [], 0, 0), (1, .getfield 262, [5, 7, 269], 0, 0), (4, .lreturn, [], 0, 0)]
def am_K81 : List am_E := [(0, .iload_n 0, [], 0, 0), (1, .ifCond .lt 12, [7], 0, 0), (4, .iload_n 0, [], 0, 0), (5, .iload_n 1, [], 0, 0), (6, .if_icmp .gt 7, [7], 0, 0), (9, .iconst 1, [], 1, 0),
  (10, .goto 4, [8], 0, 0), (13, .iconst 0, [], 0, 0), (14, .ireturn, [], 0, 0)]
def am_K82 : List am_E := [(0, .iload_n 0, [], 0, 0), (1, .bipush 7, [], 7, 0), (3, .invokestatic 50, [81, 0, 291], 0, 0), (6, .ireturn, [], 0, 0)]
def am_K83 : List am_E := [(0, .iload_n 1, [], 0, 0), (1, .ifCond .lt 15, [10], 0, 0), (4, .iload_n 1, [], 0, 0), (5, .aload_n 0, [], 0, 0), (6, .arraylength, [], 0, 0), (7, .if_icmp .ge 9, [10], 0, 0),
  (10, .aload_n 0, [], 0, 0), (11, .iload_n 1, [], 0, 0), (12, .iaload, [], 0, 0), (13, .goto 4, [11], 0, 0), (16, .iconst 0, [], 0, 0), (17, .ireturn, [], 0, 0)]
def am_K84 : List am_E := [(0, .iconst 0, [], 0, 0), (1, .istore_n 2, [], 0, 0), (2, .iload_n 2, [], 0, 0), (3, .aload_n 1, [], 0, 0), (4, .arraylength, [], 0, 0), (5, .if_icmp .ge 21, [18], 0, 0),
  (8, .iload_n 2, [], 0, 0), (9, .aload_n 0, [], 0, 0), (10, .arraylength, [], 0, 0), (11, .if_icmp .ge 15, [18], 0, 0), (14, .aload_n 1, [], 0, 0), (15, .iload_n 2, [], 0, 0),
  (16, .aload_n 0, [], 0, 0), (17, .iload_n 2, [], 0, 0), (18, .iaload, [], 0, 0), (19, .iastore, [], 0, 0), (20, .iinc 2 1, [], 1, 0), (23, .goto (-21), [2], 0, 0),
  (26, .return_, [], 0, 0)]
def am_K85 : List am_E := [(0, .iload_n 0, [], 0, 0), (1, .ifCond .lt 12, [6], 0, 0), (4, .iload_n 0, [], 0, 0), (5, .invokestatic 221, [86, 0, 626], 0, 0), (8, .bipush 6, [], 6, 0), (10, .if_icmp .le 5, [8], 0, 0),
  (13, .iconst 0, [], 0, 0), (14, .ireturn, [], 0, 0), (15, .iload_n 0, [], 0, 0), (16, .istore_n 1, [], 0, 0), (17, .iconst 0, [], 0, 0), (18, .istore_n 2, [], 0, 0),
  (19, .iload_n 2, [], 0, 0), (20, .bipush 6, [], 6, 0), (22, .if_icmp .ge 32, [32], 0, 0), (25, .iload_n 1, [], 0, 0), (26, .ifCond .le 28, [32], 0, 0), (29, .iload_n 1, [], 0, 0),
  (30, .bipush 10, [], 10, 0), (32, .irem, [], 0, 0), (33, .iconst 1, [], 1, 0), (34, .isub, [], 0, 0), (35, .invokestatic 112, [82, 0, 405], 0, 0), (38, .ifCond .ne 5, [26], 0, 0),
  (41, .iconst 0, [], 0, 0), (42, .ireturn, [], 0, 0), (43, .iload_n 1, [], 0, 0), (44, .bipush 10, [], 10, 0), (46, .idiv, [], 0, 0), (47, .istore_n 1, [], 0, 0),
  (48, .iinc 2 1, [], 1, 0), (51, .goto (-32), [12], 0, 0), (54, .iconst 1, [], 1, 0), (55, .ireturn, [], 0, 0)]
def am_K86 : List am_E := [(0, .iconst 0, [], 0, 0), (1, .istore_n 1, [], 0, 0), (2, .iload_n 0, [], 0, 0), (3, .istore_n 2, [], 0, 0), (4, .iconst 0, [], 0, 0), (5, .istore_n 3, [], 0, 0),
  (6, .iload_n 3, [], 0, 0), (7, .bipush 10, [], 10, 0), (9, .if_icmp .ge 21, [18], 0, 0), (12, .iload_n 2, [], 0, 0), (13, .ifCond .le 17, [18], 0, 0), (16, .iinc 1 1, [], 1, 0),
  (19, .iload_n 2, [], 0, 0), (20, .bipush 10, [], 10, 0), (22, .idiv, [], 0, 0), (23, .istore_n 2, [], 0, 0), (24, .iinc 3 1, [], 1, 0), (27, .goto (-21), [6], 0, 0),
  (30, .iload_n 1, [], 0, 0), (31, .ireturn, [], 0, 0)]
def am_K87 : List am_E := [(0, .lload_n 0, [], 0, 0), (1, .lstore 4, [], 0, 0), (3, .lload_n 2, [], 0, 0), (4, .lstore 6, [], 0, 0), (6, .iconst 0, [], 0, 0), (7, .istore 8, [], 0, 0),
  (9, .iload 8, [], 0, 0), (11, .bipush 100, [], 100, 0), (13, .if_icmp .ge 31, [23], 0, 0), (16, .lload 6, [], 0, 0), (18, .lconst 0, [], 0, 0), (19, .lcmp, [], 0, 0),
  (20, .ifCond .eq 24, [23], 0, 0), (23, .lload 4, [], 0, 0), (25, .lload 6, [], 0, 0), (27, .lrem, [], 0, 0), (28, .lstore 9, [], 0, 0), (30, .lload 6, [], 0, 0),
  (32, .lstore 4, [], 0, 0), (34, .lload 9, [], 0, 0), (36, .lstore 6, [], 0, 0), (38, .iinc 8 1, [], 1, 0), (41, .goto (-32), [6], 0, 0), (44, .lload 4, [], 0, 0),
  (46, .lreturn, [], 0, 0)]
def am_K88 : List am_E := [(0, .iload_n 1, [], 0, 0), (1, .ifCond .ne 10, [5], 0, 0), (4, .aload_n 0, [], 0, 0), (5, .getfield 37, [5, 4, 266], 0, 0), (8, .goto 7, [7], 0, 0), (11, .aload_n 0, [], 0, 0),
  (12, .getfield 40, [5, 5, 267], 0, 0), (15, .areturn, [], 0, 0)]
def am_K89 : List am_E := [(0, .iload 4, [], 0, 0), (2, .aload_n 0, [], 0, 0), (3, .getfield 19, [5, 1, 263], 0, 0), (6, .aload_n 0, [], 0, 0), (7, .getfield 33, [5, 3, 265], 0, 0), (10, .iload_n 1, [], 0, 0),
  (11, .invokevirtual 94, [4, 0, 395], 0, 0), (14, .iload_n 3, [], 0, 0), (15, .invokevirtual 87, [46, 0, 383], 0, 0), (18, .iadd, [], 0, 0), (19, .istore 5, [], 0, 0), (21, .aload_n 0, [], 0, 0),
  (22, .getfield 19, [5, 1, 263], 0, 0), (25, .iload_n 1, [], 0, 0), (26, .iload_n 2, [], 0, 0), (27, .invokevirtual 161, [49, 0, 439], 0, 0), (30, .ifCond .eq 21, [25], 0, 0), (33, .aload_n 0, [], 0, 0),
  (34, .getfield 19, [5, 1, 263], 0, 0), (37, .iload_n 1, [], 0, 0), (38, .iload 5, [], 0, 0), (40, .invokevirtual 164, [50, 0, 445], 0, 0), (43, .ifCond .eq 8, [25], 0, 0), (46, .iload 5, [], 0, 0),
  (48, .goto 5, [26], 0, 0), (51, .bipush (-9), [], (-9), 0), (53, .ireturn, [], 0, 0)]
def am_K90 : List am_E := [(0, .iconst 0, [], 0, 0), (1, .istore 4, [], 0, 0), (3, .iconst 0, [], 0, 0), (4, .istore 5, [], 0, 0), (6, .iload 5, [], 0, 0), (8, .aload_n 0, [], 0, 0),
  (9, .getfield 19, [5, 1, 263], 0, 0), (12, .getfield 211, [4, 1, 105], 0, 0), (15, .if_icmp .ge 32, [25], 0, 0), (18, .aload_n 0, [], 0, 0), (19, .iload 5, [], 0, 0), (21, .iload_n 1, [], 0, 0),
  (22, .iload_n 2, [], 0, 0), (23, .iload_n 3, [], 0, 0), (24, .invokevirtual 207, [89, 0, 435], 0, 0), (27, .bipush (-9), [], (-9), 0), (29, .if_icmp .eq 12, [23], 0, 0), (32, .iload 4, [], 0, 0),
  (34, .iconst 1, [], 1, 0), (35, .iload 5, [], 0, 0), (37, .ishl, [], 0, 0), (38, .ior, [], 0, 0), (39, .istore 4, [], 0, 0), (41, .iinc 5 1, [], 1, 0),
  (44, .goto (-38), [4], 0, 0), (47, .iload 4, [], 0, 0), (49, .ireturn, [], 0, 0)]
def am_K91 : List am_E := [(0, .aload_n 0, [], 0, 0), (1, .getfield 26, [5, 2, 264], 0, 0), (4, .getfield 266, [2, 3, 170], 0, 0), (7, .iload 4, [], 0, 0), (9, .invokestatic 102, [83, 0, 400], 0, 0), (12, .iload_n 2, [], 0, 0),
  (13, .if_icmp .ne 44, [26], 0, 0), (16, .aload_n 0, [], 0, 0), (17, .getfield 26, [5, 2, 264], 0, 0), (20, .getfield 269, [2, 1, 166], 0, 0), (23, .iload 4, [], 0, 0), (25, .invokestatic 102, [83, 0, 400], 0, 0),
  (28, .iload_n 3, [], 0, 0), (29, .aload_n 0, [], 0, 0), (30, .getfield 19, [5, 1, 263], 0, 0), (33, .iload_n 1, [], 0, 0), (34, .aload_n 0, [], 0, 0), (35, .getfield 26, [5, 2, 264], 0, 0),
  (38, .getfield 272, [2, 2, 168], 0, 0), (41, .iload 4, [], 0, 0), (43, .invokestatic 102, [83, 0, 400], 0, 0), (46, .invokevirtual 87, [46, 0, 383], 0, 0), (49, .isub, [], 0, 0), (50, .if_icmp .ne 7, [26], 0, 0),
  (53, .iconst 1, [], 1, 0), (54, .goto 4, [27], 0, 0), (57, .iconst 0, [], 0, 0), (58, .ireturn, [], 0, 0)]
def am_K92 : List am_E := [(0, .iconst 0, [], 0, 0), (1, .istore 4, [], 0, 0), (3, .iload 4, [], 0, 0), (5, .aload_n 0, [], 0, 0), (6, .getfield 26, [5, 2, 264], 0, 0), (9, .getfield 73, [2, 0, 164], 0, 0),
  (12, .if_icmp .ge 35, [23], 0, 0), (15, .aload_n 0, [], 0, 0), (16, .getfield 26, [5, 2, 264], 0, 0), (19, .iload 4, [], 0, 0), (21, .invokevirtual 121, [26, 0, 422], 0, 0), (24, .ifCond .ne 17, [21], 0, 0),
  (27, .aload_n 0, [], 0, 0), (28, .iload_n 1, [], 0, 0), (29, .iload_n 2, [], 0, 0), (30, .iload_n 3, [], 0, 0), (31, .iload 4, [], 0, 0), (33, .invokevirtual 274, [91, 0, 453], 0, 0),
  (36, .ifCond .eq 5, [21], 0, 0), (39, .iconst 1, [], 1, 0), (40, .ireturn, [], 0, 0), (41, .iinc 4 1, [], 1, 0), (44, .goto (-41), [2], 0, 0), (47, .iconst 0, [], 0, 0),
  (48, .ireturn, [], 0, 0)]
def am_K93 : List am_E := [(0, .iconst 0, [], 0, 0), (1, .istore 4, [], 0, 0), (3, .iload 4, [], 0, 0), (5, .aload_n 0, [], 0, 0), (6, .getfield 19, [5, 1, 263], 0, 0), (9, .getfield 211, [4, 1, 105], 0, 0),
  (12, .if_icmp .ge 50, [29], 0, 0), (15, .aload_n 0, [], 0, 0), (16, .getfield 33, [5, 3, 265], 0, 0), (19, .iload 4, [], 0, 0), (21, .invokevirtual 94, [4, 0, 395], 0, 0), (24, .iload_n 1, [], 0, 0),
  (25, .if_icmp .ne 31, [27], 0, 0), (28, .aload_n 0, [], 0, 0), (29, .getfield 19, [5, 1, 263], 0, 0), (32, .iload 4, [], 0, 0), (34, .iload_n 2, [], 0, 0), (35, .invokevirtual 161, [49, 0, 439], 0, 0),
  (38, .ifCond .eq 18, [27], 0, 0), (41, .aload_n 0, [], 0, 0), (42, .getfield 19, [5, 1, 263], 0, 0), (45, .iload 4, [], 0, 0), (47, .iload_n 3, [], 0, 0), (48, .invokevirtual 164, [50, 0, 445], 0, 0),
  (51, .ifCond .eq 5, [27], 0, 0), (54, .iconst 1, [], 1, 0), (55, .ireturn, [], 0, 0), (56, .iinc 4 1, [], 1, 0), (59, .goto (-56), [2], 0, 0), (62, .iconst 0, [], 0, 0),
  (63, .ireturn, [], 0, 0)]
def am_K94 : List am_E := [(0, .aload_n 0, [], 0, 0), (1, .getfield 26, [5, 2, 264], 0, 0), (4, .getfield 266, [2, 3, 170], 0, 0), (7, .iload_n 2, [], 0, 0), (8, .invokestatic 102, [83, 0, 400], 0, 0), (11, .istore_n 3, [], 0, 0),
  (12, .aload_n 0, [], 0, 0), (13, .iload_n 1, [], 0, 0), (14, .iload_n 3, [], 0, 0), (15, .aload_n 0, [], 0, 0), (16, .getfield 26, [5, 2, 264], 0, 0), (19, .getfield 272, [2, 2, 168], 0, 0),
  (22, .iload_n 2, [], 0, 0), (23, .invokestatic 102, [83, 0, 400], 0, 0), (26, .aload_n 0, [], 0, 0), (27, .getfield 26, [5, 2, 264], 0, 0), (30, .getfield 269, [2, 1, 166], 0, 0), (33, .iload_n 2, [], 0, 0),
  (34, .invokestatic 102, [83, 0, 400], 0, 0), (37, .invokevirtual 207, [89, 0, 435], 0, 0), (40, .istore 4, [], 0, 0), (42, .iload 4, [], 0, 0), (44, .bipush (-9), [], (-9), 0), (46, .if_icmp .eq 21, [33], 0, 0),
  (49, .aload_n 0, [], 0, 0), (50, .aload_n 0, [], 0, 0), (51, .getfield 33, [5, 3, 265], 0, 0), (54, .iload_n 1, [], 0, 0), (55, .invokevirtual 94, [4, 0, 395], 0, 0), (58, .iload_n 3, [], 0, 0),
  (59, .iload 4, [], 0, 0), (61, .invokevirtual 229, [92, 0, 449], 0, 0), (64, .ifCond .eq 8, [35], 0, 0), (67, .bipush (-9), [], (-9), 0), (69, .goto 5, [36], 0, 0), (72, .iload 4, [], 0, 0),
  (74, .ireturn, [], 0, 0)]
def am_K95 : List am_E := [(0, .iconst 0, [], 0, 0), (1, .istore_n 3, [], 0, 0), (2, .iconst 0, [], 0, 0), (3, .istore 4, [], 0, 0), (5, .iload 4, [], 0, 0), (7, .aload_n 0, [], 0, 0),
  (8, .getfield 19, [5, 1, 263], 0, 0), (11, .getfield 211, [4, 1, 105], 0, 0), (14, .if_icmp .ge 38, [28], 0, 0), (17, .aload_n 0, [], 0, 0), (18, .iload 4, [], 0, 0), (20, .iload_n 1, [], 0, 0),
  (21, .invokevirtual 278, [94, 0, 431], 0, 0), (24, .istore 5, [], 0, 0), (26, .iload 5, [], 0, 0), (28, .bipush (-9), [], (-9), 0), (30, .if_icmp .eq 16, [26], 0, 0), (33, .iload 5, [], 0, 0),
  (35, .iload_n 2, [], 0, 0), (36, .if_icmp .lt 10, [26], 0, 0), (39, .iload_n 3, [], 0, 0), (40, .iconst 1, [], 1, 0), (41, .iload 4, [], 0, 0), (43, .ishl, [], 0, 0),
  (44, .ior, [], 0, 0), (45, .istore_n 3, [], 0, 0), (46, .iinc 4 1, [], 1, 0), (49, .goto (-44), [4], 0, 0), (52, .iload_n 3, [], 0, 0), (53, .ireturn, [], 0, 0)]
def am_K96 : List am_E := [(0, .aload_n 0, [], 0, 0), (1, .getfield 46, [5, 6, 268], 0, 0), (4, .invokevirtual 281, [13, 0, 469], 0, 0), (7, .iconst 0, [], 0, 0), (8, .istore_n 1, [], 0, 0), (9, .iload_n 1, [], 0, 0),
  (10, .aload_n 0, [], 0, 0), (11, .getfield 26, [5, 2, 264], 0, 0), (14, .getfield 73, [2, 0, 164], 0, 0), (17, .if_icmp .ge 95, [54], 0, 0), (20, .aload_n 0, [], 0, 0), (21, .getfield 26, [5, 2, 264], 0, 0),
  (24, .iload_n 1, [], 0, 0), (25, .invokevirtual 121, [26, 0, 422], 0, 0), (28, .ifCond .eq 13, [19], 0, 0), (31, .aload_n 0, [], 0, 0), (32, .getfield 46, [5, 6, 268], 0, 0), (35, .invokevirtual 284, [14, 0, 473], 0, 0),
  (38, .goto 4, [20], 0, 0), (41, .iconst 0, [], 0, 0), (42, .istore_n 2, [], 0, 0), (43, .iconst 0, [], 0, 0), (44, .istore_n 3, [], 0, 0), (45, .iload_n 3, [], 0, 0),
  (46, .aload_n 0, [], 0, 0), (47, .getfield 19, [5, 1, 263], 0, 0), (50, .getfield 211, [4, 1, 105], 0, 0), (53, .if_icmp .ge 53, [52], 0, 0), (56, .iload_n 2, [], 0, 0), (57, .ifCond .eq 49, [52], 0, 0),
  (60, .aload_n 0, [], 0, 0), (61, .iload_n 3, [], 0, 0), (62, .iload_n 1, [], 0, 0), (63, .invokevirtual 278, [94, 0, 431], 0, 0), (66, .istore 4, [], 0, 0), (68, .iload 4, [], 0, 0),
  (70, .bipush (-9), [], (-9), 0), (72, .if_icmp .eq 28, [50], 0, 0), (75, .aload_n 0, [], 0, 0), (76, .getfield 46, [5, 6, 268], 0, 0), (79, .iload_n 3, [], 0, 0), (80, .aload_n 0, [], 0, 0),
  (81, .getfield 26, [5, 2, 264], 0, 0), (84, .getfield 266, [2, 3, 170], 0, 0), (87, .iload_n 1, [], 0, 0), (88, .invokestatic 102, [83, 0, 400], 0, 0), (91, .iload 4, [], 0, 0), (93, .invokestatic 287, [97, 0, 477], 0, 0),
  (96, .iload_n 2, [], 0, 0), (97, .invokevirtual 290, [15, 0, 480], 0, 0), (100, .iinc 3 1, [], 1, 0), (103, .goto (-58), [23], 0, 0), (106, .iinc 1 1, [], 1, 0), (109, .goto (-100), [5], 0, 0),
  (112, .aload_n 0, [], 0, 0), (113, .getfield 46, [5, 6, 268], 0, 0), (116, .iconst (-1), [], (-1), 0), (117, .iconst (-1), [], (-1), 0), (118, .invokevirtual 293, [16, 0, 485], 0, 0), (121, .return_, [], 0, 0)]
def am_K97 : List am_E := [(0, .sipush 10000, [], 10000, 0), (3, .iload_n 0, [], 0, 0), (4, .imul, [], 0, 0), (5, .bipush 100, [], 100, 0), (7, .iload_n 1, [], 0, 0), (8, .imul, [], 0, 0),
  (9, .iadd, [], 0, 0), (10, .iload_n 2, [], 0, 0), (11, .iadd, [], 0, 0), (12, .ireturn, [], 0, 0)]
def am_K98 : List am_E := [(0, .aload_n 0, [], 0, 0), (1, .getfield 46, [5, 6, 268], 0, 0), (4, .invokevirtual 134, [20, 0, 507], 0, 0), (7, .istore_n 1, [], 0, 0), (8, .iconst 0, [], 0, 0), (9, .istore_n 2, [], 0, 0),
  (10, .iconst 0, [], 0, 0), (11, .istore_n 3, [], 0, 0), (12, .iload_n 3, [], 0, 0), (13, .aload_n 0, [], 0, 0), (14, .getfield 19, [5, 1, 263], 0, 0), (17, .getfield 211, [4, 1, 105], 0, 0),
  (20, .if_icmp .ge 35, [31], 0, 0), (23, .aload_n 0, [], 0, 0), (24, .getfield 46, [5, 6, 268], 0, 0), (27, .iload_n 3, [], 0, 0), (28, .iconst (-1), [], (-1), 0), (29, .invokevirtual 293, [16, 0, 485], 0, 0),
  (32, .aload_n 0, [], 0, 0), (33, .getfield 46, [5, 6, 268], 0, 0), (36, .invokevirtual 134, [20, 0, 507], 0, 0), (39, .iload_n 1, [], 0, 0), (40, .if_icmp .eq 9, [29], 0, 0), (43, .iload_n 2, [], 0, 0),
  (44, .iconst 1, [], 1, 0), (45, .iload_n 3, [], 0, 0), (46, .ishl, [], 0, 0), (47, .ior, [], 0, 0), (48, .istore_n 2, [], 0, 0), (49, .iinc 3 1, [], 1, 0),
  (52, .goto (-40), [8], 0, 0), (55, .iload_n 2, [], 0, 0), (56, .ireturn, [], 0, 0)]
def am_K99 : List am_E := [(0, .aload_n 0, [], 0, 0), (1, .iload_n 1, [], 0, 0), (2, .iload_n 2, [], 0, 0), (3, .invokevirtual 278, [94, 0, 431], 0, 0), (6, .istore_n 3, [], 0, 0), (7, .iload_n 3, [], 0, 0),
  (8, .bipush (-9), [], (-9), 0), (10, .if_icmp .ne 5, [10], 0, 0), (13, .lconst 0, [], 0, 0), (14, .lreturn, [], 0, 0), (15, .aload_n 0, [], 0, 0), (16, .getfield 46, [5, 6, 268], 0, 0),
  (19, .invokevirtual 134, [20, 0, 507], 0, 0), (22, .istore 4, [], 0, 0), (24, .aload_n 0, [], 0, 0), (25, .getfield 46, [5, 6, 268], 0, 0), (28, .invokevirtual 137, [21, 0, 511], 0, 0), (31, .lstore 5, [], 0, 0),
  (33, .aload_n 0, [], 0, 0), (34, .getfield 46, [5, 6, 268], 0, 0), (37, .iconst (-1), [], (-1), 0), (38, .iload_n 1, [], 0, 0), (39, .aload_n 0, [], 0, 0), (40, .getfield 26, [5, 2, 264], 0, 0),
  (43, .getfield 266, [2, 3, 170], 0, 0), (46, .iload_n 2, [], 0, 0), (47, .invokestatic 102, [83, 0, 400], 0, 0), (50, .iload_n 3, [], 0, 0), (51, .invokestatic 287, [97, 0, 477], 0, 0), (54, .invokevirtual 293, [16, 0, 485], 0, 0),
  (57, .aload_n 0, [], 0, 0), (58, .getfield 46, [5, 6, 268], 0, 0), (61, .invokevirtual 134, [20, 0, 507], 0, 0), (64, .iload 4, [], 0, 0), (66, .if_icmp .ne 16, [41], 0, 0), (69, .lload 5, [], 0, 0),
  (71, .aload_n 0, [], 0, 0), (72, .getfield 46, [5, 6, 268], 0, 0), (75, .invokevirtual 137, [21, 0, 511], 0, 0), (78, .lsub, [], 0, 0), (79, .goto 5, [42], 0, 0), (82, .lload 5, [], 0, 0),
  (84, .lreturn, [], 0, 0)]
def am_K100 : List am_E := [(0, .iconst 0, [], 0, 0), (1, .istore_n 2, [], 0, 0), (2, .iload_n 2, [], 0, 0), (3, .aload_n 0, [], 0, 0), (4, .getfield 33, [5, 3, 265], 0, 0), (7, .getfield 167, [0, 2, 193], 0, 0),
  (10, .if_icmp .ge 52, [30], 0, 0), (13, .aload_n 0, [], 0, 0), (14, .aload_n 0, [], 0, 0), (15, .getfield 33, [5, 3, 265], 0, 0), (18, .getfield 192, [0, 7, 203], 0, 0), (21, .iload_n 2, [], 0, 0),
  (22, .invokestatic 102, [83, 0, 400], 0, 0), (25, .aload_n 0, [], 0, 0), (26, .getfield 33, [5, 3, 265], 0, 0), (29, .getfield 186, [0, 5, 199], 0, 0), (32, .iload_n 2, [], 0, 0), (33, .invokestatic 102, [83, 0, 400], 0, 0),
  (36, .aload_n 0, [], 0, 0), (37, .getfield 33, [5, 3, 265], 0, 0), (40, .getfield 189, [0, 6, 201], 0, 0), (43, .iload_n 2, [], 0, 0), (44, .invokestatic 102, [83, 0, 400], 0, 0), (47, .iload_n 1, [], 0, 0),
  (48, .invokevirtual 274, [91, 0, 453], 0, 0), (51, .ifCond .eq 5, [28], 0, 0), (54, .iconst 1, [], 1, 0), (55, .ireturn, [], 0, 0), (56, .iinc 2 1, [], 1, 0), (59, .goto (-57), [2], 0, 0),
  (62, .iconst 0, [], 0, 0), (63, .ireturn, [], 0, 0)]
def am_K101 : List am_E := [(0, .iconst 0, [], 0, 0), (1, .istore_n 1, [], 0, 0), (2, .iconst 0, [], 0, 0), (3, .istore_n 2, [], 0, 0), (4, .iload_n 2, [], 0, 0), (5, .aload_n 0, [], 0, 0),
  (6, .getfield 26, [5, 2, 264], 0, 0), (9, .getfield 73, [2, 0, 164], 0, 0), (12, .if_icmp .ge 34, [26], 0, 0), (15, .aload_n 0, [], 0, 0), (16, .getfield 26, [5, 2, 264], 0, 0), (19, .iload_n 2, [], 0, 0),
  (20, .invokevirtual 121, [26, 0, 422], 0, 0), (23, .ifCond .eq 17, [24], 0, 0), (26, .aload_n 0, [], 0, 0), (27, .iload_n 2, [], 0, 0), (28, .invokevirtual 296, [100, 0, 591], 0, 0), (31, .ifCond .ne 9, [24], 0, 0),
  (34, .iload_n 1, [], 0, 0), (35, .iconst 1, [], 1, 0), (36, .iload_n 2, [], 0, 0), (37, .ishl, [], 0, 0), (38, .ior, [], 0, 0), (39, .istore_n 1, [], 0, 0),
  (40, .iinc 2 1, [], 1, 0), (43, .goto (-39), [4], 0, 0), (46, .iload_n 1, [], 0, 0), (47, .ireturn, [], 0, 0)]
def am_K102 : List am_E := [(0, .aload_n 0, [], 0, 0), (1, .invokevirtual 195, [101, 0, 587], 0, 0), (4, .istore_n 1, [], 0, 0), (5, .iconst 0, [], 0, 0), (6, .istore_n 2, [], 0, 0), (7, .iconst 0, [], 0, 0),
  (8, .istore_n 3, [], 0, 0), (9, .iload_n 3, [], 0, 0), (10, .aload_n 0, [], 0, 0), (11, .getfield 26, [5, 2, 264], 0, 0), (14, .getfield 73, [2, 0, 164], 0, 0), (17, .if_icmp .ge 38, [33], 0, 0),
  (20, .iload_n 1, [], 0, 0), (21, .iload_n 3, [], 0, 0), (22, .ishr, [], 0, 0), (23, .iconst 1, [], 1, 0), (24, .iand, [], 0, 0), (25, .ifCond .eq 24, [31], 0, 0),
  (28, .aload_n 0, [], 0, 0), (29, .iload_n 3, [], 0, 0), (30, .aload_n 0, [], 0, 0), (31, .getfield 33, [5, 3, 265], 0, 0), (34, .getfield 155, [0, 1, 191], 0, 0), (37, .invokevirtual 124, [95, 0, 427], 0, 0),
  (40, .ifCond .ne 9, [31], 0, 0), (43, .iload_n 2, [], 0, 0), (44, .iconst 1, [], 1, 0), (45, .iload_n 3, [], 0, 0), (46, .ishl, [], 0, 0), (47, .ior, [], 0, 0),
  (48, .istore_n 2, [], 0, 0), (49, .iinc 3 1, [], 1, 0), (52, .goto (-43), [7], 0, 0), (55, .iload_n 2, [], 0, 0), (56, .ireturn, [], 0, 0)]
def am_K103 : List am_E := [(0, .iconst 0, [], 0, 0), (1, .istore_n 1, [], 0, 0), (2, .iconst 0, [], 0, 0), (3, .istore_n 2, [], 0, 0), (4, .iload_n 2, [], 0, 0), (5, .aload_n 0, [], 0, 0),
  (6, .getfield 33, [5, 3, 265], 0, 0), (9, .getfield 167, [0, 2, 193], 0, 0), (12, .if_icmp .ge 55, [35], 0, 0), (15, .aload_n 0, [], 0, 0), (16, .aload_n 0, [], 0, 0), (17, .getfield 33, [5, 3, 265], 0, 0),
  (20, .getfield 192, [0, 7, 203], 0, 0), (23, .iload_n 2, [], 0, 0), (24, .invokestatic 102, [83, 0, 400], 0, 0), (27, .aload_n 0, [], 0, 0), (28, .getfield 33, [5, 3, 265], 0, 0), (31, .getfield 186, [0, 5, 199], 0, 0),
  (34, .iload_n 2, [], 0, 0), (35, .invokestatic 102, [83, 0, 400], 0, 0), (38, .aload_n 0, [], 0, 0), (39, .getfield 33, [5, 3, 265], 0, 0), (42, .getfield 189, [0, 6, 201], 0, 0), (45, .iload_n 2, [], 0, 0),
  (46, .invokestatic 102, [83, 0, 400], 0, 0), (49, .invokevirtual 229, [92, 0, 449], 0, 0), (52, .ifCond .eq 9, [33], 0, 0), (55, .iload_n 1, [], 0, 0), (56, .iconst 1, [], 1, 0), (57, .iload_n 2, [], 0, 0),
  (58, .ishl, [], 0, 0), (59, .ior, [], 0, 0), (60, .istore_n 1, [], 0, 0), (61, .iinc 2 1, [], 1, 0), (64, .goto (-60), [4], 0, 0), (67, .iload_n 1, [], 0, 0),
  (68, .ireturn, [], 0, 0)]
def am_K104 : List am_E := [(0, .aload_n 0, [], 0, 0), (1, .dup, [], 0, 0), (2, .getfield 262, [5, 7, 269], 0, 0), (5, .lconst 1, [], 0, 1), (6, .ladd, [], 0, 0), (7, .putfield 262, [5, 7, 269], 0, 0),
  (10, .iload_n 1, [], 0, 0), (11, .ireturn, [], 0, 0)]
def am_K105 : List am_E := [(0, .aload_n 0, [], 0, 0), (1, .dup, [], 0, 0), (2, .getfield 262, [5, 7, 269], 0, 0), (5, .ldc2_w 299, [652], 0, 10), (8, .ladd, [], 0, 0), (9, .putfield 262, [5, 7, 269], 0, 0),
  (12, .aload_n 0, [], 0, 0), (13, .iload_n 1, [], 0, 0), (14, .invokevirtual 252, [104, 0, 653], 0, 0), (17, .aload_n 0, [], 0, 0), (18, .getfield 19, [5, 1, 263], 0, 0), (21, .iload_n 1, [], 0, 0),
  (22, .invokevirtual 301, [51, 0, 657], 0, 0), (25, .iadd, [], 0, 0), (26, .ireturn, [], 0, 0)]
def am_K106 : List am_E := [(0, .aload_n 0, [], 0, 0), (1, .dup, [], 0, 0), (2, .getfield 262, [5, 7, 269], 0, 0), (5, .ldc2_w 304, [666], 0, 100), (8, .ladd, [], 0, 0), (9, .putfield 262, [5, 7, 269], 0, 0),
  (12, .aload_n 0, [], 0, 0), (13, .iload_n 1, [], 0, 0), (14, .invokevirtual 252, [104, 0, 653], 0, 0), (17, .aload_n 0, [], 0, 0), (18, .getfield 26, [5, 2, 264], 0, 0), (21, .iload_n 1, [], 0, 0),
  (22, .invokevirtual 306, [27, 0, 667], 0, 0), (25, .isub, [], 0, 0), (26, .ireturn, [], 0, 0)]
def am_K107 : List am_E := [(0, .aload_n 0, [], 0, 0), (1, .dup, [], 0, 0), (2, .getfield 262, [5, 7, 269], 0, 0), (5, .ldc2_w 309, [676], 0, 1000), (8, .ladd, [], 0, 0), (9, .putfield 262, [5, 7, 269], 0, 0),
  (12, .aload_n 0, [], 0, 0), (13, .iload_n 1, [], 0, 0), (14, .invokevirtual 237, [105, 0, 648], 0, 0), (17, .iconst 2, [], 2, 0), (18, .imul, [], 0, 0), (19, .ireturn, [], 0, 0)]
def am_K108 : List am_E := [(0, .aload_n 0, [], 0, 0), (1, .dup, [], 0, 0), (2, .getfield 262, [5, 7, 269], 0, 0), (5, .ldc2_w 311, [681], 0, 10000), (8, .ladd, [], 0, 0), (9, .putfield 262, [5, 7, 269], 0, 0),
  (12, .aload_n 0, [], 0, 0), (13, .iload_n 1, [], 0, 0), (14, .invokevirtual 240, [106, 0, 662], 0, 0), (17, .aload_n 0, [], 0, 0), (18, .getfield 33, [5, 3, 265], 0, 0), (21, .iload_n 1, [], 0, 0),
  (22, .invokevirtual 313, [11, 0, 682], 0, 0), (25, .iadd, [], 0, 0), (26, .ireturn, [], 0, 0)]
def am_K109 : List am_E := [(0, .aload_n 0, [], 0, 0), (1, .dup, [], 0, 0), (2, .getfield 262, [5, 7, 269], 0, 0), (5, .ldc2_w 316, [690], 0, 100000), (8, .ladd, [], 0, 0), (9, .putfield 262, [5, 7, 269], 0, 0),
  (12, .aload_n 0, [], 0, 0), (13, .iload_n 1, [], 0, 0), (14, .invokevirtual 252, [104, 0, 653], 0, 0), (17, .aload_n 0, [], 0, 0), (18, .getfield 33, [5, 3, 265], 0, 0), (21, .getfield 155, [0, 1, 191], 0, 0),
  (24, .iadd, [], 0, 0), (25, .ireturn, [], 0, 0)]
def am_K110 : List am_E := [(0, .aload_n 0, [], 0, 0), (1, .invokespecial 1, [9999, 0, 720, 82, 83], 0, 0), (4, .aload_n 0, [], 0, 0), (5, .iconst 4, [], 4, 0), (6, .putfield 7, [6, 0, 721], 0, 0), (9, .aload_n 0, [], 0, 0),
  (10, .bipush 36, [], 36, 0), (12, .newarray .int, [130], 0, 0), (14, .putfield 13, [6, 1, 722], 0, 0), (17, .aload_n 0, [], 0, 0), (18, .bipush 24, [], 24, 0), (20, .newarray .int, [130], 0, 0),
  (22, .putfield 17, [6, 3, 724], 0, 0), (25, .aload_n 0, [], 0, 0), (26, .bipush 32, [], 32, 0), (28, .newarray .int, [130], 0, 0), (30, .putfield 20, [6, 5, 726], 0, 0), (33, .aload_n 0, [], 0, 0),
  (34, .bipush 69, [], 69, 0), (36, .newarray .int, [130], 0, 0), (38, .putfield 23, [6, 6, 727], 0, 0), (41, .aload_n 0, [], 0, 0), (42, .sipush 138, [], 138, 0), (45, .newarray .int, [130], 0, 0),
  (47, .putfield 26, [6, 7, 728], 0, 0), (50, .aload_n 0, [], 0, 0), (51, .iconst 2, [], 2, 0), (52, .newarray .boolean, [806], 0, 0), (54, .putfield 29, [6, 8, 729], 0, 0), (57, .aload_n 0, [], 0, 0),
  (58, .sipush 200, [], 200, 0), (61, .newarray .int, [130], 0, 0), (63, .putfield 33, [6, 10, 731], 0, 0), (66, .aload_n 0, [], 0, 0), (67, .bipush 36, [], 36, 0), (69, .newarray .int, [130], 0, 0),
  (71, .putfield 36, [6, 19, 740], 0, 0), (74, .aload_n 0, [], 0, 0), (75, .bipush 24, [], 24, 0), (77, .newarray .int, [130], 0, 0), (79, .putfield 39, [6, 21, 742], 0, 0), (82, .aload_n 0, [], 0, 0),
  (83, .iconst 4, [], 4, 0), (84, .newarray .int, [130], 0, 0), (86, .putfield 42, [6, 22, 743], 0, 0), (89, .aload_n 0, [], 0, 0), (90, .bipush 64, [], 64, 0), (92, .newarray .int, [130], 0, 0),
  (94, .putfield 45, [6, 24, 745], 0, 0), (97, .aload_n 0, [], 0, 0), (98, .bipush 64, [], 64, 0), (100, .newarray .int, [130], 0, 0), (102, .putfield 48, [6, 25, 746], 0, 0), (105, .aload_n 0, [], 0, 0),
  (106, .sipush 2304, [], 2304, 0), (109, .newarray .int, [130], 0, 0), (111, .putfield 51, [6, 26, 747], 0, 0), (114, .iconst 0, [], 0, 0), (115, .istore_n 1, [], 0, 0), (116, .iload_n 1, [], 0, 0),
  (117, .bipush 36, [], 36, 0), (119, .if_icmp .ge 31, [78], 0, 0), (122, .aload_n 0, [], 0, 0), (123, .getfield 13, [6, 1, 722], 0, 0), (126, .iload_n 1, [], 0, 0), (127, .iload_n 1, [], 0, 0),
  (128, .bipush 6, [], 6, 0), (130, .idiv, [], 0, 0), (131, .iload_n 1, [], 0, 0), (132, .bipush 6, [], 6, 0), (134, .irem, [], 0, 0), (135, .if_icmp .ne 7, [74], 0, 0),
  (138, .iconst 1, [], 1, 0), (139, .goto 4, [75], 0, 0), (142, .iconst 3, [], 3, 0), (143, .iastore, [], 0, 0), (144, .iinc 1 1, [], 1, 0), (147, .goto (-31), [59], 0, 0),
  (150, .return_, [], 0, 0)]
def am_K111 : List am_E := [(0, .iload_n 0, [], 0, 0), (1, .iload_n 1, [], 0, 0), (2, .if_icmp .lt 12, [8], 0, 0), (5, .iload_n 0, [], 0, 0), (6, .iload_n 2, [], 0, 0), (7, .if_icmp .gt 7, [8], 0, 0),
  (10, .iconst 1, [], 1, 0), (11, .goto 4, [9], 0, 0), (14, .iconst 0, [], 0, 0), (15, .ireturn, [], 0, 0)]
def am_K112 : List am_E := [(0, .iload_n 0, [], 0, 0), (1, .iload_n 1, [], 0, 0), (2, .ishr, [], 0, 0), (3, .iconst 1, [], 1, 0), (4, .iand, [], 0, 0), (5, .iconst 1, [], 1, 0),
  (6, .if_icmp .ne 7, [9], 0, 0), (9, .iconst 1, [], 1, 0), (10, .goto 4, [10], 0, 0), (13, .iconst 0, [], 0, 0), (14, .ireturn, [], 0, 0)]
def am_K113 : List am_E := [(0, .iload_n 1, [], 0, 0), (1, .iconst 0, [], 0, 0), (2, .aload_n 0, [], 0, 0), (3, .getfield 7, [6, 0, 721], 0, 0), (6, .iconst 1, [], 1, 0), (7, .isub, [], 0, 0),
  (8, .invokestatic 54, [111, 0, 811], 0, 0), (11, .ireturn, [], 0, 0)]
def am_K114 : List am_E := [(0, .iload_n 0, [], 0, 0), (1, .iconst 0, [], 0, 0), (2, .bipush 7, [], 7, 0), (4, .invokestatic 54, [111, 0, 811], 0, 0), (7, .ireturn, [], 0, 0)]
def am_K115 : List am_E := [(0, .iload_n 1, [], 0, 0), (1, .iconst 0, [], 0, 0), (2, .aload_n 0, [], 0, 0), (3, .getfield 58, [6, 2, 723], 0, 0), (6, .iconst 1, [], 1, 0), (7, .isub, [], 0, 0),
  (8, .invokestatic 54, [111, 0, 811], 0, 0), (11, .ireturn, [], 0, 0)]
def am_K116 : List am_E := [(0, .iload_n 0, [], 0, 0), (1, .iconst 0, [], 0, 0), (2, .bipush 40, [], 40, 0), (4, .invokestatic 54, [111, 0, 811], 0, 0), (7, .ireturn, [], 0, 0)]
def am_K117 : List am_E := [(0, .iload_n 1, [], 0, 0), (1, .iconst 0, [], 0, 0), (2, .sipush 255, [], 255, 0), (5, .invokestatic 54, [111, 0, 811], 0, 0), (8, .ifCond .ne 5, [7], 0, 0), (11, .iconst (-1), [], (-1), 0),
  (12, .ireturn, [], 0, 0), (13, .aload_n 0, [], 0, 0), (14, .getfield 61, [6, 11, 732], 0, 0), (17, .sipush 200, [], 200, 0), (20, .if_icmp .ne 6, [13], 0, 0), (23, .bipush (-3), [], (-3), 0),
  (25, .ireturn, [], 0, 0), (26, .aload_n 0, [], 0, 0), (27, .getfield 33, [6, 10, 731], 0, 0), (30, .aload_n 0, [], 0, 0), (31, .getfield 61, [6, 11, 732], 0, 0), (34, .iload_n 1, [], 0, 0),
  (35, .iastore, [], 0, 0), (36, .aload_n 0, [], 0, 0), (37, .dup, [], 0, 0), (38, .getfield 61, [6, 11, 732], 0, 0), (41, .iconst 1, [], 1, 0), (42, .iadd, [], 0, 0),
  (43, .putfield 61, [6, 11, 732], 0, 0), (46, .aload_n 0, [], 0, 0), (47, .getfield 61, [6, 11, 732], 0, 0), (50, .ireturn, [], 0, 0)]
def am_K118 : List am_E := [(0, .aload_n 0, [], 0, 0), (1, .getfield 61, [6, 11, 732], 0, 0), (4, .istore_n 1, [], 0, 0), (5, .aload_n 0, [], 0, 0), (6, .iconst 0, [], 0, 0), (7, .putfield 61, [6, 11, 732], 0, 0),
  (10, .iload_n 1, [], 0, 0), (11, .ireturn, [], 0, 0)]
def am_K119 : List am_E := [(0, .iload_n 1, [], 0, 0), (1, .aload_n 0, [], 0, 0), (2, .getfield 61, [6, 11, 732], 0, 0), (5, .if_icmp .ge 12, [9], 0, 0), (8, .aload_n 0, [], 0, 0), (9, .getfield 33, [6, 10, 731], 0, 0),
  (12, .iload_n 1, [], 0, 0), (13, .iaload, [], 0, 0), (14, .goto 4, [10], 0, 0), (17, .iconst (-1), [], (-1), 0), (18, .ireturn, [], 0, 0)]
def am_K120 : List am_E := [(0, .aload_n 0, [], 0, 0), (1, .aload_n 0, [], 0, 0), (2, .getfield 64, [6, 12, 733], 0, 0), (5, .invokevirtual 67, [119, 0, 826], 0, 0), (8, .bipush 32, [], 32, 0), (10, .if_icmp .ne 16, [13], 0, 0),
  (13, .aload_n 0, [], 0, 0), (14, .dup, [], 0, 0), (15, .getfield 64, [6, 12, 733], 0, 0), (18, .iconst 1, [], 1, 0), (19, .iadd, [], 0, 0), (20, .putfield 64, [6, 12, 733], 0, 0),
  (23, .goto (-23), [0], 0, 0), (26, .aload_n 0, [], 0, 0), (27, .aload_n 0, [], 0, 0), (28, .getfield 64, [6, 12, 733], 0, 0), (31, .putfield 71, [6, 13, 734], 0, 0), (34, .aload_n 0, [], 0, 0),
  (35, .aload_n 0, [], 0, 0), (36, .getfield 64, [6, 12, 733], 0, 0), (39, .invokevirtual 67, [119, 0, 826], 0, 0), (42, .istore_n 1, [], 0, 0), (43, .iload_n 1, [], 0, 0), (44, .ifCond .ge 11, [28], 0, 0),
  (47, .aload_n 0, [], 0, 0), (48, .iconst 0, [], 0, 0), (49, .putfield 74, [6, 14, 735], 0, 0), (52, .goto 253, [158], 0, 0), (55, .iload_n 1, [], 0, 0), (56, .bipush 97, [], 97, 0),
  (58, .bipush 122, [], 122, 0), (60, .invokestatic 54, [111, 0, 811], 0, 0), (63, .ifCond .eq 83, [75], 0, 0), (66, .aload_n 0, [], 0, 0), (67, .iconst 1, [], 1, 0), (68, .putfield 74, [6, 14, 735], 0, 0),
  (71, .aload_n 0, [], 0, 0), (72, .lconst 0, [], 0, 0), (73, .putfield 77, [6, 16, 737], 0, 0), (76, .aload_n 0, [], 0, 0), (77, .aload_n 0, [], 0, 0), (78, .getfield 64, [6, 12, 733], 0, 0),
  (81, .invokevirtual 67, [119, 0, 826], 0, 0), (84, .bipush 97, [], 97, 0), (86, .bipush 122, [], 122, 0), (88, .invokestatic 54, [111, 0, 811], 0, 0), (91, .ifCond .eq 214, [158], 0, 0), (94, .aload_n 0, [], 0, 0),
  (95, .aload_n 0, [], 0, 0), (96, .getfield 64, [6, 12, 733], 0, 0), (99, .aload_n 0, [], 0, 0), (100, .getfield 71, [6, 13, 734], 0, 0), (103, .isub, [], 0, 0), (104, .bipush 8, [], 8, 0),
  (106, .if_icmp .ge 23, [66], 0, 0), (109, .aload_n 0, [], 0, 0), (110, .getfield 77, [6, 16, 737], 0, 0), (113, .bipush 8, [], 8, 0), (115, .lshl, [], 0, 0), (116, .aload_n 0, [], 0, 0),
  (117, .aload_n 0, [], 0, 0), (118, .getfield 64, [6, 12, 733], 0, 0), (121, .invokevirtual 67, [119, 0, 826], 0, 0), (124, .i2l, [], 0, 0), (125, .lor, [], 0, 0), (126, .goto 4, [67], 0, 0),
  (129, .lconst 0, [], 0, 0), (130, .putfield 77, [6, 16, 737], 0, 0), (133, .aload_n 0, [], 0, 0), (134, .dup, [], 0, 0), (135, .getfield 64, [6, 12, 733], 0, 0), (138, .iconst 1, [], 1, 0),
  (139, .iadd, [], 0, 0), (140, .putfield 64, [6, 12, 733], 0, 0), (143, .goto (-67), [39], 0, 0), (146, .iload_n 1, [], 0, 0), (147, .bipush 48, [], 48, 0), (149, .bipush 57, [], 57, 0),
  (151, .invokestatic 54, [111, 0, 811], 0, 0), (154, .ifCond .eq 126, [144], 0, 0), (157, .aload_n 0, [], 0, 0), (158, .iconst 0, [], 0, 0), (159, .putfield 81, [6, 15, 736], 0, 0), (162, .aload_n 0, [], 0, 0),
  (163, .aload_n 0, [], 0, 0), (164, .getfield 64, [6, 12, 733], 0, 0), (167, .invokevirtual 67, [119, 0, 826], 0, 0), (170, .bipush 48, [], 48, 0), (172, .bipush 57, [], 57, 0), (174, .invokestatic 54, [111, 0, 811], 0, 0),
  (177, .ifCond .eq 59, [121], 0, 0), (180, .aload_n 0, [], 0, 0), (181, .aload_n 0, [], 0, 0), (182, .getfield 64, [6, 12, 733], 0, 0), (185, .aload_n 0, [], 0, 0), (186, .getfield 71, [6, 13, 734], 0, 0),
  (189, .isub, [], 0, 0), (190, .iconst 3, [], 3, 0), (191, .if_icmp .ge 25, [111], 0, 0), (194, .bipush 10, [], 10, 0), (196, .aload_n 0, [], 0, 0), (197, .getfield 81, [6, 15, 736], 0, 0),
  (200, .imul, [], 0, 0), (201, .aload_n 0, [], 0, 0), (202, .aload_n 0, [], 0, 0), (203, .getfield 64, [6, 12, 733], 0, 0), (206, .invokevirtual 67, [119, 0, 826], 0, 0), (209, .iadd, [], 0, 0),
  (210, .bipush 48, [], 48, 0), (212, .isub, [], 0, 0), (213, .goto 7, [113], 0, 0), (216, .aload_n 0, [], 0, 0), (217, .getfield 81, [6, 15, 736], 0, 0), (220, .putfield 81, [6, 15, 736], 0, 0),
  (223, .aload_n 0, [], 0, 0), (224, .dup, [], 0, 0), (225, .getfield 64, [6, 12, 733], 0, 0), (228, .iconst 1, [], 1, 0), (229, .iadd, [], 0, 0), (230, .putfield 64, [6, 12, 733], 0, 0),
  (233, .goto (-71), [83], 0, 0), (236, .aload_n 0, [], 0, 0), (237, .aload_n 0, [], 0, 0), (238, .getfield 64, [6, 12, 733], 0, 0), (241, .aload_n 0, [], 0, 0), (242, .getfield 71, [6, 13, 734], 0, 0),
  (245, .isub, [], 0, 0), (246, .iconst 3, [], 3, 0), (247, .if_icmp .ge 26, [141], 0, 0), (250, .iload_n 1, [], 0, 0), (251, .bipush 48, [], 48, 0), (253, .if_icmp .ne 16, [139], 0, 0),
  (256, .aload_n 0, [], 0, 0), (257, .getfield 64, [6, 12, 733], 0, 0), (260, .aload_n 0, [], 0, 0), (261, .getfield 71, [6, 13, 734], 0, 0), (264, .isub, [], 0, 0), (265, .iconst 1, [], 1, 0),
  (266, .if_icmp .ne 7, [141], 0, 0), (269, .iconst 2, [], 2, 0), (270, .goto 4, [142], 0, 0), (273, .iconst 4, [], 4, 0), (274, .putfield 74, [6, 14, 735], 0, 0), (277, .goto 28, [158], 0, 0),
  (280, .aload_n 0, [], 0, 0), (281, .iload_n 1, [], 0, 0), (282, .bipush 59, [], 59, 0), (284, .if_icmp .ne 7, [150], 0, 0), (287, .iconst 3, [], 3, 0), (288, .goto 4, [151], 0, 0),
  (291, .iconst 4, [], 4, 0), (292, .putfield 74, [6, 14, 735], 0, 0), (295, .aload_n 0, [], 0, 0), (296, .dup, [], 0, 0), (297, .getfield 64, [6, 12, 733], 0, 0), (300, .iconst 1, [], 1, 0),
  (301, .iadd, [], 0, 0), (302, .putfield 64, [6, 12, 733], 0, 0), (305, .return_, [], 0, 0)]
def am_K121 : List am_E := [(0, .aload_n 0, [], 0, 0), (1, .aload_n 0, [], 0, 0), (2, .getfield 84, [6, 17, 738], 0, 0), (5, .ifCond .ne 7, [6], 0, 0), (8, .iload_n 1, [], 0, 0), (9, .ifCond .ne 7, [8], 0, 0),
  (12, .iconst 1, [], 1, 0), (13, .goto 4, [9], 0, 0), (16, .iconst 0, [], 0, 0), (17, .putfield 84, [6, 17, 738], 0, 0), (20, .aload_n 0, [], 0, 0), (21, .getfield 84, [6, 17, 738], 0, 0),
  (24, .ifCond .ne 7, [15], 0, 0), (27, .aload_n 0, [], 0, 0), (28, .invokevirtual 88, [120, 0, 822], 0, 0), (31, .return_, [], 0, 0)]
def am_K122 : List am_E := [(0, .aload_n 0, [], 0, 0), (1, .getfield 81, [6, 15, 736], 0, 0), (4, .istore 5, [], 0, 0), (6, .aload_n 0, [], 0, 0), (7, .aload_n 0, [], 0, 0), (8, .getfield 74, [6, 14, 735], 0, 0),
  (11, .iconst 2, [], 2, 0), (12, .if_icmp .ne 18, [15], 0, 0), (15, .iload 5, [], 0, 0), (17, .iload_n 3, [], 0, 0), (18, .iload 4, [], 0, 0), (20, .invokestatic 54, [111, 0, 811], 0, 0),
  (23, .ifCond .eq 7, [15], 0, 0), (26, .iconst 1, [], 1, 0), (27, .goto 4, [16], 0, 0), (30, .iconst 0, [], 0, 0), (31, .invokevirtual 91, [121, 0, 839], 0, 0), (34, .aload_n 0, [], 0, 0),
  (35, .getfield 84, [6, 17, 738], 0, 0), (38, .ifCond .ne 8, [24], 0, 0), (41, .aload_n 1, [], 0, 0), (42, .iload_n 2, [], 0, 0), (43, .iload 5, [], 0, 0), (45, .iastore, [], 0, 0),
  (46, .iload 5, [], 0, 0), (48, .ireturn, [], 0, 0)]
def am_K123 : List am_E := [(0, .aload_n 0, [], 0, 0), (1, .iload_n 1, [], 0, 0), (2, .invokevirtual 91, [121, 0, 839], 0, 0), (5, .aload_n 0, [], 0, 0), (6, .getfield 84, [6, 17, 738], 0, 0), (9, .ifCond .ne 33, [23], 0, 0),
  (12, .aload_n 0, [], 0, 0), (13, .aload_n 0, [], 0, 0), (14, .getfield 42, [6, 22, 743], 0, 0), (17, .iconst 0, [], 0, 0), (18, .iconst 2, [], 2, 0), (19, .bipush 6, [], 6, 0),
  (21, .invokevirtual 95, [122, 0, 843], 0, 0), (24, .pop, [], 0, 0), (25, .aload_n 0, [], 0, 0), (26, .aload_n 0, [], 0, 0), (27, .getfield 74, [6, 14, 735], 0, 0), (30, .iconst 3, [], 3, 0),
  (31, .if_icmp .ne 7, [21], 0, 0), (34, .iconst 1, [], 1, 0), (35, .goto 4, [22], 0, 0), (38, .iconst 0, [], 0, 0), (39, .invokevirtual 91, [121, 0, 839], 0, 0), (42, .aload_n 0, [], 0, 0),
  (43, .aload_n 0, [], 0, 0), (44, .getfield 84, [6, 17, 738], 0, 0), (47, .ifCond .eq 10, [30], 0, 0), (50, .aload_n 0, [], 0, 0), (51, .getfield 99, [6, 18, 739], 0, 0), (54, .goto 9, [34], 0, 0),
  (57, .aload_n 0, [], 0, 0), (58, .getfield 42, [6, 22, 743], 0, 0), (61, .iconst 0, [], 0, 0), (62, .iaload, [], 0, 0), (63, .putfield 99, [6, 18, 739], 0, 0), (66, .return_, [], 0, 0)]
def am_K124 : List am_E := [(0, .aload_n 0, [], 0, 0), (1, .iconst 1, [], 1, 0), (2, .invokevirtual 91, [121, 0, 839], 0, 0), (5, .aload_n 0, [], 0, 0), (6, .aload_n 0, [], 0, 0), (7, .getfield 42, [6, 22, 743], 0, 0),
  (10, .iconst 0, [], 0, 0), (11, .iconst 0, [], 0, 0), (12, .aload_n 0, [], 0, 0), (13, .getfield 99, [6, 18, 739], 0, 0), (16, .iconst 1, [], 1, 0), (17, .isub, [], 0, 0),
  (18, .invokevirtual 95, [122, 0, 843], 0, 0), (21, .pop, [], 0, 0), (22, .aload_n 0, [], 0, 0), (23, .aload_n 0, [], 0, 0), (24, .getfield 42, [6, 22, 743], 0, 0), (27, .iconst 1, [], 1, 0),
  (28, .iconst 0, [], 0, 0), (29, .aload_n 0, [], 0, 0), (30, .getfield 99, [6, 18, 739], 0, 0), (33, .iconst 1, [], 1, 0), (34, .isub, [], 0, 0), (35, .invokevirtual 95, [122, 0, 843], 0, 0),
  (38, .pop, [], 0, 0), (39, .aload_n 0, [], 0, 0), (40, .aload_n 0, [], 0, 0), (41, .getfield 42, [6, 22, 743], 0, 0), (44, .iconst 2, [], 2, 0), (45, .iconst 0, [], 0, 0),
  (46, .bipush 9, [], 9, 0), (48, .invokevirtual 95, [122, 0, 843], 0, 0), (51, .pop, [], 0, 0), (52, .aload_n 0, [], 0, 0), (53, .aload_n 0, [], 0, 0), (54, .getfield 74, [6, 14, 735], 0, 0),
  (57, .iconst 3, [], 3, 0), (58, .if_icmp .ne 7, [40], 0, 0), (61, .iconst 1, [], 1, 0), (62, .goto 4, [41], 0, 0), (65, .iconst 0, [], 0, 0), (66, .invokevirtual 91, [121, 0, 839], 0, 0),
  (69, .aload_n 0, [], 0, 0), (70, .getfield 84, [6, 17, 738], 0, 0), (73, .ifCond .ne 57, [81], 0, 0), (76, .aload_n 0, [], 0, 0), (77, .getfield 36, [6, 19, 740], 0, 0), (80, .bipush 6, [], 6, 0),
  (82, .aload_n 0, [], 0, 0), (83, .getfield 42, [6, 22, 743], 0, 0), (86, .iconst 0, [], 0, 0), (87, .iaload, [], 0, 0), (88, .imul, [], 0, 0), (89, .aload_n 0, [], 0, 0),
  (90, .getfield 42, [6, 22, 743], 0, 0), (93, .iconst 1, [], 1, 0), (94, .iaload, [], 0, 0), (95, .iadd, [], 0, 0), (96, .aload_n 0, [], 0, 0), (97, .getfield 42, [6, 22, 743], 0, 0),
  (100, .iconst 2, [], 2, 0), (101, .iaload, [], 0, 0), (102, .iastore, [], 0, 0), (103, .aload_n 0, [], 0, 0), (104, .getfield 36, [6, 19, 740], 0, 0), (107, .bipush 6, [], 6, 0),
  (109, .aload_n 0, [], 0, 0), (110, .getfield 42, [6, 22, 743], 0, 0), (113, .iconst 1, [], 1, 0), (114, .iaload, [], 0, 0), (115, .imul, [], 0, 0), (116, .aload_n 0, [], 0, 0),
  (117, .getfield 42, [6, 22, 743], 0, 0), (120, .iconst 0, [], 0, 0), (121, .iaload, [], 0, 0), (122, .iadd, [], 0, 0), (123, .aload_n 0, [], 0, 0), (124, .getfield 42, [6, 22, 743], 0, 0),
  (127, .iconst 2, [], 2, 0), (128, .iaload, [], 0, 0), (129, .iastore, [], 0, 0), (130, .return_, [], 0, 0)]
def am_K125 : List am_E := [(0, .aload_n 0, [], 0, 0), (1, .aload_n 0, [], 0, 0), (2, .getfield 102, [6, 20, 741], 0, 0), (5, .bipush 6, [], 6, 0), (7, .if_icmp .ge 7, [7], 0, 0), (10, .iconst 1, [], 1, 0),
  (11, .goto 4, [8], 0, 0), (14, .iconst 0, [], 0, 0), (15, .invokevirtual 91, [121, 0, 839], 0, 0), (18, .aload_n 0, [], 0, 0), (19, .getfield 84, [6, 17, 738], 0, 0), (22, .ifCond .eq 4, [13], 0, 0),
  (25, .return_, [], 0, 0), (26, .iconst 4, [], 4, 0), (27, .aload_n 0, [], 0, 0), (28, .getfield 102, [6, 20, 741], 0, 0), (31, .imul, [], 0, 0), (32, .istore_n 1, [], 0, 0),
  (33, .aload_n 0, [], 0, 0), (34, .aload_n 0, [], 0, 0), (35, .getfield 39, [6, 21, 742], 0, 0), (38, .iload_n 1, [], 0, 0), (39, .iconst 0, [], 0, 0), (40, .aload_n 0, [], 0, 0),
  (41, .getfield 99, [6, 18, 739], 0, 0), (44, .iconst 1, [], 1, 0), (45, .isub, [], 0, 0), (46, .invokevirtual 95, [122, 0, 843], 0, 0), (49, .pop, [], 0, 0), (50, .aload_n 0, [], 0, 0),
  (51, .aload_n 0, [], 0, 0), (52, .getfield 39, [6, 21, 742], 0, 0), (55, .iload_n 1, [], 0, 0), (56, .iconst 2, [], 2, 0), (57, .iadd, [], 0, 0), (58, .iconst 0, [], 0, 0),
  (59, .bipush 40, [], 40, 0), (61, .invokevirtual 95, [122, 0, 843], 0, 0), (64, .istore_n 2, [], 0, 0), (65, .aload_n 0, [], 0, 0), (66, .aload_n 0, [], 0, 0), (67, .getfield 39, [6, 21, 742], 0, 0),
  (70, .iload_n 1, [], 0, 0), (71, .iconst 3, [], 3, 0), (72, .iadd, [], 0, 0), (73, .iload_n 2, [], 0, 0), (74, .bipush 40, [], 40, 0), (76, .invokevirtual 95, [122, 0, 843], 0, 0),
  (79, .pop, [], 0, 0), (80, .iconst 0, [], 0, 0), (81, .istore_n 3, [], 0, 0), (82, .iconst 1, [], 1, 0), (83, .istore 4, [], 0, 0), (85, .aload_n 0, [], 0, 0),
  (86, .getfield 84, [6, 17, 738], 0, 0), (89, .ifCond .ne 87, [99], 0, 0), (92, .iload 4, [], 0, 0), (94, .ifCond .eq 82, [99], 0, 0), (97, .aload_n 0, [], 0, 0), (98, .getfield 81, [6, 15, 736], 0, 0),
  (101, .istore 5, [], 0, 0), (103, .aload_n 0, [], 0, 0), (104, .aload_n 0, [], 0, 0), (105, .getfield 74, [6, 14, 735], 0, 0), (108, .iconst 2, [], 2, 0), (109, .if_icmp .ne 27, [77], 0, 0),
  (112, .iload 5, [], 0, 0), (114, .iconst 0, [], 0, 0), (115, .bipush 7, [], 7, 0), (117, .invokestatic 54, [111, 0, 811], 0, 0), (120, .ifCond .eq 16, [77], 0, 0), (123, .iload_n 3, [], 0, 0),
  (124, .iload 5, [], 0, 0), (126, .invokestatic 105, [112, 0, 857], 0, 0), (129, .ifCond .ne 7, [77], 0, 0), (132, .iconst 1, [], 1, 0), (133, .goto 4, [78], 0, 0), (136, .iconst 0, [], 0, 0),
  (137, .invokevirtual 91, [121, 0, 839], 0, 0), (140, .iload_n 3, [], 0, 0), (141, .aload_n 0, [], 0, 0), (142, .getfield 84, [6, 17, 738], 0, 0), (145, .ifCond .eq 7, [85], 0, 0), (148, .iconst 0, [], 0, 0),
  (149, .goto 7, [88], 0, 0), (152, .iconst 1, [], 1, 0), (153, .iload 5, [], 0, 0), (155, .ishl, [], 0, 0), (156, .ior, [], 0, 0), (157, .istore_n 3, [], 0, 0),
  (158, .aload_n 0, [], 0, 0), (159, .getfield 74, [6, 14, 735], 0, 0), (162, .iconst 3, [], 3, 0), (163, .if_icmp .eq 7, [96], 0, 0), (166, .iconst 1, [], 1, 0), (167, .goto 4, [97], 0, 0),
  (170, .iconst 0, [], 0, 0), (171, .istore 4, [], 0, 0), (173, .goto (-88), [53], 0, 0), (176, .aload_n 0, [], 0, 0), (177, .aload_n 0, [], 0, 0), (178, .getfield 74, [6, 14, 735], 0, 0),
  (181, .iconst 3, [], 3, 0), (182, .if_icmp .ne 7, [106], 0, 0), (185, .iconst 1, [], 1, 0), (186, .goto 4, [107], 0, 0), (189, .iconst 0, [], 0, 0), (190, .invokevirtual 91, [121, 0, 839], 0, 0),
  (193, .aload_n 0, [], 0, 0), (194, .getfield 84, [6, 17, 738], 0, 0), (197, .ifCond .ne 22, [124], 0, 0), (200, .aload_n 0, [], 0, 0), (201, .getfield 39, [6, 21, 742], 0, 0), (204, .iload_n 1, [], 0, 0),
  (205, .iconst 1, [], 1, 0), (206, .iadd, [], 0, 0), (207, .iload_n 3, [], 0, 0), (208, .iastore, [], 0, 0), (209, .aload_n 0, [], 0, 0), (210, .dup, [], 0, 0),
  (211, .getfield 102, [6, 20, 741], 0, 0), (214, .iconst 1, [], 1, 0), (215, .iadd, [], 0, 0), (216, .putfield 102, [6, 20, 741], 0, 0), (219, .return_, [], 0, 0)]
def am_K126 : List am_E := [(0, .aload_n 0, [], 0, 0), (1, .getfield 74, [6, 14, 735], 0, 0), (4, .iconst 1, [], 1, 0), (5, .if_icmp .ne 10, [7], 0, 0), (8, .aload_n 0, [], 0, 0), (9, .getfield 77, [6, 16, 737], 0, 0),
  (12, .goto 4, [8], 0, 0), (15, .lconst 0, [], 0, 0), (16, .lstore_n 2, [], 0, 0), (17, .lload_n 2, [], 0, 0), (18, .ldc2_w 109, [834], 0, 110), (21, .lcmp, [], 0, 0),
  (22, .ifCond .ne 11, [17], 0, 0), (25, .aload_n 0, [], 0, 0), (26, .iload_n 1, [], 0, 0), (27, .invokevirtual 111, [123, 0, 835], 0, 0), (30, .goto 38, [34], 0, 0), (33, .lload_n 2, [], 0, 0),
  (34, .ldc2_w 114, [847], 0, 102), (37, .lcmp, [], 0, 0), (38, .ifCond .ne 10, [24], 0, 0), (41, .aload_n 0, [], 0, 0), (42, .invokevirtual 116, [124, 0, 848], 0, 0), (45, .goto 23, [34], 0, 0),
  (48, .lload_n 2, [], 0, 0), (49, .ldc2_w 119, [852], 0, 112), (52, .lcmp, [], 0, 0), (53, .ifCond .ne 10, [31], 0, 0), (56, .aload_n 0, [], 0, 0), (57, .invokevirtual 121, [125, 0, 853], 0, 0),
  (60, .goto 8, [34], 0, 0), (63, .aload_n 0, [], 0, 0), (64, .iconst 1, [], 1, 0), (65, .putfield 84, [6, 17, 738], 0, 0), (68, .return_, [], 0, 0)]
def am_K127 : List am_E := [(0, .aload_n 0, [], 0, 0), (1, .iconst 0, [], 0, 0), (2, .putfield 64, [6, 12, 733], 0, 0), (5, .aload_n 0, [], 0, 0), (6, .iconst 0, [], 0, 0), (7, .putfield 84, [6, 17, 738], 0, 0),
  (10, .aload_n 0, [], 0, 0), (11, .iconst 4, [], 4, 0), (12, .putfield 99, [6, 18, 739], 0, 0), (15, .aload_n 0, [], 0, 0), (16, .iconst 0, [], 0, 0), (17, .putfield 102, [6, 20, 741], 0, 0),
  (20, .iconst 0, [], 0, 0), (21, .istore_n 1, [], 0, 0), (22, .iload_n 1, [], 0, 0), (23, .bipush 36, [], 36, 0), (25, .if_icmp .ge 31, [33], 0, 0), (28, .aload_n 0, [], 0, 0),
  (29, .getfield 36, [6, 19, 740], 0, 0), (32, .iload_n 1, [], 0, 0), (33, .iload_n 1, [], 0, 0), (34, .bipush 6, [], 6, 0), (36, .idiv, [], 0, 0), (37, .iload_n 1, [], 0, 0),
  (38, .bipush 6, [], 6, 0), (40, .irem, [], 0, 0), (41, .if_icmp .ne 7, [29], 0, 0), (44, .iconst 1, [], 1, 0), (45, .goto 4, [30], 0, 0), (48, .iconst 3, [], 3, 0),
  (49, .iastore, [], 0, 0), (50, .iinc 1 1, [], 1, 0), (53, .goto (-31), [14], 0, 0), (56, .iconst 0, [], 0, 0), (57, .istore_n 1, [], 0, 0), (58, .aload_n 0, [], 0, 0),
  (59, .invokevirtual 88, [120, 0, 822], 0, 0), (62, .aload_n 0, [], 0, 0), (63, .getfield 74, [6, 14, 735], 0, 0), (66, .ifCond .eq 29, [52], 0, 0), (69, .aload_n 0, [], 0, 0), (70, .getfield 84, [6, 17, 738], 0, 0),
  (73, .ifCond .ne 22, [52], 0, 0), (76, .aload_n 0, [], 0, 0), (77, .iload_n 1, [], 0, 0), (78, .ifCond .ne 7, [48], 0, 0), (81, .iconst 1, [], 1, 0), (82, .goto 4, [49], 0, 0),
  (85, .iconst 0, [], 0, 0), (86, .invokevirtual 124, [126, 0, 830], 0, 0), (89, .iinc 1 1, [], 1, 0), (92, .goto (-30), [37], 0, 0), (95, .aload_n 0, [], 0, 0), (96, .getfield 84, [6, 17, 738], 0, 0),
  (99, .ifCond .eq 11, [60], 0, 0), (102, .bipush (-10), [], (-10), 0), (104, .aload_n 0, [], 0, 0), (105, .getfield 71, [6, 13, 734], 0, 0), (108, .isub, [], 0, 0), (109, .ireturn, [], 0, 0),
  (110, .iconst 0, [], 0, 0), (111, .istore_n 2, [], 0, 0), (112, .iload_n 2, [], 0, 0), (113, .bipush 69, [], 69, 0), (115, .if_icmp .ge 16, [72], 0, 0), (118, .aload_n 0, [], 0, 0),
  (119, .getfield 23, [6, 6, 727], 0, 0), (122, .iload_n 2, [], 0, 0), (123, .iconst 0, [], 0, 0), (124, .iastore, [], 0, 0), (125, .iinc 2 1, [], 1, 0), (128, .goto (-16), [62], 0, 0),
  (131, .aload_n 0, [], 0, 0), (132, .aload_n 0, [], 0, 0), (133, .getfield 99, [6, 18, 739], 0, 0), (136, .putfield 7, [6, 0, 721], 0, 0), (139, .aload_n 0, [], 0, 0), (140, .aload_n 0, [], 0, 0),
  (141, .getfield 102, [6, 20, 741], 0, 0), (144, .putfield 58, [6, 2, 723], 0, 0), (147, .iconst 0, [], 0, 0), (148, .istore_n 2, [], 0, 0), (149, .iload_n 2, [], 0, 0), (150, .bipush 36, [], 36, 0),
  (152, .if_icmp .ge 21, [95], 0, 0), (155, .aload_n 0, [], 0, 0), (156, .getfield 13, [6, 1, 722], 0, 0), (159, .iload_n 2, [], 0, 0), (160, .aload_n 0, [], 0, 0), (161, .getfield 36, [6, 19, 740], 0, 0),
  (164, .iload_n 2, [], 0, 0), (165, .iaload, [], 0, 0), (166, .iastore, [], 0, 0), (167, .iinc 2 1, [], 1, 0), (170, .goto (-21), [82], 0, 0), (173, .iconst 0, [], 0, 0),
  (174, .istore_n 2, [], 0, 0), (175, .iload_n 2, [], 0, 0), (176, .bipush 24, [], 24, 0), (178, .if_icmp .ge 21, [110], 0, 0), (181, .aload_n 0, [], 0, 0), (182, .getfield 17, [6, 3, 724], 0, 0),
  (185, .iload_n 2, [], 0, 0), (186, .aload_n 0, [], 0, 0), (187, .getfield 39, [6, 21, 742], 0, 0), (190, .iload_n 2, [], 0, 0), (191, .iaload, [], 0, 0), (192, .iastore, [], 0, 0),
  (193, .iinc 2 1, [], 1, 0), (196, .goto (-21), [97], 0, 0), (199, .iconst 0, [], 0, 0), (200, .istore_n 2, [], 0, 0), (201, .iload_n 2, [], 0, 0), (202, .aload_n 0, [], 0, 0),
  (203, .getfield 58, [6, 2, 723], 0, 0), (206, .if_icmp .ge 25, [130], 0, 0), (209, .aload_n 0, [], 0, 0), (210, .getfield 23, [6, 6, 727], 0, 0), (213, .iconst 3, [], 3, 0), (214, .iload_n 2, [], 0, 0),
  (215, .iadd, [], 0, 0), (216, .aload_n 0, [], 0, 0), (217, .getfield 17, [6, 3, 724], 0, 0), (220, .iconst 4, [], 4, 0), (221, .iload_n 2, [], 0, 0), (222, .imul, [], 0, 0),
  (223, .iaload, [], 0, 0), (224, .iastore, [], 0, 0), (225, .iinc 2 1, [], 1, 0), (228, .goto (-27), [112], 0, 0), (231, .aload_n 0, [], 0, 0), (232, .iconst 0, [], 0, 0),
  (233, .putfield 127, [6, 4, 725], 0, 0), (236, .aload_n 0, [], 0, 0), (237, .getfield 29, [6, 8, 729], 0, 0), (240, .iconst 0, [], 0, 0), (241, .iconst 0, [], 0, 0), (242, .bastore, [], 0, 0),
  (243, .aload_n 0, [], 0, 0), (244, .getfield 29, [6, 8, 729], 0, 0), (247, .iconst 1, [], 1, 0), (248, .iconst 0, [], 0, 0), (249, .bastore, [], 0, 0), (250, .aload_n 0, [], 0, 0),
  (251, .iconst 0, [], 0, 0), (252, .putfield 61, [6, 11, 732], 0, 0), (255, .iload_n 1, [], 0, 0), (256, .ireturn, [], 0, 0)]
def am_K128 : List am_E := [(0, .aload_n 0, [], 0, 0), (1, .getfield 13, [6, 1, 722], 0, 0), (4, .bipush 6, [], 6, 0), (6, .iload_n 1, [], 0, 0), (7, .imul, [], 0, 0), (8, .iload_n 2, [], 0, 0),
  (9, .iadd, [], 0, 0), (10, .iaload, [], 0, 0), (11, .ireturn, [], 0, 0)]
def am_K129 : List am_E := [(0, .aload_n 0, [], 0, 0), (1, .iload_n 1, [], 0, 0), (2, .invokevirtual 130, [113, 0, 864], 0, 0), (5, .ifCond .eq 20, [13], 0, 0), (8, .aload_n 0, [], 0, 0), (9, .iload_n 2, [], 0, 0),
  (10, .invokevirtual 130, [113, 0, 864], 0, 0), (13, .ifCond .eq 12, [13], 0, 0), (16, .aload_n 0, [], 0, 0), (17, .iload_n 1, [], 0, 0), (18, .iload_n 2, [], 0, 0), (19, .invokevirtual 134, [128, 0, 868], 0, 0),
  (22, .goto 4, [14], 0, 0), (25, .iconst (-1), [], (-1), 0), (26, .ireturn, [], 0, 0)]
def am_K130 : List am_E := [(0, .aload_n 0, [], 0, 0), (1, .iload_n 1, [], 0, 0), (2, .invokevirtual 138, [115, 0, 876], 0, 0), (5, .ifCond .eq 12, [9], 0, 0), (8, .iload_n 2, [], 0, 0), (9, .iconst 0, [], 0, 0),
  (10, .iconst 3, [], 3, 0), (11, .invokestatic 54, [111, 0, 811], 0, 0), (14, .ifCond .ne 5, [11], 0, 0), (17, .iconst (-1), [], (-1), 0), (18, .ireturn, [], 0, 0), (19, .iload_n 2, [], 0, 0),
  (20, .ifCond .ne 14, [20], 0, 0), (23, .aload_n 0, [], 0, 0), (24, .getfield 23, [6, 6, 727], 0, 0), (27, .iconst 3, [], 3, 0), (28, .iload_n 1, [], 0, 0), (29, .iadd, [], 0, 0),
  (30, .iaload, [], 0, 0), (31, .goto 13, [28], 0, 0), (34, .aload_n 0, [], 0, 0), (35, .getfield 17, [6, 3, 724], 0, 0), (38, .iconst 4, [], 4, 0), (39, .iload_n 1, [], 0, 0),
  (40, .imul, [], 0, 0), (41, .iload_n 2, [], 0, 0), (42, .iadd, [], 0, 0), (43, .iaload, [], 0, 0), (44, .ireturn, [], 0, 0)]
def am_K131 : List am_E := [(0, .iload_n 1, [], 0, 0), (1, .invokestatic 141, [116, 0, 884], 0, 0), (4, .ifCond .eq 28, [15], 0, 0), (7, .aload_n 0, [], 0, 0), (8, .iload_n 2, [], 0, 0), (9, .invokevirtual 130, [113, 0, 864], 0, 0),
  (12, .ifCond .eq 20, [15], 0, 0), (15, .iload_n 3, [], 0, 0), (16, .invokestatic 144, [114, 0, 887], 0, 0), (19, .ifCond .eq 13, [15], 0, 0), (22, .iload 4, [], 0, 0), (24, .iconst 0, [], 0, 0),
  (25, .iconst 1, [], 1, 0), (26, .invokestatic 54, [111, 0, 811], 0, 0), (29, .ifCond .ne 5, [17], 0, 0), (32, .iconst (-1), [], (-1), 0), (33, .ireturn, [], 0, 0), (34, .aload_n 0, [], 0, 0),
  (35, .getfield 127, [6, 4, 725], 0, 0), (38, .bipush 8, [], 8, 0), (40, .if_icmp .ne 6, [23], 0, 0), (43, .bipush (-3), [], (-3), 0), (45, .ireturn, [], 0, 0), (46, .aload_n 0, [], 0, 0),
  (47, .getfield 20, [6, 5, 726], 0, 0), (50, .iconst 4, [], 4, 0), (51, .aload_n 0, [], 0, 0), (52, .getfield 127, [6, 4, 725], 0, 0), (55, .imul, [], 0, 0), (56, .iload_n 1, [], 0, 0),
  (57, .iastore, [], 0, 0), (58, .aload_n 0, [], 0, 0), (59, .getfield 20, [6, 5, 726], 0, 0), (62, .iconst 4, [], 4, 0), (63, .aload_n 0, [], 0, 0), (64, .getfield 127, [6, 4, 725], 0, 0),
  (67, .imul, [], 0, 0), (68, .iconst 1, [], 1, 0), (69, .iadd, [], 0, 0), (70, .iload_n 2, [], 0, 0), (71, .iastore, [], 0, 0), (72, .aload_n 0, [], 0, 0),
  (73, .getfield 20, [6, 5, 726], 0, 0), (76, .iconst 4, [], 4, 0), (77, .aload_n 0, [], 0, 0), (78, .getfield 127, [6, 4, 725], 0, 0), (81, .imul, [], 0, 0), (82, .iconst 2, [], 2, 0),
  (83, .iadd, [], 0, 0), (84, .iload_n 3, [], 0, 0), (85, .iastore, [], 0, 0), (86, .aload_n 0, [], 0, 0), (87, .getfield 20, [6, 5, 726], 0, 0), (90, .iconst 4, [], 4, 0),
  (91, .aload_n 0, [], 0, 0), (92, .getfield 127, [6, 4, 725], 0, 0), (95, .imul, [], 0, 0), (96, .iconst 3, [], 3, 0), (97, .iadd, [], 0, 0), (98, .iload 4, [], 0, 0),
  (100, .iastore, [], 0, 0), (101, .aload_n 0, [], 0, 0), (102, .dup, [], 0, 0), (103, .getfield 127, [6, 4, 725], 0, 0), (106, .iconst 1, [], 1, 0), (107, .iadd, [], 0, 0),
  (108, .putfield 127, [6, 4, 725], 0, 0), (111, .aload_n 0, [], 0, 0), (112, .getfield 127, [6, 4, 725], 0, 0), (115, .ireturn, [], 0, 0)]
def am_K132 : List am_E := [(0, .aload_n 0, [], 0, 0), (1, .getfield 127, [6, 4, 725], 0, 0), (4, .istore_n 1, [], 0, 0), (5, .aload_n 0, [], 0, 0), (6, .iconst 0, [], 0, 0), (7, .putfield 127, [6, 4, 725], 0, 0),
  (10, .iload_n 1, [], 0, 0), (11, .ireturn, [], 0, 0)]
def am_K133 : List am_E := [(0, .aload_n 0, [], 0, 0), (1, .getfield 20, [6, 5, 726], 0, 0), (4, .iconst 4, [], 4, 0), (5, .iload_n 1, [], 0, 0), (6, .imul, [], 0, 0), (7, .iconst 3, [], 3, 0),
  (8, .iadd, [], 0, 0), (9, .iaload, [], 0, 0), (10, .iconst 1, [], 1, 0), (11, .if_icmp .ne 7, [12], 0, 0), (14, .iconst 1, [], 1, 0), (15, .goto 4, [13], 0, 0),
  (18, .iconst 0, [], 0, 0), (19, .ireturn, [], 0, 0)]
def am_K134 : List am_E := [(0, .iconst 0, [], 0, 0), (1, .istore 4, [], 0, 0), (3, .iconst 0, [], 0, 0), (4, .istore 5, [], 0, 0), (6, .iload 5, [], 0, 0), (8, .aload_n 0, [], 0, 0),
  (9, .getfield 127, [6, 4, 725], 0, 0), (12, .if_icmp .ge 79, [54], 0, 0), (15, .aload_n 0, [], 0, 0), (16, .getfield 20, [6, 5, 726], 0, 0), (19, .iconst 4, [], 4, 0), (20, .iload 5, [], 0, 0),
  (22, .imul, [], 0, 0), (23, .iconst 2, [], 2, 0), (24, .iadd, [], 0, 0), (25, .iaload, [], 0, 0), (26, .iload_n 2, [], 0, 0), (27, .if_icmp .ne 37, [40], 0, 0),
  (30, .iload_n 3, [], 0, 0), (31, .aload_n 0, [], 0, 0), (32, .iload_n 1, [], 0, 0), (33, .aload_n 0, [], 0, 0), (34, .getfield 20, [6, 5, 726], 0, 0), (37, .iconst 4, [], 4, 0),
  (38, .iload 5, [], 0, 0), (40, .imul, [], 0, 0), (41, .iconst 1, [], 1, 0), (42, .iadd, [], 0, 0), (43, .iaload, [], 0, 0), (44, .invokevirtual 134, [128, 0, 868], 0, 0),
  (47, .isub, [], 0, 0), (48, .aload_n 0, [], 0, 0), (49, .getfield 20, [6, 5, 726], 0, 0), (52, .iconst 4, [], 4, 0), (53, .iload 5, [], 0, 0), (55, .imul, [], 0, 0),
  (56, .iaload, [], 0, 0), (57, .if_icmp .ne 7, [40], 0, 0), (60, .iconst 1, [], 1, 0), (61, .goto 4, [41], 0, 0), (64, .iconst 0, [], 0, 0), (65, .istore 6, [], 0, 0),
  (67, .iload 4, [], 0, 0), (69, .iload 6, [], 0, 0), (71, .ifCond .eq 10, [49], 0, 0), (74, .iconst 1, [], 1, 0), (75, .iload 5, [], 0, 0), (77, .ishl, [], 0, 0),
  (78, .goto 4, [50], 0, 0), (81, .iconst 0, [], 0, 0), (82, .ior, [], 0, 0), (83, .istore 4, [], 0, 0), (85, .iinc 5 1, [], 1, 0), (88, .goto (-82), [4], 0, 0),
  (91, .iload 4, [], 0, 0), (93, .ireturn, [], 0, 0)]
def am_K135 : List am_E := [(0, .iconst 0, [], 0, 0), (1, .istore_n 1, [], 0, 0), (2, .iconst 0, [], 0, 0), (3, .istore_n 2, [], 0, 0), (4, .iload_n 2, [], 0, 0), (5, .aload_n 0, [], 0, 0),
  (6, .getfield 127, [6, 4, 725], 0, 0), (9, .if_icmp .ge 27, [22], 0, 0), (12, .iload_n 1, [], 0, 0), (13, .aload_n 0, [], 0, 0), (14, .iload_n 2, [], 0, 0), (15, .invokevirtual 147, [133, 0, 902], 0, 0),
  (18, .ifCond .eq 9, [17], 0, 0), (21, .iconst 1, [], 1, 0), (22, .iload_n 2, [], 0, 0), (23, .ishl, [], 0, 0), (24, .goto 4, [18], 0, 0), (27, .iconst 0, [], 0, 0),
  (28, .ior, [], 0, 0), (29, .istore_n 1, [], 0, 0), (30, .iinc 2 1, [], 1, 0), (33, .goto (-29), [4], 0, 0), (36, .iload_n 1, [], 0, 0), (37, .ireturn, [], 0, 0)]
def am_K136 : List am_E := [(0, .aload_n 0, [], 0, 0), (1, .getfield 17, [6, 3, 724], 0, 0), (4, .iconst 4, [], 4, 0), (5, .iload_n 1, [], 0, 0), (6, .imul, [], 0, 0), (7, .iconst 1, [], 1, 0),
  (8, .iadd, [], 0, 0), (9, .iaload, [], 0, 0), (10, .iload_n 2, [], 0, 0), (11, .invokestatic 105, [112, 0, 857], 0, 0), (14, .ifCond .eq 34, [32], 0, 0), (17, .iload_n 3, [], 0, 0),
  (18, .aload_n 0, [], 0, 0), (19, .getfield 17, [6, 3, 724], 0, 0), (22, .iconst 4, [], 4, 0), (23, .iload_n 1, [], 0, 0), (24, .imul, [], 0, 0), (25, .iconst 2, [], 2, 0),
  (26, .iadd, [], 0, 0), (27, .iaload, [], 0, 0), (28, .aload_n 0, [], 0, 0), (29, .getfield 17, [6, 3, 724], 0, 0), (32, .iconst 4, [], 4, 0), (33, .iload_n 1, [], 0, 0),
  (34, .imul, [], 0, 0), (35, .iconst 3, [], 3, 0), (36, .iadd, [], 0, 0), (37, .iaload, [], 0, 0), (38, .invokestatic 54, [111, 0, 811], 0, 0), (41, .ifCond .eq 7, [32], 0, 0),
  (44, .iconst 1, [], 1, 0), (45, .goto 4, [33], 0, 0), (48, .iconst 0, [], 0, 0), (49, .ireturn, [], 0, 0)]
def am_K137 : List am_E := [(0, .aload_n 0, [], 0, 0), (1, .iload_n 1, [], 0, 0), (2, .iload_n 2, [], 0, 0), (3, .iload_n 3, [], 0, 0), (4, .invokevirtual 150, [136, 0, 910], 0, 0), (7, .ifCond .ne 5, [8], 0, 0),
  (10, .iconst 0, [], 0, 0), (11, .ireturn, [], 0, 0), (12, .aload_n 0, [], 0, 0), (13, .aload_n 0, [], 0, 0), (14, .getfield 23, [6, 6, 727], 0, 0), (17, .iconst 3, [], 3, 0),
  (18, .iload_n 1, [], 0, 0), (19, .iadd, [], 0, 0), (20, .iaload, [], 0, 0), (21, .iload_n 2, [], 0, 0), (22, .iload_n 3, [], 0, 0), (23, .invokevirtual 153, [134, 0, 914], 0, 0),
  (26, .istore 4, [], 0, 0), (28, .iload 4, [], 0, 0), (30, .aload_n 0, [], 0, 0), (31, .invokevirtual 157, [135, 0, 918], 0, 0), (34, .iconst (-1), [], (-1), 0), (35, .ixor, [], 0, 0),
  (36, .iand, [], 0, 0), (37, .ifCond .ne 8, [28], 0, 0), (40, .iload 4, [], 0, 0), (42, .goto 4, [29], 0, 0), (45, .iconst 0, [], 0, 0), (46, .ireturn, [], 0, 0)]
def am_K138 : List am_E := [(0, .iconst 0, [], 0, 0), (1, .istore_n 2, [], 0, 0), (2, .iconst 0, [], 0, 0), (3, .istore_n 3, [], 0, 0), (4, .iload_n 3, [], 0, 0), (5, .aload_n 0, [], 0, 0),
  (6, .getfield 58, [6, 2, 723], 0, 0), (9, .if_icmp .ge 84, [61], 0, 0), (12, .aload_n 0, [], 0, 0), (13, .iload_n 1, [], 0, 0), (14, .invokevirtual 147, [133, 0, 902], 0, 0), (17, .ifCond .eq 76, [61], 0, 0),
  (20, .aload_n 0, [], 0, 0), (21, .getfield 20, [6, 5, 726], 0, 0), (24, .iconst 4, [], 4, 0), (25, .iload_n 1, [], 0, 0), (26, .imul, [], 0, 0), (27, .iaload, [], 0, 0),
  (28, .aload_n 0, [], 0, 0), (29, .aload_n 0, [], 0, 0), (30, .getfield 23, [6, 6, 727], 0, 0), (33, .iconst 3, [], 3, 0), (34, .iload_n 3, [], 0, 0), (35, .iadd, [], 0, 0),
  (36, .iaload, [], 0, 0), (37, .aload_n 0, [], 0, 0), (38, .getfield 20, [6, 5, 726], 0, 0), (41, .iconst 4, [], 4, 0), (42, .iload_n 1, [], 0, 0), (43, .imul, [], 0, 0),
  (44, .iconst 1, [], 1, 0), (45, .iadd, [], 0, 0), (46, .iaload, [], 0, 0), (47, .invokevirtual 134, [128, 0, 868], 0, 0), (50, .iadd, [], 0, 0), (51, .istore 4, [], 0, 0),
  (53, .iload_n 2, [], 0, 0), (54, .aload_n 0, [], 0, 0), (55, .iload_n 3, [], 0, 0), (56, .aload_n 0, [], 0, 0), (57, .getfield 20, [6, 5, 726], 0, 0), (60, .iconst 4, [], 4, 0),
  (61, .iload_n 1, [], 0, 0), (62, .imul, [], 0, 0), (63, .iconst 2, [], 2, 0), (64, .iadd, [], 0, 0), (65, .iaload, [], 0, 0), (66, .iload 4, [], 0, 0),
  (68, .invokevirtual 161, [137, 0, 906], 0, 0), (71, .iload_n 1, [], 0, 0), (72, .invokestatic 105, [112, 0, 857], 0, 0), (75, .ifCond .eq 9, [56], 0, 0), (78, .iconst 1, [], 1, 0), (79, .iload_n 3, [], 0, 0),
  (80, .ishl, [], 0, 0), (81, .goto 4, [57], 0, 0), (84, .iconst 0, [], 0, 0), (85, .ior, [], 0, 0), (86, .istore_n 2, [], 0, 0), (87, .iinc 3 1, [], 1, 0),
  (90, .goto (-86), [4], 0, 0), (93, .iload_n 2, [], 0, 0), (94, .ireturn, [], 0, 0)]
def am_K139 : List am_E := [(0, .iload_n 1, [], 0, 0), (1, .iconst 0, [], 0, 0), (2, .aload_n 0, [], 0, 0), (3, .getfield 127, [6, 4, 725], 0, 0), (6, .iconst 1, [], 1, 0), (7, .isub, [], 0, 0),
  (8, .invokestatic 54, [111, 0, 811], 0, 0), (11, .ifCond .eq 11, [12], 0, 0), (14, .aload_n 0, [], 0, 0), (15, .iload_n 1, [], 0, 0), (16, .invokevirtual 164, [138, 0, 898], 0, 0), (19, .goto 4, [13], 0, 0),
  (22, .iconst (-1), [], (-1), 0), (23, .ireturn, [], 0, 0)]
def am_K140 : List am_E := [(0, .bipush (-9), [], (-9), 0), (2, .istore_n 1, [], 0, 0), (3, .aload_n 0, [], 0, 0), (4, .getfield 127, [6, 4, 725], 0, 0), (7, .iconst 1, [], 1, 0), (8, .isub, [], 0, 0),
  (9, .istore_n 2, [], 0, 0), (10, .iload_n 2, [], 0, 0), (11, .ifCond .lt 31, [23], 0, 0), (14, .aload_n 0, [], 0, 0), (15, .iload_n 2, [], 0, 0), (16, .invokevirtual 147, [133, 0, 902], 0, 0),
  (19, .ifCond .eq 15, [19], 0, 0), (22, .aload_n 0, [], 0, 0), (23, .iload_n 2, [], 0, 0), (24, .invokevirtual 164, [138, 0, 898], 0, 0), (27, .ifCond .ne 7, [19], 0, 0), (30, .iload_n 2, [], 0, 0),
  (31, .goto 4, [20], 0, 0), (34, .iload_n 1, [], 0, 0), (35, .istore_n 1, [], 0, 0), (36, .iinc 2 (-1), [], (-1), 0), (39, .goto (-29), [7], 0, 0), (42, .iload_n 1, [], 0, 0),
  (43, .ireturn, [], 0, 0)]
def am_K141 : List am_E := [(0, .aload_n 0, [], 0, 0), (1, .iconst 0, [], 0, 0), (2, .putfield 167, [6, 23, 744], 0, 0), (5, .iconst 0, [], 0, 0), (6, .istore_n 1, [], 0, 0), (7, .iload_n 1, [], 0, 0),
  (8, .aload_n 0, [], 0, 0), (9, .getfield 58, [6, 2, 723], 0, 0), (12, .if_icmp .ge 93, [59], 0, 0), (15, .iconst 0, [], 0, 0), (16, .istore_n 2, [], 0, 0), (17, .iload_n 2, [], 0, 0),
  (18, .bipush 8, [], 8, 0), (20, .if_icmp .ge 79, [57], 0, 0), (23, .iconst 0, [], 0, 0), (24, .istore_n 3, [], 0, 0), (25, .iload_n 3, [], 0, 0), (26, .bipush 40, [], 40, 0),
  (28, .if_icmp .gt 65, [55], 0, 0), (31, .aload_n 0, [], 0, 0), (32, .iload_n 1, [], 0, 0), (33, .iload_n 2, [], 0, 0), (34, .iload_n 3, [], 0, 0), (35, .invokevirtual 161, [137, 0, 906], 0, 0),
  (38, .istore 4, [], 0, 0), (40, .iload 4, [], 0, 0), (42, .ifCond .le 45, [53], 0, 0), (45, .aload_n 0, [], 0, 0), (46, .getfield 45, [6, 24, 745], 0, 0), (49, .aload_n 0, [], 0, 0),
  (50, .getfield 167, [6, 23, 744], 0, 0), (53, .sipush 10000, [], 10000, 0), (56, .iload_n 1, [], 0, 0), (57, .imul, [], 0, 0), (58, .bipush 100, [], 100, 0), (60, .iload_n 2, [], 0, 0),
  (61, .imul, [], 0, 0), (62, .iadd, [], 0, 0), (63, .iload_n 3, [], 0, 0), (64, .iadd, [], 0, 0), (65, .iastore, [], 0, 0), (66, .aload_n 0, [], 0, 0),
  (67, .getfield 48, [6, 25, 746], 0, 0), (70, .aload_n 0, [], 0, 0), (71, .getfield 167, [6, 23, 744], 0, 0), (74, .iload 4, [], 0, 0), (76, .iastore, [], 0, 0), (77, .aload_n 0, [], 0, 0),
  (78, .dup, [], 0, 0), (79, .getfield 167, [6, 23, 744], 0, 0), (82, .iconst 1, [], 1, 0), (83, .iadd, [], 0, 0), (84, .putfield 167, [6, 23, 744], 0, 0), (87, .iinc 3 1, [], 1, 0),
  (90, .goto (-65), [16], 0, 0), (93, .iinc 2 1, [], 1, 0), (96, .goto (-79), [11], 0, 0), (99, .iinc 1 1, [], 1, 0), (102, .goto (-95), [5], 0, 0), (105, .return_, [], 0, 0)]
def am_K142 : List am_E := [(0, .iconst 0, [], 0, 0), (1, .istore 4, [], 0, 0), (3, .iload 4, [], 0, 0), (5, .sipush 2304, [], 2304, 0), (8, .if_icmp .ge 17, [12], 0, 0), (11, .aload_n 0, [], 0, 0),
  (12, .getfield 51, [6, 26, 747], 0, 0), (15, .iload 4, [], 0, 0), (17, .iconst 0, [], 0, 0), (18, .iastore, [], 0, 0), (19, .iinc 4 1, [], 1, 0), (22, .goto (-19), [2], 0, 0),
  (25, .aload_n 0, [], 0, 0), (26, .getfield 51, [6, 26, 747], 0, 0), (29, .iconst 0, [], 0, 0), (30, .iconst 1, [], 1, 0), (31, .iastore, [], 0, 0), (32, .iload_n 1, [], 0, 0),
  (33, .istore 4, [], 0, 0), (35, .iload 4, [], 0, 0), (37, .aload_n 0, [], 0, 0), (38, .getfield 167, [6, 23, 744], 0, 0), (41, .if_icmp .ge 125, [87], 0, 0), (44, .aload_n 0, [], 0, 0),
  (45, .getfield 45, [6, 24, 745], 0, 0), (48, .iload 4, [], 0, 0), (50, .iaload, [], 0, 0), (51, .sipush 10000, [], 10000, 0), (54, .idiv, [], 0, 0), (55, .iload_n 2, [], 0, 0),
  (56, .if_icmp .ne 15, [38], 0, 0), (59, .aload_n 0, [], 0, 0), (60, .getfield 48, [6, 25, 746], 0, 0), (63, .iload 4, [], 0, 0), (65, .iaload, [], 0, 0), (66, .iload_n 3, [], 0, 0),
  (67, .iand, [], 0, 0), (68, .ifCond .ne 7, [40], 0, 0), (71, .iconst 1, [], 1, 0), (72, .goto 4, [41], 0, 0), (75, .iconst 0, [], 0, 0), (76, .istore 5, [], 0, 0),
  (78, .iload 5, [], 0, 0), (80, .ifCond .eq 8, [46], 0, 0), (83, .bipush 7, [], 7, 0), (85, .goto 4, [47], 0, 0), (88, .iconst (-1), [], (-1), 0), (89, .istore 6, [], 0, 0),
  (91, .iload 6, [], 0, 0), (93, .ifCond .lt 67, [85], 0, 0), (96, .iconst 0, [], 0, 0), (97, .istore 7, [], 0, 0), (99, .iload 7, [], 0, 0), (101, .sipush 256, [], 256, 0),
  (104, .if_icmp .ge 50, [83], 0, 0), (107, .aload_n 0, [], 0, 0), (108, .getfield 51, [6, 26, 747], 0, 0), (111, .sipush 256, [], 256, 0), (114, .iload 6, [], 0, 0), (116, .iconst 1, [], 1, 0),
  (117, .iadd, [], 0, 0), (118, .imul, [], 0, 0), (119, .iload 7, [], 0, 0), (121, .aload_n 0, [], 0, 0), (122, .getfield 48, [6, 25, 746], 0, 0), (125, .iload 4, [], 0, 0),
  (127, .iaload, [], 0, 0), (128, .ior, [], 0, 0), (129, .iadd, [], 0, 0), (130, .dup2, [], 0, 0), (131, .iaload, [], 0, 0), (132, .aload_n 0, [], 0, 0),
  (133, .getfield 51, [6, 26, 747], 0, 0), (136, .sipush 256, [], 256, 0), (139, .iload 6, [], 0, 0), (141, .imul, [], 0, 0), (142, .iload 7, [], 0, 0), (144, .iadd, [], 0, 0),
  (145, .iaload, [], 0, 0), (146, .iadd, [], 0, 0), (147, .iastore, [], 0, 0), (148, .iinc 7 1, [], 1, 0), (151, .goto (-52), [52], 0, 0), (154, .iinc 6 (-1), [], (-1), 0),
  (157, .goto (-66), [48], 0, 0), (160, .iinc 4 1, [], 1, 0), (163, .goto (-128), [19], 0, 0), (166, .return_, [], 0, 0)]
def am_K143 : List am_E := [(0, .aload_n 0, [], 0, 0), (1, .invokevirtual 170, [141, 0, 934], 0, 0), (4, .aload_n 0, [], 0, 0), (5, .iconst 0, [], 0, 0), (6, .bipush (-9), [], (-9), 0), (8, .iconst 0, [], 0, 0),
  (9, .invokevirtual 173, [142, 0, 938], 0, 0), (12, .aload_n 0, [], 0, 0), (13, .invokevirtual 157, [135, 0, 918], 0, 0), (16, .istore_n 1, [], 0, 0), (17, .aload_n 0, [], 0, 0), (18, .iconst 0, [], 0, 0),
  (19, .putfield 177, [6, 27, 748], 0, 0), (22, .aload_n 0, [], 0, 0), (23, .getfield 177, [6, 27, 748], 0, 0), (26, .bipush 8, [], 8, 0), (28, .if_icmp .gt 34, [34], 0, 0), (31, .aload_n 0, [], 0, 0),
  (32, .getfield 51, [6, 26, 747], 0, 0), (35, .sipush 256, [], 256, 0), (38, .aload_n 0, [], 0, 0), (39, .getfield 177, [6, 27, 748], 0, 0), (42, .imul, [], 0, 0), (43, .iload_n 1, [], 0, 0),
  (44, .iadd, [], 0, 0), (45, .iaload, [], 0, 0), (46, .ifCond .ne 16, [34], 0, 0), (49, .aload_n 0, [], 0, 0), (50, .dup, [], 0, 0), (51, .getfield 177, [6, 27, 748], 0, 0),
  (54, .iconst 1, [], 1, 0), (55, .iadd, [], 0, 0), (56, .putfield 177, [6, 27, 748], 0, 0), (59, .goto (-37), [13], 0, 0), (62, .aload_n 0, [], 0, 0), (63, .getfield 177, [6, 27, 748], 0, 0),
  (66, .bipush 8, [], 8, 0), (68, .if_icmp .gt 7, [40], 0, 0), (71, .iconst 1, [], 1, 0), (72, .goto 4, [41], 0, 0), (75, .iconst 0, [], 0, 0), (76, .ireturn, [], 0, 0)]
def am_K144 : List am_E := [(0, .aload_n 0, [], 0, 0), (1, .iconst 0, [], 0, 0), (2, .iload_n 1, [], 0, 0), (3, .iload_n 2, [], 0, 0), (4, .invokevirtual 173, [142, 0, 938], 0, 0), (7, .aload_n 0, [], 0, 0),
  (8, .getfield 51, [6, 26, 747], 0, 0), (11, .sipush 256, [], 256, 0), (14, .aload_n 0, [], 0, 0), (15, .getfield 177, [6, 27, 748], 0, 0), (18, .imul, [], 0, 0), (19, .aload_n 0, [], 0, 0),
  (20, .invokevirtual 157, [135, 0, 918], 0, 0), (23, .iadd, [], 0, 0), (24, .iaload, [], 0, 0), (25, .ireturn, [], 0, 0)]
def am_K145 : List am_E := [(0, .iload_n 1, [], 0, 0), (1, .iconst 0, [], 0, 0), (2, .iconst 2, [], 2, 0), (3, .invokestatic 54, [111, 0, 811], 0, 0), (6, .ifCond .ne 5, [7], 0, 0), (9, .iconst (-1), [], (-1), 0),
  (10, .ireturn, [], 0, 0), (11, .aload_n 0, [], 0, 0), (12, .invokevirtual 180, [143, 0, 930], 0, 0), (15, .ifCond .ne 6, [12], 0, 0), (18, .bipush (-9), [], (-9), 0), (20, .ireturn, [], 0, 0),
  (21, .iload_n 1, [], 0, 0), (22, .iconst 2, [], 2, 0), (23, .if_icmp .ge 33, [31], 0, 0), (26, .iload_n 1, [], 0, 0), (27, .ifCond .ne 10, [20], 0, 0), (30, .aload_n 0, [], 0, 0),
  (31, .getfield 177, [6, 27, 748], 0, 0), (34, .goto 21, [30], 0, 0), (37, .aload_n 0, [], 0, 0), (38, .getfield 51, [6, 26, 747], 0, 0), (41, .sipush 256, [], 256, 0), (44, .aload_n 0, [], 0, 0),
  (45, .getfield 177, [6, 27, 748], 0, 0), (48, .imul, [], 0, 0), (49, .aload_n 0, [], 0, 0), (50, .invokevirtual 157, [135, 0, 918], 0, 0), (53, .iadd, [], 0, 0), (54, .iaload, [], 0, 0),
  (55, .ireturn, [], 0, 0), (56, .iconst 0, [], 0, 0), (57, .istore_n 2, [], 0, 0), (58, .iconst 0, [], 0, 0), (59, .istore_n 3, [], 0, 0), (60, .iload_n 3, [], 0, 0),
  (61, .aload_n 0, [], 0, 0), (62, .getfield 58, [6, 2, 723], 0, 0), (65, .if_icmp .ge 30, [54], 0, 0), (68, .iload_n 2, [], 0, 0), (69, .aload_n 0, [], 0, 0), (70, .iload_n 3, [], 0, 0),
  (71, .sipush 255, [], 255, 0), (74, .invokevirtual 184, [144, 0, 942], 0, 0), (77, .ifCond .ne 9, [49], 0, 0), (80, .iconst 1, [], 1, 0), (81, .iload_n 3, [], 0, 0), (82, .ishl, [], 0, 0),
  (83, .goto 4, [50], 0, 0), (86, .iconst 0, [], 0, 0), (87, .ior, [], 0, 0), (88, .istore_n 2, [], 0, 0), (89, .iinc 3 1, [], 1, 0), (92, .goto (-32), [35], 0, 0),
  (95, .iload_n 2, [], 0, 0), (96, .ireturn, [], 0, 0)]
def am_K146 : List am_E := [(0, .aload_n 0, [], 0, 0), (1, .iload_n 1, [], 0, 0), (2, .bipush (-9), [], (-9), 0), (4, .iconst 0, [], 0, 0), (5, .invokevirtual 173, [142, 0, 938], 0, 0), (8, .aload_n 0, [], 0, 0),
  (9, .invokevirtual 157, [135, 0, 918], 0, 0), (12, .istore 4, [], 0, 0), (14, .iconst 0, [], 0, 0), (15, .istore 5, [], 0, 0), (17, .iconst 0, [], 0, 0), (18, .istore 6, [], 0, 0),
  (20, .iload 6, [], 0, 0), (22, .sipush 256, [], 256, 0), (25, .if_icmp .ge 46, [37], 0, 0), (28, .iload 5, [], 0, 0), (30, .ifCond .ne 28, [31], 0, 0), (33, .iload 6, [], 0, 0),
  (35, .iload_n 3, [], 0, 0), (36, .ior, [], 0, 0), (37, .iload 4, [], 0, 0), (39, .if_icmp .ne 23, [33], 0, 0), (42, .aload_n 0, [], 0, 0), (43, .getfield 51, [6, 26, 747], 0, 0),
  (46, .sipush 256, [], 256, 0), (49, .iload_n 2, [], 0, 0), (50, .imul, [], 0, 0), (51, .iload 6, [], 0, 0), (53, .iadd, [], 0, 0), (54, .iaload, [], 0, 0),
  (55, .ifCond .le 7, [33], 0, 0), (58, .iconst 1, [], 1, 0), (59, .goto 4, [34], 0, 0), (62, .iconst 0, [], 0, 0), (63, .istore 5, [], 0, 0), (65, .iinc 6 1, [], 1, 0),
  (68, .goto (-48), [12], 0, 0), (71, .iload 5, [], 0, 0), (73, .ireturn, [], 0, 0)]
def am_K147 : List am_E := [(0, .iload_n 1, [], 0, 0), (1, .ifCond .ge 5, [4], 0, 0), (4, .iconst (-1), [], (-1), 0), (5, .ireturn, [], 0, 0), (6, .aload_n 0, [], 0, 0), (7, .invokevirtual 180, [143, 0, 930], 0, 0),
  (10, .ifCond .ne 6, [9], 0, 0), (13, .bipush (-9), [], (-9), 0), (15, .ireturn, [], 0, 0), (16, .iload_n 1, [], 0, 0), (17, .aload_n 0, [], 0, 0), (18, .getfield 177, [6, 27, 748], 0, 0),
  (21, .if_icmp .lt 6, [15], 0, 0), (24, .bipush (-5), [], (-5), 0), (26, .ireturn, [], 0, 0), (27, .iconst 0, [], 0, 0), (28, .istore_n 2, [], 0, 0), (29, .iconst 0, [], 0, 0),
  (30, .istore_n 3, [], 0, 0), (31, .bipush (-9), [], (-9), 0), (33, .istore 4, [], 0, 0), (35, .iconst 0, [], 0, 0), (36, .istore 5, [], 0, 0), (38, .iload 5, [], 0, 0),
  (40, .iload_n 1, [], 0, 0), (41, .if_icmp .gt 62, [61], 0, 0), (44, .aload_n 0, [], 0, 0), (45, .iload_n 3, [], 0, 0), (46, .iconst 1, [], 1, 0), (47, .iadd, [], 0, 0),
  (48, .aload_n 0, [], 0, 0), (49, .getfield 177, [6, 27, 748], 0, 0), (52, .iload 5, [], 0, 0), (54, .isub, [], 0, 0), (55, .iconst 1, [], 1, 0), (56, .isub, [], 0, 0),
  (57, .iload_n 2, [], 0, 0), (58, .aload_n 0, [], 0, 0), (59, .getfield 48, [6, 25, 746], 0, 0), (62, .iload_n 3, [], 0, 0), (63, .iaload, [], 0, 0), (64, .ior, [], 0, 0),
  (65, .invokevirtual 187, [146, 0, 950], 0, 0), (68, .ifCond .ne 9, [46], 0, 0), (71, .iinc 3 1, [], 1, 0), (74, .goto (-30), [26], 0, 0), (77, .iload_n 2, [], 0, 0), (78, .aload_n 0, [], 0, 0),
  (79, .getfield 48, [6, 25, 746], 0, 0), (82, .iload_n 3, [], 0, 0), (83, .iaload, [], 0, 0), (84, .ior, [], 0, 0), (85, .istore_n 2, [], 0, 0), (86, .aload_n 0, [], 0, 0),
  (87, .getfield 45, [6, 24, 745], 0, 0), (90, .iload_n 3, [], 0, 0), (91, .iaload, [], 0, 0), (92, .istore 4, [], 0, 0), (94, .iinc 3 1, [], 1, 0), (97, .iinc 5 1, [], 1, 0),
  (100, .goto (-62), [23], 0, 0), (103, .iload 4, [], 0, 0), (105, .ireturn, [], 0, 0)]
def am_K148 : List am_E := [(0, .aload_n 0, [], 0, 0), (1, .iload_n 1, [], 0, 0), (2, .invokevirtual 138, [115, 0, 876], 0, 0), (5, .ifCond .eq 34, [21], 0, 0), (8, .iload_n 2, [], 0, 0), (9, .iconst 0, [], 0, 0),
  (10, .aload_n 0, [], 0, 0), (11, .getfield 127, [6, 4, 725], 0, 0), (14, .iconst 1, [], 1, 0), (15, .isub, [], 0, 0), (16, .invokestatic 54, [111, 0, 811], 0, 0), (19, .ifCond .eq 20, [21], 0, 0),
  (22, .aload_n 0, [], 0, 0), (23, .iload_n 2, [], 0, 0), (24, .invokevirtual 147, [133, 0, 902], 0, 0), (27, .ifCond .eq 12, [21], 0, 0), (30, .iload_n 3, [], 0, 0), (31, .iconst 0, [], 0, 0),
  (32, .iconst 1, [], 1, 0), (33, .invokestatic 54, [111, 0, 811], 0, 0), (36, .ifCond .ne 5, [23], 0, 0), (39, .iconst (-1), [], (-1), 0), (40, .ireturn, [], 0, 0), (41, .aload_n 0, [], 0, 0),
  (42, .invokevirtual 180, [143, 0, 930], 0, 0), (45, .ifCond .ne 6, [28], 0, 0), (48, .bipush (-9), [], (-9), 0), (50, .ireturn, [], 0, 0), (51, .aload_n 0, [], 0, 0), (52, .getfield 51, [6, 26, 747], 0, 0),
  (55, .sipush 256, [], 256, 0), (58, .aload_n 0, [], 0, 0), (59, .getfield 177, [6, 27, 748], 0, 0), (62, .imul, [], 0, 0), (63, .aload_n 0, [], 0, 0), (64, .invokevirtual 157, [135, 0, 918], 0, 0),
  (67, .iadd, [], 0, 0), (68, .iaload, [], 0, 0), (69, .istore 4, [], 0, 0), (71, .iload 4, [], 0, 0), (73, .aload_n 0, [], 0, 0), (74, .iload_n 1, [], 0, 0),
  (75, .iconst 1, [], 1, 0), (76, .iload_n 2, [], 0, 0), (77, .ishl, [], 0, 0), (78, .invokevirtual 184, [144, 0, 942], 0, 0), (81, .isub, [], 0, 0), (82, .istore 5, [], 0, 0),
  (84, .iload 5, [], 0, 0), (86, .istore 6, [], 0, 0), (88, .iload 4, [], 0, 0), (90, .istore 7, [], 0, 0), (92, .iload 7, [], 0, 0), (94, .ifCond .le 21, [63], 0, 0),
  (97, .iload 6, [], 0, 0), (99, .iload 7, [], 0, 0), (101, .irem, [], 0, 0), (102, .istore 8, [], 0, 0), (104, .iload 7, [], 0, 0), (106, .istore 6, [], 0, 0),
  (108, .iload 8, [], 0, 0), (110, .istore 7, [], 0, 0), (112, .goto (-20), [52], 0, 0), (115, .iload_n 3, [], 0, 0), (116, .ifCond .ne 8, [67], 0, 0), (119, .iload 5, [], 0, 0),
  (121, .goto 5, [68], 0, 0), (124, .iload 4, [], 0, 0), (126, .iload 6, [], 0, 0), (128, .idiv, [], 0, 0), (129, .ireturn, [], 0, 0)]
def am_K149 : List am_E := [(0, .aload_n 0, [], 0, 0), (1, .getfield 23, [6, 6, 727], 0, 0), (4, .iconst 2, [], 2, 0), (5, .iaload, [], 0, 0), (6, .bipush 10, [], 10, 0), (8, .if_icmp .ne 47, [35], 0, 0),
  (11, .iconst 0, [], 0, 0), (12, .istore_n 3, [], 0, 0), (13, .iload_n 3, [], 0, 0), (14, .bipush 18, [], 18, 0), (16, .if_icmp .ge 29, [27], 0, 0), (19, .aload_n 0, [], 0, 0),
  (20, .getfield 23, [6, 6, 727], 0, 0), (23, .bipush 49, [], 49, 0), (25, .iload_n 3, [], 0, 0), (26, .iadd, [], 0, 0), (27, .aload_n 0, [], 0, 0), (28, .getfield 23, [6, 6, 727], 0, 0),
  (31, .bipush 49, [], 49, 0), (33, .iload_n 3, [], 0, 0), (34, .iadd, [], 0, 0), (35, .iconst 2, [], 2, 0), (36, .iadd, [], 0, 0), (37, .iaload, [], 0, 0),
  (38, .iastore, [], 0, 0), (39, .iinc 3 1, [], 1, 0), (42, .goto (-29), [8], 0, 0), (45, .aload_n 0, [], 0, 0), (46, .getfield 23, [6, 6, 727], 0, 0), (49, .iconst 2, [], 2, 0),
  (50, .dup2, [], 0, 0), (51, .iaload, [], 0, 0), (52, .iconst 1, [], 1, 0), (53, .isub, [], 0, 0), (54, .iastore, [], 0, 0), (55, .aload_n 0, [], 0, 0),
  (56, .getfield 23, [6, 6, 727], 0, 0), (59, .bipush 49, [], 49, 0), (61, .iconst 2, [], 2, 0), (62, .aload_n 0, [], 0, 0), (63, .getfield 23, [6, 6, 727], 0, 0), (66, .iconst 2, [], 2, 0),
  (67, .iaload, [], 0, 0), (68, .imul, [], 0, 0), (69, .iadd, [], 0, 0), (70, .iload_n 1, [], 0, 0), (71, .iastore, [], 0, 0), (72, .aload_n 0, [], 0, 0),
  (73, .getfield 23, [6, 6, 727], 0, 0), (76, .bipush 49, [], 49, 0), (78, .iconst 2, [], 2, 0), (79, .aload_n 0, [], 0, 0), (80, .getfield 23, [6, 6, 727], 0, 0), (83, .iconst 2, [], 2, 0),
  (84, .iaload, [], 0, 0), (85, .imul, [], 0, 0), (86, .iadd, [], 0, 0), (87, .iconst 1, [], 1, 0), (88, .iadd, [], 0, 0), (89, .iload_n 2, [], 0, 0),
  (90, .iastore, [], 0, 0), (91, .aload_n 0, [], 0, 0), (92, .getfield 23, [6, 6, 727], 0, 0), (95, .iconst 2, [], 2, 0), (96, .dup2, [], 0, 0), (97, .iaload, [], 0, 0),
  (98, .iconst 1, [], 1, 0), (99, .iadd, [], 0, 0), (100, .iastore, [], 0, 0), (101, .return_, [], 0, 0)]
def am_K150 : List am_E := [(0, .aload_n 0, [], 0, 0), (1, .getfield 23, [6, 6, 727], 0, 0), (4, .iconst 0, [], 0, 0), (5, .iaload, [], 0, 0), (6, .bipush 60, [], 60, 0), (8, .if_icmp .ne 6, [8], 0, 0),
  (11, .bipush (-2), [], (-2), 0), (13, .ireturn, [], 0, 0), (14, .aload_n 0, [], 0, 0), (15, .iconst (-1), [], (-1), 0), (16, .iconst 0, [], 0, 0), (17, .invokevirtual 190, [149, 0, 962], 0, 0),
  (20, .aload_n 0, [], 0, 0), (21, .getfield 23, [6, 6, 727], 0, 0), (24, .iconst 0, [], 0, 0), (25, .dup2, [], 0, 0), (26, .iaload, [], 0, 0), (27, .iconst 1, [], 1, 0),
  (28, .iadd, [], 0, 0), (29, .iastore, [], 0, 0), (30, .aload_n 0, [], 0, 0), (31, .getfield 23, [6, 6, 727], 0, 0), (34, .iconst 0, [], 0, 0), (35, .iaload, [], 0, 0),
  (36, .ireturn, [], 0, 0)]
def am_K151 : List am_E := [(0, .aload_n 0, [], 0, 0), (1, .iload_n 1, [], 0, 0), (2, .invokevirtual 138, [115, 0, 876], 0, 0), (5, .ifCond .eq 10, [7], 0, 0), (8, .iload_n 2, [], 0, 0), (9, .invokestatic 144, [114, 0, 887], 0, 0),
  (12, .ifCond .ne 5, [9], 0, 0), (15, .iconst (-1), [], (-1), 0), (16, .ireturn, [], 0, 0), (17, .aload_n 0, [], 0, 0), (18, .iload_n 1, [], 0, 0), (19, .iload_n 2, [], 0, 0),
  (20, .aload_n 0, [], 0, 0), (21, .getfield 23, [6, 6, 727], 0, 0), (24, .iconst 0, [], 0, 0), (25, .iaload, [], 0, 0), (26, .invokevirtual 150, [136, 0, 910], 0, 0), (29, .ifCond .ne 6, [20], 0, 0),
  (32, .bipush (-2), [], (-2), 0), (34, .ireturn, [], 0, 0), (35, .aload_n 0, [], 0, 0), (36, .getfield 23, [6, 6, 727], 0, 0), (39, .iconst 1, [], 1, 0), (40, .iaload, [], 0, 0),
  (41, .bipush 10, [], 10, 0), (43, .if_icmp .ne 6, [28], 0, 0), (46, .bipush (-3), [], (-3), 0), (48, .ireturn, [], 0, 0), (49, .aload_n 0, [], 0, 0), (50, .bipush (-2), [], (-2), 0),
  (52, .iconst 0, [], 0, 0), (53, .invokevirtual 190, [149, 0, 962], 0, 0), (56, .bipush 9, [], 9, 0), (58, .iconst 4, [], 4, 0), (59, .aload_n 0, [], 0, 0), (60, .getfield 23, [6, 6, 727], 0, 0),
  (63, .iconst 1, [], 1, 0), (64, .iaload, [], 0, 0), (65, .imul, [], 0, 0), (66, .iadd, [], 0, 0), (67, .istore_n 3, [], 0, 0), (68, .aload_n 0, [], 0, 0),
  (69, .getfield 23, [6, 6, 727], 0, 0), (72, .iload_n 3, [], 0, 0), (73, .iload_n 1, [], 0, 0), (74, .iastore, [], 0, 0), (75, .aload_n 0, [], 0, 0), (76, .getfield 23, [6, 6, 727], 0, 0),
  (79, .iload_n 3, [], 0, 0), (80, .iconst 1, [], 1, 0), (81, .iadd, [], 0, 0), (82, .iload_n 2, [], 0, 0), (83, .iastore, [], 0, 0), (84, .aload_n 0, [], 0, 0),
  (85, .getfield 23, [6, 6, 727], 0, 0), (88, .iload_n 3, [], 0, 0), (89, .iconst 2, [], 2, 0), (90, .iadd, [], 0, 0), (91, .aload_n 0, [], 0, 0), (92, .getfield 23, [6, 6, 727], 0, 0),
  (95, .iconst 0, [], 0, 0), (96, .iaload, [], 0, 0), (97, .iastore, [], 0, 0), (98, .aload_n 0, [], 0, 0), (99, .getfield 23, [6, 6, 727], 0, 0), (102, .iload_n 3, [], 0, 0),
  (103, .iconst 3, [], 3, 0), (104, .iadd, [], 0, 0), (105, .aload_n 0, [], 0, 0), (106, .getfield 23, [6, 6, 727], 0, 0), (109, .iconst 3, [], 3, 0), (110, .iload_n 1, [], 0, 0),
  (111, .iadd, [], 0, 0), (112, .iaload, [], 0, 0), (113, .iastore, [], 0, 0), (114, .aload_n 0, [], 0, 0), (115, .getfield 23, [6, 6, 727], 0, 0), (118, .iconst 1, [], 1, 0),
  (119, .dup2, [], 0, 0), (120, .iaload, [], 0, 0), (121, .iconst 1, [], 1, 0), (122, .iadd, [], 0, 0), (123, .iastore, [], 0, 0), (124, .aload_n 0, [], 0, 0),
  (125, .getfield 23, [6, 6, 727], 0, 0), (128, .iconst 1, [], 1, 0), (129, .iaload, [], 0, 0), (130, .ireturn, [], 0, 0)]
def am_K152 : List am_E := [(0, .aload_n 0, [], 0, 0), (1, .iload_n 1, [], 0, 0), (2, .invokevirtual 138, [115, 0, 876], 0, 0), (5, .ifCond .eq 11, [8], 0, 0), (8, .aload_n 0, [], 0, 0), (9, .iload_n 2, [], 0, 0),
  (10, .invokevirtual 130, [113, 0, 864], 0, 0), (13, .ifCond .ne 5, [10], 0, 0), (16, .iconst (-1), [], (-1), 0), (17, .ireturn, [], 0, 0), (18, .aload_n 0, [], 0, 0), (19, .getfield 23, [6, 6, 727], 0, 0),
  (22, .iconst 3, [], 3, 0), (23, .iload_n 1, [], 0, 0), (24, .iadd, [], 0, 0), (25, .iaload, [], 0, 0), (26, .istore_n 3, [], 0, 0), (27, .iload_n 3, [], 0, 0),
  (28, .iload_n 2, [], 0, 0), (29, .if_icmp .ne 6, [22], 0, 0), (32, .bipush (-2), [], (-2), 0), (34, .ireturn, [], 0, 0), (35, .aload_n 0, [], 0, 0), (36, .iload_n 1, [], 0, 0),
  (37, .iload_n 3, [], 0, 0), (38, .invokevirtual 190, [149, 0, 962], 0, 0), (41, .aload_n 0, [], 0, 0), (42, .getfield 23, [6, 6, 727], 0, 0), (45, .iconst 3, [], 3, 0), (46, .iload_n 1, [], 0, 0),
  (47, .iadd, [], 0, 0), (48, .iload_n 2, [], 0, 0), (49, .iastore, [], 0, 0), (50, .iload_n 3, [], 0, 0), (51, .ireturn, [], 0, 0)]
def am_K153 : List am_E := [(0, .aload_n 0, [], 0, 0), (1, .getfield 23, [6, 6, 727], 0, 0), (4, .iconst 2, [], 2, 0), (5, .iaload, [], 0, 0), (6, .ifCond .ne 6, [7], 0, 0), (9, .bipush (-2), [], (-2), 0),
  (11, .ireturn, [], 0, 0), (12, .aload_n 0, [], 0, 0), (13, .getfield 23, [6, 6, 727], 0, 0), (16, .iconst 2, [], 2, 0), (17, .dup2, [], 0, 0), (18, .iaload, [], 0, 0),
  (19, .iconst 1, [], 1, 0), (20, .isub, [], 0, 0), (21, .iastore, [], 0, 0), (22, .aload_n 0, [], 0, 0), (23, .getfield 23, [6, 6, 727], 0, 0), (26, .bipush 49, [], 49, 0),
  (28, .iconst 2, [], 2, 0), (29, .aload_n 0, [], 0, 0), (30, .getfield 23, [6, 6, 727], 0, 0), (33, .iconst 2, [], 2, 0), (34, .iaload, [], 0, 0), (35, .imul, [], 0, 0),
  (36, .iadd, [], 0, 0), (37, .iaload, [], 0, 0), (38, .istore_n 1, [], 0, 0), (39, .iload_n 1, [], 0, 0), (40, .iconst (-1), [], (-1), 0), (41, .if_icmp .ne 16, [39], 0, 0),
  (44, .aload_n 0, [], 0, 0), (45, .getfield 23, [6, 6, 727], 0, 0), (48, .iconst 0, [], 0, 0), (49, .dup2, [], 0, 0), (50, .iaload, [], 0, 0), (51, .iconst 1, [], 1, 0),
  (52, .isub, [], 0, 0), (53, .iastore, [], 0, 0), (54, .goto 48, [70], 0, 0), (57, .iload_n 1, [], 0, 0), (58, .bipush (-2), [], (-2), 0), (60, .if_icmp .ne 16, [51], 0, 0),
  (63, .aload_n 0, [], 0, 0), (64, .getfield 23, [6, 6, 727], 0, 0), (67, .iconst 1, [], 1, 0), (68, .dup2, [], 0, 0), (69, .iaload, [], 0, 0), (70, .iconst 1, [], 1, 0),
  (71, .isub, [], 0, 0), (72, .iastore, [], 0, 0), (73, .goto 29, [70], 0, 0), (76, .aload_n 0, [], 0, 0), (77, .getfield 23, [6, 6, 727], 0, 0), (80, .iconst 3, [], 3, 0),
  (81, .iload_n 1, [], 0, 0), (82, .iadd, [], 0, 0), (83, .aload_n 0, [], 0, 0), (84, .getfield 23, [6, 6, 727], 0, 0), (87, .bipush 49, [], 49, 0), (89, .iconst 2, [], 2, 0),
  (90, .aload_n 0, [], 0, 0), (91, .getfield 23, [6, 6, 727], 0, 0), (94, .iconst 2, [], 2, 0), (95, .iaload, [], 0, 0), (96, .imul, [], 0, 0), (97, .iadd, [], 0, 0),
  (98, .iconst 1, [], 1, 0), (99, .iadd, [], 0, 0), (100, .iaload, [], 0, 0), (101, .iastore, [], 0, 0), (102, .aload_n 0, [], 0, 0), (103, .getfield 23, [6, 6, 727], 0, 0),
  (106, .iconst 2, [], 2, 0), (107, .iaload, [], 0, 0), (108, .ireturn, [], 0, 0)]
def am_K154 : List am_E := [(0, .iload_n 1, [], 0, 0), (1, .iconst 0, [], 0, 0), (2, .aload_n 0, [], 0, 0), (3, .getfield 23, [6, 6, 727], 0, 0), (6, .iconst 1, [], 1, 0), (7, .iaload, [], 0, 0),
  (8, .iconst 1, [], 1, 0), (9, .isub, [], 0, 0), (10, .invokestatic 54, [111, 0, 811], 0, 0), (13, .ifCond .eq 28, [26], 0, 0), (16, .iload_n 2, [], 0, 0), (17, .iconst 0, [], 0, 0),
  (18, .iconst 3, [], 3, 0), (19, .invokestatic 54, [111, 0, 811], 0, 0), (22, .ifCond .eq 19, [26], 0, 0), (25, .aload_n 0, [], 0, 0), (26, .getfield 23, [6, 6, 727], 0, 0), (29, .bipush 9, [], 9, 0),
  (31, .iconst 4, [], 4, 0), (32, .iload_n 1, [], 0, 0), (33, .imul, [], 0, 0), (34, .iadd, [], 0, 0), (35, .iload_n 2, [], 0, 0), (36, .iadd, [], 0, 0),
  (37, .iaload, [], 0, 0), (38, .goto 4, [27], 0, 0), (41, .iconst (-1), [], (-1), 0), (42, .ireturn, [], 0, 0)]
def am_K155 : List am_E := [(0, .bipush 9, [], 9, 0), (2, .iconst 4, [], 4, 0), (3, .iload_n 1, [], 0, 0), (4, .imul, [], 0, 0), (5, .iadd, [], 0, 0), (6, .istore_n 2, [], 0, 0),
  (7, .aload_n 0, [], 0, 0), (8, .aload_n 0, [], 0, 0), (9, .getfield 23, [6, 6, 727], 0, 0), (12, .iload_n 2, [], 0, 0), (13, .iconst 3, [], 3, 0), (14, .iadd, [], 0, 0),
  (15, .iaload, [], 0, 0), (16, .aload_n 0, [], 0, 0), (17, .getfield 23, [6, 6, 727], 0, 0), (20, .iload_n 2, [], 0, 0), (21, .iconst 1, [], 1, 0), (22, .iadd, [], 0, 0),
  (23, .iaload, [], 0, 0), (24, .aload_n 0, [], 0, 0), (25, .getfield 23, [6, 6, 727], 0, 0), (28, .iload_n 2, [], 0, 0), (29, .iconst 2, [], 2, 0), (30, .iadd, [], 0, 0),
  (31, .iaload, [], 0, 0), (32, .invokevirtual 153, [134, 0, 914], 0, 0), (35, .ireturn, [], 0, 0)]
def am_K156 : List am_E := [(0, .aload_n 0, [], 0, 0), (1, .invokevirtual 157, [135, 0, 918], 0, 0), (4, .istore_n 1, [], 0, 0), (5, .iconst 0, [], 0, 0), (6, .istore_n 2, [], 0, 0), (7, .iload_n 2, [], 0, 0),
  (8, .aload_n 0, [], 0, 0), (9, .getfield 23, [6, 6, 727], 0, 0), (12, .iconst 1, [], 1, 0), (13, .iaload, [], 0, 0), (14, .if_icmp .ge 19, [21], 0, 0), (17, .iload_n 1, [], 0, 0),
  (18, .aload_n 0, [], 0, 0), (19, .iload_n 2, [], 0, 0), (20, .invokevirtual 194, [155, 0, 990], 0, 0), (23, .iconst (-1), [], (-1), 0), (24, .ixor, [], 0, 0), (25, .iand, [], 0, 0),
  (26, .istore_n 1, [], 0, 0), (27, .iinc 2 1, [], 1, 0), (30, .goto (-23), [5], 0, 0), (33, .iload_n 1, [], 0, 0), (34, .ireturn, [], 0, 0)]
def am_K157 : List am_E := [(0, .aload_n 0, [], 0, 0), (1, .invokevirtual 197, [156, 0, 986], 0, 0), (4, .istore_n 1, [], 0, 0), (5, .iconst 0, [], 0, 0), (6, .istore_n 2, [], 0, 0), (7, .iload_n 2, [], 0, 0),
  (8, .aload_n 0, [], 0, 0), (9, .getfield 58, [6, 2, 723], 0, 0), (12, .if_icmp .ge 57, [38], 0, 0), (15, .iconst 0, [], 0, 0), (16, .istore_n 3, [], 0, 0), (17, .iload_n 3, [], 0, 0),
  (18, .bipush 8, [], 8, 0), (20, .if_icmp .ge 43, [36], 0, 0), (23, .aload_n 0, [], 0, 0), (24, .getfield 23, [6, 6, 727], 0, 0), (27, .iconst 0, [], 0, 0), (28, .iaload, [], 0, 0),
  (29, .istore 4, [], 0, 0), (31, .iload 4, [], 0, 0), (33, .bipush 40, [], 40, 0), (35, .if_icmp .gt 22, [34], 0, 0), (38, .iload_n 1, [], 0, 0), (39, .aload_n 0, [], 0, 0),
  (40, .iload_n 2, [], 0, 0), (41, .iload_n 3, [], 0, 0), (42, .iload 4, [], 0, 0), (44, .invokevirtual 161, [137, 0, 906], 0, 0), (47, .iconst (-1), [], (-1), 0), (48, .ixor, [], 0, 0),
  (49, .iand, [], 0, 0), (50, .istore_n 1, [], 0, 0), (51, .iinc 4 1, [], 1, 0), (54, .goto (-23), [19], 0, 0), (57, .iinc 3 1, [], 1, 0), (60, .goto (-43), [11], 0, 0),
  (63, .iinc 2 1, [], 1, 0), (66, .goto (-59), [5], 0, 0), (69, .iload_n 1, [], 0, 0), (70, .ireturn, [], 0, 0)]
def am_K158 : List am_E := [(0, .iconst 0, [], 0, 0), (1, .istore_n 1, [], 0, 0), (2, .iconst 0, [], 0, 0), (3, .istore_n 2, [], 0, 0), (4, .iload_n 2, [], 0, 0), (5, .aload_n 0, [], 0, 0),
  (6, .getfield 23, [6, 6, 727], 0, 0), (9, .iconst 1, [], 1, 0), (10, .iaload, [], 0, 0), (11, .if_icmp .ge 34, [29], 0, 0), (14, .iload_n 1, [], 0, 0), (15, .aload_n 0, [], 0, 0),
  (16, .iload_n 2, [], 0, 0), (17, .invokevirtual 194, [155, 0, 990], 0, 0), (20, .aload_n 0, [], 0, 0), (21, .invokevirtual 157, [135, 0, 918], 0, 0), (24, .iconst (-1), [], (-1), 0), (25, .ixor, [], 0, 0),
  (26, .iand, [], 0, 0), (27, .ifCond .ne 7, [22], 0, 0), (30, .iconst 0, [], 0, 0), (31, .goto 6, [25], 0, 0), (34, .iconst 1, [], 1, 0), (35, .iload_n 2, [], 0, 0),
  (36, .ishl, [], 0, 0), (37, .ior, [], 0, 0), (38, .istore_n 1, [], 0, 0), (39, .iinc 2 1, [], 1, 0), (42, .goto (-38), [4], 0, 0), (45, .iload_n 1, [], 0, 0),
  (46, .ireturn, [], 0, 0)]
def am_K159 : List am_E := [(0, .iload_n 1, [], 0, 0), (1, .ifCond .ne 10, [5], 0, 0), (4, .aload_n 0, [], 0, 0), (5, .invokevirtual 197, [156, 0, 986], 0, 0), (8, .goto 28, [18], 0, 0), (11, .iload_n 1, [], 0, 0),
  (12, .iconst 1, [], 1, 0), (13, .if_icmp .ne 10, [11], 0, 0), (16, .aload_n 0, [], 0, 0), (17, .invokevirtual 200, [157, 0, 994], 0, 0), (20, .goto 16, [18], 0, 0), (23, .iload_n 1, [], 0, 0),
  (24, .iconst 2, [], 2, 0), (25, .if_icmp .ne 10, [17], 0, 0), (28, .aload_n 0, [], 0, 0), (29, .invokevirtual 203, [158, 0, 998], 0, 0), (32, .goto 4, [18], 0, 0), (35, .iconst (-1), [], (-1), 0),
  (36, .ireturn, [], 0, 0)]
def am_K160 : List am_E := [(0, .aload_n 0, [], 0, 0), (1, .iload_n 1, [], 0, 0), (2, .invokevirtual 130, [113, 0, 864], 0, 0), (5, .ifCond .ne 5, [6], 0, 0), (8, .iconst (-1), [], (-1), 0), (9, .ireturn, [], 0, 0),
  (10, .iconst 0, [], 0, 0), (11, .istore_n 2, [], 0, 0), (12, .iconst 1, [], 1, 0), (13, .istore_n 3, [], 0, 0), (14, .iload_n 3, [], 0, 0), (15, .aload_n 0, [], 0, 0),
  (16, .getfield 7, [6, 0, 721], 0, 0), (19, .if_icmp .ge 30, [29], 0, 0), (22, .aload_n 0, [], 0, 0), (23, .iload_n 1, [], 0, 0), (24, .iload_n 3, [], 0, 0), (25, .invokevirtual 134, [128, 0, 868], 0, 0),
  (28, .aload_n 0, [], 0, 0), (29, .iload_n 1, [], 0, 0), (30, .iload_n 2, [], 0, 0), (31, .invokevirtual 134, [128, 0, 868], 0, 0), (34, .if_icmp .le 7, [25], 0, 0), (37, .iload_n 3, [], 0, 0),
  (38, .goto 4, [26], 0, 0), (41, .iload_n 2, [], 0, 0), (42, .istore_n 2, [], 0, 0), (43, .iinc 3 1, [], 1, 0), (46, .goto (-32), [10], 0, 0), (49, .iload_n 2, [], 0, 0),
  (50, .ireturn, [], 0, 0)]
def am_K161 : List am_E := [(0, .iload 4, [], 0, 0), (2, .aload_n 0, [], 0, 0), (3, .aload_n 0, [], 0, 0), (4, .getfield 23, [6, 6, 727], 0, 0), (7, .iconst 3, [], 3, 0), (8, .iload_n 1, [], 0, 0),
  (9, .iadd, [], 0, 0), (10, .iaload, [], 0, 0), (11, .iload_n 3, [], 0, 0), (12, .invokevirtual 134, [128, 0, 868], 0, 0), (15, .iadd, [], 0, 0), (16, .istore 5, [], 0, 0),
  (18, .aload_n 0, [], 0, 0), (19, .iload_n 1, [], 0, 0), (20, .iload_n 2, [], 0, 0), (21, .iload 5, [], 0, 0), (23, .invokevirtual 150, [136, 0, 910], 0, 0), (26, .ifCond .eq 8, [20], 0, 0),
  (29, .iload 5, [], 0, 0), (31, .goto 5, [21], 0, 0), (34, .bipush (-9), [], (-9), 0), (36, .ireturn, [], 0, 0)]
def am_K162 : List am_E := [(0, .aload_n 0, [], 0, 0), (1, .iload_n 1, [], 0, 0), (2, .invokevirtual 138, [115, 0, 876], 0, 0), (5, .ifCond .eq 26, [14], 0, 0), (8, .iload_n 2, [], 0, 0), (9, .invokestatic 144, [114, 0, 887], 0, 0),
  (12, .ifCond .eq 19, [14], 0, 0), (15, .aload_n 0, [], 0, 0), (16, .iload_n 3, [], 0, 0), (17, .invokevirtual 130, [113, 0, 864], 0, 0), (20, .ifCond .eq 11, [14], 0, 0), (23, .iload 4, [], 0, 0),
  (25, .invokestatic 141, [116, 0, 884], 0, 0), (28, .ifCond .ne 5, [16], 0, 0), (31, .iconst (-1), [], (-1), 0), (32, .ireturn, [], 0, 0), (33, .aload_n 0, [], 0, 0), (34, .iload_n 1, [], 0, 0),
  (35, .iload_n 2, [], 0, 0), (36, .iload_n 3, [], 0, 0), (37, .iload 4, [], 0, 0), (39, .invokevirtual 206, [161, 0, 1010], 0, 0), (42, .ireturn, [], 0, 0)]
def am_K163 : List am_E := [(0, .iload_n 1, [], 0, 0), (1, .invokestatic 144, [114, 0, 887], 0, 0), (4, .ifCond .eq 27, [17], 0, 0), (7, .aload_n 0, [], 0, 0), (8, .iload_n 2, [], 0, 0), (9, .invokevirtual 130, [113, 0, 864], 0, 0),
  (12, .ifCond .eq 19, [17], 0, 0), (15, .iload_n 3, [], 0, 0), (16, .iconst 1, [], 1, 0), (17, .iconst 1, [], 1, 0), (18, .aload_n 0, [], 0, 0), (19, .getfield 58, [6, 2, 723], 0, 0),
  (22, .ishl, [], 0, 0), (23, .iconst 1, [], 1, 0), (24, .isub, [], 0, 0), (25, .invokestatic 54, [111, 0, 811], 0, 0), (28, .ifCond .ne 5, [19], 0, 0), (31, .iconst (-1), [], (-1), 0),
  (32, .ireturn, [], 0, 0), (33, .bipush (-9), [], (-9), 0), (35, .istore 4, [], 0, 0), (37, .bipush 40, [], 40, 0), (39, .istore 5, [], 0, 0), (41, .iload 5, [], 0, 0),
  (43, .ifCond .lt 80, [61], 0, 0), (46, .iconst 1, [], 1, 0), (47, .istore 6, [], 0, 0), (49, .iconst 0, [], 0, 0), (50, .istore 7, [], 0, 0), (52, .iload 7, [], 0, 0),
  (54, .aload_n 0, [], 0, 0), (55, .getfield 58, [6, 2, 723], 0, 0), (58, .if_icmp .ge 45, [53], 0, 0), (61, .iload 6, [], 0, 0), (63, .ifCond .eq 31, [49], 0, 0), (66, .iload_n 3, [], 0, 0),
  (67, .iload 7, [], 0, 0), (69, .invokestatic 105, [112, 0, 857], 0, 0), (72, .ifCond .eq 18, [47], 0, 0), (75, .aload_n 0, [], 0, 0), (76, .iload 7, [], 0, 0), (78, .iload_n 1, [], 0, 0),
  (79, .iload_n 2, [], 0, 0), (80, .iload 5, [], 0, 0), (82, .invokevirtual 206, [161, 0, 1010], 0, 0), (85, .bipush (-9), [], (-9), 0), (87, .if_icmp .eq 7, [49], 0, 0), (90, .iconst 1, [], 1, 0),
  (91, .goto 4, [50], 0, 0), (94, .iconst 0, [], 0, 0), (95, .istore 6, [], 0, 0), (97, .iinc 7 1, [], 1, 0), (100, .goto (-48), [29], 0, 0), (103, .iload 6, [], 0, 0),
  (105, .ifCond .eq 8, [57], 0, 0), (108, .iload 5, [], 0, 0), (110, .goto 5, [58], 0, 0), (113, .iload 4, [], 0, 0), (115, .istore 4, [], 0, 0), (117, .iinc 5 (-1), [], (-1), 0),
  (120, .goto (-79), [23], 0, 0), (123, .iload 4, [], 0, 0), (125, .ireturn, [], 0, 0)]
def am_K164 : List am_E := [(0, .iload_n 1, [], 0, 0), (1, .iconst 0, [], 0, 0), (2, .ldc 210, [1026], 999999, 0), (4, .invokestatic 54, [111, 0, 811], 0, 0), (7, .istore_n 2, [], 0, 0), (8, .iload_n 1, [], 0, 0),
  (9, .istore_n 3, [], 0, 0), (10, .iload_n 3, [], 0, 0), (11, .ifCond .le 34, [27], 0, 0), (14, .iload_n 2, [], 0, 0), (15, .ifCond .eq 20, [20], 0, 0), (18, .iload_n 3, [], 0, 0),
  (19, .bipush 10, [], 10, 0), (21, .irem, [], 0, 0), (22, .iconst 1, [], 1, 0), (23, .bipush 8, [], 8, 0), (25, .invokestatic 54, [111, 0, 811], 0, 0), (28, .ifCond .eq 7, [20], 0, 0),
  (31, .iconst 1, [], 1, 0), (32, .goto 4, [21], 0, 0), (35, .iconst 0, [], 0, 0), (36, .istore_n 2, [], 0, 0), (37, .iload_n 3, [], 0, 0), (38, .bipush 10, [], 10, 0),
  (40, .idiv, [], 0, 0), (41, .istore_n 3, [], 0, 0), (42, .goto (-32), [7], 0, 0), (45, .iload_n 2, [], 0, 0), (46, .ireturn, [], 0, 0)]
def am_K165 : List am_E := [(0, .aload_n 0, [], 0, 0), (1, .iload_n 1, [], 0, 0), (2, .invokevirtual 211, [164, 0, 1022], 0, 0), (5, .ifCond .eq 18, [11], 0, 0), (8, .aload_n 0, [], 0, 0), (9, .iload_n 2, [], 0, 0),
  (10, .invokevirtual 130, [113, 0, 864], 0, 0), (13, .ifCond .eq 10, [11], 0, 0), (16, .iload_n 3, [], 0, 0), (17, .invokestatic 141, [116, 0, 884], 0, 0), (20, .ifCond .ne 5, [13], 0, 0), (23, .iconst (-1), [], (-1), 0),
  (24, .ireturn, [], 0, 0), (25, .iconst 0, [], 0, 0), (26, .istore 4, [], 0, 0), (28, .iload_n 1, [], 0, 0), (29, .istore 5, [], 0, 0), (31, .iload 5, [], 0, 0),
  (33, .ifCond .le 16, [25], 0, 0), (36, .iinc 4 1, [], 1, 0), (39, .iload 5, [], 0, 0), (41, .bipush 10, [], 10, 0), (43, .idiv, [], 0, 0), (44, .istore 5, [], 0, 0),
  (46, .goto (-15), [17], 0, 0), (49, .iconst 1, [], 1, 0), (50, .istore 5, [], 0, 0), (52, .iload_n 1, [], 0, 0), (53, .istore 6, [], 0, 0), (55, .iload 4, [], 0, 0),
  (57, .iconst 1, [], 1, 0), (58, .isub, [], 0, 0), (59, .istore 7, [], 0, 0), (61, .iload 7, [], 0, 0), (63, .ifCond .lt 77, [75], 0, 0), (66, .iconst 0, [], 0, 0),
  (67, .istore 8, [], 0, 0), (69, .iconst 0, [], 0, 0), (70, .istore 9, [], 0, 0), (72, .iload 9, [], 0, 0), (74, .aload_n 0, [], 0, 0), (75, .getfield 58, [6, 2, 723], 0, 0),
  (78, .if_icmp .ge 42, [65], 0, 0), (81, .iload 8, [], 0, 0), (83, .aload_n 0, [], 0, 0), (84, .iload 9, [], 0, 0), (86, .iload 6, [], 0, 0), (88, .bipush 10, [], 10, 0),
  (90, .irem, [], 0, 0), (91, .iconst 1, [], 1, 0), (92, .isub, [], 0, 0), (93, .iload_n 2, [], 0, 0), (94, .iload_n 3, [], 0, 0), (95, .iload 7, [], 0, 0),
  (97, .iadd, [], 0, 0), (98, .invokevirtual 206, [161, 0, 1010], 0, 0), (101, .bipush (-9), [], (-9), 0), (103, .if_icmp .ne 7, [60], 0, 0), (106, .iconst 0, [], 0, 0), (107, .goto 4, [61], 0, 0),
  (110, .iconst 1, [], 1, 0), (111, .iadd, [], 0, 0), (112, .istore 8, [], 0, 0), (114, .iinc 9 1, [], 1, 0), (117, .goto (-45), [39], 0, 0), (120, .iload 5, [], 0, 0),
  (122, .iload 8, [], 0, 0), (124, .imul, [], 0, 0), (125, .istore 5, [], 0, 0), (127, .iload 6, [], 0, 0), (129, .bipush 10, [], 10, 0), (131, .idiv, [], 0, 0),
  (132, .istore 6, [], 0, 0), (134, .iinc 7 (-1), [], (-1), 0), (137, .goto (-76), [33], 0, 0), (140, .iload 5, [], 0, 0), (142, .ireturn, [], 0, 0)]
def am_K166 : List am_E := [(0, .aload_n 0, [], 0, 0), (1, .iload_n 1, [], 0, 0), (2, .invokevirtual 130, [113, 0, 864], 0, 0), (5, .ifCond .eq 10, [7], 0, 0), (8, .iload_n 2, [], 0, 0), (9, .invokestatic 144, [114, 0, 887], 0, 0),
  (12, .ifCond .ne 5, [9], 0, 0), (15, .iconst (-1), [], (-1), 0), (16, .ireturn, [], 0, 0), (17, .iconst 0, [], 0, 0), (18, .istore_n 3, [], 0, 0), (19, .iconst 0, [], 0, 0),
  (20, .istore 4, [], 0, 0), (22, .iload 4, [], 0, 0), (24, .bipush 40, [], 40, 0), (26, .if_icmp .gt 110, [73], 0, 0), (29, .aload_n 0, [], 0, 0), (30, .iload_n 1, [], 0, 0),
  (31, .iload_n 2, [], 0, 0), (32, .iload 4, [], 0, 0), (34, .invokevirtual 153, [134, 0, 914], 0, 0), (37, .aload_n 0, [], 0, 0), (38, .invokevirtual 157, [135, 0, 918], 0, 0), (41, .iconst (-1), [], (-1), 0),
  (42, .ixor, [], 0, 0), (43, .iand, [], 0, 0), (44, .ifCond .ne 7, [29], 0, 0), (47, .iconst 1, [], 1, 0), (48, .goto 4, [30], 0, 0), (51, .iconst 0, [], 0, 0),
  (52, .istore 5, [], 0, 0), (54, .iconst 0, [], 0, 0), (55, .istore 6, [], 0, 0), (57, .iconst 0, [], 0, 0), (58, .istore 7, [], 0, 0), (60, .iload 7, [], 0, 0),
  (62, .aload_n 0, [], 0, 0), (63, .getfield 58, [6, 2, 723], 0, 0), (66, .if_icmp .ge 51, [63], 0, 0), (69, .iload 6, [], 0, 0), (71, .ifCond .ne 33, [57], 0, 0), (74, .iload 5, [], 0, 0),
  (76, .ifCond .eq 32, [59], 0, 0), (79, .aload_n 0, [], 0, 0), (80, .getfield 23, [6, 6, 727], 0, 0), (83, .iconst 3, [], 3, 0), (84, .iload 7, [], 0, 0), (86, .iadd, [], 0, 0),
  (87, .iaload, [], 0, 0), (88, .iload_n 1, [], 0, 0), (89, .if_icmp .ne 19, [59], 0, 0), (92, .aload_n 0, [], 0, 0), (93, .iload 7, [], 0, 0), (95, .iload_n 2, [], 0, 0),
  (96, .iload 4, [], 0, 0), (98, .invokevirtual 150, [136, 0, 910], 0, 0), (101, .ifCond .eq 7, [59], 0, 0), (104, .iconst 1, [], 1, 0), (105, .goto 4, [60], 0, 0), (108, .iconst 0, [], 0, 0),
  (109, .istore 6, [], 0, 0), (111, .iinc 7 1, [], 1, 0), (114, .goto (-54), [35], 0, 0), (117, .iload_n 3, [], 0, 0), (118, .iload 6, [], 0, 0), (120, .ifCond .eq 7, [68], 0, 0),
  (123, .iconst 0, [], 0, 0), (124, .goto 4, [69], 0, 0), (127, .iconst 1, [], 1, 0), (128, .iadd, [], 0, 0), (129, .istore_n 3, [], 0, 0), (130, .iinc 4 1, [], 1, 0),
  (133, .goto (-111), [13], 0, 0), (136, .iload_n 3, [], 0, 0), (137, .ireturn, [], 0, 0)]
def am_K167 : List am_E := [(0, .aload_n 0, [], 0, 0), (1, .dup, [], 0, 0), (2, .getfield 214, [6, 9, 730], 0, 0), (5, .lconst 1, [], 0, 1), (6, .ladd, [], 0, 0), (7, .putfield 214, [6, 9, 730], 0, 0),
  (10, .iload_n 1, [], 0, 0), (11, .ireturn, [], 0, 0)]
def am_K168 : List am_E := [(0, .aload_n 0, [], 0, 0), (1, .dup, [], 0, 0), (2, .getfield 214, [6, 9, 730], 0, 0), (5, .ldc2_w 217, [1044], 0, 10), (8, .ladd, [], 0, 0), (9, .putfield 214, [6, 9, 730], 0, 0),
  (12, .iconst 0, [], 0, 0), (13, .istore_n 2, [], 0, 0), (14, .iconst 0, [], 0, 0), (15, .istore_n 3, [], 0, 0), (16, .iload_n 3, [], 0, 0), (17, .aload_n 0, [], 0, 0),
  (18, .getfield 58, [6, 2, 723], 0, 0), (21, .if_icmp .ge 34, [33], 0, 0), (24, .iload_n 2, [], 0, 0), (25, .aload_n 0, [], 0, 0), (26, .getfield 17, [6, 3, 724], 0, 0), (29, .iconst 4, [], 4, 0),
  (30, .iload_n 3, [], 0, 0), (31, .imul, [], 0, 0), (32, .iconst 1, [], 1, 0), (33, .iadd, [], 0, 0), (34, .iaload, [], 0, 0), (35, .iload_n 1, [], 0, 0),
  (36, .invokestatic 105, [112, 0, 857], 0, 0), (39, .ifCond .eq 7, [28], 0, 0), (42, .iconst 1, [], 1, 0), (43, .goto 4, [29], 0, 0), (46, .iconst 0, [], 0, 0), (47, .iadd, [], 0, 0),
  (48, .istore_n 2, [], 0, 0), (49, .iinc 3 1, [], 1, 0), (52, .goto (-36), [10], 0, 0), (55, .aload_n 0, [], 0, 0), (56, .iload_n 1, [], 0, 0), (57, .invokevirtual 219, [167, 0, 1036], 0, 0),
  (60, .iload_n 2, [], 0, 0), (61, .iadd, [], 0, 0), (62, .ireturn, [], 0, 0)]
def am_K169 : List am_E := [(0, .aload_n 0, [], 0, 0), (1, .dup, [], 0, 0), (2, .getfield 214, [6, 9, 730], 0, 0), (5, .ldc2_w 222, [1049], 0, 100), (8, .ladd, [], 0, 0), (9, .putfield 214, [6, 9, 730], 0, 0),
  (12, .iconst 0, [], 0, 0), (13, .istore_n 2, [], 0, 0), (14, .iconst 0, [], 0, 0), (15, .istore_n 3, [], 0, 0), (16, .iload_n 3, [], 0, 0), (17, .aload_n 0, [], 0, 0),
  (18, .getfield 127, [6, 4, 725], 0, 0), (21, .if_icmp .ge 39, [36], 0, 0), (24, .iload_n 2, [], 0, 0), (25, .aload_n 0, [], 0, 0), (26, .getfield 20, [6, 5, 726], 0, 0), (29, .iconst 4, [], 4, 0),
  (30, .iload_n 3, [], 0, 0), (31, .imul, [], 0, 0), (32, .iconst 2, [], 2, 0), (33, .iadd, [], 0, 0), (34, .iaload, [], 0, 0), (35, .iload_n 1, [], 0, 0),
  (36, .if_icmp .ne 15, [31], 0, 0), (39, .aload_n 0, [], 0, 0), (40, .iload_n 3, [], 0, 0), (41, .invokevirtual 147, [133, 0, 902], 0, 0), (44, .ifCond .eq 7, [31], 0, 0), (47, .iconst 1, [], 1, 0),
  (48, .goto 4, [32], 0, 0), (51, .iconst 0, [], 0, 0), (52, .iadd, [], 0, 0), (53, .istore_n 2, [], 0, 0), (54, .iinc 3 1, [], 1, 0), (57, .goto (-41), [10], 0, 0),
  (60, .aload_n 0, [], 0, 0), (61, .iload_n 1, [], 0, 0), (62, .invokevirtual 219, [167, 0, 1036], 0, 0), (65, .iload_n 2, [], 0, 0), (66, .isub, [], 0, 0), (67, .ireturn, [], 0, 0)]
def am_K170 : List am_E := [(0, .aload_n 0, [], 0, 0), (1, .dup, [], 0, 0), (2, .getfield 214, [6, 9, 730], 0, 0), (5, .ldc2_w 224, [1055], 0, 10000), (8, .ladd, [], 0, 0), (9, .putfield 214, [6, 9, 730], 0, 0),
  (12, .iconst 0, [], 0, 0), (13, .istore_n 2, [], 0, 0), (14, .iconst 0, [], 0, 0), (15, .istore_n 3, [], 0, 0), (16, .iload_n 3, [], 0, 0), (17, .aload_n 0, [], 0, 0),
  (18, .getfield 23, [6, 6, 727], 0, 0), (21, .iconst 1, [], 1, 0), (22, .iaload, [], 0, 0), (23, .if_icmp .ge 34, [36], 0, 0), (26, .iload_n 2, [], 0, 0), (27, .aload_n 0, [], 0, 0),
  (28, .getfield 23, [6, 6, 727], 0, 0), (31, .bipush 9, [], 9, 0), (33, .iconst 4, [], 4, 0), (34, .iload_n 3, [], 0, 0), (35, .imul, [], 0, 0), (36, .iadd, [], 0, 0),
  (37, .iconst 1, [], 1, 0), (38, .iadd, [], 0, 0), (39, .iaload, [], 0, 0), (40, .iload_n 1, [], 0, 0), (41, .if_icmp .ne 7, [31], 0, 0), (44, .iconst 1, [], 1, 0),
  (45, .goto 4, [32], 0, 0), (48, .iconst 0, [], 0, 0), (49, .iadd, [], 0, 0), (50, .istore_n 2, [], 0, 0), (51, .iinc 3 1, [], 1, 0), (54, .goto (-38), [10], 0, 0),
  (57, .aload_n 0, [], 0, 0), (58, .iload_n 1, [], 0, 0), (59, .invokevirtual 226, [169, 0, 1045], 0, 0), (62, .iload_n 2, [], 0, 0), (63, .iadd, [], 0, 0), (64, .ireturn, [], 0, 0)]
def am_K171 : List am_E := [(0, .iload_n 1, [], 0, 0), (1, .iconst 0, [], 0, 0), (2, .iconst 5, [], 5, 0), (3, .invokestatic 54, [111, 0, 811], 0, 0), (6, .ifCond .eq 10, [8], 0, 0), (9, .iload_n 2, [], 0, 0),
  (10, .invokestatic 144, [114, 0, 887], 0, 0), (13, .ifCond .ne 6, [10], 0, 0), (16, .ldc 229, [1035], (-1000000), 0), (18, .ireturn, [], 0, 0), (19, .iload_n 1, [], 0, 0), (20, .tableswitch 80 0 4 #[36, 42, 48, 54, 74], [36, 40, 12, 16, 20, 24, 36], 0, 0),
  (56, .aload_n 0, [], 0, 0), (57, .iload_n 2, [], 0, 0), (58, .invokevirtual 219, [167, 0, 1036], 0, 0), (61, .ireturn, [], 0, 0), (62, .aload_n 0, [], 0, 0), (63, .iload_n 2, [], 0, 0),
  (64, .invokevirtual 230, [168, 0, 1040], 0, 0), (67, .ireturn, [], 0, 0), (68, .aload_n 0, [], 0, 0), (69, .iload_n 2, [], 0, 0), (70, .invokevirtual 226, [169, 0, 1045], 0, 0), (73, .ireturn, [], 0, 0),
  (74, .aload_n 0, [], 0, 0), (75, .dup, [], 0, 0), (76, .getfield 214, [6, 9, 730], 0, 0), (79, .ldc2_w 233, [1050], 0, 1000), (82, .ladd, [], 0, 0), (83, .putfield 214, [6, 9, 730], 0, 0),
  (86, .iconst 2, [], 2, 0), (87, .aload_n 0, [], 0, 0), (88, .iload_n 2, [], 0, 0), (89, .invokevirtual 230, [168, 0, 1040], 0, 0), (92, .imul, [], 0, 0), (93, .ireturn, [], 0, 0),
  (94, .aload_n 0, [], 0, 0), (95, .iload_n 2, [], 0, 0), (96, .invokevirtual 235, [170, 0, 1051], 0, 0), (99, .ireturn, [], 0, 0), (100, .aload_n 0, [], 0, 0), (101, .dup, [], 0, 0),
  (102, .getfield 214, [6, 9, 730], 0, 0), (105, .ldc2_w 238, [1056], 0, 100000), (108, .ladd, [], 0, 0), (109, .putfield 214, [6, 9, 730], 0, 0), (112, .aload_n 0, [], 0, 0), (113, .iload_n 2, [], 0, 0),
  (114, .invokevirtual 219, [167, 0, 1036], 0, 0), (117, .aload_n 0, [], 0, 0), (118, .getfield 23, [6, 6, 727], 0, 0), (121, .iconst 0, [], 0, 0), (122, .iaload, [], 0, 0), (123, .iadd, [], 0, 0),
  (124, .ireturn, [], 0, 0)]
def am_K172 : List am_E := [(0, .iload_n 1, [], 0, 0), (1, .iconst 0, [], 0, 0), (2, .iconst 1, [], 1, 0), (3, .invokestatic 54, [111, 0, 811], 0, 0), (6, .ifCond .ne 5, [7], 0, 0), (9, .iconst (-1), [], (-1), 0),
  (10, .ireturn, [], 0, 0), (11, .iconst 0, [], 0, 0), (12, .istore_n 2, [], 0, 0), (13, .iload_n 2, [], 0, 0), (14, .bipush 69, [], 69, 0), (16, .if_icmp .ge 26, [26], 0, 0),
  (19, .aload_n 0, [], 0, 0), (20, .getfield 26, [6, 7, 728], 0, 0), (23, .bipush 69, [], 69, 0), (25, .iload_n 1, [], 0, 0), (26, .imul, [], 0, 0), (27, .iload_n 2, [], 0, 0),
  (28, .iadd, [], 0, 0), (29, .aload_n 0, [], 0, 0), (30, .getfield 23, [6, 6, 727], 0, 0), (33, .iload_n 2, [], 0, 0), (34, .iaload, [], 0, 0), (35, .iastore, [], 0, 0),
  (36, .iinc 2 1, [], 1, 0), (39, .goto (-26), [9], 0, 0), (42, .aload_n 0, [], 0, 0), (43, .getfield 29, [6, 8, 729], 0, 0), (46, .iload_n 1, [], 0, 0), (47, .iconst 1, [], 1, 0),
  (48, .bastore, [], 0, 0), (49, .aload_n 0, [], 0, 0), (50, .getfield 23, [6, 6, 727], 0, 0), (53, .iconst 0, [], 0, 0), (54, .iaload, [], 0, 0), (55, .ireturn, [], 0, 0)]
def am_K173 : List am_E := [(0, .iload_n 1, [], 0, 0), (1, .iconst 0, [], 0, 0), (2, .iconst 1, [], 1, 0), (3, .invokestatic 54, [111, 0, 811], 0, 0), (6, .ifCond .ne 5, [7], 0, 0), (9, .iconst (-1), [], (-1), 0),
  (10, .ireturn, [], 0, 0), (11, .aload_n 0, [], 0, 0), (12, .getfield 29, [6, 8, 729], 0, 0), (15, .iload_n 1, [], 0, 0), (16, .baload, [], 0, 0), (17, .ifCond .ne 6, [14], 0, 0),
  (20, .bipush (-2), [], (-2), 0), (22, .ireturn, [], 0, 0), (23, .iconst 0, [], 0, 0), (24, .istore_n 2, [], 0, 0), (25, .iload_n 2, [], 0, 0), (26, .bipush 69, [], 69, 0),
  (28, .if_icmp .ge 26, [33], 0, 0), (31, .aload_n 0, [], 0, 0), (32, .getfield 23, [6, 6, 727], 0, 0), (35, .iload_n 2, [], 0, 0), (36, .aload_n 0, [], 0, 0), (37, .getfield 26, [6, 7, 728], 0, 0),
  (40, .bipush 69, [], 69, 0), (42, .iload_n 1, [], 0, 0), (43, .imul, [], 0, 0), (44, .iload_n 2, [], 0, 0), (45, .iadd, [], 0, 0), (46, .iaload, [], 0, 0),
  (47, .iastore, [], 0, 0), (48, .iinc 2 1, [], 1, 0), (51, .goto (-26), [16], 0, 0), (54, .aload_n 0, [], 0, 0), (55, .getfield 23, [6, 6, 727], 0, 0), (58, .iconst 0, [], 0, 0),
  (59, .iaload, [], 0, 0), (60, .ireturn, [], 0, 0)]
def am_K174 : List am_E := [(0, .iload_n 1, [], 0, 0), (1, .tableswitch 84 0 6 #[43, 48, 53, 58, 65, 72, 79], [43, 29, 2, 5, 8, 11, 16, 21, 26], 0, 0), (44, .aload_n 0, [], 0, 0), (45, .getfield 7, [6, 0, 721], 0, 0), (48, .ireturn, [], 0, 0), (49, .aload_n 0, [], 0, 0),
  (50, .getfield 58, [6, 2, 723], 0, 0), (53, .ireturn, [], 0, 0), (54, .aload_n 0, [], 0, 0), (55, .getfield 127, [6, 4, 725], 0, 0), (58, .ireturn, [], 0, 0), (59, .aload_n 0, [], 0, 0),
  (60, .getfield 23, [6, 6, 727], 0, 0), (63, .iconst 0, [], 0, 0), (64, .iaload, [], 0, 0), (65, .ireturn, [], 0, 0), (66, .aload_n 0, [], 0, 0), (67, .getfield 23, [6, 6, 727], 0, 0),
  (70, .iconst 1, [], 1, 0), (71, .iaload, [], 0, 0), (72, .ireturn, [], 0, 0), (73, .aload_n 0, [], 0, 0), (74, .getfield 23, [6, 6, 727], 0, 0), (77, .iconst 2, [], 2, 0),
  (78, .iaload, [], 0, 0), (79, .ireturn, [], 0, 0), (80, .aload_n 0, [], 0, 0), (81, .getfield 61, [6, 11, 732], 0, 0), (84, .ireturn, [], 0, 0), (85, .iconst (-1), [], (-1), 0),
  (86, .ireturn, [], 0, 0)]
def am_K175 : List am_E := [(0, .aload_n 0, [], 0, 0), (1, .getfield 214, [6, 9, 730], 0, 0), (4, .lreturn, [], 0, 0)]
def am_K176 : List am_E := [(0, .iload_n 0, [], 0, 0), (1, .iload_n 0, [], 0, 0), (2, .iconst 1, [], 1, 0), (3, .iushr, [], 0, 0), (4, .ldc_w 265, [632], 1431655765, 0), (7, .iand, [], 0, 0),
  (8, .isub, [], 0, 0), (9, .istore_n 0, [], 0, 0), (10, .iload_n 0, [], 0, 0), (11, .ldc_w 266, [633], 858993459, 0), (14, .iand, [], 0, 0), (15, .iload_n 0, [], 0, 0),
  (16, .iconst 2, [], 2, 0), (17, .iushr, [], 0, 0), (18, .ldc_w 266, [633], 858993459, 0), (21, .iand, [], 0, 0), (22, .iadd, [], 0, 0), (23, .istore_n 0, [], 0, 0),
  (24, .iload_n 0, [], 0, 0), (25, .iload_n 0, [], 0, 0), (26, .iconst 4, [], 4, 0), (27, .iushr, [], 0, 0), (28, .iadd, [], 0, 0), (29, .ldc_w 267, [634], 252645135, 0),
  (32, .iand, [], 0, 0), (33, .istore_n 0, [], 0, 0), (34, .iload_n 0, [], 0, 0), (35, .iload_n 0, [], 0, 0), (36, .bipush 8, [], 8, 0), (38, .iushr, [], 0, 0),
  (39, .iadd, [], 0, 0), (40, .istore_n 0, [], 0, 0), (41, .iload_n 0, [], 0, 0), (42, .iload_n 0, [], 0, 0), (43, .bipush 16, [], 16, 0), (45, .iushr, [], 0, 0),
  (46, .iadd, [], 0, 0), (47, .istore_n 0, [], 0, 0), (48, .iload_n 0, [], 0, 0), (49, .bipush 63, [], 63, 0), (51, .iand, [], 0, 0), (52, .ireturn, [], 0, 0)]
def am_K177 : List am_E := [(0, .iload_n 0, [], 0, 0), (1, .iload_n 1, [], 0, 0), (2, .if_icmp .lt 7, [5], 0, 0), (5, .iload_n 0, [], 0, 0), (6, .goto 4, [6], 0, 0), (9, .iload_n 1, [], 0, 0),
  (10, .ireturn, [], 0, 0)]
def am_K178 : List am_E := [(0, .iload_n 0, [], 0, 0), (1, .iload_n 1, [], 0, 0), (2, .if_icmp .gt 7, [5], 0, 0), (5, .iload_n 0, [], 0, 0), (6, .goto 4, [6], 0, 0), (9, .iload_n 1, [], 0, 0),
  (10, .ireturn, [], 0, 0)]
def am_CL : List (List am_E) := [am_K0, am_K1, am_K2, am_K3, am_K4, am_K5, am_K6, am_K7, am_K8, am_K9, am_K10, am_K11, am_K12, am_K13, am_K14, am_K15, am_K16, am_K17, am_K18, am_K19, am_K20, am_K21, am_K22, am_K23, am_K24, am_K25, am_K26, am_K27, am_K28, am_K29, am_K30, am_K31, am_K32, am_K33, am_K34, am_K35, am_K36, am_K37, am_K38, am_K39, am_K40, am_K41, am_K42, am_K43, am_K44, am_K45, am_K46, am_K47, am_K48, am_K49, am_K50, am_K51, am_K52, am_K53, am_K54, am_K55, am_K56, am_K57, am_K58, am_K59, am_K60, am_K61, am_K62, am_K63, am_K64, am_K65, am_K66, am_K67, am_K68, am_K69, am_K70, am_K71, am_K72, am_K73, am_K74, am_K75, am_K76, am_K77, am_K78, am_K79, am_K80, am_K81, am_K82, am_K83, am_K84, am_K85, am_K86, am_K87, am_K88, am_K89, am_K90, am_K91, am_K92, am_K93, am_K94, am_K95, am_K96, am_K97, am_K98, am_K99, am_K100, am_K101, am_K102, am_K103, am_K104, am_K105, am_K106, am_K107, am_K108, am_K109, am_K110, am_K111, am_K112, am_K113, am_K114, am_K115, am_K116, am_K117, am_K118, am_K119, am_K120, am_K121, am_K122, am_K123, am_K124, am_K125, am_K126, am_K127, am_K128, am_K129, am_K130, am_K131, am_K132, am_K133, am_K134, am_K135, am_K136, am_K137, am_K138, am_K139, am_K140, am_K141, am_K142, am_K143, am_K144, am_K145, am_K146, am_K147, am_K148, am_K149, am_K150, am_K151, am_K152, am_K153, am_K154, am_K155, am_K156, am_K157, am_K158, am_K159, am_K160, am_K161, am_K162, am_K163, am_K164, am_K165, am_K166, am_K167, am_K168, am_K169, am_K170, am_K171, am_K172, am_K173, am_K174, am_K175, am_K176, am_K177, am_K178]
def am_code (mi : Nat) : List am_E := (am_CL[mi]?).getD []
def am_YL : List am_Y := [(RL, yL_law, cL_law, 4, (some .boolean), 1, 0, 0, 9, 328, [0, 0, 0, 0]),
  (RX0, yX0_init, cX0_init, 1, none, 1, 2, 0, 1, 20, [187, 186, 0, 71]),
  (RX0, yX0_startIn, cX0_startIn, 2, none, 2, 1, 0, 2, 34, [373, 371, 372, 71]),
  (RX0, yX0_copyFrom, cX0_copyFrom, 2, none, 2, 1, 0, 2, 34, [702, 700, 701, 71]),
  (RX0, yX0_placeOf, cX0_placeOf, 2, (some .int), 2, 1, 0, 2, 33, [398, 396, 397, 71]),
  (RX0, yX0_passSecond, cX0_passSecond, 1, none, 1, 1, 0, 4, 76, [545, 543, 544, 71]),
  (RX0, yX0_addDone, cX0_addDone, 3, none, 3, 1, 0, 4, 76, [562, 560, 561, 71]),
  (RX0, yX0_move, cX0_move, 3, none, 3, 1, 0, 4, 76, [570, 568, 569, 71]),
  (RX0, yX0_remember, cX0_remember, 3, none, 3, 1, 0, 3, 54, [549, 548, 18, 71]),
  (RX0, yX0_loseOldest, cX0_loseOldest, 2, none, 1, 1, 0, 1, 12, [553, 552, 19, 71]),
  (RX0, yX0_takeBack, cX0_takeBack, 3, none, 1, 1, 0, 2, 33, [578, 576, 577, 71]),
  (RX0, yX0_timesDone, cX0_timesDone, 4, (some .int), 2, 1, 0, 2, 33, [685, 683, 684, 71]),
  (RX1, yX1_init, cX1_init, 1, none, 1, 2, 1, 1, 20, [237, 236, 0, 72]),
  (RX1, yX1_empty, cX1_empty, 1, none, 1, 1, 1, 1, 12, [472, 470, 471, 72]),
  (RX1, yX1_addGoal, cX1_addGoal, 2, (some .int), 1, 1, 1, 1, 12, [476, 474, 475, 72]),
  (RX1, yX1_addDeed, cX1_addDeed, 5, none, 3, 1, 1, 2, 33, [483, 481, 482, 72]),
  (RX1, yX1_solve, cX1_solve, 5, none, 3, 1, 1, 3, 58, [488, 486, 487, 72]),
  (RX1, yX1_letIn, cX1_letIn, 6, none, 2, 1, 1, 2, 33, [492, 491, 14, 72]),
  (RX1, yX1_seenGoals, cX1_seenGoals, 1, (some .int), 1, 1, 1, 2, 33, [503, 502, 15, 72]),
  (RX1, yX1_areThere, cX1_areThere, 1, (some .boolean), 1, 1, 1, 3, 53, [499, 497, 498, 72]),
  (RX1, yX1_sizeOfEach, cX1_sizeOfEach, 1, (some .int), 1, 1, 1, 3, 53, [510, 508, 509, 72]),
  (RX1, yX1_howMany, cX1_howMany, 1, (some .long), 1, 1, 1, 3, 53, [514, 512, 513, 72]),
  (RX1, yX1_numberInFirst, cX1_numberInFirst, 6, (some .int), 2, 1, 1, 3, 53, [526, 524, 525, 72]),
  (RX2, yX2_init, cX2_init, 1, none, 1, 2, 2, 1, 20, [161, 160, 0, 70]),
  (RX2, yX2_has, cX2_has, 2, (some .boolean), 2, 1, 2, 1, 12, [421, 419, 420, 70]),
  (RX2, yX2_add, cX2_add, 5, none, 5, 1, 2, 1, 12, [409, 407, 408, 70]),
  (RX2, yX2_isHeard, cX2_isHeard, 2, (some .boolean), 2, 1, 2, 2, 33, [425, 423, 424, 70]),
  (RX2, yX2_timesHeard, cX2_timesHeard, 4, (some .int), 2, 1, 2, 3, 54, [670, 668, 669, 70]),
  (RX3, yX3_init, cX3_init, 1, none, 1, 2, 3, 3, 54, [88, 87, 0, 68]),
  (RX3, yX3_add, cX3_add, 2, none, 2, 1, 3, 1, 12, [297, 295, 296, 68]),
  (RX3, yX3_read, cX3_read, 2, (some .int), 1, 1, 3, 6, 121, [309, 307, 308, 68]),
  (RX3, yX3_readItem, cX3_readItem, 2, (some .boolean), 2, 1, 3, 5, 100, [327, 326, 1, 68]),
  (RX3, yX3_readPlaces, cX3_readPlaces, 1, (some .boolean), 1, 1, 3, 4, 76, [331, 330, 2, 68]),
  (RX3, yX3_readFar, cX3_readFar, 3, (some .boolean), 1, 1, 3, 4, 76, [343, 342, 5, 68]),
  (RX3, yX3_readPerson, cX3_readPerson, 5, (some .boolean), 1, 1, 3, 4, 76, [351, 350, 6, 68]),
  (RX3, yX3_readSounds, cX3_readSounds, 3, (some .int), 1, 1, 3, 3, 54, [355, 354, 7, 68]),
  (RX3, yX3_stepToNumber, cX3_stepToNumber, 3, (some .boolean), 3, 1, 3, 3, 54, [335, 334, 3, 68]),
  (RX3, yX3_stepToStop, cX3_stepToStop, 1, (some .boolean), 1, 1, 3, 3, 54, [339, 338, 4, 68]),
  (RX3, yX3_step, cX3_step, 1, none, 1, 1, 3, 2, 34, [314, 313, 0, 68]),
  (RX3, yX3_kindOf, cX3_kindOf, 1, (some .int), 1, 0, 3, 1, 12, [320, 319, 0, 68]),
  (RX3, yX3_valueOf, cX3_valueOf, 3, (some .int), 3, 0, 3, 1, 12, [323, 322, 0, 68]),
  (RX4, yX4_init, cX4_init, 1, none, 1, 2, 4, 2, 34, [94, 93, 0, 69]),
  (RX4, yX4_becomeAsAtFirst, cX4_becomeAsAtFirst, 3, none, 1, 1, 4, 1, 12, [99, 97, 98, 69]),
  (RX4, yX4_copyFrom, cX4_copyFrom, 2, none, 2, 1, 4, 2, 34, [366, 364, 365, 69]),
  (RX4, yX4_isPlace, cX4_isPlace, 2, (some .boolean), 2, 1, 4, 1, 12, [382, 380, 381, 69]),
  (RX4, yX4_isPerson, cX4_isPerson, 2, (some .boolean), 2, 1, 4, 1, 12, [394, 392, 393, 69]),
  (RX4, yX4_secondsBetween, cX4_secondsBetween, 4, (some .int), 3, 1, 4, 1, 12, [386, 384, 385, 69]),
  (RX4, yX4_setBetween, cX4_setBetween, 4, none, 4, 1, 4, 1, 12, [347, 345, 346, 69]),
  (RX4, yX4_addPerson, cX4_addPerson, 5, none, 5, 1, 4, 1, 12, [362, 360, 361, 69]),
  (RX4, yX4_canMake, cX4_canMake, 3, (some .boolean), 3, 1, 4, 2, 33, [442, 440, 441, 69]),
  (RX4, yX4_isThere, cX4_isThere, 3, (some .boolean), 3, 1, 4, 2, 33, [448, 446, 447, 69]),
  (RX4, yX4_howManyCan, cX4_howManyCan, 4, (some .int), 2, 1, 4, 3, 55, [660, 658, 659, 69]),
  (RX5, yX5_init, cX5_init, 1, none, 1, 2, 5, 4, 74, [80, 79, 0, 67]),
  (RX5, yX5_type, cX5_type, 2, (some .int), 2, 1, 5, 2, 33, [290, 288, 289, 67]),
  (RX5, yX5_clear, cX5_clear, 2, (some .int), 1, 1, 5, 1, 12, [301, 299, 300, 67]),
  (RX5, yX5_valley, cX5_valley, 2, (some .int), 1, 1, 5, 7, 142, [305, 303, 304, 67]),
  (RX5, yX5_far, cX5_far, 3, (some .int), 3, 1, 5, 2, 35, [378, 376, 377, 67]),
  (RX5, yX5_person, cX5_person, 3, (some .int), 3, 1, 5, 3, 54, [390, 388, 389, 67]),
  (RX5, yX5_heard, cX5_heard, 5, (some .int), 5, 1, 5, 3, 53, [404, 402, 403, 67]),
  (RX5, yX5_forget, cX5_forget, 2, (some .int), 1, 1, 5, 1, 12, [413, 411, 412, 67]),
  (RX5, yX5_who, cX5_who, 2, (some .int), 2, 1, 5, 6, 132, [417, 415, 416, 67]),
  (RX5, yX5_nobody, cX5_nobody, 2, (some .int), 1, 1, 5, 6, 132, [460, 458, 459, 67]),
  (RX5, yX5_deeds, cX5_deeds, 2, (some .int), 2, 1, 5, 6, 131, [464, 462, 463, 67]),
  (RX5, yX5_first, cX5_first, 2, (some .int), 2, 1, 5, 6, 131, [522, 520, 521, 67]),
  (RX5, yX5_odds, cX5_odds, 10, (some .int), 4, 1, 5, 6, 133, [530, 528, 529, 67]),
  (RX5, yX5_second, cX5_second, 1, (some .int), 1, 1, 5, 5, 96, [541, 539, 540, 67]),
  (RX5, yX5_makes, cX5_makes, 3, (some .int), 3, 1, 5, 5, 98, [558, 556, 557, 67]),
  (RX5, yX5_moves, cX5_moves, 4, (some .int), 3, 1, 5, 5, 98, [566, 564, 565, 67]),
  (RX5, yX5_undo, cX5_undo, 1, (some .int), 1, 1, 5, 3, 55, [574, 572, 573, 67]),
  (RX5, yX5_done, cX5_done, 3, (some .int), 3, 1, 5, 2, 33, [582, 580, 581, 67]),
  (RX5, yX5_now, cX5_now, 2, (some .int), 2, 1, 5, 7, 155, [586, 584, 585, 67]),
  (RX5, yX5_sit, cX5_sit, 4, (some .int), 2, 1, 5, 2, 35, [606, 604, 605, 67]),
  (RX5, yX5_begin, cX5_begin, 5, (some .int), 5, 1, 5, 4, 80, [610, 608, 609, 67]),
  (RX5, yX5_together, cX5_together, 5, (some .int), 4, 1, 5, 5, 105, [614, 612, 613, 67]),
  (RX5, yX5_played, cX5_played, 7, (some .int), 4, 1, 5, 5, 105, [622, 620, 621, 67]),
  (RX5, yX5_sure, cX5_sure, 5, (some .int), 3, 1, 5, 4, 83, [638, 636, 637, 67]),
  (RX5, yX5_mark, cX5_mark, 3, (some .int), 3, 1, 5, 6, 120, [646, 644, 645, 67]),
  (RX5, yX5_keep, cX5_keep, 3, (some .int), 2, 1, 5, 3, 55, [694, 692, 693, 67]),
  (RX5, yX5_back, cX5_back, 3, (some .int), 2, 1, 5, 3, 55, [706, 704, 705, 67]),
  (RX5, yX5_count, cX5_count, 2, (some .int), 2, 1, 5, 1, 12, [710, 708, 709, 67]),
  (RX5, yX5_trace, cX5_trace, 1, (some .long), 1, 1, 5, 1, 12, [714, 712, 713, 67]),
  (RX5, yX5_isWithin, cX5_isWithin, 2, (some .boolean), 2, 0, 5, 1, 12, [293, 292, 0, 67]),
  (RX5, yX5_isSound, cX5_isSound, 1, (some .boolean), 1, 0, 5, 2, 33, [358, 357, 0, 67]),
  (RX5, yX5_at, cX5_at, 2, (some .int), 2, 0, 5, 1, 12, [317, 316, 0, 67]),
  (RX5, yX5_copyRow, cX5_copyRow, 3, none, 2, 0, 5, 1, 12, [369, 368, 0, 67]),
  (RX5, yX5_isRowOfSounds, cX5_isRowOfSounds, 3, (some .boolean), 1, 0, 5, 3, 53, [625, 624, 0, 67]),
  (RX5, yX5_figuresOf, cX5_figuresOf, 4, (some .int), 1, 0, 5, 1, 12, [628, 627, 0, 67]),
  (RX5, yX5_greatestDivisor, cX5_greatestDivisor, 11, (some .long), 2, 0, 5, 1, 12, [537, 536, 0, 67]),
  (RX5, yX5_imageOf, cX5_imageOf, 2, (some (.object "EchoesFirst$Course")), 2, 1, 5, 1, 12, [698, 697, 32, 67]),
  (RX5, yX5_secondToBegin, cX5_secondToBegin, 6, (some .int), 5, 1, 5, 3, 55, [438, 437, 10, 67]),
  (RX5, yX5_playersOf, cX5_playersOf, 6, (some .int), 4, 1, 5, 4, 80, [618, 617, 24, 67]),
  (RX5, yX5_reaches, cX5_reaches, 5, (some .boolean), 5, 1, 5, 2, 35, [456, 455, 12, 67]),
  (RX5, yX5_isAgainstStill, cX5_isAgainstStill, 5, (some .boolean), 4, 1, 5, 3, 59, [452, 451, 11, 67]),
  (RX5, yX5_someoneCould, cX5_someoneCould, 5, (some .boolean), 4, 1, 5, 3, 55, [642, 641, 25, 67]),
  (RX5, yX5_secondToMake, cX5_secondToMake, 5, (some .int), 3, 1, 5, 4, 83, [434, 433, 9, 67]),
  (RX5, yX5_makersOf, cX5_makersOf, 6, (some .int), 3, 1, 5, 5, 107, [430, 429, 8, 67]),
  (RX5, yX5_findSets, cX5_findSets, 5, none, 1, 1, 5, 5, 107, [468, 467, 13, 67]),
  (RX5, yX5_numberOf, cX5_numberOf, 3, (some .int), 3, 0, 5, 1, 12, [479, 478, 0, 67]),
  (RX5, yX5_peopleInEachSet, cX5_peopleInEachSet, 4, (some .int), 1, 1, 5, 4, 82, [518, 517, 16, 67]),
  (RX5, yX5_setsInWhichHeMakes, cX5_setsInWhichHeMakes, 7, (some .long), 3, 1, 5, 5, 107, [534, 533, 17, 67]),
  (RX5, yX5_isMadeByDone, cX5_isMadeByDone, 3, (some .boolean), 2, 1, 5, 3, 59, [594, 593, 21, 67]),
  (RX5, yX5_dueBits, cX5_dueBits, 3, (some .int), 1, 1, 5, 4, 81, [590, 589, 20, 67]),
  (RX5, yX5_pastBits, cX5_pastBits, 4, (some .int), 1, 1, 5, 6, 132, [598, 597, 22, 67]),
  (RX5, yX5_lieBits, cX5_lieBits, 3, (some .int), 1, 1, 5, 4, 83, [602, 601, 23, 67]),
  (RX5, yX5_markOfSound, cX5_markOfSound, 2, (some .int), 2, 1, 5, 1, 12, [656, 655, 27, 67]),
  (RX5, yX5_markOfShout, cX5_markOfShout, 2, (some .int), 2, 1, 5, 4, 78, [651, 650, 26, 67]),
  (RX5, yX5_markOfFall, cX5_markOfFall, 2, (some .int), 2, 1, 5, 4, 77, [665, 664, 28, 67]),
  (RX5, yX5_markOfName, cX5_markOfName, 2, (some .int), 2, 1, 5, 5, 99, [675, 674, 29, 67]),
  (RX5, yX5_markOfShot, cX5_markOfShot, 2, (some .int), 2, 1, 5, 5, 98, [680, 679, 30, 67]),
  (RX5, yX5_markOfBell, cX5_markOfBell, 2, (some .int), 2, 1, 5, 2, 33, [689, 688, 31, 67]),
  (RX6, yX6_init, cX6_init, 2, none, 1, 2, 6, 1, 20, [719, 718, 0, 73]),
  (RX6, yX6_in, cX6_in, 3, (some .boolean), 3, 0, 6, 1, 12, [813, 812, 0, 73]),
  (RX6, yX6_has, cX6_has, 2, (some .boolean), 2, 0, 6, 1, 12, [859, 858, 0, 73]),
  (RX6, yX6_isPlace, cX6_isPlace, 2, (some .boolean), 2, 1, 6, 2, 34, [867, 866, 41, 73]),
  (RX6, yX6_isSound, cX6_isSound, 1, (some .boolean), 1, 0, 6, 2, 34, [889, 888, 0, 73]),
  (RX6, yX6_isPerson, cX6_isPerson, 2, (some .boolean), 2, 1, 6, 2, 34, [879, 878, 43, 73]),
  (RX6, yX6_isSecond, cX6_isSecond, 1, (some .boolean), 1, 0, 6, 2, 34, [886, 885, 0, 73]),
  (RX6, yX6_type, cX6_type, 2, (some .int), 2, 1, 6, 2, 34, [810, 808, 809, 73]),
  (RX6, yX6_clear, cX6_clear, 2, (some .int), 1, 1, 6, 1, 12, [817, 815, 816, 73]),
  (RX6, yX6_byteAt, cX6_byteAt, 2, (some .int), 2, 1, 6, 1, 12, [829, 828, 34, 73]),
  (RX6, yX6_next, cX6_next, 2, none, 1, 1, 6, 2, 34, [825, 824, 33, 73]),
  (RX6, yX6_must, cX6_must, 2, none, 2, 1, 6, 3, 55, [842, 841, 37, 73]),
  (RX6, yX6_readInto, cX6_readInto, 6, (some .int), 5, 1, 6, 4, 76, [846, 845, 38, 73]),
  (RX6, yX6_readPlaces, cX6_readPlaces, 2, none, 2, 1, 6, 5, 101, [838, 837, 36, 73]),
  (RX6, yX6_readFar, cX6_readFar, 1, none, 1, 1, 6, 5, 101, [851, 850, 39, 73]),
  (RX6, yX6_readPerson, cX6_readPerson, 6, none, 1, 1, 6, 5, 101, [856, 855, 40, 73]),
  (RX6, yX6_readItem, cX6_readItem, 4, none, 2, 1, 6, 6, 126, [833, 832, 35, 73]),
  (RX6, yX6_valley, cX6_valley, 3, (some .int), 1, 1, 6, 7, 149, [821, 819, 820, 73]),
  (RX6, yX6_farOf, cX6_farOf, 3, (some .int), 3, 1, 6, 1, 12, [871, 870, 42, 73]),
  (RX6, yX6_far, cX6_far, 3, (some .int), 3, 1, 6, 3, 55, [863, 861, 862, 73]),
  (RX6, yX6_person, cX6_person, 3, (some .int), 3, 1, 6, 3, 55, [875, 873, 874, 73]),
  (RX6, yX6_heard, cX6_heard, 5, (some .int), 5, 1, 6, 3, 55, [883, 881, 882, 73]),
  (RX6, yX6_forget, cX6_forget, 2, (some .int), 1, 1, 6, 1, 12, [893, 891, 892, 73]),
  (RX6, yX6_isHeard, cX6_isHeard, 2, (some .boolean), 2, 1, 6, 1, 12, [905, 904, 45, 73]),
  (RX6, yX6_fits, cX6_fits, 7, (some .int), 4, 1, 6, 2, 34, [917, 916, 48, 73]),
  (RX6, yX6_allHeard, cX6_allHeard, 3, (some .int), 1, 1, 6, 2, 33, [921, 920, 49, 73]),
  (RX6, yX6_can, cX6_can, 4, (some .boolean), 4, 1, 6, 2, 34, [913, 912, 47, 73]),
  (RX6, yX6_makesOf, cX6_makesOf, 5, (some .int), 4, 1, 6, 3, 60, [909, 908, 46, 73]),
  (RX6, yX6_whoOf, cX6_whoOf, 5, (some .int), 2, 1, 6, 4, 84, [901, 900, 44, 73]),
  (RX6, yX6_who, cX6_who, 2, (some .int), 2, 1, 6, 5, 108, [897, 895, 896, 73]),
  (RX6, yX6_nobody, cX6_nobody, 3, (some .int), 1, 1, 6, 5, 108, [925, 923, 924, 73]),
  (RX6, yX6_findDeeds, cX6_findDeeds, 5, none, 1, 1, 6, 4, 84, [937, 936, 51, 73]),
  (RX6, yX6_findWays, cX6_findWays, 8, none, 4, 1, 6, 1, 12, [941, 940, 52, 73]),
  (RX6, yX6_findLeast, cX6_findLeast, 2, (some .boolean), 1, 1, 6, 5, 108, [933, 932, 50, 73]),
  (RX6, yX6_waysWithout, cX6_waysWithout, 3, (some .int), 3, 1, 6, 3, 55, [945, 944, 53, 73]),
  (RX6, yX6_deeds, cX6_deeds, 4, (some .int), 2, 1, 6, 6, 129, [929, 927, 928, 73]),
  (RX6, yX6_goesOn, cX6_goesOn, 7, (some .boolean), 4, 1, 6, 3, 55, [953, 952, 54, 73]),
  (RX6, yX6_first, cX6_first, 6, (some .int), 2, 1, 6, 6, 129, [949, 947, 948, 73]),
  (RX6, yX6_odds, cX6_odds, 9, (some .int), 4, 1, 6, 6, 129, [957, 955, 956, 73]),
  (RX6, yX6_knows, cX6_knows, 4, none, 3, 1, 6, 1, 12, [965, 964, 55, 73]),
  (RX6, yX6_second, cX6_second, 1, (some .int), 1, 1, 6, 2, 35, [961, 959, 960, 73]),
  (RX6, yX6_makes, cX6_makes, 4, (some .int), 3, 1, 6, 3, 57, [969, 967, 968, 73]),
  (RX6, yX6_moves, cX6_moves, 4, (some .int), 3, 1, 6, 3, 55, [973, 971, 972, 73]),
  (RX6, yX6_undo, cX6_undo, 2, (some .int), 1, 1, 6, 1, 12, [977, 975, 976, 73]),
  (RX6, yX6_done, cX6_done, 3, (some .int), 3, 1, 6, 2, 34, [981, 979, 980, 73]),
  (RX6, yX6_fitsOf, cX6_fitsOf, 3, (some .int), 2, 1, 6, 3, 60, [993, 992, 57, 73]),
  (RX6, yX6_due, cX6_due, 3, (some .int), 1, 1, 6, 4, 82, [989, 988, 56, 73]),
  (RX6, yX6_past, cX6_past, 5, (some .int), 1, 1, 6, 5, 104, [997, 996, 58, 73]),
  (RX6, yX6_lies, cX6_lies, 3, (some .int), 1, 1, 6, 4, 82, [1001, 1000, 59, 73]),
  (RX6, yX6_now, cX6_now, 2, (some .int), 2, 1, 6, 6, 128, [985, 983, 984, 73]),
  (RX6, yX6_sit, cX6_sit, 4, (some .int), 2, 1, 6, 3, 55, [1005, 1003, 1004, 73]),
  (RX6, yX6_beginOf, cX6_beginOf, 6, (some .int), 5, 1, 6, 3, 57, [1013, 1012, 60, 73]),
  (RX6, yX6_begin, cX6_begin, 5, (some .int), 5, 1, 6, 4, 82, [1009, 1007, 1008, 73]),
  (RX6, yX6_together, cX6_together, 8, (some .int), 4, 1, 6, 4, 82, [1017, 1015, 1016, 73]),
  (RX6, yX6_isRow, cX6_isRow, 4, (some .boolean), 2, 1, 6, 2, 34, [1025, 1024, 61, 73]),
  (RX6, yX6_played, cX6_played, 10, (some .int), 4, 1, 6, 4, 82, [1021, 1019, 1020, 73]),
  (RX6, yX6_sure, cX6_sure, 8, (some .int), 3, 1, 6, 3, 60, [1030, 1028, 1029, 73]),
  (RX6, yX6_soundMark, cX6_soundMark, 2, (some .int), 2, 1, 6, 1, 12, [1039, 1038, 62, 73]),
  (RX6, yX6_shoutMark, cX6_shoutMark, 4, (some .int), 2, 1, 6, 2, 33, [1043, 1042, 63, 73]),
  (RX6, yX6_fallMark, cX6_fallMark, 4, (some .int), 2, 1, 6, 2, 33, [1048, 1047, 64, 73]),
  (RX6, yX6_shotMark, cX6_shotMark, 4, (some .int), 2, 1, 6, 3, 56, [1054, 1053, 65, 73]),
  (RX6, yX6_mark, cX6_mark, 3, (some .int), 3, 1, 6, 4, 79, [1034, 1032, 1033, 73]),
  (RX6, yX6_keep, cX6_keep, 3, (some .int), 2, 1, 6, 2, 34, [1060, 1058, 1059, 73]),
  (RX6, yX6_back, cX6_back, 3, (some .int), 2, 1, 6, 2, 34, [1064, 1062, 1063, 73]),
  (RX6, yX6_count, cX6_count, 2, (some .int), 2, 1, 6, 1, 12, [1068, 1066, 1067, 73]),
  (RX6, yX6_trace, cX6_trace, 1, (some .long), 1, 1, 6, 1, 12, [1072, 1070, 1071, 73]),
  (RJ6, yJ6_bitCount_0f7a4, cJ6_bitCount_0f7a4, 1, (some .int), 1, 0, 0, 1, 12, [631, 630, 0, 75]),
  (RJ9, yJ9_max_7cf53, cJ9_max_7cf53, 2, (some .int), 2, 0, 0, 1, 12, [506, 505, 0, 74]),
  (RJ9, yJ9_min_7cf53, cJ9_min_7cf53, 2, (some .int), 2, 0, 0, 1, 12, [495, 494, 0, 74])]
def am_meth (mi : Nat) : am_Y := (am_YL[mi]?).getD (RL, yL_law, cL_law, 0, none, 0, 0, 0, 0, 0, [])
def am_g (K : List am_E) (i : Nat) : Nat := match K[i]? with
  | some e => e.1
  | none => 0
def am_il (ins : Instr) : Nat := match ins with
  | .bipush _ => 2
  | .sipush _ => 3
  | .ldc _ => 2
  | .ldc_w _ => 3
  | .ldc2_w _ => 3
  | .iload _ => 2
  | .lload _ => 2
  | .istore _ => 2
  | .lstore _ => 2
  | .iinc _ _ => 3
  | .goto _ => 3
  | .ifCond _ _ => 3
  | .if_icmp _ _ => 3
  | .getfield _ => 3
  | .putfield _ => 3
  | .new _ => 3
  | .newarray _ => 2
  | .invokestatic _ => 3
  | .invokevirtual _ => 3
  | .invokespecial _ => 3
  | _ => 1
def am_lok (pc : Nat) (K : List am_E) : List (Int × Int) → List Nat → Bool
  | [], _ => true
  | (_, o) :: ps, t :: ts => decide ((pc : Int) + o = (am_g K t : Int)) && am_lok pc K ps ts
  | _ :: _, [] => false
/-- where it goes on -/
def am_flow (K : List am_E) (i : Nat) (e : am_E) : Bool := match e.2.1 with
  | .goto off => decide ((e.1 : Int) + off = (am_g K (e.2.2.1.headD 0) : Int))
  | .ifCond _ off => decide ((e.1 : Int) + off = (am_g K (e.2.2.1.headD 0) : Int)) && decide (am_g K (i + 1) = e.1 + 3)
  | .if_icmp _ off => decide ((e.1 : Int) + off = (am_g K (e.2.2.1.headD 0) : Int)) && decide (am_g K (i + 1) = e.1 + 3)
  | .tableswitch dflt lo hi offs => decide ((e.1 : Int) + dflt = (am_g K (e.2.2.1.getD 1 0) : Int)) && (List.range (hi - lo + 1).toNat).all (fun j => match offs[j]? with
    | some o => decide ((e.1 : Int) + o = (am_g K (e.2.2.1.getD (2 + j) 0) : Int))
    | none => false)
  | .lookupswitch dflt ps => (ps.toList.zip (ps.toList.drop 1)).all (fun (a, next) => a.1 < next.1) && decide ((e.1 : Int) + dflt = (am_g K (e.2.2.1.getD 1 0) : Int)) && am_lok e.1 K ps.toList (e.2.2.1.drop 2)
  | .ireturn => true
  | .lreturn => true
  | .areturn => true
  | .return_ => true
  | ins => decide (am_g K (i + 1) = e.1 + am_il ins)
def am_has (p : Nat) (w : Cond) : Bool := decide (lw_tbl[p]? = some w) && goodWord w
/-- the words that it links by -/
def am_wrd (mi : Nat) (e : am_E) : Bool := match e.2.1 with
  | .iconst n => decide (Int32.ofInt n = e.2.2.2.1)
  | .bipush n => decide ((Int8.ofInt n).toInt32 = e.2.2.2.1)
  | .sipush n => decide ((Int16.ofInt n).toInt32 = e.2.2.2.1)
  | .iinc _ n => decide (Int32.ofInt n = e.2.2.2.1)
  | .lconst n => decide (Int64.ofNat (n : Nat) = e.2.2.2.2)
  | .ldc ix => am_has (e.2.2.1.headD 0) (.constant (am_meth mi).1 ix e.2.2.2.1)
  | .ldc_w ix => am_has (e.2.2.1.headD 0) (.constant (am_meth mi).1 ix e.2.2.2.1)
  | .ldc2_w ix => am_has (e.2.2.1.headD 0) (.constantLong (am_meth mi).1 ix e.2.2.2.2)
  | .getfield ix => (match vwCl[e.2.2.1.getD 0 0]? with
    | some q => decide (e.2.2.1.getD 1 0 < q.2.2) && am_has (e.2.2.1.getD 2 0) (.fieldLink (am_meth mi).1 ix (q.2.1 (e.2.2.1.getD 1 0)).1 (q.2.1 (e.2.2.1.getD 1 0)).2.1 (q.2.1 (e.2.2.1.getD 1 0)).2.2.1)
    | none => false)
  | .putfield ix => (match vwCl[e.2.2.1.getD 0 0]? with
    | some q => decide (e.2.2.1.getD 1 0 < q.2.2) && am_has (e.2.2.1.getD 2 0) (.fieldLink (am_meth mi).1 ix (q.2.1 (e.2.2.1.getD 1 0)).1 (q.2.1 (e.2.2.1.getD 1 0)).2.1 (q.2.1 (e.2.2.1.getD 1 0)).2.2.1) && (!(q.2.1 (e.2.2.1.getD 1 0)).2.2.2 || (decide ((am_meth mi).2.1.name = "<init>") && decide ((q.2.1 (e.2.2.1.getD 1 0)).1 = (am_meth mi).1)))
    | none => false)
  | .new ix => (match vwCl[e.2.2.1.getD 0 0]? with
    | some q => decide (q.2.2 = e.2.2.1.getD 1 0) && am_has (e.2.2.1.getD 2 0) (.classLink (am_meth mi).1 ix q.1) && am_has (e.2.2.1.getD 3 0) (.instantiable q.1 q.2.2) && am_has (e.2.2.1.getD 4 0) (.initialized q.1)
    | none => false)
  | .newarray t => am_has (e.2.2.1.headD 0) (.arrayClass (newarray.typeOf t))
  | .invokespecial ix => if e.2.2.1.headD 0 = 9999 then am_has (e.2.2.1.getD 2 0) (.methodLink (am_meth mi).1 ix objectInit) && am_has (e.2.2.1.getD 3 0) (.instanceMethod objectInit) && am_has (e.2.2.1.getD 4 0) (.code objectInit ⟨#[0xb1]⟩ 1 none) && decide (1 ≤ (am_meth mi).2.2.2.2.2.2.2.2.1) && decide (12 ≤ (am_meth mi).2.2.2.2.2.2.2.2.2.1)
    else decide ((am_meth (e.2.2.1.headD 0)).2.2.2.2.2.2.1 = 2) && decide (e.2.2.1.getD 1 0 = 0) && am_has (e.2.2.1.getD 2 0) (.methodLink (am_meth mi).1 ix (am_meth (e.2.2.1.headD 0)).2.1)
  | .invokevirtual ix => decide ((am_meth (e.2.2.1.headD 0)).2.2.2.2.2.2.1 = 1) && decide (e.2.2.1.getD 1 0 = 0) && am_has (e.2.2.1.getD 2 0) (.methodLink (am_meth mi).1 ix (am_meth (e.2.2.1.headD 0)).2.1)
  | .invokestatic ix => decide ((am_meth (e.2.2.1.headD 0)).2.2.2.2.2.2.1 = 0) && (if e.2.2.1.getD 1 0 = 0 then am_has (e.2.2.1.getD 2 0) (.methodLink (am_meth mi).1 ix (am_meth (e.2.2.1.headD 0)).2.1) else decide (am_nest[e.2.2.1.getD 2 0]? = some (.methodLinkNest (am_meth mi).1 ix (am_meth (e.2.2.1.headD 0)).2.1 "EchoesFirst")))
  | _ => true
/-- a call's method is one of the table, and its room -/
def am_rm (mi : Nat) (e : am_E) : Bool := if am_kind e.2.1 e.2.2.1 = 2 then decide (1 ≤ e.2.2.1.headD 0) && decide (e.2.2.1.headD 0 < am_YL.length) && decide ((am_meth (e.2.2.1.headD 0)).2.2.2.2.2.2.2.2.1 + 1 ≤ (am_meth mi).2.2.2.2.2.2.2.2.1) && decide (8 + ((am_meth (e.2.2.1.headD 0)).2.2.2.1 + 11) + (am_meth (e.2.2.1.headD 0)).2.2.2.2.2.2.2.2.2.1 ≤ (am_meth mi).2.2.2.2.2.2.2.2.2.1) else true
def am_dec (mi : Nat) (e : am_E) : Bool := decide (decode (am_meth mi).2.2.1 e.1 = .ok (e.2.1, match e.2.1 with
  | .tableswitch .. => e.2.2.1.headD 0
  | .lookupswitch .. => e.2.2.1.headD 0
  | ins => am_il ins))
def am_ck (mi : Nat) (i : Nat) : Bool := match (am_code mi)[i]? with
  | some e => am_flow (am_code mi) i e && am_wrd mi e && am_rm mi e
  | none => true
/-- a method's own words -/
def am_yk (mi : Nat) : Bool := match am_meth mi with
  | (own, y, bytes, maxL, ret, n, kind, ci, _, _, ps) => decide (own = y.cls) && decide (am_g (am_code mi) 0 = 0) && decide (y.cls ≠ "java/lang/invoke/MethodHandle") && decide (y.cls ≠ "java/lang/invoke/VarHandle") && plainName y.cls && am_has (ps.getD 0 0) (.code y bytes maxL ret) && am_has (ps.getD 3 0) (.initialized y.cls) && (match kind with
    | 0 => am_has (ps.getD 1 0) (.static y) && decide ((parseMethodDescriptor y.desc).map (fun d => d.parameters.length) = some n)
    | 1 => am_has (ps.getD 1 0) (.instanceMethod y) && am_has (ps.getD 2 0) (.selects y.cls y y) && decide ((parseMethodDescriptor y.desc).map (fun d => d.parameters.length + 1) = some n) && decide ((vwCl[ci]?).map (fun q => q.1) = some y.cls)
    | 2 => am_has (ps.getD 1 0) (.instanceMethod y) && decide (y.name = "<init>") && decide (ret = none) && decide ((parseMethodDescriptor y.desc).map (fun d => d.parameters.length + 1) = some n) && decide ((vwCl[ci]?).map (fun q => q.1) = some y.cls)
    | _ => false)
def am_dk (mi : Nat) (i : Nat) : Bool := match (am_code mi)[i]? with
  | some e => am_dec mi e
  | none => true
set_option maxRecDepth 100000 in
theorem am_n_in : am_nest.all (fun w => decide (w ∈ lw_tbl)) = true := by decide +kernel
set_option maxRecDepth 100000 in
theorem am_lay0 : (List.range 12).all (fun j => am_has ([208, 210, 212, 214, 216, 218, 220, 222, 224, 226, 228, 230].getD j 0) (u_lay RX0 TX0 j)) = true := by decide +kernel
set_option maxRecDepth 100000 in
theorem am_lay1 : (List.range 7).all (fun j => am_has ([246, 248, 250, 252, 254, 256, 258].getD j 0) (u_lay RX1 TX1 j)) = true := by decide +kernel
set_option maxRecDepth 100000 in
theorem am_lay2 : (List.range 5).all (fun j => am_has ([172, 174, 176, 178, 180].getD j 0) (u_lay RX2 TX2 j)) = true := by decide +kernel
set_option maxRecDepth 100000 in
theorem am_lay3 : (List.range 7).all (fun j => am_has ([140, 142, 144, 146, 148, 150, 152].getD j 0) (u_lay RX3 TX3 j)) = true := by decide +kernel
set_option maxRecDepth 100000 in
theorem am_lay4 : (List.range 7).all (fun j => am_has ([115, 117, 119, 121, 123, 125, 127].getD j 0) (u_lay RX4 TX4 j)) = true := by decide +kernel
set_option maxRecDepth 100000 in
theorem am_lay5 : (List.range 8).all (fun j => am_has ([270, 272, 274, 276, 278, 280, 282, 284].getD j 0) (u_lay RX5 TX5 j)) = true := by decide +kernel
set_option maxRecDepth 100000 in
theorem am_lay6 : (List.range 28).all (fun j => am_has ([749, 751, 753, 755, 757, 759, 761, 763, 765, 767, 769, 771, 773, 775, 777, 779, 781, 783, 785, 787, 789, 791, 793, 795, 797, 799, 801, 803].getD j 0) (u_lay RX6 TX6 j)) = true := by decide +kernel
end
section
def am_good (mi : Nat) : Prop := ∀ (i : Nat) (e : am_E), (am_code mi)[i]? = some e → am_flow (am_code mi) i e = true ∧ am_wrd mi e = true ∧ am_rm mi e = true ∧ am_dec mi e = true
theorem am_g_ok : ∀ mi, mi < 179 → am_good mi := sorry
theorem am_y_ok : ∀ mi, mi < 177 → (mi = 0 ∨ am_yk mi = true) := sorry
end
section
/-! ===== ONE STEP of the little machine is one of the big one ===== -/
def am_ad (sb b k : Nat) : Nat := if k = 0 then sb else b + k
def am_cv (sb b : Nat) (v : Value) : Value := match v with
  | .ref k => .ref (am_ad sb b k)
  | v => v
theorem am_cv_cat (sb b : Nat) (v : Value) : (am_cv sb b v).category = v.category := by cases v <;> rfl
def am_lk (ls : List Value) (i : Nat) (v : Value) : Bool := match v with
  | .int _ => true
  | .ref _ => true
  | .long _ => decide (ls[i + 1]? = some .null)
  | _ => false
def am_la (sb b : Nat) (ls : List Value) : List (Nat × Value) := (List.range ls.length).filterMap (fun i => (ls[i]?).bind (fun v => if am_lk ls i v = true then some (i, am_cv sb b v) else none))
theorem am_la_m {sb b : Nat} {ls : List Value} {q : Nat × Value} : q ∈ am_la sb b ls ↔ ∃ v, ls[q.1]? = some v ∧ am_lk ls q.1 v = true ∧ q.2 = am_cv sb b v := by
  unfold am_la
  rw [List.mem_filterMap]
  constructor
  · rintro ⟨i, hi, h⟩
    cases hv : ls[i]? with
    | none => rw [hv] at h; cases h
    | some v =>
      rw [hv] at h
      simp only [Option.bind_some] at h
      split at h
      · cases h
        exact ⟨v, hv, by assumption, rfl⟩
      · cases h
  · rintro ⟨v, h1, h2, h3⟩
    refine ⟨q.1, List.mem_range.mpr (List.getElem?_eq_some_iff.mp h1).1, ?_⟩
    rw [h1]
    simp only [Option.bind_some]
    rw [if_pos h2, ← h3]
def am_L (sb b : Nat) (ls : List Value) (nL : Nat) (la : Array Slot) : Prop := ls.length = nL ∧ lv_has la nL (am_la sb b ls)
theorem am_L.at {sb b nL : Nat} {ls : List Value} {la : Array Slot} (h : am_L sb b ls nL la) {i : Nat} {v : Value} (hv : ls[i]? = some v) (hk : am_lk ls i v = true) : la[i]? = some (.val (am_cv sb b v)) :=
  h.2.2.2 (i, am_cv sb b v) (am_la_m.mpr ⟨v, hv, hk, rfl⟩)
theorem am_set1 {sb b nL k : Nat} {ls : List Value} {la : Array Slot} {v : Value} (h : lv_has la nL ((k, am_cv sb b v) :: (am_la sb b ls).filter (fun q => !(q.1 == k) && !(q.1 + 1 == k && q.2.category == 2)))) (hv : v ≠ .null) (hk : k < ls.length) : lv_has la nL (am_la sb b (ls.set k v)) := by
  refine ⟨h.1, h.2.1, fun q hq => h.2.2 q ?_⟩
  obtain ⟨w, h1, h2, h3⟩ := am_la_m.mp hq
  by_cases e : q.1 = k
  · rw [e, List.getElem?_set_self hk] at h1
    cases h1
    exact List.mem_cons.mpr (Or.inl (Prod.ext e h3))
  · rw [List.getElem?_set_ne (Ne.symm e)] at h1
    have key : am_lk ls q.1 w = true ∧ ¬ (q.1 + 1 = k ∧ w.category = 2) := by
      cases w with
      | long x =>
        have h2' : (ls.set k v)[q.1 + 1]? = some .null := of_decide_eq_true h2
        by_cases e2 : q.1 + 1 = k
        · rw [e2, List.getElem?_set_self hk] at h2'
          cases h2'
          exact absurd rfl hv
        · rw [List.getElem?_set_ne (Ne.symm e2)] at h2'
          exact ⟨decide_eq_true h2', fun z => e2 z.1⟩
      | int x => exact ⟨rfl, fun z => by have := z.2; simp [Value.category] at this⟩
      | ref x => exact ⟨rfl, fun z => by have := z.2; simp [Value.category] at this⟩
      | _ => cases h2
    refine List.mem_cons_of_mem _ (List.mem_filter.mpr ⟨am_la_m.mpr ⟨w, h1, key.1, h3⟩, ?_⟩)
    have hc : q.2.category = w.category := by rw [h3, am_cv_cat]
    have k2 := key.2
    rw [← hc] at k2
    simp only [Bool.and_eq_true, Bool.not_eq_true', beq_eq_false_iff_ne, ne_eq, e, not_false_eq_true, true_and]
    cases hz : (q.1 + 1 == k && q.2.category == 2) with
    | false => rfl
    | true =>
      simp only [Bool.and_eq_true, beq_iff_eq] at hz
      exact absurd hz k2
theorem am_set2 {sb b nL k : Nat} {ls : List Value} {la : Array Slot} {x : Int64} (h : lv_has la nL ((k, .long x) :: (am_la sb b ls).filter (fun q => !(q.1 == k) && (!(q.1 == k + 1) && !(q.1 + 1 == k && q.2.category == 2))))) (hk : k + 1 < ls.length) : lv_has la nL (am_la sb b ((ls.set k (.long x)).set (k + 1) .null)) := by
  refine ⟨h.1, h.2.1, fun q hq => h.2.2 q ?_⟩
  obtain ⟨w, h1, h2, h3⟩ := am_la_m.mp hq
  by_cases e1 : q.1 = k + 1
  · rw [e1, List.getElem?_set_self (by simpa using hk)] at h1
    cases h1
    cases h2
  · rw [List.getElem?_set_ne (Ne.symm e1)] at h1
    by_cases e : q.1 = k
    · rw [e, List.getElem?_set_self (by omega)] at h1
      cases h1
      exact List.mem_cons.mpr (Or.inl (Prod.ext e h3))
    · rw [List.getElem?_set_ne (Ne.symm e)] at h1
      have key : am_lk ls q.1 w = true ∧ ¬ (q.1 + 1 = k ∧ w.category = 2) := by
        cases w with
        | long y =>
          have h2' : ((ls.set k (.long x)).set (k + 1) .null)[q.1 + 1]? = some .null := of_decide_eq_true h2
          rw [List.getElem?_set_ne (by omega)] at h2'
          by_cases e2 : q.1 + 1 = k
          · rw [e2, List.getElem?_set_self (by omega)] at h2'
            cases h2'
          · rw [List.getElem?_set_ne (Ne.symm e2)] at h2'
            exact ⟨decide_eq_true h2', fun z => e2 z.1⟩
        | int x => exact ⟨rfl, fun z => by have := z.2; simp [Value.category] at this⟩
        | ref x => exact ⟨rfl, fun z => by have := z.2; simp [Value.category] at this⟩
        | _ => cases h2
      refine List.mem_cons_of_mem _ (List.mem_filter.mpr ⟨am_la_m.mpr ⟨w, h1, key.1, h3⟩, ?_⟩)
      have hc : q.2.category = w.category := by rw [h3, am_cv_cat]
      have k2 := key.2
      rw [← hc] at k2
      simp only [Bool.and_eq_true, Bool.not_eq_true', beq_eq_false_iff_ne, ne_eq, e, e1, not_false_eq_true, true_and]
      cases hz : (q.1 + 1 == k && q.2.category == 2) with
      | false => rfl
      | true =>
        simp only [Bool.and_eq_true, beq_iff_eq] at hz
        exact absurd hz k2
/-- the value in a field -/
def am_fv (sb b : Nat) (M : am_M) (k ci : Nat) (rs : List Nat) (j : Nat) : Value := match am_ty ci j with
  | .int => .int (M.2.1 k j)
  | .boolean => .int (M.2.1 k j)
  | .long => .long (M.2.2 k j)
  | _ => match rs[j]? with
    | some (r + 1) => .ref (am_ad sb b r)
    | _ => .null
theorem am_fld_v {sb b k ci j : Nat} {M : am_M} {rs : List Nat} {v : Value} (h : am_fld M k ci j rs = some v) : am_fv sb b M k ci rs j = am_cv sb b v := by
  unfold am_fld at h
  unfold am_fv
  split at h <;> rename_i e <;> simp only [e]
  · cases h; rfl
  · cases h; rfl
  · cases h; rfl
  · split at h
    · rename_i e2
      rw [e2]
      cases h
      rfl
    · cases h
def am_cell (sb b : Nat) (cA : Nat → ClassId) (M : am_M) (k : Nat) (t : Nat × Nat × List Nat) : va_E := match t.1 with
  | 0 => .inl (cA k, t.2.1, .inl (M.2.1 k))
  | 1 => .inl (cA k, t.2.1, .inr (.inl (M.2.2 k)))
  | 2 => .inl (cA k, t.2.1, .inl (M.2.1 k))
  | ci + 3 => .inr (ci, (List.range t.2.1).map (fun j => am_fv sb b M k ci t.2.2 j))
def am_KA (s : State) (cA : ClassId) (tag : Nat) : Prop := match tag with
  | 0 => ArrOfT s cA .int ∧ va_RA s cA .int
  | 1 => ArrOfT s cA .long ∧ va_RA s cA .long
  | 2 => ArrOfT s cA .boolean ∧ va_RA s cA .boolean
  | _ => True
def am_W0 (D : va_G) (sb b Lx : Nat) (cA : Nat → ClassId) (M : am_M) (s : State) (H : Heap) : Prop :=
  H.size = b + M.1.length ∧ sb ≤ b ∧ M.1[0]? = some (100, Lx, []) ∧ va_X sb Lx (M.2.1 0) s H ∧ ∀ (k : Nat) (t : Nat × Nat × List Nat), 0 < k → M.1[k]? = some t → t.1 ≠ 100 ∧ va_at D vwCl (b + k, am_cell sb b cA M k t) H ∧ am_KA s (cA k) t.1
def am_Wd (D : va_G) (sb b Lx : Nat) (M : am_M) (s : State) (H : Heap) : Prop := ∃ cA : Nat → ClassId, am_W0 D sb b Lx cA M s H
def am_sz (M : am_M) : Nat := (M.1.map (fun t => t.2.1)).sum
abbrev am_A (b : Nat) : Nat → Prop := fun q => b < q
theorem am_u_s {α : Type} (f : Nat → Nat → α) (k j : Nat) (v : α) : am_u f k j v k = fun b => if b = j then v else f k b := by
  funext b
  simp [am_u]
theorem am_u_n {α : Type} (f : Nat → Nat → α) {k a : Nat} (j : Nat) (v : α) (h : a ≠ k) : am_u f k j v a = f a := by
  funext b
  simp [am_u, h]
/-- one cell of the world changes -/
theorem am_W0.set {D : va_G} {sb b Lx k : Nat} {cA : Nat → ClassId} {M M' : am_M} {s : State} {H H' : Heap} {t t' : Nat × Nat × List Nat} (h : am_W0 D sb b Lx cA M s H) (hk : M.1[k]? = some t) (ht : t.1 ≠ 100) (htt : t'.1 = t.1) (hT : M'.1 = M.1.set k t') (hI : ∀ a, a ≠ k → M'.2.1 a = M.2.1 a) (hJ : ∀ a, a ≠ k → M'.2.2 a = M.2.2 a) (hz : H'.size = H.size) (ho : ∀ q : Nat, q ≠ b + k → H'[q]? = H[q]?)
    (hc : va_at D vwCl (b + k, am_cell sb b cA M' k t') H') : am_W0 D sb b Lx cA M' s H' := by
  obtain ⟨h1, h2, h3, h4, h5⟩ := h
  have hk0 : k ≠ 0 := by
    rintro rfl
    rw [h3] at hk
    cases hk
    exact ht rfl
  have hkl : k < M.1.length := (List.getElem?_eq_some_iff.mp hk).1
  refine ⟨by rw [hz, h1, hT, List.length_set], h2, by rw [hT, List.getElem?_set_ne hk0]; exact h3, ?_, fun a u ha hu => ?_⟩
  · rw [hI 0 (Ne.symm hk0)]
    exact h4.kept (ho sb (by omega))
  · by_cases e : a = k
    · subst e
      rw [hT, List.getElem?_set_self hkl] at hu
      cases hu
      obtain ⟨g0, g1, g2⟩ := h5 a t ha hk
      exact ⟨by rw [htt]; exact g0, hc, by rw [htt]; exact g2⟩
    · rw [hT, List.getElem?_set_ne (Ne.symm e)] at hu
      obtain ⟨g0, g1, g2⟩ := h5 a u ha hu
      have e1 : am_cell sb b cA M' a u = am_cell sb b cA M a u := by
        unfold am_cell am_fv
        rw [hI a e, hJ a e]
      exact ⟨g0, by rw [e1]; exact g1.kept (ho _ (by show b + a ≠ b + k; omega)), g2⟩

/-! what an instruction of the little machine says, turned about -/
theorem am_pu_i {i : Nat} {ls st : List Value} {M : am_M} {v : Value} {ps : List Prop} {i' : Nat} {ls' st' : List Value} {M' : am_M} (h : am_pu i ls st M v = some (ps, i', ls', st', M')) : ps = [] ∧ i' = i + 1 ∧ ls' = ls ∧ st' = v :: st ∧ M' = M := by
  unfold am_pu at h
  cases h
  exact ⟨rfl, rfl, rfl, rfl, rfl⟩
theorem am_ild_i {k : Nat} {i : Nat} {ls st : List Value} {M : am_M} {ps : List Prop} {i' : Nat} {ls' st' : List Value} {M' : am_M} (h : am_ild k i ls st M = some (ps, i', ls', st', M')) : ∃ v : Int32, ls[k]? = some (.int v) ∧ ps = [] ∧ i' = i + 1 ∧ ls' = ls ∧ st' = .int v :: st ∧ M' = M := by
  unfold am_ild at h
  split at h
  · rename_i v e
    cases h
    exact ⟨v, e, rfl, rfl, rfl, rfl, rfl⟩
  · cases h
theorem am_ald_i {k : Nat} {i : Nat} {ls st : List Value} {M : am_M} {ps : List Prop} {i' : Nat} {ls' st' : List Value} {M' : am_M} (h : am_ald k i ls st M = some (ps, i', ls', st', M')) : ∃ v : Nat, ls[k]? = some (.ref v) ∧ ps = [] ∧ i' = i + 1 ∧ ls' = ls ∧ st' = .ref v :: st ∧ M' = M := by
  unfold am_ald at h
  split at h
  · rename_i v e
    cases h
    exact ⟨v, e, rfl, rfl, rfl, rfl, rfl⟩
  · cases h
theorem am_lld_i {k : Nat} {i : Nat} {ls st : List Value} {M : am_M} {ps : List Prop} {i' : Nat} {ls' st' : List Value} {M' : am_M} (h : am_lld k i ls st M = some (ps, i', ls', st', M')) : ∃ v : Int64, ls[k]? = some (.long v) ∧ ls[k + 1]? = some .null ∧ ps = [] ∧ i' = i + 1 ∧ ls' = ls ∧ st' = .long v :: st ∧ M' = M := by
  unfold am_lld at h
  split at h
  · rename_i v e
    split at h
    · rename_i e2
      cases h
      exact ⟨v, e, e2, rfl, rfl, rfl, rfl, rfl⟩
    · cases h
  · cases h
theorem am_ist_i {k : Nat} {i : Nat} {ls st : List Value} {M : am_M} {ps : List Prop} {i' : Nat} {ls' st' : List Value} {M' : am_M} (h : am_ist k i ls st M = some (ps, i', ls', st', M')) : ∃ (v : Int32) (r : List Value), st = .int v :: r ∧ k < ls.length ∧ ps = [] ∧ i' = i + 1 ∧ ls' = ls.set k (.int v) ∧ st' = r ∧ M' = M := by
  unfold am_ist at h
  split at h
  · split at h
    · rename_i e
      cases h
      exact ⟨_, _, rfl, e, rfl, rfl, rfl, rfl, rfl⟩
    · cases h
  · cases h
theorem am_ast_i {k : Nat} {i : Nat} {ls st : List Value} {M : am_M} {ps : List Prop} {i' : Nat} {ls' st' : List Value} {M' : am_M} (h : am_ast k i ls st M = some (ps, i', ls', st', M')) : ∃ (v : Nat) (r : List Value), st = .ref v :: r ∧ k < ls.length ∧ ps = [] ∧ i' = i + 1 ∧ ls' = ls.set k (.ref v) ∧ st' = r ∧ M' = M := by
  unfold am_ast at h
  split at h
  · split at h
    · rename_i e
      cases h
      exact ⟨_, _, rfl, e, rfl, rfl, rfl, rfl, rfl⟩
    · cases h
  · cases h
theorem am_lst_i {k : Nat} {i : Nat} {ls st : List Value} {M : am_M} {ps : List Prop} {i' : Nat} {ls' st' : List Value} {M' : am_M} (h : am_lst k i ls st M = some (ps, i', ls', st', M')) : ∃ (v : Int64) (r : List Value), st = .long v :: r ∧ k + 1 < ls.length ∧ ps = [] ∧ i' = i + 1 ∧ ls' = (ls.set k (.long v)).set (k + 1) .null ∧ st' = r ∧ M' = M := by
  unfold am_lst at h
  split at h
  · split at h
    · rename_i e
      cases h
      exact ⟨_, _, rfl, e, rfl, rfl, rfl, rfl, rfl⟩
    · cases h
  · cases h
theorem am_inc_i {k : Nat} {c : Int32} {i : Nat} {ls st : List Value} {M : am_M} {ps : List Prop} {i' : Nat} {ls' st' : List Value} {M' : am_M} (h : am_inc k c i ls st M = some (ps, i', ls', st', M')) : ∃ v : Int32, ls[k]? = some (.int v) ∧ ps = [] ∧ i' = i + 1 ∧ ls' = ls.set k (.int (v + c)) ∧ st' = st ∧ M' = M := by
  unfold am_inc at h
  split at h
  · rename_i v e
    cases h
    exact ⟨v, e, rfl, rfl, rfl, rfl, rfl⟩
  · cases h
theorem am_i2_i {f : Int32 → Int32 → Int32} {i : Nat} {ls st : List Value} {M : am_M} {ps : List Prop} {i' : Nat} {ls' st' : List Value} {M' : am_M} (h : am_i2 f i ls st M = some (ps, i', ls', st', M')) : ∃ (a : Int32) (b : Int32) (r : List Value), st = .int b :: .int a :: r ∧ ps = [] ∧ i' = i + 1 ∧ ls' = ls ∧ st' = .int (f a b) :: r ∧ M' = M := by
  unfold am_i2 at h
  split at h
  · cases h
    exact ⟨_, _, _, rfl, rfl, rfl, rfl, rfl, rfl⟩
  · cases h
theorem am_i2d_i {f : Int32 → Int32 → Int32} {i : Nat} {ls st : List Value} {M : am_M} {ps : List Prop} {i' : Nat} {ls' st' : List Value} {M' : am_M} (h : am_i2d f i ls st M = some (ps, i', ls', st', M')) : ∃ (a : Int32) (b : Int32) (r : List Value), st = .int b :: .int a :: r ∧ ps = [¬ b = 0] ∧ i' = i + 1 ∧ ls' = ls ∧ st' = .int (f a b) :: r ∧ M' = M := by
  unfold am_i2d at h
  split at h
  · cases h
    exact ⟨_, _, _, rfl, rfl, rfl, rfl, rfl, rfl⟩
  · cases h
theorem am_l2_i {f : Int64 → Int64 → Int64} {i : Nat} {ls st : List Value} {M : am_M} {ps : List Prop} {i' : Nat} {ls' st' : List Value} {M' : am_M} (h : am_l2 f i ls st M = some (ps, i', ls', st', M')) : ∃ (a : Int64) (b : Int64) (r : List Value), st = .long b :: .long a :: r ∧ ps = [] ∧ i' = i + 1 ∧ ls' = ls ∧ st' = .long (f a b) :: r ∧ M' = M := by
  unfold am_l2 at h
  split at h
  · cases h
    exact ⟨_, _, _, rfl, rfl, rfl, rfl, rfl, rfl⟩
  · cases h
theorem am_l2d_i {f : Int64 → Int64 → Int64} {i : Nat} {ls st : List Value} {M : am_M} {ps : List Prop} {i' : Nat} {ls' st' : List Value} {M' : am_M} (h : am_l2d f i ls st M = some (ps, i', ls', st', M')) : ∃ (a : Int64) (b : Int64) (r : List Value), st = .long b :: .long a :: r ∧ ps = [¬ b = 0] ∧ i' = i + 1 ∧ ls' = ls ∧ st' = .long (f a b) :: r ∧ M' = M := by
  unfold am_l2d at h
  split at h
  · cases h
    exact ⟨_, _, _, rfl, rfl, rfl, rfl, rfl, rfl⟩
  · cases h
theorem am_ls_i {f : Int64 → Int32 → Int64} {i : Nat} {ls st : List Value} {M : am_M} {ps : List Prop} {i' : Nat} {ls' st' : List Value} {M' : am_M} (h : am_ls f i ls st M = some (ps, i', ls', st', M')) : ∃ (a : Int64) (b : Int32) (r : List Value), st = .int b :: .long a :: r ∧ ps = [] ∧ i' = i + 1 ∧ ls' = ls ∧ st' = .long (f a b) :: r ∧ M' = M := by
  unfold am_ls at h
  split at h
  · cases h
    exact ⟨_, _, _, rfl, rfl, rfl, rfl, rfl, rfl⟩
  · cases h
theorem am_b1_i {x : List Nat} {f : Int32 → Bool} {i : Nat} {ls st : List Value} {M : am_M} {ps : List Prop} {i' : Nat} {ls' st' : List Value} {M' : am_M} (h : am_b1 x f i ls st M = some (ps, i', ls', st', M')) : ∃ (v : Int32) (r : List Value), st = .int v :: r ∧ ps = [] ∧ i' = (bif f v then x.headD 0 else i + 1) ∧ ls' = ls ∧ st' = r ∧ M' = M := by
  unfold am_b1 at h
  split at h
  · cases h
    exact ⟨_, _, rfl, rfl, rfl, rfl, rfl, rfl⟩
  · cases h
theorem am_b2_i {x : List Nat} {f : Int32 → Int32 → Bool} {i : Nat} {ls st : List Value} {M : am_M} {ps : List Prop} {i' : Nat} {ls' st' : List Value} {M' : am_M} (h : am_b2 x f i ls st M = some (ps, i', ls', st', M')) : ∃ (v w : Int32) (r : List Value), st = .int w :: .int v :: r ∧ ps = [] ∧ i' = (bif f v w then x.headD 0 else i + 1) ∧ ls' = ls ∧ st' = r ∧ M' = M := by
  unfold am_b2 at h
  split at h
  · cases h
    exact ⟨_, _, _, rfl, rfl, rfl, rfl, rfl, rfl⟩
  · cases h
theorem am_get_i {ci j : Nat} {i : Nat} {ls st : List Value} {M : am_M} {ps : List Prop} {i' : Nat} {ls' st' : List Value} {M' : am_M} (h : am_get ci j i ls st M = some (ps, i', ls', st', M')) : ∃ (k n : Nat) (rs : List Nat) (v : Value) (r : List Value), st = .ref k :: r ∧ M.1[k]? = some (ci + 3, n, rs) ∧ j < n ∧ am_fld M k ci j rs = some v ∧ ps = [] ∧ i' = i + 1 ∧ ls' = ls ∧ st' = v :: r ∧ M' = M := by
  unfold am_get at h
  split at h
  · split at h
    · rename_i e
      split at h
      · rename_i e2
        split at h
        · rename_i e3
          cases h
          exact ⟨_, _, _, _, _, rfl, by rw [e, e2.1], e2.2, e3, rfl, rfl, rfl, rfl, rfl⟩
        · cases h
      · cases h
    · cases h
  · cases h
theorem am_iald_i {tag : Nat} {i : Nat} {ls st : List Value} {M : am_M} {ps : List Prop} {i' : Nat} {ls' st' : List Value} {M' : am_M} (h : am_iald tag i ls st M = some (ps, i', ls', st', M')) : ∃ (j : Int32) (k t n : Nat) (rs : List Nat) (r : List Value), st = .int j :: .ref k :: r ∧ M.1[k]? = some (t, n, rs) ∧ (t = tag ∨ (tag = 0 ∧ t = 100)) ∧ ps = [vp_in j n] ∧ i' = i + 1 ∧ ls' = ls ∧ st' = .int (M.2.1 k j.toNatClampNeg) :: r ∧ M' = M := by
  unfold am_iald at h
  split at h
  · split at h
    · rename_i e
      split at h
      · rename_i e2
        cases h
        exact ⟨_, _, _, _, _, _, rfl, e, e2, rfl, rfl, rfl, rfl, rfl⟩
      · cases h
    · cases h
  · cases h
theorem am_lald_i {i : Nat} {ls st : List Value} {M : am_M} {ps : List Prop} {i' : Nat} {ls' st' : List Value} {M' : am_M} (h : am_lald i ls st M = some (ps, i', ls', st', M')) : ∃ (j : Int32) (k n : Nat) (rs : List Nat) (r : List Value), st = .int j :: .ref k :: r ∧ M.1[k]? = some (1, n, rs) ∧ ps = [vp_in j n] ∧ i' = i + 1 ∧ ls' = ls ∧ st' = .long (M.2.2 k j.toNatClampNeg) :: r ∧ M' = M := by
  unfold am_lald at h
  split at h
  · split at h
    · rename_i e
      split at h
      · rename_i e2
        cases h
        exact ⟨_, _, _, _, _, rfl, by rw [e, e2], rfl, rfl, rfl, rfl, rfl⟩
      · cases h
    · cases h
  · cases h
theorem am_iast_i {i : Nat} {ls st : List Value} {M : am_M} {ps : List Prop} {i' : Nat} {ls' st' : List Value} {M' : am_M} (h : am_iast i ls st M = some (ps, i', ls', st', M')) : ∃ (v : Int32) (j : Int32) (k n : Nat) (rs : List Nat) (r : List Value), st = .int v :: .int j :: .ref k :: r ∧ M.1[k]? = some (0, n, rs) ∧ ps = [vp_in j n] ∧ i' = i + 1 ∧ ls' = ls ∧ st' = r ∧ M' = (M.1, am_u M.2.1 k j.toNatClampNeg v, M.2.2) := by
  unfold am_iast at h
  split at h
  · split at h
    · rename_i e
      split at h
      · rename_i e2
        cases h
        exact ⟨_, _, _, _, _, _, rfl, by rw [e, e2], rfl, rfl, rfl, rfl, rfl⟩
      · cases h
    · cases h
  · cases h
theorem am_zast_i {i : Nat} {ls st : List Value} {M : am_M} {ps : List Prop} {i' : Nat} {ls' st' : List Value} {M' : am_M} (h : am_zast i ls st M = some (ps, i', ls', st', M')) : ∃ (v : Int32) (j : Int32) (k n : Nat) (rs : List Nat) (r : List Value), st = .int v :: .int j :: .ref k :: r ∧ M.1[k]? = some (2, n, rs) ∧ ps = [vp_in j n, vp_nar .boolean v = v] ∧ i' = i + 1 ∧ ls' = ls ∧ st' = r ∧ M' = (M.1, am_u M.2.1 k j.toNatClampNeg v, M.2.2) := by
  unfold am_zast at h
  split at h
  · split at h
    · rename_i e
      split at h
      · rename_i e2
        cases h
        exact ⟨_, _, _, _, _, _, rfl, by rw [e, e2], rfl, rfl, rfl, rfl, rfl⟩
      · cases h
    · cases h
  · cases h
theorem am_last_i {i : Nat} {ls st : List Value} {M : am_M} {ps : List Prop} {i' : Nat} {ls' st' : List Value} {M' : am_M} (h : am_last i ls st M = some (ps, i', ls', st', M')) : ∃ (v : Int64) (j : Int32) (k n : Nat) (rs : List Nat) (r : List Value), st = .long v :: .int j :: .ref k :: r ∧ M.1[k]? = some (1, n, rs) ∧ ps = [vp_in j n] ∧ i' = i + 1 ∧ ls' = ls ∧ st' = r ∧ M' = (M.1, M.2.1, am_u M.2.2 k j.toNatClampNeg v) := by
  unfold am_last at h
  split at h
  · split at h
    · rename_i e
      split at h
      · rename_i e2
        cases h
        exact ⟨_, _, _, _, _, _, rfl, by rw [e, e2], rfl, rfl, rfl, rfl, rfl⟩
      · cases h
    · cases h
  · cases h
theorem am_len_i {i : Nat} {ls st : List Value} {M : am_M} {ps : List Prop} {i' : Nat} {ls' st' : List Value} {M' : am_M} (h : am_len i ls st M = some (ps, i', ls', st', M')) : ∃ (k t n : Nat) (rs : List Nat) (r : List Value), st = .ref k :: r ∧ M.1[k]? = some (t, n, rs) ∧ (t < 3 ∨ t = 100) ∧ ps = [] ∧ i' = i + 1 ∧ ls' = ls ∧ st' = .int (Int32.ofNat n) :: r ∧ M' = M := by
  unfold am_len at h
  split at h
  · split at h
    · rename_i e
      split at h
      · rename_i e2
        cases h
        exact ⟨_, _, _, _, _, rfl, e, e2, rfl, rfl, rfl, rfl, rfl⟩
      · cases h
    · cases h
  · cases h
theorem am_newa_i {tag : Nat} {i : Nat} {ls st : List Value} {M : am_M} {ps : List Prop} {i' : Nat} {ls' st' : List Value} {M' : am_M} (h : am_newa tag i ls st M = some (ps, i', ls', st', M')) : ∃ (n : Int32) (r : List Value), st = .int n :: r ∧ ps = [¬ n < 0, n.toNatClampNeg ≤ 10000] ∧ i' = i + 1 ∧ ls' = ls ∧ st' = .ref M.1.length :: r ∧ M' = (M.1 ++ [(tag, n.toNatClampNeg, [])], am_z M.2.1 M.1.length 0, am_z M.2.2 M.1.length 0) := by
  unfold am_newa at h
  split at h
  · cases h
    exact ⟨_, _, rfl, rfl, rfl, rfl, rfl, rfl⟩
  · cases h
theorem am_dup_i {i : Nat} {ls st : List Value} {M : am_M} {ps : List Prop} {i' : Nat} {ls' st' : List Value} {M' : am_M} (h : am_dup i ls st M = some (ps, i', ls', st', M')) : ∃ (v : Value) (r : List Value), ((∃ y, v = .int y) ∨ ∃ y, v = .ref y) ∧ st = v :: r ∧ ps = [] ∧ i' = i + 1 ∧ ls' = ls ∧ st' = v :: v :: r ∧ M' = M := by
  unfold am_dup at h
  split at h
  · cases h
    exact ⟨_, _, Or.inl ⟨_, rfl⟩, rfl, rfl, rfl, rfl, rfl, rfl⟩
  · cases h
    exact ⟨_, _, Or.inr ⟨_, rfl⟩, rfl, rfl, rfl, rfl, rfl, rfl⟩
  · cases h
theorem am_dup2_i {i : Nat} {ls st : List Value} {M : am_M} {ps : List Prop} {i' : Nat} {ls' st' : List Value} {M' : am_M} (h : am_dup2 i ls st M = some (ps, i', ls', st', M')) : ∃ (v : Int32) (w : Nat) (r : List Value), st = .int v :: .ref w :: r ∧ ps = [] ∧ i' = i + 1 ∧ ls' = ls ∧ st' = .int v :: .ref w :: .int v :: .ref w :: r ∧ M' = M := by
  unfold am_dup2 at h
  split at h
  · cases h
    exact ⟨_, _, _, rfl, rfl, rfl, rfl, rfl, rfl⟩
  · cases h
theorem am_pop_i {i : Nat} {ls st : List Value} {M : am_M} {ps : List Prop} {i' : Nat} {ls' st' : List Value} {M' : am_M} (h : am_pop i ls st M = some (ps, i', ls', st', M')) : ∃ (v : Int32) (r : List Value), st = .int v :: r ∧ ps = [] ∧ i' = i + 1 ∧ ls' = ls ∧ st' = r ∧ M' = M := by
  unfold am_pop at h
  split at h
  · cases h
    exact ⟨_, _, rfl, rfl, rfl, rfl, rfl, rfl⟩
  · cases h
theorem am_oini_i {i : Nat} {ls st : List Value} {M : am_M} {ps : List Prop} {i' : Nat} {ls' st' : List Value} {M' : am_M} (h : am_oini i ls st M = some (ps, i', ls', st', M')) : ∃ (v : Nat), st = [.ref v] ∧ ps = [] ∧ i' = i + 1 ∧ ls' = ls ∧ st' = [] ∧ M' = M := by
  unfold am_oini at h
  split at h
  · cases h
    exact ⟨_, rfl, rfl, rfl, rfl, rfl, rfl⟩
  · cases h
theorem am_put_i {ci j i : Nat} {ls st : List Value} {M : am_M} {ps : List Prop} {i' : Nat} {ls' st' : List Value} {M' : am_M} (h : am_put ci j i ls st M = some (ps, i', ls', st', M')) : ∃ (v : Value) (k n : Nat) (rs : List Nat) (r : List Value), st = v :: .ref k :: r ∧ M.1[k]? = some (ci + 3, n, rs) ∧ (j < n ∧ rs.length = n) ∧ i' = i + 1 ∧ ls' = ls ∧ st' = r ∧
    ((∃ y, v = .int y ∧ (am_ty ci j = .int ∧ ps = [] ∨ am_ty ci j = .boolean ∧ ps = [y = 0 ∨ y = 1]) ∧ M' = (M.1, am_u M.2.1 k j y, M.2.2)) ∨ (∃ y, v = .long y ∧ am_ty ci j = .long ∧ ps = [] ∧ M' = (M.1, M.2.1, am_u M.2.2 k j y)) ∨ (∃ y, v = .ref y ∧ ((∃ t, am_ty ci j = .array t) ∨ ∃ t, am_ty ci j = .object t) ∧ ps = [] ∧ M' = (M.1.set k (ci + 3, n, rs.set j (y + 1)), M.2.1, M.2.2))) := by
  unfold am_put at h
  split at h
  · split at h
    · rename_i e
      split at h
      · rename_i e2
        obtain ⟨e3, e4⟩ := e2
        subst e3
        split at h
        · rename_i e5
          split at h
          · cases h
            exact ⟨_, _, _, _, _, rfl, e, e4, rfl, rfl, rfl, Or.inl ⟨_, rfl, Or.inl ⟨e5, rfl⟩, rfl⟩⟩
          · cases h
        · rename_i e5
          split at h
          · cases h
            exact ⟨_, _, _, _, _, rfl, e, e4, rfl, rfl, rfl, Or.inl ⟨_, rfl, Or.inr ⟨e5, rfl⟩, rfl⟩⟩
          · cases h
        · rename_i e5
          split at h
          · cases h
            exact ⟨_, _, _, _, _, rfl, e, e4, rfl, rfl, rfl, Or.inr (Or.inl ⟨_, rfl, e5, rfl, rfl⟩)⟩
          · cases h
        · rename_i e5
          split at h
          · cases h
            exact ⟨_, _, _, _, _, rfl, e, e4, rfl, rfl, rfl, Or.inr (Or.inr ⟨_, rfl, Or.inl ⟨_, e5⟩, rfl, rfl⟩)⟩
          · cases h
        · rename_i e5
          split at h
          · cases h
            exact ⟨_, _, _, _, _, rfl, e, e4, rfl, rfl, rfl, Or.inr (Or.inr ⟨_, rfl, Or.inr ⟨_, e5⟩, rfl, rfl⟩)⟩
          · cases h
        · cases h
      · cases h
    · cases h
  · cases h
end
section
/-! ===== the rows of the world ===== -/
def am_tw : List Cond := lw_tbl.filter goodWord
theorem am_has_m {p : Nat} {w : Cond} (h : am_has p w = true) : w ∈ am_tw := by
  unfold am_has at h
  simp only [Bool.and_eq_true] at h
  exact List.mem_filter.mpr ⟨List.mem_of_getElem? (of_decide_eq_true h.1), h.2⟩
theorem am_tw_good {w : Cond} (h : w ∈ am_tw) : w ∈ lw_tbl ∧ goodWord w = true := List.mem_filter.mp h
theorem am_lay_m {C : String} {T : u_T} {N : Nat} {ps : List Nat} (h : (List.range N).all (fun j => am_has (ps.getD j 0) (u_lay C T j)) = true) : ∀ w ∈ u_ws C T N, w ∈ am_tw := by
  intro w hw
  unfold u_ws at hw
  obtain ⟨j, hj, rfl⟩ := List.mem_map.mp hw
  exact am_has_m (List.all_eq_true.mp h j hj)
theorem am_cls_ok : ∀ (ci : Nat) (q : vw_C), vwCl[ci]? = some q → (∀ w ∈ u_ws q.1 q.2.1 q.2.2, w ∈ am_tw) ∧ (∀ k, k < q.2.2 → parseFieldDescriptor (q.2.1 k).2.2.1 = some (am_ty ci k)) ∧ (∀ a, a < q.2.2 → ∀ b, b < q.2.2 → a ≠ b → (q.2.1 a).2.1 ≠ (q.2.1 b).2.1) ∧ ci < 7 := by
  intro ci q hq
  match ci, hq with
  | 0, hq => cases hq; exact ⟨am_lay_m am_lay0, tyX0_ok, nmX0, by omega⟩
  | 1, hq => cases hq; exact ⟨am_lay_m am_lay1, tyX1_ok, nmX1, by omega⟩
  | 2, hq => cases hq; exact ⟨am_lay_m am_lay2, tyX2_ok, nmX2, by omega⟩
  | 3, hq => cases hq; exact ⟨am_lay_m am_lay3, tyX3_ok, nmX3, by omega⟩
  | 4, hq => cases hq; exact ⟨am_lay_m am_lay4, tyX4_ok, nmX4, by omega⟩
  | 5, hq => cases hq; exact ⟨am_lay_m am_lay5, tyX5_ok, nmX5, by omega⟩
  | 6, hq => cases hq; exact ⟨am_lay_m am_lay6, tyX6_ok, nmX6, by omega⟩
  | k + 7, hq => simp [vwCl] at hq
theorem am_one {D : va_G} {cl : List vw_C} {x : Nat × va_E} {H : Heap} (h : va_at D cl x H) : va_P D cl [x] H := by
  intro k q hq
  have hz : k < 1 := (List.getElem?_eq_some_iff.mp hq).1
  rw [show k = 0 by omega] at hq
  cases hq
  exact h
theorem am_Ka {D : va_G} {cl : List vw_C} {s : State} {cA : ClassId} {ty : FieldType} (hK : va_K D cl [] s) (h : ArrOfT s cA ty ∧ va_RA s cA ty) : va_K D cl [(cA, ty)] s := by
  refine ⟨hK.1, fun k q hq => ?_⟩
  have hz : k < 1 := (List.getElem?_eq_some_iff.mp hq).1
  rw [show k = 0 by omega] at hq
  cases hq
  exact h
/-- a new cell -/
theorem am_W0.push {D : va_G} {sb b Lx : Nat} {cA : Nat → ClassId} {M : am_M} {s : State} {H H' : Heap} (h : am_W0 D sb b Lx cA M s H) {t : Nat × Nat × List Nat} (ht : t.1 ≠ 100) (hz : H'.size = H.size + 1) (ho : ∀ q : Nat, q < H.size → H'[q]? = H[q]?) (c0 : ClassId) (hc : va_at D vwCl (H.size, am_cell sb b (fun _ => c0) (M.1 ++ [t], am_z M.2.1 M.1.length 0, am_z M.2.2 M.1.length 0) M.1.length t) H') (hKA : am_KA s c0 t.1) : am_Wd D sb b Lx (M.1 ++ [t], am_z M.2.1 M.1.length 0, am_z M.2.2 M.1.length 0) s H' := by
  obtain ⟨h1, h2, h3, h4, h5⟩ := h
  have hl0 : 0 < M.1.length := (List.getElem?_eq_some_iff.mp h3).1
  have hzI : ∀ a, a ≠ M.1.length → am_z M.2.1 M.1.length 0 a = M.2.1 a := fun a ha => by funext j; simp [am_z, ha]
  have hzJ : ∀ a, a ≠ M.1.length → am_z M.2.2 M.1.length 0 a = M.2.2 a := fun a ha => by funext j; simp [am_z, ha]
  refine ⟨fun k => if k = M.1.length then c0 else cA k, by rw [hz, h1]; simp; omega, h2, by show (M.1 ++ [t])[0]? = _; rw [List.getElem?_append_left hl0]; exact h3, ?_, fun k u hk hu => ?_⟩
  · show va_X sb Lx (am_z M.2.1 M.1.length 0 0) s H'
    rw [hzI 0 (by omega)]
    exact h4.kept (ho sb (by omega))
  · by_cases e : k = M.1.length
    · subst e
      have hu' : (M.1 ++ [t])[M.1.length]? = some u := hu
      rw [List.getElem?_append_right (Nat.le_refl _), Nat.sub_self] at hu'
      cases hu'
      have ec : am_cell sb b (fun k => if k = M.1.length then c0 else cA k) (M.1 ++ [t], am_z M.2.1 M.1.length 0, am_z M.2.2 M.1.length 0) M.1.length t = am_cell sb b (fun _ => c0) (M.1 ++ [t], am_z M.2.1 M.1.length 0, am_z M.2.2 M.1.length 0) M.1.length t := by
        unfold am_cell
        simp only [if_true]
      refine ⟨ht, ?_, by simpa using hKA⟩
      rw [ec, ← h1]
      exact hc
    · have hu' : (M.1 ++ [t])[k]? = some u := hu
      have hlt : k < M.1.length := by
        have := (List.getElem?_eq_some_iff.mp hu').1
        simp at this
        omega
      rw [List.getElem?_append_left hlt] at hu'
      obtain ⟨g0, g1, g2⟩ := h5 k u hk hu'
      have ec : am_cell sb b (fun k => if k = M.1.length then c0 else cA k) (M.1 ++ [t], am_z M.2.1 M.1.length 0, am_z M.2.2 M.1.length 0) k u = am_cell sb b cA M k u := by
        unfold am_cell am_fv
        simp only [hzI k e, hzJ k e, if_neg e]
      refine ⟨g0, ?_, by simpa [e] using g2⟩
      rw [ec]
      exact g1.kept (ho _ (by show b + k < H.size; omega))
section AMR
variable {p : Program} {l : Launch} {e : Env} {R : Room} {s : State} {m : MethodId} {args : Array Value} {below : List Frame} {meth : Method} {c : Code} {H : Heap} {locs : List Loc} {cells slots : Nat} {Q : State → Prop}
variable {cc : ByteArray} {pc : Nat} {ls : Array Slot} {rest : List Value} {D : va_G} {a : Nat}
theorem am_putc (hexec : p.tables.exec = Jvm.exec) (hb : c.code = cc) (hts : ∀ w ∈ am_tw, w.before args s = true) {own : String} {index ci : Nat} {q : vw_C} (hq : vwCl[ci]? = some q) (hown : s.vm.findClass own = some m.cls) (hK : va_K D vwCl [] s) {fs : List Value} (he : va_at D vwCl (a, .inr (ci, fs)) H) {k : Nat} (hk : k < q.2.2) (hlink : (Cond.fieldLink own index (q.2.1 k).1 (q.2.1 k).2.1 (q.2.1 k).2.2.1).before args s = true) (hfin : (q.2.1 k).2.2.2 = false ∨ (meth.name = "<init>" ∧ (q.2.1 k).1 = own)) {v : Value} (hn : narrow (am_ty ci k) v = v) (hfit : fits (am_ty ci k) v = true) (hl : k < fs.length)
    (hdg : decode cc pc = .ok (.putfield index, 3)) (kk : ∀ (H1 : Heap) (j : Nat), va_at D vwCl (a, .inr (ci, fs.set k v)) H1 → H1.size = H.size → (∀ x : Nat, x ≠ a → H1[x]? = H[x]?) → W p l e R s m args below meth c H1 (locs ++ [⟨a, j⟩]) cells slots Q (F0 m (pc + 3) ls rest)) : W p l e R s m args below meth c H locs cells slots Q (F0 m pc ls (v :: .ref a :: rest)) := by
  obtain ⟨C, T, N⟩ := q
  obtain ⟨hin, hty, hnm, -⟩ := am_cls_ok ci _ hq
  have hap := va_apart (own := own) hts hin (am_ty ci) hty hnm hK hq
  obtain ⟨r, h1, cell, q1, q2, q3, q4⟩ := he
  have hr : r = (C, T, N) := Option.some.inj (h1.symm.trans hq)
  subst hr
  obtain ⟨hS, hfc, kC, hkC, hkind⟩ := hK.1 ci _ hq
  obtain ⟨cf, kf, fi, f, hi, hsl⟩ := hS k hk
  have hlay := hts _ (hin _ (u_in_lay hk))
  have hst := (u_facts hfc hkC (u_lays hts hin hk) hi).1
  unfold u_lay at hlay
  by_cases hf : (T k).2.2.2 = true
  · rw [if_pos hf] at hlay
    obtain ⟨hin2, hdecl⟩ := hfin.resolve_left (fun z => by rw [hf] at z; cases z)
    have hcf : m.cls = cf := by
      obtain ⟨_, _, c', _, _, _, -, -, hf', -, -, -, hown2, -⟩ := Cond.laysFinal_spec hlay
      have e1 : c' = cf := by have := hi.symm.trans hf'; simp at this; exact this.1.symm
      rw [hdecl] at hown2
      rw [← e1]; exact Option.some.inj (hown.symm.trans hown2)
    have h6 := u_fits hfc hkC hkind (Or.inr hlay) hi (hty k hk) hn hfit
    refine W.putFinK hexec hb hown hlink hi hst hcf hin2 (by rw [q2]; exact h6) q1 q3 (by rw [hsl]; exact k2_hasslot (q4 k hk)) rfl rfl hdg fun H' e1 e2 e3 => ?_
    rw [hsl] at e1
    exact kk H' f.slot ⟨_, hq, t_OB.to (V := updV (vp_V fs) k v) ⟨_, e1, q2, q3, t_set q4 hap hk v⟩ (fun j _ => vp_updV_set hl v j)⟩ e2 e3
  · rw [if_neg hf] at hlay
    have h6 := u_store hfc hkC hkind hlay hi (hty k hk) hn hfit
    refine W.putK hexec hb (f := f) ⟨hown, hlink, ⟨_, _, _, hi⟩, hst⟩ (by rw [q2]; exact h6) q1 q3 (by rw [hsl]; exact k2_hasslot (q4 k hk)) rfl rfl hdg fun H' e1 e2 e3 => ?_
    rw [hsl] at e1
    exact kk H' f.slot ⟨_, hq, t_OB.to (V := updV (vp_V fs) k v) ⟨_, e1, q2, q3, t_set q4 hap hk v⟩ (fun j _ => vp_updV_set hl v j)⟩ e2 e3
theorem am_iastc (hexec : p.tables.exec = Jvm.exec) (hb : c.code = cc) {cA : ClassId} {n : Nat} {f : Nat → Int32} (he : va_at D vwCl (a, .inl (cA, n, .inl f)) H) (hA : ArrOfT s cA .int) {i x : Int32} (hin : vp_in i n) (hdg : decode cc pc = .ok (.iastore, 1))
    (kk : ∀ (H1 : Heap) (j : Nat), va_at D vwCl (a, .inl (cA, n, .inl (upd f i.toNatClampNeg x))) H1 → H1.size = H.size → (∀ x : Nat, x ≠ a → H1[x]? = H[x]?) → W p l e R s m args below meth c H1 (locs ++ [⟨a, j⟩]) cells slots Q (F0 m (pc + 1) ls rest)) : W p l e R s m args below meth c H locs cells slots Q (F0 m pc ls (.int x :: .int i :: .ref a :: rest)) := by
  refine W.iast hexec hb he (hA n (fun j => .int (f j))) (fun q => by cases q) (by show ¬ (i < 0 ∨ (arrV _ _ _).slots.size ≤ _); rw [arrV_size]; exact hin) rfl rfl hdg fun H1 e z oq => ?_
  refine kk H1 _ ?_ z oq
  show H1[a]? = some (vp_cell _ _)
  rw [e]
  rw [vp_cell_i, vp_cell_i, arrV_store]
  congr 2
  funext q
  by_cases hq : q = i.toNatClampNeg
  · subst hq
    simp [updV, upd]
  · simp [updV, upd, hq]
theorem am_zastc (hexec : p.tables.exec = Jvm.exec) (hb : c.code = cc) {cA : ClassId} {n : Nat} {f : Nat → Int32} (he : va_at D vwCl (a, .inl (cA, n, .inl f)) H) (hA : ArrOfT s cA .boolean) {i x : Int32} (hin : vp_in i n) (hv : vp_nar .boolean x = x) (hdg : decode cc pc = .ok (.bastore, 1))
    (kk : ∀ (H1 : Heap) (j : Nat), va_at D vwCl (a, .inl (cA, n, .inl (upd f i.toNatClampNeg x))) H1 → H1.size = H.size → (∀ x : Nat, x ≠ a → H1[x]? = H[x]?) → W p l e R s m args below meth c H1 (locs ++ [⟨a, j⟩]) cells slots Q (F0 m (pc + 1) ls rest)) : W p l e R s m args below meth c H locs cells slots Q (F0 m pc ls (.int x :: .int i :: .ref a :: rest)) := by
  refine W.zast hexec hb he (hA n (fun j => .int (f j))) (fun q => by cases q) (by show ¬ (i < 0 ∨ (arrV _ _ _).slots.size ≤ _); rw [arrV_size]; exact hin) rfl rfl hdg fun H1 e z oq => ?_
  refine kk H1 _ ?_ z oq
  rw [← hv]
  show H1[a]? = some (vp_cell _ _)
  rw [e]
  rw [vp_cell_i, vp_cell_i, arrV_store]
  congr 2
  funext q
  by_cases hq : q = i.toNatClampNeg
  · subst hq
    simp [updV, upd, vp_nar]
    try rfl
  · simp [updV, upd, hq]
theorem am_lastc (hexec : p.tables.exec = Jvm.exec) (hb : c.code = cc) {cA : ClassId} {n : Nat} {f : Nat → Int64} (he : va_at D vwCl (a, .inl (cA, n, .inr (.inl f))) H) (hA : ArrOfT s cA .long) {i : Int32} {x : Int64} (hin : vp_in i n) (hdg : decode cc pc = .ok (.lastore, 1))
    (kk : ∀ (H1 : Heap) (j : Nat), va_at D vwCl (a, .inl (cA, n, .inr (.inl (vp_updL f i.toNatClampNeg x)))) H1 → H1.size = H.size → (∀ x : Nat, x ≠ a → H1[x]? = H[x]?) → W p l e R s m args below meth c H1 (locs ++ [⟨a, j⟩]) cells slots Q (F0 m (pc + 1) ls rest)) : W p l e R s m args below meth c H locs cells slots Q (F0 m pc ls (.long x :: .int i :: .ref a :: rest)) := by
  refine W.last hexec hb he (hA n (fun j => .long (f j))) (fun q => by cases q) (by show ¬ (i < 0 ∨ (arrV _ _ _).slots.size ≤ _); rw [arrV_size]; exact hin) rfl rfl hdg fun H1 e z oq => ?_
  refine kk H1 _ ?_ z oq
  show H1[a]? = some (vp_cell _ _)
  rw [e]
  rw [vp_cell_l, vp_cell_l, arrV_store]
  congr 2
  funext q
  by_cases hq : q = i.toNatClampNeg
  · subst hq
    simp [updV, vp_updL]
  · simp [updV, vp_updL, hq]
end AMR
end
section
/-! ===== THE STEP ===== -/
theorem am_cv_int (sb b : Nat) (v : Int32) : am_cv sb b (.int v) = .int v := rfl
theorem am_cv_long (sb b : Nat) (v : Int64) : am_cv sb b (.long v) = .long v := rfl
theorem am_cv_ref (sb b : Nat) (v : Nat) : am_cv sb b (.ref v) = .ref (am_ad sb b v) := rfl
def am_C (p : Program) (l : Launch) (e : Env) (R : Room) (s : State) (m : MethodId) (args : Array Value) (below : List Frame) (meth : Method) (c : Code) (Q : State → Prop) (D : va_G) (sb b Lx nL n0 z0 : Nat) (g : Nat → Nat) (i : Nat) (ls st : List Value) (M : am_M) : Prop :=
  ∀ (H : Heap) (locs : List Loc) (la : Array Slot), am_L sb b ls nL la → am_Wd D sb b Lx M s H → va_S (am_A b) s.heap H locs → W p l e R s m args below meth c H locs (M.1.length - n0) (am_sz M - z0) Q (F0 m (g i) la (st.map (am_cv sb b)))
def am_Fr (p : Program) (R : Room) (s : State) (m : MethodId) (args : Array Value) (meth : Method) (c : Code) (D : va_G) (mi : Nat) : Prop :=
  p.tables.exec = Jvm.exec ∧ c.code = (am_meth mi).2.2.1 ∧ c.maxLocals = (am_meth mi).2.2.2.1 ∧ s.vm.findClass (am_meth mi).1 = some m.cls ∧ ((am_meth mi).2.1.name = "<init>" → meth.name = "<init>") ∧ (∀ w ∈ am_tw, w.before args s = true) ∧ (∀ w ∈ am_nest, va_Nw w s) ∧ va_K D vwCl [] s ∧ R.frames = (am_meth mi).2.2.2.2.2.2.2.2.1 ∧ R.locals = (am_meth mi).2.2.2.2.2.2.2.2.2.1
theorem am_lsw_ok {pc : Nat} {K : List am_E} {dflt : Int} {d : Nat} (hd : (pc : Int) + dflt = (am_g K d : Int)) (v : Int) : ∀ (ps : List (Int × Int)) (ts : List Nat), am_lok pc K ps ts = true → (pc : Int) + Op.lookupswitch.offset ps dflt v = (am_g K (am_lsw ps ts d v) : Int)
  | [], ts, _ => by
    have e : am_lsw [] ts d v = d := by unfold am_lsw; rfl
    rw [e]
    exact hd
  | (k, o) :: ps, [], h => by simp [am_lok] at h
  | (k, o) :: ps, t :: ts, h => by
    simp only [am_lok, Bool.and_eq_true] at h
    rw [Op.lookupswitch.offset_cons]
    unfold am_lsw
    by_cases e : v = k
    · rw [if_pos e.symm, decide_eq_true e]
      exact of_decide_eq_true h.1
    · rw [if_neg (fun z => e z.symm), decide_eq_false e]
      exact am_lsw_ok hd v ps ts h.2
theorem am_set_self {α : Type} {L : List α} {k : Nat} {t : α} (h : L[k]? = some t) : L = L.set k t := by
  apply List.ext_getElem?
  intro j
  by_cases e : k = j
  · subst e
    rw [List.getElem?_set_self (List.getElem?_eq_some_iff.mp h).1, h]
  · rw [List.getElem?_set_ne e]
theorem am_sz_push (M : am_M) (t : Nat × Nat × List Nat) (I : Nat → Nat → Int32) (J : Nat → Nat → Int64) : am_sz (M.1 ++ [t], I, J) = am_sz M + t.2.1 := by
  unfold am_sz
  simp
theorem am_sz_set (M : am_M) (k : Nat) (t u : Nat × Nat × List Nat) (hk : M.1[k]? = some t) (hn : u.2.1 = t.2.1) (I : Nat → Nat → Int32) (J : Nat → Nat → Int64) : am_sz (M.1.set k u, I, J) = am_sz M := by
  unfold am_sz
  have e : (M.1.set k u).map (fun t => t.2.1) = M.1.map (fun t => t.2.1) := by
    apply List.ext_getElem?
    intro j
    simp only [List.getElem?_map]
    by_cases h : k = j
    · subst h
      rw [List.getElem?_set_self (List.getElem?_eq_some_iff.mp hk).1, hk]
      simp [hn]
    · rw [List.getElem?_set_ne h]
  show ((M.1.set k u).map (fun t => t.2.1)).sum = _
  rw [e]
theorem am_gd {n j : Nat} (f : Nat → Value) (hj : j < n) : vp_V ((List.range n).map f) j = f j := by
  unfold vp_V
  rw [List.getD_eq_getElem?_getD, List.getElem?_map, List.getElem?_range hj]
  rfl
theorem am_dn (ci j : Nat) : am_ty ci j = .int ∨ am_ty ci j = .boolean ∨ am_ty ci j = .long ∨ defaultValue (am_ty ci j) = .null := by
  unfold am_ty
  split <;> (first | unfold tyX0 | unfold tyX1 | unfold tyX2 | unfold tyX3 | unfold tyX4 | unfold tyX5 | unfold tyX6) <;> split <;> (first | exact Or.inl rfl | exact Or.inr (Or.inl rfl) | exact Or.inr (Or.inr (Or.inl rfl)) | exact Or.inr (Or.inr (Or.inr rfl)))
theorem am_fs_gen (n j : Nat) (f g : Nat → Value) (v : Value) (hj : j < n) (hv : g j = v) (ho : ∀ a, a ≠ j → g a = f a) : (List.range n).map g = ((List.range n).map f).set j v := by
  apply List.ext_getElem?
  intro a
  by_cases e : j = a
  · subst e
    rw [List.getElem?_set_self (by simpa using hj), List.getElem?_map, List.getElem?_range hj]
    simp [hv]
  · rw [List.getElem?_set_ne e, List.getElem?_map, List.getElem?_map]
    by_cases ha : a < n
    · rw [List.getElem?_range ha]
      simp [ho a (Ne.symm e)]
    · rw [List.getElem?_eq_none (by simpa using ha)]
      rfl
theorem am_fs_int (sb b : Nat) (cA : Nat → ClassId) (M : am_M) (k ci n : Nat) (rs : List Nat) {j : Nat} (hj : j < n) (y : Int32) (hty : am_ty ci j = .int ∨ am_ty ci j = .boolean) : am_cell sb b cA (M.1, am_u M.2.1 k j y, M.2.2) k (ci + 3, n, rs) = .inr (ci, ((List.range n).map (fun j => am_fv sb b M k ci rs j)).set j (.int y)) := by
  show (Sum.inr (ci, (List.range n).map (fun a => am_fv sb b (M.1, am_u M.2.1 k j y, M.2.2) k ci rs a)) : va_E) = _
  rw [am_fs_gen n j (fun a => am_fv sb b M k ci rs a) _ (.int y) hj ?_ ?_]
  · unfold am_fv
    rcases hty with z | z <;> rw [z] <;> simp [am_u]
  · intro a ha
    show am_fv sb b (M.1, am_u M.2.1 k j y, M.2.2) k ci rs a = am_fv sb b M k ci rs a
    unfold am_fv
    have e : am_u M.2.1 k j y k a = M.2.1 k a := by simp [am_u, ha]
    simp only [e]
theorem am_fs_long (sb b : Nat) (cA : Nat → ClassId) (M : am_M) (k ci n : Nat) (rs : List Nat) {j : Nat} (hj : j < n) (y : Int64) (hty : am_ty ci j = .long) : am_cell sb b cA (M.1, M.2.1, am_u M.2.2 k j y) k (ci + 3, n, rs) = .inr (ci, ((List.range n).map (fun j => am_fv sb b M k ci rs j)).set j (.long y)) := by
  show (Sum.inr (ci, (List.range n).map (fun a => am_fv sb b (M.1, M.2.1, am_u M.2.2 k j y) k ci rs a)) : va_E) = _
  rw [am_fs_gen n j (fun a => am_fv sb b M k ci rs a) _ (.long y) hj ?_ ?_]
  · unfold am_fv
    rw [hty]
    simp [am_u]
  · intro a ha
    show am_fv sb b (M.1, M.2.1, am_u M.2.2 k j y) k ci rs a = am_fv sb b M k ci rs a
    unfold am_fv
    have e : am_u M.2.2 k j y k a = M.2.2 k a := by simp [am_u, ha]
    simp only [e]
theorem am_fs_ref (sb b : Nat) (cA : Nat → ClassId) (M : am_M) (k ci n : Nat) (rs : List Nat) {j : Nat} (hj : j < n) (y : Nat) (hty : (∃ t, am_ty ci j = .array t) ∨ ∃ t, am_ty ci j = .object t) (hr : rs.length = n) (T : List (Nat × Nat × List Nat)) : am_cell sb b cA (T, M.2.1, M.2.2) k (ci + 3, n, rs.set j (y + 1)) = .inr (ci, ((List.range n).map (fun j => am_fv sb b M k ci rs j)).set j (.ref (am_ad sb b y))) := by
  show (Sum.inr (ci, (List.range n).map (fun a => am_fv sb b (T, M.2.1, M.2.2) k ci (rs.set j (y + 1)) a)) : va_E) = _
  rw [am_fs_gen n j (fun a => am_fv sb b M k ci rs a) _ (.ref (am_ad sb b y)) hj ?_ ?_]
  · unfold am_fv
    have e : (rs.set j (y + 1))[j]? = some (y + 1) := List.getElem?_set_self (by omega)
    rcases hty with ⟨t, z⟩ | ⟨t, z⟩ <;> simp only [z, e]
  · intro a ha
    show am_fv sb b (T, M.2.1, M.2.2) k ci (rs.set j (y + 1)) a = am_fv sb b M k ci rs a
    unfold am_fv
    rw [List.getElem?_set_ne (Ne.symm ha)]
section AMT
variable {p : Program} {l : Launch} {e : Env} {R : Room} {s : State} {m : MethodId} {args : Array Value} {below : List Frame} {meth : Method} {c : Code} {Q : State → Prop} {D : va_G} {sb b Lx nL n0 z0 : Nat}
set_option maxHeartbeats 8000000 in
set_option maxRecDepth 20000 in
theorem am_step {mi : Nat} (F : am_Fr p R s m args meth c D mi) (G : am_good mi) (hnL : nL = (am_meth mi).2.2.2.1) {i : Nat} {E : am_E} (hE : (am_code mi)[i]? = some E) (hk0 : am_kind E.2.1 E.2.2.1 = 0) {ls st : List Value} {M : am_M} {ps : List Prop} {i' : Nat} {ls' st' : List Value} {M' : am_M} (h : am_stp E.2.1 E.2.2.1 E.2.2.2.1 E.2.2.2.2 i ls st M = some (ps, i', ls', st', M')) (hp : am_all ps) (hn0 : n0 ≤ M.1.length) (hz0 : z0 ≤ am_sz M) (hrc : M'.1.length - n0 ≤ R.cells) (hrs : am_sz M' - z0 ≤ R.slots)
    (kk : am_C p l e R s m args below meth c Q D sb b Lx nL n0 z0 (am_g (am_code mi)) i' ls' st' M') : am_C p l e R s m args below meth c Q D sb b Lx nL n0 z0 (am_g (am_code mi)) i ls st M := by
  intro H locs la hL hW hS
  obtain ⟨hx, hb, hml, hown, hnm, hts, hnest, hK, hfr, hlo⟩ := F
  obtain ⟨hfl, hwd, -, hdec⟩ := G i E hE
  obtain ⟨pc, ins, x, ct, lg⟩ := E
  have hg : am_g (am_code mi) i = pc := by unfold am_g; rw [hE]
  rw [hg]
  have hdg := of_decide_eq_true hdec
  cases ins with
  | iconst q =>
    have h : am_pu i ls st M (.int ct) = _ := h
    obtain ⟨rfl, rfl, rfl, rfl, rfl⟩ := am_pu_i h
    have hf : am_g (am_code mi) (i + 1) = pc + 1 := of_decide_eq_true hfl
    have k := kk H locs la hL hW hS
    rw [hf] at k
    simp only [List.map_cons, am_cv_int] at k
    exact lv_iconst hx hb hdg (of_decide_eq_true hwd) k
  | bipush q =>
    have h : am_pu i ls st M (.int ct) = _ := h
    obtain ⟨rfl, rfl, rfl, rfl, rfl⟩ := am_pu_i h
    have hf : am_g (am_code mi) (i + 1) = pc + 2 := of_decide_eq_true hfl
    have k := kk H locs la hL hW hS
    rw [hf] at k
    simp only [List.map_cons, am_cv_int] at k
    exact lv_bipush hx hb hdg (of_decide_eq_true hwd) k
  | sipush q =>
    have h : am_pu i ls st M (.int ct) = _ := h
    obtain ⟨rfl, rfl, rfl, rfl, rfl⟩ := am_pu_i h
    have hf : am_g (am_code mi) (i + 1) = pc + 3 := of_decide_eq_true hfl
    have k := kk H locs la hL hW hS
    rw [hf] at k
    simp only [List.map_cons, am_cv_int] at k
    exact lv_sipush hx hb hdg (of_decide_eq_true hwd) k
  | ldc q =>
    have h : am_pu i ls st M (.int ct) = _ := h
    obtain ⟨rfl, rfl, rfl, rfl, rfl⟩ := am_pu_i h
    have hf : am_g (am_code mi) (i + 1) = pc + 2 := of_decide_eq_true hfl
    have k := kk H locs la hL hW hS
    rw [hf] at k
    simp only [List.map_cons, am_cv_int] at k
    exact lv_ldc hx hb hown (hts _ (am_has_m hwd)) hdg k
  | ldc_w q =>
    have h : am_pu i ls st M (.int ct) = _ := h
    obtain ⟨rfl, rfl, rfl, rfl, rfl⟩ := am_pu_i h
    have hf : am_g (am_code mi) (i + 1) = pc + 3 := of_decide_eq_true hfl
    have k := kk H locs la hL hW hS
    rw [hf] at k
    simp only [List.map_cons, am_cv_int] at k
    exact lv_ldcw hx hb hown (hts _ (am_has_m hwd)) hdg k
  | lconst q =>
    have h : am_pu i ls st M (.long lg) = _ := h
    obtain ⟨rfl, rfl, rfl, rfl, rfl⟩ := am_pu_i h
    have hf : am_g (am_code mi) (i + 1) = pc + 1 := of_decide_eq_true hfl
    have k := kk H locs la hL hW hS
    rw [hf] at k
    simp only [List.map_cons, am_cv_long] at k
    exact lv_lconst hx hb hdg (of_decide_eq_true hwd) k
  | ldc2_w q =>
    have h : am_pu i ls st M (.long lg) = _ := h
    obtain ⟨rfl, rfl, rfl, rfl, rfl⟩ := am_pu_i h
    have hf : am_g (am_code mi) (i + 1) = pc + 3 := of_decide_eq_true hfl
    have k := kk H locs la hL hW hS
    rw [hf] at k
    simp only [List.map_cons, am_cv_long] at k
    exact lv_ldc2 hx hb hown (hts _ (am_has_m hwd)) hdg k
  | iload_n q =>
    have h : am_ild q.val i ls st M = _ := h
    obtain ⟨v, e1, rfl, rfl, rfl, rfl, rfl⟩ := am_ild_i h
    have hf : am_g (am_code mi) (i + 1) = pc + 1 := of_decide_eq_true hfl
    have k := kk H locs la hL hW hS
    rw [hf] at k
    simp only [List.map_cons, am_cv_int] at k
    exact lv_iload_n hx hb hdg rfl (hL.at e1 rfl) k
  | iload q =>
    have h : am_ild q i ls st M = _ := h
    obtain ⟨v, e1, rfl, rfl, rfl, rfl, rfl⟩ := am_ild_i h
    have hf : am_g (am_code mi) (i + 1) = pc + 2 := of_decide_eq_true hfl
    have k := kk H locs la hL hW hS
    rw [hf] at k
    simp only [List.map_cons, am_cv_int] at k
    exact lv_iload hx hb hdg (hL.at e1 rfl) k
  | aload_n q =>
    have h : am_ald q.val i ls st M = _ := h
    obtain ⟨v, e1, rfl, rfl, rfl, rfl, rfl⟩ := am_ald_i h
    have hf : am_g (am_code mi) (i + 1) = pc + 1 := of_decide_eq_true hfl
    have k := kk H locs la hL hW hS
    rw [hf] at k
    simp only [List.map_cons, am_cv_ref] at k
    exact lv_aload_n hx hb hdg rfl (hL.at e1 rfl) k
  | lload_n q =>
    have h : am_lld q.val i ls st M = _ := h
    obtain ⟨v, e1, e2, rfl, rfl, rfl, rfl, rfl⟩ := am_lld_i h
    have hf : am_g (am_code mi) (i + 1) = pc + 1 := of_decide_eq_true hfl
    have k := kk H locs la hL hW hS
    rw [hf] at k
    simp only [List.map_cons, am_cv_long] at k
    exact lv_lload_n hx hb hdg rfl (hL.at e1 (decide_eq_true e2)) k
  | lload q =>
    have h : am_lld q i ls st M = _ := h
    obtain ⟨v, e1, e2, rfl, rfl, rfl, rfl, rfl⟩ := am_lld_i h
    have hf : am_g (am_code mi) (i + 1) = pc + 2 := of_decide_eq_true hfl
    have k := kk H locs la hL hW hS
    rw [hf] at k
    simp only [List.map_cons, am_cv_long] at k
    exact lv_lload hx hb hdg (hL.at e1 (decide_eq_true e2)) k
  | istore_n q =>
    have h : am_ist q.val i ls st M = _ := h
    obtain ⟨v, r, rfl, e1, rfl, rfl, rfl, rfl, rfl⟩ := am_ist_i h
    have hf : am_g (am_code mi) (i + 1) = pc + 1 := of_decide_eq_true hfl
    simp only [List.map_cons, am_cv_int]
    refine lv_istore_n hx hb hdg rfl hL.2 (by rw [← hL.1]; exact e1) rfl (fun la2 h2 => ?_)
    have k := kk H locs la2 ⟨by rw [List.length_set]; exact hL.1, am_set1 h2 (fun z => by cases z) e1⟩ hW hS
    rw [hf] at k
    exact k
  | istore q =>
    have h : am_ist q i ls st M = _ := h
    obtain ⟨v, r, rfl, e1, rfl, rfl, rfl, rfl, rfl⟩ := am_ist_i h
    have hf : am_g (am_code mi) (i + 1) = pc + 2 := of_decide_eq_true hfl
    simp only [List.map_cons, am_cv_int]
    refine lv_istore hx hb hdg hL.2 (by rw [← hL.1]; exact e1) rfl (fun la2 h2 => ?_)
    have k := kk H locs la2 ⟨by rw [List.length_set]; exact hL.1, am_set1 h2 (fun z => by cases z) e1⟩ hW hS
    rw [hf] at k
    exact k
  | astore_n q =>
    have h : am_ast q.val i ls st M = _ := h
    obtain ⟨v, r, rfl, e1, rfl, rfl, rfl, rfl, rfl⟩ := am_ast_i h
    have hf : am_g (am_code mi) (i + 1) = pc + 1 := of_decide_eq_true hfl
    simp only [List.map_cons, am_cv_ref]
    refine lv_astore_n hx hb hdg rfl hL.2 (by rw [← hL.1]; exact e1) rfl (fun la2 h2 => ?_)
    have k := kk H locs la2 ⟨by rw [List.length_set]; exact hL.1, am_set1 h2 (fun z => by cases z) e1⟩ hW hS
    rw [hf] at k
    exact k
  | lstore_n q =>
    have h : am_lst q.val i ls st M = _ := h
    obtain ⟨v, r, rfl, e1, rfl, rfl, rfl, rfl, rfl⟩ := am_lst_i h
    have hf : am_g (am_code mi) (i + 1) = pc + 1 := of_decide_eq_true hfl
    simp only [List.map_cons, am_cv_long]
    refine lv_lstore_n hx hb hdg rfl hL.2 (by rw [← hL.1]; exact e1) rfl (fun la2 h2 => ?_)
    have k := kk H locs la2 ⟨by rw [List.length_set, List.length_set]; exact hL.1, am_set2 h2 e1⟩ hW hS
    rw [hf] at k
    exact k
  | lstore q =>
    have h : am_lst q i ls st M = _ := h
    obtain ⟨v, r, rfl, e1, rfl, rfl, rfl, rfl, rfl⟩ := am_lst_i h
    have hf : am_g (am_code mi) (i + 1) = pc + 2 := of_decide_eq_true hfl
    simp only [List.map_cons, am_cv_long]
    refine lv_lstore hx hb hdg hL.2 (by rw [← hL.1]; exact e1) rfl (fun la2 h2 => ?_)
    have k := kk H locs la2 ⟨by rw [List.length_set, List.length_set]; exact hL.1, am_set2 h2 e1⟩ hW hS
    rw [hf] at k
    exact k
  | iinc q n =>
    have h : am_inc q ct i ls st M = _ := h
    obtain ⟨v, e1, rfl, rfl, rfl, rfl, rfl⟩ := am_inc_i h
    have hf : am_g (am_code mi) (i + 1) = pc + 3 := of_decide_eq_true hfl
    have hct : Int32.ofInt n = ct := of_decide_eq_true hwd
    have hq : q < ls.length := (List.getElem?_eq_some_iff.mp e1).1
    obtain ⟨j, hj⟩ := List.getElem?_of_mem (am_la_m (sb := sb) (b := b) (q := (q, .int v)) |>.mpr ⟨.int v, e1, rfl, rfl⟩)
    refine lv_iinc hx hb hdg hL.2 hj (by rw [hct]) (by rw [← hL.1]; exact hq) rfl (fun la2 h2 => ?_)
    have k := kk H locs la2 ⟨by rw [List.length_set]; exact hL.1, am_set1 h2 (fun z => by cases z) hq⟩ hW hS
    rw [hf] at k
    exact k
  | iadd =>
    have h : am_i2 (fun a b => a + b) i ls st M = _ := h
    obtain ⟨a1, b1, r, rfl, rfl, rfl, rfl, rfl, rfl⟩ := am_i2_i h
    have hf : am_g (am_code mi) (i + 1) = pc + 1 := of_decide_eq_true hfl
    have k := kk H locs la hL hW hS
    rw [hf] at k
    simp only [List.map_cons, am_cv_int, am_cv_long, am_cv_ref] at k ⊢
    exact lv_iadd hx hb hdg k
  | isub =>
    have h : am_i2 (fun a b => a - b) i ls st M = _ := h
    obtain ⟨a1, b1, r, rfl, rfl, rfl, rfl, rfl, rfl⟩ := am_i2_i h
    have hf : am_g (am_code mi) (i + 1) = pc + 1 := of_decide_eq_true hfl
    have k := kk H locs la hL hW hS
    rw [hf] at k
    simp only [List.map_cons, am_cv_int, am_cv_long, am_cv_ref] at k ⊢
    exact lv_isub hx hb hdg k
  | imul =>
    have h : am_i2 (fun a b => a * b) i ls st M = _ := h
    obtain ⟨a1, b1, r, rfl, rfl, rfl, rfl, rfl, rfl⟩ := am_i2_i h
    have hf : am_g (am_code mi) (i + 1) = pc + 1 := of_decide_eq_true hfl
    have k := kk H locs la hL hW hS
    rw [hf] at k
    simp only [List.map_cons, am_cv_int, am_cv_long, am_cv_ref] at k ⊢
    exact lv_imul hx hb hdg k
  | iand =>
    have h : am_i2 (fun a b => a &&& b) i ls st M = _ := h
    obtain ⟨a1, b1, r, rfl, rfl, rfl, rfl, rfl, rfl⟩ := am_i2_i h
    have hf : am_g (am_code mi) (i + 1) = pc + 1 := of_decide_eq_true hfl
    have k := kk H locs la hL hW hS
    rw [hf] at k
    simp only [List.map_cons, am_cv_int, am_cv_long, am_cv_ref] at k ⊢
    exact lv_iand hx hb hdg k
  | ior =>
    have h : am_i2 (fun a b => a ||| b) i ls st M = _ := h
    obtain ⟨a1, b1, r, rfl, rfl, rfl, rfl, rfl, rfl⟩ := am_i2_i h
    have hf : am_g (am_code mi) (i + 1) = pc + 1 := of_decide_eq_true hfl
    have k := kk H locs la hL hW hS
    rw [hf] at k
    simp only [List.map_cons, am_cv_int, am_cv_long, am_cv_ref] at k ⊢
    exact lv_ior hx hb hdg k
  | ixor =>
    have h : am_i2 (fun a b => a ^^^ b) i ls st M = _ := h
    obtain ⟨a1, b1, r, rfl, rfl, rfl, rfl, rfl, rfl⟩ := am_i2_i h
    have hf : am_g (am_code mi) (i + 1) = pc + 1 := of_decide_eq_true hfl
    have k := kk H locs la hL hW hS
    rw [hf] at k
    simp only [List.map_cons, am_cv_int, am_cv_long, am_cv_ref] at k ⊢
    exact lv_ixor hx hb hdg k
  | ishl =>
    have h : am_i2 (fun a b => a <<< (b &&& 31)) i ls st M = _ := h
    obtain ⟨a1, b1, r, rfl, rfl, rfl, rfl, rfl, rfl⟩ := am_i2_i h
    have hf : am_g (am_code mi) (i + 1) = pc + 1 := of_decide_eq_true hfl
    have k := kk H locs la hL hW hS
    rw [hf] at k
    simp only [List.map_cons, am_cv_int, am_cv_long, am_cv_ref] at k ⊢
    exact lv_ishl hx hb hdg k
  | ishr =>
    have h : am_i2 (fun a b => a >>> (b &&& 31)) i ls st M = _ := h
    obtain ⟨a1, b1, r, rfl, rfl, rfl, rfl, rfl, rfl⟩ := am_i2_i h
    have hf : am_g (am_code mi) (i + 1) = pc + 1 := of_decide_eq_true hfl
    have k := kk H locs la hL hW hS
    rw [hf] at k
    simp only [List.map_cons, am_cv_int, am_cv_long, am_cv_ref] at k ⊢
    exact lv_ishr hx hb hdg k
  | iushr =>
    have h : am_i2 (fun a b => (a.toUInt32 >>> (b.toUInt32 &&& Int32.toUInt32 31)).toInt32) i ls st M = _ := h
    obtain ⟨a1, b1, r, rfl, rfl, rfl, rfl, rfl, rfl⟩ := am_i2_i h
    have hf : am_g (am_code mi) (i + 1) = pc + 1 := of_decide_eq_true hfl
    have k := kk H locs la hL hW hS
    rw [hf] at k
    simp only [List.map_cons, am_cv_int, am_cv_long, am_cv_ref] at k ⊢
    exact lv_iushr hx hb hdg rfl k
  | idiv =>
    have h : am_i2d (fun a b => a / b) i ls st M = _ := h
    obtain ⟨a1, b1, r, rfl, rfl, rfl, rfl, rfl, rfl⟩ := am_i2d_i h
    have hf : am_g (am_code mi) (i + 1) = pc + 1 := of_decide_eq_true hfl
    have k := kk H locs la hL hW hS
    rw [hf] at k
    simp only [List.map_cons, am_cv_int, am_cv_long, am_cv_ref] at k ⊢
    exact lv_idiv hx hb hdg hp k
  | irem =>
    have h : am_i2d (fun a b => a - a / b * b) i ls st M = _ := h
    obtain ⟨a1, b1, r, rfl, rfl, rfl, rfl, rfl, rfl⟩ := am_i2d_i h
    have hf : am_g (am_code mi) (i + 1) = pc + 1 := of_decide_eq_true hfl
    have k := kk H locs la hL hW hS
    rw [hf] at k
    simp only [List.map_cons, am_cv_int, am_cv_long, am_cv_ref] at k ⊢
    exact lv_irem hx hb hdg hp k
  | ladd =>
    have h : am_l2 (fun a b => a + b) i ls st M = _ := h
    obtain ⟨a1, b1, r, rfl, rfl, rfl, rfl, rfl, rfl⟩ := am_l2_i h
    have hf : am_g (am_code mi) (i + 1) = pc + 1 := of_decide_eq_true hfl
    have k := kk H locs la hL hW hS
    rw [hf] at k
    simp only [List.map_cons, am_cv_int, am_cv_long, am_cv_ref] at k ⊢
    exact lv_ladd hx hb hdg k
  | lsub =>
    have h : am_l2 (fun a b => a - b) i ls st M = _ := h
    obtain ⟨a1, b1, r, rfl, rfl, rfl, rfl, rfl, rfl⟩ := am_l2_i h
    have hf : am_g (am_code mi) (i + 1) = pc + 1 := of_decide_eq_true hfl
    have k := kk H locs la hL hW hS
    rw [hf] at k
    simp only [List.map_cons, am_cv_int, am_cv_long, am_cv_ref] at k ⊢
    exact lv_lsub hx hb hdg k
  | land =>
    have h : am_l2 (fun a b => a &&& b) i ls st M = _ := h
    obtain ⟨a1, b1, r, rfl, rfl, rfl, rfl, rfl, rfl⟩ := am_l2_i h
    have hf : am_g (am_code mi) (i + 1) = pc + 1 := of_decide_eq_true hfl
    have k := kk H locs la hL hW hS
    rw [hf] at k
    simp only [List.map_cons, am_cv_int, am_cv_long, am_cv_ref] at k ⊢
    exact lv_land hx hb hdg k
  | lor =>
    have h : am_l2 (fun a b => a ||| b) i ls st M = _ := h
    obtain ⟨a1, b1, r, rfl, rfl, rfl, rfl, rfl, rfl⟩ := am_l2_i h
    have hf : am_g (am_code mi) (i + 1) = pc + 1 := of_decide_eq_true hfl
    have k := kk H locs la hL hW hS
    rw [hf] at k
    simp only [List.map_cons, am_cv_int, am_cv_long, am_cv_ref] at k ⊢
    exact lv_lor hx hb hdg k
  | ldiv =>
    have h : am_l2d (fun a b => a / b) i ls st M = _ := h
    obtain ⟨a1, b1, r, rfl, rfl, rfl, rfl, rfl, rfl⟩ := am_l2d_i h
    have hf : am_g (am_code mi) (i + 1) = pc + 1 := of_decide_eq_true hfl
    have k := kk H locs la hL hW hS
    rw [hf] at k
    simp only [List.map_cons, am_cv_int, am_cv_long, am_cv_ref] at k ⊢
    exact lv_ldiv hx hb hdg hp k
  | lrem =>
    have h : am_l2d (fun a b => a - a / b * b) i ls st M = _ := h
    obtain ⟨a1, b1, r, rfl, rfl, rfl, rfl, rfl, rfl⟩ := am_l2d_i h
    have hf : am_g (am_code mi) (i + 1) = pc + 1 := of_decide_eq_true hfl
    have k := kk H locs la hL hW hS
    rw [hf] at k
    simp only [List.map_cons, am_cv_int, am_cv_long, am_cv_ref] at k ⊢
    exact lv_lrem hx hb hdg hp k
  | lshl =>
    have h : am_ls (fun a b => a <<< (b.toInt64 &&& 63)) i ls st M = _ := h
    obtain ⟨a1, b1, r, rfl, rfl, rfl, rfl, rfl, rfl⟩ := am_ls_i h
    have hf : am_g (am_code mi) (i + 1) = pc + 1 := of_decide_eq_true hfl
    have k := kk H locs la hL hW hS
    rw [hf] at k
    simp only [List.map_cons, am_cv_int, am_cv_long, am_cv_ref] at k ⊢
    exact lv_lshl hx hb hdg rfl k
  | lshr =>
    have h : am_ls (fun a b => a >>> (b.toInt64 &&& 63)) i ls st M = _ := h
    obtain ⟨a1, b1, r, rfl, rfl, rfl, rfl, rfl, rfl⟩ := am_ls_i h
    have hf : am_g (am_code mi) (i + 1) = pc + 1 := of_decide_eq_true hfl
    have k := kk H locs la hL hW hS
    rw [hf] at k
    simp only [List.map_cons, am_cv_int, am_cv_long, am_cv_ref] at k ⊢
    exact lv_lshr hx hb hdg rfl k
  | lcmp =>
    simp only [am_stp] at h
    split at h
    · cases h
      have hf : am_g (am_code mi) (i + 1) = pc + 1 := of_decide_eq_true hfl
      have k := kk H locs la hL hW hS
      rw [hf] at k
      simp only [List.map_cons, am_cv_int, am_cv_long, am_cv_ref] at k ⊢
      exact W.lcmp hx hb hdg k
    · cases h
  | i2l =>
    simp only [am_stp] at h
    split at h
    · cases h
      have hf : am_g (am_code mi) (i + 1) = pc + 1 := of_decide_eq_true hfl
      have k := kk H locs la hL hW hS
      rw [hf] at k
      simp only [List.map_cons, am_cv_int, am_cv_long, am_cv_ref] at k ⊢
      exact lv_i2l hx hb hdg rfl k
    · cases h
  | l2i =>
    simp only [am_stp] at h
    split at h
    · cases h
      have hf : am_g (am_code mi) (i + 1) = pc + 1 := of_decide_eq_true hfl
      have k := kk H locs la hL hW hS
      rw [hf] at k
      simp only [List.map_cons, am_cv_int, am_cv_long, am_cv_ref] at k ⊢
      exact lv_l2i hx hb hdg rfl k
    · cases h
  | dup =>
    have h : am_dup i ls st M = _ := h
    obtain ⟨v, r, hv, rfl, rfl, rfl, rfl, rfl, rfl⟩ := am_dup_i h
    have hf : am_g (am_code mi) (i + 1) = pc + 1 := of_decide_eq_true hfl
    have k := kk H locs la hL hW hS
    rw [hf] at k
    simp only [List.map_cons] at k ⊢
    exact lv_dup hx hb hdg (by rcases hv with ⟨y, rfl⟩ | ⟨y, rfl⟩ <;> rfl) k
  | dup2 =>
    have h : am_dup2 i ls st M = _ := h
    obtain ⟨v, w, r, rfl, rfl, rfl, rfl, rfl, rfl⟩ := am_dup2_i h
    have hf : am_g (am_code mi) (i + 1) = pc + 1 := of_decide_eq_true hfl
    have k := kk H locs la hL hW hS
    rw [hf] at k
    simp only [List.map_cons, am_cv_int, am_cv_long, am_cv_ref] at k ⊢
    exact lv_dup2_11 hx hb hdg rfl rfl k
  | pop =>
    have h : am_pop i ls st M = _ := h
    obtain ⟨v, r, rfl, rfl, rfl, rfl, rfl, rfl⟩ := am_pop_i h
    have hf : am_g (am_code mi) (i + 1) = pc + 1 := of_decide_eq_true hfl
    have k := kk H locs la hL hW hS
    rw [hf] at k
    simp only [List.map_cons, am_cv_int]
    exact lv_pop hx hb hdg rfl k
  | goto off =>
    have h : some (([] : List Prop), x.headD 0, ls, st, M) = _ := h
    cases h
    exact lv_goto hx hb hdg (of_decide_eq_true hfl) (kk H locs la hL hW hS)
  | ifCond cond off =>
    simp only [am_flow, Bool.and_eq_true] at hfl
    have hf : am_g (am_code mi) (i + 1) = pc + 3 := of_decide_eq_true hfl.2
    have ht : (pc : Int) + off = (am_g (am_code mi) (x.headD 0) : Int) := of_decide_eq_true hfl.1
    cases cond with
    | eq =>
      have h : am_b1 x (fun v => decide (v = 0)) i ls st M = _ := h
      obtain ⟨v, r, rfl, rfl, hi, rfl, rfl, rfl⟩ := am_b1_i h
      try dsimp only at hi
      subst hi
      have k := kk H locs la hL hW hS
      simp only [List.map_cons, am_cv_int]
      refine lv_if_eq hx hb hdg ht (fun z => ?_) (fun z => ?_)
      · rw [decide_eq_true z] at k
        simp only [cond_true, cond_false, Bool.not_true, Bool.not_false] at k
        exact k
      · rw [decide_eq_false z] at k
        simp only [cond_true, cond_false, Bool.not_true, Bool.not_false] at k
        rw [← hf]
        exact k
    | ne =>
      have h : am_b1 x (fun v => !decide (v = 0)) i ls st M = _ := h
      obtain ⟨v, r, rfl, rfl, hi, rfl, rfl, rfl⟩ := am_b1_i h
      try dsimp only at hi
      subst hi
      have k := kk H locs la hL hW hS
      simp only [List.map_cons, am_cv_int]
      refine lv_if_ne hx hb hdg ht (fun z => ?_) (fun z => ?_)
      · rw [decide_eq_false z] at k
        simp only [cond_true, cond_false, Bool.not_true, Bool.not_false] at k
        exact k
      · rw [decide_eq_true z] at k
        simp only [cond_true, cond_false, Bool.not_true, Bool.not_false] at k
        rw [← hf]
        exact k
    | lt =>
      have h : am_b1 x (fun v => decide (v < 0)) i ls st M = _ := h
      obtain ⟨v, r, rfl, rfl, hi, rfl, rfl, rfl⟩ := am_b1_i h
      try dsimp only at hi
      subst hi
      have k := kk H locs la hL hW hS
      simp only [List.map_cons, am_cv_int]
      refine lv_if_lt hx hb hdg ht (fun z => ?_) (fun z => ?_)
      · rw [decide_eq_true z] at k
        simp only [cond_true, cond_false, Bool.not_true, Bool.not_false] at k
        exact k
      · rw [decide_eq_false z] at k
        simp only [cond_true, cond_false, Bool.not_true, Bool.not_false] at k
        rw [← hf]
        exact k
    | ge =>
      have h : am_b1 x (fun v => decide (0 ≤ v)) i ls st M = _ := h
      obtain ⟨v, r, rfl, rfl, hi, rfl, rfl, rfl⟩ := am_b1_i h
      try dsimp only at hi
      subst hi
      have k := kk H locs la hL hW hS
      simp only [List.map_cons, am_cv_int]
      refine lv_if_ge hx hb hdg ht (fun z => ?_) (fun z => ?_)
      · rw [decide_eq_true z] at k
        simp only [cond_true, cond_false, Bool.not_true, Bool.not_false] at k
        exact k
      · rw [decide_eq_false z] at k
        simp only [cond_true, cond_false, Bool.not_true, Bool.not_false] at k
        rw [← hf]
        exact k
    | gt =>
      have h : am_b1 x (fun v => decide (0 < v)) i ls st M = _ := h
      obtain ⟨v, r, rfl, rfl, hi, rfl, rfl, rfl⟩ := am_b1_i h
      try dsimp only at hi
      subst hi
      have k := kk H locs la hL hW hS
      simp only [List.map_cons, am_cv_int]
      refine lv_if_gt hx hb hdg ht (fun z => ?_) (fun z => ?_)
      · rw [decide_eq_true z] at k
        simp only [cond_true, cond_false, Bool.not_true, Bool.not_false] at k
        exact k
      · rw [decide_eq_false z] at k
        simp only [cond_true, cond_false, Bool.not_true, Bool.not_false] at k
        rw [← hf]
        exact k
    | le =>
      have h : am_b1 x (fun v => decide (v ≤ 0)) i ls st M = _ := h
      obtain ⟨v, r, rfl, rfl, hi, rfl, rfl, rfl⟩ := am_b1_i h
      try dsimp only at hi
      subst hi
      have k := kk H locs la hL hW hS
      simp only [List.map_cons, am_cv_int]
      refine lv_if_le hx hb hdg ht (fun z => ?_) (fun z => ?_)
      · rw [decide_eq_true z] at k
        simp only [cond_true, cond_false, Bool.not_true, Bool.not_false] at k
        exact k
      · rw [decide_eq_false z] at k
        simp only [cond_true, cond_false, Bool.not_true, Bool.not_false] at k
        rw [← hf]
        exact k
  | if_icmp cond off =>
    simp only [am_flow, Bool.and_eq_true] at hfl
    have hf : am_g (am_code mi) (i + 1) = pc + 3 := of_decide_eq_true hfl.2
    have ht : (pc : Int) + off = (am_g (am_code mi) (x.headD 0) : Int) := of_decide_eq_true hfl.1
    cases cond with
    | eq =>
      have h : am_b2 x (fun v w => decide (v = w)) i ls st M = _ := h
      obtain ⟨v, w, r, rfl, rfl, hi, rfl, rfl, rfl⟩ := am_b2_i h
      try dsimp only at hi
      subst hi
      have k := kk H locs la hL hW hS
      simp only [List.map_cons, am_cv_int]
      refine lv_icmp_eq hx hb hdg ht (fun z => ?_) (fun z => ?_)
      · rw [decide_eq_true z] at k
        simp only [cond_true, cond_false, Bool.not_true, Bool.not_false] at k
        exact k
      · rw [decide_eq_false z] at k
        simp only [cond_true, cond_false, Bool.not_true, Bool.not_false] at k
        rw [← hf]
        exact k
    | ne =>
      have h : am_b2 x (fun v w => !decide (v = w)) i ls st M = _ := h
      obtain ⟨v, w, r, rfl, rfl, hi, rfl, rfl, rfl⟩ := am_b2_i h
      try dsimp only at hi
      subst hi
      have k := kk H locs la hL hW hS
      simp only [List.map_cons, am_cv_int]
      refine lv_icmp_ne hx hb hdg ht (fun z => ?_) (fun z => ?_)
      · rw [decide_eq_false z] at k
        simp only [cond_true, cond_false, Bool.not_true, Bool.not_false] at k
        exact k
      · rw [decide_eq_true z] at k
        simp only [cond_true, cond_false, Bool.not_true, Bool.not_false] at k
        rw [← hf]
        exact k
    | lt =>
      have h : am_b2 x (fun v w => decide (v < w)) i ls st M = _ := h
      obtain ⟨v, w, r, rfl, rfl, hi, rfl, rfl, rfl⟩ := am_b2_i h
      try dsimp only at hi
      subst hi
      have k := kk H locs la hL hW hS
      simp only [List.map_cons, am_cv_int]
      refine lv_icmp_lt hx hb hdg ht (fun z => ?_) (fun z => ?_)
      · rw [decide_eq_true z] at k
        simp only [cond_true, cond_false, Bool.not_true, Bool.not_false] at k
        exact k
      · rw [decide_eq_false z] at k
        simp only [cond_true, cond_false, Bool.not_true, Bool.not_false] at k
        rw [← hf]
        exact k
    | ge =>
      have h : am_b2 x (fun v w => decide (w ≤ v)) i ls st M = _ := h
      obtain ⟨v, w, r, rfl, rfl, hi, rfl, rfl, rfl⟩ := am_b2_i h
      try dsimp only at hi
      subst hi
      have k := kk H locs la hL hW hS
      simp only [List.map_cons, am_cv_int]
      refine lv_icmp_ge hx hb hdg ht (fun z => ?_) (fun z => ?_)
      · rw [decide_eq_true z] at k
        simp only [cond_true, cond_false, Bool.not_true, Bool.not_false] at k
        exact k
      · rw [decide_eq_false z] at k
        simp only [cond_true, cond_false, Bool.not_true, Bool.not_false] at k
        rw [← hf]
        exact k
    | gt =>
      have h : am_b2 x (fun v w => decide (w < v)) i ls st M = _ := h
      obtain ⟨v, w, r, rfl, rfl, hi, rfl, rfl, rfl⟩ := am_b2_i h
      try dsimp only at hi
      subst hi
      have k := kk H locs la hL hW hS
      simp only [List.map_cons, am_cv_int]
      refine lv_icmp_gt hx hb hdg ht (fun z => ?_) (fun z => ?_)
      · rw [decide_eq_true z] at k
        simp only [cond_true, cond_false, Bool.not_true, Bool.not_false] at k
        exact k
      · rw [decide_eq_false z] at k
        simp only [cond_true, cond_false, Bool.not_true, Bool.not_false] at k
        rw [← hf]
        exact k
    | le =>
      have h : am_b2 x (fun v w => decide (v ≤ w)) i ls st M = _ := h
      obtain ⟨v, w, r, rfl, rfl, hi, rfl, rfl, rfl⟩ := am_b2_i h
      try dsimp only at hi
      subst hi
      have k := kk H locs la hL hW hS
      simp only [List.map_cons, am_cv_int]
      refine lv_icmp_le hx hb hdg ht (fun z => ?_) (fun z => ?_)
      · rw [decide_eq_true z] at k
        simp only [cond_true, cond_false, Bool.not_true, Bool.not_false] at k
        exact k
      · rw [decide_eq_false z] at k
        simp only [cond_true, cond_false, Bool.not_true, Bool.not_false] at k
        rw [← hf]
        exact k
  | tableswitch dflt lo hi offs =>
    simp only [am_stp] at h
    split at h
    · rename_i v r
      cases h
      simp only [am_flow, Bool.and_eq_true] at hfl
      obtain ⟨f1, f2⟩ := hfl
      have k := kk H locs la hL hW hS
      simp only [List.map_cons, am_cv_int]
      by_cases z : v.toInt < lo ∨ hi < v.toInt
      · rw [decide_eq_true z] at k
        exact lv_tableOut hx hb hdg z (of_decide_eq_true f1) k
      · rw [decide_eq_false z] at k
        have z1 : ¬ v.toInt < lo := fun q => z (Or.inl q)
        have z2 : ¬ hi < v.toInt := fun q => z (Or.inr q)
        have f3 := List.all_eq_true.mp f2 (v.toInt - lo).toNat (List.mem_range.mpr (by omega))
        cases ho : offs[(v.toInt - lo).toNat]? with
        | none => rw [ho] at f3; cases f3
        | some o =>
          rw [ho] at f3
          exact lv_tableIn hx hb hdg z1 z2 ho (of_decide_eq_true f3) k
    · cases h
  | lookupswitch dflt prs =>
    simp only [am_stp] at h
    split at h
    · rename_i v r
      cases h
      simp only [am_flow, Bool.and_eq_true] at hfl
      obtain ⟨⟨f0, f1⟩, f2⟩ := hfl
      have k := kk H locs la hL hW hS
      simp only [List.map_cons, am_cv_int]
      exact lv_lookup hx hb hdg f0 rfl (am_lsw_ok (of_decide_eq_true f1) v.toInt _ _ f2) k
    · cases h
  | getfield ix =>
    have h : am_get (x.getD 0 0) (x.getD 1 0) i ls st M = _ := h
    obtain ⟨k0, n, rs, v, r, rfl, e1, e2, e3, rfl, rfl, rfl, rfl, rfl⟩ := am_get_i h
    have hf : am_g (am_code mi) (i + 1) = pc + 3 := of_decide_eq_true hfl
    have k := kk H locs la hL hW hS
    rw [hf] at k
    simp only [am_wrd] at hwd
    split at hwd
    · rename_i q hq
      simp only [Bool.and_eq_true] at hwd
      obtain ⟨w1, w2⟩ := hwd
      obtain ⟨hin, -, -, -⟩ := am_cls_ok _ _ hq
      obtain ⟨cA, hW0⟩ := id hW
      obtain ⟨g1, g2, g3, g4, g5⟩ := id hW0
      have hk1 : 0 < k0 := by
        rcases Nat.eq_zero_or_pos k0 with q0 | q0
        · subst q0
          rw [g3] at e1
          have e4 : (100 : Nat) = x.getD 0 0 + 3 := congrArg (fun t => t.1) (Option.some.inj e1)
          have e5 := (am_cls_ok _ _ hq).2.2.2
          omega
        · exact q0
      obtain ⟨-, g7, -⟩ := g5 k0 _ hk1 e1
      simp only [List.map_cons, am_cv_ref]
      rw [show am_ad sb b k0 = b + k0 by unfold am_ad; rw [if_neg (by omega)]]
      exact va_get (T := q.2.1) (N := q.2.2) hx hb hts hin hown hK (am_one g7) 0 rfl hq (x.getD 1 0) (of_decide_eq_true w1) (hts _ (am_has_m w2)) (fun _ h9 => h9) (v := am_cv sb b v) (by rw [List.getElem?_map, List.getElem?_range e2]; exact congrArg some (am_fld_v e3)) hdg k
    · cases hwd
  | iaload =>
    have h : am_iald 0 i ls st M = _ := h
    obtain ⟨j, k0, t, n, rs, r, rfl, e1, e2, rfl, rfl, rfl, rfl, rfl⟩ := am_iald_i h
    have hf : am_g (am_code mi) (i + 1) = pc + 1 := of_decide_eq_true hfl
    have k := kk H locs la hL hW hS
    rw [hf] at k
    obtain ⟨cA, hW0⟩ := id hW
    obtain ⟨g1, g2, g3, g4, g5⟩ := id hW0
    simp only [List.map_cons, am_cv_ref, am_cv_int] at k ⊢
    rcases Nat.eq_zero_or_pos k0 with q0 | q0
    · subst q0
      rw [g3] at e1
      cases e1
      obtain ⟨scr, y1, y2, y3, y4, y5⟩ := g4
      have hlt : j.toNatClampNeg < Lx := Nat.not_le.mp fun q => hp (Or.inr q)
      exact W.iald hx hb y1 y2 y3 (by rw [y4]; exact hp) (y5 _ hlt) rfl rfl hdg k
    · obtain ⟨g6, g7, g8⟩ := g5 k0 _ q0 e1
      have e3 : t = 0 := by
        rcases e2 with z | z
        · exact z
        · exact absurd z.2 g6
      subst e3
      rw [show am_ad sb b k0 = b + k0 by unfold am_ad; rw [if_neg (by omega)]]
      exact va_iald hx hb (am_Ka hK g8) (am_one g7) 0 0 rfl rfl hp hdg k
  | baload =>
    have h : am_iald 2 i ls st M = _ := h
    obtain ⟨j, k0, t, n, rs, r, rfl, e1, e2, rfl, rfl, rfl, rfl, rfl⟩ := am_iald_i h
    have hf : am_g (am_code mi) (i + 1) = pc + 1 := of_decide_eq_true hfl
    have k := kk H locs la hL hW hS
    rw [hf] at k
    obtain ⟨cA, hW0⟩ := id hW
    obtain ⟨g1, g2, g3, g4, g5⟩ := id hW0
    simp only [List.map_cons, am_cv_ref, am_cv_int] at k ⊢
    have e3 : t = 2 := by
      rcases e2 with z | z
      · exact z
      · exact absurd z.1 (by decide)
    subst e3
    rcases Nat.eq_zero_or_pos k0 with q0 | q0
    · subst q0
      rw [g3] at e1
      cases e1
    · obtain ⟨g6, g7, g8⟩ := g5 k0 _ q0 e1
      rw [show am_ad sb b k0 = b + k0 by unfold am_ad; rw [if_neg (by omega)]]
      exact va_zald hx hb (am_Ka hK g8) (am_one g7) 0 0 rfl rfl hp hdg k
  | laload =>
    have h : am_lald i ls st M = _ := h
    obtain ⟨j, k0, n, rs, r, rfl, e1, rfl, rfl, rfl, rfl, rfl⟩ := am_lald_i h
    have hf : am_g (am_code mi) (i + 1) = pc + 1 := of_decide_eq_true hfl
    have k := kk H locs la hL hW hS
    rw [hf] at k
    obtain ⟨cA, hW0⟩ := id hW
    obtain ⟨g1, g2, g3, g4, g5⟩ := id hW0
    simp only [List.map_cons, am_cv_ref, am_cv_int, am_cv_long] at k ⊢
    rcases Nat.eq_zero_or_pos k0 with q0 | q0
    · subst q0
      rw [g3] at e1
      cases e1
    · obtain ⟨g6, g7, g8⟩ := g5 k0 _ q0 e1
      rw [show am_ad sb b k0 = b + k0 by unfold am_ad; rw [if_neg (by omega)]]
      exact va_lald hx hb (am_Ka hK g8) (am_one g7) 0 0 rfl rfl hp hdg k
  | iastore =>
    have h : am_iast i ls st M = _ := h
    obtain ⟨v, j, k0, n, rs, r, rfl, e1, rfl, rfl, rfl, rfl, rfl⟩ := am_iast_i h
    have hf : am_g (am_code mi) (i + 1) = pc + 1 := of_decide_eq_true hfl
    obtain ⟨cA, hW0⟩ := id hW
    obtain ⟨g1, g2, g3, g4, g5⟩ := id hW0
    simp only [List.map_cons, am_cv_ref, am_cv_int, am_cv_long]
    rcases Nat.eq_zero_or_pos k0 with q0 | q0
    · subst q0
      rw [g3] at e1
      cases e1
    · obtain ⟨g6, g7, g8⟩ := g5 k0 _ q0 e1
      rw [show am_ad sb b k0 = b + k0 by unfold am_ad; rw [if_neg (by omega)]]
      refine am_iastc hx hb g7 g8.1 hp hdg (fun H1 j1 a1 z1 o1 => ?_)
      have k := kk H1 (locs ++ [⟨b + k0, j1⟩]) la hL ⟨cA, hW0.set (t := (0, n, rs)) (t' := (0, n, rs)) e1 g6 rfl (by show M.1 = M.1.set k0 (0, n, rs); exact am_set_self e1) (fun a ha => am_u_n _ _ _ ha) (fun a ha => rfl) z1 o1 (by show va_at D vwCl (b + k0, .inl (cA k0, n, .inl (am_u M.2.1 k0 j.toNatClampNeg v k0))) H1; rw [am_u_s]; exact a1)⟩ (hS.put z1 o1 (by show b < b + k0; omega))
      rw [hf] at k
      exact k
  | bastore =>
    have h : am_zast i ls st M = _ := h
    obtain ⟨v, j, k0, n, rs, r, rfl, e1, rfl, rfl, rfl, rfl, rfl⟩ := am_zast_i h
    have hf : am_g (am_code mi) (i + 1) = pc + 1 := of_decide_eq_true hfl
    obtain ⟨cA, hW0⟩ := id hW
    obtain ⟨g1, g2, g3, g4, g5⟩ := id hW0
    simp only [List.map_cons, am_cv_ref, am_cv_int, am_cv_long]
    rcases Nat.eq_zero_or_pos k0 with q0 | q0
    · subst q0
      rw [g3] at e1
      cases e1
    · obtain ⟨g6, g7, g8⟩ := g5 k0 _ q0 e1
      rw [show am_ad sb b k0 = b + k0 by unfold am_ad; rw [if_neg (by omega)]]
      refine am_zastc hx hb g7 g8.1 hp.1 hp.2 hdg (fun H1 j1 a1 z1 o1 => ?_)
      have k := kk H1 (locs ++ [⟨b + k0, j1⟩]) la hL ⟨cA, hW0.set (t := (2, n, rs)) (t' := (2, n, rs)) e1 g6 rfl (by show M.1 = M.1.set k0 (2, n, rs); exact am_set_self e1) (fun a ha => am_u_n _ _ _ ha) (fun a ha => rfl) z1 o1 (by show va_at D vwCl (b + k0, .inl (cA k0, n, .inl (am_u M.2.1 k0 j.toNatClampNeg v k0))) H1; rw [am_u_s]; exact a1)⟩ (hS.put z1 o1 (by show b < b + k0; omega))
      rw [hf] at k
      exact k
  | lastore =>
    have h : am_last i ls st M = _ := h
    obtain ⟨v, j, k0, n, rs, r, rfl, e1, rfl, rfl, rfl, rfl, rfl⟩ := am_last_i h
    have hf : am_g (am_code mi) (i + 1) = pc + 1 := of_decide_eq_true hfl
    obtain ⟨cA, hW0⟩ := id hW
    obtain ⟨g1, g2, g3, g4, g5⟩ := id hW0
    simp only [List.map_cons, am_cv_ref, am_cv_int, am_cv_long]
    rcases Nat.eq_zero_or_pos k0 with q0 | q0
    · subst q0
      rw [g3] at e1
      cases e1
    · obtain ⟨g6, g7, g8⟩ := g5 k0 _ q0 e1
      rw [show am_ad sb b k0 = b + k0 by unfold am_ad; rw [if_neg (by omega)]]
      refine am_lastc hx hb g7 g8.1 hp hdg (fun H1 j1 a1 z1 o1 => ?_)
      have k := kk H1 (locs ++ [⟨b + k0, j1⟩]) la hL ⟨cA, hW0.set (t := (1, n, rs)) (t' := (1, n, rs)) e1 g6 rfl (by show M.1 = M.1.set k0 (1, n, rs); exact am_set_self e1) (fun a ha => rfl) (fun a ha => am_u_n _ _ _ ha) z1 o1 (by show va_at D vwCl (b + k0, .inl (cA k0, n, .inr (.inl (am_u M.2.2 k0 j.toNatClampNeg v k0)))) H1; rw [am_u_s]; exact a1)⟩ (hS.put z1 o1 (by show b < b + k0; omega))
      rw [hf] at k
      exact k
  | arraylength =>
    have h : am_len i ls st M = _ := h
    obtain ⟨k0, t, n, rs, r, rfl, e1, e2, rfl, rfl, rfl, rfl, rfl⟩ := am_len_i h
    have hf : am_g (am_code mi) (i + 1) = pc + 1 := of_decide_eq_true hfl
    have k := kk H locs la hL hW hS
    rw [hf] at k
    obtain ⟨cA, hW0⟩ := id hW
    obtain ⟨g1, g2, g3, g4, g5⟩ := id hW0
    simp only [List.map_cons, am_cv_ref, am_cv_int] at k ⊢
    rcases Nat.eq_zero_or_pos k0 with q0 | q0
    · subst q0
      rw [g3] at e1
      cases e1
      obtain ⟨scr, y1, y2, y3, y4, y5⟩ := g4
      exact W.alen (n := Int32.ofNat Lx) hx hb y1 y2 (by rw [y4] <;> rfl) rfl rfl hdg k
    · obtain ⟨g6, g7, g8⟩ := g5 k0 _ q0 e1
      rw [show am_ad sb b k0 = b + k0 by unfold am_ad; rw [if_neg (by omega)]]
      have e3 : t = 0 ∨ t = 1 ∨ t = 2 := by
        rcases e2 with z | z
        · omega
        · exact absurd z g6
      rcases e3 with rfl | rfl | rfl
      · exact va_alen hx hb (am_Ka hK g8) (am_one g7) 0 0 rfl rfl rfl hdg k
      · exact va_alen hx hb (am_Ka hK g8) (am_one g7) 0 0 rfl rfl rfl hdg k
      · exact va_alen hx hb (am_Ka hK g8) (am_one g7) 0 0 rfl rfl rfl hdg k
  | putfield ix =>
    have h : am_put (x.getD 0 0) (x.getD 1 0) i ls st M = _ := h
    obtain ⟨v, k0, n, rs, r, rfl, e1, ⟨e2, e6⟩, rfl, rfl, rfl, hc⟩ := am_put_i h
    have hf : am_g (am_code mi) (i + 1) = pc + 3 := of_decide_eq_true hfl
    simp only [am_wrd] at hwd
    split at hwd
    · rename_i q hq
      simp only [Bool.and_eq_true, Bool.or_eq_true] at hwd
      obtain ⟨⟨w1, w2⟩, w3⟩ := hwd
      have hfin : (q.2.1 (x.getD 1 0)).2.2.2 = false ∨ (meth.name = "<init>" ∧ (q.2.1 (x.getD 1 0)).1 = (am_meth mi).1) := by
        rcases w3 with z | z
        · left; simpa using z
        · right; simp only [Bool.and_eq_true, decide_eq_true_eq] at z; exact ⟨hnm z.1, z.2⟩
      obtain ⟨cA, hW0⟩ := id hW
      obtain ⟨g1, g2, g3, g4, g5⟩ := id hW0
      have hk1 : 0 < k0 := by
        rcases Nat.eq_zero_or_pos k0 with q0 | q0
        · subst q0
          rw [g3] at e1
          have e4 : (100 : Nat) = x.getD 0 0 + 3 := congrArg (fun t => t.1) (Option.some.inj e1)
          have e5 := (am_cls_ok _ _ hq).2.2.2
          omega
        · exact q0
      obtain ⟨g6, g7, -⟩ := g5 k0 _ hk1 e1
      have hlen : x.getD 1 0 < ((List.range n).map (fun j => am_fv sb b M k0 (x.getD 0 0) rs j)).length := by simpa using e2
      simp only [List.map_cons, am_cv_ref]
      rw [show am_ad sb b k0 = b + k0 by unfold am_ad; rw [if_neg (by omega)]]
      rcases hc with ⟨y, rfl, hty, rfl⟩ | ⟨y, rfl, hty, rfl, rfl⟩ | ⟨y, rfl, hty, rfl, rfl⟩
      · have hnf : narrow (am_ty (x.getD 0 0) (x.getD 1 0)) (.int y) = .int y ∧ fits (am_ty (x.getD 0 0) (x.getD 1 0)) (.int y) = true := by
          rcases hty with ⟨z, -⟩ | ⟨z, rfl⟩
          · rw [z]; exact ⟨rfl, rfl⟩
          · rw [z]
            rcases hp with rfl | rfl
            · exact ⟨by decide, by decide⟩
            · exact ⟨by decide, by decide⟩
        rw [am_cv_int]
        refine am_putc hx hb hts hq hown hK g7 (of_decide_eq_true w1) (hts _ (am_has_m w2)) hfin hnf.1 hnf.2 hlen hdg (fun H1 j1 a1 z1 o1 => ?_)
        have k := kk H1 (locs ++ [⟨b + k0, j1⟩]) la hL ⟨cA, hW0.set (t := (x.getD 0 0 + 3, n, rs)) (t' := (x.getD 0 0 + 3, n, rs)) e1 g6 rfl (by show M.1 = M.1.set k0 _; exact am_set_self e1) (fun a ha => am_u_n _ _ _ ha) (fun a ha => rfl) z1 o1 (by rw [am_fs_int sb b cA M k0 (x.getD 0 0) n rs e2 y (hty.imp And.left And.left)]; exact a1)⟩ (hS.put z1 o1 (by show b < b + k0; omega))
        rw [hf] at k
        exact k
      · have hnf : narrow (am_ty (x.getD 0 0) (x.getD 1 0)) (.long y) = .long y ∧ fits (am_ty (x.getD 0 0) (x.getD 1 0)) (.long y) = true := by rw [hty]; exact ⟨rfl, rfl⟩
        rw [am_cv_long]
        refine am_putc hx hb hts hq hown hK g7 (of_decide_eq_true w1) (hts _ (am_has_m w2)) hfin hnf.1 hnf.2 hlen hdg (fun H1 j1 a1 z1 o1 => ?_)
        have k := kk H1 (locs ++ [⟨b + k0, j1⟩]) la hL ⟨cA, hW0.set (t := (x.getD 0 0 + 3, n, rs)) (t' := (x.getD 0 0 + 3, n, rs)) e1 g6 rfl (by show M.1 = M.1.set k0 _; exact am_set_self e1) (fun a ha => rfl) (fun a ha => am_u_n _ _ _ ha) z1 o1 (by rw [am_fs_long sb b cA M k0 (x.getD 0 0) n rs e2 y hty]; exact a1)⟩ (hS.put z1 o1 (by show b < b + k0; omega))
        rw [hf] at k
        exact k
      · have hnf : narrow (am_ty (x.getD 0 0) (x.getD 1 0)) (.ref (am_ad sb b y)) = .ref (am_ad sb b y) ∧ fits (am_ty (x.getD 0 0) (x.getD 1 0)) (.ref (am_ad sb b y)) = true := by
          rcases hty with ⟨t, z⟩ | ⟨t, z⟩ <;> (rw [z]; exact ⟨rfl, rfl⟩)
        rw [am_cv_ref]
        refine am_putc hx hb hts hq hown hK g7 (of_decide_eq_true w1) (hts _ (am_has_m w2)) hfin hnf.1 hnf.2 hlen hdg (fun H1 j1 a1 z1 o1 => ?_)
        have k := kk H1 (locs ++ [⟨b + k0, j1⟩]) la hL ⟨cA, hW0.set (t := (x.getD 0 0 + 3, n, rs)) (t' := (x.getD 0 0 + 3, n, rs.set (x.getD 1 0) (y + 1))) e1 g6 rfl rfl (fun a ha => rfl) (fun a ha => rfl) z1 o1 (by rw [am_fs_ref sb b cA M k0 (x.getD 0 0) n rs e2 y hty e6 _]; exact a1)⟩ (hS.put z1 o1 (by show b < b + k0; omega))
        rw [hf] at k
        simp only [List.length_set] at k
        rw [am_sz_set M k0 (x.getD 0 0 + 3, n, rs) (x.getD 0 0 + 3, n, rs.set (x.getD 1 0) (y + 1)) e1 rfl] at k
        exact k
    · cases hwd
  | new ix =>
    have h : am_new (x.getD 0 0) (x.getD 1 0) i ls st M = _ := h
    unfold am_new at h
    cases h
    have hf : am_g (am_code mi) (i + 1) = pc + 3 := of_decide_eq_true hfl
    simp only [am_wrd] at hwd
    split at hwd
    · rename_i q hq
      obtain ⟨C, T, N⟩ := q
      simp only [Bool.and_eq_true] at hwd
      obtain ⟨⟨⟨w1, w2⟩, w3⟩, w4⟩ := hwd
      have hN : N = x.getD 1 0 := of_decide_eq_true w1
      obtain ⟨hin, hty, -, hci⟩ := am_cls_ok _ _ hq
      obtain ⟨cA, hW0⟩ := id hW
      obtain ⟨g1, g2, g3, g4, g5⟩ := id hW0
      have hKn := hK.1 _ _ hq
      have hl1 : (M.1 ++ [(x.getD 0 0 + 3, x.getD 1 0, List.replicate (x.getD 1 0) 0)]).length = M.1.length + 1 := by simp
      simp only [hl1] at hrc
      rw [am_sz_push] at hrs
      dsimp only at hrs
      refine W.newcK hx hb hown (hts _ (am_has_m w2)) (hts _ (am_has_m w3)) (hts _ (am_has_m w4)) rfl hdg (by omega) (by omega) hKn.2.1 rfl fun H1 kC hkC a1 z1 o1 => ?_
      have k := kk H1 locs la hL (hW0.push (t := (x.getD 0 0 + 3, x.getD 1 0, List.replicate (x.getD 1 0) 0)) (by show x.getD 0 0 + 3 ≠ 100; omega) z1 o1 0 ?_ trivial) ⟨Nat.le_trans hS.1 (by omega), fun q h1 h2 => (o1 q (Nat.lt_of_lt_of_le h1 hS.1)).trans (hS.2.1 q h1 h2), hS.2.2⟩
      · rw [hf] at k
        simp only [hl1, List.map_cons, am_cv_ref] at k
        rw [am_sz_push] at k
        dsimp only at k
        rw [show M.1.length + 1 - n0 = M.1.length - n0 + 1 by omega, show am_sz M + x.getD 1 0 - z0 = am_sz M - z0 + x.getD 1 0 by omega, show am_ad sb b M.1.length = H.size by unfold am_ad; rw [if_neg (by have := (List.getElem?_eq_some_iff.mp g3).1; omega), g1]] at k
        rw [hN]
        exact k
      · refine ⟨_, hq, (u_born (am_ty (x.getD 0 0)) hts hin hKn hkC a1 hty).to (fun j hj => ?_)⟩
        have hj2 : j < x.getD 1 0 := by rw [← hN]; exact hj
        refine Eq.trans ?_ (am_gd _ hj2).symm
        show defaultValue (am_ty (x.getD 0 0) j) = am_fv _ _ _ _ _ _ _
        have hrs : (List.replicate (x.getD 1 0) 0)[j]? = some 0 := by rw [List.getElem?_replicate, if_pos hj2]
        unfold am_fv
        rcases am_dn (x.getD 0 0) j with z | z | z | z
        · rw [z]; simp [am_z, defaultValue]
        · rw [z]; simp [am_z, defaultValue]
        · rw [z]; simp [am_z, defaultValue]
        · rw [z]
          split <;> rename_i e <;> (try (rw [e] at z; cases z))
          rw [hrs]
    · cases hwd
  | newarray ty =>
    have hf : am_g (am_code mi) (i + 1) = pc + 2 := of_decide_eq_true hfl
    obtain ⟨cA, hW0⟩ := id hW
    obtain ⟨g1, g2, g3, g4, g5⟩ := id hW0
    cases ty with
    | int =>
      have h : am_newa 0 i ls st M = _ := h
      obtain ⟨n, r, rfl, rfl, rfl, rfl, rfl, rfl⟩ := am_newa_i h
      have hl1 : (M.1 ++ [(0, n.toNatClampNeg, ([] : List Nat))]).length = M.1.length + 1 := by simp
      simp only [hl1] at hrc
      rw [am_sz_push] at hrs
      dsimp only at hrs
      simp only [List.map_cons, am_cv_int]
      obtain ⟨hp1, hp2⟩ : ¬ n < 0 ∧ n.toNatClampNeg ≤ 10000 := hp
      refine va_newaK hx hb (hts _ (am_has_m hwd)) rfl hdg rfl hp1 rfl (by show n.toNatClampNeg * 4 ≤ _; omega) (by omega) (by omega) rfl fun H1 c0 a1 z1 o1 hAr hNm => ?_
      have k := kk H1 locs la hL (hW0.push (t := (0, n.toNatClampNeg, ([] : List Nat))) (by show (0 : Nat) ≠ 100; decide) z1 o1 c0 ?_ ⟨hAr, hNm⟩) ⟨Nat.le_trans hS.1 (by omega), fun q h1 h2 => (o1 q (Nat.lt_of_lt_of_le h1 hS.1)).trans (hS.2.1 q h1 h2), hS.2.2⟩
      · rw [hf] at k
        simp only [hl1, List.map_cons, am_cv_ref] at k
        rw [am_sz_push] at k
        dsimp only at k
        rw [show M.1.length + 1 - n0 = M.1.length - n0 + 1 by omega, show am_sz M + n.toNatClampNeg - z0 = am_sz M - z0 + n.toNatClampNeg by omega, show am_ad sb b M.1.length = H.size by unfold am_ad; rw [if_neg (by have := (List.getElem?_eq_some_iff.mp g3).1; omega), g1]] at k
        exact k
      · show H1[H.size]? = some (vp_cell c0 (n.toNatClampNeg, _))
        rw [a1]
        have e0 : am_z M.2.1 M.1.length 0 M.1.length = fun _ => 0 := by funext j; simp [am_z]
        show _ = some (vp_cell c0 (n.toNatClampNeg, .inl (am_z M.2.1 M.1.length 0 M.1.length)))
        rw [e0]
        rfl
    | long =>
      have h : am_newa 1 i ls st M = _ := h
      obtain ⟨n, r, rfl, rfl, rfl, rfl, rfl, rfl⟩ := am_newa_i h
      have hl1 : (M.1 ++ [(1, n.toNatClampNeg, ([] : List Nat))]).length = M.1.length + 1 := by simp
      simp only [hl1] at hrc
      rw [am_sz_push] at hrs
      dsimp only at hrs
      simp only [List.map_cons, am_cv_int]
      obtain ⟨hp1, hp2⟩ : ¬ n < 0 ∧ n.toNatClampNeg ≤ 10000 := hp
      refine va_newaK hx hb (hts _ (am_has_m hwd)) rfl hdg rfl hp1 rfl (by show n.toNatClampNeg * 8 ≤ _; omega) (by omega) (by omega) rfl fun H1 c0 a1 z1 o1 hAr hNm => ?_
      have k := kk H1 locs la hL (hW0.push (t := (1, n.toNatClampNeg, ([] : List Nat))) (by show (1 : Nat) ≠ 100; decide) z1 o1 c0 ?_ ⟨hAr, hNm⟩) ⟨Nat.le_trans hS.1 (by omega), fun q h1 h2 => (o1 q (Nat.lt_of_lt_of_le h1 hS.1)).trans (hS.2.1 q h1 h2), hS.2.2⟩
      · rw [hf] at k
        simp only [hl1, List.map_cons, am_cv_ref] at k
        rw [am_sz_push] at k
        dsimp only at k
        rw [show M.1.length + 1 - n0 = M.1.length - n0 + 1 by omega, show am_sz M + n.toNatClampNeg - z0 = am_sz M - z0 + n.toNatClampNeg by omega, show am_ad sb b M.1.length = H.size by unfold am_ad; rw [if_neg (by have := (List.getElem?_eq_some_iff.mp g3).1; omega), g1]] at k
        exact k
      · show H1[H.size]? = some (vp_cell c0 (n.toNatClampNeg, _))
        rw [a1]
        have e0 : am_z M.2.2 M.1.length 0 M.1.length = fun _ => 0 := by funext j; simp [am_z]
        show _ = some (vp_cell c0 (n.toNatClampNeg, .inr (.inl (am_z M.2.2 M.1.length 0 M.1.length))))
        rw [e0]
        rfl
    | boolean =>
      have h : am_newa 2 i ls st M = _ := h
      obtain ⟨n, r, rfl, rfl, rfl, rfl, rfl, rfl⟩ := am_newa_i h
      have hl1 : (M.1 ++ [(2, n.toNatClampNeg, ([] : List Nat))]).length = M.1.length + 1 := by simp
      simp only [hl1] at hrc
      rw [am_sz_push] at hrs
      dsimp only at hrs
      simp only [List.map_cons, am_cv_int]
      obtain ⟨hp1, hp2⟩ : ¬ n < 0 ∧ n.toNatClampNeg ≤ 10000 := hp
      refine va_newaK hx hb (hts _ (am_has_m hwd)) rfl hdg rfl hp1 rfl (by show n.toNatClampNeg * 1 ≤ _; omega) (by omega) (by omega) rfl fun H1 c0 a1 z1 o1 hAr hNm => ?_
      have k := kk H1 locs la hL (hW0.push (t := (2, n.toNatClampNeg, ([] : List Nat))) (by show (2 : Nat) ≠ 100; decide) z1 o1 c0 ?_ ⟨hAr, hNm⟩) ⟨Nat.le_trans hS.1 (by omega), fun q h1 h2 => (o1 q (Nat.lt_of_lt_of_le h1 hS.1)).trans (hS.2.1 q h1 h2), hS.2.2⟩
      · rw [hf] at k
        simp only [hl1, List.map_cons, am_cv_ref] at k
        rw [am_sz_push] at k
        dsimp only at k
        rw [show M.1.length + 1 - n0 = M.1.length - n0 + 1 by omega, show am_sz M + n.toNatClampNeg - z0 = am_sz M - z0 + n.toNatClampNeg by omega, show am_ad sb b M.1.length = H.size by unfold am_ad; rw [if_neg (by have := (List.getElem?_eq_some_iff.mp g3).1; omega), g1]] at k
        exact k
      · show H1[H.size]? = some (vp_cell c0 (n.toNatClampNeg, _))
        rw [a1]
        have e0 : am_z M.2.1 M.1.length 0 M.1.length = fun _ => 0 := by funext j; simp [am_z]
        show _ = some (vp_cell c0 (n.toNatClampNeg, .inl (am_z M.2.1 M.1.length 0 M.1.length)))
        rw [e0]
        rfl
    | _ => cases h
  | invokespecial ix =>
    have h : am_oini i ls st M = _ := h
    obtain ⟨v, rfl, rfl, rfl, rfl, rfl, rfl⟩ := am_oini_i h
    have hf : am_g (am_code mi) (i + 1) = pc + 3 := of_decide_eq_true hfl
    have k := kk H locs la hL hW hS
    rw [hf] at k
    by_cases z : x.headD 0 = 9999
    · simp only [am_wrd, z, if_true, Bool.and_eq_true] at hwd
      obtain ⟨⟨⟨⟨w1, w2⟩, w3⟩, w4⟩, w5⟩ := hwd
      refine W.objInit hx hb hown (hts _ (am_has_m w1)) (hts _ (am_has_m w2)) (hts _ (am_has_m w3)) rfl (by show la.size = _; rw [hml, ← hnL]; exact hL.2.1) (a := am_ad sb b v) (rest := []) rfl hdg (by rw [hfr]; exact of_decide_eq_true w4) (by rw [hlo]; exact of_decide_eq_true w5) ?_
      exact k
    · have e : am_kind (Instr.invokespecial ix) x = 2 := by unfold am_kind; rw [if_neg z]
      rw [show am_kind (pc, Instr.invokespecial ix, x, ct, lg).2.1 (pc, Instr.invokespecial ix, x, ct, lg).2.2.1 = am_kind (Instr.invokespecial ix) x from rfl, e] at hk0
      cases hk0
  | _ => cases h
end AMT
end
section
/-! ===== A RUN of the little machine is one of the big one ===== -/
def am_le (M M' : am_M) : Prop := M.1.length ≤ M'.1.length ∧ am_sz M ≤ am_sz M'
theorem am_le.rf {M : am_M} : am_le M M := ⟨Nat.le_refl _, Nat.le_refl _⟩
theorem am_le.tr {A B C : am_M} (h : am_le A B) (h2 : am_le B C) : am_le A C := ⟨Nat.le_trans h.1 h2.1, Nat.le_trans h.2 h2.2⟩
theorem am_le_push (M : am_M) (t : Nat × Nat × List Nat) (I : Nat → Nat → Int32) (J : Nat → Nat → Int64) : am_le M (M.1 ++ [t], I, J) := ⟨by simp, by rw [am_sz_push]; omega⟩
set_option maxHeartbeats 4000000 in
theorem am_stp_le {ins : Instr} {x : List Nat} {c : Int32} {d : Int64} {i : Nat} {ls st : List Value} {M : am_M} {ps : List Prop} {i' : Nat} {ls' st' : List Value} {M' : am_M} (h : am_stp ins x c d i ls st M = some (ps, i', ls', st', M')) : am_le M M' := by
  cases ins with
  | iconst q =>
    obtain ⟨-, -, -, -, rfl⟩ := am_pu_i h
    exact ⟨Nat.le_refl _, Nat.le_refl _⟩
  | bipush q =>
    obtain ⟨-, -, -, -, rfl⟩ := am_pu_i h
    exact ⟨Nat.le_refl _, Nat.le_refl _⟩
  | sipush q =>
    obtain ⟨-, -, -, -, rfl⟩ := am_pu_i h
    exact ⟨Nat.le_refl _, Nat.le_refl _⟩
  | ldc q =>
    obtain ⟨-, -, -, -, rfl⟩ := am_pu_i h
    exact ⟨Nat.le_refl _, Nat.le_refl _⟩
  | ldc_w q =>
    obtain ⟨-, -, -, -, rfl⟩ := am_pu_i h
    exact ⟨Nat.le_refl _, Nat.le_refl _⟩
  | lconst q =>
    obtain ⟨-, -, -, -, rfl⟩ := am_pu_i h
    exact ⟨Nat.le_refl _, Nat.le_refl _⟩
  | ldc2_w q =>
    obtain ⟨-, -, -, -, rfl⟩ := am_pu_i h
    exact ⟨Nat.le_refl _, Nat.le_refl _⟩
  | iload_n q =>
    obtain ⟨z0, -, -, -, -, -, rfl⟩ := am_ild_i h
    exact ⟨Nat.le_refl _, Nat.le_refl _⟩
  | iload q =>
    obtain ⟨z0, -, -, -, -, -, rfl⟩ := am_ild_i h
    exact ⟨Nat.le_refl _, Nat.le_refl _⟩
  | aload_n q =>
    obtain ⟨z0, -, -, -, -, -, rfl⟩ := am_ald_i h
    exact ⟨Nat.le_refl _, Nat.le_refl _⟩
  | lload_n q =>
    obtain ⟨z0, -, -, -, -, -, -, rfl⟩ := am_lld_i h
    exact ⟨Nat.le_refl _, Nat.le_refl _⟩
  | lload q =>
    obtain ⟨z0, -, -, -, -, -, -, rfl⟩ := am_lld_i h
    exact ⟨Nat.le_refl _, Nat.le_refl _⟩
  | istore_n q =>
    obtain ⟨z0, z1, -, -, -, -, -, -, rfl⟩ := am_ist_i h
    exact ⟨Nat.le_refl _, Nat.le_refl _⟩
  | istore q =>
    obtain ⟨z0, z1, -, -, -, -, -, -, rfl⟩ := am_ist_i h
    exact ⟨Nat.le_refl _, Nat.le_refl _⟩
  | astore_n q =>
    obtain ⟨z0, z1, -, -, -, -, -, -, rfl⟩ := am_ast_i h
    exact ⟨Nat.le_refl _, Nat.le_refl _⟩
  | lstore_n q =>
    obtain ⟨z0, z1, -, -, -, -, -, -, rfl⟩ := am_lst_i h
    exact ⟨Nat.le_refl _, Nat.le_refl _⟩
  | lstore q =>
    obtain ⟨z0, z1, -, -, -, -, -, -, rfl⟩ := am_lst_i h
    exact ⟨Nat.le_refl _, Nat.le_refl _⟩
  | iinc q n =>
    obtain ⟨z0, -, -, -, -, -, rfl⟩ := am_inc_i h
    exact ⟨Nat.le_refl _, Nat.le_refl _⟩
  | iadd =>
    obtain ⟨z0, z1, z2, -, -, -, -, -, rfl⟩ := am_i2_i h
    exact ⟨Nat.le_refl _, Nat.le_refl _⟩
  | isub =>
    obtain ⟨z0, z1, z2, -, -, -, -, -, rfl⟩ := am_i2_i h
    exact ⟨Nat.le_refl _, Nat.le_refl _⟩
  | imul =>
    obtain ⟨z0, z1, z2, -, -, -, -, -, rfl⟩ := am_i2_i h
    exact ⟨Nat.le_refl _, Nat.le_refl _⟩
  | iand =>
    obtain ⟨z0, z1, z2, -, -, -, -, -, rfl⟩ := am_i2_i h
    exact ⟨Nat.le_refl _, Nat.le_refl _⟩
  | ior =>
    obtain ⟨z0, z1, z2, -, -, -, -, -, rfl⟩ := am_i2_i h
    exact ⟨Nat.le_refl _, Nat.le_refl _⟩
  | ixor =>
    obtain ⟨z0, z1, z2, -, -, -, -, -, rfl⟩ := am_i2_i h
    exact ⟨Nat.le_refl _, Nat.le_refl _⟩
  | ishl =>
    obtain ⟨z0, z1, z2, -, -, -, -, -, rfl⟩ := am_i2_i h
    exact ⟨Nat.le_refl _, Nat.le_refl _⟩
  | ishr =>
    obtain ⟨z0, z1, z2, -, -, -, -, -, rfl⟩ := am_i2_i h
    exact ⟨Nat.le_refl _, Nat.le_refl _⟩
  | iushr =>
    obtain ⟨z0, z1, z2, -, -, -, -, -, rfl⟩ := am_i2_i h
    exact ⟨Nat.le_refl _, Nat.le_refl _⟩
  | idiv =>
    obtain ⟨z0, z1, z2, -, -, -, -, -, rfl⟩ := am_i2d_i h
    exact ⟨Nat.le_refl _, Nat.le_refl _⟩
  | irem =>
    obtain ⟨z0, z1, z2, -, -, -, -, -, rfl⟩ := am_i2d_i h
    exact ⟨Nat.le_refl _, Nat.le_refl _⟩
  | ladd =>
    obtain ⟨z0, z1, z2, -, -, -, -, -, rfl⟩ := am_l2_i h
    exact ⟨Nat.le_refl _, Nat.le_refl _⟩
  | lsub =>
    obtain ⟨z0, z1, z2, -, -, -, -, -, rfl⟩ := am_l2_i h
    exact ⟨Nat.le_refl _, Nat.le_refl _⟩
  | land =>
    obtain ⟨z0, z1, z2, -, -, -, -, -, rfl⟩ := am_l2_i h
    exact ⟨Nat.le_refl _, Nat.le_refl _⟩
  | lor =>
    obtain ⟨z0, z1, z2, -, -, -, -, -, rfl⟩ := am_l2_i h
    exact ⟨Nat.le_refl _, Nat.le_refl _⟩
  | ldiv =>
    obtain ⟨z0, z1, z2, -, -, -, -, -, rfl⟩ := am_l2d_i h
    exact ⟨Nat.le_refl _, Nat.le_refl _⟩
  | lrem =>
    obtain ⟨z0, z1, z2, -, -, -, -, -, rfl⟩ := am_l2d_i h
    exact ⟨Nat.le_refl _, Nat.le_refl _⟩
  | lshl =>
    obtain ⟨z0, z1, z2, -, -, -, -, -, rfl⟩ := am_ls_i h
    exact ⟨Nat.le_refl _, Nat.le_refl _⟩
  | lshr =>
    obtain ⟨z0, z1, z2, -, -, -, -, -, rfl⟩ := am_ls_i h
    exact ⟨Nat.le_refl _, Nat.le_refl _⟩
  | dup =>
    obtain ⟨z0, z1, -, -, -, -, -, -, rfl⟩ := am_dup_i h
    exact ⟨Nat.le_refl _, Nat.le_refl _⟩
  | dup2 =>
    obtain ⟨z0, z1, z2, -, -, -, -, -, rfl⟩ := am_dup2_i h
    exact ⟨Nat.le_refl _, Nat.le_refl _⟩
  | pop =>
    obtain ⟨z0, z1, -, -, -, -, -, rfl⟩ := am_pop_i h
    exact ⟨Nat.le_refl _, Nat.le_refl _⟩
  | getfield q =>
    obtain ⟨z0, z1, z2, z3, z4, -, -, -, -, -, -, -, -, rfl⟩ := am_get_i h
    exact ⟨Nat.le_refl _, Nat.le_refl _⟩
  | putfield q =>
    obtain ⟨v, k, n, rs, r, -, e1, ⟨-, -⟩, -, -, -, hc⟩ := am_put_i (show am_put (x.getD 0 0) (x.getD 1 0) i ls st M = _ from h)
    rcases hc with ⟨y, -, -, rfl⟩ | ⟨y, -, -, -, rfl⟩ | ⟨y, -, -, -, rfl⟩
    · exact ⟨Nat.le_refl _, Nat.le_refl _⟩
    · exact ⟨Nat.le_refl _, Nat.le_refl _⟩
    · exact ⟨by simp, by rw [am_sz_set M k _ (x.getD 0 0 + 3, n, rs.set (x.getD 1 0) (y + 1)) e1 rfl]; exact Nat.le_refl _⟩
  | iaload =>
    obtain ⟨z0, z1, z2, z3, z4, z5, -, -, -, -, -, -, -, rfl⟩ := am_iald_i h
    exact ⟨Nat.le_refl _, Nat.le_refl _⟩
  | baload =>
    obtain ⟨z0, z1, z2, z3, z4, z5, -, -, -, -, -, -, -, rfl⟩ := am_iald_i h
    exact ⟨Nat.le_refl _, Nat.le_refl _⟩
  | laload =>
    obtain ⟨z0, z1, z2, z3, z4, -, -, -, -, -, -, rfl⟩ := am_lald_i h
    exact ⟨Nat.le_refl _, Nat.le_refl _⟩
  | iastore =>
    obtain ⟨z0, z1, z2, z3, z4, z5, -, -, -, -, -, -, rfl⟩ := am_iast_i h
    exact ⟨Nat.le_refl _, Nat.le_refl _⟩
  | bastore =>
    obtain ⟨z0, z1, z2, z3, z4, z5, -, -, -, -, -, -, rfl⟩ := am_zast_i h
    exact ⟨Nat.le_refl _, Nat.le_refl _⟩
  | lastore =>
    obtain ⟨z0, z1, z2, z3, z4, z5, -, -, -, -, -, -, rfl⟩ := am_last_i h
    exact ⟨Nat.le_refl _, Nat.le_refl _⟩
  | arraylength =>
    obtain ⟨z0, z1, z2, z3, z4, -, -, -, -, -, -, -, rfl⟩ := am_len_i h
    exact ⟨Nat.le_refl _, Nat.le_refl _⟩
  | invokespecial q =>
    obtain ⟨z0, -, -, -, -, -, rfl⟩ := am_oini_i h
    exact ⟨Nat.le_refl _, Nat.le_refl _⟩
  | lcmp =>
    simp only [am_stp] at h
    split at h
    · cases h
      exact am_le.rf
    · cases h
  | i2l =>
    simp only [am_stp] at h
    split at h
    · cases h
      exact am_le.rf
    · cases h
  | l2i =>
    simp only [am_stp] at h
    split at h
    · cases h
      exact am_le.rf
    · cases h
  | goto off =>
    have h : some (([] : List Prop), x.headD 0, ls, st, M) = _ := h
    cases h
    exact am_le.rf
  | ifCond cond off =>
    cases cond <;> (obtain ⟨z0, z1, -, -, -, -, -, rfl⟩ := am_b1_i h; exact am_le.rf)
  | if_icmp cond off =>
    cases cond <;> (obtain ⟨z0, z1, z2, -, -, -, -, -, rfl⟩ := am_b2_i h; exact am_le.rf)
  | tableswitch dflt lo hi offs =>
    simp only [am_stp] at h
    split at h
    · cases h
      exact am_le.rf
    · cases h
  | lookupswitch dflt prs =>
    simp only [am_stp] at h
    split at h
    · cases h
      exact am_le.rf
    · cases h
  | new q =>
    have h : am_new (x.getD 0 0) (x.getD 1 0) i ls st M = _ := h
    unfold am_new at h
    cases h
    exact am_le_push _ _ _ _
  | newarray ty =>
    cases ty with
    | int =>
      obtain ⟨n, r, -, -, -, -, -, rfl⟩ := am_newa_i (show am_newa 0 i ls st M = _ from h)
      exact am_le_push _ _ _ _
    | long =>
      obtain ⟨n, r, -, -, -, -, -, rfl⟩ := am_newa_i (show am_newa 1 i ls st M = _ from h)
      exact am_le_push _ _ _ _
    | boolean =>
      obtain ⟨n, r, -, -, -, -, -, rfl⟩ := am_newa_i (show am_newa 2 i ls st M = _ from h)
      exact am_le_push _ _ _ _
    | _ => cases h
  | _ => cases h
/-- what a run comes to, an instruction at a time -/
theorem am_run_i {CT : Nat → List am_E} {YT : Nat → am_Y} {f mi i : Nat} {ls st : List Value} {M : am_M} {v : Option Value} {M' : am_M} (h : am_run CT YT (f + 1) mi i ls st M = some (v, M')) : ∃ E, (CT mi)[i]? = some E ∧
    ((am_kind E.2.1 E.2.2.1 = 0 ∧ ∃ ps i' ls' st' M1, am_stp E.2.1 E.2.2.1 E.2.2.2.1 E.2.2.2.2 i ls st M = some (ps, i', ls', st', M1) ∧ am_all ps ∧ am_run CT YT f mi i' ls' st' M1 = some (v, M')) ∨
     (am_kind E.2.1 E.2.2.1 = 1 ∧ ∃ ps, am_rt E.2.1 (YT mi).2.2.2.2.1 st = some (ps, v) ∧ am_all ps ∧ M' = M) ∨
     (am_kind E.2.1 E.2.2.1 = 2 ∧ ((st.take (YT (E.2.2.1.headD 0)).2.2.2.2.2.1).reverse.length = (YT (E.2.2.1.headD 0)).2.2.2.2.2.1 ∧ (am_arg (st.take (YT (E.2.2.1.headD 0)).2.2.2.2.2.1).reverse).length ≤ (YT (E.2.2.1.headD 0)).2.2.2.1 ∧ am_rcv (YT (E.2.2.1.headD 0)).2.2.2.2.2.2.1 (YT (E.2.2.1.headD 0)).2.2.2.2.2.2.2.1 (st.take (YT (E.2.2.1.headD 0)).2.2.2.2.2.1).reverse M = true ∧ am_cat (st.drop (YT (E.2.2.1.headD 0)).2.2.2.2.2.1) ≤ 8) ∧ ∃ v1 M1, am_run CT YT f (E.2.2.1.headD 0) 0 (am_ent (st.take (YT (E.2.2.1.headD 0)).2.2.2.2.2.1).reverse (YT (E.2.2.1.headD 0)).2.2.2.1) [] M = some (v1, M1) ∧ am_run CT YT f mi (i + 1) ls (v1.toList ++ st.drop (YT (E.2.2.1.headD 0)).2.2.2.2.2.1) M1 = some (v, M'))) := by
  rw [am_run] at h
  cases hE : (CT mi)[i]? with
  | none => rw [hE] at h; cases h
  | some E =>
    rw [hE] at h
    refine ⟨E, rfl, ?_⟩
    dsimp only at h
    have hk3 : am_kind E.2.1 E.2.2.1 = 0 ∨ am_kind E.2.1 E.2.2.1 = 1 ∨ am_kind E.2.1 E.2.2.1 = 2 := by
      unfold am_kind
      split <;> (try split) <;> simp
    rcases hk3 with hk | hk | hk
    · left
      refine ⟨hk, ?_⟩
      rw [hk] at h
      have h : (match am_stp E.2.1 E.2.2.1 E.2.2.2.1 E.2.2.2.2 i ls st M with
        | none => none
        | some (ps, i', ls', st', M') => am_if (am_all ps) (am_run CT YT f mi i' ls' st' M')) = some (v, M') := h
      split at h
      · cases h
      · rename_i e
        obtain ⟨h1, h2⟩ := am_if_s h
        exact ⟨_, _, _, _, _, e, h1, h2⟩
    · right; left
      refine ⟨hk, ?_⟩
      rw [hk] at h
      have h : (match am_rt E.2.1 (YT mi).2.2.2.2.1 st with
        | none => none
        | some (ps, v) => am_if (am_all ps) (some (v, M))) = some (v, M') := h
      split at h
      · cases h
      · rename_i e
        obtain ⟨h1, h2⟩ := am_if_s h
        cases h2
        exact ⟨_, e, h1, rfl⟩
    · right; right
      refine ⟨hk, ?_⟩
      rw [hk] at h
      have h : (if (st.take (YT (E.2.2.1.headD 0)).2.2.2.2.2.1).reverse.length = (YT (E.2.2.1.headD 0)).2.2.2.2.2.1 ∧ (am_arg (st.take (YT (E.2.2.1.headD 0)).2.2.2.2.2.1).reverse).length ≤ (YT (E.2.2.1.headD 0)).2.2.2.1 ∧ am_rcv (YT (E.2.2.1.headD 0)).2.2.2.2.2.2.1 (YT (E.2.2.1.headD 0)).2.2.2.2.2.2.2.1 (st.take (YT (E.2.2.1.headD 0)).2.2.2.2.2.1).reverse M = true ∧ am_cat (st.drop (YT (E.2.2.1.headD 0)).2.2.2.2.2.1) ≤ 8 then
        (match am_run CT YT f (E.2.2.1.headD 0) 0 (am_ent (st.take (YT (E.2.2.1.headD 0)).2.2.2.2.2.1).reverse (YT (E.2.2.1.headD 0)).2.2.2.1) [] M with
        | none => none
        | some (v1, M1) => am_run CT YT f mi (i + 1) ls (v1.toList ++ st.drop (YT (E.2.2.1.headD 0)).2.2.2.2.2.1) M1) else none) = some (v, M') := h
      split at h
      · rename_i hc
        refine ⟨hc, ?_⟩
        split at h
        · cases h
        · rename_i e
          exact ⟨_, _, e, h⟩
      · cases h
theorem am_run_le (CT : Nat → List am_E) (YT : Nat → am_Y) : ∀ (f mi i : Nat) (ls st : List Value) (M : am_M) (v : Option Value) (M' : am_M), am_run CT YT f mi i ls st M = some (v, M') → am_le M M'
  | 0, _, _, _, _, _, _, _, h => by cases h
  | f + 1, mi, i, ls, st, M, v, M', h => by
    obtain ⟨E, -, h⟩ := am_run_i h
    rcases h with ⟨-, ps, i', ls', st', M1, h1, -, h2⟩ | ⟨-, ps, -, -, rfl⟩ | ⟨-, -, v1, M1, h1, h2⟩
    · exact (am_stp_le h1).tr (am_run_le CT YT f _ _ _ _ _ _ _ h2)
    · exact am_le.rf
    · exact (am_run_le CT YT f _ _ _ _ _ _ _ h1).tr (am_run_le CT YT f _ _ _ _ _ _ _ h2)
/-- the world at another state with the same tables -/
theorem am_Wd.moved {D : va_G} {sb b Lx : Nat} {M : am_M} {u U : State} {H : Heap} (hvm : u.vm.Alike U.vm) (h : am_Wd D sb b Lx M u H) : am_Wd D sb b Lx M U H := by
  obtain ⟨cA, h1, h2, h3, h4, h5⟩ := h
  refine ⟨cA, h1, h2, h3, h4.moved hvm, fun k t hk ht => ?_⟩
  obtain ⟨g1, g2, g3⟩ := h5 k t hk ht
  refine ⟨g1, g2, ?_⟩
  unfold am_KA at g3 ⊢
  split at g3
  · exact ⟨arrOfT_moved hvm g3.1, g3.2.moved hvm⟩
  · exact ⟨arrOfT_moved hvm g3.1, g3.2.moved hvm⟩
  · exact ⟨arrOfT_moved hvm g3.1, g3.2.moved hvm⟩
  · trivial
theorem am_nest_w {s U : State} (hW : s.WarmedH U.vm) (h : ∀ w ∈ am_nest, va_Nw w s) : ∀ w ∈ am_nest, va_Nw w U := by
  intro w hw
  have h0 := h w hw
  simp only [am_nest, List.mem_cons, List.not_mem_nil, or_false] at hw
  rcases hw with rfl | rfl | rfl | rfl | rfl | rfl | rfl | rfl <;> exact va_Nw.warmM hW h0
theorem am_nest_s {s U : State} (hv : s.vm = U.vm) (h : ∀ w ∈ am_nest, va_Nw w s) : ∀ w ∈ am_nest, va_Nw w U := by
  intro w hw
  have h0 := h w hw
  simp only [am_nest, List.mem_cons, List.not_mem_nil, or_false] at hw
  rcases hw with rfl | rfl | rfl | rfl | rfl | rfl | rfl | rfl <;> exact va_Nw.same rfl hv h0
/-- a method's beginning: the world -/
def am_B (D : va_G) (sb b Lx : Nat) (M : am_M) (U : State) : Prop := am_Wd D sb b Lx M U U.heap ∧ va_K D vwCl [] U ∧ ∀ w ∈ am_nest, va_Nw w U
theorem am_blind {D : va_G} {sb b Lx : Nat} {M : am_M} {av : List Value} : FrameBlind (va_Pc av (am_B D sb b Lx M)) := fun a U g mk q =>
  ⟨q.1, am_Wd.moved (u := U) (U := U.calling g mk a) (Vm.Alike.refl U.vm) q.2.1, va_K.moved (u := U) (U := U.calling g mk a) (Vm.Alike.refl U.vm) q.2.2.1, am_nest_s (s := U) (U := U.calling g mk a) rfl q.2.2.2⟩
/-- its end -/
def am_Qm (D : va_G) (sb b Lx : Nat) (v : Option Value) (M' : am_M) : Array Value → State → Outcome → State → Prop := fun _ st oc t => (oc = .returned (v.map (am_cv sb b)) ∧ am_Wd D sb b Lx M' t t.heap) ∧ va_F (am_A b) st t
def am_ws (mi : Nat) : List Cond := Cond.code (am_meth mi).2.1 (am_meth mi).2.2.1 (am_meth mi).2.2.2.1 (am_meth mi).2.2.2.2.1 :: am_tw
/-- what the table says of a method -/
theorem am_yf {mi : Nat} (h : am_yk mi = true) : (am_meth mi).1 = (am_meth mi).2.1.cls ∧ am_g (am_code mi) 0 = 0 ∧ ((am_meth mi).2.1.cls ≠ "java/lang/invoke/MethodHandle" ∧ (am_meth mi).2.1.cls ≠ "java/lang/invoke/VarHandle") ∧ plainName (am_meth mi).2.1.cls = true ∧ Cond.code (am_meth mi).2.1 (am_meth mi).2.2.1 (am_meth mi).2.2.2.1 (am_meth mi).2.2.2.2.1 ∈ am_tw ∧ Cond.initialized (am_meth mi).2.1.cls ∈ am_tw ∧
    ((am_meth mi).2.2.2.2.2.2.1 = 0 → Cond.static (am_meth mi).2.1 ∈ am_tw ∧ (parseMethodDescriptor (am_meth mi).2.1.desc).map (fun d => d.parameters.length) = some (am_meth mi).2.2.2.2.2.1) ∧
    ((am_meth mi).2.2.2.2.2.2.1 = 1 → Cond.instanceMethod (am_meth mi).2.1 ∈ am_tw ∧ Cond.selects (am_meth mi).2.1.cls (am_meth mi).2.1 (am_meth mi).2.1 ∈ am_tw ∧ (parseMethodDescriptor (am_meth mi).2.1.desc).map (fun d => d.parameters.length + 1) = some (am_meth mi).2.2.2.2.2.1 ∧ (vwCl[(am_meth mi).2.2.2.2.2.2.2.1]?).map (fun q => q.1) = some (am_meth mi).2.1.cls) ∧
    ((am_meth mi).2.2.2.2.2.2.1 = 2 → Cond.instanceMethod (am_meth mi).2.1 ∈ am_tw ∧ (am_meth mi).2.1.name = "<init>" ∧ (am_meth mi).2.2.2.2.1 = none ∧ (parseMethodDescriptor (am_meth mi).2.1.desc).map (fun d => d.parameters.length + 1) = some (am_meth mi).2.2.2.2.2.1 ∧ (vwCl[(am_meth mi).2.2.2.2.2.2.2.1]?).map (fun q => q.1) = some (am_meth mi).2.1.cls) := by
  unfold am_yk at h
  generalize am_meth mi = Y at h ⊢
  obtain ⟨own, y, bytes, maxL, ret, n, kind, ci, fr, lo, ps⟩ := Y
  dsimp only at h ⊢
  simp only [Bool.and_eq_true, decide_eq_true_eq] at h
  obtain ⟨⟨⟨⟨⟨⟨⟨h1, h0⟩, h2⟩, h3⟩, h4⟩, h5⟩, h6⟩, h7⟩ := h
  refine ⟨h1, h0, ⟨h2, h3⟩, h4, am_has_m h5, am_has_m h6, fun e => ?_, fun e => ?_, fun e => ?_⟩
  · subst e
    simp only [Bool.and_eq_true, decide_eq_true_eq] at h7
    exact ⟨am_has_m h7.1, h7.2⟩
  · subst e
    simp only [Bool.and_eq_true, decide_eq_true_eq] at h7
    exact ⟨am_has_m h7.1.1.1, am_has_m h7.1.1.2, h7.1.2, h7.2⟩
  · subst e
    simp only [Bool.and_eq_true, decide_eq_true_eq] at h7
    exact ⟨am_has_m h7.1.1.1.1, h7.1.1.1.2, h7.1.1.2, h7.1.2, h7.2⟩
theorem am_arg_in (sb b : Nat) : ∀ (as : List Value) (k i : Nat) (v : Value), (am_arg as)[i]? = some v → v ≠ .null → (k + i, am_cv sb b v) ∈ lv_args k (as.map (am_cv sb b))
  | [], k, i, v, h, _ => by simp [am_arg] at h
  | w :: r, k, i, v, h, hn => by
    rw [List.map_cons]
    unfold lv_args
    rw [am_cv_cat]
    unfold am_arg at h
    split at h
    · rename_i e
      rw [if_pos e]
      match i, h with
      | 0, h => cases h; exact List.mem_cons_self
      | 1, h => cases h; exact absurd rfl hn
      | j + 2, h =>
        have := am_arg_in sb b r (k + 2) j v h hn
        rw [show k + (j + 2) = k + 2 + j by omega]
        exact List.mem_cons_of_mem _ this
    · rename_i e
      rw [if_neg e]
      match i, h with
      | 0, h => cases h; exact List.mem_cons_self
      | j + 1, h =>
        have := am_arg_in sb b r (k + 1) j v h hn
        rw [show k + (j + 1) = k + 1 + j by omega]
        exact List.mem_cons_of_mem _ this
theorem am_arg_sl (sb b : Nat) : ∀ (as : List Value), (lg_sl (as.map (am_cv sb b))).length = (am_arg as).length
  | [] => rfl
  | w :: r => by
    have ih := am_arg_sl sb b r
    have hc := am_cv_cat sb b w
    have e0 : lg_sl ((w :: r).map (am_cv sb b)) = lg_sl [am_cv sb b w] ++ lg_sl (r.map (am_cv sb b)) := by
      unfold lg_sl
      simp
    rw [e0, List.length_append, ih]
    rcases lv_cat w with e | e
    · rw [e] at hc
      have e1 : am_arg (w :: r) = w :: am_arg r := by simp [am_arg, e]
      rw [e1]
      simp [lg_sl, hc]
      try omega
    · rw [e] at hc
      have e1 : am_arg (w :: r) = w :: .null :: am_arg r := by simp [am_arg, e]
      rw [e1]
      simp [lg_sl, hc]
      try omega
theorem am_entry {sb b n : Nat} {as : List Value} (h : (am_arg as).length ≤ n) : am_L sb b (am_ent as n) n ((lg_sl (as.map (am_cv sb b)) ++ List.replicate (n - (lg_sl (as.map (am_cv sb b))).length) Slot.unset).toArray) := by
  have hl := lv_entry (as.map (am_cv sb b)) (n := n) (by rw [am_arg_sl]; exact h)
  refine ⟨by unfold am_ent; simp; omega, hl.1, hl.2.1, fun q hq => hl.2.2 q ?_⟩
  obtain ⟨v, h1, h2, h3⟩ := am_la_m.mp hq
  have hv : v ≠ .null := by rintro rfl; cases h2
  unfold am_ent at h1
  rcases Nat.lt_or_ge q.1 (am_arg as).length with z | z
  · rw [List.getElem?_append_left z] at h1
    have := am_arg_in sb b as 0 q.1 v h1 hv
    rw [Nat.zero_add, ← h3] at this
    exact this
  · rw [List.getElem?_append_right z, List.getElem?_replicate] at h1
    split at h1
    · cases h1
      exact absurd rfl hv
    · cases h1
section AMU
variable {p : Program} {l : Launch} {e : Env} {R : Room} {s : State} {m : MethodId} {args : Array Value} {below : List Frame} {meth : Method} {c : Code} {H : Heap} {locs : List Loc} {cells slots : Nat} {Q : State → Prop}
theorem am_callq {pc : Nat} {ls : Array Slot} {rest st0 : List Value} {A0 : Nat → Prop} {H0 : Heap} {mc ms : Nat} {free : Addr → Prop} {Qa : State → Outcome → State → Prop} {vv : Option Value} {Bd : State → Prop} (hr : va_Run p l e R s m args below meth c H locs cells slots mc ms (F0 m pc ls st0) rest Qa free) (hQ : ∀ st oc t, Qa st oc t → (oc = .returned vv ∧ Bd t) ∧ va_F A0 st t) (hS : va_S A0 H0 H locs) (hf : ∀ q, free q → A0 q)
    (kk : ∀ (t : State) (H1 : Heap) (locs1 : List Loc), t.heap = H1 → s.vm.Alike t.vm → Bd t → va_S A0 H0 H1 locs1 → W p l e R s m args below meth c H1 locs1 (cells + mc) (slots + ms) Q (F0 m (pc + 3) ls (vv.toList ++ rest))) : W p l e R s m args below meth c H locs cells slots Q (F0 m pc ls st0) := by
  intro T hT X
  obtain ⟨v, st₀, t, T', L, h0, X', hL, e1, e2, hq, st⟩ := hr T hT X
  obtain ⟨⟨hv, hb⟩, hz, hk⟩ := hQ _ _ _ hq
  cases hv
  rw [h0] at hz hk
  obtain ⟨t2, a1, b1⟩ := kk t T'.heap (locs ++ L) e1.symm (by rw [← e2]; exact X'.warmed.alike) hb
    ⟨Nat.le_trans hS.1 (by rw [e1]; exact hz), fun q h1 h2 => by rw [e1, hk q (Nat.lt_of_lt_of_le h1 hS.1) h2]; exact hS.2.1 q h1 h2, fun q hq => by
      rcases List.mem_append.mp hq with h | h
      · exact hS.2.2 q h
      · exact hf _ (hL q h)⟩ T' rfl X'
  exact ⟨t2, st t2 a1, b1⟩
end AMU
end
section
/-! ===== WHAT A RUN COMES TO, as an equation ===== -/
theorem am_run_mono : ∀ (f mi i : Nat) (ls st : List Value) (M : am_M) (r : Option Value × am_M), am_run am_code am_meth f mi i ls st M = some r → am_run am_code am_meth (f + 1) mi i ls st M = some r
  | 0, _, _, _, _, _, _, h => by cases h
  | f + 1, mi, i, ls, st, M, (v, M'), h => by
    obtain ⟨E, hE, hc⟩ := am_run_i h
    rw [am_run, hE]
    dsimp only
    rcases hc with ⟨hk, ps, i', ls', st', M1, h1, hps, h2⟩ | ⟨hk, ps, hrt, hps, rfl⟩ | ⟨hk, hc, v1, M1, h1, h2⟩
    · rw [hk]
      show (match am_stp E.2.1 E.2.2.1 E.2.2.2.1 E.2.2.2.2 i ls st M with
        | none => none
        | some (ps, i', ls', st', M') => am_if (am_all ps) (am_run am_code am_meth (f + 1) mi i' ls' st' M')) = _
      rw [h1]
      show am_if (am_all ps) _ = _
      rw [am_if_t hps]
      exact am_run_mono f _ _ _ _ _ _ h2
    · rw [hk]
      show (match am_rt E.2.1 (am_meth mi).2.2.2.2.1 st with
        | none => none
        | some (ps, v) => am_if (am_all ps) (some (v, M'))) = _
      rw [hrt]
      show am_if (am_all ps) _ = _
      rw [am_if_t hps]
    · rw [hk]
      show (if (st.take (am_meth (E.2.2.1.headD 0)).2.2.2.2.2.1).reverse.length = (am_meth (E.2.2.1.headD 0)).2.2.2.2.2.1 ∧ (am_arg (st.take (am_meth (E.2.2.1.headD 0)).2.2.2.2.2.1).reverse).length ≤ (am_meth (E.2.2.1.headD 0)).2.2.2.1 ∧ am_rcv (am_meth (E.2.2.1.headD 0)).2.2.2.2.2.2.1 (am_meth (E.2.2.1.headD 0)).2.2.2.2.2.2.2.1 (st.take (am_meth (E.2.2.1.headD 0)).2.2.2.2.2.1).reverse M = true ∧ am_cat (st.drop (am_meth (E.2.2.1.headD 0)).2.2.2.2.2.1) ≤ 8 then
        (match am_run am_code am_meth (f + 1) (E.2.2.1.headD 0) 0 (am_ent (st.take (am_meth (E.2.2.1.headD 0)).2.2.2.2.2.1).reverse (am_meth (E.2.2.1.headD 0)).2.2.2.1) [] M with
        | none => none
        | some (v1, M1) => am_run am_code am_meth (f + 1) mi (i + 1) ls (v1.toList ++ st.drop (am_meth (E.2.2.1.headD 0)).2.2.2.2.2.1) M1) else none) = _
      rw [if_pos hc, am_run_mono f _ _ _ _ _ _ h1]
      exact am_run_mono f _ _ _ _ _ _ h2
theorem am_run_up {f g mi i : Nat} {ls st : List Value} {M : am_M} {r : Option Value × am_M} (h : am_run am_code am_meth f mi i ls st M = some r) (hg : f ≤ g) : am_run am_code am_meth g mi i ls st M = some r := by
  induction hg with
  | refl => exact h
  | step _ ih => exact am_run_mono _ _ _ _ _ _ _ ih
noncomputable def am_sem (mi i : Nat) (ls st : List Value) (M : am_M) : Option (Option Value × am_M) := @dite _ (∃ (f : Nat) (r : Option Value × am_M), am_run am_code am_meth f mi i ls st M = some r) (Classical.propDecidable _) (fun h => some h.choose_spec.choose) (fun _ => none)
theorem am_sem_of {f mi i : Nat} {ls st : List Value} {M : am_M} {r : Option Value × am_M} (h : am_run am_code am_meth f mi i ls st M = some r) : am_sem mi i ls st M = some r := by
  unfold am_sem
  have hx : ∃ (f : Nat) (r : Option Value × am_M), am_run am_code am_meth f mi i ls st M = some r := ⟨f, r, h⟩
  rw [dif_pos hx]
  have h2 := hx.choose_spec.choose_spec
  have h3 := am_run_up h2 (Nat.le_max_left hx.choose f)
  have h4 := am_run_up h (Nat.le_max_right hx.choose f)
  exact h3.symm.trans h4
theorem am_sem_some {mi i : Nat} {ls st : List Value} {M : am_M} {r : Option Value × am_M} (h : am_sem mi i ls st M = some r) : ∃ f, am_run am_code am_meth f mi i ls st M = some r := by
  unfold am_sem at h
  split at h
  · rename_i hx
    have h2 := hx.choose_spec.choose_spec
    exact ⟨_, h2.trans h⟩
  · cases h
theorem am_sem_ext {mi i mi2 i2 : Nat} {ls st ls2 st2 : List Value} {M M2 : am_M} (h1 : ∀ f r, am_run am_code am_meth f mi i ls st M = some r → ∃ g, am_run am_code am_meth g mi2 i2 ls2 st2 M2 = some r) (h2 : ∀ f r, am_run am_code am_meth f mi2 i2 ls2 st2 M2 = some r → ∃ g, am_run am_code am_meth g mi i ls st M = some r) : am_sem mi i ls st M = am_sem mi2 i2 ls2 st2 M2 := by
  cases e1 : am_sem mi i ls st M with
  | some r =>
    obtain ⟨f, hf⟩ := am_sem_some e1
    obtain ⟨g, hg⟩ := h1 f r hf
    exact (am_sem_of hg).symm
  | none =>
    cases e2 : am_sem mi2 i2 ls2 st2 M2 with
    | none => rfl
    | some r =>
      obtain ⟨f, hf⟩ := am_sem_some e2
      obtain ⟨g, hg⟩ := h2 f r hf
      rw [am_sem_of hg] at e1
      cases e1
/-- a plain instruction -/
theorem am_sem_pl {mi i : Nat} {ls st : List Value} {M : am_M} {E : am_E} (hE : (am_code mi)[i]? = some E) (hk : am_kind E.2.1 E.2.2.1 = 0) {ps : List Prop} {i' : Nat} {ls' st' : List Value} {M' : am_M} (h : am_stp E.2.1 E.2.2.1 E.2.2.2.1 E.2.2.2.2 i ls st M = some (ps, i', ls', st', M')) : am_sem mi i ls st M = am_if (am_all ps) (am_sem mi i' ls' st' M') := by
  have hrun : ∀ f, am_run am_code am_meth (f + 1) mi i ls st M = am_if (am_all ps) (am_run am_code am_meth f mi i' ls' st' M') := by
    intro f
    rw [am_run, hE]
    dsimp only
    rw [hk]
    show (match am_stp E.2.1 E.2.2.1 E.2.2.2.1 E.2.2.2.2 i ls st M with
      | none => none
      | some (ps, i', ls', st', M') => am_if (am_all ps) (am_run am_code am_meth f mi i' ls' st' M')) = _
    rw [h]
  by_cases hp : am_all ps
  · rw [am_if_t hp]
    refine am_sem_ext (fun f r hf => ?_) (fun f r hf => ⟨f + 1, by rw [hrun, am_if_t hp]; exact hf⟩)
    match f, hf with
    | 0, hf => cases hf
    | f + 1, hf =>
      rw [hrun, am_if_t hp] at hf
      exact ⟨f, hf⟩
  · rw [am_if_f hp]
    cases e1 : am_sem mi i ls st M with
    | none => rfl
    | some r =>
      obtain ⟨f, hf⟩ := am_sem_some e1
      match f, hf with
      | 0, hf => cases hf
      | f + 1, hf =>
        rw [hrun, am_if_f hp] at hf
        cases hf
theorem am_sem_rt {mi i : Nat} {ls st : List Value} {M : am_M} {E : am_E} (hE : (am_code mi)[i]? = some E) (hk : am_kind E.2.1 E.2.2.1 = 1) {ps : List Prop} {v : Option Value} (h : am_rt E.2.1 (am_meth mi).2.2.2.2.1 st = some (ps, v)) : am_sem mi i ls st M = am_if (am_all ps) (some (v, M)) := by
  have hrun : ∀ f, am_run am_code am_meth (f + 1) mi i ls st M = am_if (am_all ps) (some (v, M)) := by
    intro f
    rw [am_run, hE]
    dsimp only
    rw [hk]
    show (match am_rt E.2.1 (am_meth mi).2.2.2.2.1 st with
      | none => none
      | some (ps, v) => am_if (am_all ps) (some (v, M))) = _
    rw [h]
  by_cases hp : am_all ps
  · rw [am_if_t hp]
    exact am_sem_of (f := 1) (by rw [hrun, am_if_t hp])
  · rw [am_if_f hp]
    cases e1 : am_sem mi i ls st M with
    | none => rfl
    | some r =>
      obtain ⟨f, hf⟩ := am_sem_some e1
      match f, hf with
      | 0, hf => cases hf
      | f + 1, hf =>
        rw [hrun, am_if_f hp] at hf
        cases hf
theorem am_sem_cl {mi i : Nat} {ls st : List Value} {M : am_M} {E : am_E} (hE : (am_code mi)[i]? = some E) (hk : am_kind E.2.1 E.2.2.1 = 2) (hc : (st.take (am_meth (E.2.2.1.headD 0)).2.2.2.2.2.1).reverse.length = (am_meth (E.2.2.1.headD 0)).2.2.2.2.2.1 ∧ (am_arg (st.take (am_meth (E.2.2.1.headD 0)).2.2.2.2.2.1).reverse).length ≤ (am_meth (E.2.2.1.headD 0)).2.2.2.1 ∧ am_rcv (am_meth (E.2.2.1.headD 0)).2.2.2.2.2.2.1 (am_meth (E.2.2.1.headD 0)).2.2.2.2.2.2.2.1 (st.take (am_meth (E.2.2.1.headD 0)).2.2.2.2.2.1).reverse M = true ∧ am_cat (st.drop (am_meth (E.2.2.1.headD 0)).2.2.2.2.2.1) ≤ 8) : am_sem mi i ls st M = (am_sem (E.2.2.1.headD 0) 0 (am_ent (st.take (am_meth (E.2.2.1.headD 0)).2.2.2.2.2.1).reverse (am_meth (E.2.2.1.headD 0)).2.2.2.1) [] M).bind (fun r => am_sem mi (i + 1) ls (r.1.toList ++ st.drop (am_meth (E.2.2.1.headD 0)).2.2.2.2.2.1) r.2) := by
  have hrun : ∀ f, am_run am_code am_meth (f + 1) mi i ls st M = (match am_run am_code am_meth f (E.2.2.1.headD 0) 0 (am_ent (st.take (am_meth (E.2.2.1.headD 0)).2.2.2.2.2.1).reverse (am_meth (E.2.2.1.headD 0)).2.2.2.1) [] M with
      | none => none
      | some (v1, M1) => am_run am_code am_meth f mi (i + 1) ls (v1.toList ++ st.drop (am_meth (E.2.2.1.headD 0)).2.2.2.2.2.1) M1) := by
    intro f
    rw [am_run, hE]
    dsimp only
    rw [hk]
    show (if (st.take (am_meth (E.2.2.1.headD 0)).2.2.2.2.2.1).reverse.length = (am_meth (E.2.2.1.headD 0)).2.2.2.2.2.1 ∧ (am_arg (st.take (am_meth (E.2.2.1.headD 0)).2.2.2.2.2.1).reverse).length ≤ (am_meth (E.2.2.1.headD 0)).2.2.2.1 ∧ am_rcv (am_meth (E.2.2.1.headD 0)).2.2.2.2.2.2.1 (am_meth (E.2.2.1.headD 0)).2.2.2.2.2.2.2.1 (st.take (am_meth (E.2.2.1.headD 0)).2.2.2.2.2.1).reverse M = true ∧ am_cat (st.drop (am_meth (E.2.2.1.headD 0)).2.2.2.2.2.1) ≤ 8 then _ else none) = _
    rw [if_pos hc]
    rfl
  cases e1 : am_sem (E.2.2.1.headD 0) 0 (am_ent (st.take (am_meth (E.2.2.1.headD 0)).2.2.2.2.2.1).reverse (am_meth (E.2.2.1.headD 0)).2.2.2.1) [] M with
  | none =>
    show am_sem mi i ls st M = none
    cases e2 : am_sem mi i ls st M with
    | none => rfl
    | some r =>
      obtain ⟨f, hf⟩ := am_sem_some e2
      match f, hf with
      | 0, hf => cases hf
      | f + 1, hf =>
        rw [hrun] at hf
        split at hf
        · cases hf
        · rename_i v1 M1 e3
          rw [am_sem_of e3] at e1
          cases e1
  | some q =>
    obtain ⟨v1, M1⟩ := q
    obtain ⟨g, hg⟩ := am_sem_some e1
    show am_sem mi i ls st M = am_sem mi (i + 1) ls (v1.toList ++ st.drop (am_meth (E.2.2.1.headD 0)).2.2.2.2.2.1) M1
    refine am_sem_ext (fun f r hf => ?_) (fun f r hf => ?_)
    · match f, hf with
      | 0, hf => cases hf
      | f + 1, hf =>
        rw [hrun] at hf
        split at hf
        · cases hf
        · rename_i v2 M2 e3
          have e4 := (am_sem_of e3).symm.trans e1
          cases e4
          exact ⟨f, hf⟩
    · refine ⟨(max f g) + 1, ?_⟩
      rw [hrun, am_run_up hg (Nat.le_max_right f g)]
      exact am_run_up hf (Nat.le_max_left f g)
/-- some instructions in a row, the last of which may branch -/
def am_go : List am_E → Nat → List Value → List Value → am_M → am_O
  | [], i, ls, st, M => some ([], i, ls, st, M)
  | E :: r, i, ls, st, M => match am_kind E.2.1 E.2.2.1 with
    | 0 => (match am_stp E.2.1 E.2.2.1 E.2.2.2.1 E.2.2.2.2 i ls st M with
      | none => none
      | some (ps, i', ls', st', M1) => match r with
        | [] => some (ps, i', ls', st', M1)
        | _ :: _ => if i' = i + 1 then (match am_go r (i + 1) ls' st' M1 with
          | none => none
          | some (qs, o) => some (ps ++ qs, o)) else none)
    | _ => none
theorem am_all_app (p q : List Prop) : am_all (p ++ q) ↔ am_all p ∧ am_all q := by
  induction p with
  | nil => simp [am_all]
  | cons a p ih =>
    cases p with
    | nil =>
      cases q with
      | nil => simp [am_all]
      | cons b q => simp [am_all]
    | cons b p =>
      show (a ∧ am_all (b :: p ++ q)) ↔ (a ∧ am_all (b :: p)) ∧ am_all q
      rw [ih, and_assoc]
theorem am_if_if {α : Type} (p q : Prop) (v : Option α) : am_if p (am_if q v) = am_if (p ∧ q) v := by
  by_cases hp : p
  · rw [am_if_t hp]
    by_cases hq : q
    · rw [am_if_t hq, am_if_t ⟨hp, hq⟩]
    · rw [am_if_f hq, am_if_f (fun h => hq h.2)]
  · rw [am_if_f hp, am_if_f (fun h => hp h.1)]
theorem am_sem_gl {mi : Nat} : ∀ (B : List am_E) (i : Nat) (ls st : List Value) (M : am_M) (ps : List Prop) (i' : Nat) (ls' st' : List Value) (M' : am_M), B <+: (am_code mi).drop i → am_go B i ls st M = some (ps, i', ls', st', M') → am_sem mi i ls st M = am_if (am_all ps) (am_sem mi i' ls' st' M')
  | [], i, ls, st, M, ps, i', ls', st', M', _, h => by
    cases h
    rw [am_if_t (p := am_all []) trivial]
  | E :: r, i, ls, st, M, ps, i', ls', st', M', hB, h => by
    obtain ⟨R, hR⟩ := hB
    have hE : (am_code mi)[i]? = some E := by
      have : ((am_code mi).drop i)[0]? = some E := by rw [← hR]; rfl
      rwa [List.getElem?_drop, Nat.add_zero] at this
    have hB2 : r <+: (am_code mi).drop (i + 1) := by
      refine ⟨R, ?_⟩
      have : ((am_code mi).drop i).drop 1 = r ++ R := by rw [← hR]; rfl
      rw [List.drop_drop] at this
      exact this.symm
    rw [am_go] at h
    have hk3 : am_kind E.2.1 E.2.2.1 = 0 ∨ am_kind E.2.1 E.2.2.1 = 1 ∨ am_kind E.2.1 E.2.2.1 = 2 := by
      unfold am_kind
      split <;> (try split) <;> simp
    rcases hk3 with hk | hk | hk
    · rw [hk] at h
      cases h1 : am_stp E.2.1 E.2.2.1 E.2.2.2.1 E.2.2.2.2 i ls st M with
      | none => rw [h1] at h; cases h
      | some o =>
        obtain ⟨ps1, i1, ls1, st1, M1⟩ := o
        rw [h1] at h
        rw [am_sem_pl hE hk h1]
        cases r with
        | nil => cases h; rfl
        | cons E2 r2 =>
          have h9 : (if i1 = i + 1 then (match am_go (E2 :: r2) (i + 1) ls1 st1 M1 with
            | none => none
            | some (qs, o) => some (ps1 ++ qs, o)) else none) = some (ps, i', ls', st', M') := h
          clear h
          split at h9
          · rename_i hi
            subst hi
            cases h2 : am_go (E2 :: r2) (i + 1) ls1 st1 M1 with
            | none => rw [h2] at h9; cases h9
            | some o2 =>
              obtain ⟨qs, i2, ls2, st2, M2⟩ := o2
              rw [h2] at h9
              cases h9
              rw [am_sem_gl (E2 :: r2) (i + 1) ls1 st1 M1 qs i' ls' st' M' hB2 h2, am_if_if]
              by_cases hp : am_all ps1 ∧ am_all qs
              · rw [am_if_t hp, am_if_t ((am_all_app _ _).mpr hp)]
              · rw [am_if_f hp, am_if_f (fun z => hp ((am_all_app _ _).mp z))]
          · cases h9
    · rw [hk] at h; cases h
    · rw [hk] at h; cases h
def am_blk (mi i n : Nat) : List am_E := ((am_code mi).drop i).take n
theorem am_sem_go {mi i : Nat} (n : Nat) {ls st : List Value} {M : am_M} {ps : List Prop} {i' : Nat} {ls' st' : List Value} {M' : am_M} (h : am_go (am_blk mi i n) i ls st M = some (ps, i', ls', st', M')) : am_sem mi i ls st M = am_if (am_all ps) (am_sem mi i' ls' st' M') :=
  am_sem_gl _ i ls st M ps i' ls' st' M' (List.take_prefix _ _) h
theorem am_sem_g0 {mi i : Nat} (n : Nat) {ls st : List Value} {M : am_M} {i' : Nat} {ls' st' : List Value} {M' : am_M} (h : am_go (am_blk mi i n) i ls st M = some ([], i', ls', st', M')) : am_sem mi i ls st M = am_sem mi i' ls' st' M' := by
  rw [am_sem_go n h, am_if_t (p := am_all []) trivial]
theorem am_sem_bif {mi a b : Nat} {p : Prop} [Decidable p] {ls st : List Value} {M : am_M} : am_sem mi (bif decide p then a else b) ls st M = if p then am_sem mi a ls st M else am_sem mi b ls st M := by
  by_cases h : p
  · rw [decide_eq_true h, if_pos h]
    rfl
  · rw [decide_eq_false h, if_neg h]
    rfl
theorem am_sem_bnf {mi a b : Nat} {p : Prop} [Decidable p] {ls st : List Value} {M : am_M} : am_sem mi (bif !decide p then a else b) ls st M = if p then am_sem mi b ls st M else am_sem mi a ls st M := by
  by_cases h : p
  · rw [decide_eq_true h, if_pos h]
    rfl
  · rw [decide_eq_false h, if_neg h]
    rfl
end
section
/-! ===== Math.max, Math.min: what they come to ===== -/
theorem am_sem_ret1 {mi i : Nat} {ls st : List Value} {M : am_M} {E : am_E} (hE : (am_code mi)[i]? = some E) (hk : am_kind E.2.1 E.2.2.1 = 1) {v : Option Value} (h : am_rt E.2.1 (am_meth mi).2.2.2.2.1 st = some ([], v)) : am_sem mi i ls st M = some (v, M) := by
  rw [am_sem_rt hE hk h, am_if_t (p := am_all []) trivial]
/-- a method that begins with its two ints has two ints -/
theorem am_two_run {f n : Nat} {ls : List Value} {M M' : am_M} {v : Option Value} (h0 : (am_code n)[0]? = some (0, .iload_n 0, [], 0, 0)) (h1 : (am_code n)[1]? = some (1, .iload_n 1, [], 0, 0)) (h : am_run am_code am_meth f n 0 ls [] M = some (v, M')) : ∃ x y : Int32, ls[0]? = some (.int x) ∧ ls[1]? = some (.int y) := by
  match f, h with
  | 0, h => cases h
  | f + 1, h =>
    obtain ⟨E, hE, hc⟩ := am_run_i h
    rw [h0] at hE
    cases hE
    rcases hc with ⟨-, ps, i', ls', st', M1, e1, -, h2⟩ | ⟨hk, -⟩ | ⟨hk, -⟩
    · have e1 : am_ild 0 0 ls [] M = some (ps, i', ls', st', M1) := e1
      obtain ⟨x, hx, -, rfl, rfl, rfl, rfl⟩ := am_ild_i e1
      match f, h2 with
      | 0, h2 => cases h2
      | f + 1, h2 =>
        obtain ⟨E, hE, hc⟩ := am_run_i h2
        have h1 : (am_code n)[0 + 1]? = some (1, .iload_n 1, [], 0, 0) := h1
        rw [h1] at hE
        cases hE
        rcases hc with ⟨-, ps2, i2, ls2, st2, M2, e2, -, -⟩ | ⟨hk, -⟩ | ⟨hk, -⟩
        · obtain ⟨y, hy, -⟩ := am_ild_i (k := 1) e2
          exact ⟨x, y, hx, hy⟩
        · exact absurd hk (by decide)
        · exact absurd hk (by decide)
    · exact absurd hk (by decide)
    · exact absurd hk (by decide)
theorem am_two {as : List Value} (hna : as.length = 2) (hlen : (am_arg as).length ≤ 2) (h : ∃ x y : Int32, (am_ent as 2)[0]? = some (.int x) ∧ (am_ent as 2)[1]? = some (.int y)) : ∃ x y : Int32, as = [.int x, .int y] := by
  obtain ⟨x, y, hx, hy⟩ := h
  match as, hna with
  | [a, b], _ =>
    have hd : ∀ (c : Value) (r : List Value), ∃ t, am_arg (c :: r) = c :: t := fun c r => by
      unfold am_arg
      split
      · exact ⟨_, rfl⟩
      · exact ⟨_, rfl⟩
    obtain ⟨t, ht⟩ := hd a [b]
    have ha : a = .int x := by
      unfold am_ent at hx
      rw [ht] at hx
      exact Option.some.inj hx
    subst ha
    have e1 : am_arg [.int x, b] = .int x :: am_arg [b] := rfl
    obtain ⟨t2, ht2⟩ := hd b []
    have hb : b = .int y := by
      unfold am_ent at hy
      rw [e1, ht2] at hy
      exact Option.some.inj hy
    exact ⟨x, y, by rw [hb]⟩
theorem am_max {f : Nat} {as : List Value} {M M' : am_M} {v : Option Value} (h : am_run am_code am_meth f 177 0 (am_ent as (am_meth 177).2.2.2.1) [] M = some (v, M')) (hna : as.length = 2) (hlen : (am_arg as).length ≤ (am_meth 177).2.2.2.1) : ∃ x y : Int32, as = [.int x, .int y] ∧ v = some (.int (if x < y then y else x)) ∧ M' = M := by
  have e2 : (am_meth 177).2.2.2.1 = 2 := rfl
  rw [e2] at h hlen
  obtain ⟨x, y, rfl⟩ := am_two hna hlen (am_two_run (n := 177) rfl rfl h)
  refine ⟨x, y, rfl, ?_⟩
  have h0 : am_sem 177 0 [.int x, .int y] [] M = some (v, M') := am_sem_of h
  have e0 : am_sem 177 0 [.int x, .int y] [] M = if x < y then am_sem 177 5 [.int x, .int y] [] M else am_sem 177 3 [.int x, .int y] [] M := Eq.trans (b := am_sem 177 (bif decide (x < y) then 5 else 3) [.int x, .int y] [] M) (am_sem_g0 3 rfl) am_sem_bif
  have e5 : am_sem 177 5 [.int x, .int y] [] M = some (some (.int y), M) := Eq.trans (b := am_sem 177 6 [.int x, .int y] [.int y] M) (am_sem_g0 1 rfl) (am_sem_ret1 rfl rfl rfl)
  have e3 : am_sem 177 3 [.int x, .int y] [] M = some (some (.int x), M) := Eq.trans (b := am_sem 177 6 [.int x, .int y] [.int x] M) (am_sem_g0 2 rfl) (am_sem_ret1 rfl rfl rfl)
  rw [e0, e5, e3] at h0
  by_cases c : x < y
  · rw [if_pos c] at h0 ⊢
    cases h0
    exact ⟨rfl, rfl⟩
  · rw [if_neg c] at h0 ⊢
    cases h0
    exact ⟨rfl, rfl⟩
theorem am_min {f : Nat} {as : List Value} {M M' : am_M} {v : Option Value} (h : am_run am_code am_meth f 178 0 (am_ent as (am_meth 178).2.2.2.1) [] M = some (v, M')) (hna : as.length = 2) (hlen : (am_arg as).length ≤ (am_meth 178).2.2.2.1) : ∃ x y : Int32, as = [.int x, .int y] ∧ v = some (.int (if y < x then y else x)) ∧ M' = M := by
  have e2 : (am_meth 178).2.2.2.1 = 2 := rfl
  rw [e2] at h hlen
  obtain ⟨x, y, rfl⟩ := am_two hna hlen (am_two_run (n := 178) rfl rfl h)
  refine ⟨x, y, rfl, ?_⟩
  have h0 : am_sem 178 0 [.int x, .int y] [] M = some (v, M') := am_sem_of h
  have e0 : am_sem 178 0 [.int x, .int y] [] M = if y < x then am_sem 178 5 [.int x, .int y] [] M else am_sem 178 3 [.int x, .int y] [] M := Eq.trans (b := am_sem 178 (bif decide (y < x) then 5 else 3) [.int x, .int y] [] M) (am_sem_g0 3 rfl) am_sem_bif
  have e5 : am_sem 178 5 [.int x, .int y] [] M = some (some (.int y), M) := Eq.trans (b := am_sem 178 6 [.int x, .int y] [.int y] M) (am_sem_g0 1 rfl) (am_sem_ret1 rfl rfl rfl)
  have e3 : am_sem 178 3 [.int x, .int y] [] M = some (some (.int x), M) := Eq.trans (b := am_sem 178 6 [.int x, .int y] [.int x] M) (am_sem_g0 2 rfl) (am_sem_ret1 rfl rfl rfl)
  rw [e0, e5, e3] at h0
  by_cases c : y < x
  · rw [if_pos c] at h0 ⊢
    cases h0
    exact ⟨rfl, rfl⟩
  · rw [if_neg c] at h0 ⊢
    cases h0
    exact ⟨rfl, rfl⟩
end
section
/-! ===== SOUND: what the little machine runs, the big one runs ===== -/
def am_P (f : Nat) : Prop := ∀ (p : Program) (l : Launch) (e : Env) (R : Room) (s : State) (m : MethodId) (args : Array Value) (below : List Frame) (meth : Method) (c : Code) (Q : State → Prop) (D : va_G) (sb b Lx n0 z0 mi : Nat), am_Fr p R s m args meth c D mi → mi < 179 → ∀ (i : Nat) (ls st : List Value) (M : am_M) (v : Option Value) (M' : am_M), am_run am_code am_meth f mi i ls st M = some (v, M') → n0 ≤ M.1.length → z0 ≤ am_sz M → M'.1.length - n0 ≤ R.cells → am_sz M' - z0 ≤ R.slots →
  (∀ (i2 : Nat) (ls2 st2 : List Value) (E : am_E) (ps : List Prop), (am_code mi)[i2]? = some E → am_rt E.2.1 (am_meth mi).2.2.2.2.1 st2 = some (ps, v) → am_all ps → am_C p l e R s m args below meth c Q D sb b Lx (am_meth mi).2.2.2.1 n0 z0 (am_g (am_code mi)) i2 ls2 st2 M') →
  am_C p l e R s m args below meth c Q D sb b Lx (am_meth mi).2.2.2.1 n0 z0 (am_g (am_code mi)) i ls st M
theorem am_rt_i {ins : Instr} {ret : Option FieldType} {st : List Value} {ps : List Prop} {v : Option Value} (h : am_rt ins ret st = some (ps, v)) : (ins = .return_ ∧ ret = none ∧ st = [] ∧ v = none) ∨ (ins = .ireturn ∧ ∃ x : Int32, st = [.int x] ∧ v = some (.int x) ∧ (ret = some .int ∨ (ret = some .boolean ∧ ps = [x = 0 ∨ x = 1]))) ∨ (ins = .lreturn ∧ ∃ x : Int64, st = [.long x] ∧ v = some (.long x) ∧ ret = some .long) ∨ (ins = .areturn ∧ ∃ (x : Nat) (n : String), st = [.ref x] ∧ v = some (.ref x) ∧ ret = some (.object n)) := by
  unfold am_rt at h
  split at h
  · split at h
    · split at h
      · cases h
        exact Or.inl ⟨rfl, rfl, rfl, rfl⟩
      · cases h
    · cases h
  · split at h
    · split at h
      · cases h
        exact Or.inr (Or.inl ⟨rfl, _, rfl, rfl, Or.inl rfl⟩)
      · cases h
    · split at h
      · cases h
        exact Or.inr (Or.inl ⟨rfl, _, rfl, rfl, Or.inr ⟨rfl, rfl⟩⟩)
      · cases h
    · cases h
  · split at h
    · split at h
      · cases h
        exact Or.inr (Or.inr (Or.inl ⟨rfl, _, rfl, rfl, rfl⟩))
      · cases h
    · cases h
  · split at h
    · split at h
      · cases h
        exact Or.inr (Or.inr (Or.inr ⟨rfl, _, _, rfl, rfl, rfl⟩))
      · cases h
    · cases h
  · cases h
abbrev am_Rm (mj : Nat) (M M' : am_M) : Room := { frames := (am_meth mj).2.2.2.2.2.2.2.2.1, cells := M'.1.length - M.1.length, slots := am_sz M' - am_sz M, locals := (am_meth mj).2.2.2.2.2.2.2.2.2.1 }
theorem am_len_ok : am_YL.length = 179 := by decide +kernel
set_option maxHeartbeats 4000000 in
theorem am_met {f : Nat} (IH : am_P f) {mj : Nat} (h0 : mj ≠ 0) (hmj : mj < 177) {l : Launch} {D : va_G} {sb b Lx : Nat} {as : List Value} {M : am_M} {v : Option Value} {M' : am_M} (hrun : am_run am_code am_meth f mj 0 (am_ent as (am_meth mj).2.2.2.1) [] M = some (v, M')) (hlen : (am_arg as).length ≤ (am_meth mj).2.2.2.1) :
    Met l (am_meth mj).2.1 (am_ws mj) { frames := (am_meth mj).2.2.2.2.2.2.2.2.1, cells := M'.1.length - M.1.length, slots := am_sz M' - am_sz M, locals := (am_meth mj).2.2.2.2.2.2.2.2.2.1 } (va_Pc (as.map (am_cv sb b)) (am_B D sb b Lx M)) (am_Qm D sb b Lx v M') (M'.1.length - M.1.length) (am_sz M' - am_sz M) (am_A b) := by
  obtain ⟨y1, y2, y3, y4, y5, y6, y7, y8, y9⟩ := am_yf ((am_y_ok mj hmj).resolve_left h0)
  refine Met.ofW (cc := (am_meth mj).2.2.1) (maxL := (am_meth mj).2.2.2.1) (ret := (am_meth mj).2.2.2.2.1) y4 rfl ?_
  intro p e s m args below meth c s₁ B hml hv
  obtain ⟨rfl, hW, hK, hN⟩ := hv
  have hts := atoms_spec (ws := am_ws mj) B.pre
  have hts' : ∀ w ∈ am_tw, w.before _ s = true := fun w h => hts w (List.mem_cons_of_mem _ h)
  have hown : s.vm.findClass (am_meth mj).1 = some m.cls := by rw [y1]; exact findClass_of_methodNamed B.named
  have hx := B.exec
  have hb := B.bytes
  have hr := B.returns
  have hlocks := B.notSynchronized
  have F : am_Fr p (am_Rm mj M M') s m _ meth c D mj := ⟨hx, hb, hml, hown, fun h => (name_of_methodNamed B.named B.method).1.trans h, hts', hN, hK, rfl, rfl⟩
  rw [lg_entry_eq]
  have hL := am_entry (sb := sb) (b := b) hlen
  have K : am_C p l e (am_Rm mj M M') s m (as.map (am_cv sb b)).toArray below meth c (MQ below (am_Qm D sb b Lx v M') (as.map (am_cv sb b)).toArray s (M'.1.length - M.1.length) (am_sz M' - am_sz M) (am_A b)) D sb b Lx (am_meth mj).2.2.2.1 M.1.length (am_sz M) (am_g (am_code mj)) 0 (am_ent as (am_meth mj).2.2.2.1) [] M := by
    refine IH p l e (am_Rm mj M M') s m (as.map (am_cv sb b)).toArray below meth c _ D sb b Lx M.1.length (am_sz M) mj F (by omega) 0 _ [] M v M' hrun (Nat.le_refl _) (Nat.le_refl _) (Nat.le_refl _) (Nat.le_refl _) ?_
    intro i2 ls2 st2 E ps hE hrt hps H locs la hL2 hW2 hS
    obtain ⟨-, -, -, hdec⟩ := am_g_ok mj (by omega) i2 E hE
    obtain ⟨pc, ins, x, ct, lg⟩ := E
    have hg : am_g (am_code mj) i2 = pc := by unfold am_g; rw [hE]
    rw [hg]
    have hdg := of_decide_eq_true hdec
    have hq : ∀ (o : Option Value), v.map (am_cv sb b) = o → ∀ t : State, t.heap = H → s.WarmedH t.vm → am_Qm D sb b Lx v M' (as.map (am_cv sb b)).toArray s (.returned o) t := fun o ho t ht hWm => ⟨⟨by rw [ho], by rw [ht]; exact am_Wd.moved hWm.alike hW2⟩, hS.F ht⟩
    rcases am_rt_i hrt with ⟨z1, z2, rfl, rfl⟩ | ⟨z1, y, rfl, rfl, z2⟩ | ⟨z1, y, rfl, rfl, z2⟩ | ⟨z1, y, n, rfl, rfl, z2⟩
    · have z1 : ins = .return_ := z1
      subst z1
      exact W.vret hx hb (hr.trans z2) (hq none rfl) hS.2.2 hdg
    · have z1 : ins = .ireturn := z1
      subst z1
      rcases z2 with z2 | ⟨z2, rfl⟩
      · exact W.iret hx hb (hr.trans z2) (hq _ rfl) hS.2.2 hdg
      · exact W.zret (ty := .boolean) hx hb (hr.trans z2) (by rcases hps with rfl | rfl <;> decide) (hq _ rfl) hS.2.2 hdg
    · have z1 : ins = .lreturn := z1
      subst z1
      exact W.lret hx hb (hr.trans z2) (hq _ rfl) hS.2.2 hdg
    · have z1 : ins = .areturn := z1
      subst z1
      exact W.aret hx hb (hr.trans z2) (Or.inl ⟨_, rfl⟩) (Or.inr ⟨_, rfl⟩) (hq _ rfl) hS.2.2 hdg
  have k := K s.heap [] _ hL hW va_S.rf
  rw [y2, Nat.sub_self, Nat.sub_self] at k
  exact k
theorem am_goodIn {mj : Nat} (h : Cond.code (am_meth mj).2.1 (am_meth mj).2.2.1 (am_meth mj).2.2.2.1 (am_meth mj).2.2.2.2.1 ∈ am_tw) : GoodIn am_tw (am_ws mj) := by
  intro w hw
  rcases List.mem_cons.mp hw with rfl | hw
  · exact ⟨h, good_of_word (am_tw_good h).2⟩
  · exact ⟨hw, good_of_word (am_tw_good hw).2⟩
theorem am_tl (sb b : Nat) (v : Option Value) (r : List Value) : (v.toList ++ r).map (am_cv sb b) = (v.map (am_cv sb b)).toList ++ r.map (am_cv sb b) := by
  cases v <;> simp
theorem am_cat_map (sb b : Nat) (st : List Value) : ((st.map (am_cv sb b)).map fun v => v.category).sum = am_cat st := by
  unfold am_cat
  rw [List.map_map]
  congr 1
  apply List.map_congr_left
  intro v _
  exact am_cv_cat sb b v
theorem am_nest_math : am_nest.all (fun w => match w with | .methodLinkNest _ _ y _ => decide (y.cls ≠ "java/lang/Math") | _ => true) = true := by decide +kernel
set_option maxHeartbeats 4000000 in
theorem am_sound : ∀ f, am_P f
  | 0 => by
    intro p l e R s m args below meth c Q D sb b Lx n0 z0 mi F hmi i ls st M v M' h
    cases h
  | f + 1 => by
    have ih := am_sound f
    intro p l e R s m args below meth c Q D sb b Lx n0 z0 mi F hmi i ls st M v M' h hn0 hz0 hrc hrs hret
    obtain ⟨E, hE, hc⟩ := am_run_i h
    rcases hc with ⟨hk, ps, i', ls', st', M1, h1, hps, h2⟩ | ⟨hk, ps, hrt, hps, rfl⟩ | ⟨hk, ⟨hna, hlen, hrcv, hcat⟩, v1, M1, h1, h2⟩
    · have hle := am_run_le _ _ _ _ _ _ _ _ _ _ h2
      have hle1 := am_stp_le h1
      have hl1 := hle.1
      have hl2 := hle.2
      have hl3 := hle1.1
      have hl4 := hle1.2
      exact am_step F (am_g_ok mi hmi) rfl hE hk h1 hps hn0 hz0 (by omega) (by omega) (ih p l e R s m args below meth c Q D sb b Lx n0 z0 mi F hmi i' ls' st' M1 v M' h2 (by omega) (by omega) hrc hrs hret)
    · exact hret i ls st E ps hE hrt hps
    · obtain ⟨hfl, hwd, hrm, hdec⟩ := am_g_ok mi hmi i E hE
      unfold am_rm at hrm
      rw [if_pos hk] at hrm
      simp only [Bool.and_eq_true, decide_eq_true_eq] at hrm
      obtain ⟨⟨⟨r1, r2⟩, r3⟩, r4⟩ := hrm
      rw [am_len_ok] at r2
      obtain ⟨pc, ins, x, ct, lg⟩ := E
      dsimp only at hk hna hlen hrcv hcat h1 h2 hfl hwd hdec r1 r2 r3 r4
      rcases (Classical.em (x.headD 0 < 177)).symm with hbig | r2
      · have hj : x.headD 0 = 177 ∨ x.headD 0 = 178 := by omega
        have hins : ∃ ix, ins = .invokestatic ix := by
          cases ins with
          | invokestatic ix => exact ⟨ix, rfl⟩
          | invokevirtual ix =>
            simp only [am_wrd, Bool.and_eq_true, decide_eq_true_eq] at hwd
            rcases hj with hj | hj
            · rw [hj] at hwd
              exact absurd hwd.1.1 (by decide +kernel)
            · rw [hj] at hwd
              exact absurd hwd.1.1 (by decide +kernel)
          | invokespecial ix =>
            simp only [am_wrd, if_neg (show ¬ x.headD 0 = 9999 by omega), Bool.and_eq_true, decide_eq_true_eq] at hwd
            rcases hj with hj | hj
            · rw [hj] at hwd
              exact absurd hwd.1.1 (by decide +kernel)
            · rw [hj] at hwd
              exact absurd hwd.1.1 (by decide +kernel)
          | _ => cases hk
        obtain ⟨ix, rfl⟩ := hins
        have hf : am_g (am_code mi) (i + 1) = pc + 3 := of_decide_eq_true hfl
        simp only [am_wrd, Bool.and_eq_true, decide_eq_true_eq] at hwd
        obtain ⟨-, hwd2⟩ := hwd
        rcases hj with hj | hj
        · have hmx : (am_meth 177).2.2.2.2.2.1 = 2 := rfl
          rw [hj] at hna hlen h1 h2 r3 r4
          rw [hj] at hwd2
          have hl : Cond.methodLink (am_meth mi).1 ix Lib.Math.max.name ∈ am_tw := by
            by_cases hz : x.getD 1 0 = 0
            · rw [if_pos hz] at hwd2
              exact am_has_m hwd2
            · rw [if_neg hz] at hwd2
              have hm := List.mem_of_getElem? (of_decide_eq_true hwd2)
              exact absurd (List.all_eq_true.mp am_nest_math _ hm) (by show ¬ (decide (("java/lang/Math" : String) ≠ "java/lang/Math")) = true; decide)
          have hcat2 : am_cat (st.drop 2) ≤ 8 := by
            rw [hj] at hcat
            exact hcat
          obtain ⟨a1, b1, has, rfl, rfl⟩ := am_max h1 (by rw [hna]; rfl) hlen
          have hst : st = .int b1 :: .int a1 :: st.drop 2 := by
            have e1 : st.take 2 = [.int b1, .int a1] := by
              rw [← List.reverse_reverse (st.take 2)]
              exact congrArg List.reverse has
            have e2 := (List.take_append_drop 2 st).symm
            rw [e1] at e2
            exact e2
          have K := ih p l e R s m args below meth c Q D sb b Lx n0 z0 mi F hmi (i + 1) ls _ _ v M' h2 hn0 hz0 hrc hrs hret
          intro H locs la hL hW hS
          obtain ⟨hx, hb, hml, hown, hnm, hts, hnest, hK, hfr, hlo⟩ := F
          have hg : am_g (am_code mi) i = pc := by unfold am_g; rw [hE]
          rw [hg]
          have hdg := of_decide_eq_true hdec
          dsimp only at hdg
          have k := K H locs la hL hW hS
          rw [hf, am_tl] at k
          rw [hst]
          have hc3 : (((st.drop 2).map (am_cv sb b)).map fun v => v.category).sum ≤ 8 := by
            rw [am_cat_map]
            exact hcat2
          have hm2 : (am_meth 177).2.2.2.1 = 2 := rfl
          rw [hm2] at r4
          have hle2 := am_run_le _ _ _ _ _ _ _ _ _ _ h2
          have hl3 := hle2.1
          have hl4 := hle2.2
          exact va_mmax hx hb (hml.trans hL.2.1.symm) hown (hts _ hl) (hts _ (am_has_m (p := 505) (by decide +kernel))) (hts _ (am_has_m (p := 74) (by decide +kernel))) (hts _ (am_has_m (p := 506) (by decide +kernel))) (by rw [hfr]; omega) (by rw [hlo]; omega) (by omega) (by omega) hdg k
        · have hmx : (am_meth 178).2.2.2.2.2.1 = 2 := rfl
          rw [hj] at hna hlen h1 h2 r3 r4
          rw [hj] at hwd2
          have hl : Cond.methodLink (am_meth mi).1 ix Lib.Math.min.name ∈ am_tw := by
            by_cases hz : x.getD 1 0 = 0
            · rw [if_pos hz] at hwd2
              exact am_has_m hwd2
            · rw [if_neg hz] at hwd2
              have hm := List.mem_of_getElem? (of_decide_eq_true hwd2)
              exact absurd (List.all_eq_true.mp am_nest_math _ hm) (by show ¬ (decide (("java/lang/Math" : String) ≠ "java/lang/Math")) = true; decide)
          have hcat2 : am_cat (st.drop 2) ≤ 8 := by
            rw [hj] at hcat
            exact hcat
          obtain ⟨a1, b1, has, rfl, rfl⟩ := am_min h1 (by rw [hna]; rfl) hlen
          have hst : st = .int b1 :: .int a1 :: st.drop 2 := by
            have e1 : st.take 2 = [.int b1, .int a1] := by
              rw [← List.reverse_reverse (st.take 2)]
              exact congrArg List.reverse has
            have e2 := (List.take_append_drop 2 st).symm
            rw [e1] at e2
            exact e2
          have K := ih p l e R s m args below meth c Q D sb b Lx n0 z0 mi F hmi (i + 1) ls _ _ v M' h2 hn0 hz0 hrc hrs hret
          intro H locs la hL hW hS
          obtain ⟨hx, hb, hml, hown, hnm, hts, hnest, hK, hfr, hlo⟩ := F
          have hg : am_g (am_code mi) i = pc := by unfold am_g; rw [hE]
          rw [hg]
          have hdg := of_decide_eq_true hdec
          dsimp only at hdg
          have k := K H locs la hL hW hS
          rw [hf, am_tl] at k
          rw [hst]
          have hc3 : (((st.drop 2).map (am_cv sb b)).map fun v => v.category).sum ≤ 8 := by
            rw [am_cat_map]
            exact hcat2
          have hm2 : (am_meth 178).2.2.2.1 = 2 := rfl
          rw [hm2] at r4
          have hle2 := am_run_le _ _ _ _ _ _ _ _ _ _ h2
          have hl3 := hle2.1
          have hl4 := hle2.2
          exact va_mmin hx hb (hml.trans hL.2.1.symm) hown (hts _ hl) (hts _ (am_has_m (p := 494) (by decide +kernel))) (hts _ (am_has_m (p := 74) (by decide +kernel))) (hts _ (am_has_m (p := 495) (by decide +kernel))) (by rw [hfr]; omega) (by rw [hlo]; omega) (by omega) (by omega) hdg k
      have hM := am_met ih (by omega) r2 (l := l) (D := D) (sb := sb) (b := b) (Lx := Lx) h1 hlen
      obtain ⟨y1, y2, y3, y4, y5, y6, y7, y8, y9⟩ := am_yf ((am_y_ok _ r2).resolve_left (by omega))
      have hle1 := am_run_le _ _ _ _ _ _ _ _ _ _ h1
      have hle2 := am_run_le _ _ _ _ _ _ _ _ _ _ h2
      have hl1 := hle1.1
      have hl2 := hle1.2
      have hl3 := hle2.1
      have hl4 := hle2.2
      have K := ih p l e R s m args below meth c Q D sb b Lx n0 z0 mi F hmi (i + 1) ls _ M1 v M' h2 (by omega) (by omega) hrc hrs hret
      intro H locs la hL hW hS
      obtain ⟨hx, hb, hml, hown, hnm, hts, hnest, hK, hfr, hlo⟩ := F
      have hg : am_g (am_code mi) i = pc := by unfold am_g; rw [hE]
      rw [hg]
      have hdg := of_decide_eq_true hdec
      dsimp only at hdg
      generalize hj : x.headD 0 = mj at hk hna hlen hrcv hcat h1 h2 r1 r2 r3 r4 hM y1 y2 y3 y4 y5 y6 y7 y8 y9 K
      generalize has : (st.take (am_meth mj).2.2.2.2.2.1).reverse = as at hna hlen hrcv h1 hM
      generalize hre : st.drop (am_meth mj).2.2.2.2.2.1 = rest at hcat h2 K
      have hst : st.map (am_cv sb b) = (as.map (am_cv sb b)).reverse ++ rest.map (am_cv sb b) := by
        rw [← has, ← hre, ← List.map_reverse, List.reverse_reverse, ← List.map_append, List.take_append_drop]
      have hroom : 2 * (F0 m pc la (st.map (am_cv sb b))).monitorRoom + ((rest.map (am_cv sb b)).map fun v => v.category).sum ≤ 8 := lv_room (by rw [am_cat_map]; exact hcat)
      have hPc : ∀ U : State, U.heap = H → s.WarmedH U.vm → va_Pc (as.map (am_cv sb b)) (am_B D sb b Lx M) (as.map (am_cv sb b)).toArray U := fun U hU hWm => ⟨rfl, by rw [hU]; exact am_Wd.moved hWm.alike hW, va_K.moved hWm.alike hK, am_nest_w hWm hnest⟩
      have hfin : ∀ (t : State) (H1 : Heap) (locs1 : List Loc), am_g (am_code mi) (i + 1) = pc + 3 → t.heap = H1 → s.vm.Alike t.vm → am_Wd D sb b Lx M1 t t.heap → va_S (am_A b) s.heap H1 locs1 → W p l e R s m args below meth c H1 locs1 (M.1.length - n0 + (M1.1.length - M.1.length)) (am_sz M - z0 + (am_sz M1 - am_sz M)) Q (F0 m (pc + 3) la ((v1.map (am_cv sb b)).toList ++ rest.map (am_cv sb b))) := by
        intro t H1 locs1 hf ht hvm hB hS1
        have k := K H1 locs1 la hL (am_Wd.moved hvm.symm (by rw [← ht]; exact hB)) hS1
        rw [hf, am_tl] at k
        exact W.cs (by omega) (by omega) k
      have hcells : M.1.length - n0 + (M1.1.length - M.1.length) ≤ R.cells ∧ am_sz M - z0 + (am_sz M1 - am_sz M) ≤ R.slots := ⟨by omega, by omega⟩
      have hR : (am_meth mj).2.2.2.2.2.2.2.2.1 + 1 ≤ R.frames ∧ 8 + ((am_meth mj).2.2.2.1 + 11) + (am_meth mj).2.2.2.2.2.2.2.2.2.1 ≤ R.locals := ⟨by rw [hfr]; exact r3, by rw [hlo]; exact r4⟩
      cases ins with
      | invokestatic ix =>
        have hf : am_g (am_code mi) (i + 1) = pc + 3 := of_decide_eq_true hfl
        simp only [am_wrd, hj, Bool.and_eq_true, decide_eq_true_eq] at hwd
        obtain ⟨w1, w2⟩ := hwd
        obtain ⟨u1, u2⟩ := y7 w1
        by_cases hz : x.getD 1 0 = 0
        · rw [if_pos hz] at w2
          have hr := va_runS (As := as.map (am_cv sb b)) (rest := rest.map (am_cv sb b)) (g := F0 m pc la (st.map (am_cv sb b))) (cells := M.1.length - n0) (slots := am_sz M - z0) (H := H) (locs := locs) (e := e) (below := below) (meth := meth) ⟨hx, hb, hml, hown, hts⟩ hM ⟨callB_of (am_meth mj).2.2.2.2.2.1 hts (am_goodIn y5) rfl rfl rfl (hts _ y6) (hts _ (am_has_m w2)) ⟨y3.1, y3.2, u2⟩ hR, hts _ u1⟩ ⟨am_blind, hPc⟩ rfl (by rw [List.length_map]; exact hna) hL.2.1 hst hroom hdg hcells
          exact am_callq hr (fun st oc t h => h) hS (fun q h => h) (fun t H1 locs1 ht hvm hB hS1 => hfin t H1 locs1 hf ht hvm hB hS1)
        · rw [if_neg hz] at w2
          have hnw := hnest _ (List.mem_of_getElem? (of_decide_eq_true w2))
          have hr := va_runSN (As := as.map (am_cv sb b)) (rest := rest.map (am_cv sb b)) (g := F0 m pc la (st.map (am_cv sb b))) (cells := M.1.length - n0) (slots := am_sz M - z0) (H := H) (locs := locs) (e := e) (below := below) (meth := meth) ⟨hx, hb, hml, hown, hts⟩ hM ⟨va_cnB (am_meth mj).2.2.2.2.2.1 hts (am_goodIn y5) rfl rfl rfl hnw (hts _ y6) ⟨y3.1, y3.2, u2⟩ hR, hts _ u1, trivial⟩ ⟨am_blind, hPc⟩ rfl (by rw [List.length_map]; exact hna) hL.2.1 hst hroom hdg hcells
          exact am_callq hr (fun st oc t h => h) hS (fun q h => h) (fun t H1 locs1 ht hvm hB hS1 => hfin t H1 locs1 hf ht hvm hB hS1)
      | invokevirtual ix =>
        have hf : am_g (am_code mi) (i + 1) = pc + 3 := of_decide_eq_true hfl
        simp only [am_wrd, hj, Bool.and_eq_true, decide_eq_true_eq] at hwd
        obtain ⟨⟨w1, -⟩, w2⟩ := hwd
        obtain ⟨u1, u2, u3, u4⟩ := y8 w1
        rw [w1] at hrcv
        obtain ⟨k0, A2, n, rs, rfl, e1⟩ : ∃ (k0 : Nat) (A2 : List Value) (n : Nat) (rs : List Nat), as = .ref k0 :: A2 ∧ M.1[k0]? = some ((am_meth mj).2.2.2.2.2.2.2.1 + 3, n, rs) := by
          unfold am_rcv at hrcv
          simp only at hrcv
          split at hrcv
          · split at hrcv
            · rename_i e1
              have e2 := of_decide_eq_true hrcv
              rw [e2] at e1
              exact ⟨_, _, _, _, rfl, e1⟩
            · cases hrcv
          · cases hrcv
        obtain ⟨q, hq, hqc⟩ := Option.map_eq_some_iff.mp u4
        obtain ⟨cA, hW0⟩ := id hW
        obtain ⟨g1, g2, g3, g4, g5⟩ := id hW0
        have hk1 : 0 < k0 := by
          rcases Nat.eq_zero_or_pos k0 with q0 | q0
          · subst q0
            rw [g3] at e1
            have e4 : (100 : Nat) = (am_meth mj).2.2.2.2.2.2.2.1 + 3 := congrArg (fun t => t.1) (Option.some.inj e1)
            have e5 := (am_cls_ok _ _ hq).2.2.2
            omega
          · exact q0
        obtain ⟨-, g7, -⟩ := g5 k0 _ hk1 e1
        have had : am_ad sb b k0 = b + k0 := by unfold am_ad; rw [if_neg (by omega)]
        simp only [List.map_cons, am_cv_ref, List.reverse_cons, List.append_assoc, List.singleton_append, had] at hst hM hPc
        have hrv := va_recv hK (am_one g7) hq (q0 := 0) rfl
        rw [hqc] at hrv
        have hn2 : (parseMethodDescriptor (am_meth mj).2.1.desc).map (fun d => d.parameters.length) = some A2.length := by
          obtain ⟨d, hd, hd2⟩ := Option.map_eq_some_iff.mp u3
          rw [hd]
          simp only [List.length_cons] at hna
          have hd3 : d.parameters.length + 1 = (am_meth mj).2.2.2.2.2.1 := hd2
          show some d.parameters.length = some A2.length
          congr 1
          omega
        have hr := va_runV (C := (am_meth mj).2.1.cls) (b := b + k0) (As := A2.map (am_cv sb b)) (rest := rest.map (am_cv sb b)) (g := F0 m pc la (st.map (am_cv sb b))) (cells := M.1.length - n0) (slots := am_sz M - z0) (H := H) (locs := locs) (e := e) (below := below) (meth := meth) ⟨hx, hb, hml, hown, hts⟩ hM ⟨callB_of A2.length hts (am_goodIn y5) rfl rfl rfl (hts _ y6) (hts _ (am_has_m w2)) ⟨y3.1, y3.2, hn2⟩ hR, hts _ u1, hts _ u2⟩ ⟨am_blind, hrv, hPc⟩ rfl (by rw [List.length_map]) hL.2.1 hst hroom hdg hcells
        exact am_callq hr (fun st oc t h => h) hS (fun q h => h) (fun t H1 locs1 ht hvm hB hS1 => hfin t H1 locs1 hf ht hvm hB hS1)
      | invokespecial ix =>
        have hf : am_g (am_code mi) (i + 1) = pc + 3 := of_decide_eq_true hfl
        have hz : ¬ mj = 9999 := by omega
        simp only [am_wrd, hj, if_neg hz, Bool.and_eq_true, decide_eq_true_eq] at hwd
        obtain ⟨⟨w1, -⟩, w2⟩ := hwd
        obtain ⟨u1, u2, u3, u4, u5⟩ := y9 w1
        rw [w1] at hrcv
        obtain ⟨k0, A2, n, rs, rfl, e1⟩ : ∃ (k0 : Nat) (A2 : List Value) (n : Nat) (rs : List Nat), as = .ref k0 :: A2 ∧ M.1[k0]? = some ((am_meth mj).2.2.2.2.2.2.2.1 + 3, n, rs) := by
          unfold am_rcv at hrcv
          simp only at hrcv
          split at hrcv
          · split at hrcv
            · rename_i e1
              have e2 := of_decide_eq_true hrcv
              rw [e2] at e1
              exact ⟨_, _, _, _, rfl, e1⟩
            · cases hrcv
          · cases hrcv
        obtain ⟨q, hq, hqc⟩ := Option.map_eq_some_iff.mp u5
        obtain ⟨cA, hW0⟩ := id hW
        obtain ⟨g1, g2, g3, g4, g5⟩ := id hW0
        have hk1 : 0 < k0 := by
          rcases Nat.eq_zero_or_pos k0 with q0 | q0
          · subst q0
            rw [g3] at e1
            have e4 : (100 : Nat) = (am_meth mj).2.2.2.2.2.2.2.1 + 3 := congrArg (fun t => t.1) (Option.some.inj e1)
            have e5 := (am_cls_ok _ _ hq).2.2.2
            omega
          · exact q0
        have had : am_ad sb b k0 = b + k0 := by unfold am_ad; rw [if_neg (by omega)]
        simp only [List.map_cons, am_cv_ref, List.reverse_cons, List.append_assoc, List.singleton_append, had] at hst hM hPc
        have hn2 : (parseMethodDescriptor (am_meth mj).2.1.desc).map (fun d => d.parameters.length) = some A2.length := by
          obtain ⟨d, hd, hd2⟩ := Option.map_eq_some_iff.mp u4
          rw [hd]
          simp only [List.length_cons] at hna
          have hd3 : d.parameters.length + 1 = (am_meth mj).2.2.2.2.2.1 := hd2
          show some d.parameters.length = some A2.length
          congr 1
          omega
        have hws : am_ws mj = Cond.code (am_meth mj).2.1 (am_meth mj).2.2.1 (am_meth mj).2.2.2.1 none :: am_tw := by unfold am_ws; rw [u3]
        have hr := va_runI (b := b + k0) (As := A2.map (am_cv sb b)) (rest := rest.map (am_cv sb b)) (g := F0 m pc la (st.map (am_cv sb b))) (cells := M.1.length - n0) (slots := am_sz M - z0) (H := H) (locs := locs) (e := e) (below := below) (meth := meth) ⟨hx, hb, hml, hown, hts⟩ hM ⟨callB_of A2.length hts (am_goodIn y5) hws rfl rfl (hts _ y6) (hts _ (am_has_m w2)) ⟨y3.1, y3.2, hn2⟩ hR, u2, hts _ u1⟩ ⟨am_blind, hPc⟩ rfl (by rw [List.length_map]) hL.2.1 hst hroom hdg hcells
        exact am_callq hr (fun st oc t h => h) hS (fun q h => h) (fun t H1 locs1 ht hvm hB hS1 => hfin t H1 locs1 hf ht hvm hB hS1)
      | _ => cases hk
end
