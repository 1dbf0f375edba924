-- ===== PART A: goes FIRST, ahead of the names: the tables' words, and 'selects' of the private methods out of them =====
/-- a private method of a class that the tables say can be made, by its rows of tables_1 -/
def lw_okq (q : MethodName × Nat) : Prop := (q.1.cls ≠ "java/lang/invoke/MethodHandle" ∧ q.1.cls ≠ "java/lang/invoke/VarHandle") ∧ Cond.instantiable q.1.cls q.2 ∈ tables_1 ∧ Cond.privateMethod q.1 ∈ tables_1 ∧ Cond.instanceMethod q.1 ∈ tables_1
theorem lw_p0 : lw_okq (⟨"EchoesFirst$Text", "step", "()V"⟩, 7) := ⟨⟨by decide +kernel, by decide +kernel⟩, List.mem_of_getElem? (i := 19) (by decide +kernel), List.mem_of_getElem? (i := 246) (by decide +kernel), List.mem_of_getElem? (i := 247) (by decide +kernel)⟩
theorem lw_p1 : lw_okq (⟨"EchoesFirst$Text", "readItem", "(I)Z"⟩, 7) := ⟨⟨by decide +kernel, by decide +kernel⟩, List.mem_of_getElem? (i := 19) (by decide +kernel), List.mem_of_getElem? (i := 259) (by decide +kernel), List.mem_of_getElem? (i := 260) (by decide +kernel)⟩
theorem lw_p2 : lw_okq (⟨"EchoesFirst$Text", "readPlaces", "()Z"⟩, 7) := ⟨⟨by decide +kernel, by decide +kernel⟩, List.mem_of_getElem? (i := 19) (by decide +kernel), List.mem_of_getElem? (i := 263) (by decide +kernel), List.mem_of_getElem? (i := 264) (by decide +kernel)⟩
theorem lw_p3 : lw_okq (⟨"EchoesFirst$Text", "stepToNumber", "(II)Z"⟩, 7) := ⟨⟨by decide +kernel, by decide +kernel⟩, List.mem_of_getElem? (i := 19) (by decide +kernel), List.mem_of_getElem? (i := 267) (by decide +kernel), List.mem_of_getElem? (i := 268) (by decide +kernel)⟩
theorem lw_p4 : lw_okq (⟨"EchoesFirst$Text", "stepToStop", "()Z"⟩, 7) := ⟨⟨by decide +kernel, by decide +kernel⟩, List.mem_of_getElem? (i := 19) (by decide +kernel), List.mem_of_getElem? (i := 271) (by decide +kernel), List.mem_of_getElem? (i := 272) (by decide +kernel)⟩
theorem lw_p5 : lw_okq (⟨"EchoesFirst$Text", "readFar", "()Z"⟩, 7) := ⟨⟨by decide +kernel, by decide +kernel⟩, List.mem_of_getElem? (i := 19) (by decide +kernel), List.mem_of_getElem? (i := 275) (by decide +kernel), List.mem_of_getElem? (i := 276) (by decide +kernel)⟩
theorem lw_p6 : lw_okq (⟨"EchoesFirst$Text", "readPerson", "()Z"⟩, 7) := ⟨⟨by decide +kernel, by decide +kernel⟩, List.mem_of_getElem? (i := 19) (by decide +kernel), List.mem_of_getElem? (i := 283) (by decide +kernel), List.mem_of_getElem? (i := 284) (by decide +kernel)⟩
theorem lw_p7 : lw_okq (⟨"EchoesFirst$Text", "readSounds", "()I"⟩, 7) := ⟨⟨by decide +kernel, by decide +kernel⟩, List.mem_of_getElem? (i := 19) (by decide +kernel), List.mem_of_getElem? (i := 287) (by decide +kernel), List.mem_of_getElem? (i := 288) (by decide +kernel)⟩
theorem lw_p8 : lw_okq (⟨"EchoesFirst", "makersOf", "(II)I"⟩, 8) := ⟨⟨by decide +kernel, by decide +kernel⟩, List.mem_of_getElem? (i := 11) (by decide +kernel), List.mem_of_getElem? (i := 362) (by decide +kernel), List.mem_of_getElem? (i := 363) (by decide +kernel)⟩
theorem lw_p9 : lw_okq (⟨"EchoesFirst", "secondToMake", "(II)I"⟩, 8) := ⟨⟨by decide +kernel, by decide +kernel⟩, List.mem_of_getElem? (i := 11) (by decide +kernel), List.mem_of_getElem? (i := 366) (by decide +kernel), List.mem_of_getElem? (i := 367) (by decide +kernel)⟩
theorem lw_p10 : lw_okq (⟨"EchoesFirst", "secondToBegin", "(IIII)I"⟩, 8) := ⟨⟨by decide +kernel, by decide +kernel⟩, List.mem_of_getElem? (i := 11) (by decide +kernel), List.mem_of_getElem? (i := 370) (by decide +kernel), List.mem_of_getElem? (i := 371) (by decide +kernel)⟩
theorem lw_p11 : lw_okq (⟨"EchoesFirst", "isAgainstStill", "(III)Z"⟩, 8) := ⟨⟨by decide +kernel, by decide +kernel⟩, List.mem_of_getElem? (i := 11) (by decide +kernel), List.mem_of_getElem? (i := 384) (by decide +kernel), List.mem_of_getElem? (i := 385) (by decide +kernel)⟩
theorem lw_p12 : lw_okq (⟨"EchoesFirst", "reaches", "(IIII)Z"⟩, 8) := ⟨⟨by decide +kernel, by decide +kernel⟩, List.mem_of_getElem? (i := 11) (by decide +kernel), List.mem_of_getElem? (i := 388) (by decide +kernel), List.mem_of_getElem? (i := 389) (by decide +kernel)⟩
theorem lw_p13 : lw_okq (⟨"EchoesFirst", "findSets", "()V"⟩, 8) := ⟨⟨by decide +kernel, by decide +kernel⟩, List.mem_of_getElem? (i := 11) (by decide +kernel), List.mem_of_getElem? (i := 400) (by decide +kernel), List.mem_of_getElem? (i := 401) (by decide +kernel)⟩
theorem lw_p14 : lw_okq (⟨"EchoesFirst$DeedSets", "letIn", "(I)V"⟩, 7) := ⟨⟨by decide +kernel, by decide +kernel⟩, List.mem_of_getElem? (i := 168) (by decide +kernel), List.mem_of_getElem? (i := 424) (by decide +kernel), List.mem_of_getElem? (i := 425) (by decide +kernel)⟩
theorem lw_p15 : lw_okq (⟨"EchoesFirst$DeedSets", "seenGoals", "()I"⟩, 7) := ⟨⟨by decide +kernel, by decide +kernel⟩, List.mem_of_getElem? (i := 168) (by decide +kernel), List.mem_of_getElem? (i := 435) (by decide +kernel), List.mem_of_getElem? (i := 436) (by decide +kernel)⟩
def lw_privs_1 : List (MethodName × Nat) := [(⟨"EchoesFirst$Text", "step", "()V"⟩, 7), (⟨"EchoesFirst$Text", "readItem", "(I)Z"⟩, 7), (⟨"EchoesFirst$Text", "readPlaces", "()Z"⟩, 7), (⟨"EchoesFirst$Text", "stepToNumber", "(II)Z"⟩, 7), (⟨"EchoesFirst$Text", "stepToStop", "()Z"⟩, 7), (⟨"EchoesFirst$Text", "readFar", "()Z"⟩, 7), (⟨"EchoesFirst$Text", "readPerson", "()Z"⟩, 7), (⟨"EchoesFirst$Text", "readSounds", "()I"⟩, 7), (⟨"EchoesFirst", "makersOf", "(II)I"⟩, 8), (⟨"EchoesFirst", "secondToMake", "(II)I"⟩, 8), (⟨"EchoesFirst", "secondToBegin", "(IIII)I"⟩, 8), (⟨"EchoesFirst", "isAgainstStill", "(III)Z"⟩, 8), (⟨"EchoesFirst", "reaches", "(IIII)Z"⟩, 8), (⟨"EchoesFirst", "findSets", "()V"⟩, 8), (⟨"EchoesFirst$DeedSets", "letIn", "(I)V"⟩, 7), (⟨"EchoesFirst$DeedSets", "seenGoals", "()I"⟩, 7)]
theorem lw_r1 : ∀ q ∈ lw_privs_1, lw_okq q := List.forall_mem_cons.mpr ⟨lw_p0, List.forall_mem_cons.mpr ⟨lw_p1, List.forall_mem_cons.mpr ⟨lw_p2, List.forall_mem_cons.mpr ⟨lw_p3, List.forall_mem_cons.mpr ⟨lw_p4, List.forall_mem_cons.mpr ⟨lw_p5, List.forall_mem_cons.mpr ⟨lw_p6, List.forall_mem_cons.mpr ⟨lw_p7, List.forall_mem_cons.mpr ⟨lw_p8, List.forall_mem_cons.mpr ⟨lw_p9, List.forall_mem_cons.mpr ⟨lw_p10, List.forall_mem_cons.mpr ⟨lw_p11, List.forall_mem_cons.mpr ⟨lw_p12, List.forall_mem_cons.mpr ⟨lw_p13, List.forall_mem_cons.mpr ⟨lw_p14, List.forall_mem_cons.mpr ⟨lw_p15, fun _ h => absurd h List.not_mem_nil⟩⟩⟩⟩⟩⟩⟩⟩⟩⟩⟩⟩⟩⟩⟩⟩
theorem lw_p16 : lw_okq (⟨"EchoesFirst", "peopleInEachSet", "()I"⟩, 8) := ⟨⟨by decide +kernel, by decide +kernel⟩, List.mem_of_getElem? (i := 11) (by decide +kernel), List.mem_of_getElem? (i := 450) (by decide +kernel), List.mem_of_getElem? (i := 451) (by decide +kernel)⟩
theorem lw_p17 : lw_okq (⟨"EchoesFirst", "setsInWhichHeMakes", "(II)J"⟩, 8) := ⟨⟨by decide +kernel, by decide +kernel⟩, List.mem_of_getElem? (i := 11) (by decide +kernel), List.mem_of_getElem? (i := 466) (by decide +kernel), List.mem_of_getElem? (i := 467) (by decide +kernel)⟩
theorem lw_p18 : lw_okq (⟨"EchoesFirst$Course", "remember", "(II)V"⟩, 12) := ⟨⟨by decide +kernel, by decide +kernel⟩, List.mem_of_getElem? (i := 118) (by decide +kernel), List.mem_of_getElem? (i := 481) (by decide +kernel), List.mem_of_getElem? (i := 482) (by decide +kernel)⟩
theorem lw_p19 : lw_okq (⟨"EchoesFirst$Course", "loseOldest", "()V"⟩, 12) := ⟨⟨by decide +kernel, by decide +kernel⟩, List.mem_of_getElem? (i := 118) (by decide +kernel), List.mem_of_getElem? (i := 485) (by decide +kernel), List.mem_of_getElem? (i := 486) (by decide +kernel)⟩
theorem lw_p20 : lw_okq (⟨"EchoesFirst", "dueBits", "()I"⟩, 8) := ⟨⟨by decide +kernel, by decide +kernel⟩, List.mem_of_getElem? (i := 11) (by decide +kernel), List.mem_of_getElem? (i := 522) (by decide +kernel), List.mem_of_getElem? (i := 523) (by decide +kernel)⟩
theorem lw_p21 : lw_okq (⟨"EchoesFirst", "isMadeByDone", "(I)Z"⟩, 8) := ⟨⟨by decide +kernel, by decide +kernel⟩, List.mem_of_getElem? (i := 11) (by decide +kernel), List.mem_of_getElem? (i := 526) (by decide +kernel), List.mem_of_getElem? (i := 527) (by decide +kernel)⟩
theorem lw_p22 : lw_okq (⟨"EchoesFirst", "pastBits", "()I"⟩, 8) := ⟨⟨by decide +kernel, by decide +kernel⟩, List.mem_of_getElem? (i := 11) (by decide +kernel), List.mem_of_getElem? (i := 530) (by decide +kernel), List.mem_of_getElem? (i := 531) (by decide +kernel)⟩
theorem lw_p23 : lw_okq (⟨"EchoesFirst", "lieBits", "()I"⟩, 8) := ⟨⟨by decide +kernel, by decide +kernel⟩, List.mem_of_getElem? (i := 11) (by decide +kernel), List.mem_of_getElem? (i := 534) (by decide +kernel), List.mem_of_getElem? (i := 535) (by decide +kernel)⟩
theorem lw_p24 : lw_okq (⟨"EchoesFirst", "playersOf", "(III)I"⟩, 8) := ⟨⟨by decide +kernel, by decide +kernel⟩, List.mem_of_getElem? (i := 11) (by decide +kernel), List.mem_of_getElem? (i := 550) (by decide +kernel), List.mem_of_getElem? (i := 551) (by decide +kernel)⟩
theorem lw_p25 : lw_okq (⟨"EchoesFirst", "someoneCould", "(III)Z"⟩, 8) := ⟨⟨by decide +kernel, by decide +kernel⟩, List.mem_of_getElem? (i := 11) (by decide +kernel), List.mem_of_getElem? (i := 574) (by decide +kernel), List.mem_of_getElem? (i := 575) (by decide +kernel)⟩
theorem lw_p26 : lw_okq (⟨"EchoesFirst", "markOfShout", "(I)I"⟩, 8) := ⟨⟨by decide +kernel, by decide +kernel⟩, List.mem_of_getElem? (i := 11) (by decide +kernel), List.mem_of_getElem? (i := 583) (by decide +kernel), List.mem_of_getElem? (i := 584) (by decide +kernel)⟩
theorem lw_p27 : lw_okq (⟨"EchoesFirst", "markOfSound", "(I)I"⟩, 8) := ⟨⟨by decide +kernel, by decide +kernel⟩, List.mem_of_getElem? (i := 11) (by decide +kernel), List.mem_of_getElem? (i := 588) (by decide +kernel), List.mem_of_getElem? (i := 589) (by decide +kernel)⟩
theorem lw_p28 : lw_okq (⟨"EchoesFirst", "markOfFall", "(I)I"⟩, 8) := ⟨⟨by decide +kernel, by decide +kernel⟩, List.mem_of_getElem? (i := 11) (by decide +kernel), List.mem_of_getElem? (i := 597) (by decide +kernel), List.mem_of_getElem? (i := 598) (by decide +kernel)⟩
theorem lw_p29 : lw_okq (⟨"EchoesFirst", "markOfName", "(I)I"⟩, 8) := ⟨⟨by decide +kernel, by decide +kernel⟩, List.mem_of_getElem? (i := 11) (by decide +kernel), List.mem_of_getElem? (i := 607) (by decide +kernel), List.mem_of_getElem? (i := 608) (by decide +kernel)⟩
theorem lw_p30 : lw_okq (⟨"EchoesFirst", "markOfShot", "(I)I"⟩, 8) := ⟨⟨by decide +kernel, by decide +kernel⟩, List.mem_of_getElem? (i := 11) (by decide +kernel), List.mem_of_getElem? (i := 612) (by decide +kernel), List.mem_of_getElem? (i := 613) (by decide +kernel)⟩
theorem lw_p31 : lw_okq (⟨"EchoesFirst", "markOfBell", "(I)I"⟩, 8) := ⟨⟨by decide +kernel, by decide +kernel⟩, List.mem_of_getElem? (i := 11) (by decide +kernel), List.mem_of_getElem? (i := 621) (by decide +kernel), List.mem_of_getElem? (i := 622) (by decide +kernel)⟩
def lw_privs_2 : List (MethodName × Nat) := [(⟨"EchoesFirst", "peopleInEachSet", "()I"⟩, 8), (⟨"EchoesFirst", "setsInWhichHeMakes", "(II)J"⟩, 8), (⟨"EchoesFirst$Course", "remember", "(II)V"⟩, 12), (⟨"EchoesFirst$Course", "loseOldest", "()V"⟩, 12), (⟨"EchoesFirst", "dueBits", "()I"⟩, 8), (⟨"EchoesFirst", "isMadeByDone", "(I)Z"⟩, 8), (⟨"EchoesFirst", "pastBits", "()I"⟩, 8), (⟨"EchoesFirst", "lieBits", "()I"⟩, 8), (⟨"EchoesFirst", "playersOf", "(III)I"⟩, 8), (⟨"EchoesFirst", "someoneCould", "(III)Z"⟩, 8), (⟨"EchoesFirst", "markOfShout", "(I)I"⟩, 8), (⟨"EchoesFirst", "markOfSound", "(I)I"⟩, 8), (⟨"EchoesFirst", "markOfFall", "(I)I"⟩, 8), (⟨"EchoesFirst", "markOfName", "(I)I"⟩, 8), (⟨"EchoesFirst", "markOfShot", "(I)I"⟩, 8), (⟨"EchoesFirst", "markOfBell", "(I)I"⟩, 8)]
theorem lw_r2 : ∀ q ∈ lw_privs_2, lw_okq q := List.forall_mem_cons.mpr ⟨lw_p16, List.forall_mem_cons.mpr ⟨lw_p17, List.forall_mem_cons.mpr ⟨lw_p18, List.forall_mem_cons.mpr ⟨lw_p19, List.forall_mem_cons.mpr ⟨lw_p20, List.forall_mem_cons.mpr ⟨lw_p21, List.forall_mem_cons.mpr ⟨lw_p22, List.forall_mem_cons.mpr ⟨lw_p23, List.forall_mem_cons.mpr ⟨lw_p24, List.forall_mem_cons.mpr ⟨lw_p25, List.forall_mem_cons.mpr ⟨lw_p26, List.forall_mem_cons.mpr ⟨lw_p27, List.forall_mem_cons.mpr ⟨lw_p28, List.forall_mem_cons.mpr ⟨lw_p29, List.forall_mem_cons.mpr ⟨lw_p30, List.forall_mem_cons.mpr ⟨lw_p31, fun _ h => absurd h List.not_mem_nil⟩⟩⟩⟩⟩⟩⟩⟩⟩⟩⟩⟩⟩⟩⟩⟩
theorem lw_p32 : lw_okq (⟨"EchoesFirst", "imageOf", "(I)LEchoesFirst$Course;"⟩, 8) := ⟨⟨by decide +kernel, by decide +kernel⟩, List.mem_of_getElem? (i := 11) (by decide +kernel), List.mem_of_getElem? (i := 630) (by decide +kernel), List.mem_of_getElem? (i := 631) (by decide +kernel)⟩
theorem lw_p33 : lw_okq (⟨"EchoesFirstModel", "next", "()V"⟩, 28) := ⟨⟨by decide +kernel, by decide +kernel⟩, List.mem_of_getElem? (i := 650) (by decide +kernel), List.mem_of_getElem? (i := 757) (by decide +kernel), List.mem_of_getElem? (i := 758) (by decide +kernel)⟩
theorem lw_p34 : lw_okq (⟨"EchoesFirstModel", "byteAt", "(I)I"⟩, 28) := ⟨⟨by decide +kernel, by decide +kernel⟩, List.mem_of_getElem? (i := 650) (by decide +kernel), List.mem_of_getElem? (i := 761) (by decide +kernel), List.mem_of_getElem? (i := 762) (by decide +kernel)⟩
theorem lw_p35 : lw_okq (⟨"EchoesFirstModel", "readItem", "(Z)V"⟩, 28) := ⟨⟨by decide +kernel, by decide +kernel⟩, List.mem_of_getElem? (i := 650) (by decide +kernel), List.mem_of_getElem? (i := 765) (by decide +kernel), List.mem_of_getElem? (i := 766) (by decide +kernel)⟩
theorem lw_p36 : lw_okq (⟨"EchoesFirstModel", "readPlaces", "(Z)V"⟩, 28) := ⟨⟨by decide +kernel, by decide +kernel⟩, List.mem_of_getElem? (i := 650) (by decide +kernel), List.mem_of_getElem? (i := 770) (by decide +kernel), List.mem_of_getElem? (i := 771) (by decide +kernel)⟩
theorem lw_p37 : lw_okq (⟨"EchoesFirstModel", "must", "(Z)V"⟩, 28) := ⟨⟨by decide +kernel, by decide +kernel⟩, List.mem_of_getElem? (i := 650) (by decide +kernel), List.mem_of_getElem? (i := 774) (by decide +kernel), List.mem_of_getElem? (i := 775) (by decide +kernel)⟩
theorem lw_p38 : lw_okq (⟨"EchoesFirstModel", "readInto", "([IIII)I"⟩, 28) := ⟨⟨by decide +kernel, by decide +kernel⟩, List.mem_of_getElem? (i := 650) (by decide +kernel), List.mem_of_getElem? (i := 778) (by decide +kernel), List.mem_of_getElem? (i := 779) (by decide +kernel)⟩
theorem lw_p39 : lw_okq (⟨"EchoesFirstModel", "readFar", "()V"⟩, 28) := ⟨⟨by decide +kernel, by decide +kernel⟩, List.mem_of_getElem? (i := 650) (by decide +kernel), List.mem_of_getElem? (i := 783) (by decide +kernel), List.mem_of_getElem? (i := 784) (by decide +kernel)⟩
theorem lw_p40 : lw_okq (⟨"EchoesFirstModel", "readPerson", "()V"⟩, 28) := ⟨⟨by decide +kernel, by decide +kernel⟩, List.mem_of_getElem? (i := 650) (by decide +kernel), List.mem_of_getElem? (i := 788) (by decide +kernel), List.mem_of_getElem? (i := 789) (by decide +kernel)⟩
theorem lw_p41 : lw_okq (⟨"EchoesFirstModel", "isPlace", "(I)Z"⟩, 28) := ⟨⟨by decide +kernel, by decide +kernel⟩, List.mem_of_getElem? (i := 650) (by decide +kernel), List.mem_of_getElem? (i := 799) (by decide +kernel), List.mem_of_getElem? (i := 800) (by decide +kernel)⟩
theorem lw_p42 : lw_okq (⟨"EchoesFirstModel", "farOf", "(II)I"⟩, 28) := ⟨⟨by decide +kernel, by decide +kernel⟩, List.mem_of_getElem? (i := 650) (by decide +kernel), List.mem_of_getElem? (i := 803) (by decide +kernel), List.mem_of_getElem? (i := 804) (by decide +kernel)⟩
theorem lw_p43 : lw_okq (⟨"EchoesFirstModel", "isPerson", "(I)Z"⟩, 28) := ⟨⟨by decide +kernel, by decide +kernel⟩, List.mem_of_getElem? (i := 650) (by decide +kernel), List.mem_of_getElem? (i := 811) (by decide +kernel), List.mem_of_getElem? (i := 812) (by decide +kernel)⟩
theorem lw_p44 : lw_okq (⟨"EchoesFirstModel", "whoOf", "(I)I"⟩, 28) := ⟨⟨by decide +kernel, by decide +kernel⟩, List.mem_of_getElem? (i := 650) (by decide +kernel), List.mem_of_getElem? (i := 833) (by decide +kernel), List.mem_of_getElem? (i := 834) (by decide +kernel)⟩
theorem lw_p45 : lw_okq (⟨"EchoesFirstModel", "isHeard", "(I)Z"⟩, 28) := ⟨⟨by decide +kernel, by decide +kernel⟩, List.mem_of_getElem? (i := 650) (by decide +kernel), List.mem_of_getElem? (i := 837) (by decide +kernel), List.mem_of_getElem? (i := 838) (by decide +kernel)⟩
theorem lw_p46 : lw_okq (⟨"EchoesFirstModel", "makesOf", "(III)I"⟩, 28) := ⟨⟨by decide +kernel, by decide +kernel⟩, List.mem_of_getElem? (i := 650) (by decide +kernel), List.mem_of_getElem? (i := 841) (by decide +kernel), List.mem_of_getElem? (i := 842) (by decide +kernel)⟩
theorem lw_p47 : lw_okq (⟨"EchoesFirstModel", "can", "(III)Z"⟩, 28) := ⟨⟨by decide +kernel, by decide +kernel⟩, List.mem_of_getElem? (i := 650) (by decide +kernel), List.mem_of_getElem? (i := 845) (by decide +kernel), List.mem_of_getElem? (i := 846) (by decide +kernel)⟩
def lw_privs_3 : List (MethodName × Nat) := [(⟨"EchoesFirst", "imageOf", "(I)LEchoesFirst$Course;"⟩, 8), (⟨"EchoesFirstModel", "next", "()V"⟩, 28), (⟨"EchoesFirstModel", "byteAt", "(I)I"⟩, 28), (⟨"EchoesFirstModel", "readItem", "(Z)V"⟩, 28), (⟨"EchoesFirstModel", "readPlaces", "(Z)V"⟩, 28), (⟨"EchoesFirstModel", "must", "(Z)V"⟩, 28), (⟨"EchoesFirstModel", "readInto", "([IIII)I"⟩, 28), (⟨"EchoesFirstModel", "readFar", "()V"⟩, 28), (⟨"EchoesFirstModel", "readPerson", "()V"⟩, 28), (⟨"EchoesFirstModel", "isPlace", "(I)Z"⟩, 28), (⟨"EchoesFirstModel", "farOf", "(II)I"⟩, 28), (⟨"EchoesFirstModel", "isPerson", "(I)Z"⟩, 28), (⟨"EchoesFirstModel", "whoOf", "(I)I"⟩, 28), (⟨"EchoesFirstModel", "isHeard", "(I)Z"⟩, 28), (⟨"EchoesFirstModel", "makesOf", "(III)I"⟩, 28), (⟨"EchoesFirstModel", "can", "(III)Z"⟩, 28)]
theorem lw_r3 : ∀ q ∈ lw_privs_3, lw_okq q := List.forall_mem_cons.mpr ⟨lw_p32, List.forall_mem_cons.mpr ⟨lw_p33, List.forall_mem_cons.mpr ⟨lw_p34, List.forall_mem_cons.mpr ⟨lw_p35, List.forall_mem_cons.mpr ⟨lw_p36, List.forall_mem_cons.mpr ⟨lw_p37, List.forall_mem_cons.mpr ⟨lw_p38, List.forall_mem_cons.mpr ⟨lw_p39, List.forall_mem_cons.mpr ⟨lw_p40, List.forall_mem_cons.mpr ⟨lw_p41, List.forall_mem_cons.mpr ⟨lw_p42, List.forall_mem_cons.mpr ⟨lw_p43, List.forall_mem_cons.mpr ⟨lw_p44, List.forall_mem_cons.mpr ⟨lw_p45, List.forall_mem_cons.mpr ⟨lw_p46, List.forall_mem_cons.mpr ⟨lw_p47, fun _ h => absurd h List.not_mem_nil⟩⟩⟩⟩⟩⟩⟩⟩⟩⟩⟩⟩⟩⟩⟩⟩
theorem lw_p48 : lw_okq (⟨"EchoesFirstModel", "fits", "(III)I"⟩, 28) := ⟨⟨by decide +kernel, by decide +kernel⟩, List.mem_of_getElem? (i := 650) (by decide +kernel), List.mem_of_getElem? (i := 849) (by decide +kernel), List.mem_of_getElem? (i := 850) (by decide +kernel)⟩
theorem lw_p49 : lw_okq (⟨"EchoesFirstModel", "allHeard", "()I"⟩, 28) := ⟨⟨by decide +kernel, by decide +kernel⟩, List.mem_of_getElem? (i := 650) (by decide +kernel), List.mem_of_getElem? (i := 853) (by decide +kernel), List.mem_of_getElem? (i := 854) (by decide +kernel)⟩
theorem lw_p50 : lw_okq (⟨"EchoesFirstModel", "findLeast", "()Z"⟩, 28) := ⟨⟨by decide +kernel, by decide +kernel⟩, List.mem_of_getElem? (i := 650) (by decide +kernel), List.mem_of_getElem? (i := 865) (by decide +kernel), List.mem_of_getElem? (i := 866) (by decide +kernel)⟩
theorem lw_p51 : lw_okq (⟨"EchoesFirstModel", "findDeeds", "()V"⟩, 28) := ⟨⟨by decide +kernel, by decide +kernel⟩, List.mem_of_getElem? (i := 650) (by decide +kernel), List.mem_of_getElem? (i := 869) (by decide +kernel), List.mem_of_getElem? (i := 870) (by decide +kernel)⟩
theorem lw_p52 : lw_okq (⟨"EchoesFirstModel", "findWays", "(III)V"⟩, 28) := ⟨⟨by decide +kernel, by decide +kernel⟩, List.mem_of_getElem? (i := 650) (by decide +kernel), List.mem_of_getElem? (i := 873) (by decide +kernel), List.mem_of_getElem? (i := 874) (by decide +kernel)⟩
theorem lw_p53 : lw_okq (⟨"EchoesFirstModel", "waysWithout", "(II)I"⟩, 28) := ⟨⟨by decide +kernel, by decide +kernel⟩, List.mem_of_getElem? (i := 650) (by decide +kernel), List.mem_of_getElem? (i := 877) (by decide +kernel), List.mem_of_getElem? (i := 878) (by decide +kernel)⟩
theorem lw_p54 : lw_okq (⟨"EchoesFirstModel", "goesOn", "(III)Z"⟩, 28) := ⟨⟨by decide +kernel, by decide +kernel⟩, List.mem_of_getElem? (i := 650) (by decide +kernel), List.mem_of_getElem? (i := 885) (by decide +kernel), List.mem_of_getElem? (i := 886) (by decide +kernel)⟩
theorem lw_p55 : lw_okq (⟨"EchoesFirstModel", "knows", "(II)V"⟩, 28) := ⟨⟨by decide +kernel, by decide +kernel⟩, List.mem_of_getElem? (i := 650) (by decide +kernel), List.mem_of_getElem? (i := 897) (by decide +kernel), List.mem_of_getElem? (i := 898) (by decide +kernel)⟩
theorem lw_p56 : lw_okq (⟨"EchoesFirstModel", "due", "()I"⟩, 28) := ⟨⟨by decide +kernel, by decide +kernel⟩, List.mem_of_getElem? (i := 650) (by decide +kernel), List.mem_of_getElem? (i := 921) (by decide +kernel), List.mem_of_getElem? (i := 922) (by decide +kernel)⟩
theorem lw_p57 : lw_okq (⟨"EchoesFirstModel", "fitsOf", "(I)I"⟩, 28) := ⟨⟨by decide +kernel, by decide +kernel⟩, List.mem_of_getElem? (i := 650) (by decide +kernel), List.mem_of_getElem? (i := 925) (by decide +kernel), List.mem_of_getElem? (i := 926) (by decide +kernel)⟩
theorem lw_p58 : lw_okq (⟨"EchoesFirstModel", "past", "()I"⟩, 28) := ⟨⟨by decide +kernel, by decide +kernel⟩, List.mem_of_getElem? (i := 650) (by decide +kernel), List.mem_of_getElem? (i := 929) (by decide +kernel), List.mem_of_getElem? (i := 930) (by decide +kernel)⟩
theorem lw_p59 : lw_okq (⟨"EchoesFirstModel", "lies", "()I"⟩, 28) := ⟨⟨by decide +kernel, by decide +kernel⟩, List.mem_of_getElem? (i := 650) (by decide +kernel), List.mem_of_getElem? (i := 933) (by decide +kernel), List.mem_of_getElem? (i := 934) (by decide +kernel)⟩
theorem lw_p60 : lw_okq (⟨"EchoesFirstModel", "beginOf", "(IIII)I"⟩, 28) := ⟨⟨by decide +kernel, by decide +kernel⟩, List.mem_of_getElem? (i := 650) (by decide +kernel), List.mem_of_getElem? (i := 945) (by decide +kernel), List.mem_of_getElem? (i := 946) (by decide +kernel)⟩
theorem lw_p61 : lw_okq (⟨"EchoesFirstModel", "isRow", "(I)Z"⟩, 28) := ⟨⟨by decide +kernel, by decide +kernel⟩, List.mem_of_getElem? (i := 650) (by decide +kernel), List.mem_of_getElem? (i := 957) (by decide +kernel), List.mem_of_getElem? (i := 958) (by decide +kernel)⟩
theorem lw_p62 : lw_okq (⟨"EchoesFirstModel", "soundMark", "(I)I"⟩, 28) := ⟨⟨by decide +kernel, by decide +kernel⟩, List.mem_of_getElem? (i := 650) (by decide +kernel), List.mem_of_getElem? (i := 971) (by decide +kernel), List.mem_of_getElem? (i := 972) (by decide +kernel)⟩
theorem lw_p63 : lw_okq (⟨"EchoesFirstModel", "shoutMark", "(I)I"⟩, 28) := ⟨⟨by decide +kernel, by decide +kernel⟩, List.mem_of_getElem? (i := 650) (by decide +kernel), List.mem_of_getElem? (i := 975) (by decide +kernel), List.mem_of_getElem? (i := 976) (by decide +kernel)⟩
def lw_privs_4 : List (MethodName × Nat) := [(⟨"EchoesFirstModel", "fits", "(III)I"⟩, 28), (⟨"EchoesFirstModel", "allHeard", "()I"⟩, 28), (⟨"EchoesFirstModel", "findLeast", "()Z"⟩, 28), (⟨"EchoesFirstModel", "findDeeds", "()V"⟩, 28), (⟨"EchoesFirstModel", "findWays", "(III)V"⟩, 28), (⟨"EchoesFirstModel", "waysWithout", "(II)I"⟩, 28), (⟨"EchoesFirstModel", "goesOn", "(III)Z"⟩, 28), (⟨"EchoesFirstModel", "knows", "(II)V"⟩, 28), (⟨"EchoesFirstModel", "due", "()I"⟩, 28), (⟨"EchoesFirstModel", "fitsOf", "(I)I"⟩, 28), (⟨"EchoesFirstModel", "past", "()I"⟩, 28), (⟨"EchoesFirstModel", "lies", "()I"⟩, 28), (⟨"EchoesFirstModel", "beginOf", "(IIII)I"⟩, 28), (⟨"EchoesFirstModel", "isRow", "(I)Z"⟩, 28), (⟨"EchoesFirstModel", "soundMark", "(I)I"⟩, 28), (⟨"EchoesFirstModel", "shoutMark", "(I)I"⟩, 28)]
theorem lw_r4 : ∀ q ∈ lw_privs_4, lw_okq q := List.forall_mem_cons.mpr ⟨lw_p48, List.forall_mem_cons.mpr ⟨lw_p49, List.forall_mem_cons.mpr ⟨lw_p50, List.forall_mem_cons.mpr ⟨lw_p51, List.forall_mem_cons.mpr ⟨lw_p52, List.forall_mem_cons.mpr ⟨lw_p53, List.forall_mem_cons.mpr ⟨lw_p54, List.forall_mem_cons.mpr ⟨lw_p55, List.forall_mem_cons.mpr ⟨lw_p56, List.forall_mem_cons.mpr ⟨lw_p57, List.forall_mem_cons.mpr ⟨lw_p58, List.forall_mem_cons.mpr ⟨lw_p59, List.forall_mem_cons.mpr ⟨lw_p60, List.forall_mem_cons.mpr ⟨lw_p61, List.forall_mem_cons.mpr ⟨lw_p62, List.forall_mem_cons.mpr ⟨lw_p63, fun _ h => absurd h List.not_mem_nil⟩⟩⟩⟩⟩⟩⟩⟩⟩⟩⟩⟩⟩⟩⟩⟩
theorem lw_p64 : lw_okq (⟨"EchoesFirstModel", "fallMark", "(I)I"⟩, 28) := ⟨⟨by decide +kernel, by decide +kernel⟩, List.mem_of_getElem? (i := 650) (by decide +kernel), List.mem_of_getElem? (i := 980) (by decide +kernel), List.mem_of_getElem? (i := 981) (by decide +kernel)⟩
theorem lw_p65 : lw_okq (⟨"EchoesFirstModel", "shotMark", "(I)I"⟩, 28) := ⟨⟨by decide +kernel, by decide +kernel⟩, List.mem_of_getElem? (i := 650) (by decide +kernel), List.mem_of_getElem? (i := 986) (by decide +kernel), List.mem_of_getElem? (i := 987) (by decide +kernel)⟩
def lw_privs_5 : List (MethodName × Nat) := [(⟨"EchoesFirstModel", "fallMark", "(I)I"⟩, 28), (⟨"EchoesFirstModel", "shotMark", "(I)I"⟩, 28)]
theorem lw_r5 : ∀ q ∈ lw_privs_5, lw_okq q := List.forall_mem_cons.mpr ⟨lw_p64, List.forall_mem_cons.mpr ⟨lw_p65, fun _ h => absurd h List.not_mem_nil⟩⟩
def lw_privs : List (MethodName × Nat) := lw_privs_1 ++ (lw_privs_2 ++ (lw_privs_3 ++ (lw_privs_4 ++ (lw_privs_5))))
def lw_tbl : List Cond := k2_sels lw_privs ++ tables_1
theorem lw_privs_ok : ∀ q ∈ lw_privs, lw_okq q := by
  show ∀ q ∈ lw_privs_1 ++ (lw_privs_2 ++ (lw_privs_3 ++ (lw_privs_4 ++ (lw_privs_5)))), lw_okq q
  exact List.forall_mem_append.mpr ⟨lw_r1, List.forall_mem_append.mpr ⟨lw_r2, List.forall_mem_append.mpr ⟨lw_r3, List.forall_mem_append.mpr ⟨lw_r4, lw_r5⟩⟩⟩⟩

/-! ===== BEGIN words of one list among another's, by their places ===== -/
theorem goodIn_r {big : List Cond} (ws : List Cond) (ps : List Nat) (hp : ws = ps.filterMap (fun i => big[i]?)) (h : ws.all goodWord = true) : GoodIn big ws := by
  intro w hw
  have h1 := List.all_eq_true.mp h w hw
  rw [hp] at hw
  obtain ⟨i, -, hi⟩ := List.mem_filterMap.mp hw
  have hm : w ∈ big := by first | exact List.mem_of_getElem? hi | exact List.getElem?_mem hi
  exact ⟨hm, good_of_word h1⟩
theorem goodIn_app {big a b : List Cond} (ha : GoodIn big a) (hb : GoodIn big b) : GoodIn big (a ++ b) := fun w h => (List.mem_append.mp h).elim (ha w) (hb w)
theorem goodIn_ca {big a b : List Cond} {c : Cond} (ha : GoodIn big (c :: a)) (hb : GoodIn big b) : GoodIn big (c :: (a ++ b)) := fun w h => (List.mem_cons.mp h).elim (fun e => ha w (List.mem_cons.mpr (Or.inl e))) (fun h => (List.mem_append.mp h).elim (fun h => ha w (List.mem_cons.mpr (Or.inr h))) (hb w))
theorem goodIn_sub {big ws : List Cond} (hm : ∀ w ∈ ws, w ∈ big) (h : ws.all goodWord = true) : GoodIn big ws := fun w hw => ⟨hm w hw, good_of_word (List.all_eq_true.mp h w hw)⟩
/-! ===== END ===== -/

/-! ===== BEGIN printed: names, fields, word lists, decode rows ===== -/
def RX0 : String := "EchoesFirst$Course"
def TX0 : u_T := fun k => match k with
  | 0 => ("EchoesFirst$Course", "isKept", "Z", false)
  | 1 => ("EchoesFirst$Course", "now", "I", false)
  | 2 => ("EchoesFirst$Course", "doneCount", "I", false)
  | 3 => ("EchoesFirst$Course", "undoCount", "I", false)
  | 4 => ("EchoesFirst$Course", "donePerson", "[I", true)
  | 5 => ("EchoesFirst$Course", "doneSound", "[I", true)
  | 6 => ("EchoesFirst$Course", "doneSecond", "[I", true)
  | 7 => ("EchoesFirst$Course", "donePlace", "[I", true)
  | 8 => ("EchoesFirst$Course", "place", "[I", true)
  | 9 => ("EchoesFirst$Course", "undoWhat", "[I", true)
  | 10 => ("EchoesFirst$Course", "undoPerson", "[I", true)
  | _ => ("EchoesFirst$Course", "undoPlace", "[I", true)
def tyX0 : Nat → FieldType := fun k => match k with
  | 0 => .boolean
  | 1 => .int
  | 2 => .int
  | 3 => .int
  | 4 => .array .int
  | 5 => .array .int
  | 6 => .array .int
  | 7 => .array .int
  | 8 => .array .int
  | 9 => .array .int
  | 10 => .array .int
  | _ => .array .int
abbrev wsX00 : List Cond := u_ws RX0 TX0 12
theorem nmX0 : ∀ a, a < 12 → ∀ b, b < 12 → a ≠ b → (TX0 a).2.1 ≠ (TX0 b).2.1 := by decide +kernel
theorem tyX0_ok : ∀ k, k < 12 → parseFieldDescriptor (TX0 k).2.2.1 = some (tyX0 k) := by decide +kernel
abbrev cX0_init : ByteArray := prog_2_method_1_code
def yX0_init : MethodName := ⟨RX0, "<init>", "()V"⟩
abbrev cX0_startIn : ByteArray := prog_2_method_2_code
def yX0_startIn : MethodName := ⟨RX0, "startIn", "(LEchoesFirst$Valley;)V"⟩
abbrev cX0_copyFrom : ByteArray := prog_2_method_3_code
def yX0_copyFrom : MethodName := ⟨RX0, "copyFrom", "(LEchoesFirst$Course;)V"⟩
abbrev cX0_placeOf : ByteArray := prog_2_method_4_code
def yX0_placeOf : MethodName := ⟨RX0, "placeOf", "(I)I"⟩
abbrev cX0_passSecond : ByteArray := prog_2_method_5_code
def yX0_passSecond : MethodName := ⟨RX0, "passSecond", "()V"⟩
abbrev cX0_addDone : ByteArray := prog_2_method_6_code
def yX0_addDone : MethodName := ⟨RX0, "addDone", "(II)V"⟩
abbrev cX0_move : ByteArray := prog_2_method_7_code
def yX0_move : MethodName := ⟨RX0, "move", "(II)V"⟩
abbrev cX0_remember : ByteArray := prog_2_method_8_code
def yX0_remember : MethodName := ⟨RX0, "remember", "(II)V"⟩
abbrev cX0_loseOldest : ByteArray := prog_2_method_9_code
def yX0_loseOldest : MethodName := ⟨RX0, "loseOldest", "()V"⟩
abbrev cX0_takeBack : ByteArray := prog_2_method_10_code
def yX0_takeBack : MethodName := ⟨RX0, "takeBack", "()V"⟩
abbrev cX0_timesDone : ByteArray := prog_2_method_11_code
def yX0_timesDone : MethodName := ⟨RX0, "timesDone", "(I)I"⟩
def RX1 : String := "EchoesFirst$DeedSets"
def TX1 : u_T := fun k => match k with
  | 0 => ("EchoesFirst$DeedSets", "size", "I", false)
  | 1 => ("EchoesFirst$DeedSets", "goals", "I", false)
  | 2 => ("EchoesFirst$DeedSets", "numbers", "[I", true)
  | 3 => ("EchoesFirst$DeedSets", "reached", "[I", true)
  | 4 => ("EchoesFirst$DeedSets", "fewest", "[I", true)
  | 5 => ("EchoesFirst$DeedSets", "ways", "[J", true)
  | _ => ("EchoesFirst$DeedSets", "firstRow", "[J", true)
def tyX1 : Nat → FieldType := fun k => match k with
  | 0 => .int
  | 1 => .int
  | 2 => .array .int
  | 3 => .array .int
  | 4 => .array .int
  | 5 => .array .long
  | _ => .array .long
abbrev wsX10 : List Cond := u_ws RX1 TX1 7
theorem nmX1 : ∀ a, a < 7 → ∀ b, b < 7 → a ≠ b → (TX1 a).2.1 ≠ (TX1 b).2.1 := by decide +kernel
theorem tyX1_ok : ∀ k, k < 7 → parseFieldDescriptor (TX1 k).2.2.1 = some (tyX1 k) := by decide +kernel
abbrev cX1_init : ByteArray := prog_3_method_1_code
def yX1_init : MethodName := ⟨RX1, "<init>", "()V"⟩
abbrev cX1_empty : ByteArray := prog_3_method_2_code
def yX1_empty : MethodName := ⟨RX1, "empty", "()V"⟩
abbrev cX1_addGoal : ByteArray := prog_3_method_3_code
def yX1_addGoal : MethodName := ⟨RX1, "addGoal", "()I"⟩
abbrev cX1_addDeed : ByteArray := prog_3_method_4_code
def yX1_addDeed : MethodName := ⟨RX1, "addDeed", "(II)V"⟩
abbrev cX1_solve : ByteArray := prog_3_method_5_code
def yX1_solve : MethodName := ⟨RX1, "solve", "(II)V"⟩
abbrev cX1_letIn : ByteArray := prog_3_method_6_code
def yX1_letIn : MethodName := ⟨RX1, "letIn", "(I)V"⟩
abbrev cX1_seenGoals : ByteArray := prog_3_method_7_code
def yX1_seenGoals : MethodName := ⟨RX1, "seenGoals", "()I"⟩
abbrev cX1_areThere : ByteArray := prog_3_method_8_code
def yX1_areThere : MethodName := ⟨RX1, "areThere", "()Z"⟩
abbrev cX1_sizeOfEach : ByteArray := prog_3_method_9_code
def yX1_sizeOfEach : MethodName := ⟨RX1, "sizeOfEach", "()I"⟩
abbrev cX1_howMany : ByteArray := prog_3_method_10_code
def yX1_howMany : MethodName := ⟨RX1, "howMany", "()J"⟩
abbrev cX1_numberInFirst : ByteArray := prog_3_method_11_code
def yX1_numberInFirst : MethodName := ⟨RX1, "numberInFirst", "(I)I"⟩
def RX2 : String := "EchoesFirst$Log"
def TX2 : u_T := fun k => match k with
  | 0 => ("EchoesFirst$Log", "size", "I", false)
  | 1 => ("EchoesFirst$Log", "seconds", "[I", true)
  | 2 => ("EchoesFirst$Log", "places", "[I", true)
  | 3 => ("EchoesFirst$Log", "sounds", "[I", true)
  | _ => ("EchoesFirst$Log", "heardOnes", "[I", true)
def tyX2 : Nat → FieldType := fun k => match k with
  | 0 => .int
  | 1 => .array .int
  | 2 => .array .int
  | 3 => .array .int
  | _ => .array .int
abbrev wsX20 : List Cond := u_ws RX2 TX2 5
theorem nmX2 : ∀ a, a < 5 → ∀ b, b < 5 → a ≠ b → (TX2 a).2.1 ≠ (TX2 b).2.1 := by decide +kernel
theorem tyX2_ok : ∀ k, k < 5 → parseFieldDescriptor (TX2 k).2.2.1 = some (tyX2 k) := by decide +kernel
abbrev cX2_init : ByteArray := prog_4_method_1_code
def yX2_init : MethodName := ⟨RX2, "<init>", "()V"⟩
abbrev cX2_has : ByteArray := prog_4_method_2_code
def yX2_has : MethodName := ⟨RX2, "has", "(I)Z"⟩
abbrev cX2_add : ByteArray := prog_4_method_3_code
def yX2_add : MethodName := ⟨RX2, "add", "(IIII)V"⟩
abbrev cX2_isHeard : ByteArray := prog_4_method_4_code
def yX2_isHeard : MethodName := ⟨RX2, "isHeard", "(I)Z"⟩
abbrev cX2_timesHeard : ByteArray := prog_4_method_5_code
def yX2_timesHeard : MethodName := ⟨RX2, "timesHeard", "(I)I"⟩
def RX3 : String := "EchoesFirst$Text"
def TX3 : u_T := fun k => match k with
  | 0 => ("EchoesFirst$Text", "length", "I", false)
  | 1 => ("EchoesFirst$Text", "draft", "LEchoesFirst$Valley;", true)
  | 2 => ("EchoesFirst$Text", "bytes", "[I", true)
  | 3 => ("EchoesFirst$Text", "start", "I", false)
  | 4 => ("EchoesFirst$Text", "next", "I", false)
  | 5 => ("EchoesFirst$Text", "token", "I", false)
  | _ => ("EchoesFirst$Text", "number", "I", false)
def tyX3 : Nat → FieldType := fun k => match k with
  | 0 => .int
  | 1 => .object "EchoesFirst$Valley"
  | 2 => .array .int
  | 3 => .int
  | 4 => .int
  | 5 => .int
  | _ => .int
abbrev wsX30 : List Cond := u_ws RX3 TX3 7
theorem nmX3 : ∀ a, a < 7 → ∀ b, b < 7 → a ≠ b → (TX3 a).2.1 ≠ (TX3 b).2.1 := by decide +kernel
theorem tyX3_ok : ∀ k, k < 7 → parseFieldDescriptor (TX3 k).2.2.1 = some (tyX3 k) := by decide +kernel
abbrev cX3_init : ByteArray := prog_5_method_1_code
def yX3_init : MethodName := ⟨RX3, "<init>", "()V"⟩
abbrev cX3_add : ByteArray := prog_5_method_2_code
def yX3_add : MethodName := ⟨RX3, "add", "(I)V"⟩
abbrev cX3_read : ByteArray := prog_5_method_3_code
def yX3_read : MethodName := ⟨RX3, "read", "()I"⟩
abbrev cX3_readItem : ByteArray := prog_5_method_4_code
def yX3_readItem : MethodName := ⟨RX3, "readItem", "(I)Z"⟩
abbrev cX3_readPlaces : ByteArray := prog_5_method_5_code
def yX3_readPlaces : MethodName := ⟨RX3, "readPlaces", "()Z"⟩
abbrev cX3_readFar : ByteArray := prog_5_method_6_code
def yX3_readFar : MethodName := ⟨RX3, "readFar", "()Z"⟩
abbrev cX3_readPerson : ByteArray := prog_5_method_7_code
def yX3_readPerson : MethodName := ⟨RX3, "readPerson", "()Z"⟩
abbrev cX3_readSounds : ByteArray := prog_5_method_8_code
def yX3_readSounds : MethodName := ⟨RX3, "readSounds", "()I"⟩
abbrev cX3_stepToNumber : ByteArray := prog_5_method_9_code
def yX3_stepToNumber : MethodName := ⟨RX3, "stepToNumber", "(II)Z"⟩
abbrev cX3_stepToStop : ByteArray := prog_5_method_10_code
def yX3_stepToStop : MethodName := ⟨RX3, "stepToStop", "()Z"⟩
abbrev cX3_step : ByteArray := prog_5_method_11_code
def yX3_step : MethodName := ⟨RX3, "step", "()V"⟩
abbrev cX3_kindOf : ByteArray := prog_5_method_12_code
def yX3_kindOf : MethodName := ⟨RX3, "kindOf", "(I)I"⟩
abbrev cX3_valueOf : ByteArray := prog_5_method_13_code
def yX3_valueOf : MethodName := ⟨RX3, "valueOf", "(III)I"⟩
def RX4 : String := "EchoesFirst$Valley"
def TX4 : u_T := fun k => match k with
  | 0 => ("EchoesFirst$Valley", "places", "I", false)
  | 1 => ("EchoesFirst$Valley", "people", "I", false)
  | 2 => ("EchoesFirst$Valley", "seconds", "[I", true)
  | 3 => ("EchoesFirst$Valley", "home", "[I", true)
  | 4 => ("EchoesFirst$Valley", "can", "[I", true)
  | 5 => ("EchoesFirst$Valley", "from", "[I", true)
  | _ => ("EchoesFirst$Valley", "to", "[I", true)
def tyX4 : Nat → FieldType := fun k => match k with
  | 0 => .int
  | 1 => .int
  | 2 => .array .int
  | 3 => .array .int
  | 4 => .array .int
  | 5 => .array .int
  | _ => .array .int
abbrev wsX40 : List Cond := u_ws RX4 TX4 7
theorem nmX4 : ∀ a, a < 7 → ∀ b, b < 7 → a ≠ b → (TX4 a).2.1 ≠ (TX4 b).2.1 := by decide +kernel
theorem tyX4_ok : ∀ k, k < 7 → parseFieldDescriptor (TX4 k).2.2.1 = some (tyX4 k) := by decide +kernel
abbrev cX4_init : ByteArray := prog_6_method_1_code
def yX4_init : MethodName := ⟨RX4, "<init>", "()V"⟩
abbrev cX4_becomeAsAtFirst : ByteArray := prog_6_method_2_code
def yX4_becomeAsAtFirst : MethodName := ⟨RX4, "becomeAsAtFirst", "()V"⟩
abbrev cX4_copyFrom : ByteArray := prog_6_method_3_code
def yX4_copyFrom : MethodName := ⟨RX4, "copyFrom", "(LEchoesFirst$Valley;)V"⟩
abbrev cX4_isPlace : ByteArray := prog_6_method_4_code
def yX4_isPlace : MethodName := ⟨RX4, "isPlace", "(I)Z"⟩
abbrev cX4_isPerson : ByteArray := prog_6_method_5_code
def yX4_isPerson : MethodName := ⟨RX4, "isPerson", "(I)Z"⟩
abbrev cX4_secondsBetween : ByteArray := prog_6_method_6_code
def yX4_secondsBetween : MethodName := ⟨RX4, "secondsBetween", "(II)I"⟩
abbrev cX4_setBetween : ByteArray := prog_6_method_7_code
def yX4_setBetween : MethodName := ⟨RX4, "setBetween", "(III)V"⟩
abbrev cX4_addPerson : ByteArray := prog_6_method_8_code
def yX4_addPerson : MethodName := ⟨RX4, "addPerson", "(IIII)V"⟩
abbrev cX4_canMake : ByteArray := prog_6_method_9_code
def yX4_canMake : MethodName := ⟨RX4, "canMake", "(II)Z"⟩
abbrev cX4_isThere : ByteArray := prog_6_method_10_code
def yX4_isThere : MethodName := ⟨RX4, "isThere", "(II)Z"⟩
abbrev cX4_howManyCan : ByteArray := prog_6_method_11_code
def yX4_howManyCan : MethodName := ⟨RX4, "howManyCan", "(I)I"⟩
def RX5 : String := "EchoesFirst"
def TX5 : u_T := fun k => match k with
  | 0 => ("EchoesFirst", "text", "LEchoesFirst$Text;", true)
  | 1 => ("EchoesFirst", "told", "LEchoesFirst$Valley;", true)
  | 2 => ("EchoesFirst", "log", "LEchoesFirst$Log;", true)
  | 3 => ("EchoesFirst", "course", "LEchoesFirst$Course;", true)
  | 4 => ("EchoesFirst", "imageZero", "LEchoesFirst$Course;", true)
  | 5 => ("EchoesFirst", "imageOne", "LEchoesFirst$Course;", true)
  | 6 => ("EchoesFirst", "sets", "LEchoesFirst$DeedSets;", true)
  | _ => ("EchoesFirst", "asked", "J", false)
def tyX5 : Nat → FieldType := fun k => match k with
  | 0 => .object "EchoesFirst$Text"
  | 1 => .object "EchoesFirst$Valley"
  | 2 => .object "EchoesFirst$Log"
  | 3 => .object "EchoesFirst$Course"
  | 4 => .object "EchoesFirst$Course"
  | 5 => .object "EchoesFirst$Course"
  | 6 => .object "EchoesFirst$DeedSets"
  | _ => .long
abbrev wsX50 : List Cond := u_ws RX5 TX5 8
theorem nmX5 : ∀ a, a < 8 → ∀ b, b < 8 → a ≠ b → (TX5 a).2.1 ≠ (TX5 b).2.1 := by decide +kernel
theorem tyX5_ok : ∀ k, k < 8 → parseFieldDescriptor (TX5 k).2.2.1 = some (tyX5 k) := by decide +kernel
abbrev cX5_init : ByteArray := prog_1_method_1_code
def yX5_init : MethodName := ⟨RX5, "<init>", "()V"⟩
abbrev cX5_type : ByteArray := prog_1_method_2_code
def yX5_type : MethodName := ⟨RX5, "type", "(I)I"⟩
abbrev cX5_clear : ByteArray := prog_1_method_3_code
def yX5_clear : MethodName := ⟨RX5, "clear", "()I"⟩
abbrev cX5_valley : ByteArray := prog_1_method_4_code
def yX5_valley : MethodName := ⟨RX5, "valley", "()I"⟩
abbrev cX5_far : ByteArray := prog_1_method_5_code
def yX5_far : MethodName := ⟨RX5, "far", "(II)I"⟩
abbrev cX5_person : ByteArray := prog_1_method_6_code
def yX5_person : MethodName := ⟨RX5, "person", "(II)I"⟩
abbrev cX5_heard : ByteArray := prog_1_method_7_code
def yX5_heard : MethodName := ⟨RX5, "heard", "(IIII)I"⟩
abbrev cX5_forget : ByteArray := prog_1_method_8_code
def yX5_forget : MethodName := ⟨RX5, "forget", "()I"⟩
abbrev cX5_who : ByteArray := prog_1_method_9_code
def yX5_who : MethodName := ⟨RX5, "who", "(I)I"⟩
abbrev cX5_nobody : ByteArray := prog_1_method_10_code
def yX5_nobody : MethodName := ⟨RX5, "nobody", "()I"⟩
abbrev cX5_deeds : ByteArray := prog_1_method_11_code
def yX5_deeds : MethodName := ⟨RX5, "deeds", "(I)I"⟩
abbrev cX5_first : ByteArray := prog_1_method_12_code
def yX5_first : MethodName := ⟨RX5, "first", "(I)I"⟩
abbrev cX5_odds : ByteArray := prog_1_method_13_code
def yX5_odds : MethodName := ⟨RX5, "odds", "(III)I"⟩
abbrev cX5_second : ByteArray := prog_1_method_14_code
def yX5_second : MethodName := ⟨RX5, "second", "()I"⟩
abbrev cX5_makes : ByteArray := prog_1_method_15_code
def yX5_makes : MethodName := ⟨RX5, "makes", "(II)I"⟩
abbrev cX5_moves : ByteArray := prog_1_method_16_code
def yX5_moves : MethodName := ⟨RX5, "moves", "(II)I"⟩
abbrev cX5_undo : ByteArray := prog_1_method_17_code
def yX5_undo : MethodName := ⟨RX5, "undo", "()I"⟩
abbrev cX5_done : ByteArray := prog_1_method_18_code
def yX5_done : MethodName := ⟨RX5, "done", "(II)I"⟩
abbrev cX5_now : ByteArray := prog_1_method_19_code
def yX5_now : MethodName := ⟨RX5, "now", "(I)I"⟩
abbrev cX5_sit : ByteArray := prog_1_method_20_code
def yX5_sit : MethodName := ⟨RX5, "sit", "(I)I"⟩
abbrev cX5_begin : ByteArray := prog_1_method_21_code
def yX5_begin : MethodName := ⟨RX5, "begin", "(IIII)I"⟩
abbrev cX5_together : ByteArray := prog_1_method_22_code
def yX5_together : MethodName := ⟨RX5, "together", "(III)I"⟩
abbrev cX5_played : ByteArray := prog_1_method_23_code
def yX5_played : MethodName := ⟨RX5, "played", "(III)I"⟩
abbrev cX5_sure : ByteArray := prog_1_method_24_code
def yX5_sure : MethodName := ⟨RX5, "sure", "(II)I"⟩
abbrev cX5_mark : ByteArray := prog_1_method_25_code
def yX5_mark : MethodName := ⟨RX5, "mark", "(II)I"⟩
abbrev cX5_keep : ByteArray := prog_1_method_26_code
def yX5_keep : MethodName := ⟨RX5, "keep", "(I)I"⟩
abbrev cX5_back : ByteArray := prog_1_method_27_code
def yX5_back : MethodName := ⟨RX5, "back", "(I)I"⟩
abbrev cX5_count : ByteArray := prog_1_method_28_code
def yX5_count : MethodName := ⟨RX5, "count", "(I)I"⟩
abbrev cX5_trace : ByteArray := prog_1_method_29_code
def yX5_trace : MethodName := ⟨RX5, "trace", "()J"⟩
abbrev cX5_isWithin : ByteArray := prog_1_method_30_code
def yX5_isWithin : MethodName := ⟨RX5, "isWithin", "(II)Z"⟩
abbrev cX5_isSound : ByteArray := prog_1_method_31_code
def yX5_isSound : MethodName := ⟨RX5, "isSound", "(I)Z"⟩
abbrev cX5_at : ByteArray := prog_1_method_32_code
def yX5_at : MethodName := ⟨RX5, "at", "([II)I"⟩
abbrev cX5_copyRow : ByteArray := prog_1_method_33_code
def yX5_copyRow : MethodName := ⟨RX5, "copyRow", "([I[I)V"⟩
abbrev cX5_isRowOfSounds : ByteArray := prog_1_method_34_code
def yX5_isRowOfSounds : MethodName := ⟨RX5, "isRowOfSounds", "(I)Z"⟩
abbrev cX5_figuresOf : ByteArray := prog_1_method_35_code
def yX5_figuresOf : MethodName := ⟨RX5, "figuresOf", "(I)I"⟩
abbrev cX5_greatestDivisor : ByteArray := prog_1_method_36_code
def yX5_greatestDivisor : MethodName := ⟨RX5, "greatestDivisor", "(JJ)J"⟩
abbrev cX5_imageOf : ByteArray := prog_1_method_37_code
def yX5_imageOf : MethodName := ⟨RX5, "imageOf", "(I)LEchoesFirst$Course;"⟩
abbrev cX5_secondToBegin : ByteArray := prog_1_method_38_code
def yX5_secondToBegin : MethodName := ⟨RX5, "secondToBegin", "(IIII)I"⟩
abbrev cX5_playersOf : ByteArray := prog_1_method_39_code
def yX5_playersOf : MethodName := ⟨RX5, "playersOf", "(III)I"⟩
abbrev cX5_reaches : ByteArray := prog_1_method_40_code
def yX5_reaches : MethodName := ⟨RX5, "reaches", "(IIII)Z"⟩
abbrev cX5_isAgainstStill : ByteArray := prog_1_method_41_code
def yX5_isAgainstStill : MethodName := ⟨RX5, "isAgainstStill", "(III)Z"⟩
abbrev cX5_someoneCould : ByteArray := prog_1_method_42_code
def yX5_someoneCould : MethodName := ⟨RX5, "someoneCould", "(III)Z"⟩
abbrev cX5_secondToMake : ByteArray := prog_1_method_43_code
def yX5_secondToMake : MethodName := ⟨RX5, "secondToMake", "(II)I"⟩
abbrev cX5_makersOf : ByteArray := prog_1_method_44_code
def yX5_makersOf : MethodName := ⟨RX5, "makersOf", "(II)I"⟩
abbrev cX5_findSets : ByteArray := prog_1_method_45_code
def yX5_findSets : MethodName := ⟨RX5, "findSets", "()V"⟩
abbrev cX5_numberOf : ByteArray := prog_1_method_46_code
def yX5_numberOf : MethodName := ⟨RX5, "numberOf", "(III)I"⟩
abbrev cX5_peopleInEachSet : ByteArray := prog_1_method_47_code
def yX5_peopleInEachSet : MethodName := ⟨RX5, "peopleInEachSet", "()I"⟩
abbrev cX5_setsInWhichHeMakes : ByteArray := prog_1_method_48_code
def yX5_setsInWhichHeMakes : MethodName := ⟨RX5, "setsInWhichHeMakes", "(II)J"⟩
abbrev cX5_isMadeByDone : ByteArray := prog_1_method_49_code
def yX5_isMadeByDone : MethodName := ⟨RX5, "isMadeByDone", "(I)Z"⟩
abbrev cX5_dueBits : ByteArray := prog_1_method_50_code
def yX5_dueBits : MethodName := ⟨RX5, "dueBits", "()I"⟩
abbrev cX5_pastBits : ByteArray := prog_1_method_51_code
def yX5_pastBits : MethodName := ⟨RX5, "pastBits", "()I"⟩
abbrev cX5_lieBits : ByteArray := prog_1_method_52_code
def yX5_lieBits : MethodName := ⟨RX5, "lieBits", "()I"⟩
abbrev cX5_markOfSound : ByteArray := prog_1_method_53_code
def yX5_markOfSound : MethodName := ⟨RX5, "markOfSound", "(I)I"⟩
abbrev cX5_markOfShout : ByteArray := prog_1_method_54_code
def yX5_markOfShout : MethodName := ⟨RX5, "markOfShout", "(I)I"⟩
abbrev cX5_markOfFall : ByteArray := prog_1_method_55_code
def yX5_markOfFall : MethodName := ⟨RX5, "markOfFall", "(I)I"⟩
abbrev cX5_markOfName : ByteArray := prog_1_method_56_code
def yX5_markOfName : MethodName := ⟨RX5, "markOfName", "(I)I"⟩
abbrev cX5_markOfShot : ByteArray := prog_1_method_57_code
def yX5_markOfShot : MethodName := ⟨RX5, "markOfShot", "(I)I"⟩
abbrev cX5_markOfBell : ByteArray := prog_1_method_58_code
def yX5_markOfBell : MethodName := ⟨RX5, "markOfBell", "(I)I"⟩
def RX6 : String := "EchoesFirstModel"
def TX6 : u_T := fun k => match k with
  | 0 => ("EchoesFirstModel", "places", "I", false)
  | 1 => ("EchoesFirstModel", "fars", "[I", true)
  | 2 => ("EchoesFirstModel", "people", "I", false)
  | 3 => ("EchoesFirstModel", "person", "[I", true)
  | 4 => ("EchoesFirstModel", "entries", "I", false)
  | 5 => ("EchoesFirstModel", "log", "[I", true)
  | 6 => ("EchoesFirstModel", "st", "[I", true)
  | 7 => ("EchoesFirstModel", "images", "[I", true)
  | 8 => ("EchoesFirstModel", "isKept", "[Z", true)
  | 9 => ("EchoesFirstModel", "trace", "J", false)
  | 10 => ("EchoesFirstModel", "text", "[I", true)
  | 11 => ("EchoesFirstModel", "texted", "I", false)
  | 12 => ("EchoesFirstModel", "cursor", "I", false)
  | 13 => ("EchoesFirstModel", "start", "I", false)
  | 14 => ("EchoesFirstModel", "token", "I", false)
  | 15 => ("EchoesFirstModel", "number", "I", false)
  | 16 => ("EchoesFirstModel", "word", "J", false)
  | 17 => ("EchoesFirstModel", "isWrong", "Z", false)
  | 18 => ("EchoesFirstModel", "saidPlaces", "I", false)
  | 19 => ("EchoesFirstModel", "saidFars", "[I", true)
  | 20 => ("EchoesFirstModel", "saidPeople", "I", false)
  | 21 => ("EchoesFirstModel", "saidPerson", "[I", true)
  | 22 => ("EchoesFirstModel", "few", "[I", true)
  | 23 => ("EchoesFirstModel", "many", "I", false)
  | 24 => ("EchoesFirstModel", "numbers", "[I", true)
  | 25 => ("EchoesFirstModel", "covers", "[I", true)
  | 26 => ("EchoesFirstModel", "ways", "[I", true)
  | _ => ("EchoesFirstModel", "least", "I", false)
def tyX6 : Nat → FieldType := fun k => match k with
  | 0 => .int
  | 1 => .array .int
  | 2 => .int
  | 3 => .array .int
  | 4 => .int
  | 5 => .array .int
  | 6 => .array .int
  | 7 => .array .int
  | 8 => .array .boolean
  | 9 => .long
  | 10 => .array .int
  | 11 => .int
  | 12 => .int
  | 13 => .int
  | 14 => .int
  | 15 => .int
  | 16 => .long
  | 17 => .boolean
  | 18 => .int
  | 19 => .array .int
  | 20 => .int
  | 21 => .array .int
  | 22 => .array .int
  | 23 => .int
  | 24 => .array .int
  | 25 => .array .int
  | 26 => .array .int
  | _ => .int
abbrev wsX60 : List Cond := u_ws RX6 TX6 28
theorem nmX6 : ∀ a, a < 28 → ∀ b, b < 28 → a ≠ b → (TX6 a).2.1 ≠ (TX6 b).2.1 := by decide +kernel
theorem tyX6_ok : ∀ k, k < 28 → parseFieldDescriptor (TX6 k).2.2.1 = some (tyX6 k) := by decide +kernel
abbrev cX6_init : ByteArray := prog_8_method_1_code
def yX6_init : MethodName := ⟨RX6, "<init>", "()V"⟩
abbrev cX6_in : ByteArray := prog_8_method_3_code
def yX6_in : MethodName := ⟨RX6, "in", "(III)Z"⟩
abbrev cX6_has : ByteArray := prog_8_method_4_code
def yX6_has : MethodName := ⟨RX6, "has", "(II)Z"⟩
abbrev cX6_isPlace : ByteArray := prog_8_method_6_code
def yX6_isPlace : MethodName := ⟨RX6, "isPlace", "(I)Z"⟩
abbrev cX6_isSound : ByteArray := prog_8_method_7_code
def yX6_isSound : MethodName := ⟨RX6, "isSound", "(I)Z"⟩
abbrev cX6_isPerson : ByteArray := prog_8_method_8_code
def yX6_isPerson : MethodName := ⟨RX6, "isPerson", "(I)Z"⟩
abbrev cX6_isSecond : ByteArray := prog_8_method_9_code
def yX6_isSecond : MethodName := ⟨RX6, "isSecond", "(I)Z"⟩
abbrev cX6_type : ByteArray := prog_8_method_10_code
def yX6_type : MethodName := ⟨RX6, "type", "(I)I"⟩
abbrev cX6_clear : ByteArray := prog_8_method_11_code
def yX6_clear : MethodName := ⟨RX6, "clear", "()I"⟩
abbrev cX6_byteAt : ByteArray := prog_8_method_12_code
def yX6_byteAt : MethodName := ⟨RX6, "byteAt", "(I)I"⟩
abbrev cX6_next : ByteArray := prog_8_method_13_code
def yX6_next : MethodName := ⟨RX6, "next", "()V"⟩
abbrev cX6_must : ByteArray := prog_8_method_14_code
def yX6_must : MethodName := ⟨RX6, "must", "(Z)V"⟩
abbrev cX6_readInto : ByteArray := prog_8_method_15_code
def yX6_readInto : MethodName := ⟨RX6, "readInto", "([IIII)I"⟩
abbrev cX6_readPlaces : ByteArray := prog_8_method_16_code
def yX6_readPlaces : MethodName := ⟨RX6, "readPlaces", "(Z)V"⟩
abbrev cX6_readFar : ByteArray := prog_8_method_17_code
def yX6_readFar : MethodName := ⟨RX6, "readFar", "()V"⟩
abbrev cX6_readPerson : ByteArray := prog_8_method_18_code
def yX6_readPerson : MethodName := ⟨RX6, "readPerson", "()V"⟩
abbrev cX6_readItem : ByteArray := prog_8_method_19_code
def yX6_readItem : MethodName := ⟨RX6, "readItem", "(Z)V"⟩
abbrev cX6_valley : ByteArray := prog_8_method_20_code
def yX6_valley : MethodName := ⟨RX6, "valley", "()I"⟩
abbrev cX6_farOf : ByteArray := prog_8_method_21_code
def yX6_farOf : MethodName := ⟨RX6, "farOf", "(II)I"⟩
abbrev cX6_far : ByteArray := prog_8_method_22_code
def yX6_far : MethodName := ⟨RX6, "far", "(II)I"⟩
abbrev cX6_person : ByteArray := prog_8_method_23_code
def yX6_person : MethodName := ⟨RX6, "person", "(II)I"⟩
abbrev cX6_heard : ByteArray := prog_8_method_24_code
def yX6_heard : MethodName := ⟨RX6, "heard", "(IIII)I"⟩
abbrev cX6_forget : ByteArray := prog_8_method_25_code
def yX6_forget : MethodName := ⟨RX6, "forget", "()I"⟩
abbrev cX6_isHeard : ByteArray := prog_8_method_26_code
def yX6_isHeard : MethodName := ⟨RX6, "isHeard", "(I)Z"⟩
abbrev cX6_fits : ByteArray := prog_8_method_27_code
def yX6_fits : MethodName := ⟨RX6, "fits", "(III)I"⟩
abbrev cX6_allHeard : ByteArray := prog_8_method_28_code
def yX6_allHeard : MethodName := ⟨RX6, "allHeard", "()I"⟩
abbrev cX6_can : ByteArray := prog_8_method_29_code
def yX6_can : MethodName := ⟨RX6, "can", "(III)Z"⟩
abbrev cX6_makesOf : ByteArray := prog_8_method_30_code
def yX6_makesOf : MethodName := ⟨RX6, "makesOf", "(III)I"⟩
abbrev cX6_whoOf : ByteArray := prog_8_method_31_code
def yX6_whoOf : MethodName := ⟨RX6, "whoOf", "(I)I"⟩
abbrev cX6_who : ByteArray := prog_8_method_32_code
def yX6_who : MethodName := ⟨RX6, "who", "(I)I"⟩
abbrev cX6_nobody : ByteArray := prog_8_method_33_code
def yX6_nobody : MethodName := ⟨RX6, "nobody", "()I"⟩
abbrev cX6_findDeeds : ByteArray := prog_8_method_34_code
def yX6_findDeeds : MethodName := ⟨RX6, "findDeeds", "()V"⟩
abbrev cX6_findWays : ByteArray := prog_8_method_35_code
def yX6_findWays : MethodName := ⟨RX6, "findWays", "(III)V"⟩
abbrev cX6_findLeast : ByteArray := prog_8_method_36_code
def yX6_findLeast : MethodName := ⟨RX6, "findLeast", "()Z"⟩
abbrev cX6_waysWithout : ByteArray := prog_8_method_37_code
def yX6_waysWithout : MethodName := ⟨RX6, "waysWithout", "(II)I"⟩
abbrev cX6_deeds : ByteArray := prog_8_method_38_code
def yX6_deeds : MethodName := ⟨RX6, "deeds", "(I)I"⟩
abbrev cX6_goesOn : ByteArray := prog_8_method_39_code
def yX6_goesOn : MethodName := ⟨RX6, "goesOn", "(III)Z"⟩
abbrev cX6_first : ByteArray := prog_8_method_40_code
def yX6_first : MethodName := ⟨RX6, "first", "(I)I"⟩
abbrev cX6_odds : ByteArray := prog_8_method_41_code
def yX6_odds : MethodName := ⟨RX6, "odds", "(III)I"⟩
abbrev cX6_knows : ByteArray := prog_8_method_42_code
def yX6_knows : MethodName := ⟨RX6, "knows", "(II)V"⟩
abbrev cX6_second : ByteArray := prog_8_method_43_code
def yX6_second : MethodName := ⟨RX6, "second", "()I"⟩
abbrev cX6_makes : ByteArray := prog_8_method_44_code
def yX6_makes : MethodName := ⟨RX6, "makes", "(II)I"⟩
abbrev cX6_moves : ByteArray := prog_8_method_45_code
def yX6_moves : MethodName := ⟨RX6, "moves", "(II)I"⟩
abbrev cX6_undo : ByteArray := prog_8_method_46_code
def yX6_undo : MethodName := ⟨RX6, "undo", "()I"⟩
abbrev cX6_done : ByteArray := prog_8_method_47_code
def yX6_done : MethodName := ⟨RX6, "done", "(II)I"⟩
abbrev cX6_fitsOf : ByteArray := prog_8_method_48_code
def yX6_fitsOf : MethodName := ⟨RX6, "fitsOf", "(I)I"⟩
abbrev cX6_due : ByteArray := prog_8_method_49_code
def yX6_due : MethodName := ⟨RX6, "due", "()I"⟩
abbrev cX6_past : ByteArray := prog_8_method_50_code
def yX6_past : MethodName := ⟨RX6, "past", "()I"⟩
abbrev cX6_lies : ByteArray := prog_8_method_51_code
def yX6_lies : MethodName := ⟨RX6, "lies", "()I"⟩
abbrev cX6_now : ByteArray := prog_8_method_52_code
def yX6_now : MethodName := ⟨RX6, "now", "(I)I"⟩
abbrev cX6_sit : ByteArray := prog_8_method_53_code
def yX6_sit : MethodName := ⟨RX6, "sit", "(I)I"⟩
abbrev cX6_beginOf : ByteArray := prog_8_method_54_code
def yX6_beginOf : MethodName := ⟨RX6, "beginOf", "(IIII)I"⟩
abbrev cX6_begin : ByteArray := prog_8_method_55_code
def yX6_begin : MethodName := ⟨RX6, "begin", "(IIII)I"⟩
abbrev cX6_together : ByteArray := prog_8_method_56_code
def yX6_together : MethodName := ⟨RX6, "together", "(III)I"⟩
abbrev cX6_isRow : ByteArray := prog_8_method_57_code
def yX6_isRow : MethodName := ⟨RX6, "isRow", "(I)Z"⟩
abbrev cX6_played : ByteArray := prog_8_method_58_code
def yX6_played : MethodName := ⟨RX6, "played", "(III)I"⟩
abbrev cX6_sure : ByteArray := prog_8_method_59_code
def yX6_sure : MethodName := ⟨RX6, "sure", "(II)I"⟩
abbrev cX6_soundMark : ByteArray := prog_8_method_60_code
def yX6_soundMark : MethodName := ⟨RX6, "soundMark", "(I)I"⟩
abbrev cX6_shoutMark : ByteArray := prog_8_method_61_code
def yX6_shoutMark : MethodName := ⟨RX6, "shoutMark", "(I)I"⟩
abbrev cX6_fallMark : ByteArray := prog_8_method_62_code
def yX6_fallMark : MethodName := ⟨RX6, "fallMark", "(I)I"⟩
abbrev cX6_shotMark : ByteArray := prog_8_method_63_code
def yX6_shotMark : MethodName := ⟨RX6, "shotMark", "(I)I"⟩
abbrev cX6_mark : ByteArray := prog_8_method_64_code
def yX6_mark : MethodName := ⟨RX6, "mark", "(II)I"⟩
abbrev cX6_keep : ByteArray := prog_8_method_65_code
def yX6_keep : MethodName := ⟨RX6, "keep", "(I)I"⟩
abbrev cX6_back : ByteArray := prog_8_method_66_code
def yX6_back : MethodName := ⟨RX6, "back", "(I)I"⟩
abbrev cX6_count : ByteArray := prog_8_method_67_code
def yX6_count : MethodName := ⟨RX6, "count", "(I)I"⟩
abbrev cX6_trace : ByteArray := prog_8_method_68_code
def yX6_trace : MethodName := ⟨RX6, "trace", "()J"⟩
def RJ6 : String := "java/lang/Integer"
def TJ6 : u_T := fun k => match k with
  | _ => ("", "", "", false)
def tyJ6 : Nat → FieldType := fun k => match k with
  | _ => .int
abbrev wsJ60 : List Cond := u_ws RJ6 TJ6 0
theorem nmJ6 : ∀ a, a < 0 → ∀ b, b < 0 → a ≠ b → (TJ6 a).2.1 ≠ (TJ6 b).2.1 := by decide +kernel
theorem tyJ6_ok : ∀ k, k < 0 → parseFieldDescriptor (TJ6 k).2.2.1 = some (tyJ6 k) := by decide +kernel
abbrev cJ6_bitCount_0f7a4 : ByteArray := prog_9_method_49_code
def yJ6_bitCount_0f7a4 : MethodName := ⟨RJ6, "bitCount", "(I)I"⟩
def RJ9 : String := "java/lang/Math"
def TJ9 : u_T := fun k => match k with
  | _ => ("", "", "", false)
def tyJ9 : Nat → FieldType := fun k => match k with
  | _ => .int
abbrev wsJ90 : List Cond := u_ws RJ9 TJ9 0
theorem nmJ9 : ∀ a, a < 0 → ∀ b, b < 0 → a ≠ b → (TJ9 a).2.1 ≠ (TJ9 b).2.1 := by decide +kernel
theorem tyJ9_ok : ∀ k, k < 0 → parseFieldDescriptor (TJ9 k).2.2.1 = some (tyJ9 k) := by decide +kernel
abbrev cJ9_max_7cf53 : ByteArray := prog_10_method_65_code
def yJ9_max_7cf53 : MethodName := ⟨RJ9, "max", "(II)I"⟩
abbrev cJ9_min_7cf53 : ByteArray := prog_10_method_69_code
def yJ9_min_7cf53 : MethodName := ⟨RJ9, "min", "(II)I"⟩
def RL : String := "EchoesFirstLaw"
abbrev cL_law : ByteArray := code
def yL_law : MethodName := ⟨RL, "law", "([I)Z"⟩
abbrev vwCl : List vw_C := [(RX0, TX0, 12), (RX1, TX1, 7), (RX2, TX2, 5), (RX3, TX3, 7), (RX4, TX4, 7), (RX5, TX5, 8), (RX6, TX6, 28)]
