section
-- ===== PART A: goes FIRST, ahead of the names: the tables' words, and 'selects' of the private methods out of them =====
/-- a private method of a class that the tables say can be made, by its rows of tables_1 -/
def lw_okq (q : MethodName × Nat) : Prop := (q.1.cls ≠ "java/lang/invoke/MethodHandle" ∧ q.1.cls ≠ "java/lang/invoke/VarHandle") ∧ Cond.instantiable q.1.cls q.2 ∈ tables_1 ∧ Cond.privateMethod q.1 ∈ tables_1 ∧ Cond.instanceMethod q.1 ∈ tables_1
theorem lw_p0 : lw_okq (⟨"ThrowArms", "refuse", "(I)I"⟩, 13) := ⟨⟨by decide +kernel, by decide +kernel⟩, List.mem_of_getElem? (i := 24) (by decide +kernel), List.mem_of_getElem? (i := 414) (by decide +kernel), List.mem_of_getElem? (i := 415) (by decide +kernel)⟩
theorem lw_p1 : lw_okq (⟨"ThrowArms$Reade\x72", "readLine", "()Z"⟩, 5) := ⟨⟨by decide +kernel, by decide +kernel⟩, List.mem_of_getElem? (i := 69) (by decide +kernel), List.mem_of_getElem? (i := 441) (by decide +kernel), List.mem_of_getElem? (i := 442) (by decide +kernel)⟩
theorem lw_p2 : lw_okq (⟨"ThrowArms$Tape", "scanWord", "()V"⟩, 8) := ⟨⟨by decide +kernel, by decide +kernel⟩, List.mem_of_getElem? (i := 32) (by decide +kernel), List.mem_of_getElem? (i := 452) (by decide +kernel), List.mem_of_getElem? (i := 453) (by decide +kernel)⟩
theorem lw_p3 : lw_okq (⟨"ThrowArms$Tape", "scanWhole", "()V"⟩, 8) := ⟨⟨by decide +kernel, by decide +kernel⟩, List.mem_of_getElem? (i := 32) (by decide +kernel), List.mem_of_getElem? (i := 459) (by decide +kernel), List.mem_of_getElem? (i := 460) (by decide +kernel)⟩
theorem lw_p4 : lw_okq (⟨"ThrowArms$Reade\x72", "readArm", "()Z"⟩, 5) := ⟨⟨by decide +kernel, by decide +kernel⟩, List.mem_of_getElem? (i := 69) (by decide +kernel), List.mem_of_getElem? (i := 516) (by decide +kernel), List.mem_of_getElem? (i := 517) (by decide +kernel)⟩
theorem lw_p5 : lw_okq (⟨"ThrowArms$Reade\x72", "fail", "(I)Z"⟩, 5) := ⟨⟨by decide +kernel, by decide +kernel⟩, List.mem_of_getElem? (i := 69) (by decide +kernel), List.mem_of_getElem? (i := 520) (by decide +kernel), List.mem_of_getElem? (i := 521) (by decide +kernel)⟩
theorem lw_p6 : lw_okq (⟨"ThrowArms$Reade\x72", "readName", "(I)Z"⟩, 5) := ⟨⟨by decide +kernel, by decide +kernel⟩, List.mem_of_getElem? (i := 69) (by decide +kernel), List.mem_of_getElem? (i := 524) (by decide +kernel), List.mem_of_getElem? (i := 525) (by decide +kernel)⟩
theorem lw_p7 : lw_okq (⟨"ThrowArms$Reade\x72", "isReserved", "()Z"⟩, 5) := ⟨⟨by decide +kernel, by decide +kernel⟩, List.mem_of_getElem? (i := 69) (by decide +kernel), List.mem_of_getElem? (i := 528) (by decide +kernel), List.mem_of_getElem? (i := 529) (by decide +kernel)⟩
theorem lw_p8 : lw_okq (⟨"ThrowArms$Reade\x72", "readHand", "(I)Z"⟩, 5) := ⟨⟨by decide +kernel, by decide +kernel⟩, List.mem_of_getElem? (i := 69) (by decide +kernel), List.mem_of_getElem? (i := 543) (by decide +kernel), List.mem_of_getElem? (i := 544) (by decide +kernel)⟩
theorem lw_p9 : lw_okq (⟨"ThrowArms$Reade\x72", "readWhole", "(II)Z"⟩, 5) := ⟨⟨by decide +kernel, by decide +kernel⟩, List.mem_of_getElem? (i := 69) (by decide +kernel), List.mem_of_getElem? (i := 559) (by decide +kernel), List.mem_of_getElem? (i := 560) (by decide +kernel)⟩
theorem lw_p10 : lw_okq (⟨"ThrowArms$Reade\x72", "readGame", "()Z"⟩, 5) := ⟨⟨by decide +kernel, by decide +kernel⟩, List.mem_of_getElem? (i := 69) (by decide +kernel), List.mem_of_getElem? (i := 568) (by decide +kernel), List.mem_of_getElem? (i := 569) (by decide +kernel)⟩
theorem lw_p11 : lw_okq (⟨"ThrowArms$Reade\x72", "readRest", "()Z"⟩, 5) := ⟨⟨by decide +kernel, by decide +kernel⟩, List.mem_of_getElem? (i := 69) (by decide +kernel), List.mem_of_getElem? (i := 580) (by decide +kernel), List.mem_of_getElem? (i := 581) (by decide +kernel)⟩
theorem lw_p12 : lw_okq (⟨"ThrowArms$Reade\x72", "readBound", "(I)Z"⟩, 5) := ⟨⟨by decide +kernel, by decide +kernel⟩, List.mem_of_getElem? (i := 69) (by decide +kernel), List.mem_of_getElem? (i := 584) (by decide +kernel), List.mem_of_getElem? (i := 585) (by decide +kernel)⟩
theorem lw_p13 : lw_okq (⟨"ThrowArms$Plan", "setAt", "(IIII)V"⟩, 4) := ⟨⟨by decide +kernel, by decide +kernel⟩, List.mem_of_getElem? (i := 161) (by decide +kernel), List.mem_of_getElem? (i := 616) (by decide +kernel), List.mem_of_getElem? (i := 617) (by decide +kernel)⟩
theorem lw_p14 : lw_okq (⟨"ThrowArms", "answe\x72", "(I)I"⟩, 13) := ⟨⟨by decide +kernel, by decide +kernel⟩, List.mem_of_getElem? (i := 24) (by decide +kernel), List.mem_of_getElem? (i := 620) (by decide +kernel), List.mem_of_getElem? (i := 621) (by decide +kernel)⟩
theorem lw_p15 : lw_okq (⟨"ThrowArms", "hasText", "()Z"⟩, 13) := ⟨⟨by decide +kernel, by decide +kernel⟩, List.mem_of_getElem? (i := 24) (by decide +kernel), List.mem_of_getElem? (i := 636) (by decide +kernel), List.mem_of_getElem? (i := 637) (by decide +kernel)⟩
def lw_privs_1 : List (MethodName × Nat) := [(⟨"ThrowArms", "refuse", "(I)I"⟩, 13), (⟨"ThrowArms$Reade\x72", "readLine", "()Z"⟩, 5), (⟨"ThrowArms$Tape", "scanWord", "()V"⟩, 8), (⟨"ThrowArms$Tape", "scanWhole", "()V"⟩, 8), (⟨"ThrowArms$Reade\x72", "readArm", "()Z"⟩, 5), (⟨"ThrowArms$Reade\x72", "fail", "(I)Z"⟩, 5), (⟨"ThrowArms$Reade\x72", "readName", "(I)Z"⟩, 5), (⟨"ThrowArms$Reade\x72", "isReserved", "()Z"⟩, 5), (⟨"ThrowArms$Reade\x72", "readHand", "(I)Z"⟩, 5), (⟨"ThrowArms$Reade\x72", "readWhole", "(II)Z"⟩, 5), (⟨"ThrowArms$Reade\x72", "readGame", "()Z"⟩, 5), (⟨"ThrowArms$Reade\x72", "readRest", "()Z"⟩, 5), (⟨"ThrowArms$Reade\x72", "readBound", "(I)Z"⟩, 5), (⟨"ThrowArms$Plan", "setAt", "(IIII)V"⟩, 4), (⟨"ThrowArms", "answe\x72", "(I)I"⟩, 13), (⟨"ThrowArms", "hasText", "()Z"⟩, 13)]
theorem lw_r1 : ∀ q ∈ lw_privs_1, lw_okq q := List.forall_mem_cons.mpr ⟨lw_p0, List.forall_mem_cons.mpr ⟨lw_p1, List.forall_mem_cons.mpr ⟨lw_p2, List.forall_mem_cons.mpr ⟨lw_p3, List.forall_mem_cons.mpr ⟨lw_p4, List.forall_mem_cons.mpr ⟨lw_p5, List.forall_mem_cons.mpr ⟨lw_p6, List.forall_mem_cons.mpr ⟨lw_p7, List.forall_mem_cons.mpr ⟨lw_p8, List.forall_mem_cons.mpr ⟨lw_p9, List.forall_mem_cons.mpr ⟨lw_p10, List.forall_mem_cons.mpr ⟨lw_p11, List.forall_mem_cons.mpr ⟨lw_p12, List.forall_mem_cons.mpr ⟨lw_p13, List.forall_mem_cons.mpr ⟨lw_p14, List.forall_mem_cons.mpr ⟨lw_p15, fun _ h => absurd h List.not_mem_nil⟩⟩⟩⟩⟩⟩⟩⟩⟩⟩⟩⟩⟩⟩⟩⟩
theorem lw_p16 : lw_okq (⟨"ThrowArms", "tellAll", "(I)I"⟩, 13) := ⟨⟨by decide +kernel, by decide +kernel⟩, List.mem_of_getElem? (i := 24) (by decide +kernel), List.mem_of_getElem? (i := 640) (by decide +kernel), List.mem_of_getElem? (i := 641) (by decide +kernel)⟩
theorem lw_p17 : lw_okq (⟨"ThrowArms", "hasArm", "(I)Z"⟩, 13) := ⟨⟨by decide +kernel, by decide +kernel⟩, List.mem_of_getElem? (i := 24) (by decide +kernel), List.mem_of_getElem? (i := 652) (by decide +kernel), List.mem_of_getElem? (i := 653) (by decide +kernel)⟩
theorem lw_p18 : lw_okq (⟨"ThrowArms", "tellArm", "(II)I"⟩, 13) := ⟨⟨by decide +kernel, by decide +kernel⟩, List.mem_of_getElem? (i := 24) (by decide +kernel), List.mem_of_getElem? (i := 656) (by decide +kernel), List.mem_of_getElem? (i := 657) (by decide +kernel)⟩
theorem lw_p19 : lw_okq (⟨"ThrowArms", "hasGame", "(I)Z"⟩, 13) := ⟨⟨by decide +kernel, by decide +kernel⟩, List.mem_of_getElem? (i := 24) (by decide +kernel), List.mem_of_getElem? (i := 698) (by decide +kernel), List.mem_of_getElem? (i := 699) (by decide +kernel)⟩
theorem lw_p20 : lw_okq (⟨"ThrowArms", "tellGame", "(II)I"⟩, 13) := ⟨⟨by decide +kernel, by decide +kernel⟩, List.mem_of_getElem? (i := 24) (by decide +kernel), List.mem_of_getElem? (i := 702) (by decide +kernel), List.mem_of_getElem? (i := 703) (by decide +kernel)⟩
theorem lw_p21 : lw_okq (⟨"ThrowArms", "hasOuting", "(II)Z"⟩, 13) := ⟨⟨by decide +kernel, by decide +kernel⟩, List.mem_of_getElem? (i := 24) (by decide +kernel), List.mem_of_getElem? (i := 733) (by decide +kernel), List.mem_of_getElem? (i := 734) (by decide +kernel)⟩
theorem lw_p22 : lw_okq (⟨"ThrowArms", "tellOuting", "(III)I"⟩, 13) := ⟨⟨by decide +kernel, by decide +kernel⟩, List.mem_of_getElem? (i := 24) (by decide +kernel), List.mem_of_getElem? (i := 737) (by decide +kernel), List.mem_of_getElem? (i := 738) (by decide +kernel)⟩
theorem lw_p23 : lw_okq (⟨"ThrowArms$Diary", "isRested", "(I)Z"⟩, 3) := ⟨⟨by decide +kernel, by decide +kernel⟩, List.mem_of_getElem? (i := 205) (by decide +kernel), List.mem_of_getElem? (i := 776) (by decide +kernel), List.mem_of_getElem? (i := 777) (by decide +kernel)⟩
theorem lw_p24 : lw_okq (⟨"ThrowArms$Diary", "daysToNext", "(I)I"⟩, 3) := ⟨⟨by decide +kernel, by decide +kernel⟩, List.mem_of_getElem? (i := 205) (by decide +kernel), List.mem_of_getElem? (i := 785) (by decide +kernel), List.mem_of_getElem? (i := 786) (by decide +kernel)⟩
theorem lw_p25 : lw_okq (⟨"ThrowArms$Diary", "roomInWeek", "(I)I"⟩, 3) := ⟨⟨by decide +kernel, by decide +kernel⟩, List.mem_of_getElem? (i := 205) (by decide +kernel), List.mem_of_getElem? (i := 790) (by decide +kernel), List.mem_of_getElem? (i := 791) (by decide +kernel)⟩
theorem lw_p26 : lw_okq (⟨"ThrowArms$Diary", "weekFrom", "(II)I"⟩, 3) := ⟨⟨by decide +kernel, by decide +kernel⟩, List.mem_of_getElem? (i := 205) (by decide +kernel), List.mem_of_getElem? (i := 794) (by decide +kernel), List.mem_of_getElem? (i := 795) (by decide +kernel)⟩
theorem lw_p27 : lw_okq (⟨"ThrowArms", "countAhead", "(II)I"⟩, 13) := ⟨⟨by decide +kernel, by decide +kernel⟩, List.mem_of_getElem? (i := 24) (by decide +kernel), List.mem_of_getElem? (i := 832) (by decide +kernel), List.mem_of_getElem? (i := 833) (by decide +kernel)⟩
theorem lw_p28 : lw_okq (⟨"ThrowArms", "troubleOfBest", "(II)I"⟩, 13) := ⟨⟨by decide +kernel, by decide +kernel⟩, List.mem_of_getElem? (i := 24) (by decide +kernel), List.mem_of_getElem? (i := 854) (by decide +kernel), List.mem_of_getElem? (i := 855) (by decide +kernel)⟩
theorem lw_p29 : lw_okq (⟨"ThrowArms$Best", "prepare", "(I)V"⟩, 11) := ⟨⟨by decide +kernel, by decide +kernel⟩, List.mem_of_getElem? (i := 221) (by decide +kernel), List.mem_of_getElem? (i := 863) (by decide +kernel), List.mem_of_getElem? (i := 864) (by decide +kernel)⟩
theorem lw_p30 : lw_okq (⟨"ThrowArms$Best", "fitsTogethe\x72", "(II)Z"⟩, 11) := ⟨⟨by decide +kernel, by decide +kernel⟩, List.mem_of_getElem? (i := 221) (by decide +kernel), List.mem_of_getElem? (i := 870) (by decide +kernel), List.mem_of_getElem? (i := 871) (by decide +kernel)⟩
theorem lw_p31 : lw_okq (⟨"ThrowArms$Best", "mayHave", "(II)Z"⟩, 11) := ⟨⟨by decide +kernel, by decide +kernel⟩, List.mem_of_getElem? (i := 221) (by decide +kernel), List.mem_of_getElem? (i := 878) (by decide +kernel), List.mem_of_getElem? (i := 879) (by decide +kernel)⟩
def lw_privs_2 : List (MethodName × Nat) := [(⟨"ThrowArms", "tellAll", "(I)I"⟩, 13), (⟨"ThrowArms", "hasArm", "(I)Z"⟩, 13), (⟨"ThrowArms", "tellArm", "(II)I"⟩, 13), (⟨"ThrowArms", "hasGame", "(I)Z"⟩, 13), (⟨"ThrowArms", "tellGame", "(II)I"⟩, 13), (⟨"ThrowArms", "hasOuting", "(II)Z"⟩, 13), (⟨"ThrowArms", "tellOuting", "(III)I"⟩, 13), (⟨"ThrowArms$Diary", "isRested", "(I)Z"⟩, 3), (⟨"ThrowArms$Diary", "daysToNext", "(I)I"⟩, 3), (⟨"ThrowArms$Diary", "roomInWeek", "(I)I"⟩, 3), (⟨"ThrowArms$Diary", "weekFrom", "(II)I"⟩, 3), (⟨"ThrowArms", "countAhead", "(II)I"⟩, 13), (⟨"ThrowArms", "troubleOfBest", "(II)I"⟩, 13), (⟨"ThrowArms$Best", "prepare", "(I)V"⟩, 11), (⟨"ThrowArms$Best", "fitsTogethe\x72", "(II)Z"⟩, 11), (⟨"ThrowArms$Best", "mayHave", "(II)Z"⟩, 11)]
theorem lw_r2 : ∀ q ∈ lw_privs_2, lw_okq q := List.forall_mem_cons.mpr ⟨lw_p16, List.forall_mem_cons.mpr ⟨lw_p17, List.forall_mem_cons.mpr ⟨lw_p18, List.forall_mem_cons.mpr ⟨lw_p19, List.forall_mem_cons.mpr ⟨lw_p20, List.forall_mem_cons.mpr ⟨lw_p21, List.forall_mem_cons.mpr ⟨lw_p22, List.forall_mem_cons.mpr ⟨lw_p23, List.forall_mem_cons.mpr ⟨lw_p24, List.forall_mem_cons.mpr ⟨lw_p25, List.forall_mem_cons.mpr ⟨lw_p26, List.forall_mem_cons.mpr ⟨lw_p27, List.forall_mem_cons.mpr ⟨lw_p28, List.forall_mem_cons.mpr ⟨lw_p29, List.forall_mem_cons.mpr ⟨lw_p30, List.forall_mem_cons.mpr ⟨lw_p31, fun _ h => absurd h List.not_mem_nil⟩⟩⟩⟩⟩⟩⟩⟩⟩⟩⟩⟩⟩⟩⟩⟩
theorem lw_p32 : lw_okq (⟨"ThrowArms$Best", "search", "(II)V"⟩, 11) := ⟨⟨by decide +kernel, by decide +kernel⟩, List.mem_of_getElem? (i := 221) (by decide +kernel), List.mem_of_getElem? (i := 884) (by decide +kernel), List.mem_of_getElem? (i := 885) (by decide +kernel)⟩
theorem lw_p33 : lw_okq (⟨"ThrowArms$Choose\x72", "chooseOthe\x72", "(III)V"⟩, 9) := ⟨⟨by decide +kernel, by decide +kernel⟩, List.mem_of_getElem? (i := 263) (by decide +kernel), List.mem_of_getElem? (i := 905) (by decide +kernel), List.mem_of_getElem? (i := 906) (by decide +kernel)⟩
theorem lw_p34 : lw_okq (⟨"ThrowArms$Season", "playOuting", "(II)V"⟩, 8) := ⟨⟨by decide +kernel, by decide +kernel⟩, List.mem_of_getElem? (i := 300) (by decide +kernel), List.mem_of_getElem? (i := 976) (by decide +kernel), List.mem_of_getElem? (i := 977) (by decide +kernel)⟩
theorem lw_p35 : lw_okq (⟨"ThrowArms", "tellSeason", "(I)I"⟩, 13) := ⟨⟨by decide +kernel, by decide +kernel⟩, List.mem_of_getElem? (i := 24) (by decide +kernel), List.mem_of_getElem? (i := 987) (by decide +kernel), List.mem_of_getElem? (i := 988) (by decide +kernel)⟩
theorem lw_p36 : lw_okq (⟨"ThrowArms", "mayTrade", "(IIII)Z"⟩, 13) := ⟨⟨by decide +kernel, by decide +kernel⟩, List.mem_of_getElem? (i := 24) (by decide +kernel), List.mem_of_getElem? (i := 1035) (by decide +kernel), List.mem_of_getElem? (i := 1036) (by decide +kernel)⟩
theorem lw_p37 : lw_okq (⟨"ThrowArms$Choose\x72", "weighChanges", "(II)V"⟩, 9) := ⟨⟨by decide +kernel, by decide +kernel⟩, List.mem_of_getElem? (i := 263) (by decide +kernel), List.mem_of_getElem? (i := 1052) (by decide +kernel), List.mem_of_getElem? (i := 1053) (by decide +kernel)⟩
theorem lw_p38 : lw_okq (⟨"ThrowArms$Choose\x72", "addOuting", "(I)Z"⟩, 9) := ⟨⟨by decide +kernel, by decide +kernel⟩, List.mem_of_getElem? (i := 263) (by decide +kernel), List.mem_of_getElem? (i := 1068) (by decide +kernel), List.mem_of_getElem? (i := 1069) (by decide +kernel)⟩
theorem lw_p39 : lw_okq (⟨"java/lang/Throwable", "fillInStackTrace", "(I)Ljava/lang/Throwable;"⟩, 6) := ⟨⟨by decide +kernel, by decide +kernel⟩, List.mem_of_getElem? (i := 1177) (by decide +kernel), List.mem_of_getElem? (i := 1175) (by decide +kernel), List.mem_of_getElem? (i := 1176) (by decide +kernel)⟩
theorem lw_p40 : lw_okq (⟨"ThrowArmsModel", "laysWord", "(I)V"⟩, 28) := ⟨⟨by decide +kernel, by decide +kernel⟩, List.mem_of_getElem? (i := 1206) (by decide +kernel), List.mem_of_getElem? (i := 1305) (by decide +kernel), List.mem_of_getElem? (i := 1306) (by decide +kernel)⟩
theorem lw_p41 : lw_okq (⟨"ThrowArmsModel", "isRefused", "(I)Z"⟩, 28) := ⟨⟨by decide +kernel, by decide +kernel⟩, List.mem_of_getElem? (i := 1206) (by decide +kernel), List.mem_of_getElem? (i := 1319) (by decide +kernel), List.mem_of_getElem? (i := 1320) (by decide +kernel)⟩
theorem lw_p42 : lw_okq (⟨"ThrowArmsModel", "readAll", "(I)Z"⟩, 28) := ⟨⟨by decide +kernel, by decide +kernel⟩, List.mem_of_getElem? (i := 1206) (by decide +kernel), List.mem_of_getElem? (i := 1323) (by decide +kernel), List.mem_of_getElem? (i := 1324) (by decide +kernel)⟩
theorem lw_p43 : lw_okq (⟨"ThrowArmsModel", "goesOn", "()V"⟩, 28) := ⟨⟨by decide +kernel, by decide +kernel⟩, List.mem_of_getElem? (i := 1206) (by decide +kernel), List.mem_of_getElem? (i := 1327) (by decide +kernel), List.mem_of_getElem? (i := 1328) (by decide +kernel)⟩
theorem lw_p44 : lw_okq (⟨"ThrowArmsModel", "see", "(I)I"⟩, 28) := ⟨⟨by decide +kernel, by decide +kernel⟩, List.mem_of_getElem? (i := 1206) (by decide +kernel), List.mem_of_getElem? (i := 1331) (by decide +kernel), List.mem_of_getElem? (i := 1332) (by decide +kernel)⟩
theorem lw_p45 : lw_okq (⟨"ThrowArmsModel", "readLine", "()Z"⟩, 28) := ⟨⟨by decide +kernel, by decide +kernel⟩, List.mem_of_getElem? (i := 1206) (by decide +kernel), List.mem_of_getElem? (i := 1335) (by decide +kernel), List.mem_of_getElem? (i := 1336) (by decide +kernel)⟩
theorem lw_p46 : lw_okq (⟨"ThrowArmsModel", "isWord", "(Ljava/lang/String;)Z"⟩, 28) := ⟨⟨by decide +kernel, by decide +kernel⟩, List.mem_of_getElem? (i := 1206) (by decide +kernel), List.mem_of_getElem? (i := 1340) (by decide +kernel), List.mem_of_getElem? (i := 1341) (by decide +kernel)⟩
theorem lw_p47 : lw_okq (⟨"ThrowArmsModel", "readArm", "()Z"⟩, 28) := ⟨⟨by decide +kernel, by decide +kernel⟩, List.mem_of_getElem? (i := 1206) (by decide +kernel), List.mem_of_getElem? (i := 1346) (by decide +kernel), List.mem_of_getElem? (i := 1347) (by decide +kernel)⟩
def lw_privs_3 : List (MethodName × Nat) := [(⟨"ThrowArms$Best", "search", "(II)V"⟩, 11), (⟨"ThrowArms$Choose\x72", "chooseOthe\x72", "(III)V"⟩, 9), (⟨"ThrowArms$Season", "playOuting", "(II)V"⟩, 8), (⟨"ThrowArms", "tellSeason", "(I)I"⟩, 13), (⟨"ThrowArms", "mayTrade", "(IIII)Z"⟩, 13), (⟨"ThrowArms$Choose\x72", "weighChanges", "(II)V"⟩, 9), (⟨"ThrowArms$Choose\x72", "addOuting", "(I)Z"⟩, 9), (⟨"java/lang/Throwable", "fillInStackTrace", "(I)Ljava/lang/Throwable;"⟩, 6), (⟨"ThrowArmsModel", "laysWord", "(I)V"⟩, 28), (⟨"ThrowArmsModel", "isRefused", "(I)Z"⟩, 28), (⟨"ThrowArmsModel", "readAll", "(I)Z"⟩, 28), (⟨"ThrowArmsModel", "goesOn", "()V"⟩, 28), (⟨"ThrowArmsModel", "see", "(I)I"⟩, 28), (⟨"ThrowArmsModel", "readLine", "()Z"⟩, 28), (⟨"ThrowArmsModel", "isWord", "(Ljava/lang/String;)Z"⟩, 28), (⟨"ThrowArmsModel", "readArm", "()Z"⟩, 28)]
theorem lw_r3 : ∀ q ∈ lw_privs_3, lw_okq q := List.forall_mem_cons.mpr ⟨lw_p32, List.forall_mem_cons.mpr ⟨lw_p33, List.forall_mem_cons.mpr ⟨lw_p34, List.forall_mem_cons.mpr ⟨lw_p35, List.forall_mem_cons.mpr ⟨lw_p36, List.forall_mem_cons.mpr ⟨lw_p37, List.forall_mem_cons.mpr ⟨lw_p38, List.forall_mem_cons.mpr ⟨lw_p39, List.forall_mem_cons.mpr ⟨lw_p40, List.forall_mem_cons.mpr ⟨lw_p41, List.forall_mem_cons.mpr ⟨lw_p42, List.forall_mem_cons.mpr ⟨lw_p43, List.forall_mem_cons.mpr ⟨lw_p44, List.forall_mem_cons.mpr ⟨lw_p45, List.forall_mem_cons.mpr ⟨lw_p46, List.forall_mem_cons.mpr ⟨lw_p47, fun _ h => absurd h List.not_mem_nil⟩⟩⟩⟩⟩⟩⟩⟩⟩⟩⟩⟩⟩⟩⟩⟩
theorem lw_p48 : lw_okq (⟨"ThrowArmsModel", "errs", "(I)Z"⟩, 28) := ⟨⟨by decide +kernel, by decide +kernel⟩, List.mem_of_getElem? (i := 1206) (by decide +kernel), List.mem_of_getElem? (i := 1350) (by decide +kernel), List.mem_of_getElem? (i := 1351) (by decide +kernel)⟩
theorem lw_p49 : lw_okq (⟨"ThrowArmsModel", "isName", "()Z"⟩, 28) := ⟨⟨by decide +kernel, by decide +kernel⟩, List.mem_of_getElem? (i := 1206) (by decide +kernel), List.mem_of_getElem? (i := 1354) (by decide +kernel), List.mem_of_getElem? (i := 1355) (by decide +kernel)⟩
theorem lw_p50 : lw_okq (⟨"ThrowArmsModel", "isAt", "([IIII)Z"⟩, 28) := ⟨⟨by decide +kernel, by decide +kernel⟩, List.mem_of_getElem? (i := 1206) (by decide +kernel), List.mem_of_getElem? (i := 1365) (by decide +kernel), List.mem_of_getElem? (i := 1366) (by decide +kernel)⟩
theorem lw_p51 : lw_okq (⟨"ThrowArmsModel", "takes", "(III)Z"⟩, 28) := ⟨⟨by decide +kernel, by decide +kernel⟩, List.mem_of_getElem? (i := 1206) (by decide +kernel), List.mem_of_getElem? (i := 1369) (by decide +kernel), List.mem_of_getElem? (i := 1370) (by decide +kernel)⟩
theorem lw_p52 : lw_okq (⟨"ThrowArmsModel", "readGame", "()Z"⟩, 28) := ⟨⟨by decide +kernel, by decide +kernel⟩, List.mem_of_getElem? (i := 1206) (by decide +kernel), List.mem_of_getElem? (i := 1373) (by decide +kernel), List.mem_of_getElem? (i := 1374) (by decide +kernel)⟩
theorem lw_p53 : lw_okq (⟨"ThrowArmsModel", "readRest", "()Z"⟩, 28) := ⟨⟨by decide +kernel, by decide +kernel⟩, List.mem_of_getElem? (i := 1206) (by decide +kernel), List.mem_of_getElem? (i := 1377) (by decide +kernel), List.mem_of_getElem? (i := 1378) (by decide +kernel)⟩
theorem lw_p54 : lw_okq (⟨"ThrowArmsModel", "readOnce", "(III)Z"⟩, 28) := ⟨⟨by decide +kernel, by decide +kernel⟩, List.mem_of_getElem? (i := 1206) (by decide +kernel), List.mem_of_getElem? (i := 1381) (by decide +kernel), List.mem_of_getElem? (i := 1382) (by decide +kernel)⟩
theorem lw_p55 : lw_okq (⟨"ThrowArmsModel", "no", "(I)I"⟩, 28) := ⟨⟨by decide +kernel, by decide +kernel⟩, List.mem_of_getElem? (i := 1206) (by decide +kernel), List.mem_of_getElem? (i := 1385) (by decide +kernel), List.mem_of_getElem? (i := 1386) (by decide +kernel)⟩
theorem lw_p56 : lw_okq (⟨"ThrowArmsModel", "outingsAll", "()I"⟩, 28) := ⟨⟨by decide +kernel, by decide +kernel⟩, List.mem_of_getElem? (i := 1206) (by decide +kernel), List.mem_of_getElem? (i := 1407) (by decide +kernel), List.mem_of_getElem? (i := 1408) (by decide +kernel)⟩
theorem lw_p57 : lw_okq (⟨"ThrowArmsModel", "isArm", "(I)Z"⟩, 28) := ⟨⟨by decide +kernel, by decide +kernel⟩, List.mem_of_getElem? (i := 1206) (by decide +kernel), List.mem_of_getElem? (i := 1415) (by decide +kernel), List.mem_of_getElem? (i := 1416) (by decide +kernel)⟩
theorem lw_p58 : lw_okq (⟨"ThrowArmsModel", "sumOf", "(II)I"⟩, 28) := ⟨⟨by decide +kernel, by decide +kernel⟩, List.mem_of_getElem? (i := 1206) (by decide +kernel), List.mem_of_getElem? (i := 1419) (by decide +kernel), List.mem_of_getElem? (i := 1420) (by decide +kernel)⟩
theorem lw_p59 : lw_okq (⟨"ThrowArmsModel", "throwsAt", "(II)I"⟩, 28) := ⟨⟨by decide +kernel, by decide +kernel⟩, List.mem_of_getElem? (i := 1206) (by decide +kernel), List.mem_of_getElem? (i := 1423) (by decide +kernel), List.mem_of_getElem? (i := 1424) (by decide +kernel)⟩
theorem lw_p60 : lw_okq (⟨"ThrowArmsModel", "slot", "(II)I"⟩, 28) := ⟨⟨by decide +kernel, by decide +kernel⟩, List.mem_of_getElem? (i := 1206) (by decide +kernel), List.mem_of_getElem? (i := 1427) (by decide +kernel), List.mem_of_getElem? (i := 1428) (by decide +kernel)⟩
theorem lw_p61 : lw_okq (⟨"ThrowArmsModel", "who", "(II)I"⟩, 28) := ⟨⟨by decide +kernel, by decide +kernel⟩, List.mem_of_getElem? (i := 1206) (by decide +kernel), List.mem_of_getElem? (i := 1431) (by decide +kernel), List.mem_of_getElem? (i := 1432) (by decide +kernel)⟩
theorem lw_p62 : lw_okq (⟨"ThrowArmsModel", "worthOf", "(III)I"⟩, 28) := ⟨⟨by decide +kernel, by decide +kernel⟩, List.mem_of_getElem? (i := 1206) (by decide +kernel), List.mem_of_getElem? (i := 1435) (by decide +kernel), List.mem_of_getElem? (i := 1436) (by decide +kernel)⟩
theorem lw_p63 : lw_okq (⟨"ThrowArmsModel", "above", "(II)I"⟩, 28) := ⟨⟨by decide +kernel, by decide +kernel⟩, List.mem_of_getElem? (i := 1206) (by decide +kernel), List.mem_of_getElem? (i := 1439) (by decide +kernel), List.mem_of_getElem? (i := 1440) (by decide +kernel)⟩
def lw_privs_4 : List (MethodName × Nat) := [(⟨"ThrowArmsModel", "errs", "(I)Z"⟩, 28), (⟨"ThrowArmsModel", "isName", "()Z"⟩, 28), (⟨"ThrowArmsModel", "isAt", "([IIII)Z"⟩, 28), (⟨"ThrowArmsModel", "takes", "(III)Z"⟩, 28), (⟨"ThrowArmsModel", "readGame", "()Z"⟩, 28), (⟨"ThrowArmsModel", "readRest", "()Z"⟩, 28), (⟨"ThrowArmsModel", "readOnce", "(III)Z"⟩, 28), (⟨"ThrowArmsModel", "no", "(I)I"⟩, 28), (⟨"ThrowArmsModel", "outingsAll", "()I"⟩, 28), (⟨"ThrowArmsModel", "isArm", "(I)Z"⟩, 28), (⟨"ThrowArmsModel", "sumOf", "(II)I"⟩, 28), (⟨"ThrowArmsModel", "throwsAt", "(II)I"⟩, 28), (⟨"ThrowArmsModel", "slot", "(II)I"⟩, 28), (⟨"ThrowArmsModel", "who", "(II)I"⟩, 28), (⟨"ThrowArmsModel", "worthOf", "(III)I"⟩, 28), (⟨"ThrowArmsModel", "above", "(II)I"⟩, 28)]
theorem lw_r4 : ∀ q ∈ lw_privs_4, lw_okq q := List.forall_mem_cons.mpr ⟨lw_p48, List.forall_mem_cons.mpr ⟨lw_p49, List.forall_mem_cons.mpr ⟨lw_p50, List.forall_mem_cons.mpr ⟨lw_p51, List.forall_mem_cons.mpr ⟨lw_p52, List.forall_mem_cons.mpr ⟨lw_p53, List.forall_mem_cons.mpr ⟨lw_p54, List.forall_mem_cons.mpr ⟨lw_p55, List.forall_mem_cons.mpr ⟨lw_p56, List.forall_mem_cons.mpr ⟨lw_p57, List.forall_mem_cons.mpr ⟨lw_p58, List.forall_mem_cons.mpr ⟨lw_p59, List.forall_mem_cons.mpr ⟨lw_p60, List.forall_mem_cons.mpr ⟨lw_p61, List.forall_mem_cons.mpr ⟨lw_p62, List.forall_mem_cons.mpr ⟨lw_p63, fun _ h => absurd h List.not_mem_nil⟩⟩⟩⟩⟩⟩⟩⟩⟩⟩⟩⟩⟩⟩⟩⟩
theorem lw_p64 : lw_okq (⟨"ThrowArmsModel", "pointsOf", "(II)I"⟩, 28) := ⟨⟨by decide +kernel, by decide +kernel⟩, List.mem_of_getElem? (i := 1206) (by decide +kernel), List.mem_of_getElem? (i := 1443) (by decide +kernel), List.mem_of_getElem? (i := 1444) (by decide +kernel)⟩
theorem lw_p65 : lw_okq (⟨"ThrowArmsModel", "riskOf", "(II)I"⟩, 28) := ⟨⟨by decide +kernel, by decide +kernel⟩, List.mem_of_getElem? (i := 1206) (by decide +kernel), List.mem_of_getElem? (i := 1447) (by decide +kernel), List.mem_of_getElem? (i := 1448) (by decide +kernel)⟩
theorem lw_p66 : lw_okq (⟨"ThrowArmsModel", "isGame", "(I)Z"⟩, 28) := ⟨⟨by decide +kernel, by decide +kernel⟩, List.mem_of_getElem? (i := 1206) (by decide +kernel), List.mem_of_getElem? (i := 1455) (by decide +kernel), List.mem_of_getElem? (i := 1456) (by decide +kernel)⟩
theorem lw_p67 : lw_okq (⟨"ThrowArmsModel", "leftOf", "(I)I"⟩, 28) := ⟨⟨by decide +kernel, by decide +kernel⟩, List.mem_of_getElem? (i := 1206) (by decide +kernel), List.mem_of_getElem? (i := 1459) (by decide +kernel), List.mem_of_getElem? (i := 1460) (by decide +kernel)⟩
theorem lw_p68 : lw_okq (⟨"ThrowArmsModel", "valueOf", "(I)I"⟩, 28) := ⟨⟨by decide +kernel, by decide +kernel⟩, List.mem_of_getElem? (i := 1206) (by decide +kernel), List.mem_of_getElem? (i := 1463) (by decide +kernel), List.mem_of_getElem? (i := 1464) (by decide +kernel)⟩
theorem lw_p69 : lw_okq (⟨"ThrowArmsModel", "restOf", "(I)I"⟩, 28) := ⟨⟨by decide +kernel, by decide +kernel⟩, List.mem_of_getElem? (i := 1206) (by decide +kernel), List.mem_of_getElem? (i := 1471) (by decide +kernel), List.mem_of_getElem? (i := 1472) (by decide +kernel)⟩
theorem lw_p70 : lw_okq (⟨"ThrowArmsModel", "isAllowedAt", "(II)Z"⟩, 28) := ⟨⟨by decide +kernel, by decide +kernel⟩, List.mem_of_getElem? (i := 1206) (by decide +kernel), List.mem_of_getElem? (i := 1479) (by decide +kernel), List.mem_of_getElem? (i := 1480) (by decide +kernel)⟩
theorem lw_p71 : lw_okq (⟨"ThrowArmsModel", "laysDays", "(III)V"⟩, 28) := ⟨⟨by decide +kernel, by decide +kernel⟩, List.mem_of_getElem? (i := 1206) (by decide +kernel), List.mem_of_getElem? (i := 1483) (by decide +kernel), List.mem_of_getElem? (i := 1484) (by decide +kernel)⟩
theorem lw_p72 : lw_okq (⟨"ThrowArmsModel", "isAllowed", "(III)Z"⟩, 28) := ⟨⟨by decide +kernel, by decide +kernel⟩, List.mem_of_getElem? (i := 1206) (by decide +kernel), List.mem_of_getElem? (i := 1487) (by decide +kernel), List.mem_of_getElem? (i := 1488) (by decide +kernel)⟩
theorem lw_p73 : lw_okq (⟨"ThrowArmsModel", "lately", "(I)I"⟩, 28) := ⟨⟨by decide +kernel, by decide +kernel⟩, List.mem_of_getElem? (i := 1206) (by decide +kernel), List.mem_of_getElem? (i := 1491) (by decide +kernel), List.mem_of_getElem? (i := 1492) (by decide +kernel)⟩
theorem lw_p74 : lw_okq (⟨"ThrowArmsModel", "mostOf", "(II)I"⟩, 28) := ⟨⟨by decide +kernel, by decide +kernel⟩, List.mem_of_getElem? (i := 1206) (by decide +kernel), List.mem_of_getElem? (i := 1511) (by decide +kernel), List.mem_of_getElem? (i := 1512) (by decide +kernel)⟩
theorem lw_p75 : lw_okq (⟨"ThrowArmsModel", "isIn", "(II)Z"⟩, 28) := ⟨⟨by decide +kernel, by decide +kernel⟩, List.mem_of_getElem? (i := 1206) (by decide +kernel), List.mem_of_getElem? (i := 1515) (by decide +kernel), List.mem_of_getElem? (i := 1516) (by decide +kernel)⟩
theorem lw_p76 : lw_okq (⟨"ThrowArmsModel", "mostUpTo", "(III)I"⟩, 28) := ⟨⟨by decide +kernel, by decide +kernel⟩, List.mem_of_getElem? (i := 1206) (by decide +kernel), List.mem_of_getElem? (i := 1519) (by decide +kernel), List.mem_of_getElem? (i := 1520) (by decide +kernel)⟩
theorem lw_p77 : lw_okq (⟨"ThrowArmsModel", "fullOf", "(II)I"⟩, 28) := ⟨⟨by decide +kernel, by decide +kernel⟩, List.mem_of_getElem? (i := 1206) (by decide +kernel), List.mem_of_getElem? (i := 1538) (by decide +kernel), List.mem_of_getElem? (i := 1539) (by decide +kernel)⟩
theorem lw_p78 : lw_okq (⟨"ThrowArmsModel", "whyNotBest", "(II)I"⟩, 28) := ⟨⟨by decide +kernel, by decide +kernel⟩, List.mem_of_getElem? (i := 1206) (by decide +kernel), List.mem_of_getElem? (i := 1550) (by decide +kernel), List.mem_of_getElem? (i := 1551) (by decide +kernel)⟩
theorem lw_p79 : lw_okq (⟨"ThrowArmsModel", "laysBest", "(II)I"⟩, 28) := ⟨⟨by decide +kernel, by decide +kernel⟩, List.mem_of_getElem? (i := 1206) (by decide +kernel), List.mem_of_getElem? (i := 1554) (by decide +kernel), List.mem_of_getElem? (i := 1555) (by decide +kernel)⟩
def lw_privs_5 : List (MethodName × Nat) := [(⟨"ThrowArmsModel", "pointsOf", "(II)I"⟩, 28), (⟨"ThrowArmsModel", "riskOf", "(II)I"⟩, 28), (⟨"ThrowArmsModel", "isGame", "(I)Z"⟩, 28), (⟨"ThrowArmsModel", "leftOf", "(I)I"⟩, 28), (⟨"ThrowArmsModel", "valueOf", "(I)I"⟩, 28), (⟨"ThrowArmsModel", "restOf", "(I)I"⟩, 28), (⟨"ThrowArmsModel", "isAllowedAt", "(II)Z"⟩, 28), (⟨"ThrowArmsModel", "laysDays", "(III)V"⟩, 28), (⟨"ThrowArmsModel", "isAllowed", "(III)Z"⟩, 28), (⟨"ThrowArmsModel", "lately", "(I)I"⟩, 28), (⟨"ThrowArmsModel", "mostOf", "(II)I"⟩, 28), (⟨"ThrowArmsModel", "isIn", "(II)Z"⟩, 28), (⟨"ThrowArmsModel", "mostUpTo", "(III)I"⟩, 28), (⟨"ThrowArmsModel", "fullOf", "(II)I"⟩, 28), (⟨"ThrowArmsModel", "whyNotBest", "(II)I"⟩, 28), (⟨"ThrowArmsModel", "laysBest", "(II)I"⟩, 28)]
theorem lw_r5 : ∀ q ∈ lw_privs_5, lw_okq q := List.forall_mem_cons.mpr ⟨lw_p64, List.forall_mem_cons.mpr ⟨lw_p65, List.forall_mem_cons.mpr ⟨lw_p66, List.forall_mem_cons.mpr ⟨lw_p67, List.forall_mem_cons.mpr ⟨lw_p68, List.forall_mem_cons.mpr ⟨lw_p69, List.forall_mem_cons.mpr ⟨lw_p70, List.forall_mem_cons.mpr ⟨lw_p71, List.forall_mem_cons.mpr ⟨lw_p72, List.forall_mem_cons.mpr ⟨lw_p73, List.forall_mem_cons.mpr ⟨lw_p74, List.forall_mem_cons.mpr ⟨lw_p75, List.forall_mem_cons.mpr ⟨lw_p76, List.forall_mem_cons.mpr ⟨lw_p77, List.forall_mem_cons.mpr ⟨lw_p78, List.forall_mem_cons.mpr ⟨lw_p79, fun _ h => absurd h List.not_mem_nil⟩⟩⟩⟩⟩⟩⟩⟩⟩⟩⟩⟩⟩⟩⟩⟩
theorem lw_p80 : lw_okq (⟨"ThrowArmsModel", "rowWorth", "(II)I"⟩, 28) := ⟨⟨by decide +kernel, by decide +kernel⟩, List.mem_of_getElem? (i := 1206) (by decide +kernel), List.mem_of_getElem? (i := 1558) (by decide +kernel), List.mem_of_getElem? (i := 1559) (by decide +kernel)⟩
theorem lw_p81 : lw_okq (⟨"ThrowArmsModel", "isRowAllowed", "(II)Z"⟩, 28) := ⟨⟨by decide +kernel, by decide +kernel⟩, List.mem_of_getElem? (i := 1206) (by decide +kernel), List.mem_of_getElem? (i := 1562) (by decide +kernel), List.mem_of_getElem? (i := 1563) (by decide +kernel)⟩
theorem lw_p82 : lw_okq (⟨"ThrowArmsModel", "nextRow", "(I)Z"⟩, 28) := ⟨⟨by decide +kernel, by decide +kernel⟩, List.mem_of_getElem? (i := 1206) (by decide +kernel), List.mem_of_getElem? (i := 1566) (by decide +kernel), List.mem_of_getElem? (i := 1567) (by decide +kernel)⟩
theorem lw_p83 : lw_okq (⟨"ThrowArmsModel", "isAloneAllowed", "(III)Z"⟩, 28) := ⟨⟨by decide +kernel, by decide +kernel⟩, List.mem_of_getElem? (i := 1206) (by decide +kernel), List.mem_of_getElem? (i := 1578) (by decide +kernel), List.mem_of_getElem? (i := 1579) (by decide +kernel)⟩
theorem lw_p84 : lw_okq (⟨"ThrowArmsModel", "breachAt", "(I)I"⟩, 28) := ⟨⟨by decide +kernel, by decide +kernel⟩, List.mem_of_getElem? (i := 1206) (by decide +kernel), List.mem_of_getElem? (i := 1586) (by decide +kernel), List.mem_of_getElem? (i := 1587) (by decide +kernel)⟩
theorem lw_p85 : lw_okq (⟨"ThrowArmsModel", "goes", "(I)V"⟩, 28) := ⟨⟨by decide +kernel, by decide +kernel⟩, List.mem_of_getElem? (i := 1206) (by decide +kernel), List.mem_of_getElem? (i := 1636) (by decide +kernel), List.mem_of_getElem? (i := 1637) (by decide +kernel)⟩
theorem lw_p86 : lw_okq (⟨"ThrowArmsModel", "remembers", "()V"⟩, 28) := ⟨⟨by decide +kernel, by decide +kernel⟩, List.mem_of_getElem? (i := 1206) (by decide +kernel), List.mem_of_getElem? (i := 1650) (by decide +kernel), List.mem_of_getElem? (i := 1651) (by decide +kernel)⟩
theorem lw_p87 : lw_okq (⟨"ThrowArmsModel", "comes", "(III)V"⟩, 28) := ⟨⟨by decide +kernel, by decide +kernel⟩, List.mem_of_getElem? (i := 1206) (by decide +kernel), List.mem_of_getElem? (i := 1654) (by decide +kernel), List.mem_of_getElem? (i := 1655) (by decide +kernel)⟩
theorem lw_p88 : lw_okq (⟨"ThrowArmsModel", "exchanges", "(IIII)V"⟩, 28) := ⟨⟨by decide +kernel, by decide +kernel⟩, List.mem_of_getElem? (i := 1206) (by decide +kernel), List.mem_of_getElem? (i := 1670) (by decide +kernel), List.mem_of_getElem? (i := 1671) (by decide +kernel)⟩
theorem lw_p89 : lw_okq (⟨"ThrowArmsModel", "laysGain", "()Z"⟩, 28) := ⟨⟨by decide +kernel, by decide +kernel⟩, List.mem_of_getElem? (i := 1206) (by decide +kernel), List.mem_of_getElem? (i := 1678) (by decide +kernel), List.mem_of_getElem? (i := 1679) (by decide +kernel)⟩
theorem lw_p90 : lw_okq (⟨"ThrowArmsModel", "fills", "(I)I"⟩, 28) := ⟨⟨by decide +kernel, by decide +kernel⟩, List.mem_of_getElem? (i := 1206) (by decide +kernel), List.mem_of_getElem? (i := 1686) (by decide +kernel), List.mem_of_getElem? (i := 1687) (by decide +kernel)⟩
theorem lw_p91 : lw_okq (⟨"ThrowArmsModel", "canBecome", "(III)Z"⟩, 28) := ⟨⟨by decide +kernel, by decide +kernel⟩, List.mem_of_getElem? (i := 1206) (by decide +kernel), List.mem_of_getElem? (i := 1702) (by decide +kernel), List.mem_of_getElem? (i := 1703) (by decide +kernel)⟩
def lw_privs_6 : List (MethodName × Nat) := [(⟨"ThrowArmsModel", "rowWorth", "(II)I"⟩, 28), (⟨"ThrowArmsModel", "isRowAllowed", "(II)Z"⟩, 28), (⟨"ThrowArmsModel", "nextRow", "(I)Z"⟩, 28), (⟨"ThrowArmsModel", "isAloneAllowed", "(III)Z"⟩, 28), (⟨"ThrowArmsModel", "breachAt", "(I)I"⟩, 28), (⟨"ThrowArmsModel", "goes", "(I)V"⟩, 28), (⟨"ThrowArmsModel", "remembers", "()V"⟩, 28), (⟨"ThrowArmsModel", "comes", "(III)V"⟩, 28), (⟨"ThrowArmsModel", "exchanges", "(IIII)V"⟩, 28), (⟨"ThrowArmsModel", "laysGain", "()Z"⟩, 28), (⟨"ThrowArmsModel", "fills", "(I)I"⟩, 28), (⟨"ThrowArmsModel", "canBecome", "(III)Z"⟩, 28)]
theorem lw_r6 : ∀ q ∈ lw_privs_6, lw_okq q := List.forall_mem_cons.mpr ⟨lw_p80, List.forall_mem_cons.mpr ⟨lw_p81, List.forall_mem_cons.mpr ⟨lw_p82, List.forall_mem_cons.mpr ⟨lw_p83, List.forall_mem_cons.mpr ⟨lw_p84, List.forall_mem_cons.mpr ⟨lw_p85, List.forall_mem_cons.mpr ⟨lw_p86, List.forall_mem_cons.mpr ⟨lw_p87, List.forall_mem_cons.mpr ⟨lw_p88, List.forall_mem_cons.mpr ⟨lw_p89, List.forall_mem_cons.mpr ⟨lw_p90, List.forall_mem_cons.mpr ⟨lw_p91, fun _ h => absurd h List.not_mem_nil⟩⟩⟩⟩⟩⟩⟩⟩⟩⟩⟩⟩
def lw_privs : List (MethodName × Nat) := lw_privs_1 ++ (lw_privs_2 ++ (lw_privs_3 ++ (lw_privs_4 ++ (lw_privs_5 ++ (lw_privs_6)))))
def lw_tbl : List Cond := k2_sels lw_privs ++ tables_1
theorem lw_privs_ok : ∀ q ∈ lw_privs, lw_okq q := by
  show ∀ q ∈ lw_privs_1 ++ (lw_privs_2 ++ (lw_privs_3 ++ (lw_privs_4 ++ (lw_privs_5 ++ (lw_privs_6))))), lw_okq q
  exact List.forall_mem_append.mpr ⟨lw_r1, List.forall_mem_append.mpr ⟨lw_r2, List.forall_mem_append.mpr ⟨lw_r3, List.forall_mem_append.mpr ⟨lw_r4, List.forall_mem_append.mpr ⟨lw_r5, lw_r6⟩⟩⟩⟩⟩
/-! THE CLAIM OUT OF ONE WALK OF THE LAW'S BODY. Your part is whole_start (and what it stands on); all else here is the same for every law, but numbers. -/
def R_law : String := "ThrowArmsLaw"
def lw_P (b : Addr) (xs : List Int32) (args : Array Value) (s : State) : Prop := args = #[.ref b] ∧ s.IntsAt b xs ∧ xs.length ≤ 3072 ∧ (Jvm.Cond.and given_1 narrow_1).before args s = true
def lw_Q (_ : Array Value) (s : State) (o : Outcome) (t : State) : Prop := o = .returned (some (.int 1)) ∧ Framed s o t [] 601024 7293034
def lw_Z (below : List Frame) (a : Array Value) (s : State) : State → Prop := fun t => ∃ o, t.status = .running ∧ Ended t below o ∧ lw_Q a s o t
/-- the law's own end, with 1 on the stack, nothing written that was there before, its room as the claim has it -/
theorem lw_ret {p : Program} {l : Launch} {e : Env} {s : State} {m : MethodId} {below : List Frame} {meth : Method} {c : Code} {b : Nat} (hx : p.tables.exec = Jvm.exec) (hb : c.code = code) (hr : meth.sig.returnType = ret) (hlocks : meth.locks = false) {pc : Nat} {H : Heap} {ls : Array Slot} (hdg : decode code pc = .ok (.ireturn, 1)) : W p l e room_1 s m #[Value.ref b] below meth c H [] 601024 7293034 (lw_Z below #[Value.ref b] s) (F0 m pc ls [.int 1]) := by
  intro T hT X
  obtain ⟨fs, hret, hrun, hended, hW, hframe⟩ := X.leave (v := some (.int 1)) (hlocks := hlocks) (fun h => by rw [hr] at h; cases h)
  have hmeth' : T.vm.method? m = some meth := X.method'
  refine ⟨T.setFrames fs, ?_, .returned (some (.int 1)), hrun, hended, rfl, ⟨_, rfl⟩, hW, hframe⟩
  jvm_step X.here [X.here.top, hx, hb, hdg, hmeth', hr, ret, narrow_b1]
  (try refine ⟨rfl, ?_⟩); (try refine ⟨rfl, ?_⟩)
  first | (intro acts; rw [hret _ acts rfl rfl rfl]) | rw [hret _ _ rfl rfl rfl]
  exact Steps.refl _
/-- what holds at the law's entry: the machine, the code, the tables' words (any of lw_tbl by 'hts w (by decide +kernel)'), the script of L ints xs at the cell b, what the Statement gives of the start (any of its parts by flat_of_before) -/
def lw_At (p : Program) (s : State) (m : MethodId) (meth : Method) (c : Code) (b L : Nat) (xs : Nat → Int32) : Prop :=
  p.tables.exec = Jvm.exec ∧ c.code = code ∧ meth.sig.returnType = ret ∧ c.maxLocals = 7 ∧ s.vm.findClass R_law = some m.cls ∧ (∀ w ∈ lw_tbl, w.before #[Value.ref b] s = true) ∧ va_X b L xs s s.heap ∧ b < s.heap.size ∧ meth.locks = false ∧ (Jvm.Cond.and given_1 narrow_1).before #[Value.ref b] s = true
end
section
/-! ===== BEGIN words of one list among another's, by their places ===== -/
theorem goodIn_r {big : List Cond} (ws : List Cond) (ps : List Nat) (hp : ws = ps.filterMap (fun i => big[i]?)) (h : ws.all goodWord = true) : GoodIn big ws := by
  intro w hw
  have h1 := List.all_eq_true.mp h w hw
  rw [hp] at hw
  obtain ⟨i, -, hi⟩ := List.mem_filterMap.mp hw
  have hm : w ∈ big := by first | exact List.mem_of_getElem? hi | exact List.getElem?_mem hi
  exact ⟨hm, good_of_word h1⟩
theorem goodIn_app {big a b : List Cond} (ha : GoodIn big a) (hb : GoodIn big b) : GoodIn big (a ++ b) := fun w h => (List.mem_append.mp h).elim (ha w) (hb w)
theorem goodIn_ca {big a b : List Cond} {c : Cond} (ha : GoodIn big (c :: a)) (hb : GoodIn big b) : GoodIn big (c :: (a ++ b)) := fun w h => (List.mem_cons.mp h).elim (fun e => ha w (List.mem_cons.mpr (Or.inl e))) (fun h => (List.mem_append.mp h).elim (fun h => ha w (List.mem_cons.mpr (Or.inr h))) (hb w))
theorem goodIn_sub {big ws : List Cond} (hm : ∀ w ∈ ws, w ∈ big) (h : ws.all goodWord = true) : GoodIn big ws := fun w hw => ⟨hm w hw, good_of_word (List.all_eq_true.mp h w hw)⟩
/-! ===== END ===== -/
def RX0 : String := "ThrowArms$Best"
def TX0 : u_T := fun k => match k with
  | 0 => ("ThrowArms$Best", "book", "LThrowArms$Book;", true)
  | 1 => ("ThrowArms$Best", "diary", "LThrowArms$Diary;", true)
  | 2 => ("ThrowArms$Best", "first", "I", false)
  | 3 => ("ThrowArms$Best", "count", "I", false)
  | 4 => ("ThrowArms$Best", "fits", "[I", true)
  | 5 => ("ThrowArms$Best", "given", "[I", true)
  | 6 => ("ThrowArms$Best", "gains", "[I", true)
  | 7 => ("ThrowArms$Best", "afte\x72", "[I", true)
  | 8 => ("ThrowArms$Best", "trial", "[I", true)
  | 9 => ("ThrowArms$Best", "row", "[I", true)
  | _ => ("ThrowArms$Best", "sum", "I", false)
def tyX0 : Nat → FieldType := fun k => match k with
  | 0 => .object "ThrowArms$Book"
  | 1 => .object "ThrowArms$Diary"
  | 2 => .int
  | 3 => .int
  | 4 => .array .int
  | 5 => .array .int
  | 6 => .array .int
  | 7 => .array .int
  | 8 => .array .int
  | 9 => .array .int
  | _ => .int
abbrev wsX00 : List Cond := u_ws RX0 TX0 11
theorem nmX0 : ∀ a, a < 11 → ∀ b, b < 11 → a ≠ b → (TX0 a).2.1 ≠ (TX0 b).2.1 := by decide +kernel
theorem tyX0_ok : ∀ k, k < 11 → parseFieldDescriptor (TX0 k).2.2.1 = some (tyX0 k) := by decide +kernel
abbrev cX0_init : ByteArray := prog_2_method_1_code
def yX0_init : MethodName := ⟨RX0, "<init>", "(LThrowArms$Book;LThrowArms$Diary;)V"⟩
abbrev cX0_find : ByteArray := prog_2_method_2_code
def yX0_find : MethodName := ⟨RX0, "find", "(II)V"⟩
abbrev cX0_prepare : ByteArray := prog_2_method_3_code
def yX0_prepare : MethodName := ⟨RX0, "prepare", "(I)V"⟩
abbrev cX0_fitsTogether : ByteArray := prog_2_method_4_code
def yX0_fitsTogether : MethodName := ⟨RX0, "fitsTogethe\x72", "(II)Z"⟩
abbrev cX0_mayHave : ByteArray := prog_2_method_5_code
def yX0_mayHave : MethodName := ⟨RX0, "mayHave", "(II)Z"⟩
abbrev cX0_search : ByteArray := prog_2_method_6_code
def yX0_search : MethodName := ⟨RX0, "search", "(II)V"⟩
def RX1 : String := "ThrowArms$Book"
def TX1 : u_T := fun k => match k with
  | 0 => ("ThrowArms$Book", "told", "LThrowArms$Told;", true)
  | _ => ("ThrowArms$Book", "plan", "LThrowArms$Plan;", true)
def tyX1 : Nat → FieldType := fun k => match k with
  | 0 => .object "ThrowArms$Told"
  | _ => .object "ThrowArms$Plan"
abbrev wsX10 : List Cond := u_ws RX1 TX1 2
theorem nmX1 : ∀ a, a < 2 → ∀ b, b < 2 → a ≠ b → (TX1 a).2.1 ≠ (TX1 b).2.1 := by decide +kernel
theorem tyX1_ok : ∀ k, k < 2 → parseFieldDescriptor (TX1 k).2.2.1 = some (tyX1 k) := by decide +kernel
abbrev cX1_init : ByteArray := prog_3_method_1_code
def yX1_init : MethodName := ⟨RX1, "<init>", "(LThrowArms$Told;LThrowArms$Plan;)V"⟩
abbrev cX1_pointsOf : ByteArray := prog_3_method_2_code
def yX1_pointsOf : MethodName := ⟨RX1, "pointsOf", "(II)I"⟩
abbrev cX1_valueOf : ByteArray := prog_3_method_3_code
def yX1_valueOf : MethodName := ⟨RX1, "valueOf", "(III)I"⟩
abbrev cX1_riskOf : ByteArray := prog_3_method_4_code
def yX1_riskOf : MethodName := ⟨RX1, "riskOf", "(II)I"⟩
abbrev cX1_valueAt : ByteArray := prog_3_method_5_code
def yX1_valueAt : MethodName := ⟨RX1, "valueAt", "(II)I"⟩
abbrev cX1_riskAt : ByteArray := prog_3_method_6_code
def yX1_riskAt : MethodName := ⟨RX1, "riskAt", "(II)I"⟩
abbrev cX1_fullThrows : ByteArray := prog_3_method_7_code
def yX1_fullThrows : MethodName := ⟨RX1, "fullThrows", "(II)I"⟩
abbrev cX1_leftIn : ByteArray := prog_3_method_8_code
def yX1_leftIn : MethodName := ⟨RX1, "leftIn", "(I)I"⟩
abbrev cX1_valueOfGame : ByteArray := prog_3_method_9_code
def yX1_valueOfGame : MethodName := ⟨RX1, "valueOfGame", "(I)I"⟩
abbrev cX1_allOutings : ByteArray := prog_3_method_10_code
def yX1_allOutings : MethodName := ⟨RX1, "allOutings", "()I"⟩
abbrev cX1_throwsOfArm : ByteArray := prog_3_method_11_code
def yX1_throwsOfArm : MethodName := ⟨RX1, "throwsOfArm", "(I)I"⟩
abbrev cX1_outingsOfArm : ByteArray := prog_3_method_12_code
def yX1_outingsOfArm : MethodName := ⟨RX1, "outingsOfArm", "(I)I"⟩
abbrev cX1_valueOfArm : ByteArray := prog_3_method_13_code
def yX1_valueOfArm : MethodName := ⟨RX1, "valueOfArm", "(I)I"⟩
abbrev cX1_weekOfArm : ByteArray := prog_3_method_14_code
def yX1_weekOfArm : MethodName := ⟨RX1, "weekOfArm", "(II)I"⟩
def RX2 : String := "ThrowArms$Choose\x72"
def TX2 : u_T := fun k => match k with
  | 0 => ("ThrowArms$Choose\x72", "book", "LThrowArms$Book;", true)
  | 1 => ("ThrowArms$Choose\x72", "diary", "LThrowArms$Diary;", true)
  | 2 => ("ThrowArms$Choose\x72", "pairValue", "I", false)
  | 3 => ("ThrowArms$Choose\x72", "pairOne", "I", false)
  | 4 => ("ThrowArms$Choose\x72", "pairOthe\x72", "I", false)
  | 5 => ("ThrowArms$Choose\x72", "growth", "I", false)
  | 6 => ("ThrowArms$Choose\x72", "changeGame", "I", false)
  | 7 => ("ThrowArms$Choose\x72", "changePlace", "I", false)
  | _ => ("ThrowArms$Choose\x72", "changeArm", "I", false)
def tyX2 : Nat → FieldType := fun k => match k with
  | 0 => .object "ThrowArms$Book"
  | 1 => .object "ThrowArms$Diary"
  | 2 => .int
  | 3 => .int
  | 4 => .int
  | 5 => .int
  | 6 => .int
  | 7 => .int
  | _ => .int
abbrev wsX20 : List Cond := u_ws RX2 TX2 9
theorem nmX2 : ∀ a, a < 9 → ∀ b, b < 9 → a ≠ b → (TX2 a).2.1 ≠ (TX2 b).2.1 := by decide +kernel
theorem tyX2_ok : ∀ k, k < 9 → parseFieldDescriptor (TX2 k).2.2.1 = some (tyX2 k) := by decide +kernel
abbrev cX2_init : ByteArray := prog_4_method_1_code
def yX2_init : MethodName := ⟨RX2, "<init>", "(LThrowArms$Book;LThrowArms$Diary;)V"⟩
abbrev cX2_choosePair : ByteArray := prog_4_method_2_code
def yX2_choosePair : MethodName := ⟨RX2, "choosePai\x72", "(II)V"⟩
abbrev cX2_chooseOther : ByteArray := prog_4_method_3_code
def yX2_chooseOther : MethodName := ⟨RX2, "chooseOthe\x72", "(III)V"⟩
abbrev cX2_fillGame : ByteArray := prog_4_method_4_code
def yX2_fillGame : MethodName := ⟨RX2, "fillGame", "(I)I"⟩
abbrev cX2_addOuting : ByteArray := prog_4_method_5_code
def yX2_addOuting : MethodName := ⟨RX2, "addOuting", "(I)Z"⟩
abbrev cX2_changeBest : ByteArray := prog_4_method_6_code
def yX2_changeBest : MethodName := ⟨RX2, "changeBest", "()Z"⟩
abbrev cX2_weighChanges : ByteArray := prog_4_method_7_code
def yX2_weighChanges : MethodName := ⟨RX2, "weighChanges", "(II)V"⟩
def RX3 : String := "ThrowArms$Diary"
def TX3 : u_T := fun k => match k with
  | 0 => ("ThrowArms$Diary", "book", "LThrowArms$Book;", true)
  | 1 => ("ThrowArms$Diary", "thrown", "[I", true)
  | _ => ("ThrowArms$Diary", "owne\x72", "I", false)
def tyX3 : Nat → FieldType := fun k => match k with
  | 0 => .object "ThrowArms$Book"
  | 1 => .array .int
  | _ => .int
abbrev wsX30 : List Cond := u_ws RX3 TX3 3
theorem nmX3 : ∀ a, a < 3 → ∀ b, b < 3 → a ≠ b → (TX3 a).2.1 ≠ (TX3 b).2.1 := by decide +kernel
theorem tyX3_ok : ∀ k, k < 3 → parseFieldDescriptor (TX3 k).2.2.1 = some (tyX3 k) := by decide +kernel
abbrev cX3_init : ByteArray := prog_5_method_1_code
def yX3_init : MethodName := ⟨RX3, "<init>", "(LThrowArms$Book;)V"⟩
abbrev cX3_open : ByteArray := prog_5_method_2_code
def yX3_open : MethodName := ⟨RX3, "open", "(I)V"⟩
abbrev cX3_write : ByteArray := prog_5_method_3_code
def yX3_write : MethodName := ⟨RX3, "write", "(II)V"⟩
abbrev cX3_allowsIn : ByteArray := prog_5_method_4_code
def yX3_allowsIn : MethodName := ⟨RX3, "allowsIn", "(III)Z"⟩
abbrev cX3_allowsAt : ByteArray := prog_5_method_5_code
def yX3_allowsAt : MethodName := ⟨RX3, "allowsAt", "(II)Z"⟩
abbrev cX3_allowsMoved : ByteArray := prog_5_method_6_code
def yX3_allowsMoved : MethodName := ⟨RX3, "allowsMoved", "(IIII)Z"⟩
abbrev cX3_clashes : ByteArray := prog_5_method_7_code
def yX3_clashes : MethodName := ⟨RX3, "clashes", "(II)I"⟩
abbrev cX3_mostOf : ByteArray := prog_5_method_8_code
def yX3_mostOf : MethodName := ⟨RX3, "mostOf", "(III)I"⟩
abbrev cX3_isRested : ByteArray := prog_5_method_9_code
def yX3_isRested : MethodName := ⟨RX3, "isRested", "(I)Z"⟩
abbrev cX3_daysToNext : ByteArray := prog_5_method_10_code
def yX3_daysToNext : MethodName := ⟨RX3, "daysToNext", "(I)I"⟩
abbrev cX3_roomInWeek : ByteArray := prog_5_method_11_code
def yX3_roomInWeek : MethodName := ⟨RX3, "roomInWeek", "(I)I"⟩
abbrev cX3_weekFrom : ByteArray := prog_5_method_12_code
def yX3_weekFrom : MethodName := ⟨RX3, "weekFrom", "(II)I"⟩
def RX4 : String := "ThrowArms$History"
def TX4 : u_T := fun k => match k with
  | 0 => ("ThrowArms$History", "told", "LThrowArms$Told;", true)
  | 1 => ("ThrowArms$History", "plan", "LThrowArms$Plan;", true)
  | 2 => ("ThrowArms$History", "memory", "[I", true)
  | 3 => ("ThrowArms$History", "next", "I", false)
  | _ => ("ThrowArms$History", "count", "I", false)
def tyX4 : Nat → FieldType := fun k => match k with
  | 0 => .object "ThrowArms$Told"
  | 1 => .object "ThrowArms$Plan"
  | 2 => .array .int
  | 3 => .int
  | _ => .int
abbrev wsX40 : List Cond := u_ws RX4 TX4 5
theorem nmX4 : ∀ a, a < 5 → ∀ b, b < 5 → a ≠ b → (TX4 a).2.1 ≠ (TX4 b).2.1 := by decide +kernel
theorem tyX4_ok : ∀ k, k < 5 → parseFieldDescriptor (TX4 k).2.2.1 = some (tyX4 k) := by decide +kernel
abbrev cX4_init : ByteArray := prog_6_method_1_code
def yX4_init : MethodName := ⟨RX4, "<init>", "(LThrowArms$Told;LThrowArms$Plan;)V"⟩
abbrev cX4_keep : ByteArray := prog_6_method_2_code
def yX4_keep : MethodName := ⟨RX4, "keep", "()V"⟩
abbrev cX4_goBack : ByteArray := prog_6_method_3_code
def yX4_goBack : MethodName := ⟨RX4, "goBack", "()V"⟩
def RX5 : String := "ThrowArms$Plan"
def TX5 : u_T := fun k => match k with
  | 0 => ("ThrowArms$Plan", "filled", "[I", true)
  | 1 => ("ThrowArms$Plan", "whose", "[I", true)
  | 2 => ("ThrowArms$Plan", "thrown", "[I", true)
  | _ => ("ThrowArms$Plan", "loads", "[I", true)
def tyX5 : Nat → FieldType := fun k => match k with
  | 0 => .array .int
  | 1 => .array .int
  | 2 => .array .int
  | _ => .array .int
abbrev wsX50 : List Cond := u_ws RX5 TX5 4
theorem nmX5 : ∀ a, a < 4 → ∀ b, b < 4 → a ≠ b → (TX5 a).2.1 ≠ (TX5 b).2.1 := by decide +kernel
theorem tyX5_ok : ∀ k, k < 4 → parseFieldDescriptor (TX5 k).2.2.1 = some (tyX5 k) := by decide +kernel
abbrev cX5_init : ByteArray := prog_7_method_1_code
def yX5_init : MethodName := ⟨RX5, "<init>", "()V"⟩
abbrev cX5_armAt : ByteArray := prog_7_method_2_code
def yX5_armAt : MethodName := ⟨RX5, "armAt", "(II)I"⟩
abbrev cX5_throwsAt : ByteArray := prog_7_method_3_code
def yX5_throwsAt : MethodName := ⟨RX5, "throwsAt", "(II)I"⟩
abbrev cX5_loadOf : ByteArray := prog_7_method_4_code
def yX5_loadOf : MethodName := ⟨RX5, "loadOf", "(II)I"⟩
abbrev cX5_has : ByteArray := prog_7_method_5_code
def yX5_has : MethodName := ⟨RX5, "has", "(II)Z"⟩
abbrev cX5_copyLoads : ByteArray := prog_7_method_6_code
def yX5_copyLoads : MethodName := ⟨RX5, "copyLoads", "(I[I)V"⟩
abbrev cX5_add : ByteArray := prog_7_method_7_code
def yX5_add : MethodName := ⟨RX5, "add", "(III)V"⟩
abbrev cX5_remove : ByteArray := prog_7_method_8_code
def yX5_remove : MethodName := ⟨RX5, "remove", "(II)V"⟩
abbrev cX5_change : ByteArray := prog_7_method_9_code
def yX5_change : MethodName := ⟨RX5, "change", "(IIII)V"⟩
abbrev cX5_setAt : ByteArray := prog_7_method_10_code
def yX5_setAt : MethodName := ⟨RX5, "setAt", "(IIII)V"⟩
abbrev cX5_emptyGame : ByteArray := prog_7_method_11_code
def yX5_emptyGame : MethodName := ⟨RX5, "emptyGame", "(I)V"⟩
abbrev cX5_empty : ByteArray := prog_7_method_12_code
def yX5_empty : MethodName := ⟨RX5, "empty", "()V"⟩
abbrev cX5_saveTo : ByteArray := prog_7_method_13_code
def yX5_saveTo : MethodName := ⟨RX5, "saveTo", "([II)V"⟩
abbrev cX5_loadFrom : ByteArray := prog_7_method_14_code
def yX5_loadFrom : MethodName := ⟨RX5, "loadFrom", "([II)V"⟩
def RX6 : String := "ThrowArms$Reade\x72"
def TX6 : u_T := fun k => match k with
  | 0 => ("ThrowArms$Reade\x72", "tape", "LThrowArms$Tape;", true)
  | 1 => ("ThrowArms$Reade\x72", "bounded", "[Z", true)
  | 2 => ("ThrowArms$Reade\x72", "draft", "LThrowArms$Told;", true)
  | 3 => ("ThrowArms$Reade\x72", "numbe\x72", "I", false)
  | _ => ("ThrowArms$Reade\x72", "place", "I", false)
def tyX6 : Nat → FieldType := fun k => match k with
  | 0 => .object "ThrowArms$Tape"
  | 1 => .array .boolean
  | 2 => .object "ThrowArms$Told"
  | 3 => .int
  | _ => .int
abbrev wsX60 : List Cond := u_ws RX6 TX6 5
theorem nmX6 : ∀ a, a < 5 → ∀ b, b < 5 → a ≠ b → (TX6 a).2.1 ≠ (TX6 b).2.1 := by decide +kernel
theorem tyX6_ok : ∀ k, k < 5 → parseFieldDescriptor (TX6 k).2.2.1 = some (tyX6 k) := by decide +kernel
abbrev cX6_init : ByteArray := prog_8_method_1_code
def yX6_init : MethodName := ⟨RX6, "<init>", "(LThrowArms$Tape;)V"⟩
abbrev cX6_read : ByteArray := prog_8_method_2_code
def yX6_read : MethodName := ⟨RX6, "read", "(I)Z"⟩
abbrev cX6_fail : ByteArray := prog_8_method_3_code
def yX6_fail : MethodName := ⟨RX6, "fail", "(I)Z"⟩
abbrev cX6_readLine : ByteArray := prog_8_method_4_code
def yX6_readLine : MethodName := ⟨RX6, "readLine", "()Z"⟩
abbrev cX6_readArm : ByteArray := prog_8_method_5_code
def yX6_readArm : MethodName := ⟨RX6, "readArm", "()Z"⟩
abbrev cX6_readName : ByteArray := prog_8_method_6_code
def yX6_readName : MethodName := ⟨RX6, "readName", "(I)Z"⟩
abbrev cX6_isReserved : ByteArray := prog_8_method_7_code
def yX6_isReserved : MethodName := ⟨RX6, "isReserved", "()Z"⟩
abbrev cX6_readHand : ByteArray := prog_8_method_8_code
def yX6_readHand : MethodName := ⟨RX6, "readHand", "(I)Z"⟩
abbrev cX6_readGame : ByteArray := prog_8_method_9_code
def yX6_readGame : MethodName := ⟨RX6, "readGame", "()Z"⟩
abbrev cX6_readRest : ByteArray := prog_8_method_10_code
def yX6_readRest : MethodName := ⟨RX6, "readRest", "()Z"⟩
abbrev cX6_readBound : ByteArray := prog_8_method_11_code
def yX6_readBound : MethodName := ⟨RX6, "readBound", "(I)Z"⟩
abbrev cX6_readWhole : ByteArray := prog_8_method_12_code
def yX6_readWhole : MethodName := ⟨RX6, "readWhole", "(II)Z"⟩
def RX7 : String := "ThrowArms$Season"
def TX7 : u_T := fun k => match k with
  | 0 => ("ThrowArms$Season", "book", "LThrowArms$Book;", true)
  | 1 => ("ThrowArms$Season", "backOn", "[I", true)
  | 2 => ("ThrowArms$Season", "draw", "J", false)
  | 3 => ("ThrowArms$Season", "hurts", "I", false)
  | 4 => ("ThrowArms$Season", "who", "I", false)
  | 5 => ("ThrowArms$Season", "missed", "I", false)
  | 6 => ("ThrowArms$Season", "gained", "I", false)
  | _ => ("ThrowArms$Season", "firstGame", "I", false)
def tyX7 : Nat → FieldType := fun k => match k with
  | 0 => .object "ThrowArms$Book"
  | 1 => .array .int
  | 2 => .long
  | 3 => .int
  | 4 => .int
  | 5 => .int
  | 6 => .int
  | _ => .int
abbrev wsX70 : List Cond := u_ws RX7 TX7 8
theorem nmX7 : ∀ a, a < 8 → ∀ b, b < 8 → a ≠ b → (TX7 a).2.1 ≠ (TX7 b).2.1 := by decide +kernel
theorem tyX7_ok : ∀ k, k < 8 → parseFieldDescriptor (TX7 k).2.2.1 = some (tyX7 k) := by decide +kernel
abbrev cX7_init : ByteArray := prog_9_method_1_code
def yX7_init : MethodName := ⟨RX7, "<init>", "(LThrowArms$Book;)V"⟩
abbrev cX7_play : ByteArray := prog_9_method_2_code
def yX7_play : MethodName := ⟨RX7, "play", "(I)V"⟩
abbrev cX7_playOuting : ByteArray := prog_9_method_3_code
def yX7_playOuting : MethodName := ⟨RX7, "playOuting", "(II)V"⟩
def RX8 : String := "ThrowArms$Tape"
def TX8 : u_T := fun k => match k with
  | 0 => ("ThrowArms$Tape", "bytes", "[B", true)
  | 1 => ("ThrowArms$Tape", "length", "I", false)
  | 2 => ("ThrowArms$Tape", "limit", "I", false)
  | 3 => ("ThrowArms$Tape", "at", "I", false)
  | 4 => ("ThrowArms$Tape", "kind", "I", false)
  | 5 => ("ThrowArms$Tape", "start", "I", false)
  | 6 => ("ThrowArms$Tape", "numbe\x72", "I", false)
  | _ => ("ThrowArms$Tape", "code", "J", false)
def tyX8 : Nat → FieldType := fun k => match k with
  | 0 => .array .byte
  | 1 => .int
  | 2 => .int
  | 3 => .int
  | 4 => .int
  | 5 => .int
  | 6 => .int
  | _ => .long
abbrev wsX80 : List Cond := u_ws RX8 TX8 8
theorem nmX8 : ∀ a, a < 8 → ∀ b, b < 8 → a ≠ b → (TX8 a).2.1 ≠ (TX8 b).2.1 := by decide +kernel
theorem tyX8_ok : ∀ k, k < 8 → parseFieldDescriptor (TX8 k).2.2.1 = some (tyX8 k) := by decide +kernel
abbrev cX8_init : ByteArray := prog_10_method_1_code
def yX8_init : MethodName := ⟨RX8, "<init>", "()V"⟩
abbrev cX8_append : ByteArray := prog_10_method_2_code
def yX8_append : MethodName := ⟨RX8, "append", "(I)V"⟩
abbrev cX8_beginTokens : ByteArray := prog_10_method_3_code
def yX8_beginTokens : MethodName := ⟨RX8, "beginTokens", "(I)V"⟩
abbrev cX8_nextToken : ByteArray := prog_10_method_4_code
def yX8_nextToken : MethodName := ⟨RX8, "nextToken", "()V"⟩
abbrev cX8_scanWord : ByteArray := prog_10_method_5_code
def yX8_scanWord : MethodName := ⟨RX8, "scanWord", "()V"⟩
abbrev cX8_scanWhole : ByteArray := prog_10_method_6_code
def yX8_scanWhole : MethodName := ⟨RX8, "scanWhole", "()V"⟩
abbrev cX8_isWord : ByteArray := prog_10_method_7_code
def yX8_isWord : MethodName := ⟨RX8, "isWord", "(Ljava/lang/String;)Z"⟩
abbrev cX8_onlyWord : ByteArray := prog_10_method_8_code
def yX8_onlyWord : MethodName := ⟨RX8, "onlyWord", "(I)J"⟩
abbrev cX8_isLetter : ByteArray := prog_10_method_9_code
def yX8_isLetter : MethodName := ⟨RX8, "isLette\x72", "(I)Z"⟩
abbrev cX8_isDigit : ByteArray := prog_10_method_10_code
def yX8_isDigit : MethodName := ⟨RX8, "isDigit", "(I)Z"⟩
def RX9 : String := "ThrowArms$Told"
def TX9 : u_T := fun k => match k with
  | 0 => ("ThrowArms$Told", "arms", "I", false)
  | 1 => ("ThrowArms$Told", "names", "[J", true)
  | 2 => ("ThrowArms$Told", "hands", "[I", true)
  | 3 => ("ThrowArms$Told", "traits", "[I", true)
  | 4 => ("ThrowArms$Told", "games", "I", false)
  | 5 => ("ThrowArms$Told", "facts", "[I", true)
  | 6 => ("ThrowArms$Told", "bounds", "[I", true)
  | 7 => ("ThrowArms$Told", "restCount", "I", false)
  | 8 => ("ThrowArms$Told", "restFrom", "[I", true)
  | _ => ("ThrowArms$Told", "restDays", "[I", true)
def tyX9 : Nat → FieldType := fun k => match k with
  | 0 => .int
  | 1 => .array .long
  | 2 => .array .int
  | 3 => .array .int
  | 4 => .int
  | 5 => .array .int
  | 6 => .array .int
  | 7 => .int
  | 8 => .array .int
  | _ => .array .int
abbrev wsX90 : List Cond := u_ws RX9 TX9 10
theorem nmX9 : ∀ a, a < 10 → ∀ b, b < 10 → a ≠ b → (TX9 a).2.1 ≠ (TX9 b).2.1 := by decide +kernel
theorem tyX9_ok : ∀ k, k < 10 → parseFieldDescriptor (TX9 k).2.2.1 = some (tyX9 k) := by decide +kernel
abbrev cX9_init : ByteArray := prog_11_method_1_code
def yX9_init : MethodName := ⟨RX9, "<init>", "()V"⟩
abbrev cX9_empty : ByteArray := prog_11_method_2_code
def yX9_empty : MethodName := ⟨RX9, "empty", "()V"⟩
abbrev cX9_copyFrom : ByteArray := prog_11_method_3_code
def yX9_copyFrom : MethodName := ⟨RX9, "copyFrom", "(LThrowArms$Told;)V"⟩
abbrev cX9_trait : ByteArray := prog_11_method_4_code
def yX9_trait : MethodName := ⟨RX9, "trait", "(II)I"⟩
abbrev cX9_setTrait : ByteArray := prog_11_method_5_code
def yX9_setTrait : MethodName := ⟨RX9, "setTrait", "(III)V"⟩
abbrev cX9_highestTrait : ByteArray := prog_11_method_6_code
def yX9_highestTrait : MethodName := ⟨RX9, "highestTrait", "(II)I"⟩
abbrev cX9_fact : ByteArray := prog_11_method_7_code
def yX9_fact : MethodName := ⟨RX9, "fact", "(II)I"⟩
abbrev cX9_daysFrom : ByteArray := prog_11_method_8_code
def yX9_daysFrom : MethodName := ⟨RX9, "daysFrom", "(II)I"⟩
abbrev cX9_armNamed : ByteArray := prog_11_method_9_code
def yX9_armNamed : MethodName := ⟨RX9, "armNamed", "(J)I"⟩
abbrev cX9_restAfter : ByteArray := prog_11_method_10_code
def yX9_restAfter : MethodName := ⟨RX9, "restAfte\x72", "(I)I"⟩
abbrev cX9_saveTo : ByteArray := prog_11_method_11_code
def yX9_saveTo : MethodName := ⟨RX9, "saveTo", "([II)V"⟩
abbrev cX9_loadFrom : ByteArray := prog_11_method_12_code
def yX9_loadFrom : MethodName := ⟨RX9, "loadFrom", "([II)V"⟩
def RX10 : String := "ThrowArms"
def TX10 : u_T := fun k => match k with
  | 0 => ("ThrowArms", "tape", "LThrowArms$Tape;", true)
  | 1 => ("ThrowArms", "reade\x72", "LThrowArms$Reader;", true)
  | 2 => ("ThrowArms", "told", "LThrowArms$Told;", true)
  | 3 => ("ThrowArms", "plan", "LThrowArms$Plan;", true)
  | 4 => ("ThrowArms", "book", "LThrowArms$Book;", true)
  | 5 => ("ThrowArms", "diary", "LThrowArms$Diary;", true)
  | 6 => ("ThrowArms", "bestRow", "LThrowArms$Best;", true)
  | 7 => ("ThrowArms", "choose\x72", "LThrowArms$Chooser;", true)
  | 8 => ("ThrowArms", "played", "LThrowArms$Season;", true)
  | 9 => ("ThrowArms", "history", "LThrowArms$History;", true)
  | 10 => ("ThrowArms", "lastTrouble", "I", false)
  | 11 => ("ThrowArms", "lastFault", "I", false)
  | _ => ("ThrowArms", "faultPlace", "I", false)
def tyX10 : Nat → FieldType := fun k => match k with
  | 0 => .object "ThrowArms$Tape"
  | 1 => .object "ThrowArms$Reade\x72"
  | 2 => .object "ThrowArms$Told"
  | 3 => .object "ThrowArms$Plan"
  | 4 => .object "ThrowArms$Book"
  | 5 => .object "ThrowArms$Diary"
  | 6 => .object "ThrowArms$Best"
  | 7 => .object "ThrowArms$Choose\x72"
  | 8 => .object "ThrowArms$Season"
  | 9 => .object "ThrowArms$History"
  | 10 => .int
  | 11 => .int
  | _ => .int
abbrev wsX100 : List Cond := u_ws RX10 TX10 13
theorem nmX10 : ∀ a, a < 13 → ∀ b, b < 13 → a ≠ b → (TX10 a).2.1 ≠ (TX10 b).2.1 := by decide +kernel
theorem tyX10_ok : ∀ k, k < 13 → parseFieldDescriptor (TX10 k).2.2.1 = some (tyX10 k) := by decide +kernel
abbrev cX10_init : ByteArray := prog_1_method_1_code
def yX10_init : MethodName := ⟨RX10, "<init>", "()V"⟩
abbrev cX10_feed : ByteArray := prog_1_method_2_code
def yX10_feed : MethodName := ⟨RX10, "feed", "(IIIII)I"⟩
abbrev cX10_text : ByteArray := prog_1_method_3_code
def yX10_text : MethodName := ⟨RX10, "text", "(I)I"⟩
abbrev cX10_fault : ByteArray := prog_1_method_4_code
def yX10_fault : MethodName := ⟨RX10, "fault", "()I"⟩
abbrev cX10_where : ByteArray := prog_1_method_5_code
def yX10_where : MethodName := ⟨RX10, "where", "()I"⟩
abbrev cX10_about : ByteArray := prog_1_method_6_code
def yX10_about : MethodName := ⟨RX10, "about", "(I)I"⟩
abbrev cX10_tellAll : ByteArray := prog_1_method_7_code
def yX10_tellAll : MethodName := ⟨RX10, "tellAll", "(I)I"⟩
abbrev cX10_arm : ByteArray := prog_1_method_8_code
def yX10_arm : MethodName := ⟨RX10, "arm", "(II)I"⟩
abbrev cX10_tellArm : ByteArray := prog_1_method_9_code
def yX10_tellArm : MethodName := ⟨RX10, "tellArm", "(II)I"⟩
abbrev cX10_game : ByteArray := prog_1_method_10_code
def yX10_game : MethodName := ⟨RX10, "game", "(II)I"⟩
abbrev cX10_tellGame : ByteArray := prog_1_method_11_code
def yX10_tellGame : MethodName := ⟨RX10, "tellGame", "(II)I"⟩
abbrev cX10_rest : ByteArray := prog_1_method_12_code
def yX10_rest : MethodName := ⟨RX10, "rest", "(I)I"⟩
abbrev cX10_outing : ByteArray := prog_1_method_13_code
def yX10_outing : MethodName := ⟨RX10, "outing", "(III)I"⟩
abbrev cX10_tellOuting : ByteArray := prog_1_method_14_code
def yX10_tellOuting : MethodName := ⟨RX10, "tellOuting", "(III)I"⟩
abbrev cX10_value : ByteArray := prog_1_method_15_code
def yX10_value : MethodName := ⟨RX10, "value", "()I"⟩
abbrev cX10_points : ByteArray := prog_1_method_16_code
def yX10_points : MethodName := ⟨RX10, "points", "(II)I"⟩
abbrev cX10_worth : ByteArray := prog_1_method_17_code
def yX10_worth : MethodName := ⟨RX10, "worth", "(III)I"⟩
abbrev cX10_most : ByteArray := prog_1_method_18_code
def yX10_most : MethodName := ⟨RX10, "most", "(II)I"⟩
abbrev cX10_when : ByteArray := prog_1_method_19_code
def yX10_when : MethodName := ⟨RX10, "when", "(III)I"⟩
abbrev cX10_ranked : ByteArray := prog_1_method_20_code
def yX10_ranked : MethodName := ⟨RX10, "ranked", "(II)I"⟩
abbrev cX10_countAhead : ByteArray := prog_1_method_21_code
def yX10_countAhead : MethodName := ⟨RX10, "countAhead", "(II)I"⟩
abbrev cX10_extra : ByteArray := prog_1_method_22_code
def yX10_extra : MethodName := ⟨RX10, "extra", "(I)I"⟩
abbrev cX10_clash : ByteArray := prog_1_method_23_code
def yX10_clash : MethodName := ⟨RX10, "clash", "(III)I"⟩
abbrev cX10_best : ByteArray := prog_1_method_24_code
def yX10_best : MethodName := ⟨RX10, "best", "(II)I"⟩
abbrev cX10_bestOf : ByteArray := prog_1_method_25_code
def yX10_bestOf : MethodName := ⟨RX10, "bestOf", "(III)I"⟩
abbrev cX10_troubleOfBest : ByteArray := prog_1_method_26_code
def yX10_troubleOfBest : MethodName := ⟨RX10, "troubleOfBest", "(II)I"⟩
abbrev cX10_pair : ByteArray := prog_1_method_27_code
def yX10_pair : MethodName := ⟨RX10, "pai\x72", "(III)I"⟩
abbrev cX10_breaches : ByteArray := prog_1_method_28_code
def yX10_breaches : MethodName := ⟨RX10, "breaches", "()I"⟩
abbrev cX10_breach : ByteArray := prog_1_method_29_code
def yX10_breach : MethodName := ⟨RX10, "breach", "(I)I"⟩
abbrev cX10_work : ByteArray := prog_1_method_30_code
def yX10_work : MethodName := ⟨RX10, "work", "(II)I"⟩
abbrev cX10_busiest : ByteArray := prog_1_method_31_code
def yX10_busiest : MethodName := ⟨RX10, "busiest", "(II)I"⟩
abbrev cX10_idle : ByteArray := prog_1_method_32_code
def yX10_idle : MethodName := ⟨RX10, "idle", "(I)I"⟩
abbrev cX10_gap : ByteArray := prog_1_method_33_code
def yX10_gap : MethodName := ⟨RX10, "gap", "(I)I"⟩
abbrev cX10_hands : ByteArray := prog_1_method_34_code
def yX10_hands : MethodName := ⟨RX10, "hands", "(IZ)I"⟩
abbrev cX10_bare : ByteArray := prog_1_method_35_code
def yX10_bare : MethodName := ⟨RX10, "bare", "(I)I"⟩
abbrev cX10_risk : ByteArray := prog_1_method_36_code
def yX10_risk : MethodName := ⟨RX10, "risk", "(I)I"⟩
abbrev cX10_sound : ByteArray := prog_1_method_37_code
def yX10_sound : MethodName := ⟨RX10, "sound", "(II)J"⟩
abbrev cX10_commonDivisor : ByteArray := prog_1_method_38_code
def yX10_commonDivisor : MethodName := ⟨RX10, "commonDiviso\x72", "(JJ)J"⟩
abbrev cX10_season : ByteArray := prog_1_method_39_code
def yX10_season : MethodName := ⟨RX10, "season", "(II)I"⟩
abbrev cX10_tellSeason : ByteArray := prog_1_method_40_code
def yX10_tellSeason : MethodName := ⟨RX10, "tellSeason", "(I)I"⟩
abbrev cX10_span : ByteArray := prog_1_method_41_code
def yX10_span : MethodName := ⟨RX10, "span", "(III)I"⟩
abbrev cX10_put : ByteArray := prog_1_method_42_code
def yX10_put : MethodName := ⟨RX10, "put", "(IIIZ)I"⟩
abbrev cX10_take : ByteArray := prog_1_method_43_code
def yX10_take : MethodName := ⟨RX10, "take", "(II)I"⟩
abbrev cX10_shift : ByteArray := prog_1_method_44_code
def yX10_shift : MethodName := ⟨RX10, "shift", "(III)I"⟩
abbrev cX10_swap : ByteArray := prog_1_method_45_code
def yX10_swap : MethodName := ⟨RX10, "swap", "(IIII)Z"⟩
abbrev cX10_mayTrade : ByteArray := prog_1_method_46_code
def yX10_mayTrade : MethodName := ⟨RX10, "mayTrade", "(IIII)Z"⟩
abbrev cX10_better : ByteArray := prog_1_method_47_code
def yX10_better : MethodName := ⟨RX10, "bette\x72", "()I"⟩
abbrev cX10_fill : ByteArray := prog_1_method_48_code
def yX10_fill : MethodName := ⟨RX10, "fill", "(I)I"⟩
abbrev cX10_fillAll : ByteArray := prog_1_method_49_code
def yX10_fillAll : MethodName := ⟨RX10, "fillAll", "()I"⟩
abbrev cX10_laid : ByteArray := prog_1_method_50_code
def yX10_laid : MethodName := ⟨RX10, "laid", "(II)I"⟩
abbrev cX10_become : ByteArray := prog_1_method_51_code
def yX10_become : MethodName := ⟨RX10, "become", "(III)I"⟩
abbrev cX10_rule : ByteArray := prog_1_method_52_code
def yX10_rule : MethodName := ⟨RX10, "rule", "(II)I"⟩
abbrev cX10_rests : ByteArray := prog_1_method_53_code
def yX10_rests : MethodName := ⟨RX10, "rests", "(II)I"⟩
abbrev cX10_undo : ByteArray := prog_1_method_54_code
def yX10_undo : MethodName := ⟨RX10, "undo", "()I"⟩
abbrev cX10_named : ByteArray := prog_1_method_55_code
def yX10_named : MethodName := ⟨RX10, "named", "(I)I"⟩
abbrev cX10_size : ByteArray := prog_1_method_56_code
def yX10_size : MethodName := ⟨RX10, "size", "()I"⟩
abbrev cX10_trouble : ByteArray := prog_1_method_57_code
def yX10_trouble : MethodName := ⟨RX10, "trouble", "()I"⟩
abbrev cX10_refuse : ByteArray := prog_1_method_58_code
def yX10_refuse : MethodName := ⟨RX10, "refuse", "(I)I"⟩
abbrev cX10_answer : ByteArray := prog_1_method_59_code
def yX10_answer : MethodName := ⟨RX10, "answe\x72", "(I)I"⟩
abbrev cX10_hasText : ByteArray := prog_1_method_60_code
def yX10_hasText : MethodName := ⟨RX10, "hasText", "()Z"⟩
abbrev cX10_hasArm : ByteArray := prog_1_method_61_code
def yX10_hasArm : MethodName := ⟨RX10, "hasArm", "(I)Z"⟩
abbrev cX10_hasGame : ByteArray := prog_1_method_62_code
def yX10_hasGame : MethodName := ⟨RX10, "hasGame", "(I)Z"⟩
abbrev cX10_hasOuting : ByteArray := prog_1_method_63_code
def yX10_hasOuting : MethodName := ⟨RX10, "hasOuting", "(II)Z"⟩
abbrev cX10_within : ByteArray := prog_1_method_64_code
def yX10_within : MethodName := ⟨RX10, "within", "(III)Z"⟩
def RX11 : String := "ThrowArmsModel"
def TX11 : u_T := fun k => match k with
  | 0 => ("ThrowArmsModel", "thrown", "I", false)
  | 1 => ("ThrowArmsModel", "trouble", "I", false)
  | 2 => ("ThrowArmsModel", "fault", "I", false)
  | 3 => ("ThrowArmsModel", "where", "I", false)
  | 4 => ("ThrowArmsModel", "tape", "[I", true)
  | 5 => ("ThrowArmsModel", "taped", "I", false)
  | 6 => ("ThrowArmsModel", "hasText", "Z", false)
  | 7 => ("ThrowArmsModel", "\x72", "[I", true)
  | 8 => ("ThrowArmsModel", "fresh", "[I", true)
  | 9 => ("ThrowArmsModel", "name", "[I", true)
  | 10 => ("ThrowArmsModel", "freshName", "[I", true)
  | 11 => ("ThrowArmsModel", "textLong", "I", false)
  | 12 => ("ThrowArmsModel", "place", "I", false)
  | 13 => ("ThrowArmsModel", "spot", "I", false)
  | 14 => ("ThrowArmsModel", "token", "I", false)
  | 15 => ("ThrowArmsModel", "whole", "I", false)
  | 16 => ("ThrowArmsModel", "told", "I", false)
  | 17 => ("ThrowArmsModel", "readFault", "I", false)
  | 18 => ("ThrowArmsModel", "readPlace", "I", false)
  | 19 => ("ThrowArmsModel", "day", "[I", true)
  | 20 => ("ThrowArmsModel", "row", "[I", true)
  | 21 => ("ThrowArmsModel", "bestRow", "[I", true)
  | 22 => ("ThrowArmsModel", "hurtTill", "[I", true)
  | 23 => ("ThrowArmsModel", "came", "[I", true)
  | 24 => ("ThrowArmsModel", "acts", "I", false)
  | 25 => ("ThrowArmsModel", "was", "[I", true)
  | 26 => ("ThrowArmsModel", "gainAt", "I", false)
  | _ => ("ThrowArmsModel", "gainBy", "I", false)
def tyX11 : Nat → FieldType := fun k => match k with
  | 0 => .int
  | 1 => .int
  | 2 => .int
  | 3 => .int
  | 4 => .array .int
  | 5 => .int
  | 6 => .boolean
  | 7 => .array .int
  | 8 => .array .int
  | 9 => .array .int
  | 10 => .array .int
  | 11 => .int
  | 12 => .int
  | 13 => .int
  | 14 => .int
  | 15 => .int
  | 16 => .int
  | 17 => .int
  | 18 => .int
  | 19 => .array .int
  | 20 => .array .int
  | 21 => .array .int
  | 22 => .array .int
  | 23 => .array .int
  | 24 => .int
  | 25 => .array .int
  | 26 => .int
  | _ => .int
abbrev wsX110 : List Cond := u_ws RX11 TX11 28
theorem nmX11 : ∀ a, a < 28 → ∀ b, b < 28 → a ≠ b → (TX11 a).2.1 ≠ (TX11 b).2.1 := by decide +kernel
theorem tyX11_ok : ∀ k, k < 28 → parseFieldDescriptor (TX11 k).2.2.1 = some (tyX11 k) := by decide +kernel
abbrev cX11_init : ByteArray := prog_13_method_1_code
def yX11_init : MethodName := ⟨RX11, "<init>", "()V"⟩
abbrev cX11_thrown : ByteArray := prog_13_method_2_code
def yX11_thrown : MethodName := ⟨RX11, "thrown", "()I"⟩
abbrev cX11_in : ByteArray := prog_13_method_3_code
def yX11_in : MethodName := ⟨RX11, "in", "(III)Z"⟩
abbrev cX11_lesser : ByteArray := prog_13_method_4_code
def yX11_lesser : MethodName := ⟨RX11, "lesse\x72", "(II)I"⟩
abbrev cX11_no : ByteArray := prog_13_method_5_code
def yX11_no : MethodName := ⟨RX11, "no", "(I)I"⟩
abbrev cX11_isRefused : ByteArray := prog_13_method_6_code
def yX11_isRefused : MethodName := ⟨RX11, "isRefused", "(I)Z"⟩
abbrev cX11_unless : ByteArray := prog_13_method_7_code
def yX11_unless : MethodName := ⟨RX11, "unless", "(Z)I"⟩
abbrev cX11_unless_ : ByteArray := prog_13_method_8_code
def yX11_unless_ : MethodName := ⟨RX11, "unless", "(ZZ)I"⟩
abbrev cX11_feed : ByteArray := prog_13_method_9_code
def yX11_feed : MethodName := ⟨RX11, "feed", "(IIIII)I"⟩
abbrev cX11_laysWord : ByteArray := prog_13_method_10_code
def yX11_laysWord : MethodName := ⟨RX11, "laysWord", "(I)V"⟩
abbrev cX11_see : ByteArray := prog_13_method_11_code
def yX11_see : MethodName := ⟨RX11, "see", "(I)I"⟩
abbrev cX11_goesOn : ByteArray := prog_13_method_12_code
def yX11_goesOn : MethodName := ⟨RX11, "goesOn", "()V"⟩
abbrev cX11_isWord : ByteArray := prog_13_method_13_code
def yX11_isWord : MethodName := ⟨RX11, "isWord", "(Ljava/lang/String;)Z"⟩
abbrev cX11_errs : ByteArray := prog_13_method_14_code
def yX11_errs : MethodName := ⟨RX11, "errs", "(I)Z"⟩
abbrev cX11_isName : ByteArray := prog_13_method_15_code
def yX11_isName : MethodName := ⟨RX11, "isName", "()Z"⟩
abbrev cX11_isAt : ByteArray := prog_13_method_16_code
def yX11_isAt : MethodName := ⟨RX11, "isAt", "([IIII)Z"⟩
abbrev cX11_takes : ByteArray := prog_13_method_17_code
def yX11_takes : MethodName := ⟨RX11, "takes", "(III)Z"⟩
abbrev cX11_readArm : ByteArray := prog_13_method_18_code
def yX11_readArm : MethodName := ⟨RX11, "readArm", "()Z"⟩
abbrev cX11_readGame : ByteArray := prog_13_method_19_code
def yX11_readGame : MethodName := ⟨RX11, "readGame", "()Z"⟩
abbrev cX11_readRest : ByteArray := prog_13_method_20_code
def yX11_readRest : MethodName := ⟨RX11, "readRest", "()Z"⟩
abbrev cX11_readOnce : ByteArray := prog_13_method_21_code
def yX11_readOnce : MethodName := ⟨RX11, "readOnce", "(III)Z"⟩
abbrev cX11_readLine : ByteArray := prog_13_method_22_code
def yX11_readLine : MethodName := ⟨RX11, "readLine", "()Z"⟩
abbrev cX11_readAll : ByteArray := prog_13_method_23_code
def yX11_readAll : MethodName := ⟨RX11, "readAll", "(I)Z"⟩
abbrev cX11_lays : ByteArray := prog_13_method_24_code
def yX11_lays : MethodName := ⟨RX11, "lays", "([II[III)V"⟩
abbrev cX11_text : ByteArray := prog_13_method_25_code
def yX11_text : MethodName := ⟨RX11, "text", "(I)I"⟩
abbrev cX11_fault : ByteArray := prog_13_method_26_code
def yX11_fault : MethodName := ⟨RX11, "fault", "()I"⟩
abbrev cX11_where : ByteArray := prog_13_method_27_code
def yX11_where : MethodName := ⟨RX11, "where", "()I"⟩
abbrev cX11_isArm : ByteArray := prog_13_method_28_code
def yX11_isArm : MethodName := ⟨RX11, "isArm", "(I)Z"⟩
abbrev cX11_isGame : ByteArray := prog_13_method_29_code
def yX11_isGame : MethodName := ⟨RX11, "isGame", "(I)Z"⟩
abbrev cX11_outingsAll : ByteArray := prog_13_method_30_code
def yX11_outingsAll : MethodName := ⟨RX11, "outingsAll", "()I"⟩
abbrev cX11_about : ByteArray := prog_13_method_31_code
def yX11_about : MethodName := ⟨RX11, "about", "(I)I"⟩
abbrev cX11_pointsOf : ByteArray := prog_13_method_32_code
def yX11_pointsOf : MethodName := ⟨RX11, "pointsOf", "(II)I"⟩
abbrev cX11_above : ByteArray := prog_13_method_33_code
def yX11_above : MethodName := ⟨RX11, "above", "(II)I"⟩
abbrev cX11_worthOf : ByteArray := prog_13_method_34_code
def yX11_worthOf : MethodName := ⟨RX11, "worthOf", "(III)I"⟩
abbrev cX11_riskOf : ByteArray := prog_13_method_35_code
def yX11_riskOf : MethodName := ⟨RX11, "riskOf", "(II)I"⟩
abbrev cX11_slot : ByteArray := prog_13_method_36_code
def yX11_slot : MethodName := ⟨RX11, "slot", "(II)I"⟩
abbrev cX11_who : ByteArray := prog_13_method_37_code
def yX11_who : MethodName := ⟨RX11, "who", "(II)I"⟩
abbrev cX11_throwsAt : ByteArray := prog_13_method_38_code
def yX11_throwsAt : MethodName := ⟨RX11, "throwsAt", "(II)I"⟩
abbrev cX11_leftOf : ByteArray := prog_13_method_39_code
def yX11_leftOf : MethodName := ⟨RX11, "leftOf", "(I)I"⟩
abbrev cX11_valueOf : ByteArray := prog_13_method_40_code
def yX11_valueOf : MethodName := ⟨RX11, "valueOf", "(I)I"⟩
abbrev cX11_isIn : ByteArray := prog_13_method_41_code
def yX11_isIn : MethodName := ⟨RX11, "isIn", "(II)Z"⟩
abbrev cX11_sumOf : ByteArray := prog_13_method_42_code
def yX11_sumOf : MethodName := ⟨RX11, "sumOf", "(II)I"⟩
abbrev cX11_arm : ByteArray := prog_13_method_43_code
def yX11_arm : MethodName := ⟨RX11, "arm", "(II)I"⟩
abbrev cX11_game : ByteArray := prog_13_method_44_code
def yX11_game : MethodName := ⟨RX11, "game", "(II)I"⟩
abbrev cX11_restOf : ByteArray := prog_13_method_45_code
def yX11_restOf : MethodName := ⟨RX11, "restOf", "(I)I"⟩
abbrev cX11_rest : ByteArray := prog_13_method_46_code
def yX11_rest : MethodName := ⟨RX11, "rest", "(I)I"⟩
abbrev cX11_laysDays : ByteArray := prog_13_method_47_code
def yX11_laysDays : MethodName := ⟨RX11, "laysDays", "(III)V"⟩
abbrev cX11_lately : ByteArray := prog_13_method_48_code
def yX11_lately : MethodName := ⟨RX11, "lately", "(I)I"⟩
abbrev cX11_isAllowed : ByteArray := prog_13_method_49_code
def yX11_isAllowed : MethodName := ⟨RX11, "isAllowed", "(III)Z"⟩
abbrev cX11_mostUpTo : ByteArray := prog_13_method_50_code
def yX11_mostUpTo : MethodName := ⟨RX11, "mostUpTo", "(III)I"⟩
abbrev cX11_mostOf : ByteArray := prog_13_method_51_code
def yX11_mostOf : MethodName := ⟨RX11, "mostOf", "(II)I"⟩
abbrev cX11_isAllowedAt : ByteArray := prog_13_method_52_code
def yX11_isAllowedAt : MethodName := ⟨RX11, "isAllowedAt", "(II)Z"⟩
abbrev cX11_outing : ByteArray := prog_13_method_53_code
def yX11_outing : MethodName := ⟨RX11, "outing", "(III)I"⟩
abbrev cX11_value : ByteArray := prog_13_method_54_code
def yX11_value : MethodName := ⟨RX11, "value", "()I"⟩
abbrev cX11_points : ByteArray := prog_13_method_55_code
def yX11_points : MethodName := ⟨RX11, "points", "(II)I"⟩
abbrev cX11_worth : ByteArray := prog_13_method_56_code
def yX11_worth : MethodName := ⟨RX11, "worth", "(III)I"⟩
abbrev cX11_most : ByteArray := prog_13_method_57_code
def yX11_most : MethodName := ⟨RX11, "most", "(II)I"⟩
abbrev cX11_when : ByteArray := prog_13_method_58_code
def yX11_when : MethodName := ⟨RX11, "when", "(III)I"⟩
abbrev cX11_fullOf : ByteArray := prog_13_method_59_code
def yX11_fullOf : MethodName := ⟨RX11, "fullOf", "(II)I"⟩
abbrev cX11_clash : ByteArray := prog_13_method_60_code
def yX11_clash : MethodName := ⟨RX11, "clash", "(III)I"⟩
abbrev cX11_ranked : ByteArray := prog_13_method_61_code
def yX11_ranked : MethodName := ⟨RX11, "ranked", "(II)I"⟩
abbrev cX11_extra : ByteArray := prog_13_method_62_code
def yX11_extra : MethodName := ⟨RX11, "extra", "(I)I"⟩
abbrev cX11_isRowAllowed : ByteArray := prog_13_method_63_code
def yX11_isRowAllowed : MethodName := ⟨RX11, "isRowAllowed", "(II)Z"⟩
abbrev cX11_rowWorth : ByteArray := prog_13_method_64_code
def yX11_rowWorth : MethodName := ⟨RX11, "rowWorth", "(II)I"⟩
abbrev cX11_nextRow : ByteArray := prog_13_method_65_code
def yX11_nextRow : MethodName := ⟨RX11, "nextRow", "(I)Z"⟩
abbrev cX11_laysBest : ByteArray := prog_13_method_66_code
def yX11_laysBest : MethodName := ⟨RX11, "laysBest", "(II)I"⟩
abbrev cX11_whyNotBest : ByteArray := prog_13_method_67_code
def yX11_whyNotBest : MethodName := ⟨RX11, "whyNotBest", "(II)I"⟩
abbrev cX11_best : ByteArray := prog_13_method_68_code
def yX11_best : MethodName := ⟨RX11, "best", "(II)I"⟩
abbrev cX11_bestOf : ByteArray := prog_13_method_69_code
def yX11_bestOf : MethodName := ⟨RX11, "bestOf", "(III)I"⟩
abbrev cX11_isAloneAllowed : ByteArray := prog_13_method_70_code
def yX11_isAloneAllowed : MethodName := ⟨RX11, "isAloneAllowed", "(III)Z"⟩
abbrev cX11_pair : ByteArray := prog_13_method_71_code
def yX11_pair : MethodName := ⟨RX11, "pai\x72", "(III)I"⟩
abbrev cX11_breachAt : ByteArray := prog_13_method_72_code
def yX11_breachAt : MethodName := ⟨RX11, "breachAt", "(I)I"⟩
abbrev cX11_breaches : ByteArray := prog_13_method_73_code
def yX11_breaches : MethodName := ⟨RX11, "breaches", "()I"⟩
abbrev cX11_breach : ByteArray := prog_13_method_74_code
def yX11_breach : MethodName := ⟨RX11, "breach", "(I)I"⟩
abbrev cX11_work : ByteArray := prog_13_method_75_code
def yX11_work : MethodName := ⟨RX11, "work", "(II)I"⟩
abbrev cX11_busiest : ByteArray := prog_13_method_76_code
def yX11_busiest : MethodName := ⟨RX11, "busiest", "(II)I"⟩
abbrev cX11_idle : ByteArray := prog_13_method_77_code
def yX11_idle : MethodName := ⟨RX11, "idle", "(I)I"⟩
abbrev cX11_gap : ByteArray := prog_13_method_78_code
def yX11_gap : MethodName := ⟨RX11, "gap", "(I)I"⟩
abbrev cX11_hands : ByteArray := prog_13_method_79_code
def yX11_hands : MethodName := ⟨RX11, "hands", "(IZ)I"⟩
abbrev cX11_bare : ByteArray := prog_13_method_80_code
def yX11_bare : MethodName := ⟨RX11, "bare", "(I)I"⟩
abbrev cX11_common : ByteArray := prog_13_method_81_code
def yX11_common : MethodName := ⟨RX11, "common", "(JJ)J"⟩
abbrev cX11_sound : ByteArray := prog_13_method_82_code
def yX11_sound : MethodName := ⟨RX11, "sound", "(II)J"⟩
abbrev cX11_risk : ByteArray := prog_13_method_83_code
def yX11_risk : MethodName := ⟨RX11, "risk", "(I)I"⟩
abbrev cX11_goes : ByteArray := prog_13_method_84_code
def yX11_goes : MethodName := ⟨RX11, "goes", "(I)V"⟩
abbrev cX11_season : ByteArray := prog_13_method_85_code
def yX11_season : MethodName := ⟨RX11, "season", "(II)I"⟩
abbrev cX11_span : ByteArray := prog_13_method_86_code
def yX11_span : MethodName := ⟨RX11, "span", "(III)I"⟩
abbrev cX11_remembers : ByteArray := prog_13_method_87_code
def yX11_remembers : MethodName := ⟨RX11, "remembers", "()V"⟩
abbrev cX11_comes : ByteArray := prog_13_method_88_code
def yX11_comes : MethodName := ⟨RX11, "comes", "(III)V"⟩
abbrev cX11_put : ByteArray := prog_13_method_89_code
def yX11_put : MethodName := ⟨RX11, "put", "(IIIZ)I"⟩
abbrev cX11_take : ByteArray := prog_13_method_90_code
def yX11_take : MethodName := ⟨RX11, "take", "(II)I"⟩
abbrev cX11_shift : ByteArray := prog_13_method_91_code
def yX11_shift : MethodName := ⟨RX11, "shift", "(III)I"⟩
abbrev cX11_exchanges : ByteArray := prog_13_method_92_code
def yX11_exchanges : MethodName := ⟨RX11, "exchanges", "(IIII)V"⟩
abbrev cX11_swap : ByteArray := prog_13_method_93_code
def yX11_swap : MethodName := ⟨RX11, "swap", "(IIII)Z"⟩
abbrev cX11_laysGain : ByteArray := prog_13_method_94_code
def yX11_laysGain : MethodName := ⟨RX11, "laysGain", "()Z"⟩
abbrev cX11_better : ByteArray := prog_13_method_95_code
def yX11_better : MethodName := ⟨RX11, "bette\x72", "()I"⟩
abbrev cX11_fills : ByteArray := prog_13_method_96_code
def yX11_fills : MethodName := ⟨RX11, "fills", "(I)I"⟩
abbrev cX11_fill : ByteArray := prog_13_method_97_code
def yX11_fill : MethodName := ⟨RX11, "fill", "(I)I"⟩
abbrev cX11_fillAll : ByteArray := prog_13_method_98_code
def yX11_fillAll : MethodName := ⟨RX11, "fillAll", "()I"⟩
abbrev cX11_laid : ByteArray := prog_13_method_99_code
def yX11_laid : MethodName := ⟨RX11, "laid", "(II)I"⟩
abbrev cX11_canBecome : ByteArray := prog_13_method_100_code
def yX11_canBecome : MethodName := ⟨RX11, "canBecome", "(III)Z"⟩
abbrev cX11_become : ByteArray := prog_13_method_101_code
def yX11_become : MethodName := ⟨RX11, "become", "(III)I"⟩
abbrev cX11_rule : ByteArray := prog_13_method_102_code
def yX11_rule : MethodName := ⟨RX11, "rule", "(II)I"⟩
abbrev cX11_rests : ByteArray := prog_13_method_103_code
def yX11_rests : MethodName := ⟨RX11, "rests", "(II)I"⟩
abbrev cX11_undo : ByteArray := prog_13_method_104_code
def yX11_undo : MethodName := ⟨RX11, "undo", "()I"⟩
abbrev cX11_named : ByteArray := prog_13_method_105_code
def yX11_named : MethodName := ⟨RX11, "named", "(I)I"⟩
abbrev cX11_size : ByteArray := prog_13_method_106_code
def yX11_size : MethodName := ⟨RX11, "size", "()I"⟩
abbrev cX11_trouble : ByteArray := prog_13_method_107_code
def yX11_trouble : MethodName := ⟨RX11, "trouble", "()I"⟩
def RJx145de : String := "java/io/Serializable"
def TJx145de : u_T := fun k => match k with
  | _ => ("", "", "", false)
def tyJx145de : Nat → FieldType := fun k => match k with
  | _ => .int
abbrev wsJx145de0 : List Cond := u_ws RJx145de TJx145de 0
theorem nmJx145de : ∀ a, a < 0 → ∀ b, b < 0 → a ≠ b → (TJx145de a).2.1 ≠ (TJx145de b).2.1 := by decide +kernel
theorem tyJx145de_ok : ∀ k, k < 0 → parseFieldDescriptor (TJx145de k).2.2.1 = some (tyJx145de k) := by decide +kernel
def RJx9f9b0 : String := "java/lang/CharSequence"
def TJx9f9b0 : u_T := fun k => match k with
  | _ => ("", "", "", false)
def tyJx9f9b0 : Nat → FieldType := fun k => match k with
  | _ => .int
abbrev wsJx9f9b00 : List Cond := u_ws RJx9f9b0 TJx9f9b0 0
theorem nmJx9f9b0 : ∀ a, a < 0 → ∀ b, b < 0 → a ≠ b → (TJx9f9b0 a).2.1 ≠ (TJx9f9b0 b).2.1 := by decide +kernel
theorem tyJx9f9b0_ok : ∀ k, k < 0 → parseFieldDescriptor (TJx9f9b0 k).2.2.1 = some (tyJx9f9b0 k) := by decide +kernel
def RJxb160c : String := "java/lang/Comparable"
def TJxb160c : u_T := fun k => match k with
  | _ => ("", "", "", false)
def tyJxb160c : Nat → FieldType := fun k => match k with
  | _ => .int
abbrev wsJxb160c0 : List Cond := u_ws RJxb160c TJxb160c 0
theorem nmJxb160c : ∀ a, a < 0 → ∀ b, b < 0 → a ≠ b → (TJxb160c a).2.1 ≠ (TJxb160c b).2.1 := by decide +kernel
theorem tyJxb160c_ok : ∀ k, k < 0 → parseFieldDescriptor (TJxb160c k).2.2.1 = some (tyJxb160c k) := by decide +kernel
def RJ9 : String := "java/lang/Math"
def TJ9 : u_T := fun k => match k with
  | _ => ("", "", "", false)
def tyJ9 : Nat → FieldType := fun k => match k with
  | _ => .int
abbrev wsJ90 : List Cond := u_ws RJ9 TJ9 0
theorem nmJ9 : ∀ a, a < 0 → ∀ b, b < 0 → a ≠ b → (TJ9 a).2.1 ≠ (TJ9 b).2.1 := by decide +kernel
theorem tyJ9_ok : ∀ k, k < 0 → parseFieldDescriptor (TJ9 k).2.2.1 = some (tyJ9 k) := by decide +kernel
abbrev cJ9_max_7cf53 : ByteArray := prog_18_method_65_code
def yJ9_max_7cf53 : MethodName := ⟨RJ9, "max", "(II)I"⟩
abbrev cJ9_min_7cf53 : ByteArray := prog_18_method_69_code
def yJ9_min_7cf53 : MethodName := ⟨RJ9, "min", "(II)I"⟩
def RJ0 : String := "java/lang/String"
def TJ0 : u_T := fun k => match k with
  | _ => ("", "", "", false)
def tyJ0 : Nat → FieldType := fun k => match k with
  | _ => .int
abbrev wsJ00 : List Cond := u_ws RJ0 TJ0 0
theorem nmJ0 : ∀ a, a < 0 → ∀ b, b < 0 → a ≠ b → (TJ0 a).2.1 ≠ (TJ0 b).2.1 := by decide +kernel
theorem tyJ0_ok : ∀ k, k < 0 → parseFieldDescriptor (TJ0 k).2.2.1 = some (tyJ0 k) := by decide +kernel
abbrev cJ0_length_8abf5 : ByteArray := prog_20_method_54_code
def yJ0_length_8abf5 : MethodName := ⟨RJ0, "length", "()I"⟩
abbrev cJ0_charAt_5068e : ByteArray := prog_20_method_56_code
def yJ0_charAt_5068e : MethodName := ⟨RJ0, "charAt", "(I)C"⟩
abbrev cJ0_coder_7d493 : ByteArray := prog_20_method_152_code
def yJ0_coder_7d493 : MethodName := ⟨RJ0, "code\x72", "()B"⟩
abbrev cJ0_isLatin1_aae02 : ByteArray := prog_20_method_154_code
def yJ0_isLatin1_aae02 : MethodName := ⟨RJ0, "isLatin1", "()Z"⟩
abbrev cJ0_checkIndex_df160 : ByteArray := prog_20_method_155_code
def yJ0_checkIndex_df160 : MethodName := ⟨RJ0, "checkIndex", "(II)V"⟩
def RJ1 : String := "java/lang/StringLatin1"
def TJ1 : u_T := fun k => match k with
  | _ => ("", "", "", false)
def tyJ1 : Nat → FieldType := fun k => match k with
  | _ => .int
abbrev wsJ10 : List Cond := u_ws RJ1 TJ1 0
theorem nmJ1 : ∀ a, a < 0 → ∀ b, b < 0 → a ≠ b → (TJ1 a).2.1 ≠ (TJ1 b).2.1 := by decide +kernel
theorem tyJ1_ok : ∀ k, k < 0 → parseFieldDescriptor (TJ1 k).2.2.1 = some (tyJ1 k) := by decide +kernel
abbrev cJ1_charAt_3b067 : ByteArray := prog_21_method_2_code
def yJ1_charAt_3b067 : MethodName := ⟨RJ1, "charAt", "([BI)C"⟩
def RJ2 : String := "java/lang/StringUTF16"
def TJ2 : u_T := fun k => match k with
  | _ => ("", "", "", false)
def tyJ2 : Nat → FieldType := fun k => match k with
  | _ => .int
abbrev wsJ20 : List Cond := u_ws RJ2 TJ2 0
theorem nmJ2 : ∀ a, a < 0 → ∀ b, b < 0 → a ≠ b → (TJ2 a).2.1 ≠ (TJ2 b).2.1 := by decide +kernel
theorem tyJ2_ok : ∀ k, k < 0 → parseFieldDescriptor (TJ2 k).2.2.1 = some (tyJ2 k) := by decide +kernel
abbrev cJ2_getChar_3b067 : ByteArray := prog_22_method_5_code
def yJ2_getChar_3b067 : MethodName := ⟨RJ2, "getCha\x72", "([BI)C"⟩
abbrev cJ2_length_9d52b : ByteArray := prog_22_method_6_code
def yJ2_length_9d52b : MethodName := ⟨RJ2, "length", "([B)I"⟩
abbrev cJ2_charAt_3b067 : ByteArray := prog_22_method_83_code
def yJ2_charAt_3b067 : MethodName := ⟨RJ2, "charAt", "([BI)C"⟩
abbrev cJ2_checkIndex_2214a : ByteArray := prog_22_method_91_code
def yJ2_checkIndex_2214a : MethodName := ⟨RJ2, "checkIndex", "(I[B)V"⟩
def RJ10 : String := "java/lang/System"
def TJ10 : u_T := fun k => match k with
  | _ => ("", "", "", false)
def tyJ10 : Nat → FieldType := fun k => match k with
  | _ => .int
abbrev wsJ100 : List Cond := u_ws RJ10 TJ10 0
theorem nmJ10 : ∀ a, a < 0 → ∀ b, b < 0 → a ≠ b → (TJ10 a).2.1 ≠ (TJ10 b).2.1 := by decide +kernel
theorem tyJ10_ok : ∀ k, k < 0 → parseFieldDescriptor (TJ10 k).2.2.1 = some (tyJ10 k) := by decide +kernel
def RJxfd54e : String := "java/lang/constant/Constable"
def TJxfd54e : u_T := fun k => match k with
  | _ => ("", "", "", false)
def tyJxfd54e : Nat → FieldType := fun k => match k with
  | _ => .int
abbrev wsJxfd54e0 : List Cond := u_ws RJxfd54e TJxfd54e 0
theorem nmJxfd54e : ∀ a, a < 0 → ∀ b, b < 0 → a ≠ b → (TJxfd54e a).2.1 ≠ (TJxfd54e b).2.1 := by decide +kernel
theorem tyJxfd54e_ok : ∀ k, k < 0 → parseFieldDescriptor (TJxfd54e k).2.2.1 = some (tyJxfd54e k) := by decide +kernel
def RJx3cf43 : String := "java/lang/constant/ConstantDesc"
def TJx3cf43 : u_T := fun k => match k with
  | _ => ("", "", "", false)
def tyJx3cf43 : Nat → FieldType := fun k => match k with
  | _ => .int
abbrev wsJx3cf430 : List Cond := u_ws RJx3cf43 TJx3cf43 0
theorem nmJx3cf43 : ∀ a, a < 0 → ∀ b, b < 0 → a ≠ b → (TJx3cf43 a).2.1 ≠ (TJx3cf43 b).2.1 := by decide +kernel
theorem tyJx3cf43_ok : ∀ k, k < 0 → parseFieldDescriptor (TJx3cf43 k).2.2.1 = some (tyJx3cf43 k) := by decide +kernel
def RJ3 : String := "jdk/internal/util/Preconditions"
def TJ3 : u_T := fun k => match k with
  | _ => ("", "", "", false)
def tyJ3 : Nat → FieldType := fun k => match k with
  | _ => .int
abbrev wsJ30 : List Cond := u_ws RJ3 TJ3 0
theorem nmJ3 : ∀ a, a < 0 → ∀ b, b < 0 → a ≠ b → (TJ3 a).2.1 ≠ (TJ3 b).2.1 := by decide +kernel
theorem tyJ3_ok : ∀ k, k < 0 → parseFieldDescriptor (TJ3 k).2.2.1 = some (tyJ3 k) := by decide +kernel
abbrev cJ3_checkIndex_8e157 : ByteArray := prog_28_method_11_code
def yJ3_checkIndex_8e157 : MethodName := ⟨RJ3, "checkIndex", "(IILjava/util/function/BiFunction;)I"⟩
def RL : String := "ThrowArmsLaw"
abbrev cL_named : ByteArray := method_3_code
def yL_named : MethodName := ⟨RL, "named", "(LThrowArms;I[J)I"⟩
abbrev cL_law : ByteArray := code
def yL_law : MethodName := ⟨RL, "law", "([I)Z"⟩
abbrev vwCl : List vw_C := [(RX0, TX0, 11), (RX1, TX1, 2), (RX2, TX2, 9), (RX3, TX3, 3), (RX4, TX4, 5), (RX5, TX5, 4), (RX6, TX6, 5), (RX7, TX7, 8), (RX8, TX8, 8), (RX9, TX9, 10), (RX10, TX10, 13), (RX11, TX11, 28)]
end
section
abbrev TT : List Cond := lw_tbl.filter goodWord
theorem TT_in : GoodIn lw_tbl TT := fun w h => ⟨(List.mem_filter.mp h).1, good_of_word (List.mem_filter.mp h).2⟩
theorem TT_TT : GoodIn TT TT := fun w h => ⟨h, good_of_word (List.mem_filter.mp h).2⟩
theorem tc1 {w : Cond} (h : w ∈ tables_1_1) (g : goodWord w = true) : w ∈ TT := List.mem_filter.mpr ⟨List.mem_append_right _ (List.mem_append_left _ h), g⟩
theorem tc2 {w : Cond} (h : w ∈ tables_1_2) (g : goodWord w = true) : w ∈ TT := List.mem_filter.mpr ⟨List.mem_append_right _ (List.mem_append_right _ (List.mem_append_left _ h)), g⟩
theorem tc3 {w : Cond} (h : w ∈ tables_1_3) (g : goodWord w = true) : w ∈ TT := List.mem_filter.mpr ⟨List.mem_append_right _ (List.mem_append_right _ (List.mem_append_right _ (List.mem_append_left _ h))), g⟩
theorem tc4 {w : Cond} (h : w ∈ tables_1_4) (g : goodWord w = true) : w ∈ TT := List.mem_filter.mpr ⟨List.mem_append_right _ (List.mem_append_right _ (List.mem_append_right _ (List.mem_append_right _ (List.mem_append_left _ h)))), g⟩
theorem tc5 {w : Cond} (h : w ∈ tables_1_5) (g : goodWord w = true) : w ∈ TT := List.mem_filter.mpr ⟨List.mem_append_right _ (List.mem_append_right _ (List.mem_append_right _ (List.mem_append_right _ (List.mem_append_right _ (List.mem_append_left _ h))))), g⟩
theorem tc6 {w : Cond} (h : w ∈ tables_1_6) (g : goodWord w = true) : w ∈ TT := List.mem_filter.mpr ⟨List.mem_append_right _ (List.mem_append_right _ (List.mem_append_right _ (List.mem_append_right _ (List.mem_append_right _ (List.mem_append_right _ (List.mem_append_left _ h)))))), g⟩
theorem tc7 {w : Cond} (h : w ∈ tables_1_7) (g : goodWord w = true) : w ∈ TT := List.mem_filter.mpr ⟨List.mem_append_right _ (List.mem_append_right _ (List.mem_append_right _ (List.mem_append_right _ (List.mem_append_right _ (List.mem_append_right _ (List.mem_append_right _ (List.mem_append_left _ h))))))), g⟩
theorem tc8 {w : Cond} (h : w ∈ tables_1_8) (g : goodWord w = true) : w ∈ TT := List.mem_filter.mpr ⟨List.mem_append_right _ (List.mem_append_right _ (List.mem_append_right _ (List.mem_append_right _ (List.mem_append_right _ (List.mem_append_right _ (List.mem_append_right _ (List.mem_append_right _ (h)))))))), g⟩
theorem tcp {w : Cond} (h : w ∈ k2_sels lw_privs) (g : goodWord w = true) : w ∈ TT := List.mem_filter.mpr ⟨List.mem_append_left _ h, g⟩
theorem tw1_0 : (Jvm.Cond.initialized "ThrowArmsLaw") ∈ TT := tc1 (List.mem_of_getElem? (i := 0) rfl) rfl
theorem tw1_1 : (Jvm.Cond.initialized "ThrowArms") ∈ TT := tc1 (List.mem_of_getElem? (i := 1) rfl) rfl
theorem tw1_2 : (Jvm.Cond.initialized "ThrowArms$Tape") ∈ TT := tc1 (List.mem_of_getElem? (i := 2) rfl) rfl
theorem tw1_3 : (Jvm.Cond.initialized "ThrowArms$Reade\x72") ∈ TT := tc1 (List.mem_of_getElem? (i := 3) rfl) rfl
theorem tw1_4 : (Jvm.Cond.initialized "ThrowArms$Told") ∈ TT := tc1 (List.mem_of_getElem? (i := 4) rfl) rfl
theorem tw1_5 : (Jvm.Cond.initialized "ThrowArms$Plan") ∈ TT := tc1 (List.mem_of_getElem? (i := 5) rfl) rfl
theorem tw1_6 : (Jvm.Cond.initialized "ThrowArms$Book") ∈ TT := tc1 (List.mem_of_getElem? (i := 6) rfl) rfl
theorem tw1_7 : (Jvm.Cond.initialized "ThrowArms$Diary") ∈ TT := tc1 (List.mem_of_getElem? (i := 7) rfl) rfl
theorem tw1_8 : (Jvm.Cond.initialized "ThrowArms$Best") ∈ TT := tc1 (List.mem_of_getElem? (i := 8) rfl) rfl
theorem tw1_9 : (Jvm.Cond.initialized "ThrowArms$Choose\x72") ∈ TT := tc1 (List.mem_of_getElem? (i := 9) rfl) rfl
theorem tw1_10 : (Jvm.Cond.initialized "ThrowArms$Season") ∈ TT := tc1 (List.mem_of_getElem? (i := 10) rfl) rfl
theorem tw1_11 : (Jvm.Cond.initialized "ThrowArms$History") ∈ TT := tc1 (List.mem_of_getElem? (i := 11) rfl) rfl
theorem tw1_12 : (Jvm.Cond.initialized "ThrowArmsModel") ∈ TT := tc1 (List.mem_of_getElem? (i := 12) rfl) rfl
theorem tw1_13 : (Jvm.Cond.initialized "java/lang/System") ∈ TT := tc1 (List.mem_of_getElem? (i := 13) rfl) rfl
theorem tw1_14 : (Jvm.Cond.initialized "java/lang/Math") ∈ TT := tc1 (List.mem_of_getElem? (i := 14) rfl) rfl
theorem tw1_15 : (Jvm.Cond.initialized "java/lang/String") ∈ TT := tc1 (List.mem_of_getElem? (i := 15) rfl) rfl
theorem tw1_16 : (Jvm.Cond.initialized "java/lang/StringLatin1") ∈ TT := tc1 (List.mem_of_getElem? (i := 16) rfl) rfl
theorem tw1_17 : (Jvm.Cond.initialized "jdk/internal/util/Preconditions") ∈ TT := tc1 (List.mem_of_getElem? (i := 17) rfl) rfl
theorem tw1_18 : (Jvm.Cond.initialized "java/lang/StringUTF16") ∈ TT := tc1 (List.mem_of_getElem? (i := 18) rfl) rfl
theorem tw1_19 : (Jvm.Cond.initialized "java/lang/Throwable") ∈ TT := tc1 (List.mem_of_getElem? (i := 19) rfl) rfl
theorem tw1_20 : (Jvm.Cond.initialized "java/lang/Exception") ∈ TT := tc1 (List.mem_of_getElem? (i := 20) rfl) rfl
theorem tw1_21 : (Jvm.Cond.initialized "java/lang/RuntimeException") ∈ TT := tc1 (List.mem_of_getElem? (i := 21) rfl) rfl
theorem tw1_22 : (Jvm.Cond.initialized "java/util/NoSuchElementException") ∈ TT := tc1 (List.mem_of_getElem? (i := 22) rfl) rfl
theorem tw1_23 : (Jvm.Cond.classLink "ThrowArmsLaw" (8 : Nat) "ThrowArms") ∈ TT := tc1 (List.mem_of_getElem? (i := 23) rfl) rfl
theorem tw1_24 : (Jvm.Cond.instantiable "ThrowArms" (13 : Nat)) ∈ TT := tc1 (List.mem_of_getElem? (i := 24) rfl) rfl
theorem tw1_25 : (Jvm.Cond.methodLink "ThrowArmsLaw" (15 : Nat) ({ cls := "ThrowArms", name := "<init>", desc := "()V" } : Jvm.MethodName)) ∈ TT := tc1 (List.mem_of_getElem? (i := 25) rfl) rfl
theorem tw1_26 : (Jvm.Cond.instanceMethod ({ cls := "ThrowArms", name := "<init>", desc := "()V" } : Jvm.MethodName)) ∈ TT := tc1 (List.mem_of_getElem? (i := 26) rfl) rfl
theorem tw1_27 : (Jvm.Cond.code ({ cls := "ThrowArms", name := "<init>", desc := "()V" } : Jvm.MethodName) prog_1_method_1_code (1 : Nat) (Option.none : Option Jvm.ClassFile.FieldType)) ∈ TT := tc1 (List.mem_of_getElem? (i := 27) rfl) rfl
theorem tw1_28 : (Jvm.Cond.methodLink "ThrowArms" (3 : Nat) ({ cls := "java/lang/Object", name := "<init>", desc := "()V" } : Jvm.MethodName)) ∈ TT := tc1 (List.mem_of_getElem? (i := 28) rfl) rfl
theorem tw1_29 : (Jvm.Cond.instanceMethod ({ cls := "java/lang/Object", name := "<init>", desc := "()V" } : Jvm.MethodName)) ∈ TT := tc1 (List.mem_of_getElem? (i := 29) rfl) rfl
theorem tw1_30 : (Jvm.Cond.code ({ cls := "java/lang/Object", name := "<init>", desc := "()V" } : Jvm.MethodName) object_method_1_code (1 : Nat) (Option.none : Option Jvm.ClassFile.FieldType)) ∈ TT := tc1 (List.mem_of_getElem? (i := 30) rfl) rfl
theorem tw1_31 : (Jvm.Cond.classLink "ThrowArms" (9 : Nat) "ThrowArms$Tape") ∈ TT := tc1 (List.mem_of_getElem? (i := 31) rfl) rfl
theorem tw1_32 : (Jvm.Cond.instantiable "ThrowArms$Tape" (8 : Nat)) ∈ TT := tc1 (List.mem_of_getElem? (i := 32) rfl) rfl
theorem tw1_34 : (Jvm.Cond.instanceMethod ({ cls := "ThrowArms$Tape", name := "<init>", desc := "()V" } : Jvm.MethodName)) ∈ TT := tc1 (List.mem_of_getElem? (i := 34) rfl) rfl
theorem tw1_35 : (Jvm.Cond.code ({ cls := "ThrowArms$Tape", name := "<init>", desc := "()V" } : Jvm.MethodName) prog_10_method_1_code (1 : Nat) (Option.none : Option Jvm.ClassFile.FieldType)) ∈ TT := tc1 (List.mem_of_getElem? (i := 35) rfl) rfl
theorem tw1_36 : (Jvm.Cond.methodLink "ThrowArms$Tape" (3 : Nat) ({ cls := "java/lang/Object", name := "<init>", desc := "()V" } : Jvm.MethodName)) ∈ TT := tc1 (List.mem_of_getElem? (i := 36) rfl) rfl
theorem tw1_37 : (Jvm.Cond.fieldLink "ThrowArms$Tape" (9 : Nat) "ThrowArms$Tape" "bytes" "[B") ∈ TT := tc1 (List.mem_of_getElem? (i := 37) rfl) rfl
theorem tw1_38 : (Jvm.Cond.fieldLink "ThrowArms$Tape" (15 : Nat) "ThrowArms$Tape" "length" "I") ∈ TT := tc1 (List.mem_of_getElem? (i := 38) rfl) rfl
theorem tw1_39 : (Jvm.Cond.fieldLink "ThrowArms" (97 : Nat) "ThrowArms$Tape" "length" "I") ∈ TT := tc1 (List.mem_of_getElem? (i := 39) rfl) rfl
theorem tw1_40 : (Jvm.Cond.fieldLink "ThrowArms$Tape" (19 : Nat) "ThrowArms$Tape" "limit" "I") ∈ TT := tc1 (List.mem_of_getElem? (i := 40) rfl) rfl
theorem tw1_41 : (Jvm.Cond.fieldLink "ThrowArms$Tape" (22 : Nat) "ThrowArms$Tape" "at" "I") ∈ TT := tc1 (List.mem_of_getElem? (i := 41) rfl) rfl
theorem tw1_42 : (Jvm.Cond.fieldLink "ThrowArms$Tape" (25 : Nat) "ThrowArms$Tape" "kind" "I") ∈ TT := tc1 (List.mem_of_getElem? (i := 42) rfl) rfl
theorem tw1_43 : (Jvm.Cond.fieldLink "ThrowArms$Reade\x72" (49 : Nat) "ThrowArms$Tape" "kind" "I") ∈ TT := tc1 (List.mem_of_getElem? (i := 43) rfl) rfl
theorem tw1_44 : (Jvm.Cond.fieldLink "ThrowArms$Tape" (28 : Nat) "ThrowArms$Tape" "start" "I") ∈ TT := tc1 (List.mem_of_getElem? (i := 44) rfl) rfl
theorem tw1_45 : (Jvm.Cond.fieldLink "ThrowArms$Reade\x72" (62 : Nat) "ThrowArms$Tape" "start" "I") ∈ TT := tc1 (List.mem_of_getElem? (i := 45) rfl) rfl
theorem tw1_46 : (Jvm.Cond.fieldLink "ThrowArms$Tape" (31 : Nat) "ThrowArms$Tape" "numbe\x72" "I") ∈ TT := tc1 (List.mem_of_getElem? (i := 46) rfl) rfl
theorem tw1_47 : (Jvm.Cond.fieldLink "ThrowArms$Reade\x72" (111 : Nat) "ThrowArms$Tape" "numbe\x72" "I") ∈ TT := tc1 (List.mem_of_getElem? (i := 47) rfl) rfl
theorem tw1_48 : (Jvm.Cond.fieldLink "ThrowArms$Tape" (34 : Nat) "ThrowArms$Tape" "code" "J") ∈ TT := tc1 (List.mem_of_getElem? (i := 48) rfl) rfl
theorem tw1_49 : (Jvm.Cond.fieldLink "ThrowArms$Reade\x72" (119 : Nat) "ThrowArms$Tape" "code" "J") ∈ TT := tc1 (List.mem_of_getElem? (i := 49) rfl) rfl
theorem tw1_50 : (Jvm.Cond.laysFinal "ThrowArms$Tape" "ThrowArms$Tape" "bytes" "[B") ∈ TT := tc1 (List.mem_of_getElem? (i := 50) rfl) rfl
theorem tw1_52 : (Jvm.Cond.lays "ThrowArms$Tape" "ThrowArms$Tape" "length" "I") ∈ TT := tc1 (List.mem_of_getElem? (i := 52) rfl) rfl
theorem tw1_54 : (Jvm.Cond.lays "ThrowArms$Tape" "ThrowArms$Tape" "limit" "I") ∈ TT := tc1 (List.mem_of_getElem? (i := 54) rfl) rfl
theorem tw1_56 : (Jvm.Cond.lays "ThrowArms$Tape" "ThrowArms$Tape" "at" "I") ∈ TT := tc1 (List.mem_of_getElem? (i := 56) rfl) rfl
theorem tw1_58 : (Jvm.Cond.lays "ThrowArms$Tape" "ThrowArms$Tape" "kind" "I") ∈ TT := tc1 (List.mem_of_getElem? (i := 58) rfl) rfl
theorem tw1_60 : (Jvm.Cond.lays "ThrowArms$Tape" "ThrowArms$Tape" "start" "I") ∈ TT := tc1 (List.mem_of_getElem? (i := 60) rfl) rfl
theorem tw1_62 : (Jvm.Cond.lays "ThrowArms$Tape" "ThrowArms$Tape" "numbe\x72" "I") ∈ TT := tc1 (List.mem_of_getElem? (i := 62) rfl) rfl
theorem tw1_64 : (Jvm.Cond.lays "ThrowArms$Tape" "ThrowArms$Tape" "code" "J") ∈ TT := tc1 (List.mem_of_getElem? (i := 64) rfl) rfl
theorem tw1_67 : (Jvm.Cond.arrayClass Jvm.ClassFile.FieldType.byte) ∈ TT := tc1 (List.mem_of_getElem? (i := 67) rfl) rfl
theorem tw1_68 : (Jvm.Cond.classLink "ThrowArms" (16 : Nat) "ThrowArms$Reade\x72") ∈ TT := tc1 (List.mem_of_getElem? (i := 68) rfl) rfl
theorem tw1_69 : (Jvm.Cond.instantiable "ThrowArms$Reade\x72" (5 : Nat)) ∈ TT := tc1 (List.mem_of_getElem? (i := 69) rfl) rfl
theorem tw1_70 : (Jvm.Cond.methodLink "ThrowArms" (18 : Nat) ({ cls := "ThrowArms$Reade\x72", name := "<init>", desc := "(LThrowArms$Tape;)V" } : Jvm.MethodName)) ∈ TT := tc1 (List.mem_of_getElem? (i := 70) rfl) rfl
theorem tw1_71 : (Jvm.Cond.instanceMethod ({ cls := "ThrowArms$Reade\x72", name := "<init>", desc := "(LThrowArms$Tape;)V" } : Jvm.MethodName)) ∈ TT := tc1 (List.mem_of_getElem? (i := 71) rfl) rfl
theorem tw1_72 : (Jvm.Cond.code ({ cls := "ThrowArms$Reade\x72", name := "<init>", desc := "(LThrowArms$Tape;)V" } : Jvm.MethodName) prog_8_method_1_code (2 : Nat) (Option.none : Option Jvm.ClassFile.FieldType)) ∈ TT := tc1 (List.mem_of_getElem? (i := 72) rfl) rfl
theorem tw1_73 : (Jvm.Cond.methodLink "ThrowArms$Reade\x72" (3 : Nat) ({ cls := "java/lang/Object", name := "<init>", desc := "()V" } : Jvm.MethodName)) ∈ TT := tc1 (List.mem_of_getElem? (i := 73) rfl) rfl
theorem tw1_74 : (Jvm.Cond.classLink "ThrowArms$Reade\x72" (15 : Nat) "ThrowArms$Told") ∈ TT := tc1 (List.mem_of_getElem? (i := 74) rfl) rfl
theorem tw1_75 : (Jvm.Cond.instantiable "ThrowArms$Told" (10 : Nat)) ∈ TT := tc1 (List.mem_of_getElem? (i := 75) rfl) rfl
theorem tw1_77 : (Jvm.Cond.instanceMethod ({ cls := "ThrowArms$Told", name := "<init>", desc := "()V" } : Jvm.MethodName)) ∈ TT := tc1 (List.mem_of_getElem? (i := 77) rfl) rfl
theorem tw1_78 : (Jvm.Cond.code ({ cls := "ThrowArms$Told", name := "<init>", desc := "()V" } : Jvm.MethodName) prog_11_method_1_code (1 : Nat) (Option.none : Option Jvm.ClassFile.FieldType)) ∈ TT := tc1 (List.mem_of_getElem? (i := 78) rfl) rfl
theorem tw1_79 : (Jvm.Cond.methodLink "ThrowArms$Told" (3 : Nat) ({ cls := "java/lang/Object", name := "<init>", desc := "()V" } : Jvm.MethodName)) ∈ TT := tc1 (List.mem_of_getElem? (i := 79) rfl) rfl
theorem tw1_80 : (Jvm.Cond.fieldLink "ThrowArms$Told" (9 : Nat) "ThrowArms$Told" "arms" "I") ∈ TT := tc1 (List.mem_of_getElem? (i := 80) rfl) rfl
theorem tw1_81 : (Jvm.Cond.fieldLink "ThrowArms$Best" (60 : Nat) "ThrowArms$Told" "arms" "I") ∈ TT := tc1 (List.mem_of_getElem? (i := 81) rfl) rfl
theorem tw1_82 : (Jvm.Cond.fieldLink "ThrowArms$Choose\x72" (47 : Nat) "ThrowArms$Told" "arms" "I") ∈ TT := tc1 (List.mem_of_getElem? (i := 82) rfl) rfl
theorem tw1_83 : (Jvm.Cond.fieldLink "ThrowArms$Reade\x72" (52 : Nat) "ThrowArms$Told" "arms" "I") ∈ TT := tc1 (List.mem_of_getElem? (i := 83) rfl) rfl
theorem tw1_84 : (Jvm.Cond.fieldLink "ThrowArms" (148 : Nat) "ThrowArms$Told" "arms" "I") ∈ TT := tc1 (List.mem_of_getElem? (i := 84) rfl) rfl
theorem tw1_85 : (Jvm.Cond.fieldLink "ThrowArms$Told" (15 : Nat) "ThrowArms$Told" "names" "[J") ∈ TT := tc1 (List.mem_of_getElem? (i := 85) rfl) rfl
theorem tw1_86 : (Jvm.Cond.fieldLink "ThrowArms$Reade\x72" (127 : Nat) "ThrowArms$Told" "names" "[J") ∈ TT := tc1 (List.mem_of_getElem? (i := 86) rfl) rfl
theorem tw1_87 : (Jvm.Cond.fieldLink "ThrowArms$Told" (19 : Nat) "ThrowArms$Told" "hands" "[I") ∈ TT := tc1 (List.mem_of_getElem? (i := 87) rfl) rfl
theorem tw1_88 : (Jvm.Cond.fieldLink "ThrowArms$Book" (25 : Nat) "ThrowArms$Told" "hands" "[I") ∈ TT := tc1 (List.mem_of_getElem? (i := 88) rfl) rfl
theorem tw1_89 : (Jvm.Cond.fieldLink "ThrowArms$Reade\x72" (135 : Nat) "ThrowArms$Told" "hands" "[I") ∈ TT := tc1 (List.mem_of_getElem? (i := 89) rfl) rfl
theorem tw1_90 : (Jvm.Cond.fieldLink "ThrowArms" (169 : Nat) "ThrowArms$Told" "hands" "[I") ∈ TT := tc1 (List.mem_of_getElem? (i := 90) rfl) rfl
theorem tw1_91 : (Jvm.Cond.fieldLink "ThrowArms$Told" (23 : Nat) "ThrowArms$Told" "traits" "[I") ∈ TT := tc1 (List.mem_of_getElem? (i := 91) rfl) rfl
theorem tw1_92 : (Jvm.Cond.fieldLink "ThrowArms$Told" (26 : Nat) "ThrowArms$Told" "games" "I") ∈ TT := tc1 (List.mem_of_getElem? (i := 92) rfl) rfl
theorem tw1_93 : (Jvm.Cond.fieldLink "ThrowArms$Season" (45 : Nat) "ThrowArms$Told" "games" "I") ∈ TT := tc1 (List.mem_of_getElem? (i := 93) rfl) rfl
theorem tw1_94 : (Jvm.Cond.fieldLink "ThrowArms$Reade\x72" (55 : Nat) "ThrowArms$Told" "games" "I") ∈ TT := tc1 (List.mem_of_getElem? (i := 94) rfl) rfl
theorem tw1_95 : (Jvm.Cond.fieldLink "ThrowArms" (135 : Nat) "ThrowArms$Told" "games" "I") ∈ TT := tc1 (List.mem_of_getElem? (i := 95) rfl) rfl
theorem tw1_96 : (Jvm.Cond.fieldLink "ThrowArms$Choose\x72" (97 : Nat) "ThrowArms$Told" "games" "I") ∈ TT := tc1 (List.mem_of_getElem? (i := 96) rfl) rfl
theorem tw1_97 : (Jvm.Cond.fieldLink "ThrowArms$Book" (67 : Nat) "ThrowArms$Told" "games" "I") ∈ TT := tc1 (List.mem_of_getElem? (i := 97) rfl) rfl
theorem tw1_98 : (Jvm.Cond.fieldLink "ThrowArms$Diary" (98 : Nat) "ThrowArms$Told" "games" "I") ∈ TT := tc1 (List.mem_of_getElem? (i := 98) rfl) rfl
theorem tw1_99 : (Jvm.Cond.fieldLink "ThrowArms$Told" (29 : Nat) "ThrowArms$Told" "facts" "[I") ∈ TT := tc1 (List.mem_of_getElem? (i := 99) rfl) rfl
theorem tw1_100 : (Jvm.Cond.fieldLink "ThrowArms$Reade\x72" (147 : Nat) "ThrowArms$Told" "facts" "[I") ∈ TT := tc1 (List.mem_of_getElem? (i := 100) rfl) rfl
theorem tw1_101 : (Jvm.Cond.fieldLink "ThrowArms$Told" (32 : Nat) "ThrowArms$Told" "bounds" "[I") ∈ TT := tc1 (List.mem_of_getElem? (i := 101) rfl) rfl
theorem tw1_102 : (Jvm.Cond.fieldLink "ThrowArms$Book" (32 : Nat) "ThrowArms$Told" "bounds" "[I") ∈ TT := tc1 (List.mem_of_getElem? (i := 102) rfl) rfl
theorem tw1_103 : (Jvm.Cond.fieldLink "ThrowArms$Season" (82 : Nat) "ThrowArms$Told" "bounds" "[I") ∈ TT := tc1 (List.mem_of_getElem? (i := 103) rfl) rfl
theorem tw1_104 : (Jvm.Cond.fieldLink "ThrowArms" (155 : Nat) "ThrowArms$Told" "bounds" "[I") ∈ TT := tc1 (List.mem_of_getElem? (i := 104) rfl) rfl
theorem tw1_105 : (Jvm.Cond.fieldLink "ThrowArms$Diary" (102 : Nat) "ThrowArms$Told" "bounds" "[I") ∈ TT := tc1 (List.mem_of_getElem? (i := 105) rfl) rfl
theorem tw1_106 : (Jvm.Cond.fieldLink "ThrowArms$Reade\x72" (165 : Nat) "ThrowArms$Told" "bounds" "[I") ∈ TT := tc1 (List.mem_of_getElem? (i := 106) rfl) rfl
theorem tw1_107 : (Jvm.Cond.fieldLink "ThrowArms$Told" (35 : Nat) "ThrowArms$Told" "restCount" "I") ∈ TT := tc1 (List.mem_of_getElem? (i := 107) rfl) rfl
theorem tw1_108 : (Jvm.Cond.fieldLink "ThrowArms" (159 : Nat) "ThrowArms$Told" "restCount" "I") ∈ TT := tc1 (List.mem_of_getElem? (i := 108) rfl) rfl
theorem tw1_109 : (Jvm.Cond.fieldLink "ThrowArms$Reade\x72" (150 : Nat) "ThrowArms$Told" "restCount" "I") ∈ TT := tc1 (List.mem_of_getElem? (i := 109) rfl) rfl
theorem tw1_110 : (Jvm.Cond.fieldLink "ThrowArms$Told" (38 : Nat) "ThrowArms$Told" "restFrom" "[I") ∈ TT := tc1 (List.mem_of_getElem? (i := 110) rfl) rfl
theorem tw1_111 : (Jvm.Cond.fieldLink "ThrowArms$Reade\x72" (153 : Nat) "ThrowArms$Told" "restFrom" "[I") ∈ TT := tc1 (List.mem_of_getElem? (i := 111) rfl) rfl
theorem tw1_112 : (Jvm.Cond.fieldLink "ThrowArms$Told" (41 : Nat) "ThrowArms$Told" "restDays" "[I") ∈ TT := tc1 (List.mem_of_getElem? (i := 112) rfl) rfl
theorem tw1_113 : (Jvm.Cond.fieldLink "ThrowArms$Reade\x72" (156 : Nat) "ThrowArms$Told" "restDays" "[I") ∈ TT := tc1 (List.mem_of_getElem? (i := 113) rfl) rfl
theorem tw1_114 : (Jvm.Cond.fieldLink "ThrowArms" (377 : Nat) "ThrowArms$Told" "restDays" "[I") ∈ TT := tc1 (List.mem_of_getElem? (i := 114) rfl) rfl
theorem tw1_115 : (Jvm.Cond.lays "ThrowArms$Told" "ThrowArms$Told" "arms" "I") ∈ TT := tc1 (List.mem_of_getElem? (i := 115) rfl) rfl
theorem tw1_117 : (Jvm.Cond.laysFinal "ThrowArms$Told" "ThrowArms$Told" "names" "[J") ∈ TT := tc1 (List.mem_of_getElem? (i := 117) rfl) rfl
theorem tw1_119 : (Jvm.Cond.laysFinal "ThrowArms$Told" "ThrowArms$Told" "hands" "[I") ∈ TT := tc1 (List.mem_of_getElem? (i := 119) rfl) rfl
theorem tw1_121 : (Jvm.Cond.laysFinal "ThrowArms$Told" "ThrowArms$Told" "traits" "[I") ∈ TT := tc1 (List.mem_of_getElem? (i := 121) rfl) rfl
theorem tw1_123 : (Jvm.Cond.lays "ThrowArms$Told" "ThrowArms$Told" "games" "I") ∈ TT := tc1 (List.mem_of_getElem? (i := 123) rfl) rfl
theorem tw1_125 : (Jvm.Cond.laysFinal "ThrowArms$Told" "ThrowArms$Told" "facts" "[I") ∈ TT := tc1 (List.mem_of_getElem? (i := 125) rfl) rfl
theorem tw1_127 : (Jvm.Cond.laysFinal "ThrowArms$Told" "ThrowArms$Told" "bounds" "[I") ∈ TT := tc1 (List.mem_of_getElem? (i := 127) rfl) rfl
theorem tw1_129 : (Jvm.Cond.lays "ThrowArms$Told" "ThrowArms$Told" "restCount" "I") ∈ TT := tc1 (List.mem_of_getElem? (i := 129) rfl) rfl
theorem tw1_131 : (Jvm.Cond.laysFinal "ThrowArms$Told" "ThrowArms$Told" "restFrom" "[I") ∈ TT := tc1 (List.mem_of_getElem? (i := 131) rfl) rfl
theorem tw1_133 : (Jvm.Cond.laysFinal "ThrowArms$Told" "ThrowArms$Told" "restDays" "[I") ∈ TT := tc1 (List.mem_of_getElem? (i := 133) rfl) rfl
theorem tw1_136 : (Jvm.Cond.arrayClass Jvm.ClassFile.FieldType.boolean) ∈ TT := tc1 (List.mem_of_getElem? (i := 136) rfl) rfl
theorem tw1_137 : (Jvm.Cond.arrayClass Jvm.ClassFile.FieldType.long) ∈ TT := tc1 (List.mem_of_getElem? (i := 137) rfl) rfl
theorem tw1_138 : (Jvm.Cond.arrayClass Jvm.ClassFile.FieldType.int) ∈ TT := tc1 (List.mem_of_getElem? (i := 138) rfl) rfl
theorem tw1_139 : (Jvm.Cond.fieldLink "ThrowArms$Reade\x72" (29 : Nat) "ThrowArms$Reade\x72" "tape" "LThrowArms$Tape;") ∈ TT := tc1 (List.mem_of_getElem? (i := 139) rfl) rfl
theorem tw1_140 : (Jvm.Cond.fieldLink "ThrowArms$Reade\x72" (9 : Nat) "ThrowArms$Reade\x72" "bounded" "[Z") ∈ TT := tc1 (List.mem_of_getElem? (i := 140) rfl) rfl
theorem tw1_141 : (Jvm.Cond.fieldLink "ThrowArms$Reade\x72" (18 : Nat) "ThrowArms$Reade\x72" "draft" "LThrowArms$Told;") ∈ TT := tc1 (List.mem_of_getElem? (i := 141) rfl) rfl
theorem tw1_142 : (Jvm.Cond.fieldLink "ThrowArms" (122 : Nat) "ThrowArms$Reade\x72" "draft" "LThrowArms$Told;") ∈ TT := tc1 (List.mem_of_getElem? (i := 142) rfl) rfl
theorem tw1_143 : (Jvm.Cond.fieldLink "ThrowArms$Reade\x72" (22 : Nat) "ThrowArms$Reade\x72" "numbe\x72" "I") ∈ TT := tc1 (List.mem_of_getElem? (i := 143) rfl) rfl
theorem tw1_144 : (Jvm.Cond.fieldLink "ThrowArms" (116 : Nat) "ThrowArms$Reade\x72" "numbe\x72" "I") ∈ TT := tc1 (List.mem_of_getElem? (i := 144) rfl) rfl
theorem tw1_145 : (Jvm.Cond.fieldLink "ThrowArms$Reade\x72" (26 : Nat) "ThrowArms$Reade\x72" "place" "I") ∈ TT := tc1 (List.mem_of_getElem? (i := 145) rfl) rfl
theorem tw1_146 : (Jvm.Cond.fieldLink "ThrowArms" (119 : Nat) "ThrowArms$Reade\x72" "place" "I") ∈ TT := tc1 (List.mem_of_getElem? (i := 146) rfl) rfl
theorem tw1_147 : (Jvm.Cond.laysFinal "ThrowArms$Reade\x72" "ThrowArms$Reade\x72" "tape" "LThrowArms$Tape;") ∈ TT := tc1 (List.mem_of_getElem? (i := 147) rfl) rfl
theorem tw1_149 : (Jvm.Cond.laysFinal "ThrowArms$Reade\x72" "ThrowArms$Reade\x72" "bounded" "[Z") ∈ TT := tc1 (List.mem_of_getElem? (i := 149) rfl) rfl
theorem tw1_151 : (Jvm.Cond.laysFinal "ThrowArms$Reade\x72" "ThrowArms$Reade\x72" "draft" "LThrowArms$Told;") ∈ TT := tc1 (List.mem_of_getElem? (i := 151) rfl) rfl
theorem tw1_153 : (Jvm.Cond.lays "ThrowArms$Reade\x72" "ThrowArms$Reade\x72" "numbe\x72" "I") ∈ TT := tc1 (List.mem_of_getElem? (i := 153) rfl) rfl
theorem tw1_155 : (Jvm.Cond.lays "ThrowArms$Reade\x72" "ThrowArms$Reade\x72" "place" "I") ∈ TT := tc1 (List.mem_of_getElem? (i := 155) rfl) rfl
theorem tw1_158 : (Jvm.Cond.classLink "ThrowArms" (25 : Nat) "ThrowArms$Told") ∈ TT := tc1 (List.mem_of_getElem? (i := 158) rfl) rfl
theorem tw1_160 : (Jvm.Cond.classLink "ThrowArms" (32 : Nat) "ThrowArms$Plan") ∈ TT := tc1 (List.mem_of_getElem? (i := 160) rfl) rfl
theorem tw1_161 : (Jvm.Cond.instantiable "ThrowArms$Plan" (4 : Nat)) ∈ TT := tc1 (List.mem_of_getElem? (i := 161) rfl) rfl
theorem tw1_163 : (Jvm.Cond.instanceMethod ({ cls := "ThrowArms$Plan", name := "<init>", desc := "()V" } : Jvm.MethodName)) ∈ TT := tc1 (List.mem_of_getElem? (i := 163) rfl) rfl
theorem tw1_164 : (Jvm.Cond.code ({ cls := "ThrowArms$Plan", name := "<init>", desc := "()V" } : Jvm.MethodName) prog_7_method_1_code (1 : Nat) (Option.none : Option Jvm.ClassFile.FieldType)) ∈ TT := tc1 (List.mem_of_getElem? (i := 164) rfl) rfl
theorem tw1_165 : (Jvm.Cond.methodLink "ThrowArms$Plan" (3 : Nat) ({ cls := "java/lang/Object", name := "<init>", desc := "()V" } : Jvm.MethodName)) ∈ TT := tc1 (List.mem_of_getElem? (i := 165) rfl) rfl
theorem tw1_166 : (Jvm.Cond.fieldLink "ThrowArms$Plan" (9 : Nat) "ThrowArms$Plan" "filled" "[I") ∈ TT := tc1 (List.mem_of_getElem? (i := 166) rfl) rfl
theorem tw1_167 : (Jvm.Cond.fieldLink "ThrowArms$Season" (54 : Nat) "ThrowArms$Plan" "filled" "[I") ∈ TT := tc1 (List.mem_of_getElem? (i := 167) rfl) rfl
theorem tw1_168 : (Jvm.Cond.fieldLink "ThrowArms$Choose\x72" (100 : Nat) "ThrowArms$Plan" "filled" "[I") ∈ TT := tc1 (List.mem_of_getElem? (i := 168) rfl) rfl
theorem tw1_169 : (Jvm.Cond.fieldLink "ThrowArms$Book" (61 : Nat) "ThrowArms$Plan" "filled" "[I") ∈ TT := tc1 (List.mem_of_getElem? (i := 169) rfl) rfl
theorem tw1_170 : (Jvm.Cond.fieldLink "ThrowArms$Diary" (84 : Nat) "ThrowArms$Plan" "filled" "[I") ∈ TT := tc1 (List.mem_of_getElem? (i := 170) rfl) rfl
theorem tw1_171 : (Jvm.Cond.fieldLink "ThrowArms" (193 : Nat) "ThrowArms$Plan" "filled" "[I") ∈ TT := tc1 (List.mem_of_getElem? (i := 171) rfl) rfl
theorem tw1_172 : (Jvm.Cond.fieldLink "ThrowArms$Plan" (15 : Nat) "ThrowArms$Plan" "whose" "[I") ∈ TT := tc1 (List.mem_of_getElem? (i := 172) rfl) rfl
theorem tw1_173 : (Jvm.Cond.fieldLink "ThrowArms$Plan" (18 : Nat) "ThrowArms$Plan" "thrown" "[I") ∈ TT := tc1 (List.mem_of_getElem? (i := 173) rfl) rfl
theorem tw1_174 : (Jvm.Cond.fieldLink "ThrowArms$Plan" (21 : Nat) "ThrowArms$Plan" "loads" "[I") ∈ TT := tc1 (List.mem_of_getElem? (i := 174) rfl) rfl
theorem tw1_175 : (Jvm.Cond.laysFinal "ThrowArms$Plan" "ThrowArms$Plan" "filled" "[I") ∈ TT := tc1 (List.mem_of_getElem? (i := 175) rfl) rfl
theorem tw1_177 : (Jvm.Cond.laysFinal "ThrowArms$Plan" "ThrowArms$Plan" "whose" "[I") ∈ TT := tc1 (List.mem_of_getElem? (i := 177) rfl) rfl
theorem tw1_179 : (Jvm.Cond.laysFinal "ThrowArms$Plan" "ThrowArms$Plan" "thrown" "[I") ∈ TT := tc1 (List.mem_of_getElem? (i := 179) rfl) rfl
theorem tw1_181 : (Jvm.Cond.laysFinal "ThrowArms$Plan" "ThrowArms$Plan" "loads" "[I") ∈ TT := tc1 (List.mem_of_getElem? (i := 181) rfl) rfl
theorem tw1_184 : (Jvm.Cond.classLink "ThrowArms" (39 : Nat) "ThrowArms$Book") ∈ TT := tc1 (List.mem_of_getElem? (i := 184) rfl) rfl
theorem tw1_185 : (Jvm.Cond.instantiable "ThrowArms$Book" (2 : Nat)) ∈ TT := tc1 (List.mem_of_getElem? (i := 185) rfl) rfl
theorem tw1_186 : (Jvm.Cond.methodLink "ThrowArms" (41 : Nat) ({ cls := "ThrowArms$Book", name := "<init>", desc := "(LThrowArms$Told;LThrowArms$Plan;)V" } : Jvm.MethodName)) ∈ TT := tc1 (List.mem_of_getElem? (i := 186) rfl) rfl
theorem tw1_187 : (Jvm.Cond.instanceMethod ({ cls := "ThrowArms$Book", name := "<init>", desc := "(LThrowArms$Told;LThrowArms$Plan;)V" } : Jvm.MethodName)) ∈ TT := tc1 (List.mem_of_getElem? (i := 187) rfl) rfl
theorem tw1_188 : (Jvm.Cond.code ({ cls := "ThrowArms$Book", name := "<init>", desc := "(LThrowArms$Told;LThrowArms$Plan;)V" } : Jvm.MethodName) prog_3_method_1_code (3 : Nat) (Option.none : Option Jvm.ClassFile.FieldType)) ∈ TT := tc1 (List.mem_of_getElem? (i := 188) rfl) rfl
theorem tw1_189 : (Jvm.Cond.methodLink "ThrowArms$Book" (3 : Nat) ({ cls := "java/lang/Object", name := "<init>", desc := "()V" } : Jvm.MethodName)) ∈ TT := tc1 (List.mem_of_getElem? (i := 189) rfl) rfl
theorem tw1_190 : (Jvm.Cond.fieldLink "ThrowArms$Book" (9 : Nat) "ThrowArms$Book" "told" "LThrowArms$Told;") ∈ TT := tc1 (List.mem_of_getElem? (i := 190) rfl) rfl
theorem tw1_191 : (Jvm.Cond.fieldLink "ThrowArms$Best" (54 : Nat) "ThrowArms$Book" "told" "LThrowArms$Told;") ∈ TT := tc1 (List.mem_of_getElem? (i := 191) rfl) rfl
theorem tw1_192 : (Jvm.Cond.fieldLink "ThrowArms$Choose\x72" (41 : Nat) "ThrowArms$Book" "told" "LThrowArms$Told;") ∈ TT := tc1 (List.mem_of_getElem? (i := 192) rfl) rfl
theorem tw1_193 : (Jvm.Cond.fieldLink "ThrowArms$Season" (39 : Nat) "ThrowArms$Book" "told" "LThrowArms$Told;") ∈ TT := tc1 (List.mem_of_getElem? (i := 193) rfl) rfl
theorem tw1_194 : (Jvm.Cond.fieldLink "ThrowArms$Diary" (57 : Nat) "ThrowArms$Book" "told" "LThrowArms$Told;") ∈ TT := tc1 (List.mem_of_getElem? (i := 194) rfl) rfl
theorem tw1_195 : (Jvm.Cond.fieldLink "ThrowArms$Book" (15 : Nat) "ThrowArms$Book" "plan" "LThrowArms$Plan;") ∈ TT := tc1 (List.mem_of_getElem? (i := 195) rfl) rfl
theorem tw1_196 : (Jvm.Cond.fieldLink "ThrowArms$Diary" (23 : Nat) "ThrowArms$Book" "plan" "LThrowArms$Plan;") ∈ TT := tc1 (List.mem_of_getElem? (i := 196) rfl) rfl
theorem tw1_197 : (Jvm.Cond.fieldLink "ThrowArms$Season" (50 : Nat) "ThrowArms$Book" "plan" "LThrowArms$Plan;") ∈ TT := tc1 (List.mem_of_getElem? (i := 197) rfl) rfl
theorem tw1_198 : (Jvm.Cond.fieldLink "ThrowArms$Choose\x72" (88 : Nat) "ThrowArms$Book" "plan" "LThrowArms$Plan;") ∈ TT := tc1 (List.mem_of_getElem? (i := 198) rfl) rfl
theorem tw1_199 : (Jvm.Cond.laysFinal "ThrowArms$Book" "ThrowArms$Book" "told" "LThrowArms$Told;") ∈ TT := tc1 (List.mem_of_getElem? (i := 199) rfl) rfl
theorem tw1_201 : (Jvm.Cond.laysFinal "ThrowArms$Book" "ThrowArms$Book" "plan" "LThrowArms$Plan;") ∈ TT := tc1 (List.mem_of_getElem? (i := 201) rfl) rfl
theorem tw1_204 : (Jvm.Cond.classLink "ThrowArms" (48 : Nat) "ThrowArms$Diary") ∈ TT := tc1 (List.mem_of_getElem? (i := 204) rfl) rfl
theorem tw1_205 : (Jvm.Cond.instantiable "ThrowArms$Diary" (3 : Nat)) ∈ TT := tc1 (List.mem_of_getElem? (i := 205) rfl) rfl
theorem tw1_206 : (Jvm.Cond.methodLink "ThrowArms" (50 : Nat) ({ cls := "ThrowArms$Diary", name := "<init>", desc := "(LThrowArms$Book;)V" } : Jvm.MethodName)) ∈ TT := tc1 (List.mem_of_getElem? (i := 206) rfl) rfl
theorem tw1_207 : (Jvm.Cond.instanceMethod ({ cls := "ThrowArms$Diary", name := "<init>", desc := "(LThrowArms$Book;)V" } : Jvm.MethodName)) ∈ TT := tc1 (List.mem_of_getElem? (i := 207) rfl) rfl
theorem tw1_208 : (Jvm.Cond.code ({ cls := "ThrowArms$Diary", name := "<init>", desc := "(LThrowArms$Book;)V" } : Jvm.MethodName) prog_5_method_1_code (2 : Nat) (Option.none : Option Jvm.ClassFile.FieldType)) ∈ TT := tc1 (List.mem_of_getElem? (i := 208) rfl) rfl
theorem tw1_209 : (Jvm.Cond.methodLink "ThrowArms$Diary" (3 : Nat) ({ cls := "java/lang/Object", name := "<init>", desc := "()V" } : Jvm.MethodName)) ∈ TT := tc1 (List.mem_of_getElem? (i := 209) rfl) rfl
theorem tw1_210 : (Jvm.Cond.fieldLink "ThrowArms$Diary" (19 : Nat) "ThrowArms$Diary" "book" "LThrowArms$Book;") ∈ TT := tc1 (List.mem_of_getElem? (i := 210) rfl) rfl
theorem tw1_211 : (Jvm.Cond.fieldLink "ThrowArms$Diary" (9 : Nat) "ThrowArms$Diary" "thrown" "[I") ∈ TT := tc1 (List.mem_of_getElem? (i := 211) rfl) rfl
theorem tw1_212 : (Jvm.Cond.fieldLink "ThrowArms$Diary" (15 : Nat) "ThrowArms$Diary" "owne\x72" "I") ∈ TT := tc1 (List.mem_of_getElem? (i := 212) rfl) rfl
theorem tw1_213 : (Jvm.Cond.laysFinal "ThrowArms$Diary" "ThrowArms$Diary" "book" "LThrowArms$Book;") ∈ TT := tc1 (List.mem_of_getElem? (i := 213) rfl) rfl
theorem tw1_215 : (Jvm.Cond.laysFinal "ThrowArms$Diary" "ThrowArms$Diary" "thrown" "[I") ∈ TT := tc1 (List.mem_of_getElem? (i := 215) rfl) rfl
theorem tw1_217 : (Jvm.Cond.lays "ThrowArms$Diary" "ThrowArms$Diary" "owne\x72" "I") ∈ TT := tc1 (List.mem_of_getElem? (i := 217) rfl) rfl
theorem tw1_220 : (Jvm.Cond.classLink "ThrowArms" (57 : Nat) "ThrowArms$Best") ∈ TT := tc1 (List.mem_of_getElem? (i := 220) rfl) rfl
theorem tw1_221 : (Jvm.Cond.instantiable "ThrowArms$Best" (11 : Nat)) ∈ TT := tc1 (List.mem_of_getElem? (i := 221) rfl) rfl
theorem tw1_222 : (Jvm.Cond.methodLink "ThrowArms" (59 : Nat) ({ cls := "ThrowArms$Best", name := "<init>", desc := "(LThrowArms$Book;LThrowArms$Diary;)V" } : Jvm.MethodName)) ∈ TT := tc1 (List.mem_of_getElem? (i := 222) rfl) rfl
theorem tw1_223 : (Jvm.Cond.instanceMethod ({ cls := "ThrowArms$Best", name := "<init>", desc := "(LThrowArms$Book;LThrowArms$Diary;)V" } : Jvm.MethodName)) ∈ TT := tc1 (List.mem_of_getElem? (i := 223) rfl) rfl
theorem tw1_224 : (Jvm.Cond.code ({ cls := "ThrowArms$Best", name := "<init>", desc := "(LThrowArms$Book;LThrowArms$Diary;)V" } : Jvm.MethodName) prog_2_method_1_code (3 : Nat) (Option.none : Option Jvm.ClassFile.FieldType)) ∈ TT := tc1 (List.mem_of_getElem? (i := 224) rfl) rfl
theorem tw1_225 : (Jvm.Cond.methodLink "ThrowArms$Best" (3 : Nat) ({ cls := "java/lang/Object", name := "<init>", desc := "()V" } : Jvm.MethodName)) ∈ TT := tc1 (List.mem_of_getElem? (i := 225) rfl) rfl
theorem tw1_226 : (Jvm.Cond.fieldLink "ThrowArms$Best" (40 : Nat) "ThrowArms$Best" "book" "LThrowArms$Book;") ∈ TT := tc1 (List.mem_of_getElem? (i := 226) rfl) rfl
theorem tw1_227 : (Jvm.Cond.fieldLink "ThrowArms$Best" (44 : Nat) "ThrowArms$Best" "diary" "LThrowArms$Diary;") ∈ TT := tc1 (List.mem_of_getElem? (i := 227) rfl) rfl
theorem tw1_228 : (Jvm.Cond.fieldLink "ThrowArms$Best" (9 : Nat) "ThrowArms$Best" "first" "I") ∈ TT := tc1 (List.mem_of_getElem? (i := 228) rfl) rfl
theorem tw1_229 : (Jvm.Cond.fieldLink "ThrowArms$Best" (15 : Nat) "ThrowArms$Best" "count" "I") ∈ TT := tc1 (List.mem_of_getElem? (i := 229) rfl) rfl
theorem tw1_230 : (Jvm.Cond.fieldLink "ThrowArms$Best" (18 : Nat) "ThrowArms$Best" "fits" "[I") ∈ TT := tc1 (List.mem_of_getElem? (i := 230) rfl) rfl
theorem tw1_231 : (Jvm.Cond.fieldLink "ThrowArms$Best" (22 : Nat) "ThrowArms$Best" "given" "[I") ∈ TT := tc1 (List.mem_of_getElem? (i := 231) rfl) rfl
theorem tw1_232 : (Jvm.Cond.fieldLink "ThrowArms$Best" (25 : Nat) "ThrowArms$Best" "gains" "[I") ∈ TT := tc1 (List.mem_of_getElem? (i := 232) rfl) rfl
theorem tw1_233 : (Jvm.Cond.fieldLink "ThrowArms$Best" (28 : Nat) "ThrowArms$Best" "afte\x72" "[I") ∈ TT := tc1 (List.mem_of_getElem? (i := 233) rfl) rfl
theorem tw1_234 : (Jvm.Cond.fieldLink "ThrowArms$Best" (31 : Nat) "ThrowArms$Best" "trial" "[I") ∈ TT := tc1 (List.mem_of_getElem? (i := 234) rfl) rfl
theorem tw1_235 : (Jvm.Cond.fieldLink "ThrowArms$Best" (34 : Nat) "ThrowArms$Best" "row" "[I") ∈ TT := tc1 (List.mem_of_getElem? (i := 235) rfl) rfl
theorem tw1_236 : (Jvm.Cond.fieldLink "ThrowArms" (259 : Nat) "ThrowArms$Best" "row" "[I") ∈ TT := tc1 (List.mem_of_getElem? (i := 236) rfl) rfl
theorem tw1_237 : (Jvm.Cond.fieldLink "ThrowArms$Best" (37 : Nat) "ThrowArms$Best" "sum" "I") ∈ TT := tc1 (List.mem_of_getElem? (i := 237) rfl) rfl
theorem tw1_238 : (Jvm.Cond.fieldLink "ThrowArms" (256 : Nat) "ThrowArms$Best" "sum" "I") ∈ TT := tc1 (List.mem_of_getElem? (i := 238) rfl) rfl
theorem tw1_239 : (Jvm.Cond.laysFinal "ThrowArms$Best" "ThrowArms$Best" "book" "LThrowArms$Book;") ∈ TT := tc1 (List.mem_of_getElem? (i := 239) rfl) rfl
theorem tw2_1 : (Jvm.Cond.laysFinal "ThrowArms$Best" "ThrowArms$Best" "diary" "LThrowArms$Diary;") ∈ TT := tc2 (List.mem_of_getElem? (i := 1) rfl) rfl
theorem tw2_3 : (Jvm.Cond.lays "ThrowArms$Best" "ThrowArms$Best" "first" "I") ∈ TT := tc2 (List.mem_of_getElem? (i := 3) rfl) rfl
theorem tw2_5 : (Jvm.Cond.lays "ThrowArms$Best" "ThrowArms$Best" "count" "I") ∈ TT := tc2 (List.mem_of_getElem? (i := 5) rfl) rfl
theorem tw2_7 : (Jvm.Cond.laysFinal "ThrowArms$Best" "ThrowArms$Best" "fits" "[I") ∈ TT := tc2 (List.mem_of_getElem? (i := 7) rfl) rfl
theorem tw2_9 : (Jvm.Cond.laysFinal "ThrowArms$Best" "ThrowArms$Best" "given" "[I") ∈ TT := tc2 (List.mem_of_getElem? (i := 9) rfl) rfl
theorem tw2_11 : (Jvm.Cond.laysFinal "ThrowArms$Best" "ThrowArms$Best" "gains" "[I") ∈ TT := tc2 (List.mem_of_getElem? (i := 11) rfl) rfl
theorem tw2_13 : (Jvm.Cond.laysFinal "ThrowArms$Best" "ThrowArms$Best" "afte\x72" "[I") ∈ TT := tc2 (List.mem_of_getElem? (i := 13) rfl) rfl
theorem tw2_15 : (Jvm.Cond.laysFinal "ThrowArms$Best" "ThrowArms$Best" "trial" "[I") ∈ TT := tc2 (List.mem_of_getElem? (i := 15) rfl) rfl
theorem tw2_17 : (Jvm.Cond.laysFinal "ThrowArms$Best" "ThrowArms$Best" "row" "[I") ∈ TT := tc2 (List.mem_of_getElem? (i := 17) rfl) rfl
theorem tw2_19 : (Jvm.Cond.lays "ThrowArms$Best" "ThrowArms$Best" "sum" "I") ∈ TT := tc2 (List.mem_of_getElem? (i := 19) rfl) rfl
theorem tw2_22 : (Jvm.Cond.classLink "ThrowArms" (66 : Nat) "ThrowArms$Choose\x72") ∈ TT := tc2 (List.mem_of_getElem? (i := 22) rfl) rfl
theorem tw2_23 : (Jvm.Cond.instantiable "ThrowArms$Choose\x72" (9 : Nat)) ∈ TT := tc2 (List.mem_of_getElem? (i := 23) rfl) rfl
theorem tw2_24 : (Jvm.Cond.methodLink "ThrowArms" (68 : Nat) ({ cls := "ThrowArms$Choose\x72", name := "<init>", desc := "(LThrowArms$Book;LThrowArms$Diary;)V" } : Jvm.MethodName)) ∈ TT := tc2 (List.mem_of_getElem? (i := 24) rfl) rfl
theorem tw2_25 : (Jvm.Cond.instanceMethod ({ cls := "ThrowArms$Choose\x72", name := "<init>", desc := "(LThrowArms$Book;LThrowArms$Diary;)V" } : Jvm.MethodName)) ∈ TT := tc2 (List.mem_of_getElem? (i := 25) rfl) rfl
theorem tw2_26 : (Jvm.Cond.code ({ cls := "ThrowArms$Choose\x72", name := "<init>", desc := "(LThrowArms$Book;LThrowArms$Diary;)V" } : Jvm.MethodName) prog_4_method_1_code (3 : Nat) (Option.none : Option Jvm.ClassFile.FieldType)) ∈ TT := tc2 (List.mem_of_getElem? (i := 26) rfl) rfl
theorem tw2_27 : (Jvm.Cond.methodLink "ThrowArms$Choose\x72" (3 : Nat) ({ cls := "java/lang/Object", name := "<init>", desc := "()V" } : Jvm.MethodName)) ∈ TT := tc2 (List.mem_of_getElem? (i := 27) rfl) rfl
theorem tw2_28 : (Jvm.Cond.fieldLink "ThrowArms$Choose\x72" (33 : Nat) "ThrowArms$Choose\x72" "book" "LThrowArms$Book;") ∈ TT := tc2 (List.mem_of_getElem? (i := 28) rfl) rfl
theorem tw2_29 : (Jvm.Cond.fieldLink "ThrowArms$Choose\x72" (37 : Nat) "ThrowArms$Choose\x72" "diary" "LThrowArms$Diary;") ∈ TT := tc2 (List.mem_of_getElem? (i := 29) rfl) rfl
theorem tw2_30 : (Jvm.Cond.fieldLink "ThrowArms$Choose\x72" (9 : Nat) "ThrowArms$Choose\x72" "pairValue" "I") ∈ TT := tc2 (List.mem_of_getElem? (i := 30) rfl) rfl
theorem tw2_31 : (Jvm.Cond.fieldLink "ThrowArms" (265 : Nat) "ThrowArms$Choose\x72" "pairValue" "I") ∈ TT := tc2 (List.mem_of_getElem? (i := 31) rfl) rfl
theorem tw2_32 : (Jvm.Cond.fieldLink "ThrowArms$Choose\x72" (15 : Nat) "ThrowArms$Choose\x72" "pairOne" "I") ∈ TT := tc2 (List.mem_of_getElem? (i := 32) rfl) rfl
theorem tw2_33 : (Jvm.Cond.fieldLink "ThrowArms" (268 : Nat) "ThrowArms$Choose\x72" "pairOne" "I") ∈ TT := tc2 (List.mem_of_getElem? (i := 33) rfl) rfl
theorem tw2_34 : (Jvm.Cond.fieldLink "ThrowArms$Choose\x72" (18 : Nat) "ThrowArms$Choose\x72" "pairOthe\x72" "I") ∈ TT := tc2 (List.mem_of_getElem? (i := 34) rfl) rfl
theorem tw2_35 : (Jvm.Cond.fieldLink "ThrowArms" (271 : Nat) "ThrowArms$Choose\x72" "pairOthe\x72" "I") ∈ TT := tc2 (List.mem_of_getElem? (i := 35) rfl) rfl
theorem tw2_36 : (Jvm.Cond.fieldLink "ThrowArms$Choose\x72" (21 : Nat) "ThrowArms$Choose\x72" "growth" "I") ∈ TT := tc2 (List.mem_of_getElem? (i := 36) rfl) rfl
theorem tw2_37 : (Jvm.Cond.fieldLink "ThrowArms$Choose\x72" (24 : Nat) "ThrowArms$Choose\x72" "changeGame" "I") ∈ TT := tc2 (List.mem_of_getElem? (i := 37) rfl) rfl
theorem tw2_38 : (Jvm.Cond.fieldLink "ThrowArms$Choose\x72" (27 : Nat) "ThrowArms$Choose\x72" "changePlace" "I") ∈ TT := tc2 (List.mem_of_getElem? (i := 38) rfl) rfl
theorem tw2_39 : (Jvm.Cond.fieldLink "ThrowArms$Choose\x72" (30 : Nat) "ThrowArms$Choose\x72" "changeArm" "I") ∈ TT := tc2 (List.mem_of_getElem? (i := 39) rfl) rfl
theorem tw2_40 : (Jvm.Cond.laysFinal "ThrowArms$Choose\x72" "ThrowArms$Choose\x72" "book" "LThrowArms$Book;") ∈ TT := tc2 (List.mem_of_getElem? (i := 40) rfl) rfl
theorem tw2_42 : (Jvm.Cond.laysFinal "ThrowArms$Choose\x72" "ThrowArms$Choose\x72" "diary" "LThrowArms$Diary;") ∈ TT := tc2 (List.mem_of_getElem? (i := 42) rfl) rfl
theorem tw2_44 : (Jvm.Cond.lays "ThrowArms$Choose\x72" "ThrowArms$Choose\x72" "pairValue" "I") ∈ TT := tc2 (List.mem_of_getElem? (i := 44) rfl) rfl
theorem tw2_46 : (Jvm.Cond.lays "ThrowArms$Choose\x72" "ThrowArms$Choose\x72" "pairOne" "I") ∈ TT := tc2 (List.mem_of_getElem? (i := 46) rfl) rfl
theorem tw2_48 : (Jvm.Cond.lays "ThrowArms$Choose\x72" "ThrowArms$Choose\x72" "pairOthe\x72" "I") ∈ TT := tc2 (List.mem_of_getElem? (i := 48) rfl) rfl
theorem tw2_50 : (Jvm.Cond.lays "ThrowArms$Choose\x72" "ThrowArms$Choose\x72" "growth" "I") ∈ TT := tc2 (List.mem_of_getElem? (i := 50) rfl) rfl
theorem tw2_52 : (Jvm.Cond.lays "ThrowArms$Choose\x72" "ThrowArms$Choose\x72" "changeGame" "I") ∈ TT := tc2 (List.mem_of_getElem? (i := 52) rfl) rfl
theorem tw2_54 : (Jvm.Cond.lays "ThrowArms$Choose\x72" "ThrowArms$Choose\x72" "changePlace" "I") ∈ TT := tc2 (List.mem_of_getElem? (i := 54) rfl) rfl
theorem tw2_56 : (Jvm.Cond.lays "ThrowArms$Choose\x72" "ThrowArms$Choose\x72" "changeArm" "I") ∈ TT := tc2 (List.mem_of_getElem? (i := 56) rfl) rfl
theorem tw2_59 : (Jvm.Cond.classLink "ThrowArms" (73 : Nat) "ThrowArms$Season") ∈ TT := tc2 (List.mem_of_getElem? (i := 59) rfl) rfl
theorem tw2_60 : (Jvm.Cond.instantiable "ThrowArms$Season" (8 : Nat)) ∈ TT := tc2 (List.mem_of_getElem? (i := 60) rfl) rfl
theorem tw2_61 : (Jvm.Cond.methodLink "ThrowArms" (75 : Nat) ({ cls := "ThrowArms$Season", name := "<init>", desc := "(LThrowArms$Book;)V" } : Jvm.MethodName)) ∈ TT := tc2 (List.mem_of_getElem? (i := 61) rfl) rfl
theorem tw2_62 : (Jvm.Cond.instanceMethod ({ cls := "ThrowArms$Season", name := "<init>", desc := "(LThrowArms$Book;)V" } : Jvm.MethodName)) ∈ TT := tc2 (List.mem_of_getElem? (i := 62) rfl) rfl
theorem tw2_63 : (Jvm.Cond.code ({ cls := "ThrowArms$Season", name := "<init>", desc := "(LThrowArms$Book;)V" } : Jvm.MethodName) prog_9_method_1_code (2 : Nat) (Option.none : Option Jvm.ClassFile.FieldType)) ∈ TT := tc2 (List.mem_of_getElem? (i := 63) rfl) rfl
theorem tw2_64 : (Jvm.Cond.methodLink "ThrowArms$Season" (3 : Nat) ({ cls := "java/lang/Object", name := "<init>", desc := "()V" } : Jvm.MethodName)) ∈ TT := tc2 (List.mem_of_getElem? (i := 64) rfl) rfl
theorem tw2_65 : (Jvm.Cond.fieldLink "ThrowArms$Season" (35 : Nat) "ThrowArms$Season" "book" "LThrowArms$Book;") ∈ TT := tc2 (List.mem_of_getElem? (i := 65) rfl) rfl
theorem tw2_66 : (Jvm.Cond.fieldLink "ThrowArms$Season" (9 : Nat) "ThrowArms$Season" "backOn" "[I") ∈ TT := tc2 (List.mem_of_getElem? (i := 66) rfl) rfl
theorem tw2_67 : (Jvm.Cond.fieldLink "ThrowArms$Season" (15 : Nat) "ThrowArms$Season" "draw" "J") ∈ TT := tc2 (List.mem_of_getElem? (i := 67) rfl) rfl
theorem tw2_68 : (Jvm.Cond.fieldLink "ThrowArms$Season" (19 : Nat) "ThrowArms$Season" "hurts" "I") ∈ TT := tc2 (List.mem_of_getElem? (i := 68) rfl) rfl
theorem tw2_69 : (Jvm.Cond.fieldLink "ThrowArms" (311 : Nat) "ThrowArms$Season" "hurts" "I") ∈ TT := tc2 (List.mem_of_getElem? (i := 69) rfl) rfl
theorem tw2_70 : (Jvm.Cond.fieldLink "ThrowArms$Season" (23 : Nat) "ThrowArms$Season" "who" "I") ∈ TT := tc2 (List.mem_of_getElem? (i := 70) rfl) rfl
theorem tw2_71 : (Jvm.Cond.fieldLink "ThrowArms" (314 : Nat) "ThrowArms$Season" "who" "I") ∈ TT := tc2 (List.mem_of_getElem? (i := 71) rfl) rfl
theorem tw2_72 : (Jvm.Cond.fieldLink "ThrowArms$Season" (26 : Nat) "ThrowArms$Season" "missed" "I") ∈ TT := tc2 (List.mem_of_getElem? (i := 72) rfl) rfl
theorem tw2_73 : (Jvm.Cond.fieldLink "ThrowArms" (317 : Nat) "ThrowArms$Season" "missed" "I") ∈ TT := tc2 (List.mem_of_getElem? (i := 73) rfl) rfl
theorem tw2_74 : (Jvm.Cond.fieldLink "ThrowArms$Season" (29 : Nat) "ThrowArms$Season" "gained" "I") ∈ TT := tc2 (List.mem_of_getElem? (i := 74) rfl) rfl
theorem tw2_75 : (Jvm.Cond.fieldLink "ThrowArms" (320 : Nat) "ThrowArms$Season" "gained" "I") ∈ TT := tc2 (List.mem_of_getElem? (i := 75) rfl) rfl
theorem tw2_76 : (Jvm.Cond.fieldLink "ThrowArms$Season" (32 : Nat) "ThrowArms$Season" "firstGame" "I") ∈ TT := tc2 (List.mem_of_getElem? (i := 76) rfl) rfl
theorem tw2_77 : (Jvm.Cond.fieldLink "ThrowArms" (323 : Nat) "ThrowArms$Season" "firstGame" "I") ∈ TT := tc2 (List.mem_of_getElem? (i := 77) rfl) rfl
theorem tw2_78 : (Jvm.Cond.laysFinal "ThrowArms$Season" "ThrowArms$Season" "book" "LThrowArms$Book;") ∈ TT := tc2 (List.mem_of_getElem? (i := 78) rfl) rfl
theorem tw2_80 : (Jvm.Cond.laysFinal "ThrowArms$Season" "ThrowArms$Season" "backOn" "[I") ∈ TT := tc2 (List.mem_of_getElem? (i := 80) rfl) rfl
theorem tw2_82 : (Jvm.Cond.lays "ThrowArms$Season" "ThrowArms$Season" "draw" "J") ∈ TT := tc2 (List.mem_of_getElem? (i := 82) rfl) rfl
theorem tw2_84 : (Jvm.Cond.lays "ThrowArms$Season" "ThrowArms$Season" "hurts" "I") ∈ TT := tc2 (List.mem_of_getElem? (i := 84) rfl) rfl
theorem tw2_86 : (Jvm.Cond.lays "ThrowArms$Season" "ThrowArms$Season" "who" "I") ∈ TT := tc2 (List.mem_of_getElem? (i := 86) rfl) rfl
theorem tw2_88 : (Jvm.Cond.lays "ThrowArms$Season" "ThrowArms$Season" "missed" "I") ∈ TT := tc2 (List.mem_of_getElem? (i := 88) rfl) rfl
theorem tw2_90 : (Jvm.Cond.lays "ThrowArms$Season" "ThrowArms$Season" "gained" "I") ∈ TT := tc2 (List.mem_of_getElem? (i := 90) rfl) rfl
theorem tw2_92 : (Jvm.Cond.lays "ThrowArms$Season" "ThrowArms$Season" "firstGame" "I") ∈ TT := tc2 (List.mem_of_getElem? (i := 92) rfl) rfl
theorem tw2_95 : (Jvm.Cond.classLink "ThrowArms" (80 : Nat) "ThrowArms$History") ∈ TT := tc2 (List.mem_of_getElem? (i := 95) rfl) rfl
theorem tw2_96 : (Jvm.Cond.instantiable "ThrowArms$History" (5 : Nat)) ∈ TT := tc2 (List.mem_of_getElem? (i := 96) rfl) rfl
theorem tw2_97 : (Jvm.Cond.methodLink "ThrowArms" (82 : Nat) ({ cls := "ThrowArms$History", name := "<init>", desc := "(LThrowArms$Told;LThrowArms$Plan;)V" } : Jvm.MethodName)) ∈ TT := tc2 (List.mem_of_getElem? (i := 97) rfl) rfl
theorem tw2_98 : (Jvm.Cond.instanceMethod ({ cls := "ThrowArms$History", name := "<init>", desc := "(LThrowArms$Told;LThrowArms$Plan;)V" } : Jvm.MethodName)) ∈ TT := tc2 (List.mem_of_getElem? (i := 98) rfl) rfl
theorem tw2_99 : (Jvm.Cond.code ({ cls := "ThrowArms$History", name := "<init>", desc := "(LThrowArms$Told;LThrowArms$Plan;)V" } : Jvm.MethodName) prog_6_method_1_code (3 : Nat) (Option.none : Option Jvm.ClassFile.FieldType)) ∈ TT := tc2 (List.mem_of_getElem? (i := 99) rfl) rfl
theorem tw2_100 : (Jvm.Cond.methodLink "ThrowArms$History" (7 : Nat) ({ cls := "java/lang/Object", name := "<init>", desc := "()V" } : Jvm.MethodName)) ∈ TT := tc2 (List.mem_of_getElem? (i := 100) rfl) rfl
theorem tw2_101 : (Jvm.Cond.fieldLink "ThrowArms$History" (26 : Nat) "ThrowArms$History" "told" "LThrowArms$Told;") ∈ TT := tc2 (List.mem_of_getElem? (i := 101) rfl) rfl
theorem tw2_102 : (Jvm.Cond.fieldLink "ThrowArms$History" (30 : Nat) "ThrowArms$History" "plan" "LThrowArms$Plan;") ∈ TT := tc2 (List.mem_of_getElem? (i := 102) rfl) rfl
theorem tw2_103 : (Jvm.Cond.fieldLink "ThrowArms$History" (15 : Nat) "ThrowArms$History" "memory" "[I") ∈ TT := tc2 (List.mem_of_getElem? (i := 103) rfl) rfl
theorem tw2_104 : (Jvm.Cond.fieldLink "ThrowArms$History" (19 : Nat) "ThrowArms$History" "next" "I") ∈ TT := tc2 (List.mem_of_getElem? (i := 104) rfl) rfl
theorem tw2_105 : (Jvm.Cond.fieldLink "ThrowArms$History" (23 : Nat) "ThrowArms$History" "count" "I") ∈ TT := tc2 (List.mem_of_getElem? (i := 105) rfl) rfl
theorem tw2_106 : (Jvm.Cond.fieldLink "ThrowArms" (132 : Nat) "ThrowArms$History" "count" "I") ∈ TT := tc2 (List.mem_of_getElem? (i := 106) rfl) rfl
theorem tw2_107 : (Jvm.Cond.laysFinal "ThrowArms$History" "ThrowArms$History" "told" "LThrowArms$Told;") ∈ TT := tc2 (List.mem_of_getElem? (i := 107) rfl) rfl
theorem tw2_109 : (Jvm.Cond.laysFinal "ThrowArms$History" "ThrowArms$History" "plan" "LThrowArms$Plan;") ∈ TT := tc2 (List.mem_of_getElem? (i := 109) rfl) rfl
theorem tw2_111 : (Jvm.Cond.laysFinal "ThrowArms$History" "ThrowArms$History" "memory" "[I") ∈ TT := tc2 (List.mem_of_getElem? (i := 111) rfl) rfl
theorem tw2_113 : (Jvm.Cond.lays "ThrowArms$History" "ThrowArms$History" "next" "I") ∈ TT := tc2 (List.mem_of_getElem? (i := 113) rfl) rfl
theorem tw2_115 : (Jvm.Cond.lays "ThrowArms$History" "ThrowArms$History" "count" "I") ∈ TT := tc2 (List.mem_of_getElem? (i := 115) rfl) rfl
theorem tw2_118 : (Jvm.Cond.fieldLink "ThrowArms" (12 : Nat) "ThrowArms" "tape" "LThrowArms$Tape;") ∈ TT := tc2 (List.mem_of_getElem? (i := 118) rfl) rfl
theorem tw2_119 : (Jvm.Cond.fieldLink "ThrowArms" (21 : Nat) "ThrowArms" "reade\x72" "LThrowArms$Reader;") ∈ TT := tc2 (List.mem_of_getElem? (i := 119) rfl) rfl
theorem tw2_120 : (Jvm.Cond.fieldLink "ThrowArms" (28 : Nat) "ThrowArms" "told" "LThrowArms$Told;") ∈ TT := tc2 (List.mem_of_getElem? (i := 120) rfl) rfl
theorem tw2_121 : (Jvm.Cond.fieldLink "ThrowArms" (35 : Nat) "ThrowArms" "plan" "LThrowArms$Plan;") ∈ TT := tc2 (List.mem_of_getElem? (i := 121) rfl) rfl
theorem tw2_122 : (Jvm.Cond.fieldLink "ThrowArms" (44 : Nat) "ThrowArms" "book" "LThrowArms$Book;") ∈ TT := tc2 (List.mem_of_getElem? (i := 122) rfl) rfl
theorem tw2_123 : (Jvm.Cond.fieldLink "ThrowArms" (53 : Nat) "ThrowArms" "diary" "LThrowArms$Diary;") ∈ TT := tc2 (List.mem_of_getElem? (i := 123) rfl) rfl
theorem tw2_124 : (Jvm.Cond.fieldLink "ThrowArms" (62 : Nat) "ThrowArms" "bestRow" "LThrowArms$Best;") ∈ TT := tc2 (List.mem_of_getElem? (i := 124) rfl) rfl
theorem tw2_125 : (Jvm.Cond.fieldLink "ThrowArms" (69 : Nat) "ThrowArms" "choose\x72" "LThrowArms$Chooser;") ∈ TT := tc2 (List.mem_of_getElem? (i := 125) rfl) rfl
theorem tw2_126 : (Jvm.Cond.fieldLink "ThrowArms" (76 : Nat) "ThrowArms" "played" "LThrowArms$Season;") ∈ TT := tc2 (List.mem_of_getElem? (i := 126) rfl) rfl
theorem tw2_127 : (Jvm.Cond.fieldLink "ThrowArms" (83 : Nat) "ThrowArms" "history" "LThrowArms$History;") ∈ TT := tc2 (List.mem_of_getElem? (i := 127) rfl) rfl
theorem tw2_128 : (Jvm.Cond.fieldLink "ThrowArms" (87 : Nat) "ThrowArms" "lastTrouble" "I") ∈ TT := tc2 (List.mem_of_getElem? (i := 128) rfl) rfl
theorem tw2_129 : (Jvm.Cond.fieldLink "ThrowArms" (91 : Nat) "ThrowArms" "lastFault" "I") ∈ TT := tc2 (List.mem_of_getElem? (i := 129) rfl) rfl
theorem tw2_130 : (Jvm.Cond.fieldLink "ThrowArms" (94 : Nat) "ThrowArms" "faultPlace" "I") ∈ TT := tc2 (List.mem_of_getElem? (i := 130) rfl) rfl
theorem tw2_131 : (Jvm.Cond.laysFinal "ThrowArms" "ThrowArms" "tape" "LThrowArms$Tape;") ∈ TT := tc2 (List.mem_of_getElem? (i := 131) rfl) rfl
theorem tw2_133 : (Jvm.Cond.laysFinal "ThrowArms" "ThrowArms" "reade\x72" "LThrowArms$Reader;") ∈ TT := tc2 (List.mem_of_getElem? (i := 133) rfl) rfl
theorem tw2_135 : (Jvm.Cond.laysFinal "ThrowArms" "ThrowArms" "told" "LThrowArms$Told;") ∈ TT := tc2 (List.mem_of_getElem? (i := 135) rfl) rfl
theorem tw2_137 : (Jvm.Cond.laysFinal "ThrowArms" "ThrowArms" "plan" "LThrowArms$Plan;") ∈ TT := tc2 (List.mem_of_getElem? (i := 137) rfl) rfl
theorem tw2_139 : (Jvm.Cond.laysFinal "ThrowArms" "ThrowArms" "book" "LThrowArms$Book;") ∈ TT := tc2 (List.mem_of_getElem? (i := 139) rfl) rfl
theorem tw2_141 : (Jvm.Cond.laysFinal "ThrowArms" "ThrowArms" "diary" "LThrowArms$Diary;") ∈ TT := tc2 (List.mem_of_getElem? (i := 141) rfl) rfl
theorem tw2_143 : (Jvm.Cond.laysFinal "ThrowArms" "ThrowArms" "bestRow" "LThrowArms$Best;") ∈ TT := tc2 (List.mem_of_getElem? (i := 143) rfl) rfl
theorem tw2_145 : (Jvm.Cond.laysFinal "ThrowArms" "ThrowArms" "choose\x72" "LThrowArms$Chooser;") ∈ TT := tc2 (List.mem_of_getElem? (i := 145) rfl) rfl
theorem tw2_147 : (Jvm.Cond.laysFinal "ThrowArms" "ThrowArms" "played" "LThrowArms$Season;") ∈ TT := tc2 (List.mem_of_getElem? (i := 147) rfl) rfl
theorem tw2_149 : (Jvm.Cond.laysFinal "ThrowArms" "ThrowArms" "history" "LThrowArms$History;") ∈ TT := tc2 (List.mem_of_getElem? (i := 149) rfl) rfl
theorem tw2_151 : (Jvm.Cond.lays "ThrowArms" "ThrowArms" "lastTrouble" "I") ∈ TT := tc2 (List.mem_of_getElem? (i := 151) rfl) rfl
theorem tw2_153 : (Jvm.Cond.lays "ThrowArms" "ThrowArms" "lastFault" "I") ∈ TT := tc2 (List.mem_of_getElem? (i := 153) rfl) rfl
theorem tw2_155 : (Jvm.Cond.lays "ThrowArms" "ThrowArms" "faultPlace" "I") ∈ TT := tc2 (List.mem_of_getElem? (i := 155) rfl) rfl
theorem tw2_158 : (Jvm.Cond.methodLink "ThrowArmsLaw" (19 : Nat) ({ cls := "ThrowArms", name := "feed", desc := "(IIIII)I" } : Jvm.MethodName)) ∈ TT := tc2 (List.mem_of_getElem? (i := 158) rfl) rfl
theorem tw2_159 : (Jvm.Cond.instanceMethod ({ cls := "ThrowArms", name := "feed", desc := "(IIIII)I" } : Jvm.MethodName)) ∈ TT := tc2 (List.mem_of_getElem? (i := 159) rfl) rfl
theorem tw2_160 : (Jvm.Cond.selects "ThrowArms" ({ cls := "ThrowArms", name := "feed", desc := "(IIIII)I" } : Jvm.MethodName) ({ cls := "ThrowArms", name := "feed", desc := "(IIIII)I" } : Jvm.MethodName)) ∈ TT := tc2 (List.mem_of_getElem? (i := 160) rfl) rfl
theorem tw2_161 : (Jvm.Cond.code ({ cls := "ThrowArms", name := "feed", desc := "(IIIII)I" } : Jvm.MethodName) prog_1_method_2_code (6 : Nat) (Option.some Jvm.ClassFile.FieldType.int)) ∈ TT := tc2 (List.mem_of_getElem? (i := 161) rfl) rfl
theorem tw2_162 : (Jvm.Cond.methodLink "ThrowArms" (100 : Nat) ({ cls := "ThrowArms$Tape", name := "append", desc := "(I)V" } : Jvm.MethodName)) ∈ TT := tc2 (List.mem_of_getElem? (i := 162) rfl) rfl
theorem tw2_163 : (Jvm.Cond.instanceMethod ({ cls := "ThrowArms$Tape", name := "append", desc := "(I)V" } : Jvm.MethodName)) ∈ TT := tc2 (List.mem_of_getElem? (i := 163) rfl) rfl
theorem tw2_164 : (Jvm.Cond.selects "ThrowArms$Tape" ({ cls := "ThrowArms$Tape", name := "append", desc := "(I)V" } : Jvm.MethodName) ({ cls := "ThrowArms$Tape", name := "append", desc := "(I)V" } : Jvm.MethodName)) ∈ TT := tc2 (List.mem_of_getElem? (i := 164) rfl) rfl
theorem tw2_165 : (Jvm.Cond.code ({ cls := "ThrowArms$Tape", name := "append", desc := "(I)V" } : Jvm.MethodName) prog_10_method_2_code (3 : Nat) (Option.none : Option Jvm.ClassFile.FieldType)) ∈ TT := tc2 (List.mem_of_getElem? (i := 165) rfl) rfl
theorem tw2_166 : (Jvm.Cond.methodLink "ThrowArmsLaw" (24 : Nat) ({ cls := "ThrowArms", name := "text", desc := "(I)I" } : Jvm.MethodName)) ∈ TT := tc2 (List.mem_of_getElem? (i := 166) rfl) rfl
theorem tw2_167 : (Jvm.Cond.instanceMethod ({ cls := "ThrowArms", name := "text", desc := "(I)I" } : Jvm.MethodName)) ∈ TT := tc2 (List.mem_of_getElem? (i := 167) rfl) rfl
theorem tw2_168 : (Jvm.Cond.selects "ThrowArms" ({ cls := "ThrowArms", name := "text", desc := "(I)I" } : Jvm.MethodName) ({ cls := "ThrowArms", name := "text", desc := "(I)I" } : Jvm.MethodName)) ∈ TT := tc2 (List.mem_of_getElem? (i := 168) rfl) rfl
theorem tw2_169 : (Jvm.Cond.code ({ cls := "ThrowArms", name := "text", desc := "(I)I" } : Jvm.MethodName) prog_1_method_3_code (3 : Nat) (Option.some Jvm.ClassFile.FieldType.int)) ∈ TT := tc2 (List.mem_of_getElem? (i := 169) rfl) rfl
theorem tw2_170 : (Jvm.Cond.methodLink "ThrowArms" (104 : Nat) ({ cls := "ThrowArms", name := "within", desc := "(III)Z" } : Jvm.MethodName)) ∈ TT := tc2 (List.mem_of_getElem? (i := 170) rfl) rfl
theorem tw2_171 : (Jvm.Cond.static ({ cls := "ThrowArms", name := "within", desc := "(III)Z" } : Jvm.MethodName)) ∈ TT := tc2 (List.mem_of_getElem? (i := 171) rfl) rfl
theorem tw2_172 : (Jvm.Cond.code ({ cls := "ThrowArms", name := "within", desc := "(III)Z" } : Jvm.MethodName) prog_1_method_64_code (3 : Nat) (Option.some Jvm.ClassFile.FieldType.boolean)) ∈ TT := tc2 (List.mem_of_getElem? (i := 172) rfl) rfl
theorem tw2_173 : (Jvm.Cond.methodLink "ThrowArms" (108 : Nat) ({ cls := "ThrowArms", name := "refuse", desc := "(I)I" } : Jvm.MethodName)) ∈ TT := tc2 (List.mem_of_getElem? (i := 173) rfl) rfl
theorem tw2_175 : (Jvm.Cond.instanceMethod ({ cls := "ThrowArms", name := "refuse", desc := "(I)I" } : Jvm.MethodName)) ∈ TT := tc2 (List.mem_of_getElem? (i := 175) rfl) rfl
theorem tw2_176 : (Jvm.Cond.code ({ cls := "ThrowArms", name := "refuse", desc := "(I)I" } : Jvm.MethodName) prog_1_method_58_code (2 : Nat) (Option.some Jvm.ClassFile.FieldType.int)) ∈ TT := tc2 (List.mem_of_getElem? (i := 176) rfl) rfl
theorem tw2_177 : (Jvm.Cond.methodLink "ThrowArms" (112 : Nat) ({ cls := "ThrowArms$Reade\x72", name := "read", desc := "(I)Z" } : Jvm.MethodName)) ∈ TT := tc2 (List.mem_of_getElem? (i := 177) rfl) rfl
theorem tw2_178 : (Jvm.Cond.instanceMethod ({ cls := "ThrowArms$Reade\x72", name := "read", desc := "(I)Z" } : Jvm.MethodName)) ∈ TT := tc2 (List.mem_of_getElem? (i := 178) rfl) rfl
theorem tw2_179 : (Jvm.Cond.selects "ThrowArms$Reade\x72" ({ cls := "ThrowArms$Reade\x72", name := "read", desc := "(I)Z" } : Jvm.MethodName) ({ cls := "ThrowArms$Reade\x72", name := "read", desc := "(I)Z" } : Jvm.MethodName)) ∈ TT := tc2 (List.mem_of_getElem? (i := 179) rfl) rfl
theorem tw2_180 : (Jvm.Cond.code ({ cls := "ThrowArms$Reade\x72", name := "read", desc := "(I)Z" } : Jvm.MethodName) prog_8_method_2_code (3 : Nat) (Option.some Jvm.ClassFile.FieldType.boolean)) ∈ TT := tc2 (List.mem_of_getElem? (i := 180) rfl) rfl
theorem tw2_181 : (Jvm.Cond.methodLink "ThrowArms$Reade\x72" (33 : Nat) ({ cls := "ThrowArms$Told", name := "empty", desc := "()V" } : Jvm.MethodName)) ∈ TT := tc2 (List.mem_of_getElem? (i := 181) rfl) rfl
theorem tw2_182 : (Jvm.Cond.instanceMethod ({ cls := "ThrowArms$Told", name := "empty", desc := "()V" } : Jvm.MethodName)) ∈ TT := tc2 (List.mem_of_getElem? (i := 182) rfl) rfl
theorem tw2_183 : (Jvm.Cond.selects "ThrowArms$Told" ({ cls := "ThrowArms$Told", name := "empty", desc := "()V" } : Jvm.MethodName) ({ cls := "ThrowArms$Told", name := "empty", desc := "()V" } : Jvm.MethodName)) ∈ TT := tc2 (List.mem_of_getElem? (i := 183) rfl) rfl
theorem tw2_184 : (Jvm.Cond.code ({ cls := "ThrowArms$Told", name := "empty", desc := "()V" } : Jvm.MethodName) prog_11_method_2_code (1 : Nat) (Option.none : Option Jvm.ClassFile.FieldType)) ∈ TT := tc2 (List.mem_of_getElem? (i := 184) rfl) rfl
theorem tw2_187 : (Jvm.Cond.methodLink "ThrowArms$Told" (47 : Nat) ({ cls := "java/lang/System", name := "arraycopy", desc := "(Ljava/lang/Object;ILjava/lang/Object;II)V" } : Jvm.MethodName)) ∈ TT := tc2 (List.mem_of_getElem? (i := 187) rfl) rfl
theorem tw2_188 : (Jvm.Cond.static ({ cls := "java/lang/System", name := "arraycopy", desc := "(Ljava/lang/Object;ILjava/lang/Object;II)V" } : Jvm.MethodName)) ∈ TT := tc2 (List.mem_of_getElem? (i := 188) rfl) rfl
theorem tw2_189 : (Jvm.Cond.native ({ cls := "java/lang/System", name := "arraycopy", desc := "(Ljava/lang/Object;ILjava/lang/Object;II)V" } : Jvm.MethodName)) ∈ TT := tc2 (List.mem_of_getElem? (i := 189) rfl) rfl
theorem tw2_190 : (Jvm.Cond.methodLink "ThrowArms$Reade\x72" (36 : Nat) ({ cls := "ThrowArms$Tape", name := "beginTokens", desc := "(I)V" } : Jvm.MethodName)) ∈ TT := tc2 (List.mem_of_getElem? (i := 190) rfl) rfl
theorem tw2_191 : (Jvm.Cond.instanceMethod ({ cls := "ThrowArms$Tape", name := "beginTokens", desc := "(I)V" } : Jvm.MethodName)) ∈ TT := tc2 (List.mem_of_getElem? (i := 191) rfl) rfl
theorem tw2_192 : (Jvm.Cond.selects "ThrowArms$Tape" ({ cls := "ThrowArms$Tape", name := "beginTokens", desc := "(I)V" } : Jvm.MethodName) ({ cls := "ThrowArms$Tape", name := "beginTokens", desc := "(I)V" } : Jvm.MethodName)) ∈ TT := tc2 (List.mem_of_getElem? (i := 192) rfl) rfl
theorem tw2_193 : (Jvm.Cond.code ({ cls := "ThrowArms$Tape", name := "beginTokens", desc := "(I)V" } : Jvm.MethodName) prog_10_method_3_code (2 : Nat) (Option.none : Option Jvm.ClassFile.FieldType)) ∈ TT := tc2 (List.mem_of_getElem? (i := 193) rfl) rfl
theorem tw2_194 : (Jvm.Cond.methodLink "ThrowArms$Tape" (38 : Nat) ({ cls := "java/lang/Math", name := "min", desc := "(II)I" } : Jvm.MethodName)) ∈ TT := tc2 (List.mem_of_getElem? (i := 194) rfl) rfl
theorem tw2_195 : (Jvm.Cond.static ({ cls := "java/lang/Math", name := "min", desc := "(II)I" } : Jvm.MethodName)) ∈ TT := tc2 (List.mem_of_getElem? (i := 195) rfl) rfl
theorem tw2_196 : (Jvm.Cond.code ({ cls := "java/lang/Math", name := "min", desc := "(II)I" } : Jvm.MethodName) prog_18_method_69_code (2 : Nat) (Option.some Jvm.ClassFile.FieldType.int)) ∈ TT := tc2 (List.mem_of_getElem? (i := 196) rfl) rfl
theorem tw2_197 : (Jvm.Cond.methodLink "ThrowArms$Tape" (44 : Nat) ({ cls := "java/lang/Math", name := "max", desc := "(II)I" } : Jvm.MethodName)) ∈ TT := tc2 (List.mem_of_getElem? (i := 197) rfl) rfl
theorem tw2_198 : (Jvm.Cond.static ({ cls := "java/lang/Math", name := "max", desc := "(II)I" } : Jvm.MethodName)) ∈ TT := tc2 (List.mem_of_getElem? (i := 198) rfl) rfl
theorem tw2_199 : (Jvm.Cond.code ({ cls := "java/lang/Math", name := "max", desc := "(II)I" } : Jvm.MethodName) prog_18_method_65_code (2 : Nat) (Option.some Jvm.ClassFile.FieldType.int)) ∈ TT := tc2 (List.mem_of_getElem? (i := 199) rfl) rfl
theorem tw2_200 : (Jvm.Cond.methodLink "ThrowArms$Reade\x72" (42 : Nat) ({ cls := "ThrowArms$Reade\x72", name := "readLine", desc := "()Z" } : Jvm.MethodName)) ∈ TT := tc2 (List.mem_of_getElem? (i := 200) rfl) rfl
theorem tw2_202 : (Jvm.Cond.instanceMethod ({ cls := "ThrowArms$Reade\x72", name := "readLine", desc := "()Z" } : Jvm.MethodName)) ∈ TT := tc2 (List.mem_of_getElem? (i := 202) rfl) rfl
theorem tw2_203 : (Jvm.Cond.code ({ cls := "ThrowArms$Reade\x72", name := "readLine", desc := "()Z" } : Jvm.MethodName) prog_8_method_4_code (1 : Nat) (Option.some Jvm.ClassFile.FieldType.boolean)) ∈ TT := tc2 (List.mem_of_getElem? (i := 203) rfl) rfl
theorem tw2_204 : (Jvm.Cond.methodLink "ThrowArms$Reade\x72" (46 : Nat) ({ cls := "ThrowArms$Tape", name := "nextToken", desc := "()V" } : Jvm.MethodName)) ∈ TT := tc2 (List.mem_of_getElem? (i := 204) rfl) rfl
theorem tw2_205 : (Jvm.Cond.instanceMethod ({ cls := "ThrowArms$Tape", name := "nextToken", desc := "()V" } : Jvm.MethodName)) ∈ TT := tc2 (List.mem_of_getElem? (i := 205) rfl) rfl
theorem tw2_206 : (Jvm.Cond.selects "ThrowArms$Tape" ({ cls := "ThrowArms$Tape", name := "nextToken", desc := "()V" } : Jvm.MethodName) ({ cls := "ThrowArms$Tape", name := "nextToken", desc := "()V" } : Jvm.MethodName)) ∈ TT := tc2 (List.mem_of_getElem? (i := 206) rfl) rfl
theorem tw2_207 : (Jvm.Cond.code ({ cls := "ThrowArms$Tape", name := "nextToken", desc := "()V" } : Jvm.MethodName) prog_10_method_4_code (1 : Nat) (Option.none : Option Jvm.ClassFile.FieldType)) ∈ TT := tc2 (List.mem_of_getElem? (i := 207) rfl) rfl
theorem tw2_208 : (Jvm.Cond.methodLink "ThrowArms$Tape" (47 : Nat) ({ cls := "ThrowArms$Tape", name := "isLette\x72", desc := "(I)Z" } : Jvm.MethodName)) ∈ TT := tc2 (List.mem_of_getElem? (i := 208) rfl) rfl
theorem tw2_209 : (Jvm.Cond.static ({ cls := "ThrowArms$Tape", name := "isLette\x72", desc := "(I)Z" } : Jvm.MethodName)) ∈ TT := tc2 (List.mem_of_getElem? (i := 209) rfl) rfl
theorem tw2_210 : (Jvm.Cond.code ({ cls := "ThrowArms$Tape", name := "isLette\x72", desc := "(I)Z" } : Jvm.MethodName) prog_10_method_9_code (1 : Nat) (Option.some Jvm.ClassFile.FieldType.boolean)) ∈ TT := tc2 (List.mem_of_getElem? (i := 210) rfl) rfl
theorem tw2_211 : (Jvm.Cond.methodLink "ThrowArms$Tape" (51 : Nat) ({ cls := "ThrowArms$Tape", name := "scanWord", desc := "()V" } : Jvm.MethodName)) ∈ TT := tc2 (List.mem_of_getElem? (i := 211) rfl) rfl
theorem tw2_213 : (Jvm.Cond.instanceMethod ({ cls := "ThrowArms$Tape", name := "scanWord", desc := "()V" } : Jvm.MethodName)) ∈ TT := tc2 (List.mem_of_getElem? (i := 213) rfl) rfl
theorem tw2_214 : (Jvm.Cond.code ({ cls := "ThrowArms$Tape", name := "scanWord", desc := "()V" } : Jvm.MethodName) prog_10_method_5_code (1 : Nat) (Option.none : Option Jvm.ClassFile.FieldType)) ∈ TT := tc2 (List.mem_of_getElem? (i := 214) rfl) rfl
theorem tw2_215 : (Jvm.Cond.methodLink "ThrowArms$Tape" (54 : Nat) ({ cls := "ThrowArms$Tape", name := "isDigit", desc := "(I)Z" } : Jvm.MethodName)) ∈ TT := tc2 (List.mem_of_getElem? (i := 215) rfl) rfl
theorem tw2_216 : (Jvm.Cond.static ({ cls := "ThrowArms$Tape", name := "isDigit", desc := "(I)Z" } : Jvm.MethodName)) ∈ TT := tc2 (List.mem_of_getElem? (i := 216) rfl) rfl
theorem tw2_217 : (Jvm.Cond.code ({ cls := "ThrowArms$Tape", name := "isDigit", desc := "(I)Z" } : Jvm.MethodName) prog_10_method_10_code (1 : Nat) (Option.some Jvm.ClassFile.FieldType.boolean)) ∈ TT := tc2 (List.mem_of_getElem? (i := 217) rfl) rfl
theorem tw2_218 : (Jvm.Cond.methodLink "ThrowArms$Tape" (57 : Nat) ({ cls := "ThrowArms$Tape", name := "scanWhole", desc := "()V" } : Jvm.MethodName)) ∈ TT := tc2 (List.mem_of_getElem? (i := 218) rfl) rfl
theorem tw2_220 : (Jvm.Cond.instanceMethod ({ cls := "ThrowArms$Tape", name := "scanWhole", desc := "()V" } : Jvm.MethodName)) ∈ TT := tc2 (List.mem_of_getElem? (i := 220) rfl) rfl
theorem tw2_221 : (Jvm.Cond.code ({ cls := "ThrowArms$Tape", name := "scanWhole", desc := "()V" } : Jvm.MethodName) prog_10_method_6_code (1 : Nat) (Option.none : Option Jvm.ClassFile.FieldType)) ∈ TT := tc2 (List.mem_of_getElem? (i := 221) rfl) rfl
theorem tw2_223 : (Jvm.Cond.methodLink "ThrowArms$Reade\x72" (67 : Nat) ({ cls := "ThrowArms$Tape", name := "isWord", desc := "(Ljava/lang/String;)Z" } : Jvm.MethodName)) ∈ TT := tc2 (List.mem_of_getElem? (i := 223) rfl) rfl
theorem tw2_224 : (Jvm.Cond.instanceMethod ({ cls := "ThrowArms$Tape", name := "isWord", desc := "(Ljava/lang/String;)Z" } : Jvm.MethodName)) ∈ TT := tc2 (List.mem_of_getElem? (i := 224) rfl) rfl
theorem tw2_225 : (Jvm.Cond.selects "ThrowArms$Tape" ({ cls := "ThrowArms$Tape", name := "isWord", desc := "(Ljava/lang/String;)Z" } : Jvm.MethodName) ({ cls := "ThrowArms$Tape", name := "isWord", desc := "(Ljava/lang/String;)Z" } : Jvm.MethodName)) ∈ TT := tc2 (List.mem_of_getElem? (i := 225) rfl) rfl
theorem tw2_226 : (Jvm.Cond.code ({ cls := "ThrowArms$Tape", name := "isWord", desc := "(Ljava/lang/String;)Z" } : Jvm.MethodName) prog_10_method_7_code (3 : Nat) (Option.some Jvm.ClassFile.FieldType.boolean)) ∈ TT := tc2 (List.mem_of_getElem? (i := 226) rfl) rfl
theorem tw2_227 : (Jvm.Cond.methodLink "ThrowArms$Tape" (60 : Nat) ({ cls := "java/lang/String", name := "length", desc := "()I" } : Jvm.MethodName)) ∈ TT := tc2 (List.mem_of_getElem? (i := 227) rfl) rfl
theorem tw2_228 : (Jvm.Cond.instanceMethod ({ cls := "java/lang/String", name := "length", desc := "()I" } : Jvm.MethodName)) ∈ TT := tc2 (List.mem_of_getElem? (i := 228) rfl) rfl
theorem tw2_229 : (Jvm.Cond.selects "java/lang/String" ({ cls := "java/lang/String", name := "length", desc := "()I" } : Jvm.MethodName) ({ cls := "java/lang/String", name := "length", desc := "()I" } : Jvm.MethodName)) ∈ TT := tc2 (List.mem_of_getElem? (i := 229) rfl) rfl
theorem tw2_230 : (Jvm.Cond.code ({ cls := "java/lang/String", name := "length", desc := "()I" } : Jvm.MethodName) prog_20_method_54_code (1 : Nat) (Option.some Jvm.ClassFile.FieldType.int)) ∈ TT := tc2 (List.mem_of_getElem? (i := 230) rfl) rfl
theorem tw2_231 : (Jvm.Cond.methodLink "java/lang/String" (335 : Nat) ({ cls := "java/lang/String", name := "code\x72", desc := "()B" } : Jvm.MethodName)) ∈ TT := tc2 (List.mem_of_getElem? (i := 231) rfl) rfl
theorem tw2_232 : (Jvm.Cond.instanceMethod ({ cls := "java/lang/String", name := "code\x72", desc := "()B" } : Jvm.MethodName)) ∈ TT := tc2 (List.mem_of_getElem? (i := 232) rfl) rfl
theorem tw2_233 : (Jvm.Cond.selects "java/lang/String" ({ cls := "java/lang/String", name := "code\x72", desc := "()B" } : Jvm.MethodName) ({ cls := "java/lang/String", name := "code\x72", desc := "()B" } : Jvm.MethodName)) ∈ TT := tc2 (List.mem_of_getElem? (i := 233) rfl) rfl
theorem tw2_234 : (Jvm.Cond.code ({ cls := "java/lang/String", name := "code\x72", desc := "()B" } : Jvm.MethodName) prog_20_method_152_code (1 : Nat) (Option.some Jvm.ClassFile.FieldType.byte)) ∈ TT := tc2 (List.mem_of_getElem? (i := 234) rfl) rfl
theorem tw2_235 : (Jvm.Cond.fieldLink "java/lang/String" (38 : Nat) "java/lang/String" "COMPACT_STRINGS" "Z") ∈ TT := tc2 (List.mem_of_getElem? (i := 235) rfl) rfl
theorem tw2_237 : (Jvm.Cond.methodLink "ThrowArms$Tape" (65 : Nat) ({ cls := "java/lang/String", name := "charAt", desc := "(I)C" } : Jvm.MethodName)) ∈ TT := tc2 (List.mem_of_getElem? (i := 237) rfl) rfl
theorem tw2_238 : (Jvm.Cond.instanceMethod ({ cls := "java/lang/String", name := "charAt", desc := "(I)C" } : Jvm.MethodName)) ∈ TT := tc2 (List.mem_of_getElem? (i := 238) rfl) rfl
theorem tw2_239 : (Jvm.Cond.selects "java/lang/String" ({ cls := "java/lang/String", name := "charAt", desc := "(I)C" } : Jvm.MethodName) ({ cls := "java/lang/String", name := "charAt", desc := "(I)C" } : Jvm.MethodName)) ∈ TT := tc2 (List.mem_of_getElem? (i := 239) rfl) rfl
theorem tw3_0 : (Jvm.Cond.code ({ cls := "java/lang/String", name := "charAt", desc := "(I)C" } : Jvm.MethodName) prog_20_method_56_code (2 : Nat) (Option.some Jvm.ClassFile.FieldType.char)) ∈ TT := tc3 (List.mem_of_getElem? (i := 0) rfl) rfl
theorem tw3_1 : (Jvm.Cond.methodLink "java/lang/String" (492 : Nat) ({ cls := "java/lang/String", name := "isLatin1", desc := "()Z" } : Jvm.MethodName)) ∈ TT := tc3 (List.mem_of_getElem? (i := 1) rfl) rfl
theorem tw3_2 : (Jvm.Cond.instanceMethod ({ cls := "java/lang/String", name := "isLatin1", desc := "()Z" } : Jvm.MethodName)) ∈ TT := tc3 (List.mem_of_getElem? (i := 2) rfl) rfl
theorem tw3_3 : (Jvm.Cond.selects "java/lang/String" ({ cls := "java/lang/String", name := "isLatin1", desc := "()Z" } : Jvm.MethodName) ({ cls := "java/lang/String", name := "isLatin1", desc := "()Z" } : Jvm.MethodName)) ∈ TT := tc3 (List.mem_of_getElem? (i := 3) rfl) rfl
theorem tw3_4 : (Jvm.Cond.code ({ cls := "java/lang/String", name := "isLatin1", desc := "()Z" } : Jvm.MethodName) prog_20_method_154_code (1 : Nat) (Option.some Jvm.ClassFile.FieldType.boolean)) ∈ TT := tc3 (List.mem_of_getElem? (i := 4) rfl) rfl
theorem tw3_5 : (Jvm.Cond.methodLink "java/lang/String" (495 : Nat) ({ cls := "java/lang/StringLatin1", name := "charAt", desc := "([BI)C" } : Jvm.MethodName)) ∈ TT := tc3 (List.mem_of_getElem? (i := 5) rfl) rfl
theorem tw3_6 : (Jvm.Cond.static ({ cls := "java/lang/StringLatin1", name := "charAt", desc := "([BI)C" } : Jvm.MethodName)) ∈ TT := tc3 (List.mem_of_getElem? (i := 6) rfl) rfl
theorem tw3_7 : (Jvm.Cond.code ({ cls := "java/lang/StringLatin1", name := "charAt", desc := "([BI)C" } : Jvm.MethodName) prog_21_method_2_code (2 : Nat) (Option.some Jvm.ClassFile.FieldType.char)) ∈ TT := tc3 (List.mem_of_getElem? (i := 7) rfl) rfl
theorem tw3_8 : (Jvm.Cond.methodLink "java/lang/StringLatin1" (9 : Nat) ({ cls := "java/lang/String", name := "checkIndex", desc := "(II)V" } : Jvm.MethodName)) ∈ TT := tc3 (List.mem_of_getElem? (i := 8) rfl) rfl
theorem tw3_9 : (Jvm.Cond.static ({ cls := "java/lang/String", name := "checkIndex", desc := "(II)V" } : Jvm.MethodName)) ∈ TT := tc3 (List.mem_of_getElem? (i := 9) rfl) rfl
theorem tw3_10 : (Jvm.Cond.code ({ cls := "java/lang/String", name := "checkIndex", desc := "(II)V" } : Jvm.MethodName) prog_20_method_155_code (2 : Nat) (Option.none : Option Jvm.ClassFile.FieldType)) ∈ TT := tc3 (List.mem_of_getElem? (i := 10) rfl) rfl
theorem tw3_11 : (Jvm.Cond.fieldLink "java/lang/String" (1053 : Nat) "jdk/internal/util/Preconditions" "SIOOBE_FORMATTER" "Ljava/util/function/BiFunction;") ∈ TT := tc3 (List.mem_of_getElem? (i := 11) rfl) rfl
theorem tw3_13 : (Jvm.Cond.methodLink "java/lang/String" (1059 : Nat) ({ cls := "jdk/internal/util/Preconditions", name := "checkIndex", desc := "(IILjava/util/function/BiFunction;)I" } : Jvm.MethodName)) ∈ TT := tc3 (List.mem_of_getElem? (i := 13) rfl) rfl
theorem tw3_14 : (Jvm.Cond.static ({ cls := "jdk/internal/util/Preconditions", name := "checkIndex", desc := "(IILjava/util/function/BiFunction;)I" } : Jvm.MethodName)) ∈ TT := tc3 (List.mem_of_getElem? (i := 14) rfl) rfl
theorem tw3_15 : (Jvm.Cond.code ({ cls := "jdk/internal/util/Preconditions", name := "checkIndex", desc := "(IILjava/util/function/BiFunction;)I" } : Jvm.MethodName) prog_28_method_11_code (3 : Nat) (Option.some Jvm.ClassFile.FieldType.int)) ∈ TT := tc3 (List.mem_of_getElem? (i := 15) rfl) rfl
theorem tw3_16 : (Jvm.Cond.methodLink "java/lang/String" (498 : Nat) ({ cls := "java/lang/StringUTF16", name := "charAt", desc := "([BI)C" } : Jvm.MethodName)) ∈ TT := tc3 (List.mem_of_getElem? (i := 16) rfl) rfl
theorem tw3_17 : (Jvm.Cond.static ({ cls := "java/lang/StringUTF16", name := "charAt", desc := "([BI)C" } : Jvm.MethodName)) ∈ TT := tc3 (List.mem_of_getElem? (i := 17) rfl) rfl
theorem tw3_18 : (Jvm.Cond.code ({ cls := "java/lang/StringUTF16", name := "charAt", desc := "([BI)C" } : Jvm.MethodName) prog_22_method_83_code (2 : Nat) (Option.some Jvm.ClassFile.FieldType.char)) ∈ TT := tc3 (List.mem_of_getElem? (i := 18) rfl) rfl
theorem tw3_19 : (Jvm.Cond.methodLink "java/lang/StringUTF16" (67 : Nat) ({ cls := "java/lang/StringUTF16", name := "checkIndex", desc := "(I[B)V" } : Jvm.MethodName)) ∈ TT := tc3 (List.mem_of_getElem? (i := 19) rfl) rfl
theorem tw3_20 : (Jvm.Cond.static ({ cls := "java/lang/StringUTF16", name := "checkIndex", desc := "(I[B)V" } : Jvm.MethodName)) ∈ TT := tc3 (List.mem_of_getElem? (i := 20) rfl) rfl
theorem tw3_21 : (Jvm.Cond.code ({ cls := "java/lang/StringUTF16", name := "checkIndex", desc := "(I[B)V" } : Jvm.MethodName) prog_22_method_91_code (2 : Nat) (Option.none : Option Jvm.ClassFile.FieldType)) ∈ TT := tc3 (List.mem_of_getElem? (i := 21) rfl) rfl
theorem tw3_22 : (Jvm.Cond.methodLink "java/lang/StringUTF16" (48 : Nat) ({ cls := "java/lang/StringUTF16", name := "length", desc := "([B)I" } : Jvm.MethodName)) ∈ TT := tc3 (List.mem_of_getElem? (i := 22) rfl) rfl
theorem tw3_23 : (Jvm.Cond.static ({ cls := "java/lang/StringUTF16", name := "length", desc := "([B)I" } : Jvm.MethodName)) ∈ TT := tc3 (List.mem_of_getElem? (i := 23) rfl) rfl
theorem tw3_24 : (Jvm.Cond.code ({ cls := "java/lang/StringUTF16", name := "length", desc := "([B)I" } : Jvm.MethodName) prog_22_method_6_code (1 : Nat) (Option.some Jvm.ClassFile.FieldType.int)) ∈ TT := tc3 (List.mem_of_getElem? (i := 24) rfl) rfl
theorem tw3_25 : (Jvm.Cond.methodLink "java/lang/StringUTF16" (414 : Nat) ({ cls := "java/lang/String", name := "checkIndex", desc := "(II)V" } : Jvm.MethodName)) ∈ TT := tc3 (List.mem_of_getElem? (i := 25) rfl) rfl
theorem tw3_26 : (Jvm.Cond.methodLink "java/lang/StringUTF16" (71 : Nat) ({ cls := "java/lang/StringUTF16", name := "getCha\x72", desc := "([BI)C" } : Jvm.MethodName)) ∈ TT := tc3 (List.mem_of_getElem? (i := 26) rfl) rfl
theorem tw3_27 : (Jvm.Cond.static ({ cls := "java/lang/StringUTF16", name := "getCha\x72", desc := "([BI)C" } : Jvm.MethodName)) ∈ TT := tc3 (List.mem_of_getElem? (i := 27) rfl) rfl
theorem tw3_28 : (Jvm.Cond.code ({ cls := "java/lang/StringUTF16", name := "getCha\x72", desc := "([BI)C" } : Jvm.MethodName) prog_22_method_5_code (2 : Nat) (Option.some Jvm.ClassFile.FieldType.char)) ∈ TT := tc3 (List.mem_of_getElem? (i := 28) rfl) rfl
theorem tw3_29 : (Jvm.Cond.fieldLink "java/lang/StringUTF16" (44 : Nat) "java/lang/StringUTF16" "$assertionsDisabled" "Z") ∈ TT := tc3 (List.mem_of_getElem? (i := 29) rfl) rfl
theorem tw3_31 : (Jvm.Cond.fieldLink "java/lang/StringUTF16" (59 : Nat) "java/lang/StringUTF16" "HI_BYTE_SHIFT" "I") ∈ TT := tc3 (List.mem_of_getElem? (i := 31) rfl) rfl
theorem tw3_33 : (Jvm.Cond.fieldLink "java/lang/StringUTF16" (63 : Nat) "java/lang/StringUTF16" "LO_BYTE_SHIFT" "I") ∈ TT := tc3 (List.mem_of_getElem? (i := 33) rfl) rfl
theorem tw3_35 : (Jvm.Cond.methodLink "ThrowArms$Reade\x72" (71 : Nat) ({ cls := "ThrowArms$Reade\x72", name := "readArm", desc := "()Z" } : Jvm.MethodName)) ∈ TT := tc3 (List.mem_of_getElem? (i := 35) rfl) rfl
theorem tw3_37 : (Jvm.Cond.instanceMethod ({ cls := "ThrowArms$Reade\x72", name := "readArm", desc := "()Z" } : Jvm.MethodName)) ∈ TT := tc3 (List.mem_of_getElem? (i := 37) rfl) rfl
theorem tw3_38 : (Jvm.Cond.code ({ cls := "ThrowArms$Reade\x72", name := "readArm", desc := "()Z" } : Jvm.MethodName) prog_8_method_5_code (3 : Nat) (Option.some Jvm.ClassFile.FieldType.boolean)) ∈ TT := tc3 (List.mem_of_getElem? (i := 38) rfl) rfl
theorem tw3_39 : (Jvm.Cond.methodLink "ThrowArms$Reade\x72" (58 : Nat) ({ cls := "ThrowArms$Reade\x72", name := "fail", desc := "(I)Z" } : Jvm.MethodName)) ∈ TT := tc3 (List.mem_of_getElem? (i := 39) rfl) rfl
theorem tw3_41 : (Jvm.Cond.instanceMethod ({ cls := "ThrowArms$Reade\x72", name := "fail", desc := "(I)Z" } : Jvm.MethodName)) ∈ TT := tc3 (List.mem_of_getElem? (i := 41) rfl) rfl
theorem tw3_42 : (Jvm.Cond.code ({ cls := "ThrowArms$Reade\x72", name := "fail", desc := "(I)Z" } : Jvm.MethodName) prog_8_method_3_code (2 : Nat) (Option.some Jvm.ClassFile.FieldType.boolean)) ∈ TT := tc3 (List.mem_of_getElem? (i := 42) rfl) rfl
theorem tw3_43 : (Jvm.Cond.methodLink "ThrowArms$Reade\x72" (93 : Nat) ({ cls := "ThrowArms$Reade\x72", name := "readName", desc := "(I)Z" } : Jvm.MethodName)) ∈ TT := tc3 (List.mem_of_getElem? (i := 43) rfl) rfl
theorem tw3_45 : (Jvm.Cond.instanceMethod ({ cls := "ThrowArms$Reade\x72", name := "readName", desc := "(I)Z" } : Jvm.MethodName)) ∈ TT := tc3 (List.mem_of_getElem? (i := 45) rfl) rfl
theorem tw3_46 : (Jvm.Cond.code ({ cls := "ThrowArms$Reade\x72", name := "readName", desc := "(I)Z" } : Jvm.MethodName) prog_8_method_6_code (2 : Nat) (Option.some Jvm.ClassFile.FieldType.boolean)) ∈ TT := tc3 (List.mem_of_getElem? (i := 46) rfl) rfl
theorem tw3_47 : (Jvm.Cond.methodLink "ThrowArms$Reade\x72" (116 : Nat) ({ cls := "ThrowArms$Reade\x72", name := "isReserved", desc := "()Z" } : Jvm.MethodName)) ∈ TT := tc3 (List.mem_of_getElem? (i := 47) rfl) rfl
theorem tw3_49 : (Jvm.Cond.instanceMethod ({ cls := "ThrowArms$Reade\x72", name := "isReserved", desc := "()Z" } : Jvm.MethodName)) ∈ TT := tc3 (List.mem_of_getElem? (i := 49) rfl) rfl
theorem tw3_50 : (Jvm.Cond.code ({ cls := "ThrowArms$Reade\x72", name := "isReserved", desc := "()Z" } : Jvm.MethodName) prog_8_method_7_code (1 : Nat) (Option.some Jvm.ClassFile.FieldType.boolean)) ∈ TT := tc3 (List.mem_of_getElem? (i := 50) rfl) rfl
theorem tw3_58 : (Jvm.Cond.methodLink "ThrowArms$Reade\x72" (123 : Nat) ({ cls := "ThrowArms$Told", name := "armNamed", desc := "(J)I" } : Jvm.MethodName)) ∈ TT := tc3 (List.mem_of_getElem? (i := 58) rfl) rfl
theorem tw3_59 : (Jvm.Cond.instanceMethod ({ cls := "ThrowArms$Told", name := "armNamed", desc := "(J)I" } : Jvm.MethodName)) ∈ TT := tc3 (List.mem_of_getElem? (i := 59) rfl) rfl
theorem tw3_60 : (Jvm.Cond.selects "ThrowArms$Told" ({ cls := "ThrowArms$Told", name := "armNamed", desc := "(J)I" } : Jvm.MethodName) ({ cls := "ThrowArms$Told", name := "armNamed", desc := "(J)I" } : Jvm.MethodName)) ∈ TT := tc3 (List.mem_of_getElem? (i := 60) rfl) rfl
theorem tw3_61 : (Jvm.Cond.code ({ cls := "ThrowArms$Told", name := "armNamed", desc := "(J)I" } : Jvm.MethodName) prog_11_method_9_code (4 : Nat) (Option.some Jvm.ClassFile.FieldType.int)) ∈ TT := tc3 (List.mem_of_getElem? (i := 61) rfl) rfl
theorem tw3_62 : (Jvm.Cond.methodLink "ThrowArms$Reade\x72" (96 : Nat) ({ cls := "ThrowArms$Reade\x72", name := "readHand", desc := "(I)Z" } : Jvm.MethodName)) ∈ TT := tc3 (List.mem_of_getElem? (i := 62) rfl) rfl
theorem tw3_64 : (Jvm.Cond.instanceMethod ({ cls := "ThrowArms$Reade\x72", name := "readHand", desc := "(I)Z" } : Jvm.MethodName)) ∈ TT := tc3 (List.mem_of_getElem? (i := 64) rfl) rfl
theorem tw3_65 : (Jvm.Cond.code ({ cls := "ThrowArms$Reade\x72", name := "readHand", desc := "(I)Z" } : Jvm.MethodName) prog_8_method_8_code (3 : Nat) (Option.some Jvm.ClassFile.FieldType.boolean)) ∈ TT := tc3 (List.mem_of_getElem? (i := 65) rfl) rfl
theorem tw3_68 : (Jvm.Cond.methodLink "ThrowArms$Reade\x72" (103 : Nat) ({ cls := "ThrowArms$Told", name := "highestTrait", desc := "(II)I" } : Jvm.MethodName)) ∈ TT := tc3 (List.mem_of_getElem? (i := 68) rfl) rfl
theorem tw3_69 : (Jvm.Cond.instanceMethod ({ cls := "ThrowArms$Told", name := "highestTrait", desc := "(II)I" } : Jvm.MethodName)) ∈ TT := tc3 (List.mem_of_getElem? (i := 69) rfl) rfl
theorem tw3_70 : (Jvm.Cond.selects "ThrowArms$Told" ({ cls := "ThrowArms$Told", name := "highestTrait", desc := "(II)I" } : Jvm.MethodName) ({ cls := "ThrowArms$Told", name := "highestTrait", desc := "(II)I" } : Jvm.MethodName)) ∈ TT := tc3 (List.mem_of_getElem? (i := 70) rfl) rfl
theorem tw3_71 : (Jvm.Cond.code ({ cls := "ThrowArms$Told", name := "highestTrait", desc := "(II)I" } : Jvm.MethodName) prog_11_method_6_code (3 : Nat) (Option.some Jvm.ClassFile.FieldType.int)) ∈ TT := tc3 (List.mem_of_getElem? (i := 71) rfl) rfl
theorem tw3_72 : (Jvm.Cond.methodLink "ThrowArms$Told" (53 : Nat) ({ cls := "ThrowArms$Told", name := "trait", desc := "(II)I" } : Jvm.MethodName)) ∈ TT := tc3 (List.mem_of_getElem? (i := 72) rfl) rfl
theorem tw3_73 : (Jvm.Cond.instanceMethod ({ cls := "ThrowArms$Told", name := "trait", desc := "(II)I" } : Jvm.MethodName)) ∈ TT := tc3 (List.mem_of_getElem? (i := 73) rfl) rfl
theorem tw3_74 : (Jvm.Cond.selects "ThrowArms$Told" ({ cls := "ThrowArms$Told", name := "trait", desc := "(II)I" } : Jvm.MethodName) ({ cls := "ThrowArms$Told", name := "trait", desc := "(II)I" } : Jvm.MethodName)) ∈ TT := tc3 (List.mem_of_getElem? (i := 74) rfl) rfl
theorem tw3_75 : (Jvm.Cond.code ({ cls := "ThrowArms$Told", name := "trait", desc := "(II)I" } : Jvm.MethodName) prog_11_method_4_code (3 : Nat) (Option.some Jvm.ClassFile.FieldType.int)) ∈ TT := tc3 (List.mem_of_getElem? (i := 75) rfl) rfl
theorem tw3_78 : (Jvm.Cond.methodLink "ThrowArms$Reade\x72" (107 : Nat) ({ cls := "ThrowArms$Reade\x72", name := "readWhole", desc := "(II)Z" } : Jvm.MethodName)) ∈ TT := tc3 (List.mem_of_getElem? (i := 78) rfl) rfl
theorem tw3_80 : (Jvm.Cond.instanceMethod ({ cls := "ThrowArms$Reade\x72", name := "readWhole", desc := "(II)Z" } : Jvm.MethodName)) ∈ TT := tc3 (List.mem_of_getElem? (i := 80) rfl) rfl
theorem tw3_81 : (Jvm.Cond.code ({ cls := "ThrowArms$Reade\x72", name := "readWhole", desc := "(II)Z" } : Jvm.MethodName) prog_8_method_12_code (3 : Nat) (Option.some Jvm.ClassFile.FieldType.boolean)) ∈ TT := tc3 (List.mem_of_getElem? (i := 81) rfl) rfl
theorem tw3_83 : (Jvm.Cond.methodLink "ThrowArms$Reade\x72" (112 : Nat) ({ cls := "ThrowArms$Told", name := "setTrait", desc := "(III)V" } : Jvm.MethodName)) ∈ TT := tc3 (List.mem_of_getElem? (i := 83) rfl) rfl
theorem tw3_84 : (Jvm.Cond.instanceMethod ({ cls := "ThrowArms$Told", name := "setTrait", desc := "(III)V" } : Jvm.MethodName)) ∈ TT := tc3 (List.mem_of_getElem? (i := 84) rfl) rfl
theorem tw3_85 : (Jvm.Cond.selects "ThrowArms$Told" ({ cls := "ThrowArms$Told", name := "setTrait", desc := "(III)V" } : Jvm.MethodName) ({ cls := "ThrowArms$Told", name := "setTrait", desc := "(III)V" } : Jvm.MethodName)) ∈ TT := tc3 (List.mem_of_getElem? (i := 85) rfl) rfl
theorem tw3_86 : (Jvm.Cond.code ({ cls := "ThrowArms$Told", name := "setTrait", desc := "(III)V" } : Jvm.MethodName) prog_11_method_5_code (4 : Nat) (Option.none : Option Jvm.ClassFile.FieldType)) ∈ TT := tc3 (List.mem_of_getElem? (i := 86) rfl) rfl
theorem tw3_87 : (Jvm.Cond.methodLink "ThrowArms$Reade\x72" (76 : Nat) ({ cls := "ThrowArms$Reade\x72", name := "readGame", desc := "()Z" } : Jvm.MethodName)) ∈ TT := tc3 (List.mem_of_getElem? (i := 87) rfl) rfl
theorem tw3_89 : (Jvm.Cond.instanceMethod ({ cls := "ThrowArms$Reade\x72", name := "readGame", desc := "()Z" } : Jvm.MethodName)) ∈ TT := tc3 (List.mem_of_getElem? (i := 89) rfl) rfl
theorem tw3_90 : (Jvm.Cond.code ({ cls := "ThrowArms$Reade\x72", name := "readGame", desc := "()Z" } : Jvm.MethodName) prog_8_method_9_code (5 : Nat) (Option.some Jvm.ClassFile.FieldType.boolean)) ∈ TT := tc3 (List.mem_of_getElem? (i := 90) rfl) rfl
theorem tw3_91 : (Jvm.Cond.methodLink "ThrowArms$Reade\x72" (138 : Nat) ({ cls := "ThrowArms$Told", name := "fact", desc := "(II)I" } : Jvm.MethodName)) ∈ TT := tc3 (List.mem_of_getElem? (i := 91) rfl) rfl
theorem tw3_92 : (Jvm.Cond.instanceMethod ({ cls := "ThrowArms$Told", name := "fact", desc := "(II)I" } : Jvm.MethodName)) ∈ TT := tc3 (List.mem_of_getElem? (i := 92) rfl) rfl
theorem tw3_93 : (Jvm.Cond.selects "ThrowArms$Told" ({ cls := "ThrowArms$Told", name := "fact", desc := "(II)I" } : Jvm.MethodName) ({ cls := "ThrowArms$Told", name := "fact", desc := "(II)I" } : Jvm.MethodName)) ∈ TT := tc3 (List.mem_of_getElem? (i := 93) rfl) rfl
theorem tw3_94 : (Jvm.Cond.code ({ cls := "ThrowArms$Told", name := "fact", desc := "(II)I" } : Jvm.MethodName) prog_11_method_7_code (3 : Nat) (Option.some Jvm.ClassFile.FieldType.int)) ∈ TT := tc3 (List.mem_of_getElem? (i := 94) rfl) rfl
theorem tw3_99 : (Jvm.Cond.methodLink "ThrowArms$Reade\x72" (81 : Nat) ({ cls := "ThrowArms$Reade\x72", name := "readRest", desc := "()Z" } : Jvm.MethodName)) ∈ TT := tc3 (List.mem_of_getElem? (i := 99) rfl) rfl
theorem tw3_101 : (Jvm.Cond.instanceMethod ({ cls := "ThrowArms$Reade\x72", name := "readRest", desc := "()Z" } : Jvm.MethodName)) ∈ TT := tc3 (List.mem_of_getElem? (i := 101) rfl) rfl
theorem tw3_102 : (Jvm.Cond.code ({ cls := "ThrowArms$Reade\x72", name := "readRest", desc := "()Z" } : Jvm.MethodName) prog_8_method_10_code (3 : Nat) (Option.some Jvm.ClassFile.FieldType.boolean)) ∈ TT := tc3 (List.mem_of_getElem? (i := 102) rfl) rfl
theorem tw3_103 : (Jvm.Cond.methodLink "ThrowArms$Reade\x72" (86 : Nat) ({ cls := "ThrowArms$Reade\x72", name := "readBound", desc := "(I)Z" } : Jvm.MethodName)) ∈ TT := tc3 (List.mem_of_getElem? (i := 103) rfl) rfl
theorem tw3_105 : (Jvm.Cond.instanceMethod ({ cls := "ThrowArms$Reade\x72", name := "readBound", desc := "(I)Z" } : Jvm.MethodName)) ∈ TT := tc3 (List.mem_of_getElem? (i := 105) rfl) rfl
theorem tw3_106 : (Jvm.Cond.code ({ cls := "ThrowArms$Reade\x72", name := "readBound", desc := "(I)Z" } : Jvm.MethodName) prog_8_method_11_code (2 : Nat) (Option.some Jvm.ClassFile.FieldType.boolean)) ∈ TT := tc3 (List.mem_of_getElem? (i := 106) rfl) rfl
theorem tw3_111 : (Jvm.Cond.methodLink "ThrowArms" (125 : Nat) ({ cls := "ThrowArms$Told", name := "copyFrom", desc := "(LThrowArms$Told;)V" } : Jvm.MethodName)) ∈ TT := tc3 (List.mem_of_getElem? (i := 111) rfl) rfl
theorem tw3_112 : (Jvm.Cond.instanceMethod ({ cls := "ThrowArms$Told", name := "copyFrom", desc := "(LThrowArms$Told;)V" } : Jvm.MethodName)) ∈ TT := tc3 (List.mem_of_getElem? (i := 112) rfl) rfl
theorem tw3_113 : (Jvm.Cond.selects "ThrowArms$Told" ({ cls := "ThrowArms$Told", name := "copyFrom", desc := "(LThrowArms$Told;)V" } : Jvm.MethodName) ({ cls := "ThrowArms$Told", name := "copyFrom", desc := "(LThrowArms$Told;)V" } : Jvm.MethodName)) ∈ TT := tc3 (List.mem_of_getElem? (i := 113) rfl) rfl
theorem tw3_114 : (Jvm.Cond.code ({ cls := "ThrowArms$Told", name := "copyFrom", desc := "(LThrowArms$Told;)V" } : Jvm.MethodName) prog_11_method_3_code (2 : Nat) (Option.none : Option Jvm.ClassFile.FieldType)) ∈ TT := tc3 (List.mem_of_getElem? (i := 114) rfl) rfl
theorem tw3_115 : (Jvm.Cond.methodLink "ThrowArms" (129 : Nat) ({ cls := "ThrowArms$Plan", name := "empty", desc := "()V" } : Jvm.MethodName)) ∈ TT := tc3 (List.mem_of_getElem? (i := 115) rfl) rfl
theorem tw3_116 : (Jvm.Cond.instanceMethod ({ cls := "ThrowArms$Plan", name := "empty", desc := "()V" } : Jvm.MethodName)) ∈ TT := tc3 (List.mem_of_getElem? (i := 116) rfl) rfl
theorem tw3_117 : (Jvm.Cond.selects "ThrowArms$Plan" ({ cls := "ThrowArms$Plan", name := "empty", desc := "()V" } : Jvm.MethodName) ({ cls := "ThrowArms$Plan", name := "empty", desc := "()V" } : Jvm.MethodName)) ∈ TT := tc3 (List.mem_of_getElem? (i := 117) rfl) rfl
theorem tw3_118 : (Jvm.Cond.code ({ cls := "ThrowArms$Plan", name := "empty", desc := "()V" } : Jvm.MethodName) prog_7_method_12_code (2 : Nat) (Option.none : Option Jvm.ClassFile.FieldType)) ∈ TT := tc3 (List.mem_of_getElem? (i := 118) rfl) rfl
theorem tw3_119 : (Jvm.Cond.methodLink "ThrowArms$Plan" (48 : Nat) ({ cls := "ThrowArms$Plan", name := "emptyGame", desc := "(I)V" } : Jvm.MethodName)) ∈ TT := tc3 (List.mem_of_getElem? (i := 119) rfl) rfl
theorem tw3_120 : (Jvm.Cond.instanceMethod ({ cls := "ThrowArms$Plan", name := "emptyGame", desc := "(I)V" } : Jvm.MethodName)) ∈ TT := tc3 (List.mem_of_getElem? (i := 120) rfl) rfl
theorem tw3_121 : (Jvm.Cond.selects "ThrowArms$Plan" ({ cls := "ThrowArms$Plan", name := "emptyGame", desc := "(I)V" } : Jvm.MethodName) ({ cls := "ThrowArms$Plan", name := "emptyGame", desc := "(I)V" } : Jvm.MethodName)) ∈ TT := tc3 (List.mem_of_getElem? (i := 121) rfl) rfl
theorem tw3_122 : (Jvm.Cond.code ({ cls := "ThrowArms$Plan", name := "emptyGame", desc := "(I)V" } : Jvm.MethodName) prog_7_method_11_code (3 : Nat) (Option.none : Option Jvm.ClassFile.FieldType)) ∈ TT := tc3 (List.mem_of_getElem? (i := 122) rfl) rfl
theorem tw3_123 : (Jvm.Cond.methodLink "ThrowArms$Plan" (44 : Nat) ({ cls := "ThrowArms$Plan", name := "remove", desc := "(II)V" } : Jvm.MethodName)) ∈ TT := tc3 (List.mem_of_getElem? (i := 123) rfl) rfl
theorem tw3_124 : (Jvm.Cond.instanceMethod ({ cls := "ThrowArms$Plan", name := "remove", desc := "(II)V" } : Jvm.MethodName)) ∈ TT := tc3 (List.mem_of_getElem? (i := 124) rfl) rfl
theorem tw3_125 : (Jvm.Cond.selects "ThrowArms$Plan" ({ cls := "ThrowArms$Plan", name := "remove", desc := "(II)V" } : Jvm.MethodName) ({ cls := "ThrowArms$Plan", name := "remove", desc := "(II)V" } : Jvm.MethodName)) ∈ TT := tc3 (List.mem_of_getElem? (i := 125) rfl) rfl
theorem tw3_126 : (Jvm.Cond.code ({ cls := "ThrowArms$Plan", name := "remove", desc := "(II)V" } : Jvm.MethodName) prog_7_method_8_code (4 : Nat) (Option.none : Option Jvm.ClassFile.FieldType)) ∈ TT := tc3 (List.mem_of_getElem? (i := 126) rfl) rfl
theorem tw3_127 : (Jvm.Cond.methodLink "ThrowArms$Plan" (38 : Nat) ({ cls := "ThrowArms$Plan", name := "armAt", desc := "(II)I" } : Jvm.MethodName)) ∈ TT := tc3 (List.mem_of_getElem? (i := 127) rfl) rfl
theorem tw3_128 : (Jvm.Cond.instanceMethod ({ cls := "ThrowArms$Plan", name := "armAt", desc := "(II)I" } : Jvm.MethodName)) ∈ TT := tc3 (List.mem_of_getElem? (i := 128) rfl) rfl
theorem tw3_129 : (Jvm.Cond.selects "ThrowArms$Plan" ({ cls := "ThrowArms$Plan", name := "armAt", desc := "(II)I" } : Jvm.MethodName) ({ cls := "ThrowArms$Plan", name := "armAt", desc := "(II)I" } : Jvm.MethodName)) ∈ TT := tc3 (List.mem_of_getElem? (i := 129) rfl) rfl
theorem tw3_130 : (Jvm.Cond.code ({ cls := "ThrowArms$Plan", name := "armAt", desc := "(II)I" } : Jvm.MethodName) prog_7_method_2_code (3 : Nat) (Option.some Jvm.ClassFile.FieldType.int)) ∈ TT := tc3 (List.mem_of_getElem? (i := 130) rfl) rfl
theorem tw3_131 : (Jvm.Cond.methodLink "ThrowArms$Plan" (41 : Nat) ({ cls := "ThrowArms$Plan", name := "throwsAt", desc := "(II)I" } : Jvm.MethodName)) ∈ TT := tc3 (List.mem_of_getElem? (i := 131) rfl) rfl
theorem tw3_132 : (Jvm.Cond.instanceMethod ({ cls := "ThrowArms$Plan", name := "throwsAt", desc := "(II)I" } : Jvm.MethodName)) ∈ TT := tc3 (List.mem_of_getElem? (i := 132) rfl) rfl
theorem tw3_133 : (Jvm.Cond.selects "ThrowArms$Plan" ({ cls := "ThrowArms$Plan", name := "throwsAt", desc := "(II)I" } : Jvm.MethodName) ({ cls := "ThrowArms$Plan", name := "throwsAt", desc := "(II)I" } : Jvm.MethodName)) ∈ TT := tc3 (List.mem_of_getElem? (i := 133) rfl) rfl
theorem tw3_134 : (Jvm.Cond.code ({ cls := "ThrowArms$Plan", name := "throwsAt", desc := "(II)I" } : Jvm.MethodName) prog_7_method_3_code (3 : Nat) (Option.some Jvm.ClassFile.FieldType.int)) ∈ TT := tc3 (List.mem_of_getElem? (i := 134) rfl) rfl
theorem tw3_135 : (Jvm.Cond.methodLink "ThrowArms$Plan" (34 : Nat) ({ cls := "ThrowArms$Plan", name := "setAt", desc := "(IIII)V" } : Jvm.MethodName)) ∈ TT := tc3 (List.mem_of_getElem? (i := 135) rfl) rfl
theorem tw3_137 : (Jvm.Cond.instanceMethod ({ cls := "ThrowArms$Plan", name := "setAt", desc := "(IIII)V" } : Jvm.MethodName)) ∈ TT := tc3 (List.mem_of_getElem? (i := 137) rfl) rfl
theorem tw3_138 : (Jvm.Cond.code ({ cls := "ThrowArms$Plan", name := "setAt", desc := "(IIII)V" } : Jvm.MethodName) prog_7_method_10_code (5 : Nat) (Option.none : Option Jvm.ClassFile.FieldType)) ∈ TT := tc3 (List.mem_of_getElem? (i := 138) rfl) rfl
theorem tw3_139 : (Jvm.Cond.methodLink "ThrowArms" (138 : Nat) ({ cls := "ThrowArms", name := "answe\x72", desc := "(I)I" } : Jvm.MethodName)) ∈ TT := tc3 (List.mem_of_getElem? (i := 139) rfl) rfl
theorem tw3_141 : (Jvm.Cond.instanceMethod ({ cls := "ThrowArms", name := "answe\x72", desc := "(I)I" } : Jvm.MethodName)) ∈ TT := tc3 (List.mem_of_getElem? (i := 141) rfl) rfl
theorem tw3_142 : (Jvm.Cond.code ({ cls := "ThrowArms", name := "answe\x72", desc := "(I)I" } : Jvm.MethodName) prog_1_method_59_code (2 : Nat) (Option.some Jvm.ClassFile.FieldType.int)) ∈ TT := tc3 (List.mem_of_getElem? (i := 142) rfl) rfl
theorem tw3_143 : (Jvm.Cond.methodLink "ThrowArmsLaw" (28 : Nat) ({ cls := "ThrowArms", name := "fault", desc := "()I" } : Jvm.MethodName)) ∈ TT := tc3 (List.mem_of_getElem? (i := 143) rfl) rfl
theorem tw3_144 : (Jvm.Cond.instanceMethod ({ cls := "ThrowArms", name := "fault", desc := "()I" } : Jvm.MethodName)) ∈ TT := tc3 (List.mem_of_getElem? (i := 144) rfl) rfl
theorem tw3_145 : (Jvm.Cond.selects "ThrowArms" ({ cls := "ThrowArms", name := "fault", desc := "()I" } : Jvm.MethodName) ({ cls := "ThrowArms", name := "fault", desc := "()I" } : Jvm.MethodName)) ∈ TT := tc3 (List.mem_of_getElem? (i := 145) rfl) rfl
theorem tw3_146 : (Jvm.Cond.code ({ cls := "ThrowArms", name := "fault", desc := "()I" } : Jvm.MethodName) prog_1_method_4_code (1 : Nat) (Option.some Jvm.ClassFile.FieldType.int)) ∈ TT := tc3 (List.mem_of_getElem? (i := 146) rfl) rfl
theorem tw3_147 : (Jvm.Cond.methodLink "ThrowArmsLaw" (33 : Nat) ({ cls := "ThrowArms", name := "where", desc := "()I" } : Jvm.MethodName)) ∈ TT := tc3 (List.mem_of_getElem? (i := 147) rfl) rfl
theorem tw3_148 : (Jvm.Cond.instanceMethod ({ cls := "ThrowArms", name := "where", desc := "()I" } : Jvm.MethodName)) ∈ TT := tc3 (List.mem_of_getElem? (i := 148) rfl) rfl
theorem tw3_149 : (Jvm.Cond.selects "ThrowArms" ({ cls := "ThrowArms", name := "where", desc := "()I" } : Jvm.MethodName) ({ cls := "ThrowArms", name := "where", desc := "()I" } : Jvm.MethodName)) ∈ TT := tc3 (List.mem_of_getElem? (i := 149) rfl) rfl
theorem tw3_150 : (Jvm.Cond.code ({ cls := "ThrowArms", name := "where", desc := "()I" } : Jvm.MethodName) prog_1_method_5_code (1 : Nat) (Option.some Jvm.ClassFile.FieldType.int)) ∈ TT := tc3 (List.mem_of_getElem? (i := 150) rfl) rfl
theorem tw3_151 : (Jvm.Cond.methodLink "ThrowArmsLaw" (37 : Nat) ({ cls := "ThrowArms", name := "about", desc := "(I)I" } : Jvm.MethodName)) ∈ TT := tc3 (List.mem_of_getElem? (i := 151) rfl) rfl
theorem tw3_152 : (Jvm.Cond.instanceMethod ({ cls := "ThrowArms", name := "about", desc := "(I)I" } : Jvm.MethodName)) ∈ TT := tc3 (List.mem_of_getElem? (i := 152) rfl) rfl
theorem tw3_153 : (Jvm.Cond.selects "ThrowArms" ({ cls := "ThrowArms", name := "about", desc := "(I)I" } : Jvm.MethodName) ({ cls := "ThrowArms", name := "about", desc := "(I)I" } : Jvm.MethodName)) ∈ TT := tc3 (List.mem_of_getElem? (i := 153) rfl) rfl
theorem tw3_154 : (Jvm.Cond.code ({ cls := "ThrowArms", name := "about", desc := "(I)I" } : Jvm.MethodName) prog_1_method_6_code (2 : Nat) (Option.some Jvm.ClassFile.FieldType.int)) ∈ TT := tc3 (List.mem_of_getElem? (i := 154) rfl) rfl
theorem tw3_155 : (Jvm.Cond.methodLink "ThrowArms" (141 : Nat) ({ cls := "ThrowArms", name := "hasText", desc := "()Z" } : Jvm.MethodName)) ∈ TT := tc3 (List.mem_of_getElem? (i := 155) rfl) rfl
theorem tw3_157 : (Jvm.Cond.instanceMethod ({ cls := "ThrowArms", name := "hasText", desc := "()Z" } : Jvm.MethodName)) ∈ TT := tc3 (List.mem_of_getElem? (i := 157) rfl) rfl
theorem tw3_158 : (Jvm.Cond.code ({ cls := "ThrowArms", name := "hasText", desc := "()Z" } : Jvm.MethodName) prog_1_method_60_code (1 : Nat) (Option.some Jvm.ClassFile.FieldType.boolean)) ∈ TT := tc3 (List.mem_of_getElem? (i := 158) rfl) rfl
theorem tw3_159 : (Jvm.Cond.methodLink "ThrowArms" (145 : Nat) ({ cls := "ThrowArms", name := "tellAll", desc := "(I)I" } : Jvm.MethodName)) ∈ TT := tc3 (List.mem_of_getElem? (i := 159) rfl) rfl
theorem tw3_161 : (Jvm.Cond.instanceMethod ({ cls := "ThrowArms", name := "tellAll", desc := "(I)I" } : Jvm.MethodName)) ∈ TT := tc3 (List.mem_of_getElem? (i := 161) rfl) rfl
theorem tw3_162 : (Jvm.Cond.code ({ cls := "ThrowArms", name := "tellAll", desc := "(I)I" } : Jvm.MethodName) prog_1_method_7_code (2 : Nat) (Option.some Jvm.ClassFile.FieldType.int)) ∈ TT := tc3 (List.mem_of_getElem? (i := 162) rfl) rfl
theorem tw3_163 : (Jvm.Cond.methodLink "ThrowArms" (151 : Nat) ({ cls := "ThrowArms$Book", name := "allOutings", desc := "()I" } : Jvm.MethodName)) ∈ TT := tc3 (List.mem_of_getElem? (i := 163) rfl) rfl
theorem tw3_164 : (Jvm.Cond.instanceMethod ({ cls := "ThrowArms$Book", name := "allOutings", desc := "()I" } : Jvm.MethodName)) ∈ TT := tc3 (List.mem_of_getElem? (i := 164) rfl) rfl
theorem tw3_165 : (Jvm.Cond.selects "ThrowArms$Book" ({ cls := "ThrowArms$Book", name := "allOutings", desc := "()I" } : Jvm.MethodName) ({ cls := "ThrowArms$Book", name := "allOutings", desc := "()I" } : Jvm.MethodName)) ∈ TT := tc3 (List.mem_of_getElem? (i := 165) rfl) rfl
theorem tw3_166 : (Jvm.Cond.code ({ cls := "ThrowArms$Book", name := "allOutings", desc := "()I" } : Jvm.MethodName) prog_3_method_10_code (3 : Nat) (Option.some Jvm.ClassFile.FieldType.int)) ∈ TT := tc3 (List.mem_of_getElem? (i := 166) rfl) rfl
theorem tw3_167 : (Jvm.Cond.methodLink "ThrowArmsLaw" (41 : Nat) ({ cls := "ThrowArms", name := "arm", desc := "(II)I" } : Jvm.MethodName)) ∈ TT := tc3 (List.mem_of_getElem? (i := 167) rfl) rfl
theorem tw3_168 : (Jvm.Cond.instanceMethod ({ cls := "ThrowArms", name := "arm", desc := "(II)I" } : Jvm.MethodName)) ∈ TT := tc3 (List.mem_of_getElem? (i := 168) rfl) rfl
theorem tw3_169 : (Jvm.Cond.selects "ThrowArms" ({ cls := "ThrowArms", name := "arm", desc := "(II)I" } : Jvm.MethodName) ({ cls := "ThrowArms", name := "arm", desc := "(II)I" } : Jvm.MethodName)) ∈ TT := tc3 (List.mem_of_getElem? (i := 169) rfl) rfl
theorem tw3_170 : (Jvm.Cond.code ({ cls := "ThrowArms", name := "arm", desc := "(II)I" } : Jvm.MethodName) prog_1_method_8_code (3 : Nat) (Option.some Jvm.ClassFile.FieldType.int)) ∈ TT := tc3 (List.mem_of_getElem? (i := 170) rfl) rfl
theorem tw3_171 : (Jvm.Cond.methodLink "ThrowArms" (162 : Nat) ({ cls := "ThrowArms", name := "hasArm", desc := "(I)Z" } : Jvm.MethodName)) ∈ TT := tc3 (List.mem_of_getElem? (i := 171) rfl) rfl
theorem tw3_173 : (Jvm.Cond.instanceMethod ({ cls := "ThrowArms", name := "hasArm", desc := "(I)Z" } : Jvm.MethodName)) ∈ TT := tc3 (List.mem_of_getElem? (i := 173) rfl) rfl
theorem tw3_174 : (Jvm.Cond.code ({ cls := "ThrowArms", name := "hasArm", desc := "(I)Z" } : Jvm.MethodName) prog_1_method_61_code (2 : Nat) (Option.some Jvm.ClassFile.FieldType.boolean)) ∈ TT := tc3 (List.mem_of_getElem? (i := 174) rfl) rfl
theorem tw3_175 : (Jvm.Cond.methodLink "ThrowArms" (165 : Nat) ({ cls := "ThrowArms", name := "tellArm", desc := "(II)I" } : Jvm.MethodName)) ∈ TT := tc3 (List.mem_of_getElem? (i := 175) rfl) rfl
theorem tw3_177 : (Jvm.Cond.instanceMethod ({ cls := "ThrowArms", name := "tellArm", desc := "(II)I" } : Jvm.MethodName)) ∈ TT := tc3 (List.mem_of_getElem? (i := 177) rfl) rfl
theorem tw3_178 : (Jvm.Cond.code ({ cls := "ThrowArms", name := "tellArm", desc := "(II)I" } : Jvm.MethodName) prog_1_method_9_code (3 : Nat) (Option.some Jvm.ClassFile.FieldType.int)) ∈ TT := tc3 (List.mem_of_getElem? (i := 178) rfl) rfl
theorem tw3_179 : (Jvm.Cond.methodLink "ThrowArms" (172 : Nat) ({ cls := "ThrowArms$Told", name := "trait", desc := "(II)I" } : Jvm.MethodName)) ∈ TT := tc3 (List.mem_of_getElem? (i := 179) rfl) rfl
theorem tw3_180 : (Jvm.Cond.methodLink "ThrowArms" (175 : Nat) ({ cls := "ThrowArms$Book", name := "throwsOfArm", desc := "(I)I" } : Jvm.MethodName)) ∈ TT := tc3 (List.mem_of_getElem? (i := 180) rfl) rfl
theorem tw3_181 : (Jvm.Cond.instanceMethod ({ cls := "ThrowArms$Book", name := "throwsOfArm", desc := "(I)I" } : Jvm.MethodName)) ∈ TT := tc3 (List.mem_of_getElem? (i := 181) rfl) rfl
theorem tw3_182 : (Jvm.Cond.selects "ThrowArms$Book" ({ cls := "ThrowArms$Book", name := "throwsOfArm", desc := "(I)I" } : Jvm.MethodName) ({ cls := "ThrowArms$Book", name := "throwsOfArm", desc := "(I)I" } : Jvm.MethodName)) ∈ TT := tc3 (List.mem_of_getElem? (i := 182) rfl) rfl
theorem tw3_183 : (Jvm.Cond.code ({ cls := "ThrowArms$Book", name := "throwsOfArm", desc := "(I)I" } : Jvm.MethodName) prog_3_method_11_code (4 : Nat) (Option.some Jvm.ClassFile.FieldType.int)) ∈ TT := tc3 (List.mem_of_getElem? (i := 183) rfl) rfl
theorem tw3_184 : (Jvm.Cond.methodLink "ThrowArms$Book" (71 : Nat) ({ cls := "ThrowArms$Plan", name := "loadOf", desc := "(II)I" } : Jvm.MethodName)) ∈ TT := tc3 (List.mem_of_getElem? (i := 184) rfl) rfl
theorem tw3_185 : (Jvm.Cond.instanceMethod ({ cls := "ThrowArms$Plan", name := "loadOf", desc := "(II)I" } : Jvm.MethodName)) ∈ TT := tc3 (List.mem_of_getElem? (i := 185) rfl) rfl
theorem tw3_186 : (Jvm.Cond.selects "ThrowArms$Plan" ({ cls := "ThrowArms$Plan", name := "loadOf", desc := "(II)I" } : Jvm.MethodName) ({ cls := "ThrowArms$Plan", name := "loadOf", desc := "(II)I" } : Jvm.MethodName)) ∈ TT := tc3 (List.mem_of_getElem? (i := 186) rfl) rfl
theorem tw3_187 : (Jvm.Cond.code ({ cls := "ThrowArms$Plan", name := "loadOf", desc := "(II)I" } : Jvm.MethodName) prog_7_method_4_code (3 : Nat) (Option.some Jvm.ClassFile.FieldType.int)) ∈ TT := tc3 (List.mem_of_getElem? (i := 187) rfl) rfl
theorem tw3_188 : (Jvm.Cond.methodLink "ThrowArms" (178 : Nat) ({ cls := "ThrowArms$Book", name := "outingsOfArm", desc := "(I)I" } : Jvm.MethodName)) ∈ TT := tc3 (List.mem_of_getElem? (i := 188) rfl) rfl
theorem tw3_189 : (Jvm.Cond.instanceMethod ({ cls := "ThrowArms$Book", name := "outingsOfArm", desc := "(I)I" } : Jvm.MethodName)) ∈ TT := tc3 (List.mem_of_getElem? (i := 189) rfl) rfl
theorem tw3_190 : (Jvm.Cond.selects "ThrowArms$Book" ({ cls := "ThrowArms$Book", name := "outingsOfArm", desc := "(I)I" } : Jvm.MethodName) ({ cls := "ThrowArms$Book", name := "outingsOfArm", desc := "(I)I" } : Jvm.MethodName)) ∈ TT := tc3 (List.mem_of_getElem? (i := 190) rfl) rfl
theorem tw3_191 : (Jvm.Cond.code ({ cls := "ThrowArms$Book", name := "outingsOfArm", desc := "(I)I" } : Jvm.MethodName) prog_3_method_12_code (4 : Nat) (Option.some Jvm.ClassFile.FieldType.int)) ∈ TT := tc3 (List.mem_of_getElem? (i := 191) rfl) rfl
theorem tw3_192 : (Jvm.Cond.methodLink "ThrowArms$Book" (74 : Nat) ({ cls := "ThrowArms$Plan", name := "has", desc := "(II)Z" } : Jvm.MethodName)) ∈ TT := tc3 (List.mem_of_getElem? (i := 192) rfl) rfl
theorem tw3_193 : (Jvm.Cond.instanceMethod ({ cls := "ThrowArms$Plan", name := "has", desc := "(II)Z" } : Jvm.MethodName)) ∈ TT := tc3 (List.mem_of_getElem? (i := 193) rfl) rfl
theorem tw3_194 : (Jvm.Cond.selects "ThrowArms$Plan" ({ cls := "ThrowArms$Plan", name := "has", desc := "(II)Z" } : Jvm.MethodName) ({ cls := "ThrowArms$Plan", name := "has", desc := "(II)Z" } : Jvm.MethodName)) ∈ TT := tc3 (List.mem_of_getElem? (i := 194) rfl) rfl
theorem tw3_195 : (Jvm.Cond.code ({ cls := "ThrowArms$Plan", name := "has", desc := "(II)Z" } : Jvm.MethodName) prog_7_method_5_code (3 : Nat) (Option.some Jvm.ClassFile.FieldType.boolean)) ∈ TT := tc3 (List.mem_of_getElem? (i := 195) rfl) rfl
theorem tw3_196 : (Jvm.Cond.methodLink "ThrowArms$Plan" (24 : Nat) ({ cls := "ThrowArms$Plan", name := "loadOf", desc := "(II)I" } : Jvm.MethodName)) ∈ TT := tc3 (List.mem_of_getElem? (i := 196) rfl) rfl
theorem tw3_197 : (Jvm.Cond.methodLink "ThrowArms" (181 : Nat) ({ cls := "ThrowArms$Book", name := "valueOfArm", desc := "(I)I" } : Jvm.MethodName)) ∈ TT := tc3 (List.mem_of_getElem? (i := 197) rfl) rfl
theorem tw3_198 : (Jvm.Cond.instanceMethod ({ cls := "ThrowArms$Book", name := "valueOfArm", desc := "(I)I" } : Jvm.MethodName)) ∈ TT := tc3 (List.mem_of_getElem? (i := 198) rfl) rfl
theorem tw3_199 : (Jvm.Cond.selects "ThrowArms$Book" ({ cls := "ThrowArms$Book", name := "valueOfArm", desc := "(I)I" } : Jvm.MethodName) ({ cls := "ThrowArms$Book", name := "valueOfArm", desc := "(I)I" } : Jvm.MethodName)) ∈ TT := tc3 (List.mem_of_getElem? (i := 199) rfl) rfl
theorem tw3_200 : (Jvm.Cond.code ({ cls := "ThrowArms$Book", name := "valueOfArm", desc := "(I)I" } : Jvm.MethodName) prog_3_method_13_code (4 : Nat) (Option.some Jvm.ClassFile.FieldType.int)) ∈ TT := tc3 (List.mem_of_getElem? (i := 200) rfl) rfl
theorem tw3_201 : (Jvm.Cond.methodLink "ThrowArms$Book" (54 : Nat) ({ cls := "ThrowArms$Book", name := "valueOf", desc := "(III)I" } : Jvm.MethodName)) ∈ TT := tc3 (List.mem_of_getElem? (i := 201) rfl) rfl
theorem tw3_202 : (Jvm.Cond.instanceMethod ({ cls := "ThrowArms$Book", name := "valueOf", desc := "(III)I" } : Jvm.MethodName)) ∈ TT := tc3 (List.mem_of_getElem? (i := 202) rfl) rfl
theorem tw3_203 : (Jvm.Cond.selects "ThrowArms$Book" ({ cls := "ThrowArms$Book", name := "valueOf", desc := "(III)I" } : Jvm.MethodName) ({ cls := "ThrowArms$Book", name := "valueOf", desc := "(III)I" } : Jvm.MethodName)) ∈ TT := tc3 (List.mem_of_getElem? (i := 203) rfl) rfl
theorem tw3_204 : (Jvm.Cond.code ({ cls := "ThrowArms$Book", name := "valueOf", desc := "(III)I" } : Jvm.MethodName) prog_3_method_3_code (6 : Nat) (Option.some Jvm.ClassFile.FieldType.int)) ∈ TT := tc3 (List.mem_of_getElem? (i := 204) rfl) rfl
theorem tw3_205 : (Jvm.Cond.methodLink "ThrowArms$Book" (29 : Nat) ({ cls := "ThrowArms$Told", name := "trait", desc := "(II)I" } : Jvm.MethodName)) ∈ TT := tc3 (List.mem_of_getElem? (i := 205) rfl) rfl
theorem tw3_206 : (Jvm.Cond.methodLink "ThrowArms$Book" (40 : Nat) ({ cls := "java/lang/Math", name := "min", desc := "(II)I" } : Jvm.MethodName)) ∈ TT := tc3 (List.mem_of_getElem? (i := 206) rfl) rfl
theorem tw3_207 : (Jvm.Cond.methodLink "ThrowArms$Book" (43 : Nat) ({ cls := "ThrowArms$Book", name := "pointsOf", desc := "(II)I" } : Jvm.MethodName)) ∈ TT := tc3 (List.mem_of_getElem? (i := 207) rfl) rfl
theorem tw3_208 : (Jvm.Cond.instanceMethod ({ cls := "ThrowArms$Book", name := "pointsOf", desc := "(II)I" } : Jvm.MethodName)) ∈ TT := tc3 (List.mem_of_getElem? (i := 208) rfl) rfl
theorem tw3_209 : (Jvm.Cond.selects "ThrowArms$Book" ({ cls := "ThrowArms$Book", name := "pointsOf", desc := "(II)I" } : Jvm.MethodName) ({ cls := "ThrowArms$Book", name := "pointsOf", desc := "(II)I" } : Jvm.MethodName)) ∈ TT := tc3 (List.mem_of_getElem? (i := 209) rfl) rfl
theorem tw3_210 : (Jvm.Cond.code ({ cls := "ThrowArms$Book", name := "pointsOf", desc := "(II)I" } : Jvm.MethodName) prog_3_method_2_code (6 : Nat) (Option.some Jvm.ClassFile.FieldType.int)) ∈ TT := tc3 (List.mem_of_getElem? (i := 210) rfl) rfl
theorem tw3_211 : (Jvm.Cond.methodLink "ThrowArms$Book" (19 : Nat) ({ cls := "ThrowArms$Told", name := "fact", desc := "(II)I" } : Jvm.MethodName)) ∈ TT := tc3 (List.mem_of_getElem? (i := 211) rfl) rfl
theorem tw3_212 : (Jvm.Cond.methodLink "ThrowArms$Book" (35 : Nat) ({ cls := "java/lang/Math", name := "max", desc := "(II)I" } : Jvm.MethodName)) ∈ TT := tc3 (List.mem_of_getElem? (i := 212) rfl) rfl
theorem tw3_213 : (Jvm.Cond.methodLink "ThrowArmsLaw" (46 : Nat) ({ cls := "ThrowArms", name := "game", desc := "(II)I" } : Jvm.MethodName)) ∈ TT := tc3 (List.mem_of_getElem? (i := 213) rfl) rfl
theorem tw3_214 : (Jvm.Cond.instanceMethod ({ cls := "ThrowArms", name := "game", desc := "(II)I" } : Jvm.MethodName)) ∈ TT := tc3 (List.mem_of_getElem? (i := 214) rfl) rfl
theorem tw3_215 : (Jvm.Cond.selects "ThrowArms" ({ cls := "ThrowArms", name := "game", desc := "(II)I" } : Jvm.MethodName) ({ cls := "ThrowArms", name := "game", desc := "(II)I" } : Jvm.MethodName)) ∈ TT := tc3 (List.mem_of_getElem? (i := 215) rfl) rfl
theorem tw3_216 : (Jvm.Cond.code ({ cls := "ThrowArms", name := "game", desc := "(II)I" } : Jvm.MethodName) prog_1_method_10_code (3 : Nat) (Option.some Jvm.ClassFile.FieldType.int)) ∈ TT := tc3 (List.mem_of_getElem? (i := 216) rfl) rfl
theorem tw3_217 : (Jvm.Cond.methodLink "ThrowArms" (184 : Nat) ({ cls := "ThrowArms", name := "hasGame", desc := "(I)Z" } : Jvm.MethodName)) ∈ TT := tc3 (List.mem_of_getElem? (i := 217) rfl) rfl
theorem tw3_219 : (Jvm.Cond.instanceMethod ({ cls := "ThrowArms", name := "hasGame", desc := "(I)Z" } : Jvm.MethodName)) ∈ TT := tc3 (List.mem_of_getElem? (i := 219) rfl) rfl
theorem tw3_220 : (Jvm.Cond.code ({ cls := "ThrowArms", name := "hasGame", desc := "(I)Z" } : Jvm.MethodName) prog_1_method_62_code (2 : Nat) (Option.some Jvm.ClassFile.FieldType.boolean)) ∈ TT := tc3 (List.mem_of_getElem? (i := 220) rfl) rfl
theorem tw3_221 : (Jvm.Cond.methodLink "ThrowArms" (187 : Nat) ({ cls := "ThrowArms", name := "tellGame", desc := "(II)I" } : Jvm.MethodName)) ∈ TT := tc3 (List.mem_of_getElem? (i := 221) rfl) rfl
theorem tw3_223 : (Jvm.Cond.instanceMethod ({ cls := "ThrowArms", name := "tellGame", desc := "(II)I" } : Jvm.MethodName)) ∈ TT := tc3 (List.mem_of_getElem? (i := 223) rfl) rfl
theorem tw3_224 : (Jvm.Cond.code ({ cls := "ThrowArms", name := "tellGame", desc := "(II)I" } : Jvm.MethodName) prog_1_method_11_code (3 : Nat) (Option.some Jvm.ClassFile.FieldType.int)) ∈ TT := tc3 (List.mem_of_getElem? (i := 224) rfl) rfl
theorem tw3_225 : (Jvm.Cond.methodLink "ThrowArms" (190 : Nat) ({ cls := "ThrowArms$Told", name := "fact", desc := "(II)I" } : Jvm.MethodName)) ∈ TT := tc3 (List.mem_of_getElem? (i := 225) rfl) rfl
theorem tw3_226 : (Jvm.Cond.methodLink "ThrowArms" (196 : Nat) ({ cls := "ThrowArms$Book", name := "leftIn", desc := "(I)I" } : Jvm.MethodName)) ∈ TT := tc3 (List.mem_of_getElem? (i := 226) rfl) rfl
theorem tw3_227 : (Jvm.Cond.instanceMethod ({ cls := "ThrowArms$Book", name := "leftIn", desc := "(I)I" } : Jvm.MethodName)) ∈ TT := tc3 (List.mem_of_getElem? (i := 227) rfl) rfl
theorem tw3_228 : (Jvm.Cond.selects "ThrowArms$Book" ({ cls := "ThrowArms$Book", name := "leftIn", desc := "(I)I" } : Jvm.MethodName) ({ cls := "ThrowArms$Book", name := "leftIn", desc := "(I)I" } : Jvm.MethodName)) ∈ TT := tc3 (List.mem_of_getElem? (i := 228) rfl) rfl
theorem tw3_229 : (Jvm.Cond.code ({ cls := "ThrowArms$Book", name := "leftIn", desc := "(I)I" } : Jvm.MethodName) prog_3_method_8_code (4 : Nat) (Option.some Jvm.ClassFile.FieldType.int)) ∈ TT := tc3 (List.mem_of_getElem? (i := 229) rfl) rfl
theorem tw3_230 : (Jvm.Cond.methodLink "ThrowArms$Book" (51 : Nat) ({ cls := "ThrowArms$Plan", name := "throwsAt", desc := "(II)I" } : Jvm.MethodName)) ∈ TT := tc3 (List.mem_of_getElem? (i := 230) rfl) rfl
theorem tw3_231 : (Jvm.Cond.methodLink "ThrowArms" (199 : Nat) ({ cls := "ThrowArms$Book", name := "valueOfGame", desc := "(I)I" } : Jvm.MethodName)) ∈ TT := tc3 (List.mem_of_getElem? (i := 231) rfl) rfl
theorem tw3_232 : (Jvm.Cond.instanceMethod ({ cls := "ThrowArms$Book", name := "valueOfGame", desc := "(I)I" } : Jvm.MethodName)) ∈ TT := tc3 (List.mem_of_getElem? (i := 232) rfl) rfl
theorem tw3_233 : (Jvm.Cond.selects "ThrowArms$Book" ({ cls := "ThrowArms$Book", name := "valueOfGame", desc := "(I)I" } : Jvm.MethodName) ({ cls := "ThrowArms$Book", name := "valueOfGame", desc := "(I)I" } : Jvm.MethodName)) ∈ TT := tc3 (List.mem_of_getElem? (i := 233) rfl) rfl
theorem tw3_234 : (Jvm.Cond.code ({ cls := "ThrowArms$Book", name := "valueOfGame", desc := "(I)I" } : Jvm.MethodName) prog_3_method_9_code (4 : Nat) (Option.some Jvm.ClassFile.FieldType.int)) ∈ TT := tc3 (List.mem_of_getElem? (i := 234) rfl) rfl
theorem tw3_235 : (Jvm.Cond.methodLink "ThrowArms$Book" (64 : Nat) ({ cls := "ThrowArms$Book", name := "valueAt", desc := "(II)I" } : Jvm.MethodName)) ∈ TT := tc3 (List.mem_of_getElem? (i := 235) rfl) rfl
theorem tw3_236 : (Jvm.Cond.instanceMethod ({ cls := "ThrowArms$Book", name := "valueAt", desc := "(II)I" } : Jvm.MethodName)) ∈ TT := tc3 (List.mem_of_getElem? (i := 236) rfl) rfl
theorem tw3_237 : (Jvm.Cond.selects "ThrowArms$Book" ({ cls := "ThrowArms$Book", name := "valueAt", desc := "(II)I" } : Jvm.MethodName) ({ cls := "ThrowArms$Book", name := "valueAt", desc := "(II)I" } : Jvm.MethodName)) ∈ TT := tc3 (List.mem_of_getElem? (i := 237) rfl) rfl
theorem tw3_238 : (Jvm.Cond.code ({ cls := "ThrowArms$Book", name := "valueAt", desc := "(II)I" } : Jvm.MethodName) prog_3_method_5_code (3 : Nat) (Option.some Jvm.ClassFile.FieldType.int)) ∈ TT := tc3 (List.mem_of_getElem? (i := 238) rfl) rfl
theorem tw3_239 : (Jvm.Cond.methodLink "ThrowArms$Book" (46 : Nat) ({ cls := "ThrowArms$Plan", name := "armAt", desc := "(II)I" } : Jvm.MethodName)) ∈ TT := tc3 (List.mem_of_getElem? (i := 239) rfl) rfl
theorem tw4_0 : (Jvm.Cond.methodLink "ThrowArmsLaw" (50 : Nat) ({ cls := "ThrowArms", name := "rest", desc := "(I)I" } : Jvm.MethodName)) ∈ TT := tc4 (List.mem_of_getElem? (i := 0) rfl) rfl
theorem tw4_1 : (Jvm.Cond.instanceMethod ({ cls := "ThrowArms", name := "rest", desc := "(I)I" } : Jvm.MethodName)) ∈ TT := tc4 (List.mem_of_getElem? (i := 1) rfl) rfl
theorem tw4_2 : (Jvm.Cond.selects "ThrowArms" ({ cls := "ThrowArms", name := "rest", desc := "(I)I" } : Jvm.MethodName) ({ cls := "ThrowArms", name := "rest", desc := "(I)I" } : Jvm.MethodName)) ∈ TT := tc4 (List.mem_of_getElem? (i := 2) rfl) rfl
theorem tw4_3 : (Jvm.Cond.code ({ cls := "ThrowArms", name := "rest", desc := "(I)I" } : Jvm.MethodName) prog_1_method_12_code (2 : Nat) (Option.some Jvm.ClassFile.FieldType.int)) ∈ TT := tc4 (List.mem_of_getElem? (i := 3) rfl) rfl
theorem tw4_4 : (Jvm.Cond.methodLink "ThrowArms" (202 : Nat) ({ cls := "ThrowArms$Told", name := "restAfte\x72", desc := "(I)I" } : Jvm.MethodName)) ∈ TT := tc4 (List.mem_of_getElem? (i := 4) rfl) rfl
theorem tw4_5 : (Jvm.Cond.instanceMethod ({ cls := "ThrowArms$Told", name := "restAfte\x72", desc := "(I)I" } : Jvm.MethodName)) ∈ TT := tc4 (List.mem_of_getElem? (i := 5) rfl) rfl
theorem tw4_6 : (Jvm.Cond.selects "ThrowArms$Told" ({ cls := "ThrowArms$Told", name := "restAfte\x72", desc := "(I)I" } : Jvm.MethodName) ({ cls := "ThrowArms$Told", name := "restAfte\x72", desc := "(I)I" } : Jvm.MethodName)) ∈ TT := tc4 (List.mem_of_getElem? (i := 6) rfl) rfl
theorem tw4_7 : (Jvm.Cond.code ({ cls := "ThrowArms$Told", name := "restAfte\x72", desc := "(I)I" } : Jvm.MethodName) prog_11_method_10_code (3 : Nat) (Option.some Jvm.ClassFile.FieldType.int)) ∈ TT := tc4 (List.mem_of_getElem? (i := 7) rfl) rfl
theorem tw4_8 : (Jvm.Cond.methodLink "ThrowArmsLaw" (54 : Nat) ({ cls := "ThrowArms", name := "outing", desc := "(III)I" } : Jvm.MethodName)) ∈ TT := tc4 (List.mem_of_getElem? (i := 8) rfl) rfl
theorem tw4_9 : (Jvm.Cond.instanceMethod ({ cls := "ThrowArms", name := "outing", desc := "(III)I" } : Jvm.MethodName)) ∈ TT := tc4 (List.mem_of_getElem? (i := 9) rfl) rfl
theorem tw4_10 : (Jvm.Cond.selects "ThrowArms" ({ cls := "ThrowArms", name := "outing", desc := "(III)I" } : Jvm.MethodName) ({ cls := "ThrowArms", name := "outing", desc := "(III)I" } : Jvm.MethodName)) ∈ TT := tc4 (List.mem_of_getElem? (i := 10) rfl) rfl
theorem tw4_11 : (Jvm.Cond.code ({ cls := "ThrowArms", name := "outing", desc := "(III)I" } : Jvm.MethodName) prog_1_method_13_code (4 : Nat) (Option.some Jvm.ClassFile.FieldType.int)) ∈ TT := tc4 (List.mem_of_getElem? (i := 11) rfl) rfl
theorem tw4_12 : (Jvm.Cond.methodLink "ThrowArms" (205 : Nat) ({ cls := "ThrowArms", name := "hasOuting", desc := "(II)Z" } : Jvm.MethodName)) ∈ TT := tc4 (List.mem_of_getElem? (i := 12) rfl) rfl
theorem tw4_14 : (Jvm.Cond.instanceMethod ({ cls := "ThrowArms", name := "hasOuting", desc := "(II)Z" } : Jvm.MethodName)) ∈ TT := tc4 (List.mem_of_getElem? (i := 14) rfl) rfl
theorem tw4_15 : (Jvm.Cond.code ({ cls := "ThrowArms", name := "hasOuting", desc := "(II)Z" } : Jvm.MethodName) prog_1_method_63_code (3 : Nat) (Option.some Jvm.ClassFile.FieldType.boolean)) ∈ TT := tc4 (List.mem_of_getElem? (i := 15) rfl) rfl
theorem tw4_16 : (Jvm.Cond.methodLink "ThrowArms" (209 : Nat) ({ cls := "ThrowArms", name := "tellOuting", desc := "(III)I" } : Jvm.MethodName)) ∈ TT := tc4 (List.mem_of_getElem? (i := 16) rfl) rfl
theorem tw4_18 : (Jvm.Cond.instanceMethod ({ cls := "ThrowArms", name := "tellOuting", desc := "(III)I" } : Jvm.MethodName)) ∈ TT := tc4 (List.mem_of_getElem? (i := 18) rfl) rfl
theorem tw4_19 : (Jvm.Cond.code ({ cls := "ThrowArms", name := "tellOuting", desc := "(III)I" } : Jvm.MethodName) prog_1_method_14_code (4 : Nat) (Option.some Jvm.ClassFile.FieldType.int)) ∈ TT := tc4 (List.mem_of_getElem? (i := 19) rfl) rfl
theorem tw4_20 : (Jvm.Cond.methodLink "ThrowArms" (213 : Nat) ({ cls := "ThrowArms$Plan", name := "armAt", desc := "(II)I" } : Jvm.MethodName)) ∈ TT := tc4 (List.mem_of_getElem? (i := 20) rfl) rfl
theorem tw4_21 : (Jvm.Cond.methodLink "ThrowArms" (216 : Nat) ({ cls := "ThrowArms$Plan", name := "throwsAt", desc := "(II)I" } : Jvm.MethodName)) ∈ TT := tc4 (List.mem_of_getElem? (i := 21) rfl) rfl
theorem tw4_22 : (Jvm.Cond.methodLink "ThrowArms" (219 : Nat) ({ cls := "ThrowArms$Book", name := "valueAt", desc := "(II)I" } : Jvm.MethodName)) ∈ TT := tc4 (List.mem_of_getElem? (i := 22) rfl) rfl
theorem tw4_23 : (Jvm.Cond.methodLink "ThrowArms" (222 : Nat) ({ cls := "ThrowArms$Book", name := "riskAt", desc := "(II)I" } : Jvm.MethodName)) ∈ TT := tc4 (List.mem_of_getElem? (i := 23) rfl) rfl
theorem tw4_24 : (Jvm.Cond.instanceMethod ({ cls := "ThrowArms$Book", name := "riskAt", desc := "(II)I" } : Jvm.MethodName)) ∈ TT := tc4 (List.mem_of_getElem? (i := 24) rfl) rfl
theorem tw4_25 : (Jvm.Cond.selects "ThrowArms$Book" ({ cls := "ThrowArms$Book", name := "riskAt", desc := "(II)I" } : Jvm.MethodName) ({ cls := "ThrowArms$Book", name := "riskAt", desc := "(II)I" } : Jvm.MethodName)) ∈ TT := tc4 (List.mem_of_getElem? (i := 25) rfl) rfl
theorem tw4_26 : (Jvm.Cond.code ({ cls := "ThrowArms$Book", name := "riskAt", desc := "(II)I" } : Jvm.MethodName) prog_3_method_6_code (3 : Nat) (Option.some Jvm.ClassFile.FieldType.int)) ∈ TT := tc4 (List.mem_of_getElem? (i := 26) rfl) rfl
theorem tw4_27 : (Jvm.Cond.methodLink "ThrowArms$Book" (58 : Nat) ({ cls := "ThrowArms$Book", name := "riskOf", desc := "(II)I" } : Jvm.MethodName)) ∈ TT := tc4 (List.mem_of_getElem? (i := 27) rfl) rfl
theorem tw4_28 : (Jvm.Cond.instanceMethod ({ cls := "ThrowArms$Book", name := "riskOf", desc := "(II)I" } : Jvm.MethodName)) ∈ TT := tc4 (List.mem_of_getElem? (i := 28) rfl) rfl
theorem tw4_29 : (Jvm.Cond.selects "ThrowArms$Book" ({ cls := "ThrowArms$Book", name := "riskOf", desc := "(II)I" } : Jvm.MethodName) ({ cls := "ThrowArms$Book", name := "riskOf", desc := "(II)I" } : Jvm.MethodName)) ∈ TT := tc4 (List.mem_of_getElem? (i := 29) rfl) rfl
theorem tw4_30 : (Jvm.Cond.code ({ cls := "ThrowArms$Book", name := "riskOf", desc := "(II)I" } : Jvm.MethodName) prog_3_method_4_code (3 : Nat) (Option.some Jvm.ClassFile.FieldType.int)) ∈ TT := tc4 (List.mem_of_getElem? (i := 30) rfl) rfl
theorem tw4_31 : (Jvm.Cond.methodLink "ThrowArms" (225 : Nat) ({ cls := "ThrowArms$Diary", name := "allowsAt", desc := "(II)Z" } : Jvm.MethodName)) ∈ TT := tc4 (List.mem_of_getElem? (i := 31) rfl) rfl
theorem tw4_32 : (Jvm.Cond.instanceMethod ({ cls := "ThrowArms$Diary", name := "allowsAt", desc := "(II)Z" } : Jvm.MethodName)) ∈ TT := tc4 (List.mem_of_getElem? (i := 32) rfl) rfl
theorem tw4_33 : (Jvm.Cond.selects "ThrowArms$Diary" ({ cls := "ThrowArms$Diary", name := "allowsAt", desc := "(II)Z" } : Jvm.MethodName) ({ cls := "ThrowArms$Diary", name := "allowsAt", desc := "(II)Z" } : Jvm.MethodName)) ∈ TT := tc4 (List.mem_of_getElem? (i := 33) rfl) rfl
theorem tw4_34 : (Jvm.Cond.code ({ cls := "ThrowArms$Diary", name := "allowsAt", desc := "(II)Z" } : Jvm.MethodName) prog_5_method_5_code (3 : Nat) (Option.some Jvm.ClassFile.FieldType.boolean)) ∈ TT := tc4 (List.mem_of_getElem? (i := 34) rfl) rfl
theorem tw4_35 : (Jvm.Cond.methodLink "ThrowArms$Diary" (43 : Nat) ({ cls := "ThrowArms$Plan", name := "armAt", desc := "(II)I" } : Jvm.MethodName)) ∈ TT := tc4 (List.mem_of_getElem? (i := 35) rfl) rfl
theorem tw4_36 : (Jvm.Cond.methodLink "ThrowArms$Diary" (46 : Nat) ({ cls := "ThrowArms$Plan", name := "throwsAt", desc := "(II)I" } : Jvm.MethodName)) ∈ TT := tc4 (List.mem_of_getElem? (i := 36) rfl) rfl
theorem tw4_37 : (Jvm.Cond.methodLink "ThrowArms$Diary" (49 : Nat) ({ cls := "ThrowArms$Diary", name := "allowsIn", desc := "(III)Z" } : Jvm.MethodName)) ∈ TT := tc4 (List.mem_of_getElem? (i := 37) rfl) rfl
theorem tw4_38 : (Jvm.Cond.instanceMethod ({ cls := "ThrowArms$Diary", name := "allowsIn", desc := "(III)Z" } : Jvm.MethodName)) ∈ TT := tc4 (List.mem_of_getElem? (i := 38) rfl) rfl
theorem tw4_39 : (Jvm.Cond.selects "ThrowArms$Diary" ({ cls := "ThrowArms$Diary", name := "allowsIn", desc := "(III)Z" } : Jvm.MethodName) ({ cls := "ThrowArms$Diary", name := "allowsIn", desc := "(III)Z" } : Jvm.MethodName)) ∈ TT := tc4 (List.mem_of_getElem? (i := 39) rfl) rfl
theorem tw4_40 : (Jvm.Cond.code ({ cls := "ThrowArms$Diary", name := "allowsIn", desc := "(III)Z" } : Jvm.MethodName) prog_5_method_4_code (4 : Nat) (Option.some Jvm.ClassFile.FieldType.boolean)) ∈ TT := tc4 (List.mem_of_getElem? (i := 40) rfl) rfl
theorem tw4_41 : (Jvm.Cond.methodLink "ThrowArms$Diary" (35 : Nat) ({ cls := "ThrowArms$Diary", name := "open", desc := "(I)V" } : Jvm.MethodName)) ∈ TT := tc4 (List.mem_of_getElem? (i := 41) rfl) rfl
theorem tw4_42 : (Jvm.Cond.instanceMethod ({ cls := "ThrowArms$Diary", name := "open", desc := "(I)V" } : Jvm.MethodName)) ∈ TT := tc4 (List.mem_of_getElem? (i := 42) rfl) rfl
theorem tw4_43 : (Jvm.Cond.selects "ThrowArms$Diary" ({ cls := "ThrowArms$Diary", name := "open", desc := "(I)V" } : Jvm.MethodName) ({ cls := "ThrowArms$Diary", name := "open", desc := "(I)V" } : Jvm.MethodName)) ∈ TT := tc4 (List.mem_of_getElem? (i := 43) rfl) rfl
theorem tw4_44 : (Jvm.Cond.code ({ cls := "ThrowArms$Diary", name := "open", desc := "(I)V" } : Jvm.MethodName) prog_5_method_2_code (2 : Nat) (Option.none : Option Jvm.ClassFile.FieldType)) ∈ TT := tc4 (List.mem_of_getElem? (i := 44) rfl) rfl
theorem tw4_45 : (Jvm.Cond.methodLink "ThrowArms$Diary" (29 : Nat) ({ cls := "ThrowArms$Plan", name := "copyLoads", desc := "(I[I)V" } : Jvm.MethodName)) ∈ TT := tc4 (List.mem_of_getElem? (i := 45) rfl) rfl
theorem tw4_46 : (Jvm.Cond.instanceMethod ({ cls := "ThrowArms$Plan", name := "copyLoads", desc := "(I[I)V" } : Jvm.MethodName)) ∈ TT := tc4 (List.mem_of_getElem? (i := 46) rfl) rfl
theorem tw4_47 : (Jvm.Cond.selects "ThrowArms$Plan" ({ cls := "ThrowArms$Plan", name := "copyLoads", desc := "(I[I)V" } : Jvm.MethodName) ({ cls := "ThrowArms$Plan", name := "copyLoads", desc := "(I[I)V" } : Jvm.MethodName)) ∈ TT := tc4 (List.mem_of_getElem? (i := 47) rfl) rfl
theorem tw4_48 : (Jvm.Cond.code ({ cls := "ThrowArms$Plan", name := "copyLoads", desc := "(I[I)V" } : Jvm.MethodName) prog_7_method_6_code (3 : Nat) (Option.none : Option Jvm.ClassFile.FieldType)) ∈ TT := tc4 (List.mem_of_getElem? (i := 48) rfl) rfl
theorem tw4_49 : (Jvm.Cond.methodLink "ThrowArms$Plan" (28 : Nat) ({ cls := "java/lang/System", name := "arraycopy", desc := "(Ljava/lang/Object;ILjava/lang/Object;II)V" } : Jvm.MethodName)) ∈ TT := tc4 (List.mem_of_getElem? (i := 49) rfl) rfl
theorem tw4_50 : (Jvm.Cond.methodLink "ThrowArms$Diary" (39 : Nat) ({ cls := "ThrowArms$Diary", name := "clashes", desc := "(II)I" } : Jvm.MethodName)) ∈ TT := tc4 (List.mem_of_getElem? (i := 50) rfl) rfl
theorem tw4_51 : (Jvm.Cond.instanceMethod ({ cls := "ThrowArms$Diary", name := "clashes", desc := "(II)I" } : Jvm.MethodName)) ∈ TT := tc4 (List.mem_of_getElem? (i := 51) rfl) rfl
theorem tw4_52 : (Jvm.Cond.selects "ThrowArms$Diary" ({ cls := "ThrowArms$Diary", name := "clashes", desc := "(II)I" } : Jvm.MethodName) ({ cls := "ThrowArms$Diary", name := "clashes", desc := "(II)I" } : Jvm.MethodName)) ∈ TT := tc4 (List.mem_of_getElem? (i := 52) rfl) rfl
theorem tw4_53 : (Jvm.Cond.code ({ cls := "ThrowArms$Diary", name := "clashes", desc := "(II)I" } : Jvm.MethodName) prog_5_method_7_code (4 : Nat) (Option.some Jvm.ClassFile.FieldType.int)) ∈ TT := tc4 (List.mem_of_getElem? (i := 53) rfl) rfl
theorem tw4_54 : (Jvm.Cond.methodLink "ThrowArms$Diary" (61 : Nat) ({ cls := "ThrowArms$Told", name := "trait", desc := "(II)I" } : Jvm.MethodName)) ∈ TT := tc4 (List.mem_of_getElem? (i := 54) rfl) rfl
theorem tw4_55 : (Jvm.Cond.methodLink "ThrowArms$Diary" (66 : Nat) ({ cls := "ThrowArms$Diary", name := "isRested", desc := "(I)Z" } : Jvm.MethodName)) ∈ TT := tc4 (List.mem_of_getElem? (i := 55) rfl) rfl
theorem tw4_57 : (Jvm.Cond.instanceMethod ({ cls := "ThrowArms$Diary", name := "isRested", desc := "(I)Z" } : Jvm.MethodName)) ∈ TT := tc4 (List.mem_of_getElem? (i := 57) rfl) rfl
theorem tw4_58 : (Jvm.Cond.code ({ cls := "ThrowArms$Diary", name := "isRested", desc := "(I)Z" } : Jvm.MethodName) prog_5_method_9_code (3 : Nat) (Option.some Jvm.ClassFile.FieldType.boolean)) ∈ TT := tc4 (List.mem_of_getElem? (i := 58) rfl) rfl
theorem tw4_59 : (Jvm.Cond.methodLink "ThrowArms$Diary" (95 : Nat) ({ cls := "ThrowArms$Told", name := "daysFrom", desc := "(II)I" } : Jvm.MethodName)) ∈ TT := tc4 (List.mem_of_getElem? (i := 59) rfl) rfl
theorem tw4_60 : (Jvm.Cond.instanceMethod ({ cls := "ThrowArms$Told", name := "daysFrom", desc := "(II)I" } : Jvm.MethodName)) ∈ TT := tc4 (List.mem_of_getElem? (i := 60) rfl) rfl
theorem tw4_61 : (Jvm.Cond.selects "ThrowArms$Told" ({ cls := "ThrowArms$Told", name := "daysFrom", desc := "(II)I" } : Jvm.MethodName) ({ cls := "ThrowArms$Told", name := "daysFrom", desc := "(II)I" } : Jvm.MethodName)) ∈ TT := tc4 (List.mem_of_getElem? (i := 61) rfl) rfl
theorem tw4_62 : (Jvm.Cond.code ({ cls := "ThrowArms$Told", name := "daysFrom", desc := "(II)I" } : Jvm.MethodName) prog_11_method_8_code (3 : Nat) (Option.some Jvm.ClassFile.FieldType.int)) ∈ TT := tc4 (List.mem_of_getElem? (i := 62) rfl) rfl
theorem tw4_63 : (Jvm.Cond.methodLink "ThrowArms$Diary" (70 : Nat) ({ cls := "ThrowArms$Told", name := "restAfte\x72", desc := "(I)I" } : Jvm.MethodName)) ∈ TT := tc4 (List.mem_of_getElem? (i := 63) rfl) rfl
theorem tw4_64 : (Jvm.Cond.methodLink "ThrowArms$Diary" (74 : Nat) ({ cls := "ThrowArms$Diary", name := "daysToNext", desc := "(I)I" } : Jvm.MethodName)) ∈ TT := tc4 (List.mem_of_getElem? (i := 64) rfl) rfl
theorem tw4_66 : (Jvm.Cond.instanceMethod ({ cls := "ThrowArms$Diary", name := "daysToNext", desc := "(I)I" } : Jvm.MethodName)) ∈ TT := tc4 (List.mem_of_getElem? (i := 66) rfl) rfl
theorem tw4_67 : (Jvm.Cond.code ({ cls := "ThrowArms$Diary", name := "daysToNext", desc := "(I)I" } : Jvm.MethodName) prog_5_method_10_code (3 : Nat) (Option.some Jvm.ClassFile.FieldType.int)) ∈ TT := tc4 (List.mem_of_getElem? (i := 67) rfl) rfl
theorem tw4_68 : (Jvm.Cond.constant "ThrowArms$Diary" (101 : Nat) (1000000 : Int32)) ∈ TT := tc4 (List.mem_of_getElem? (i := 68) rfl) rfl
theorem tw4_69 : (Jvm.Cond.methodLink "ThrowArms$Diary" (77 : Nat) ({ cls := "ThrowArms$Diary", name := "roomInWeek", desc := "(I)I" } : Jvm.MethodName)) ∈ TT := tc4 (List.mem_of_getElem? (i := 69) rfl) rfl
theorem tw4_71 : (Jvm.Cond.instanceMethod ({ cls := "ThrowArms$Diary", name := "roomInWeek", desc := "(I)I" } : Jvm.MethodName)) ∈ TT := tc4 (List.mem_of_getElem? (i := 71) rfl) rfl
theorem tw4_72 : (Jvm.Cond.code ({ cls := "ThrowArms$Diary", name := "roomInWeek", desc := "(I)I" } : Jvm.MethodName) prog_5_method_11_code (5 : Nat) (Option.some Jvm.ClassFile.FieldType.int)) ∈ TT := tc4 (List.mem_of_getElem? (i := 72) rfl) rfl
theorem tw4_73 : (Jvm.Cond.methodLink "ThrowArms$Diary" (105 : Nat) ({ cls := "ThrowArms$Diary", name := "weekFrom", desc := "(II)I" } : Jvm.MethodName)) ∈ TT := tc4 (List.mem_of_getElem? (i := 73) rfl) rfl
theorem tw4_75 : (Jvm.Cond.instanceMethod ({ cls := "ThrowArms$Diary", name := "weekFrom", desc := "(II)I" } : Jvm.MethodName)) ∈ TT := tc4 (List.mem_of_getElem? (i := 75) rfl) rfl
theorem tw4_76 : (Jvm.Cond.code ({ cls := "ThrowArms$Diary", name := "weekFrom", desc := "(II)I" } : Jvm.MethodName) prog_5_method_12_code (5 : Nat) (Option.some Jvm.ClassFile.FieldType.int)) ∈ TT := tc4 (List.mem_of_getElem? (i := 76) rfl) rfl
theorem tw4_77 : (Jvm.Cond.methodLink "ThrowArms$Diary" (108 : Nat) ({ cls := "java/lang/Math", name := "max", desc := "(II)I" } : Jvm.MethodName)) ∈ TT := tc4 (List.mem_of_getElem? (i := 77) rfl) rfl
theorem tw4_78 : (Jvm.Cond.methodLink "ThrowArmsLaw" (59 : Nat) ({ cls := "ThrowArms", name := "value", desc := "()I" } : Jvm.MethodName)) ∈ TT := tc4 (List.mem_of_getElem? (i := 78) rfl) rfl
theorem tw4_79 : (Jvm.Cond.instanceMethod ({ cls := "ThrowArms", name := "value", desc := "()I" } : Jvm.MethodName)) ∈ TT := tc4 (List.mem_of_getElem? (i := 79) rfl) rfl
theorem tw4_80 : (Jvm.Cond.selects "ThrowArms" ({ cls := "ThrowArms", name := "value", desc := "()I" } : Jvm.MethodName) ({ cls := "ThrowArms", name := "value", desc := "()I" } : Jvm.MethodName)) ∈ TT := tc4 (List.mem_of_getElem? (i := 80) rfl) rfl
theorem tw4_81 : (Jvm.Cond.code ({ cls := "ThrowArms", name := "value", desc := "()I" } : Jvm.MethodName) prog_1_method_15_code (3 : Nat) (Option.some Jvm.ClassFile.FieldType.int)) ∈ TT := tc4 (List.mem_of_getElem? (i := 81) rfl) rfl
theorem tw4_82 : (Jvm.Cond.methodLink "ThrowArmsLaw" (63 : Nat) ({ cls := "ThrowArms", name := "points", desc := "(II)I" } : Jvm.MethodName)) ∈ TT := tc4 (List.mem_of_getElem? (i := 82) rfl) rfl
theorem tw4_83 : (Jvm.Cond.instanceMethod ({ cls := "ThrowArms", name := "points", desc := "(II)I" } : Jvm.MethodName)) ∈ TT := tc4 (List.mem_of_getElem? (i := 83) rfl) rfl
theorem tw4_84 : (Jvm.Cond.selects "ThrowArms" ({ cls := "ThrowArms", name := "points", desc := "(II)I" } : Jvm.MethodName) ({ cls := "ThrowArms", name := "points", desc := "(II)I" } : Jvm.MethodName)) ∈ TT := tc4 (List.mem_of_getElem? (i := 84) rfl) rfl
theorem tw4_85 : (Jvm.Cond.code ({ cls := "ThrowArms", name := "points", desc := "(II)I" } : Jvm.MethodName) prog_1_method_16_code (3 : Nat) (Option.some Jvm.ClassFile.FieldType.int)) ∈ TT := tc4 (List.mem_of_getElem? (i := 85) rfl) rfl
theorem tw4_86 : (Jvm.Cond.methodLink "ThrowArms" (228 : Nat) ({ cls := "ThrowArms$Book", name := "pointsOf", desc := "(II)I" } : Jvm.MethodName)) ∈ TT := tc4 (List.mem_of_getElem? (i := 86) rfl) rfl
theorem tw4_87 : (Jvm.Cond.methodLink "ThrowArmsLaw" (67 : Nat) ({ cls := "ThrowArms", name := "worth", desc := "(III)I" } : Jvm.MethodName)) ∈ TT := tc4 (List.mem_of_getElem? (i := 87) rfl) rfl
theorem tw4_88 : (Jvm.Cond.instanceMethod ({ cls := "ThrowArms", name := "worth", desc := "(III)I" } : Jvm.MethodName)) ∈ TT := tc4 (List.mem_of_getElem? (i := 88) rfl) rfl
theorem tw4_89 : (Jvm.Cond.selects "ThrowArms" ({ cls := "ThrowArms", name := "worth", desc := "(III)I" } : Jvm.MethodName) ({ cls := "ThrowArms", name := "worth", desc := "(III)I" } : Jvm.MethodName)) ∈ TT := tc4 (List.mem_of_getElem? (i := 89) rfl) rfl
theorem tw4_90 : (Jvm.Cond.code ({ cls := "ThrowArms", name := "worth", desc := "(III)I" } : Jvm.MethodName) prog_1_method_17_code (4 : Nat) (Option.some Jvm.ClassFile.FieldType.int)) ∈ TT := tc4 (List.mem_of_getElem? (i := 90) rfl) rfl
theorem tw4_91 : (Jvm.Cond.methodLink "ThrowArms" (231 : Nat) ({ cls := "ThrowArms$Book", name := "valueOf", desc := "(III)I" } : Jvm.MethodName)) ∈ TT := tc4 (List.mem_of_getElem? (i := 91) rfl) rfl
theorem tw4_92 : (Jvm.Cond.methodLink "ThrowArmsLaw" (71 : Nat) ({ cls := "ThrowArms", name := "most", desc := "(II)I" } : Jvm.MethodName)) ∈ TT := tc4 (List.mem_of_getElem? (i := 92) rfl) rfl
theorem tw4_93 : (Jvm.Cond.instanceMethod ({ cls := "ThrowArms", name := "most", desc := "(II)I" } : Jvm.MethodName)) ∈ TT := tc4 (List.mem_of_getElem? (i := 93) rfl) rfl
theorem tw4_94 : (Jvm.Cond.selects "ThrowArms" ({ cls := "ThrowArms", name := "most", desc := "(II)I" } : Jvm.MethodName) ({ cls := "ThrowArms", name := "most", desc := "(II)I" } : Jvm.MethodName)) ∈ TT := tc4 (List.mem_of_getElem? (i := 94) rfl) rfl
theorem tw4_95 : (Jvm.Cond.code ({ cls := "ThrowArms", name := "most", desc := "(II)I" } : Jvm.MethodName) prog_1_method_18_code (3 : Nat) (Option.some Jvm.ClassFile.FieldType.int)) ∈ TT := tc4 (List.mem_of_getElem? (i := 95) rfl) rfl
theorem tw4_96 : (Jvm.Cond.methodLink "ThrowArms" (234 : Nat) ({ cls := "ThrowArms$Diary", name := "mostOf", desc := "(III)I" } : Jvm.MethodName)) ∈ TT := tc4 (List.mem_of_getElem? (i := 96) rfl) rfl
theorem tw4_97 : (Jvm.Cond.instanceMethod ({ cls := "ThrowArms$Diary", name := "mostOf", desc := "(III)I" } : Jvm.MethodName)) ∈ TT := tc4 (List.mem_of_getElem? (i := 97) rfl) rfl
theorem tw4_98 : (Jvm.Cond.selects "ThrowArms$Diary" ({ cls := "ThrowArms$Diary", name := "mostOf", desc := "(III)I" } : Jvm.MethodName) ({ cls := "ThrowArms$Diary", name := "mostOf", desc := "(III)I" } : Jvm.MethodName)) ∈ TT := tc4 (List.mem_of_getElem? (i := 98) rfl) rfl
theorem tw4_99 : (Jvm.Cond.code ({ cls := "ThrowArms$Diary", name := "mostOf", desc := "(III)I" } : Jvm.MethodName) prog_5_method_8_code (7 : Nat) (Option.some Jvm.ClassFile.FieldType.int)) ∈ TT := tc4 (List.mem_of_getElem? (i := 99) rfl) rfl
theorem tw4_100 : (Jvm.Cond.methodLink "ThrowArms$Diary" (80 : Nat) ({ cls := "ThrowArms$Plan", name := "has", desc := "(II)Z" } : Jvm.MethodName)) ∈ TT := tc4 (List.mem_of_getElem? (i := 100) rfl) rfl
theorem tw4_101 : (Jvm.Cond.methodLink "ThrowArms$Diary" (87 : Nat) ({ cls := "ThrowArms$Book", name := "leftIn", desc := "(I)I" } : Jvm.MethodName)) ∈ TT := tc4 (List.mem_of_getElem? (i := 101) rfl) rfl
theorem tw4_102 : (Jvm.Cond.methodLink "ThrowArms$Diary" (90 : Nat) ({ cls := "java/lang/Math", name := "min", desc := "(II)I" } : Jvm.MethodName)) ∈ TT := tc4 (List.mem_of_getElem? (i := 102) rfl) rfl
theorem tw4_103 : (Jvm.Cond.methodLink "ThrowArmsLaw" (75 : Nat) ({ cls := "ThrowArms", name := "when", desc := "(III)I" } : Jvm.MethodName)) ∈ TT := tc4 (List.mem_of_getElem? (i := 103) rfl) rfl
theorem tw4_104 : (Jvm.Cond.instanceMethod ({ cls := "ThrowArms", name := "when", desc := "(III)I" } : Jvm.MethodName)) ∈ TT := tc4 (List.mem_of_getElem? (i := 104) rfl) rfl
theorem tw4_105 : (Jvm.Cond.selects "ThrowArms" ({ cls := "ThrowArms", name := "when", desc := "(III)I" } : Jvm.MethodName) ({ cls := "ThrowArms", name := "when", desc := "(III)I" } : Jvm.MethodName)) ∈ TT := tc4 (List.mem_of_getElem? (i := 105) rfl) rfl
theorem tw4_106 : (Jvm.Cond.code ({ cls := "ThrowArms", name := "when", desc := "(III)I" } : Jvm.MethodName) prog_1_method_19_code (5 : Nat) (Option.some Jvm.ClassFile.FieldType.int)) ∈ TT := tc4 (List.mem_of_getElem? (i := 106) rfl) rfl
theorem tw4_107 : (Jvm.Cond.methodLink "ThrowArmsLaw" (79 : Nat) ({ cls := "ThrowArms", name := "ranked", desc := "(II)I" } : Jvm.MethodName)) ∈ TT := tc4 (List.mem_of_getElem? (i := 107) rfl) rfl
theorem tw4_108 : (Jvm.Cond.instanceMethod ({ cls := "ThrowArms", name := "ranked", desc := "(II)I" } : Jvm.MethodName)) ∈ TT := tc4 (List.mem_of_getElem? (i := 108) rfl) rfl
theorem tw4_109 : (Jvm.Cond.selects "ThrowArms" ({ cls := "ThrowArms", name := "ranked", desc := "(II)I" } : Jvm.MethodName) ({ cls := "ThrowArms", name := "ranked", desc := "(II)I" } : Jvm.MethodName)) ∈ TT := tc4 (List.mem_of_getElem? (i := 109) rfl) rfl
theorem tw4_110 : (Jvm.Cond.code ({ cls := "ThrowArms", name := "ranked", desc := "(II)I" } : Jvm.MethodName) prog_1_method_20_code (4 : Nat) (Option.some Jvm.ClassFile.FieldType.int)) ∈ TT := tc4 (List.mem_of_getElem? (i := 110) rfl) rfl
theorem tw4_111 : (Jvm.Cond.methodLink "ThrowArms" (237 : Nat) ({ cls := "ThrowArms", name := "countAhead", desc := "(II)I" } : Jvm.MethodName)) ∈ TT := tc4 (List.mem_of_getElem? (i := 111) rfl) rfl
theorem tw4_113 : (Jvm.Cond.instanceMethod ({ cls := "ThrowArms", name := "countAhead", desc := "(II)I" } : Jvm.MethodName)) ∈ TT := tc4 (List.mem_of_getElem? (i := 113) rfl) rfl
theorem tw4_114 : (Jvm.Cond.code ({ cls := "ThrowArms", name := "countAhead", desc := "(II)I" } : Jvm.MethodName) prog_1_method_21_code (7 : Nat) (Option.some Jvm.ClassFile.FieldType.int)) ∈ TT := tc4 (List.mem_of_getElem? (i := 114) rfl) rfl
theorem tw4_115 : (Jvm.Cond.methodLink "ThrowArms" (240 : Nat) ({ cls := "ThrowArms$Book", name := "fullThrows", desc := "(II)I" } : Jvm.MethodName)) ∈ TT := tc4 (List.mem_of_getElem? (i := 115) rfl) rfl
theorem tw4_116 : (Jvm.Cond.instanceMethod ({ cls := "ThrowArms$Book", name := "fullThrows", desc := "(II)I" } : Jvm.MethodName)) ∈ TT := tc4 (List.mem_of_getElem? (i := 116) rfl) rfl
theorem tw4_117 : (Jvm.Cond.selects "ThrowArms$Book" ({ cls := "ThrowArms$Book", name := "fullThrows", desc := "(II)I" } : Jvm.MethodName) ({ cls := "ThrowArms$Book", name := "fullThrows", desc := "(II)I" } : Jvm.MethodName)) ∈ TT := tc4 (List.mem_of_getElem? (i := 117) rfl) rfl
theorem tw4_118 : (Jvm.Cond.code ({ cls := "ThrowArms$Book", name := "fullThrows", desc := "(II)I" } : Jvm.MethodName) prog_3_method_7_code (3 : Nat) (Option.some Jvm.ClassFile.FieldType.int)) ∈ TT := tc4 (List.mem_of_getElem? (i := 118) rfl) rfl
theorem tw4_119 : (Jvm.Cond.methodLink "ThrowArmsLaw" (83 : Nat) ({ cls := "ThrowArms", name := "extra", desc := "(I)I" } : Jvm.MethodName)) ∈ TT := tc4 (List.mem_of_getElem? (i := 119) rfl) rfl
theorem tw4_120 : (Jvm.Cond.instanceMethod ({ cls := "ThrowArms", name := "extra", desc := "(I)I" } : Jvm.MethodName)) ∈ TT := tc4 (List.mem_of_getElem? (i := 120) rfl) rfl
theorem tw4_121 : (Jvm.Cond.selects "ThrowArms" ({ cls := "ThrowArms", name := "extra", desc := "(I)I" } : Jvm.MethodName) ({ cls := "ThrowArms", name := "extra", desc := "(I)I" } : Jvm.MethodName)) ∈ TT := tc4 (List.mem_of_getElem? (i := 121) rfl) rfl
theorem tw4_122 : (Jvm.Cond.code ({ cls := "ThrowArms", name := "extra", desc := "(I)I" } : Jvm.MethodName) prog_1_method_22_code (4 : Nat) (Option.some Jvm.ClassFile.FieldType.int)) ∈ TT := tc4 (List.mem_of_getElem? (i := 122) rfl) rfl
theorem tw4_123 : (Jvm.Cond.methodLink "ThrowArmsLaw" (87 : Nat) ({ cls := "ThrowArms", name := "clash", desc := "(III)I" } : Jvm.MethodName)) ∈ TT := tc4 (List.mem_of_getElem? (i := 123) rfl) rfl
theorem tw4_124 : (Jvm.Cond.instanceMethod ({ cls := "ThrowArms", name := "clash", desc := "(III)I" } : Jvm.MethodName)) ∈ TT := tc4 (List.mem_of_getElem? (i := 124) rfl) rfl
theorem tw4_125 : (Jvm.Cond.selects "ThrowArms" ({ cls := "ThrowArms", name := "clash", desc := "(III)I" } : Jvm.MethodName) ({ cls := "ThrowArms", name := "clash", desc := "(III)I" } : Jvm.MethodName)) ∈ TT := tc4 (List.mem_of_getElem? (i := 125) rfl) rfl
theorem tw4_126 : (Jvm.Cond.code ({ cls := "ThrowArms", name := "clash", desc := "(III)I" } : Jvm.MethodName) prog_1_method_23_code (4 : Nat) (Option.some Jvm.ClassFile.FieldType.int)) ∈ TT := tc4 (List.mem_of_getElem? (i := 126) rfl) rfl
theorem tw4_127 : (Jvm.Cond.methodLink "ThrowArms" (243 : Nat) ({ cls := "ThrowArms$Diary", name := "open", desc := "(I)V" } : Jvm.MethodName)) ∈ TT := tc4 (List.mem_of_getElem? (i := 127) rfl) rfl
theorem tw4_128 : (Jvm.Cond.methodLink "ThrowArms" (246 : Nat) ({ cls := "ThrowArms$Diary", name := "clashes", desc := "(II)I" } : Jvm.MethodName)) ∈ TT := tc4 (List.mem_of_getElem? (i := 128) rfl) rfl
theorem tw4_129 : (Jvm.Cond.methodLink "ThrowArmsLaw" (91 : Nat) ({ cls := "ThrowArms", name := "best", desc := "(II)I" } : Jvm.MethodName)) ∈ TT := tc4 (List.mem_of_getElem? (i := 129) rfl) rfl
theorem tw4_130 : (Jvm.Cond.instanceMethod ({ cls := "ThrowArms", name := "best", desc := "(II)I" } : Jvm.MethodName)) ∈ TT := tc4 (List.mem_of_getElem? (i := 130) rfl) rfl
theorem tw4_131 : (Jvm.Cond.selects "ThrowArms" ({ cls := "ThrowArms", name := "best", desc := "(II)I" } : Jvm.MethodName) ({ cls := "ThrowArms", name := "best", desc := "(II)I" } : Jvm.MethodName)) ∈ TT := tc4 (List.mem_of_getElem? (i := 131) rfl) rfl
theorem tw4_132 : (Jvm.Cond.code ({ cls := "ThrowArms", name := "best", desc := "(II)I" } : Jvm.MethodName) prog_1_method_24_code (4 : Nat) (Option.some Jvm.ClassFile.FieldType.int)) ∈ TT := tc4 (List.mem_of_getElem? (i := 132) rfl) rfl
theorem tw4_133 : (Jvm.Cond.methodLink "ThrowArms" (249 : Nat) ({ cls := "ThrowArms", name := "troubleOfBest", desc := "(II)I" } : Jvm.MethodName)) ∈ TT := tc4 (List.mem_of_getElem? (i := 133) rfl) rfl
theorem tw4_135 : (Jvm.Cond.instanceMethod ({ cls := "ThrowArms", name := "troubleOfBest", desc := "(II)I" } : Jvm.MethodName)) ∈ TT := tc4 (List.mem_of_getElem? (i := 135) rfl) rfl
theorem tw4_136 : (Jvm.Cond.code ({ cls := "ThrowArms", name := "troubleOfBest", desc := "(II)I" } : Jvm.MethodName) prog_1_method_26_code (3 : Nat) (Option.some Jvm.ClassFile.FieldType.int)) ∈ TT := tc4 (List.mem_of_getElem? (i := 136) rfl) rfl
theorem tw4_137 : (Jvm.Cond.methodLink "ThrowArms" (252 : Nat) ({ cls := "ThrowArms$Best", name := "find", desc := "(II)V" } : Jvm.MethodName)) ∈ TT := tc4 (List.mem_of_getElem? (i := 137) rfl) rfl
theorem tw4_138 : (Jvm.Cond.instanceMethod ({ cls := "ThrowArms$Best", name := "find", desc := "(II)V" } : Jvm.MethodName)) ∈ TT := tc4 (List.mem_of_getElem? (i := 138) rfl) rfl
theorem tw4_139 : (Jvm.Cond.selects "ThrowArms$Best" ({ cls := "ThrowArms$Best", name := "find", desc := "(II)V" } : Jvm.MethodName) ({ cls := "ThrowArms$Best", name := "find", desc := "(II)V" } : Jvm.MethodName)) ∈ TT := tc4 (List.mem_of_getElem? (i := 139) rfl) rfl
theorem tw4_140 : (Jvm.Cond.code ({ cls := "ThrowArms$Best", name := "find", desc := "(II)V" } : Jvm.MethodName) prog_2_method_2_code (4 : Nat) (Option.none : Option Jvm.ClassFile.FieldType)) ∈ TT := tc4 (List.mem_of_getElem? (i := 140) rfl) rfl
theorem tw4_141 : (Jvm.Cond.methodLink "ThrowArms$Best" (48 : Nat) ({ cls := "java/lang/Math", name := "min", desc := "(II)I" } : Jvm.MethodName)) ∈ TT := tc4 (List.mem_of_getElem? (i := 141) rfl) rfl
theorem tw4_142 : (Jvm.Cond.methodLink "ThrowArms$Best" (65 : Nat) ({ cls := "ThrowArms$Best", name := "prepare", desc := "(I)V" } : Jvm.MethodName)) ∈ TT := tc4 (List.mem_of_getElem? (i := 142) rfl) rfl
theorem tw4_144 : (Jvm.Cond.instanceMethod ({ cls := "ThrowArms$Best", name := "prepare", desc := "(I)V" } : Jvm.MethodName)) ∈ TT := tc4 (List.mem_of_getElem? (i := 144) rfl) rfl
theorem tw4_145 : (Jvm.Cond.code ({ cls := "ThrowArms$Best", name := "prepare", desc := "(I)V" } : Jvm.MethodName) prog_2_method_3_code (3 : Nat) (Option.none : Option Jvm.ClassFile.FieldType)) ∈ TT := tc4 (List.mem_of_getElem? (i := 145) rfl) rfl
theorem tw4_146 : (Jvm.Cond.methodLink "ThrowArms$Best" (74 : Nat) ({ cls := "ThrowArms$Book", name := "fullThrows", desc := "(II)I" } : Jvm.MethodName)) ∈ TT := tc4 (List.mem_of_getElem? (i := 146) rfl) rfl
theorem tw4_147 : (Jvm.Cond.methodLink "ThrowArms$Best" (77 : Nat) ({ cls := "ThrowArms$Book", name := "valueOf", desc := "(III)I" } : Jvm.MethodName)) ∈ TT := tc4 (List.mem_of_getElem? (i := 147) rfl) rfl
theorem tw4_148 : (Jvm.Cond.methodLink "ThrowArms$Best" (81 : Nat) ({ cls := "ThrowArms$Diary", name := "open", desc := "(I)V" } : Jvm.MethodName)) ∈ TT := tc4 (List.mem_of_getElem? (i := 148) rfl) rfl
theorem tw4_149 : (Jvm.Cond.methodLink "ThrowArms$Best" (86 : Nat) ({ cls := "ThrowArms$Best", name := "fitsTogethe\x72", desc := "(II)Z" } : Jvm.MethodName)) ∈ TT := tc4 (List.mem_of_getElem? (i := 149) rfl) rfl
theorem tw4_151 : (Jvm.Cond.instanceMethod ({ cls := "ThrowArms$Best", name := "fitsTogethe\x72", desc := "(II)Z" } : Jvm.MethodName)) ∈ TT := tc4 (List.mem_of_getElem? (i := 151) rfl) rfl
theorem tw4_152 : (Jvm.Cond.code ({ cls := "ThrowArms$Best", name := "fitsTogethe\x72", desc := "(II)Z" } : Jvm.MethodName) prog_2_method_4_code (6 : Nat) (Option.some Jvm.ClassFile.FieldType.boolean)) ∈ TT := tc4 (List.mem_of_getElem? (i := 152) rfl) rfl
theorem tw4_153 : (Jvm.Cond.methodLink "ThrowArms$Best" (90 : Nat) ({ cls := "ThrowArms$Diary", name := "write", desc := "(II)V" } : Jvm.MethodName)) ∈ TT := tc4 (List.mem_of_getElem? (i := 153) rfl) rfl
theorem tw4_154 : (Jvm.Cond.instanceMethod ({ cls := "ThrowArms$Diary", name := "write", desc := "(II)V" } : Jvm.MethodName)) ∈ TT := tc4 (List.mem_of_getElem? (i := 154) rfl) rfl
theorem tw4_155 : (Jvm.Cond.selects "ThrowArms$Diary" ({ cls := "ThrowArms$Diary", name := "write", desc := "(II)V" } : Jvm.MethodName) ({ cls := "ThrowArms$Diary", name := "write", desc := "(II)V" } : Jvm.MethodName)) ∈ TT := tc4 (List.mem_of_getElem? (i := 155) rfl) rfl
theorem tw4_156 : (Jvm.Cond.code ({ cls := "ThrowArms$Diary", name := "write", desc := "(II)V" } : Jvm.MethodName) prog_5_method_3_code (3 : Nat) (Option.none : Option Jvm.ClassFile.FieldType)) ∈ TT := tc4 (List.mem_of_getElem? (i := 156) rfl) rfl
theorem tw4_157 : (Jvm.Cond.methodLink "ThrowArms$Best" (93 : Nat) ({ cls := "ThrowArms$Best", name := "mayHave", desc := "(II)Z" } : Jvm.MethodName)) ∈ TT := tc4 (List.mem_of_getElem? (i := 157) rfl) rfl
theorem tw4_159 : (Jvm.Cond.instanceMethod ({ cls := "ThrowArms$Best", name := "mayHave", desc := "(II)Z" } : Jvm.MethodName)) ∈ TT := tc4 (List.mem_of_getElem? (i := 159) rfl) rfl
theorem tw4_160 : (Jvm.Cond.code ({ cls := "ThrowArms$Best", name := "mayHave", desc := "(II)Z" } : Jvm.MethodName) prog_2_method_5_code (3 : Nat) (Option.some Jvm.ClassFile.FieldType.boolean)) ∈ TT := tc4 (List.mem_of_getElem? (i := 160) rfl) rfl
theorem tw4_161 : (Jvm.Cond.methodLink "ThrowArms$Best" (96 : Nat) ({ cls := "ThrowArms$Diary", name := "clashes", desc := "(II)I" } : Jvm.MethodName)) ∈ TT := tc4 (List.mem_of_getElem? (i := 161) rfl) rfl
theorem tw4_162 : (Jvm.Cond.constant "ThrowArms$Best" (69 : Nat) (100000000 : Int32)) ∈ TT := tc4 (List.mem_of_getElem? (i := 162) rfl) rfl
theorem tw4_163 : (Jvm.Cond.methodLink "ThrowArms$Best" (70 : Nat) ({ cls := "ThrowArms$Best", name := "search", desc := "(II)V" } : Jvm.MethodName)) ∈ TT := tc4 (List.mem_of_getElem? (i := 163) rfl) rfl
theorem tw4_165 : (Jvm.Cond.instanceMethod ({ cls := "ThrowArms$Best", name := "search", desc := "(II)V" } : Jvm.MethodName)) ∈ TT := tc4 (List.mem_of_getElem? (i := 165) rfl) rfl
theorem tw4_166 : (Jvm.Cond.code ({ cls := "ThrowArms$Best", name := "search", desc := "(II)V" } : Jvm.MethodName) prog_2_method_6_code (4 : Nat) (Option.none : Option Jvm.ClassFile.FieldType)) ∈ TT := tc4 (List.mem_of_getElem? (i := 166) rfl) rfl
theorem tw4_167 : (Jvm.Cond.methodLink "ThrowArms$Best" (99 : Nat) ({ cls := "java/lang/System", name := "arraycopy", desc := "(Ljava/lang/Object;ILjava/lang/Object;II)V" } : Jvm.MethodName)) ∈ TT := tc4 (List.mem_of_getElem? (i := 167) rfl) rfl
theorem tw4_168 : (Jvm.Cond.methodLink "ThrowArmsLaw" (95 : Nat) ({ cls := "ThrowArms", name := "bestOf", desc := "(III)I" } : Jvm.MethodName)) ∈ TT := tc4 (List.mem_of_getElem? (i := 168) rfl) rfl
theorem tw4_169 : (Jvm.Cond.instanceMethod ({ cls := "ThrowArms", name := "bestOf", desc := "(III)I" } : Jvm.MethodName)) ∈ TT := tc4 (List.mem_of_getElem? (i := 169) rfl) rfl
theorem tw4_170 : (Jvm.Cond.selects "ThrowArms" ({ cls := "ThrowArms", name := "bestOf", desc := "(III)I" } : Jvm.MethodName) ({ cls := "ThrowArms", name := "bestOf", desc := "(III)I" } : Jvm.MethodName)) ∈ TT := tc4 (List.mem_of_getElem? (i := 170) rfl) rfl
theorem tw4_171 : (Jvm.Cond.code ({ cls := "ThrowArms", name := "bestOf", desc := "(III)I" } : Jvm.MethodName) prog_1_method_25_code (5 : Nat) (Option.some Jvm.ClassFile.FieldType.int)) ∈ TT := tc4 (List.mem_of_getElem? (i := 171) rfl) rfl
theorem tw4_172 : (Jvm.Cond.methodLink "ThrowArmsLaw" (99 : Nat) ({ cls := "ThrowArms", name := "pai\x72", desc := "(III)I" } : Jvm.MethodName)) ∈ TT := tc4 (List.mem_of_getElem? (i := 172) rfl) rfl
theorem tw4_173 : (Jvm.Cond.instanceMethod ({ cls := "ThrowArms", name := "pai\x72", desc := "(III)I" } : Jvm.MethodName)) ∈ TT := tc4 (List.mem_of_getElem? (i := 173) rfl) rfl
theorem tw4_174 : (Jvm.Cond.selects "ThrowArms" ({ cls := "ThrowArms", name := "pai\x72", desc := "(III)I" } : Jvm.MethodName) ({ cls := "ThrowArms", name := "pai\x72", desc := "(III)I" } : Jvm.MethodName)) ∈ TT := tc4 (List.mem_of_getElem? (i := 174) rfl) rfl
theorem tw4_175 : (Jvm.Cond.code ({ cls := "ThrowArms", name := "pai\x72", desc := "(III)I" } : Jvm.MethodName) prog_1_method_27_code (4 : Nat) (Option.some Jvm.ClassFile.FieldType.int)) ∈ TT := tc4 (List.mem_of_getElem? (i := 175) rfl) rfl
theorem tw4_176 : (Jvm.Cond.methodLink "ThrowArms" (262 : Nat) ({ cls := "ThrowArms$Choose\x72", name := "choosePai\x72", desc := "(II)V" } : Jvm.MethodName)) ∈ TT := tc4 (List.mem_of_getElem? (i := 176) rfl) rfl
theorem tw4_177 : (Jvm.Cond.instanceMethod ({ cls := "ThrowArms$Choose\x72", name := "choosePai\x72", desc := "(II)V" } : Jvm.MethodName)) ∈ TT := tc4 (List.mem_of_getElem? (i := 177) rfl) rfl
theorem tw4_178 : (Jvm.Cond.selects "ThrowArms$Choose\x72" ({ cls := "ThrowArms$Choose\x72", name := "choosePai\x72", desc := "(II)V" } : Jvm.MethodName) ({ cls := "ThrowArms$Choose\x72", name := "choosePai\x72", desc := "(II)V" } : Jvm.MethodName)) ∈ TT := tc4 (List.mem_of_getElem? (i := 178) rfl) rfl
theorem tw4_179 : (Jvm.Cond.code ({ cls := "ThrowArms$Choose\x72", name := "choosePai\x72", desc := "(II)V" } : Jvm.MethodName) prog_4_method_2_code (5 : Nat) (Option.none : Option Jvm.ClassFile.FieldType)) ∈ TT := tc4 (List.mem_of_getElem? (i := 179) rfl) rfl
theorem tw4_180 : (Jvm.Cond.methodLink "ThrowArms$Choose\x72" (52 : Nat) ({ cls := "ThrowArms$Book", name := "fullThrows", desc := "(II)I" } : Jvm.MethodName)) ∈ TT := tc4 (List.mem_of_getElem? (i := 180) rfl) rfl
theorem tw4_181 : (Jvm.Cond.methodLink "ThrowArms$Choose\x72" (56 : Nat) ({ cls := "java/lang/Math", name := "min", desc := "(II)I" } : Jvm.MethodName)) ∈ TT := tc4 (List.mem_of_getElem? (i := 181) rfl) rfl
theorem tw4_182 : (Jvm.Cond.methodLink "ThrowArms$Choose\x72" (61 : Nat) ({ cls := "ThrowArms$Told", name := "fact", desc := "(II)I" } : Jvm.MethodName)) ∈ TT := tc4 (List.mem_of_getElem? (i := 182) rfl) rfl
theorem tw4_183 : (Jvm.Cond.methodLink "ThrowArms$Choose\x72" (64 : Nat) ({ cls := "ThrowArms$Diary", name := "allowsIn", desc := "(III)Z" } : Jvm.MethodName)) ∈ TT := tc4 (List.mem_of_getElem? (i := 183) rfl) rfl
theorem tw4_184 : (Jvm.Cond.methodLink "ThrowArms$Choose\x72" (70 : Nat) ({ cls := "ThrowArms$Choose\x72", name := "chooseOthe\x72", desc := "(III)V" } : Jvm.MethodName)) ∈ TT := tc4 (List.mem_of_getElem? (i := 184) rfl) rfl
theorem tw4_186 : (Jvm.Cond.instanceMethod ({ cls := "ThrowArms$Choose\x72", name := "chooseOthe\x72", desc := "(III)V" } : Jvm.MethodName)) ∈ TT := tc4 (List.mem_of_getElem? (i := 186) rfl) rfl
theorem tw4_187 : (Jvm.Cond.code ({ cls := "ThrowArms$Choose\x72", name := "chooseOthe\x72", desc := "(III)V" } : Jvm.MethodName) prog_4_method_3_code (8 : Nat) (Option.none : Option Jvm.ClassFile.FieldType)) ∈ TT := tc4 (List.mem_of_getElem? (i := 187) rfl) rfl
theorem tw4_188 : (Jvm.Cond.methodLink "ThrowArms$Choose\x72" (74 : Nat) ({ cls := "ThrowArms$Told", name := "trait", desc := "(II)I" } : Jvm.MethodName)) ∈ TT := tc4 (List.mem_of_getElem? (i := 188) rfl) rfl
theorem tw4_189 : (Jvm.Cond.methodLink "ThrowArms$Choose\x72" (77 : Nat) ({ cls := "ThrowArms$Book", name := "valueOf", desc := "(III)I" } : Jvm.MethodName)) ∈ TT := tc4 (List.mem_of_getElem? (i := 189) rfl) rfl
theorem tw4_190 : (Jvm.Cond.methodLink "ThrowArmsLaw" (103 : Nat) ({ cls := "ThrowArms", name := "breaches", desc := "()I" } : Jvm.MethodName)) ∈ TT := tc4 (List.mem_of_getElem? (i := 190) rfl) rfl
theorem tw4_191 : (Jvm.Cond.instanceMethod ({ cls := "ThrowArms", name := "breaches", desc := "()I" } : Jvm.MethodName)) ∈ TT := tc4 (List.mem_of_getElem? (i := 191) rfl) rfl
theorem tw4_192 : (Jvm.Cond.selects "ThrowArms" ({ cls := "ThrowArms", name := "breaches", desc := "()I" } : Jvm.MethodName) ({ cls := "ThrowArms", name := "breaches", desc := "()I" } : Jvm.MethodName)) ∈ TT := tc4 (List.mem_of_getElem? (i := 192) rfl) rfl
theorem tw4_193 : (Jvm.Cond.code ({ cls := "ThrowArms", name := "breaches", desc := "()I" } : Jvm.MethodName) prog_1_method_28_code (4 : Nat) (Option.some Jvm.ClassFile.FieldType.int)) ∈ TT := tc4 (List.mem_of_getElem? (i := 193) rfl) rfl
theorem tw4_194 : (Jvm.Cond.methodLink "ThrowArmsLaw" (107 : Nat) ({ cls := "ThrowArms", name := "breach", desc := "(I)I" } : Jvm.MethodName)) ∈ TT := tc4 (List.mem_of_getElem? (i := 194) rfl) rfl
theorem tw4_195 : (Jvm.Cond.instanceMethod ({ cls := "ThrowArms", name := "breach", desc := "(I)I" } : Jvm.MethodName)) ∈ TT := tc4 (List.mem_of_getElem? (i := 195) rfl) rfl
theorem tw4_196 : (Jvm.Cond.selects "ThrowArms" ({ cls := "ThrowArms", name := "breach", desc := "(I)I" } : Jvm.MethodName) ({ cls := "ThrowArms", name := "breach", desc := "(I)I" } : Jvm.MethodName)) ∈ TT := tc4 (List.mem_of_getElem? (i := 196) rfl) rfl
theorem tw4_197 : (Jvm.Cond.code ({ cls := "ThrowArms", name := "breach", desc := "(I)I" } : Jvm.MethodName) prog_1_method_29_code (5 : Nat) (Option.some Jvm.ClassFile.FieldType.int)) ∈ TT := tc4 (List.mem_of_getElem? (i := 197) rfl) rfl
theorem tw4_198 : (Jvm.Cond.methodLink "ThrowArmsLaw" (111 : Nat) ({ cls := "ThrowArms", name := "work", desc := "(II)I" } : Jvm.MethodName)) ∈ TT := tc4 (List.mem_of_getElem? (i := 198) rfl) rfl
theorem tw4_199 : (Jvm.Cond.instanceMethod ({ cls := "ThrowArms", name := "work", desc := "(II)I" } : Jvm.MethodName)) ∈ TT := tc4 (List.mem_of_getElem? (i := 199) rfl) rfl
theorem tw4_200 : (Jvm.Cond.selects "ThrowArms" ({ cls := "ThrowArms", name := "work", desc := "(II)I" } : Jvm.MethodName) ({ cls := "ThrowArms", name := "work", desc := "(II)I" } : Jvm.MethodName)) ∈ TT := tc4 (List.mem_of_getElem? (i := 200) rfl) rfl
theorem tw4_201 : (Jvm.Cond.code ({ cls := "ThrowArms", name := "work", desc := "(II)I" } : Jvm.MethodName) prog_1_method_30_code (3 : Nat) (Option.some Jvm.ClassFile.FieldType.int)) ∈ TT := tc4 (List.mem_of_getElem? (i := 201) rfl) rfl
theorem tw4_202 : (Jvm.Cond.methodLink "ThrowArms" (274 : Nat) ({ cls := "ThrowArms$Book", name := "weekOfArm", desc := "(II)I" } : Jvm.MethodName)) ∈ TT := tc4 (List.mem_of_getElem? (i := 202) rfl) rfl
theorem tw4_203 : (Jvm.Cond.instanceMethod ({ cls := "ThrowArms$Book", name := "weekOfArm", desc := "(II)I" } : Jvm.MethodName)) ∈ TT := tc4 (List.mem_of_getElem? (i := 203) rfl) rfl
theorem tw4_204 : (Jvm.Cond.selects "ThrowArms$Book" ({ cls := "ThrowArms$Book", name := "weekOfArm", desc := "(II)I" } : Jvm.MethodName) ({ cls := "ThrowArms$Book", name := "weekOfArm", desc := "(II)I" } : Jvm.MethodName)) ∈ TT := tc4 (List.mem_of_getElem? (i := 204) rfl) rfl
theorem tw4_205 : (Jvm.Cond.code ({ cls := "ThrowArms$Book", name := "weekOfArm", desc := "(II)I" } : Jvm.MethodName) prog_3_method_14_code (5 : Nat) (Option.some Jvm.ClassFile.FieldType.int)) ∈ TT := tc4 (List.mem_of_getElem? (i := 205) rfl) rfl
theorem tw4_207 : (Jvm.Cond.methodLink "ThrowArmsLaw" (115 : Nat) ({ cls := "ThrowArms", name := "busiest", desc := "(II)I" } : Jvm.MethodName)) ∈ TT := tc4 (List.mem_of_getElem? (i := 207) rfl) rfl
theorem tw4_208 : (Jvm.Cond.instanceMethod ({ cls := "ThrowArms", name := "busiest", desc := "(II)I" } : Jvm.MethodName)) ∈ TT := tc4 (List.mem_of_getElem? (i := 208) rfl) rfl
theorem tw4_209 : (Jvm.Cond.selects "ThrowArms" ({ cls := "ThrowArms", name := "busiest", desc := "(II)I" } : Jvm.MethodName) ({ cls := "ThrowArms", name := "busiest", desc := "(II)I" } : Jvm.MethodName)) ∈ TT := tc4 (List.mem_of_getElem? (i := 209) rfl) rfl
theorem tw4_210 : (Jvm.Cond.code ({ cls := "ThrowArms", name := "busiest", desc := "(II)I" } : Jvm.MethodName) prog_1_method_31_code (7 : Nat) (Option.some Jvm.ClassFile.FieldType.int)) ∈ TT := tc4 (List.mem_of_getElem? (i := 210) rfl) rfl
theorem tw4_211 : (Jvm.Cond.methodLink "ThrowArmsLaw" (119 : Nat) ({ cls := "ThrowArms", name := "idle", desc := "(I)I" } : Jvm.MethodName)) ∈ TT := tc4 (List.mem_of_getElem? (i := 211) rfl) rfl
theorem tw4_212 : (Jvm.Cond.instanceMethod ({ cls := "ThrowArms", name := "idle", desc := "(I)I" } : Jvm.MethodName)) ∈ TT := tc4 (List.mem_of_getElem? (i := 212) rfl) rfl
theorem tw4_213 : (Jvm.Cond.selects "ThrowArms" ({ cls := "ThrowArms", name := "idle", desc := "(I)I" } : Jvm.MethodName) ({ cls := "ThrowArms", name := "idle", desc := "(I)I" } : Jvm.MethodName)) ∈ TT := tc4 (List.mem_of_getElem? (i := 213) rfl) rfl
theorem tw4_214 : (Jvm.Cond.code ({ cls := "ThrowArms", name := "idle", desc := "(I)I" } : Jvm.MethodName) prog_1_method_32_code (5 : Nat) (Option.some Jvm.ClassFile.FieldType.int)) ∈ TT := tc4 (List.mem_of_getElem? (i := 214) rfl) rfl
theorem tw4_215 : (Jvm.Cond.methodLink "ThrowArms" (277 : Nat) ({ cls := "ThrowArms$Plan", name := "has", desc := "(II)Z" } : Jvm.MethodName)) ∈ TT := tc4 (List.mem_of_getElem? (i := 215) rfl) rfl
theorem tw4_216 : (Jvm.Cond.methodLink "ThrowArms" (280 : Nat) ({ cls := "java/lang/Math", name := "max", desc := "(II)I" } : Jvm.MethodName)) ∈ TT := tc4 (List.mem_of_getElem? (i := 216) rfl) rfl
theorem tw4_217 : (Jvm.Cond.methodLink "ThrowArmsLaw" (123 : Nat) ({ cls := "ThrowArms", name := "gap", desc := "(I)I" } : Jvm.MethodName)) ∈ TT := tc4 (List.mem_of_getElem? (i := 217) rfl) rfl
theorem tw4_218 : (Jvm.Cond.instanceMethod ({ cls := "ThrowArms", name := "gap", desc := "(I)I" } : Jvm.MethodName)) ∈ TT := tc4 (List.mem_of_getElem? (i := 218) rfl) rfl
theorem tw4_219 : (Jvm.Cond.selects "ThrowArms" ({ cls := "ThrowArms", name := "gap", desc := "(I)I" } : Jvm.MethodName) ({ cls := "ThrowArms", name := "gap", desc := "(I)I" } : Jvm.MethodName)) ∈ TT := tc4 (List.mem_of_getElem? (i := 219) rfl) rfl
theorem tw4_220 : (Jvm.Cond.code ({ cls := "ThrowArms", name := "gap", desc := "(I)I" } : Jvm.MethodName) prog_1_method_33_code (5 : Nat) (Option.some Jvm.ClassFile.FieldType.int)) ∈ TT := tc4 (List.mem_of_getElem? (i := 220) rfl) rfl
theorem tw4_221 : (Jvm.Cond.constant "ThrowArms" (285 : Nat) (1000000 : Int32)) ∈ TT := tc4 (List.mem_of_getElem? (i := 221) rfl) rfl
theorem tw4_222 : (Jvm.Cond.methodLink "ThrowArms" (286 : Nat) ({ cls := "ThrowArms$Told", name := "daysFrom", desc := "(II)I" } : Jvm.MethodName)) ∈ TT := tc4 (List.mem_of_getElem? (i := 222) rfl) rfl
theorem tw4_223 : (Jvm.Cond.methodLink "ThrowArms" (289 : Nat) ({ cls := "java/lang/Math", name := "min", desc := "(II)I" } : Jvm.MethodName)) ∈ TT := tc4 (List.mem_of_getElem? (i := 223) rfl) rfl
theorem tw4_224 : (Jvm.Cond.methodLink "ThrowArmsLaw" (127 : Nat) ({ cls := "ThrowArms", name := "hands", desc := "(IZ)I" } : Jvm.MethodName)) ∈ TT := tc4 (List.mem_of_getElem? (i := 224) rfl) rfl
theorem tw4_225 : (Jvm.Cond.instanceMethod ({ cls := "ThrowArms", name := "hands", desc := "(IZ)I" } : Jvm.MethodName)) ∈ TT := tc4 (List.mem_of_getElem? (i := 225) rfl) rfl
theorem tw4_226 : (Jvm.Cond.selects "ThrowArms" ({ cls := "ThrowArms", name := "hands", desc := "(IZ)I" } : Jvm.MethodName) ({ cls := "ThrowArms", name := "hands", desc := "(IZ)I" } : Jvm.MethodName)) ∈ TT := tc4 (List.mem_of_getElem? (i := 226) rfl) rfl
theorem tw4_227 : (Jvm.Cond.code ({ cls := "ThrowArms", name := "hands", desc := "(IZ)I" } : Jvm.MethodName) prog_1_method_34_code (6 : Nat) (Option.some Jvm.ClassFile.FieldType.int)) ∈ TT := tc4 (List.mem_of_getElem? (i := 227) rfl) rfl
theorem tw4_228 : (Jvm.Cond.methodLink "ThrowArmsLaw" (132 : Nat) ({ cls := "ThrowArms", name := "bare", desc := "(I)I" } : Jvm.MethodName)) ∈ TT := tc4 (List.mem_of_getElem? (i := 228) rfl) rfl
theorem tw4_229 : (Jvm.Cond.instanceMethod ({ cls := "ThrowArms", name := "bare", desc := "(I)I" } : Jvm.MethodName)) ∈ TT := tc4 (List.mem_of_getElem? (i := 229) rfl) rfl
theorem tw4_230 : (Jvm.Cond.selects "ThrowArms" ({ cls := "ThrowArms", name := "bare", desc := "(I)I" } : Jvm.MethodName) ({ cls := "ThrowArms", name := "bare", desc := "(I)I" } : Jvm.MethodName)) ∈ TT := tc4 (List.mem_of_getElem? (i := 230) rfl) rfl
theorem tw4_231 : (Jvm.Cond.code ({ cls := "ThrowArms", name := "bare", desc := "(I)I" } : Jvm.MethodName) prog_1_method_35_code (4 : Nat) (Option.some Jvm.ClassFile.FieldType.int)) ∈ TT := tc4 (List.mem_of_getElem? (i := 231) rfl) rfl
theorem tw4_232 : (Jvm.Cond.methodLink "ThrowArmsLaw" (136 : Nat) ({ cls := "ThrowArms", name := "risk", desc := "(I)I" } : Jvm.MethodName)) ∈ TT := tc4 (List.mem_of_getElem? (i := 232) rfl) rfl
theorem tw4_233 : (Jvm.Cond.instanceMethod ({ cls := "ThrowArms", name := "risk", desc := "(I)I" } : Jvm.MethodName)) ∈ TT := tc4 (List.mem_of_getElem? (i := 233) rfl) rfl
theorem tw4_234 : (Jvm.Cond.selects "ThrowArms" ({ cls := "ThrowArms", name := "risk", desc := "(I)I" } : Jvm.MethodName) ({ cls := "ThrowArms", name := "risk", desc := "(I)I" } : Jvm.MethodName)) ∈ TT := tc4 (List.mem_of_getElem? (i := 234) rfl) rfl
theorem tw4_235 : (Jvm.Cond.code ({ cls := "ThrowArms", name := "risk", desc := "(I)I" } : Jvm.MethodName) prog_1_method_36_code (4 : Nat) (Option.some Jvm.ClassFile.FieldType.int)) ∈ TT := tc4 (List.mem_of_getElem? (i := 235) rfl) rfl
theorem tw4_236 : (Jvm.Cond.methodLink "ThrowArms" (292 : Nat) ({ cls := "ThrowArms$Plan", name := "loadOf", desc := "(II)I" } : Jvm.MethodName)) ∈ TT := tc4 (List.mem_of_getElem? (i := 236) rfl) rfl
theorem tw4_237 : (Jvm.Cond.methodLink "ThrowArms" (295 : Nat) ({ cls := "ThrowArms$Book", name := "riskOf", desc := "(II)I" } : Jvm.MethodName)) ∈ TT := tc4 (List.mem_of_getElem? (i := 237) rfl) rfl
theorem tw4_238 : (Jvm.Cond.methodLink "ThrowArmsLaw" (140 : Nat) ({ cls := "ThrowArms", name := "sound", desc := "(II)J" } : Jvm.MethodName)) ∈ TT := tc4 (List.mem_of_getElem? (i := 238) rfl) rfl
theorem tw4_239 : (Jvm.Cond.instanceMethod ({ cls := "ThrowArms", name := "sound", desc := "(II)J" } : Jvm.MethodName)) ∈ TT := tc4 (List.mem_of_getElem? (i := 239) rfl) rfl
theorem tw5_0 : (Jvm.Cond.selects "ThrowArms" ({ cls := "ThrowArms", name := "sound", desc := "(II)J" } : Jvm.MethodName) ({ cls := "ThrowArms", name := "sound", desc := "(II)J" } : Jvm.MethodName)) ∈ TT := tc5 (List.mem_of_getElem? (i := 0) rfl) rfl
theorem tw5_1 : (Jvm.Cond.code ({ cls := "ThrowArms", name := "sound", desc := "(II)J" } : Jvm.MethodName) prog_1_method_37_code (11 : Nat) (Option.some Jvm.ClassFile.FieldType.long)) ∈ TT := tc5 (List.mem_of_getElem? (i := 1) rfl) rfl
theorem tw5_2 : (Jvm.Cond.constantLong "ThrowArms" (298 : Nat) (1000 : Int64)) ∈ TT := tc5 (List.mem_of_getElem? (i := 2) rfl) rfl
theorem tw5_3 : (Jvm.Cond.methodLink "ThrowArms" (300 : Nat) ({ cls := "ThrowArms", name := "commonDiviso\x72", desc := "(JJ)J" } : Jvm.MethodName)) ∈ TT := tc5 (List.mem_of_getElem? (i := 3) rfl) rfl
theorem tw5_4 : (Jvm.Cond.static ({ cls := "ThrowArms", name := "commonDiviso\x72", desc := "(JJ)J" } : Jvm.MethodName)) ∈ TT := tc5 (List.mem_of_getElem? (i := 4) rfl) rfl
theorem tw5_5 : (Jvm.Cond.code ({ cls := "ThrowArms", name := "commonDiviso\x72", desc := "(JJ)J" } : Jvm.MethodName) prog_1_method_38_code (7 : Nat) (Option.some Jvm.ClassFile.FieldType.long)) ∈ TT := tc5 (List.mem_of_getElem? (i := 5) rfl) rfl
theorem tw5_6 : (Jvm.Cond.methodLink "ThrowArmsLaw" (145 : Nat) ({ cls := "ThrowArms", name := "season", desc := "(II)I" } : Jvm.MethodName)) ∈ TT := tc5 (List.mem_of_getElem? (i := 6) rfl) rfl
theorem tw5_7 : (Jvm.Cond.instanceMethod ({ cls := "ThrowArms", name := "season", desc := "(II)I" } : Jvm.MethodName)) ∈ TT := tc5 (List.mem_of_getElem? (i := 7) rfl) rfl
theorem tw5_8 : (Jvm.Cond.selects "ThrowArms" ({ cls := "ThrowArms", name := "season", desc := "(II)I" } : Jvm.MethodName) ({ cls := "ThrowArms", name := "season", desc := "(II)I" } : Jvm.MethodName)) ∈ TT := tc5 (List.mem_of_getElem? (i := 8) rfl) rfl
theorem tw5_9 : (Jvm.Cond.code ({ cls := "ThrowArms", name := "season", desc := "(II)I" } : Jvm.MethodName) prog_1_method_39_code (3 : Nat) (Option.some Jvm.ClassFile.FieldType.int)) ∈ TT := tc5 (List.mem_of_getElem? (i := 9) rfl) rfl
theorem tw5_10 : (Jvm.Cond.constant "ThrowArms" (304 : Nat) (2147483646 : Int32)) ∈ TT := tc5 (List.mem_of_getElem? (i := 10) rfl) rfl
theorem tw5_11 : (Jvm.Cond.methodLink "ThrowArms" (305 : Nat) ({ cls := "ThrowArms$Season", name := "play", desc := "(I)V" } : Jvm.MethodName)) ∈ TT := tc5 (List.mem_of_getElem? (i := 11) rfl) rfl
theorem tw5_12 : (Jvm.Cond.instanceMethod ({ cls := "ThrowArms$Season", name := "play", desc := "(I)V" } : Jvm.MethodName)) ∈ TT := tc5 (List.mem_of_getElem? (i := 12) rfl) rfl
theorem tw5_13 : (Jvm.Cond.selects "ThrowArms$Season" ({ cls := "ThrowArms$Season", name := "play", desc := "(I)V" } : Jvm.MethodName) ({ cls := "ThrowArms$Season", name := "play", desc := "(I)V" } : Jvm.MethodName)) ∈ TT := tc5 (List.mem_of_getElem? (i := 13) rfl) rfl
theorem tw5_14 : (Jvm.Cond.code ({ cls := "ThrowArms$Season", name := "play", desc := "(I)V" } : Jvm.MethodName) prog_9_method_2_code (4 : Nat) (Option.none : Option Jvm.ClassFile.FieldType)) ∈ TT := tc5 (List.mem_of_getElem? (i := 14) rfl) rfl
theorem tw5_15 : (Jvm.Cond.methodLink "ThrowArms$Season" (59 : Nat) ({ cls := "ThrowArms$Season", name := "playOuting", desc := "(II)V" } : Jvm.MethodName)) ∈ TT := tc5 (List.mem_of_getElem? (i := 15) rfl) rfl
theorem tw5_17 : (Jvm.Cond.instanceMethod ({ cls := "ThrowArms$Season", name := "playOuting", desc := "(II)V" } : Jvm.MethodName)) ∈ TT := tc5 (List.mem_of_getElem? (i := 17) rfl) rfl
theorem tw5_18 : (Jvm.Cond.code ({ cls := "ThrowArms$Season", name := "playOuting", desc := "(II)V" } : Jvm.MethodName) prog_9_method_3_code (5 : Nat) (Option.none : Option Jvm.ClassFile.FieldType)) ∈ TT := tc5 (List.mem_of_getElem? (i := 18) rfl) rfl
theorem tw5_19 : (Jvm.Cond.methodLink "ThrowArms$Season" (63 : Nat) ({ cls := "ThrowArms$Plan", name := "armAt", desc := "(II)I" } : Jvm.MethodName)) ∈ TT := tc5 (List.mem_of_getElem? (i := 19) rfl) rfl
theorem tw5_20 : (Jvm.Cond.methodLink "ThrowArms$Season" (67 : Nat) ({ cls := "ThrowArms$Told", name := "fact", desc := "(II)I" } : Jvm.MethodName)) ∈ TT := tc5 (List.mem_of_getElem? (i := 20) rfl) rfl
theorem tw5_21 : (Jvm.Cond.methodLink "ThrowArms$Season" (70 : Nat) ({ cls := "ThrowArms$Book", name := "valueAt", desc := "(II)I" } : Jvm.MethodName)) ∈ TT := tc5 (List.mem_of_getElem? (i := 21) rfl) rfl
theorem tw5_22 : (Jvm.Cond.constantLong "ThrowArms$Season" (73 : Nat) (16807 : Int64)) ∈ TT := tc5 (List.mem_of_getElem? (i := 22) rfl) rfl
theorem tw5_23 : (Jvm.Cond.constantLong "ThrowArms$Season" (75 : Nat) (2147483647 : Int64)) ∈ TT := tc5 (List.mem_of_getElem? (i := 23) rfl) rfl
theorem tw5_24 : (Jvm.Cond.constantLong "ThrowArms$Season" (77 : Nat) (1000 : Int64)) ∈ TT := tc5 (List.mem_of_getElem? (i := 24) rfl) rfl
theorem tw5_25 : (Jvm.Cond.methodLink "ThrowArms$Season" (79 : Nat) ({ cls := "ThrowArms$Book", name := "riskAt", desc := "(II)I" } : Jvm.MethodName)) ∈ TT := tc5 (List.mem_of_getElem? (i := 25) rfl) rfl
theorem tw5_26 : (Jvm.Cond.methodLink "ThrowArms" (308 : Nat) ({ cls := "ThrowArms", name := "tellSeason", desc := "(I)I" } : Jvm.MethodName)) ∈ TT := tc5 (List.mem_of_getElem? (i := 26) rfl) rfl
theorem tw5_28 : (Jvm.Cond.instanceMethod ({ cls := "ThrowArms", name := "tellSeason", desc := "(I)I" } : Jvm.MethodName)) ∈ TT := tc5 (List.mem_of_getElem? (i := 28) rfl) rfl
theorem tw5_29 : (Jvm.Cond.code ({ cls := "ThrowArms", name := "tellSeason", desc := "(I)I" } : Jvm.MethodName) prog_1_method_40_code (2 : Nat) (Option.some Jvm.ClassFile.FieldType.int)) ∈ TT := tc5 (List.mem_of_getElem? (i := 29) rfl) rfl
theorem tw5_30 : (Jvm.Cond.methodLink "ThrowArmsLaw" (149 : Nat) ({ cls := "ThrowArms", name := "span", desc := "(III)I" } : Jvm.MethodName)) ∈ TT := tc5 (List.mem_of_getElem? (i := 30) rfl) rfl
theorem tw5_31 : (Jvm.Cond.instanceMethod ({ cls := "ThrowArms", name := "span", desc := "(III)I" } : Jvm.MethodName)) ∈ TT := tc5 (List.mem_of_getElem? (i := 31) rfl) rfl
theorem tw5_32 : (Jvm.Cond.selects "ThrowArms" ({ cls := "ThrowArms", name := "span", desc := "(III)I" } : Jvm.MethodName) ({ cls := "ThrowArms", name := "span", desc := "(III)I" } : Jvm.MethodName)) ∈ TT := tc5 (List.mem_of_getElem? (i := 32) rfl) rfl
theorem tw5_33 : (Jvm.Cond.code ({ cls := "ThrowArms", name := "span", desc := "(III)I" } : Jvm.MethodName) prog_1_method_41_code (8 : Nat) (Option.some Jvm.ClassFile.FieldType.int)) ∈ TT := tc5 (List.mem_of_getElem? (i := 33) rfl) rfl
theorem tw5_34 : (Jvm.Cond.constant "ThrowArms" (328 : Nat) (2147483647 : Int32)) ∈ TT := tc5 (List.mem_of_getElem? (i := 34) rfl) rfl
theorem tw5_35 : (Jvm.Cond.methodLink "ThrowArmsLaw" (153 : Nat) ({ cls := "ThrowArms", name := "put", desc := "(IIIZ)I" } : Jvm.MethodName)) ∈ TT := tc5 (List.mem_of_getElem? (i := 35) rfl) rfl
theorem tw5_36 : (Jvm.Cond.instanceMethod ({ cls := "ThrowArms", name := "put", desc := "(IIIZ)I" } : Jvm.MethodName)) ∈ TT := tc5 (List.mem_of_getElem? (i := 36) rfl) rfl
theorem tw5_37 : (Jvm.Cond.selects "ThrowArms" ({ cls := "ThrowArms", name := "put", desc := "(IIIZ)I" } : Jvm.MethodName) ({ cls := "ThrowArms", name := "put", desc := "(IIIZ)I" } : Jvm.MethodName)) ∈ TT := tc5 (List.mem_of_getElem? (i := 37) rfl) rfl
theorem tw5_38 : (Jvm.Cond.code ({ cls := "ThrowArms", name := "put", desc := "(IIIZ)I" } : Jvm.MethodName) prog_1_method_42_code (5 : Nat) (Option.some Jvm.ClassFile.FieldType.int)) ∈ TT := tc5 (List.mem_of_getElem? (i := 38) rfl) rfl
theorem tw5_39 : (Jvm.Cond.methodLink "ThrowArms" (329 : Nat) ({ cls := "ThrowArms$Diary", name := "allowsIn", desc := "(III)Z" } : Jvm.MethodName)) ∈ TT := tc5 (List.mem_of_getElem? (i := 39) rfl) rfl
theorem tw5_40 : (Jvm.Cond.methodLink "ThrowArms" (332 : Nat) ({ cls := "ThrowArms$History", name := "keep", desc := "()V" } : Jvm.MethodName)) ∈ TT := tc5 (List.mem_of_getElem? (i := 40) rfl) rfl
theorem tw5_41 : (Jvm.Cond.instanceMethod ({ cls := "ThrowArms$History", name := "keep", desc := "()V" } : Jvm.MethodName)) ∈ TT := tc5 (List.mem_of_getElem? (i := 41) rfl) rfl
theorem tw5_42 : (Jvm.Cond.selects "ThrowArms$History" ({ cls := "ThrowArms$History", name := "keep", desc := "()V" } : Jvm.MethodName) ({ cls := "ThrowArms$History", name := "keep", desc := "()V" } : Jvm.MethodName)) ∈ TT := tc5 (List.mem_of_getElem? (i := 42) rfl) rfl
theorem tw5_43 : (Jvm.Cond.code ({ cls := "ThrowArms$History", name := "keep", desc := "()V" } : Jvm.MethodName) prog_6_method_2_code (1 : Nat) (Option.none : Option Jvm.ClassFile.FieldType)) ∈ TT := tc5 (List.mem_of_getElem? (i := 43) rfl) rfl
theorem tw5_44 : (Jvm.Cond.methodLink "ThrowArms$History" (34 : Nat) ({ cls := "ThrowArms$Told", name := "saveTo", desc := "([II)V" } : Jvm.MethodName)) ∈ TT := tc5 (List.mem_of_getElem? (i := 44) rfl) rfl
theorem tw5_45 : (Jvm.Cond.instanceMethod ({ cls := "ThrowArms$Told", name := "saveTo", desc := "([II)V" } : Jvm.MethodName)) ∈ TT := tc5 (List.mem_of_getElem? (i := 45) rfl) rfl
theorem tw5_46 : (Jvm.Cond.selects "ThrowArms$Told" ({ cls := "ThrowArms$Told", name := "saveTo", desc := "([II)V" } : Jvm.MethodName) ({ cls := "ThrowArms$Told", name := "saveTo", desc := "([II)V" } : Jvm.MethodName)) ∈ TT := tc5 (List.mem_of_getElem? (i := 46) rfl) rfl
theorem tw5_47 : (Jvm.Cond.code ({ cls := "ThrowArms$Told", name := "saveTo", desc := "([II)V" } : Jvm.MethodName) prog_11_method_11_code (3 : Nat) (Option.none : Option Jvm.ClassFile.FieldType)) ∈ TT := tc5 (List.mem_of_getElem? (i := 47) rfl) rfl
theorem tw5_48 : (Jvm.Cond.methodLink "ThrowArms$History" (38 : Nat) ({ cls := "ThrowArms$Plan", name := "saveTo", desc := "([II)V" } : Jvm.MethodName)) ∈ TT := tc5 (List.mem_of_getElem? (i := 48) rfl) rfl
theorem tw5_49 : (Jvm.Cond.instanceMethod ({ cls := "ThrowArms$Plan", name := "saveTo", desc := "([II)V" } : Jvm.MethodName)) ∈ TT := tc5 (List.mem_of_getElem? (i := 49) rfl) rfl
theorem tw5_50 : (Jvm.Cond.selects "ThrowArms$Plan" ({ cls := "ThrowArms$Plan", name := "saveTo", desc := "([II)V" } : Jvm.MethodName) ({ cls := "ThrowArms$Plan", name := "saveTo", desc := "([II)V" } : Jvm.MethodName)) ∈ TT := tc5 (List.mem_of_getElem? (i := 50) rfl) rfl
theorem tw5_51 : (Jvm.Cond.code ({ cls := "ThrowArms$Plan", name := "saveTo", desc := "([II)V" } : Jvm.MethodName) prog_7_method_13_code (3 : Nat) (Option.none : Option Jvm.ClassFile.FieldType)) ∈ TT := tc5 (List.mem_of_getElem? (i := 51) rfl) rfl
theorem tw5_52 : (Jvm.Cond.methodLink "ThrowArms$History" (39 : Nat) ({ cls := "java/lang/Math", name := "min", desc := "(II)I" } : Jvm.MethodName)) ∈ TT := tc5 (List.mem_of_getElem? (i := 52) rfl) rfl
theorem tw5_53 : (Jvm.Cond.methodLink "ThrowArms" (335 : Nat) ({ cls := "ThrowArms$Plan", name := "add", desc := "(III)V" } : Jvm.MethodName)) ∈ TT := tc5 (List.mem_of_getElem? (i := 53) rfl) rfl
theorem tw5_54 : (Jvm.Cond.instanceMethod ({ cls := "ThrowArms$Plan", name := "add", desc := "(III)V" } : Jvm.MethodName)) ∈ TT := tc5 (List.mem_of_getElem? (i := 54) rfl) rfl
theorem tw5_55 : (Jvm.Cond.selects "ThrowArms$Plan" ({ cls := "ThrowArms$Plan", name := "add", desc := "(III)V" } : Jvm.MethodName) ({ cls := "ThrowArms$Plan", name := "add", desc := "(III)V" } : Jvm.MethodName)) ∈ TT := tc5 (List.mem_of_getElem? (i := 55) rfl) rfl
theorem tw5_56 : (Jvm.Cond.code ({ cls := "ThrowArms$Plan", name := "add", desc := "(III)V" } : Jvm.MethodName) prog_7_method_7_code (4 : Nat) (Option.none : Option Jvm.ClassFile.FieldType)) ∈ TT := tc5 (List.mem_of_getElem? (i := 56) rfl) rfl
theorem tw5_57 : (Jvm.Cond.methodLink "ThrowArmsLaw" (158 : Nat) ({ cls := "ThrowArms", name := "take", desc := "(II)I" } : Jvm.MethodName)) ∈ TT := tc5 (List.mem_of_getElem? (i := 57) rfl) rfl
theorem tw5_58 : (Jvm.Cond.instanceMethod ({ cls := "ThrowArms", name := "take", desc := "(II)I" } : Jvm.MethodName)) ∈ TT := tc5 (List.mem_of_getElem? (i := 58) rfl) rfl
theorem tw5_59 : (Jvm.Cond.selects "ThrowArms" ({ cls := "ThrowArms", name := "take", desc := "(II)I" } : Jvm.MethodName) ({ cls := "ThrowArms", name := "take", desc := "(II)I" } : Jvm.MethodName)) ∈ TT := tc5 (List.mem_of_getElem? (i := 59) rfl) rfl
theorem tw5_60 : (Jvm.Cond.code ({ cls := "ThrowArms", name := "take", desc := "(II)I" } : Jvm.MethodName) prog_1_method_43_code (4 : Nat) (Option.some Jvm.ClassFile.FieldType.int)) ∈ TT := tc5 (List.mem_of_getElem? (i := 60) rfl) rfl
theorem tw5_61 : (Jvm.Cond.methodLink "ThrowArms" (339 : Nat) ({ cls := "ThrowArms$Plan", name := "remove", desc := "(II)V" } : Jvm.MethodName)) ∈ TT := tc5 (List.mem_of_getElem? (i := 61) rfl) rfl
theorem tw5_62 : (Jvm.Cond.methodLink "ThrowArmsLaw" (162 : Nat) ({ cls := "ThrowArms", name := "shift", desc := "(III)I" } : Jvm.MethodName)) ∈ TT := tc5 (List.mem_of_getElem? (i := 62) rfl) rfl
theorem tw5_63 : (Jvm.Cond.instanceMethod ({ cls := "ThrowArms", name := "shift", desc := "(III)I" } : Jvm.MethodName)) ∈ TT := tc5 (List.mem_of_getElem? (i := 63) rfl) rfl
theorem tw5_64 : (Jvm.Cond.selects "ThrowArms" ({ cls := "ThrowArms", name := "shift", desc := "(III)I" } : Jvm.MethodName) ({ cls := "ThrowArms", name := "shift", desc := "(III)I" } : Jvm.MethodName)) ∈ TT := tc5 (List.mem_of_getElem? (i := 64) rfl) rfl
theorem tw5_65 : (Jvm.Cond.code ({ cls := "ThrowArms", name := "shift", desc := "(III)I" } : Jvm.MethodName) prog_1_method_44_code (6 : Nat) (Option.some Jvm.ClassFile.FieldType.int)) ∈ TT := tc5 (List.mem_of_getElem? (i := 65) rfl) rfl
theorem tw5_66 : (Jvm.Cond.methodLink "ThrowArms" (342 : Nat) ({ cls := "ThrowArms$Plan", name := "change", desc := "(IIII)V" } : Jvm.MethodName)) ∈ TT := tc5 (List.mem_of_getElem? (i := 66) rfl) rfl
theorem tw5_67 : (Jvm.Cond.instanceMethod ({ cls := "ThrowArms$Plan", name := "change", desc := "(IIII)V" } : Jvm.MethodName)) ∈ TT := tc5 (List.mem_of_getElem? (i := 67) rfl) rfl
theorem tw5_68 : (Jvm.Cond.selects "ThrowArms$Plan" ({ cls := "ThrowArms$Plan", name := "change", desc := "(IIII)V" } : Jvm.MethodName) ({ cls := "ThrowArms$Plan", name := "change", desc := "(IIII)V" } : Jvm.MethodName)) ∈ TT := tc5 (List.mem_of_getElem? (i := 68) rfl) rfl
theorem tw5_69 : (Jvm.Cond.code ({ cls := "ThrowArms$Plan", name := "change", desc := "(IIII)V" } : Jvm.MethodName) prog_7_method_9_code (5 : Nat) (Option.none : Option Jvm.ClassFile.FieldType)) ∈ TT := tc5 (List.mem_of_getElem? (i := 69) rfl) rfl
theorem tw5_70 : (Jvm.Cond.methodLink "ThrowArmsLaw" (166 : Nat) ({ cls := "ThrowArms", name := "swap", desc := "(IIII)Z" } : Jvm.MethodName)) ∈ TT := tc5 (List.mem_of_getElem? (i := 70) rfl) rfl
theorem tw5_71 : (Jvm.Cond.instanceMethod ({ cls := "ThrowArms", name := "swap", desc := "(IIII)Z" } : Jvm.MethodName)) ∈ TT := tc5 (List.mem_of_getElem? (i := 71) rfl) rfl
theorem tw5_72 : (Jvm.Cond.selects "ThrowArms" ({ cls := "ThrowArms", name := "swap", desc := "(IIII)Z" } : Jvm.MethodName) ({ cls := "ThrowArms", name := "swap", desc := "(IIII)Z" } : Jvm.MethodName)) ∈ TT := tc5 (List.mem_of_getElem? (i := 72) rfl) rfl
theorem tw5_73 : (Jvm.Cond.code ({ cls := "ThrowArms", name := "swap", desc := "(IIII)Z" } : Jvm.MethodName) prog_1_method_45_code (7 : Nat) (Option.some Jvm.ClassFile.FieldType.boolean)) ∈ TT := tc5 (List.mem_of_getElem? (i := 73) rfl) rfl
theorem tw5_74 : (Jvm.Cond.methodLink "ThrowArms" (346 : Nat) ({ cls := "ThrowArms", name := "mayTrade", desc := "(IIII)Z" } : Jvm.MethodName)) ∈ TT := tc5 (List.mem_of_getElem? (i := 74) rfl) rfl
theorem tw5_76 : (Jvm.Cond.instanceMethod ({ cls := "ThrowArms", name := "mayTrade", desc := "(IIII)Z" } : Jvm.MethodName)) ∈ TT := tc5 (List.mem_of_getElem? (i := 76) rfl) rfl
theorem tw5_77 : (Jvm.Cond.code ({ cls := "ThrowArms", name := "mayTrade", desc := "(IIII)Z" } : Jvm.MethodName) prog_1_method_46_code (7 : Nat) (Option.some Jvm.ClassFile.FieldType.boolean)) ∈ TT := tc5 (List.mem_of_getElem? (i := 77) rfl) rfl
theorem tw5_78 : (Jvm.Cond.methodLink "ThrowArms" (350 : Nat) ({ cls := "ThrowArms$Diary", name := "allowsMoved", desc := "(IIII)Z" } : Jvm.MethodName)) ∈ TT := tc5 (List.mem_of_getElem? (i := 78) rfl) rfl
theorem tw5_79 : (Jvm.Cond.instanceMethod ({ cls := "ThrowArms$Diary", name := "allowsMoved", desc := "(IIII)Z" } : Jvm.MethodName)) ∈ TT := tc5 (List.mem_of_getElem? (i := 79) rfl) rfl
theorem tw5_80 : (Jvm.Cond.selects "ThrowArms$Diary" ({ cls := "ThrowArms$Diary", name := "allowsMoved", desc := "(IIII)Z" } : Jvm.MethodName) ({ cls := "ThrowArms$Diary", name := "allowsMoved", desc := "(IIII)Z" } : Jvm.MethodName)) ∈ TT := tc5 (List.mem_of_getElem? (i := 80) rfl) rfl
theorem tw5_81 : (Jvm.Cond.code ({ cls := "ThrowArms$Diary", name := "allowsMoved", desc := "(IIII)Z" } : Jvm.MethodName) prog_5_method_6_code (5 : Nat) (Option.some Jvm.ClassFile.FieldType.boolean)) ∈ TT := tc5 (List.mem_of_getElem? (i := 81) rfl) rfl
theorem tw5_82 : (Jvm.Cond.methodLink "ThrowArms$Diary" (53 : Nat) ({ cls := "ThrowArms$Diary", name := "write", desc := "(II)V" } : Jvm.MethodName)) ∈ TT := tc5 (List.mem_of_getElem? (i := 82) rfl) rfl
theorem tw5_83 : (Jvm.Cond.methodLink "ThrowArmsLaw" (171 : Nat) ({ cls := "ThrowArms", name := "bette\x72", desc := "()I" } : Jvm.MethodName)) ∈ TT := tc5 (List.mem_of_getElem? (i := 83) rfl) rfl
theorem tw5_84 : (Jvm.Cond.instanceMethod ({ cls := "ThrowArms", name := "bette\x72", desc := "()I" } : Jvm.MethodName)) ∈ TT := tc5 (List.mem_of_getElem? (i := 84) rfl) rfl
theorem tw5_85 : (Jvm.Cond.selects "ThrowArms" ({ cls := "ThrowArms", name := "bette\x72", desc := "()I" } : Jvm.MethodName) ({ cls := "ThrowArms", name := "bette\x72", desc := "()I" } : Jvm.MethodName)) ∈ TT := tc5 (List.mem_of_getElem? (i := 85) rfl) rfl
theorem tw5_86 : (Jvm.Cond.code ({ cls := "ThrowArms", name := "bette\x72", desc := "()I" } : Jvm.MethodName) prog_1_method_47_code (2 : Nat) (Option.some Jvm.ClassFile.FieldType.int)) ∈ TT := tc5 (List.mem_of_getElem? (i := 86) rfl) rfl
theorem tw5_87 : (Jvm.Cond.methodLink "ThrowArms" (353 : Nat) ({ cls := "ThrowArms$Choose\x72", name := "changeBest", desc := "()Z" } : Jvm.MethodName)) ∈ TT := tc5 (List.mem_of_getElem? (i := 87) rfl) rfl
theorem tw5_88 : (Jvm.Cond.instanceMethod ({ cls := "ThrowArms$Choose\x72", name := "changeBest", desc := "()Z" } : Jvm.MethodName)) ∈ TT := tc5 (List.mem_of_getElem? (i := 88) rfl) rfl
theorem tw5_89 : (Jvm.Cond.selects "ThrowArms$Choose\x72" ({ cls := "ThrowArms$Choose\x72", name := "changeBest", desc := "()Z" } : Jvm.MethodName) ({ cls := "ThrowArms$Choose\x72", name := "changeBest", desc := "()Z" } : Jvm.MethodName)) ∈ TT := tc5 (List.mem_of_getElem? (i := 89) rfl) rfl
theorem tw5_90 : (Jvm.Cond.code ({ cls := "ThrowArms$Choose\x72", name := "changeBest", desc := "()Z" } : Jvm.MethodName) prog_4_method_6_code (3 : Nat) (Option.some Jvm.ClassFile.FieldType.boolean)) ∈ TT := tc5 (List.mem_of_getElem? (i := 90) rfl) rfl
theorem tw5_91 : (Jvm.Cond.methodLink "ThrowArms$Choose\x72" (104 : Nat) ({ cls := "ThrowArms$Choose\x72", name := "weighChanges", desc := "(II)V" } : Jvm.MethodName)) ∈ TT := tc5 (List.mem_of_getElem? (i := 91) rfl) rfl
theorem tw5_93 : (Jvm.Cond.instanceMethod ({ cls := "ThrowArms$Choose\x72", name := "weighChanges", desc := "(II)V" } : Jvm.MethodName)) ∈ TT := tc5 (List.mem_of_getElem? (i := 93) rfl) rfl
theorem tw5_94 : (Jvm.Cond.code ({ cls := "ThrowArms$Choose\x72", name := "weighChanges", desc := "(II)V" } : Jvm.MethodName) prog_4_method_7_code (7 : Nat) (Option.none : Option Jvm.ClassFile.FieldType)) ∈ TT := tc5 (List.mem_of_getElem? (i := 94) rfl) rfl
theorem tw5_95 : (Jvm.Cond.methodLink "ThrowArms$Choose\x72" (108 : Nat) ({ cls := "ThrowArms$Plan", name := "throwsAt", desc := "(II)I" } : Jvm.MethodName)) ∈ TT := tc5 (List.mem_of_getElem? (i := 95) rfl) rfl
theorem tw5_96 : (Jvm.Cond.methodLink "ThrowArms$Choose\x72" (115 : Nat) ({ cls := "ThrowArms$Book", name := "valueAt", desc := "(II)I" } : Jvm.MethodName)) ∈ TT := tc5 (List.mem_of_getElem? (i := 96) rfl) rfl
theorem tw5_97 : (Jvm.Cond.methodLink "ThrowArms$Choose\x72" (118 : Nat) ({ cls := "ThrowArms$Plan", name := "has", desc := "(II)Z" } : Jvm.MethodName)) ∈ TT := tc5 (List.mem_of_getElem? (i := 97) rfl) rfl
theorem tw5_98 : (Jvm.Cond.methodLink "ThrowArms$Choose\x72" (111 : Nat) ({ cls := "ThrowArms$Plan", name := "change", desc := "(IIII)V" } : Jvm.MethodName)) ∈ TT := tc5 (List.mem_of_getElem? (i := 98) rfl) rfl
theorem tw5_99 : (Jvm.Cond.methodLink "ThrowArmsLaw" (175 : Nat) ({ cls := "ThrowArms", name := "fill", desc := "(I)I" } : Jvm.MethodName)) ∈ TT := tc5 (List.mem_of_getElem? (i := 99) rfl) rfl
theorem tw5_100 : (Jvm.Cond.instanceMethod ({ cls := "ThrowArms", name := "fill", desc := "(I)I" } : Jvm.MethodName)) ∈ TT := tc5 (List.mem_of_getElem? (i := 100) rfl) rfl
theorem tw5_101 : (Jvm.Cond.selects "ThrowArms" ({ cls := "ThrowArms", name := "fill", desc := "(I)I" } : Jvm.MethodName) ({ cls := "ThrowArms", name := "fill", desc := "(I)I" } : Jvm.MethodName)) ∈ TT := tc5 (List.mem_of_getElem? (i := 101) rfl) rfl
theorem tw5_102 : (Jvm.Cond.code ({ cls := "ThrowArms", name := "fill", desc := "(I)I" } : Jvm.MethodName) prog_1_method_48_code (2 : Nat) (Option.some Jvm.ClassFile.FieldType.int)) ∈ TT := tc5 (List.mem_of_getElem? (i := 102) rfl) rfl
theorem tw5_103 : (Jvm.Cond.methodLink "ThrowArms" (356 : Nat) ({ cls := "ThrowArms$Choose\x72", name := "fillGame", desc := "(I)I" } : Jvm.MethodName)) ∈ TT := tc5 (List.mem_of_getElem? (i := 103) rfl) rfl
theorem tw5_104 : (Jvm.Cond.instanceMethod ({ cls := "ThrowArms$Choose\x72", name := "fillGame", desc := "(I)I" } : Jvm.MethodName)) ∈ TT := tc5 (List.mem_of_getElem? (i := 104) rfl) rfl
theorem tw5_105 : (Jvm.Cond.selects "ThrowArms$Choose\x72" ({ cls := "ThrowArms$Choose\x72", name := "fillGame", desc := "(I)I" } : Jvm.MethodName) ({ cls := "ThrowArms$Choose\x72", name := "fillGame", desc := "(I)I" } : Jvm.MethodName)) ∈ TT := tc5 (List.mem_of_getElem? (i := 105) rfl) rfl
theorem tw5_106 : (Jvm.Cond.code ({ cls := "ThrowArms$Choose\x72", name := "fillGame", desc := "(I)I" } : Jvm.MethodName) prog_4_method_4_code (3 : Nat) (Option.some Jvm.ClassFile.FieldType.int)) ∈ TT := tc5 (List.mem_of_getElem? (i := 106) rfl) rfl
theorem tw5_107 : (Jvm.Cond.methodLink "ThrowArms$Choose\x72" (81 : Nat) ({ cls := "ThrowArms$Choose\x72", name := "addOuting", desc := "(I)Z" } : Jvm.MethodName)) ∈ TT := tc5 (List.mem_of_getElem? (i := 107) rfl) rfl
theorem tw5_109 : (Jvm.Cond.instanceMethod ({ cls := "ThrowArms$Choose\x72", name := "addOuting", desc := "(I)Z" } : Jvm.MethodName)) ∈ TT := tc5 (List.mem_of_getElem? (i := 109) rfl) rfl
theorem tw5_110 : (Jvm.Cond.code ({ cls := "ThrowArms$Choose\x72", name := "addOuting", desc := "(I)Z" } : Jvm.MethodName) prog_4_method_5_code (7 : Nat) (Option.some Jvm.ClassFile.FieldType.boolean)) ∈ TT := tc5 (List.mem_of_getElem? (i := 110) rfl) rfl
theorem tw5_111 : (Jvm.Cond.methodLink "ThrowArms$Choose\x72" (85 : Nat) ({ cls := "ThrowArms$Diary", name := "mostOf", desc := "(III)I" } : Jvm.MethodName)) ∈ TT := tc5 (List.mem_of_getElem? (i := 111) rfl) rfl
theorem tw5_112 : (Jvm.Cond.methodLink "ThrowArms$Choose\x72" (92 : Nat) ({ cls := "ThrowArms$Plan", name := "add", desc := "(III)V" } : Jvm.MethodName)) ∈ TT := tc5 (List.mem_of_getElem? (i := 112) rfl) rfl
theorem tw5_113 : (Jvm.Cond.methodLink "ThrowArmsLaw" (179 : Nat) ({ cls := "ThrowArms", name := "fillAll", desc := "()I" } : Jvm.MethodName)) ∈ TT := tc5 (List.mem_of_getElem? (i := 113) rfl) rfl
theorem tw5_114 : (Jvm.Cond.instanceMethod ({ cls := "ThrowArms", name := "fillAll", desc := "()I" } : Jvm.MethodName)) ∈ TT := tc5 (List.mem_of_getElem? (i := 114) rfl) rfl
theorem tw5_115 : (Jvm.Cond.selects "ThrowArms" ({ cls := "ThrowArms", name := "fillAll", desc := "()I" } : Jvm.MethodName) ({ cls := "ThrowArms", name := "fillAll", desc := "()I" } : Jvm.MethodName)) ∈ TT := tc5 (List.mem_of_getElem? (i := 115) rfl) rfl
theorem tw5_116 : (Jvm.Cond.code ({ cls := "ThrowArms", name := "fillAll", desc := "()I" } : Jvm.MethodName) prog_1_method_49_code (3 : Nat) (Option.some Jvm.ClassFile.FieldType.int)) ∈ TT := tc5 (List.mem_of_getElem? (i := 116) rfl) rfl
theorem tw5_117 : (Jvm.Cond.methodLink "ThrowArmsLaw" (183 : Nat) ({ cls := "ThrowArms", name := "laid", desc := "(II)I" } : Jvm.MethodName)) ∈ TT := tc5 (List.mem_of_getElem? (i := 117) rfl) rfl
theorem tw5_118 : (Jvm.Cond.instanceMethod ({ cls := "ThrowArms", name := "laid", desc := "(II)I" } : Jvm.MethodName)) ∈ TT := tc5 (List.mem_of_getElem? (i := 118) rfl) rfl
theorem tw5_119 : (Jvm.Cond.selects "ThrowArms" ({ cls := "ThrowArms", name := "laid", desc := "(II)I" } : Jvm.MethodName) ({ cls := "ThrowArms", name := "laid", desc := "(II)I" } : Jvm.MethodName)) ∈ TT := tc5 (List.mem_of_getElem? (i := 119) rfl) rfl
theorem tw5_120 : (Jvm.Cond.code ({ cls := "ThrowArms", name := "laid", desc := "(II)I" } : Jvm.MethodName) prog_1_method_50_code (6 : Nat) (Option.some Jvm.ClassFile.FieldType.int)) ∈ TT := tc5 (List.mem_of_getElem? (i := 120) rfl) rfl
theorem tw5_121 : (Jvm.Cond.methodLink "ThrowArms" (359 : Nat) ({ cls := "ThrowArms$Plan", name := "emptyGame", desc := "(I)V" } : Jvm.MethodName)) ∈ TT := tc5 (List.mem_of_getElem? (i := 121) rfl) rfl
theorem tw5_122 : (Jvm.Cond.methodLink "ThrowArmsLaw" (187 : Nat) ({ cls := "ThrowArms", name := "become", desc := "(III)I" } : Jvm.MethodName)) ∈ TT := tc5 (List.mem_of_getElem? (i := 122) rfl) rfl
theorem tw5_123 : (Jvm.Cond.instanceMethod ({ cls := "ThrowArms", name := "become", desc := "(III)I" } : Jvm.MethodName)) ∈ TT := tc5 (List.mem_of_getElem? (i := 123) rfl) rfl
theorem tw5_124 : (Jvm.Cond.selects "ThrowArms" ({ cls := "ThrowArms", name := "become", desc := "(III)I" } : Jvm.MethodName) ({ cls := "ThrowArms", name := "become", desc := "(III)I" } : Jvm.MethodName)) ∈ TT := tc5 (List.mem_of_getElem? (i := 124) rfl) rfl
theorem tw5_125 : (Jvm.Cond.code ({ cls := "ThrowArms", name := "become", desc := "(III)I" } : Jvm.MethodName) prog_1_method_51_code (5 : Nat) (Option.some Jvm.ClassFile.FieldType.int)) ∈ TT := tc5 (List.mem_of_getElem? (i := 125) rfl) rfl
theorem tw5_126 : (Jvm.Cond.fieldLink "ThrowArms" (362 : Nat) "ThrowArms" "TRAIT_LOW" "[I") ∈ TT := tc5 (List.mem_of_getElem? (i := 126) rfl) rfl
theorem tw5_127 : (Jvm.Cond.methodLink "ThrowArms" (365 : Nat) ({ cls := "ThrowArms$Told", name := "highestTrait", desc := "(II)I" } : Jvm.MethodName)) ∈ TT := tc5 (List.mem_of_getElem? (i := 127) rfl) rfl
theorem tw5_128 : (Jvm.Cond.methodLink "ThrowArms" (368 : Nat) ({ cls := "ThrowArms$Told", name := "setTrait", desc := "(III)V" } : Jvm.MethodName)) ∈ TT := tc5 (List.mem_of_getElem? (i := 128) rfl) rfl
theorem tw5_129 : (Jvm.Cond.methodLink "ThrowArmsLaw" (191 : Nat) ({ cls := "ThrowArms", name := "rule", desc := "(II)I" } : Jvm.MethodName)) ∈ TT := tc5 (List.mem_of_getElem? (i := 129) rfl) rfl
theorem tw5_130 : (Jvm.Cond.instanceMethod ({ cls := "ThrowArms", name := "rule", desc := "(II)I" } : Jvm.MethodName)) ∈ TT := tc5 (List.mem_of_getElem? (i := 130) rfl) rfl
theorem tw5_131 : (Jvm.Cond.selects "ThrowArms" ({ cls := "ThrowArms", name := "rule", desc := "(II)I" } : Jvm.MethodName) ({ cls := "ThrowArms", name := "rule", desc := "(II)I" } : Jvm.MethodName)) ∈ TT := tc5 (List.mem_of_getElem? (i := 131) rfl) rfl
theorem tw5_132 : (Jvm.Cond.code ({ cls := "ThrowArms", name := "rule", desc := "(II)I" } : Jvm.MethodName) prog_1_method_52_code (4 : Nat) (Option.some Jvm.ClassFile.FieldType.int)) ∈ TT := tc5 (List.mem_of_getElem? (i := 132) rfl) rfl
theorem tw5_133 : (Jvm.Cond.fieldLink "ThrowArms" (371 : Nat) "ThrowArms" "BOUND_LOW" "[I") ∈ TT := tc5 (List.mem_of_getElem? (i := 133) rfl) rfl
theorem tw5_134 : (Jvm.Cond.fieldLink "ThrowArms" (374 : Nat) "ThrowArms" "BOUND_HIGH" "[I") ∈ TT := tc5 (List.mem_of_getElem? (i := 134) rfl) rfl
theorem tw5_135 : (Jvm.Cond.methodLink "ThrowArmsLaw" (195 : Nat) ({ cls := "ThrowArms", name := "rests", desc := "(II)I" } : Jvm.MethodName)) ∈ TT := tc5 (List.mem_of_getElem? (i := 135) rfl) rfl
theorem tw5_136 : (Jvm.Cond.instanceMethod ({ cls := "ThrowArms", name := "rests", desc := "(II)I" } : Jvm.MethodName)) ∈ TT := tc5 (List.mem_of_getElem? (i := 136) rfl) rfl
theorem tw5_137 : (Jvm.Cond.selects "ThrowArms" ({ cls := "ThrowArms", name := "rests", desc := "(II)I" } : Jvm.MethodName) ({ cls := "ThrowArms", name := "rests", desc := "(II)I" } : Jvm.MethodName)) ∈ TT := tc5 (List.mem_of_getElem? (i := 137) rfl) rfl
theorem tw5_138 : (Jvm.Cond.code ({ cls := "ThrowArms", name := "rests", desc := "(II)I" } : Jvm.MethodName) prog_1_method_53_code (4 : Nat) (Option.some Jvm.ClassFile.FieldType.int)) ∈ TT := tc5 (List.mem_of_getElem? (i := 138) rfl) rfl
theorem tw5_139 : (Jvm.Cond.methodLink "ThrowArmsLaw" (199 : Nat) ({ cls := "ThrowArms", name := "undo", desc := "()I" } : Jvm.MethodName)) ∈ TT := tc5 (List.mem_of_getElem? (i := 139) rfl) rfl
theorem tw5_140 : (Jvm.Cond.instanceMethod ({ cls := "ThrowArms", name := "undo", desc := "()I" } : Jvm.MethodName)) ∈ TT := tc5 (List.mem_of_getElem? (i := 140) rfl) rfl
theorem tw5_141 : (Jvm.Cond.selects "ThrowArms" ({ cls := "ThrowArms", name := "undo", desc := "()I" } : Jvm.MethodName) ({ cls := "ThrowArms", name := "undo", desc := "()I" } : Jvm.MethodName)) ∈ TT := tc5 (List.mem_of_getElem? (i := 141) rfl) rfl
theorem tw5_142 : (Jvm.Cond.code ({ cls := "ThrowArms", name := "undo", desc := "()I" } : Jvm.MethodName) prog_1_method_54_code (1 : Nat) (Option.some Jvm.ClassFile.FieldType.int)) ∈ TT := tc5 (List.mem_of_getElem? (i := 142) rfl) rfl
theorem tw5_143 : (Jvm.Cond.methodLink "ThrowArms" (380 : Nat) ({ cls := "ThrowArms$History", name := "goBack", desc := "()V" } : Jvm.MethodName)) ∈ TT := tc5 (List.mem_of_getElem? (i := 143) rfl) rfl
theorem tw5_144 : (Jvm.Cond.instanceMethod ({ cls := "ThrowArms$History", name := "goBack", desc := "()V" } : Jvm.MethodName)) ∈ TT := tc5 (List.mem_of_getElem? (i := 144) rfl) rfl
theorem tw5_145 : (Jvm.Cond.selects "ThrowArms$History" ({ cls := "ThrowArms$History", name := "goBack", desc := "()V" } : Jvm.MethodName) ({ cls := "ThrowArms$History", name := "goBack", desc := "()V" } : Jvm.MethodName)) ∈ TT := tc5 (List.mem_of_getElem? (i := 145) rfl) rfl
theorem tw5_146 : (Jvm.Cond.code ({ cls := "ThrowArms$History", name := "goBack", desc := "()V" } : Jvm.MethodName) prog_6_method_3_code (1 : Nat) (Option.none : Option Jvm.ClassFile.FieldType)) ∈ TT := tc5 (List.mem_of_getElem? (i := 146) rfl) rfl
theorem tw5_147 : (Jvm.Cond.methodLink "ThrowArms$History" (45 : Nat) ({ cls := "ThrowArms$Told", name := "loadFrom", desc := "([II)V" } : Jvm.MethodName)) ∈ TT := tc5 (List.mem_of_getElem? (i := 147) rfl) rfl
theorem tw5_148 : (Jvm.Cond.instanceMethod ({ cls := "ThrowArms$Told", name := "loadFrom", desc := "([II)V" } : Jvm.MethodName)) ∈ TT := tc5 (List.mem_of_getElem? (i := 148) rfl) rfl
theorem tw5_149 : (Jvm.Cond.selects "ThrowArms$Told" ({ cls := "ThrowArms$Told", name := "loadFrom", desc := "([II)V" } : Jvm.MethodName) ({ cls := "ThrowArms$Told", name := "loadFrom", desc := "([II)V" } : Jvm.MethodName)) ∈ TT := tc5 (List.mem_of_getElem? (i := 149) rfl) rfl
theorem tw5_150 : (Jvm.Cond.code ({ cls := "ThrowArms$Told", name := "loadFrom", desc := "([II)V" } : Jvm.MethodName) prog_11_method_12_code (3 : Nat) (Option.none : Option Jvm.ClassFile.FieldType)) ∈ TT := tc5 (List.mem_of_getElem? (i := 150) rfl) rfl
theorem tw5_151 : (Jvm.Cond.methodLink "ThrowArms$History" (48 : Nat) ({ cls := "ThrowArms$Plan", name := "loadFrom", desc := "([II)V" } : Jvm.MethodName)) ∈ TT := tc5 (List.mem_of_getElem? (i := 151) rfl) rfl
theorem tw5_152 : (Jvm.Cond.instanceMethod ({ cls := "ThrowArms$Plan", name := "loadFrom", desc := "([II)V" } : Jvm.MethodName)) ∈ TT := tc5 (List.mem_of_getElem? (i := 152) rfl) rfl
theorem tw5_153 : (Jvm.Cond.selects "ThrowArms$Plan" ({ cls := "ThrowArms$Plan", name := "loadFrom", desc := "([II)V" } : Jvm.MethodName) ({ cls := "ThrowArms$Plan", name := "loadFrom", desc := "([II)V" } : Jvm.MethodName)) ∈ TT := tc5 (List.mem_of_getElem? (i := 153) rfl) rfl
theorem tw5_154 : (Jvm.Cond.code ({ cls := "ThrowArms$Plan", name := "loadFrom", desc := "([II)V" } : Jvm.MethodName) prog_7_method_14_code (7 : Nat) (Option.none : Option Jvm.ClassFile.FieldType)) ∈ TT := tc5 (List.mem_of_getElem? (i := 154) rfl) rfl
theorem tw5_155 : (Jvm.Cond.methodLink "ThrowArms$Plan" (52 : Nat) ({ cls := "ThrowArms$Plan", name := "empty", desc := "()V" } : Jvm.MethodName)) ∈ TT := tc5 (List.mem_of_getElem? (i := 155) rfl) rfl
theorem tw5_156 : (Jvm.Cond.methodLink "ThrowArms$Plan" (55 : Nat) ({ cls := "ThrowArms$Plan", name := "add", desc := "(III)V" } : Jvm.MethodName)) ∈ TT := tc5 (List.mem_of_getElem? (i := 156) rfl) rfl
theorem tw5_157 : (Jvm.Cond.methodLink "ThrowArmsLaw" (212 : Nat) ({ cls := "ThrowArms", name := "size", desc := "()I" } : Jvm.MethodName)) ∈ TT := tc5 (List.mem_of_getElem? (i := 157) rfl) rfl
theorem tw5_158 : (Jvm.Cond.instanceMethod ({ cls := "ThrowArms", name := "size", desc := "()I" } : Jvm.MethodName)) ∈ TT := tc5 (List.mem_of_getElem? (i := 158) rfl) rfl
theorem tw5_159 : (Jvm.Cond.selects "ThrowArms" ({ cls := "ThrowArms", name := "size", desc := "()I" } : Jvm.MethodName) ({ cls := "ThrowArms", name := "size", desc := "()I" } : Jvm.MethodName)) ∈ TT := tc5 (List.mem_of_getElem? (i := 159) rfl) rfl
theorem tw5_160 : (Jvm.Cond.code ({ cls := "ThrowArms", name := "size", desc := "()I" } : Jvm.MethodName) prog_1_method_56_code (1 : Nat) (Option.some Jvm.ClassFile.FieldType.int)) ∈ TT := tc5 (List.mem_of_getElem? (i := 160) rfl) rfl
theorem tw5_161 : (Jvm.Cond.methodLink "ThrowArmsLaw" (216 : Nat) ({ cls := "ThrowArms", name := "trouble", desc := "()I" } : Jvm.MethodName)) ∈ TT := tc5 (List.mem_of_getElem? (i := 161) rfl) rfl
theorem tw5_162 : (Jvm.Cond.instanceMethod ({ cls := "ThrowArms", name := "trouble", desc := "()I" } : Jvm.MethodName)) ∈ TT := tc5 (List.mem_of_getElem? (i := 162) rfl) rfl
theorem tw5_163 : (Jvm.Cond.selects "ThrowArms" ({ cls := "ThrowArms", name := "trouble", desc := "()I" } : Jvm.MethodName) ({ cls := "ThrowArms", name := "trouble", desc := "()I" } : Jvm.MethodName)) ∈ TT := tc5 (List.mem_of_getElem? (i := 163) rfl) rfl
theorem tw5_164 : (Jvm.Cond.code ({ cls := "ThrowArms", name := "trouble", desc := "()I" } : Jvm.MethodName) prog_1_method_57_code (1 : Nat) (Option.some Jvm.ClassFile.FieldType.int)) ∈ TT := tc5 (List.mem_of_getElem? (i := 164) rfl) rfl
theorem tw5_165 : (Jvm.Cond.methodLink "ThrowArmsLaw" (203 : Nat) ({ cls := "ThrowArmsLaw", name := "named", desc := "(LThrowArms;I[J)I" } : Jvm.MethodName)) ∈ TT := tc5 (List.mem_of_getElem? (i := 165) rfl) rfl
theorem tw5_166 : (Jvm.Cond.static ({ cls := "ThrowArmsLaw", name := "named", desc := "(LThrowArms;I[J)I" } : Jvm.MethodName)) ∈ TT := tc5 (List.mem_of_getElem? (i := 166) rfl) rfl
theorem tw5_168 : (Jvm.Cond.classLink "ThrowArmsLaw" (13 : Nat) "java/util/NoSuchElementException") ∈ TT := tc5 (List.mem_of_getElem? (i := 168) rfl) rfl
theorem tw5_169 : (Jvm.Cond.methodLink "ThrowArmsLaw" (7 : Nat) ({ cls := "ThrowArms", name := "named", desc := "(I)I" } : Jvm.MethodName)) ∈ TT := tc5 (List.mem_of_getElem? (i := 169) rfl) rfl
theorem tw5_170 : (Jvm.Cond.instanceMethod ({ cls := "ThrowArms", name := "named", desc := "(I)I" } : Jvm.MethodName)) ∈ TT := tc5 (List.mem_of_getElem? (i := 170) rfl) rfl
theorem tw5_171 : (Jvm.Cond.selects "ThrowArms" ({ cls := "ThrowArms", name := "named", desc := "(I)I" } : Jvm.MethodName) ({ cls := "ThrowArms", name := "named", desc := "(I)I" } : Jvm.MethodName)) ∈ TT := tc5 (List.mem_of_getElem? (i := 171) rfl) rfl
theorem tw5_172 : (Jvm.Cond.code ({ cls := "ThrowArms", name := "named", desc := "(I)I" } : Jvm.MethodName) prog_1_method_55_code (3 : Nat) (Option.some Jvm.ClassFile.FieldType.int)) ∈ TT := tc5 (List.mem_of_getElem? (i := 172) rfl) rfl
theorem tw5_173 : (Jvm.Cond.methodLink "ThrowArms" (383 : Nat) ({ cls := "ThrowArms$Tape", name := "onlyWord", desc := "(I)J" } : Jvm.MethodName)) ∈ TT := tc5 (List.mem_of_getElem? (i := 173) rfl) rfl
theorem tw5_174 : (Jvm.Cond.instanceMethod ({ cls := "ThrowArms$Tape", name := "onlyWord", desc := "(I)J" } : Jvm.MethodName)) ∈ TT := tc5 (List.mem_of_getElem? (i := 174) rfl) rfl
theorem tw5_175 : (Jvm.Cond.selects "ThrowArms$Tape" ({ cls := "ThrowArms$Tape", name := "onlyWord", desc := "(I)J" } : Jvm.MethodName) ({ cls := "ThrowArms$Tape", name := "onlyWord", desc := "(I)J" } : Jvm.MethodName)) ∈ TT := tc5 (List.mem_of_getElem? (i := 175) rfl) rfl
theorem tw5_176 : (Jvm.Cond.code ({ cls := "ThrowArms$Tape", name := "onlyWord", desc := "(I)J" } : Jvm.MethodName) prog_10_method_8_code (4 : Nat) (Option.some Jvm.ClassFile.FieldType.long)) ∈ TT := tc5 (List.mem_of_getElem? (i := 176) rfl) rfl
theorem tw5_177 : (Jvm.Cond.methodLink "ThrowArms$Tape" (69 : Nat) ({ cls := "ThrowArms$Tape", name := "beginTokens", desc := "(I)V" } : Jvm.MethodName)) ∈ TT := tc5 (List.mem_of_getElem? (i := 177) rfl) rfl
theorem tw5_178 : (Jvm.Cond.methodLink "ThrowArms$Tape" (73 : Nat) ({ cls := "ThrowArms$Tape", name := "nextToken", desc := "()V" } : Jvm.MethodName)) ∈ TT := tc5 (List.mem_of_getElem? (i := 178) rfl) rfl
theorem tw5_179 : (Jvm.Cond.methodLink "ThrowArms" (387 : Nat) ({ cls := "ThrowArms$Told", name := "armNamed", desc := "(J)I" } : Jvm.MethodName)) ∈ TT := tc5 (List.mem_of_getElem? (i := 179) rfl) rfl
theorem tw5_180 : (Jvm.Cond.classLink "ThrowArms" (391 : Nat) "java/util/NoSuchElementException") ∈ TT := tc5 (List.mem_of_getElem? (i := 180) rfl) rfl
theorem tw5_181 : (Jvm.Cond.instantiable "java/util/NoSuchElementException" (6 : Nat)) ∈ TT := tc5 (List.mem_of_getElem? (i := 181) rfl) rfl
theorem tw5_189 : (Jvm.Cond.selects "java/util/NoSuchElementException" ({ cls := "java/lang/Throwable", name := "fillInStackTrace", desc := "(I)Ljava/lang/Throwable;" } : Jvm.MethodName) ({ cls := "java/lang/Throwable", name := "fillInStackTrace", desc := "(I)Ljava/lang/Throwable;" } : Jvm.MethodName)) ∈ TT := tc5 (List.mem_of_getElem? (i := 189) rfl) rfl
theorem tw5_190 : (Jvm.Cond.selects "java/util/NoSuchElementException" ({ cls := "java/lang/Throwable", name := "fillInStackTrace", desc := "()Ljava/lang/Throwable;" } : Jvm.MethodName) ({ cls := "java/lang/Throwable", name := "fillInStackTrace", desc := "()Ljava/lang/Throwable;" } : Jvm.MethodName)) ∈ TT := tc5 (List.mem_of_getElem? (i := 190) rfl) rfl
theorem tw5_191 : (Jvm.Cond.lays "java/util/NoSuchElementException" "java/lang/Throwable" "cause" "Ljava/lang/Throwable;") ∈ TT := tc5 (List.mem_of_getElem? (i := 191) rfl) rfl
theorem tw5_192 : (Jvm.Cond.lays "java/lang/Throwable" "java/lang/Throwable" "cause" "Ljava/lang/Throwable;") ∈ TT := tc5 (List.mem_of_getElem? (i := 192) rfl) rfl
theorem tw5_193 : (Jvm.Cond.lays "java/util/NoSuchElementException" "java/lang/Throwable" "stackTrace" "[Ljava/lang/StackTraceElement;") ∈ TT := tc5 (List.mem_of_getElem? (i := 193) rfl) rfl
theorem tw5_194 : (Jvm.Cond.lays "java/lang/Throwable" "java/lang/Throwable" "stackTrace" "[Ljava/lang/StackTraceElement;") ∈ TT := tc5 (List.mem_of_getElem? (i := 194) rfl) rfl
theorem tw5_195 : (Jvm.Cond.lays "java/util/NoSuchElementException" "java/lang/Throwable" "suppressedExceptions" "Ljava/util/List;") ∈ TT := tc5 (List.mem_of_getElem? (i := 195) rfl) rfl
theorem tw5_196 : (Jvm.Cond.lays "java/lang/Throwable" "java/lang/Throwable" "suppressedExceptions" "Ljava/util/List;") ∈ TT := tc5 (List.mem_of_getElem? (i := 196) rfl) rfl
theorem tw5_197 : (Jvm.Cond.lays "java/util/NoSuchElementException" "java/lang/Throwable" "detailMessage" "Ljava/lang/String;") ∈ TT := tc5 (List.mem_of_getElem? (i := 197) rfl) rfl
theorem tw5_198 : (Jvm.Cond.lays "java/lang/Throwable" "java/lang/Throwable" "detailMessage" "Ljava/lang/String;") ∈ TT := tc5 (List.mem_of_getElem? (i := 198) rfl) rfl
theorem tw5_199 : (Jvm.Cond.lays "java/util/NoSuchElementException" "java/lang/Throwable" "backtrace" "Ljava/lang/Object;") ∈ TT := tc5 (List.mem_of_getElem? (i := 199) rfl) rfl
theorem tw5_200 : (Jvm.Cond.lays "java/lang/Throwable" "java/lang/Throwable" "backtrace" "Ljava/lang/Object;") ∈ TT := tc5 (List.mem_of_getElem? (i := 200) rfl) rfl
theorem tw5_201 : (Jvm.Cond.fieldLink "java/lang/Throwable" (198 : Nat) "java/lang/Throwable" "backtrace" "Ljava/lang/Object;") ∈ TT := tc5 (List.mem_of_getElem? (i := 201) rfl) rfl
theorem tw5_203 : (Jvm.Cond.instanceMethod ({ cls := "java/lang/Throwable", name := "<init>", desc := "()V" } : Jvm.MethodName)) ∈ TT := tc5 (List.mem_of_getElem? (i := 203) rfl) rfl
theorem tw5_204 : (Jvm.Cond.code ({ cls := "java/lang/Throwable", name := "<init>", desc := "()V" } : Jvm.MethodName) prog_24_method_1_code (1 : Nat) (Option.none : Option Jvm.ClassFile.FieldType)) ∈ TT := tc5 (List.mem_of_getElem? (i := 204) rfl) rfl
theorem tw5_205 : (Jvm.Cond.methodLink "java/lang/Throwable" (1 : Nat) ({ cls := "java/lang/Object", name := "<init>", desc := "()V" } : Jvm.MethodName)) ∈ TT := tc5 (List.mem_of_getElem? (i := 205) rfl) rfl
theorem tw5_206 : (Jvm.Cond.fieldLink "java/lang/Throwable" (13 : Nat) "java/lang/Throwable" "UNASSIGNED_STACK" "[Ljava/lang/StackTraceElement;") ∈ TT := tc5 (List.mem_of_getElem? (i := 206) rfl) rfl
theorem tw5_208 : (Jvm.Cond.fieldLink "java/lang/Throwable" (20 : Nat) "java/lang/Throwable" "SUPPRESSED_SENTINEL" "Ljava/util/List;") ∈ TT := tc5 (List.mem_of_getElem? (i := 208) rfl) rfl
theorem tw5_210 : (Jvm.Cond.methodLink "java/lang/Throwable" (27 : Nat) ({ cls := "java/lang/Throwable", name := "fillInStackTrace", desc := "()Ljava/lang/Throwable;" } : Jvm.MethodName)) ∈ TT := tc5 (List.mem_of_getElem? (i := 210) rfl) rfl
theorem tw5_211 : (Jvm.Cond.instanceMethod ({ cls := "java/lang/Throwable", name := "fillInStackTrace", desc := "()Ljava/lang/Throwable;" } : Jvm.MethodName)) ∈ TT := tc5 (List.mem_of_getElem? (i := 211) rfl) rfl
theorem tw5_214 : (Jvm.Cond.methodLink "java/lang/Throwable" (202 : Nat) ({ cls := "java/lang/Throwable", name := "fillInStackTrace", desc := "(I)Ljava/lang/Throwable;" } : Jvm.MethodName)) ∈ TT := tc5 (List.mem_of_getElem? (i := 214) rfl) rfl
theorem tw5_216 : (Jvm.Cond.instanceMethod ({ cls := "java/lang/Throwable", name := "fillInStackTrace", desc := "(I)Ljava/lang/Throwable;" } : Jvm.MethodName)) ∈ TT := tc5 (List.mem_of_getElem? (i := 216) rfl) rfl
theorem tw5_217 : (Jvm.Cond.instantiable "java/lang/Throwable" (6 : Nat)) ∈ TT := tc5 (List.mem_of_getElem? (i := 217) rfl) rfl
theorem tw5_218 : (Jvm.Cond.native ({ cls := "java/lang/Throwable", name := "fillInStackTrace", desc := "(I)Ljava/lang/Throwable;" } : Jvm.MethodName)) ∈ TT := tc5 (List.mem_of_getElem? (i := 218) rfl) rfl
theorem tw5_220 : (Jvm.Cond.methodLink "ThrowArms" (395 : Nat) ({ cls := "java/util/NoSuchElementException", name := "<init>", desc := "(Ljava/lang/String;)V" } : Jvm.MethodName)) ∈ TT := tc5 (List.mem_of_getElem? (i := 220) rfl) rfl
theorem tw5_221 : (Jvm.Cond.instanceMethod ({ cls := "java/util/NoSuchElementException", name := "<init>", desc := "(Ljava/lang/String;)V" } : Jvm.MethodName)) ∈ TT := tc5 (List.mem_of_getElem? (i := 221) rfl) rfl
theorem tw5_222 : (Jvm.Cond.code ({ cls := "java/util/NoSuchElementException", name := "<init>", desc := "(Ljava/lang/String;)V" } : Jvm.MethodName) prog_27_method_4_code (2 : Nat) (Option.none : Option Jvm.ClassFile.FieldType)) ∈ TT := tc5 (List.mem_of_getElem? (i := 222) rfl) rfl
theorem tw5_223 : (Jvm.Cond.methodLink "java/util/NoSuchElementException" (13 : Nat) ({ cls := "java/lang/RuntimeException", name := "<init>", desc := "(Ljava/lang/String;)V" } : Jvm.MethodName)) ∈ TT := tc5 (List.mem_of_getElem? (i := 223) rfl) rfl
theorem tw5_224 : (Jvm.Cond.instanceMethod ({ cls := "java/lang/RuntimeException", name := "<init>", desc := "(Ljava/lang/String;)V" } : Jvm.MethodName)) ∈ TT := tc5 (List.mem_of_getElem? (i := 224) rfl) rfl
theorem tw5_225 : (Jvm.Cond.code ({ cls := "java/lang/RuntimeException", name := "<init>", desc := "(Ljava/lang/String;)V" } : Jvm.MethodName) prog_19_method_2_code (2 : Nat) (Option.none : Option Jvm.ClassFile.FieldType)) ∈ TT := tc5 (List.mem_of_getElem? (i := 225) rfl) rfl
theorem tw5_226 : (Jvm.Cond.methodLink "java/lang/RuntimeException" (7 : Nat) ({ cls := "java/lang/Exception", name := "<init>", desc := "(Ljava/lang/String;)V" } : Jvm.MethodName)) ∈ TT := tc5 (List.mem_of_getElem? (i := 226) rfl) rfl
theorem tw5_227 : (Jvm.Cond.instanceMethod ({ cls := "java/lang/Exception", name := "<init>", desc := "(Ljava/lang/String;)V" } : Jvm.MethodName)) ∈ TT := tc5 (List.mem_of_getElem? (i := 227) rfl) rfl
theorem tw5_228 : (Jvm.Cond.code ({ cls := "java/lang/Exception", name := "<init>", desc := "(Ljava/lang/String;)V" } : Jvm.MethodName) prog_17_method_2_code (2 : Nat) (Option.none : Option Jvm.ClassFile.FieldType)) ∈ TT := tc5 (List.mem_of_getElem? (i := 228) rfl) rfl
theorem tw5_229 : (Jvm.Cond.methodLink "java/lang/Exception" (7 : Nat) ({ cls := "java/lang/Throwable", name := "<init>", desc := "(Ljava/lang/String;)V" } : Jvm.MethodName)) ∈ TT := tc5 (List.mem_of_getElem? (i := 229) rfl) rfl
theorem tw5_230 : (Jvm.Cond.instanceMethod ({ cls := "java/lang/Throwable", name := "<init>", desc := "(Ljava/lang/String;)V" } : Jvm.MethodName)) ∈ TT := tc5 (List.mem_of_getElem? (i := 230) rfl) rfl
theorem tw5_231 : (Jvm.Cond.code ({ cls := "java/lang/Throwable", name := "<init>", desc := "(Ljava/lang/String;)V" } : Jvm.MethodName) prog_24_method_2_code (2 : Nat) (Option.none : Option Jvm.ClassFile.FieldType)) ∈ TT := tc5 (List.mem_of_getElem? (i := 231) rfl) rfl
theorem tw5_233 : (Jvm.Cond.fieldLink "java/lang/Throwable" (31 : Nat) "java/lang/Throwable" "detailMessage" "Ljava/lang/String;") ∈ TT := tc5 (List.mem_of_getElem? (i := 233) rfl) rfl
theorem tw5_234 : (Jvm.Cond.fieldLink "java/lang/Throwable" (7 : Nat) "java/lang/Throwable" "cause" "Ljava/lang/Throwable;") ∈ TT := tc5 (List.mem_of_getElem? (i := 234) rfl) rfl
theorem tw5_235 : (Jvm.Cond.fieldLink "java/lang/Throwable" (17 : Nat) "java/lang/Throwable" "stackTrace" "[Ljava/lang/StackTraceElement;") ∈ TT := tc5 (List.mem_of_getElem? (i := 235) rfl) rfl
theorem tw5_236 : (Jvm.Cond.fieldLink "java/lang/Throwable" (24 : Nat) "java/lang/Throwable" "suppressedExceptions" "Ljava/util/List;") ∈ TT := tc5 (List.mem_of_getElem? (i := 236) rfl) rfl
theorem tw6_1 : (Jvm.Cond.lays "java/util/NoSuchElementException" "java/lang/Throwable" "depth" "I") ∈ TT := tc6 (List.mem_of_getElem? (i := 1) rfl) rfl
theorem tw6_5 : (Jvm.Cond.classLink "ThrowArmsLaw" (16 : Nat) "ThrowArmsModel") ∈ TT := tc6 (List.mem_of_getElem? (i := 5) rfl) rfl
theorem tw6_6 : (Jvm.Cond.instantiable "ThrowArmsModel" (28 : Nat)) ∈ TT := tc6 (List.mem_of_getElem? (i := 6) rfl) rfl
theorem tw6_7 : (Jvm.Cond.methodLink "ThrowArmsLaw" (18 : Nat) ({ cls := "ThrowArmsModel", name := "<init>", desc := "()V" } : Jvm.MethodName)) ∈ TT := tc6 (List.mem_of_getElem? (i := 7) rfl) rfl
theorem tw6_8 : (Jvm.Cond.instanceMethod ({ cls := "ThrowArmsModel", name := "<init>", desc := "()V" } : Jvm.MethodName)) ∈ TT := tc6 (List.mem_of_getElem? (i := 8) rfl) rfl
theorem tw6_9 : (Jvm.Cond.code ({ cls := "ThrowArmsModel", name := "<init>", desc := "()V" } : Jvm.MethodName) prog_13_method_1_code (1 : Nat) (Option.none : Option Jvm.ClassFile.FieldType)) ∈ TT := tc6 (List.mem_of_getElem? (i := 9) rfl) rfl
theorem tw6_10 : (Jvm.Cond.methodLink "ThrowArmsModel" (1 : Nat) ({ cls := "java/lang/Object", name := "<init>", desc := "()V" } : Jvm.MethodName)) ∈ TT := tc6 (List.mem_of_getElem? (i := 10) rfl) rfl
theorem tw6_11 : (Jvm.Cond.fieldLink "ThrowArmsModel" (47 : Nat) "ThrowArmsModel" "thrown" "I") ∈ TT := tc6 (List.mem_of_getElem? (i := 11) rfl) rfl
theorem tw6_12 : (Jvm.Cond.fieldLink "ThrowArmsModel" (50 : Nat) "ThrowArmsModel" "trouble" "I") ∈ TT := tc6 (List.mem_of_getElem? (i := 12) rfl) rfl
theorem tw6_13 : (Jvm.Cond.fieldLink "ThrowArmsModel" (162 : Nat) "ThrowArmsModel" "fault" "I") ∈ TT := tc6 (List.mem_of_getElem? (i := 13) rfl) rfl
theorem tw6_14 : (Jvm.Cond.fieldLink "ThrowArmsModel" (9 : Nat) "ThrowArmsModel" "where" "I") ∈ TT := tc6 (List.mem_of_getElem? (i := 14) rfl) rfl
theorem tw6_15 : (Jvm.Cond.fieldLink "ThrowArmsModel" (13 : Nat) "ThrowArmsModel" "tape" "[I") ∈ TT := tc6 (List.mem_of_getElem? (i := 15) rfl) rfl
theorem tw6_16 : (Jvm.Cond.fieldLink "ThrowArmsModel" (53 : Nat) "ThrowArmsModel" "taped" "I") ∈ TT := tc6 (List.mem_of_getElem? (i := 16) rfl) rfl
theorem tw6_17 : (Jvm.Cond.fieldLink "ThrowArmsModel" (171 : Nat) "ThrowArmsModel" "hasText" "Z") ∈ TT := tc6 (List.mem_of_getElem? (i := 17) rfl) rfl
theorem tw6_18 : (Jvm.Cond.fieldLink "ThrowArmsModel" (17 : Nat) "ThrowArmsModel" "\x72" "[I") ∈ TT := tc6 (List.mem_of_getElem? (i := 18) rfl) rfl
theorem tw6_19 : (Jvm.Cond.fieldLink "ThrowArmsModel" (20 : Nat) "ThrowArmsModel" "fresh" "[I") ∈ TT := tc6 (List.mem_of_getElem? (i := 19) rfl) rfl
theorem tw6_20 : (Jvm.Cond.fieldLink "ThrowArmsModel" (23 : Nat) "ThrowArmsModel" "name" "[I") ∈ TT := tc6 (List.mem_of_getElem? (i := 20) rfl) rfl
theorem tw6_21 : (Jvm.Cond.fieldLink "ThrowArmsModel" (26 : Nat) "ThrowArmsModel" "freshName" "[I") ∈ TT := tc6 (List.mem_of_getElem? (i := 21) rfl) rfl
theorem tw6_22 : (Jvm.Cond.fieldLink "ThrowArmsModel" (60 : Nat) "ThrowArmsModel" "textLong" "I") ∈ TT := tc6 (List.mem_of_getElem? (i := 22) rfl) rfl
theorem tw6_23 : (Jvm.Cond.fieldLink "ThrowArmsModel" (70 : Nat) "ThrowArmsModel" "place" "I") ∈ TT := tc6 (List.mem_of_getElem? (i := 23) rfl) rfl
theorem tw6_24 : (Jvm.Cond.fieldLink "ThrowArmsModel" (63 : Nat) "ThrowArmsModel" "spot" "I") ∈ TT := tc6 (List.mem_of_getElem? (i := 24) rfl) rfl
theorem tw6_25 : (Jvm.Cond.fieldLink "ThrowArmsModel" (73 : Nat) "ThrowArmsModel" "token" "I") ∈ TT := tc6 (List.mem_of_getElem? (i := 25) rfl) rfl
theorem tw6_26 : (Jvm.Cond.fieldLink "ThrowArmsModel" (80 : Nat) "ThrowArmsModel" "whole" "I") ∈ TT := tc6 (List.mem_of_getElem? (i := 26) rfl) rfl
theorem tw6_27 : (Jvm.Cond.fieldLink "ThrowArmsModel" (137 : Nat) "ThrowArmsModel" "told" "I") ∈ TT := tc6 (List.mem_of_getElem? (i := 27) rfl) rfl
theorem tw6_28 : (Jvm.Cond.fieldLink "ThrowArmsModel" (93 : Nat) "ThrowArmsModel" "readFault" "I") ∈ TT := tc6 (List.mem_of_getElem? (i := 28) rfl) rfl
theorem tw6_29 : (Jvm.Cond.fieldLink "ThrowArmsModel" (96 : Nat) "ThrowArmsModel" "readPlace" "I") ∈ TT := tc6 (List.mem_of_getElem? (i := 29) rfl) rfl
theorem tw6_30 : (Jvm.Cond.fieldLink "ThrowArmsModel" (29 : Nat) "ThrowArmsModel" "day" "[I") ∈ TT := tc6 (List.mem_of_getElem? (i := 30) rfl) rfl
theorem tw6_31 : (Jvm.Cond.fieldLink "ThrowArmsModel" (32 : Nat) "ThrowArmsModel" "row" "[I") ∈ TT := tc6 (List.mem_of_getElem? (i := 31) rfl) rfl
theorem tw6_32 : (Jvm.Cond.fieldLink "ThrowArmsModel" (35 : Nat) "ThrowArmsModel" "bestRow" "[I") ∈ TT := tc6 (List.mem_of_getElem? (i := 32) rfl) rfl
theorem tw6_33 : (Jvm.Cond.fieldLink "ThrowArmsModel" (38 : Nat) "ThrowArmsModel" "hurtTill" "[I") ∈ TT := tc6 (List.mem_of_getElem? (i := 33) rfl) rfl
theorem tw6_34 : (Jvm.Cond.fieldLink "ThrowArmsModel" (41 : Nat) "ThrowArmsModel" "came" "[I") ∈ TT := tc6 (List.mem_of_getElem? (i := 34) rfl) rfl
theorem tw6_35 : (Jvm.Cond.fieldLink "ThrowArmsModel" (175 : Nat) "ThrowArmsModel" "acts" "I") ∈ TT := tc6 (List.mem_of_getElem? (i := 35) rfl) rfl
theorem tw6_36 : (Jvm.Cond.fieldLink "ThrowArmsModel" (44 : Nat) "ThrowArmsModel" "was" "[I") ∈ TT := tc6 (List.mem_of_getElem? (i := 36) rfl) rfl
theorem tw6_37 : (Jvm.Cond.fieldLink "ThrowArmsModel" (305 : Nat) "ThrowArmsModel" "gainAt" "I") ∈ TT := tc6 (List.mem_of_getElem? (i := 37) rfl) rfl
theorem tw6_38 : (Jvm.Cond.fieldLink "ThrowArmsModel" (308 : Nat) "ThrowArmsModel" "gainBy" "I") ∈ TT := tc6 (List.mem_of_getElem? (i := 38) rfl) rfl
theorem tw6_39 : (Jvm.Cond.lays "ThrowArmsModel" "ThrowArmsModel" "thrown" "I") ∈ TT := tc6 (List.mem_of_getElem? (i := 39) rfl) rfl
theorem tw6_41 : (Jvm.Cond.lays "ThrowArmsModel" "ThrowArmsModel" "trouble" "I") ∈ TT := tc6 (List.mem_of_getElem? (i := 41) rfl) rfl
theorem tw6_43 : (Jvm.Cond.lays "ThrowArmsModel" "ThrowArmsModel" "fault" "I") ∈ TT := tc6 (List.mem_of_getElem? (i := 43) rfl) rfl
theorem tw6_45 : (Jvm.Cond.lays "ThrowArmsModel" "ThrowArmsModel" "where" "I") ∈ TT := tc6 (List.mem_of_getElem? (i := 45) rfl) rfl
theorem tw6_47 : (Jvm.Cond.laysFinal "ThrowArmsModel" "ThrowArmsModel" "tape" "[I") ∈ TT := tc6 (List.mem_of_getElem? (i := 47) rfl) rfl
theorem tw6_49 : (Jvm.Cond.lays "ThrowArmsModel" "ThrowArmsModel" "taped" "I") ∈ TT := tc6 (List.mem_of_getElem? (i := 49) rfl) rfl
theorem tw6_51 : (Jvm.Cond.lays "ThrowArmsModel" "ThrowArmsModel" "hasText" "Z") ∈ TT := tc6 (List.mem_of_getElem? (i := 51) rfl) rfl
theorem tw6_53 : (Jvm.Cond.laysFinal "ThrowArmsModel" "ThrowArmsModel" "\x72" "[I") ∈ TT := tc6 (List.mem_of_getElem? (i := 53) rfl) rfl
theorem tw6_55 : (Jvm.Cond.laysFinal "ThrowArmsModel" "ThrowArmsModel" "fresh" "[I") ∈ TT := tc6 (List.mem_of_getElem? (i := 55) rfl) rfl
theorem tw6_57 : (Jvm.Cond.laysFinal "ThrowArmsModel" "ThrowArmsModel" "name" "[I") ∈ TT := tc6 (List.mem_of_getElem? (i := 57) rfl) rfl
theorem tw6_59 : (Jvm.Cond.laysFinal "ThrowArmsModel" "ThrowArmsModel" "freshName" "[I") ∈ TT := tc6 (List.mem_of_getElem? (i := 59) rfl) rfl
theorem tw6_61 : (Jvm.Cond.lays "ThrowArmsModel" "ThrowArmsModel" "textLong" "I") ∈ TT := tc6 (List.mem_of_getElem? (i := 61) rfl) rfl
theorem tw6_63 : (Jvm.Cond.lays "ThrowArmsModel" "ThrowArmsModel" "place" "I") ∈ TT := tc6 (List.mem_of_getElem? (i := 63) rfl) rfl
theorem tw6_65 : (Jvm.Cond.lays "ThrowArmsModel" "ThrowArmsModel" "spot" "I") ∈ TT := tc6 (List.mem_of_getElem? (i := 65) rfl) rfl
theorem tw6_67 : (Jvm.Cond.lays "ThrowArmsModel" "ThrowArmsModel" "token" "I") ∈ TT := tc6 (List.mem_of_getElem? (i := 67) rfl) rfl
theorem tw6_69 : (Jvm.Cond.lays "ThrowArmsModel" "ThrowArmsModel" "whole" "I") ∈ TT := tc6 (List.mem_of_getElem? (i := 69) rfl) rfl
theorem tw6_71 : (Jvm.Cond.lays "ThrowArmsModel" "ThrowArmsModel" "told" "I") ∈ TT := tc6 (List.mem_of_getElem? (i := 71) rfl) rfl
theorem tw6_73 : (Jvm.Cond.lays "ThrowArmsModel" "ThrowArmsModel" "readFault" "I") ∈ TT := tc6 (List.mem_of_getElem? (i := 73) rfl) rfl
theorem tw6_75 : (Jvm.Cond.lays "ThrowArmsModel" "ThrowArmsModel" "readPlace" "I") ∈ TT := tc6 (List.mem_of_getElem? (i := 75) rfl) rfl
theorem tw6_77 : (Jvm.Cond.laysFinal "ThrowArmsModel" "ThrowArmsModel" "day" "[I") ∈ TT := tc6 (List.mem_of_getElem? (i := 77) rfl) rfl
theorem tw6_79 : (Jvm.Cond.laysFinal "ThrowArmsModel" "ThrowArmsModel" "row" "[I") ∈ TT := tc6 (List.mem_of_getElem? (i := 79) rfl) rfl
theorem tw6_81 : (Jvm.Cond.laysFinal "ThrowArmsModel" "ThrowArmsModel" "bestRow" "[I") ∈ TT := tc6 (List.mem_of_getElem? (i := 81) rfl) rfl
theorem tw6_83 : (Jvm.Cond.laysFinal "ThrowArmsModel" "ThrowArmsModel" "hurtTill" "[I") ∈ TT := tc6 (List.mem_of_getElem? (i := 83) rfl) rfl
theorem tw6_85 : (Jvm.Cond.laysFinal "ThrowArmsModel" "ThrowArmsModel" "came" "[I") ∈ TT := tc6 (List.mem_of_getElem? (i := 85) rfl) rfl
theorem tw6_87 : (Jvm.Cond.lays "ThrowArmsModel" "ThrowArmsModel" "acts" "I") ∈ TT := tc6 (List.mem_of_getElem? (i := 87) rfl) rfl
theorem tw6_89 : (Jvm.Cond.laysFinal "ThrowArmsModel" "ThrowArmsModel" "was" "[I") ∈ TT := tc6 (List.mem_of_getElem? (i := 89) rfl) rfl
theorem tw6_91 : (Jvm.Cond.lays "ThrowArmsModel" "ThrowArmsModel" "gainAt" "I") ∈ TT := tc6 (List.mem_of_getElem? (i := 91) rfl) rfl
theorem tw6_93 : (Jvm.Cond.lays "ThrowArmsModel" "ThrowArmsModel" "gainBy" "I") ∈ TT := tc6 (List.mem_of_getElem? (i := 93) rfl) rfl
theorem tw6_96 : (Jvm.Cond.methodLink "ThrowArmsLaw" (209 : Nat) ({ cls := "ThrowArmsModel", name := "thrown", desc := "()I" } : Jvm.MethodName)) ∈ TT := tc6 (List.mem_of_getElem? (i := 96) rfl) rfl
theorem tw6_97 : (Jvm.Cond.instanceMethod ({ cls := "ThrowArmsModel", name := "thrown", desc := "()I" } : Jvm.MethodName)) ∈ TT := tc6 (List.mem_of_getElem? (i := 97) rfl) rfl
theorem tw6_98 : (Jvm.Cond.selects "ThrowArmsModel" ({ cls := "ThrowArmsModel", name := "thrown", desc := "()I" } : Jvm.MethodName) ({ cls := "ThrowArmsModel", name := "thrown", desc := "()I" } : Jvm.MethodName)) ∈ TT := tc6 (List.mem_of_getElem? (i := 98) rfl) rfl
theorem tw6_99 : (Jvm.Cond.code ({ cls := "ThrowArmsModel", name := "thrown", desc := "()I" } : Jvm.MethodName) prog_13_method_2_code (1 : Nat) (Option.some Jvm.ClassFile.FieldType.int)) ∈ TT := tc6 (List.mem_of_getElem? (i := 99) rfl) rfl
theorem tw6_100 : (Jvm.Cond.methodLink "ThrowArmsLaw" (23 : Nat) ({ cls := "ThrowArmsModel", name := "feed", desc := "(IIIII)I" } : Jvm.MethodName)) ∈ TT := tc6 (List.mem_of_getElem? (i := 100) rfl) rfl
theorem tw6_101 : (Jvm.Cond.instanceMethod ({ cls := "ThrowArmsModel", name := "feed", desc := "(IIIII)I" } : Jvm.MethodName)) ∈ TT := tc6 (List.mem_of_getElem? (i := 101) rfl) rfl
theorem tw6_102 : (Jvm.Cond.selects "ThrowArmsModel" ({ cls := "ThrowArmsModel", name := "feed", desc := "(IIIII)I" } : Jvm.MethodName) ({ cls := "ThrowArmsModel", name := "feed", desc := "(IIIII)I" } : Jvm.MethodName)) ∈ TT := tc6 (List.mem_of_getElem? (i := 102) rfl) rfl
theorem tw6_103 : (Jvm.Cond.code ({ cls := "ThrowArmsModel", name := "feed", desc := "(IIIII)I" } : Jvm.MethodName) prog_13_method_9_code (6 : Nat) (Option.some Jvm.ClassFile.FieldType.int)) ∈ TT := tc6 (List.mem_of_getElem? (i := 103) rfl) rfl
theorem tw6_104 : (Jvm.Cond.methodLink "ThrowArmsModel" (56 : Nat) ({ cls := "ThrowArmsModel", name := "laysWord", desc := "(I)V" } : Jvm.MethodName)) ∈ TT := tc6 (List.mem_of_getElem? (i := 104) rfl) rfl
theorem tw6_106 : (Jvm.Cond.instanceMethod ({ cls := "ThrowArmsModel", name := "laysWord", desc := "(I)V" } : Jvm.MethodName)) ∈ TT := tc6 (List.mem_of_getElem? (i := 106) rfl) rfl
theorem tw6_107 : (Jvm.Cond.code ({ cls := "ThrowArmsModel", name := "laysWord", desc := "(I)V" } : Jvm.MethodName) prog_13_method_10_code (3 : Nat) (Option.none : Option Jvm.ClassFile.FieldType)) ∈ TT := tc6 (List.mem_of_getElem? (i := 107) rfl) rfl
theorem tw6_108 : (Jvm.Cond.methodLink "ThrowArmsLaw" (27 : Nat) ({ cls := "ThrowArmsModel", name := "text", desc := "(I)I" } : Jvm.MethodName)) ∈ TT := tc6 (List.mem_of_getElem? (i := 108) rfl) rfl
theorem tw6_109 : (Jvm.Cond.instanceMethod ({ cls := "ThrowArmsModel", name := "text", desc := "(I)I" } : Jvm.MethodName)) ∈ TT := tc6 (List.mem_of_getElem? (i := 109) rfl) rfl
theorem tw6_110 : (Jvm.Cond.selects "ThrowArmsModel" ({ cls := "ThrowArmsModel", name := "text", desc := "(I)I" } : Jvm.MethodName) ({ cls := "ThrowArmsModel", name := "text", desc := "(I)I" } : Jvm.MethodName)) ∈ TT := tc6 (List.mem_of_getElem? (i := 110) rfl) rfl
theorem tw6_111 : (Jvm.Cond.code ({ cls := "ThrowArmsModel", name := "text", desc := "(I)I" } : Jvm.MethodName) prog_13_method_25_code (2 : Nat) (Option.some Jvm.ClassFile.FieldType.int)) ∈ TT := tc6 (List.mem_of_getElem? (i := 111) rfl) rfl
theorem tw6_112 : (Jvm.Cond.methodLink "ThrowArmsModel" (76 : Nat) ({ cls := "ThrowArmsModel", name := "in", desc := "(III)Z" } : Jvm.MethodName)) ∈ TT := tc6 (List.mem_of_getElem? (i := 112) rfl) rfl
theorem tw6_113 : (Jvm.Cond.static ({ cls := "ThrowArmsModel", name := "in", desc := "(III)Z" } : Jvm.MethodName)) ∈ TT := tc6 (List.mem_of_getElem? (i := 113) rfl) rfl
theorem tw6_114 : (Jvm.Cond.code ({ cls := "ThrowArmsModel", name := "in", desc := "(III)Z" } : Jvm.MethodName) prog_13_method_3_code (3 : Nat) (Option.some Jvm.ClassFile.FieldType.boolean)) ∈ TT := tc6 (List.mem_of_getElem? (i := 114) rfl) rfl
theorem tw6_115 : (Jvm.Cond.methodLink "ThrowArmsModel" (155 : Nat) ({ cls := "ThrowArmsModel", name := "unless", desc := "(ZZ)I" } : Jvm.MethodName)) ∈ TT := tc6 (List.mem_of_getElem? (i := 115) rfl) rfl
theorem tw6_116 : (Jvm.Cond.static ({ cls := "ThrowArmsModel", name := "unless", desc := "(ZZ)I" } : Jvm.MethodName)) ∈ TT := tc6 (List.mem_of_getElem? (i := 116) rfl) rfl
theorem tw6_117 : (Jvm.Cond.code ({ cls := "ThrowArmsModel", name := "unless", desc := "(ZZ)I" } : Jvm.MethodName) prog_13_method_8_code (2 : Nat) (Option.some Jvm.ClassFile.FieldType.int)) ∈ TT := tc6 (List.mem_of_getElem? (i := 117) rfl) rfl
theorem tw6_118 : (Jvm.Cond.methodLink "ThrowArmsModel" (159 : Nat) ({ cls := "ThrowArmsModel", name := "isRefused", desc := "(I)Z" } : Jvm.MethodName)) ∈ TT := tc6 (List.mem_of_getElem? (i := 118) rfl) rfl
theorem tw6_120 : (Jvm.Cond.instanceMethod ({ cls := "ThrowArmsModel", name := "isRefused", desc := "(I)Z" } : Jvm.MethodName)) ∈ TT := tc6 (List.mem_of_getElem? (i := 120) rfl) rfl
theorem tw6_121 : (Jvm.Cond.code ({ cls := "ThrowArmsModel", name := "isRefused", desc := "(I)Z" } : Jvm.MethodName) prog_13_method_6_code (2 : Nat) (Option.some Jvm.ClassFile.FieldType.boolean)) ∈ TT := tc6 (List.mem_of_getElem? (i := 121) rfl) rfl
theorem tw6_122 : (Jvm.Cond.methodLink "ThrowArmsModel" (165 : Nat) ({ cls := "ThrowArmsModel", name := "readAll", desc := "(I)Z" } : Jvm.MethodName)) ∈ TT := tc6 (List.mem_of_getElem? (i := 122) rfl) rfl
theorem tw6_124 : (Jvm.Cond.instanceMethod ({ cls := "ThrowArmsModel", name := "readAll", desc := "(I)Z" } : Jvm.MethodName)) ∈ TT := tc6 (List.mem_of_getElem? (i := 124) rfl) rfl
theorem tw6_125 : (Jvm.Cond.code ({ cls := "ThrowArmsModel", name := "readAll", desc := "(I)Z" } : Jvm.MethodName) prog_13_method_23_code (3 : Nat) (Option.some Jvm.ClassFile.FieldType.boolean)) ∈ TT := tc6 (List.mem_of_getElem? (i := 125) rfl) rfl
theorem tw6_126 : (Jvm.Cond.methodLink "ThrowArmsModel" (123 : Nat) ({ cls := "ThrowArmsModel", name := "goesOn", desc := "()V" } : Jvm.MethodName)) ∈ TT := tc6 (List.mem_of_getElem? (i := 126) rfl) rfl
theorem tw6_128 : (Jvm.Cond.instanceMethod ({ cls := "ThrowArmsModel", name := "goesOn", desc := "()V" } : Jvm.MethodName)) ∈ TT := tc6 (List.mem_of_getElem? (i := 128) rfl) rfl
theorem tw6_129 : (Jvm.Cond.code ({ cls := "ThrowArmsModel", name := "goesOn", desc := "()V" } : Jvm.MethodName) prog_13_method_12_code (2 : Nat) (Option.none : Option Jvm.ClassFile.FieldType)) ∈ TT := tc6 (List.mem_of_getElem? (i := 129) rfl) rfl
theorem tw6_130 : (Jvm.Cond.methodLink "ThrowArmsModel" (66 : Nat) ({ cls := "ThrowArmsModel", name := "see", desc := "(I)I" } : Jvm.MethodName)) ∈ TT := tc6 (List.mem_of_getElem? (i := 130) rfl) rfl
theorem tw6_132 : (Jvm.Cond.instanceMethod ({ cls := "ThrowArmsModel", name := "see", desc := "(I)I" } : Jvm.MethodName)) ∈ TT := tc6 (List.mem_of_getElem? (i := 132) rfl) rfl
theorem tw6_133 : (Jvm.Cond.code ({ cls := "ThrowArmsModel", name := "see", desc := "(I)I" } : Jvm.MethodName) prog_13_method_11_code (2 : Nat) (Option.some Jvm.ClassFile.FieldType.int)) ∈ TT := tc6 (List.mem_of_getElem? (i := 133) rfl) rfl
theorem tw6_134 : (Jvm.Cond.methodLink "ThrowArmsModel" (152 : Nat) ({ cls := "ThrowArmsModel", name := "readLine", desc := "()Z" } : Jvm.MethodName)) ∈ TT := tc6 (List.mem_of_getElem? (i := 134) rfl) rfl
theorem tw6_136 : (Jvm.Cond.instanceMethod ({ cls := "ThrowArmsModel", name := "readLine", desc := "()Z" } : Jvm.MethodName)) ∈ TT := tc6 (List.mem_of_getElem? (i := 136) rfl) rfl
theorem tw6_137 : (Jvm.Cond.code ({ cls := "ThrowArmsModel", name := "readLine", desc := "()Z" } : Jvm.MethodName) prog_13_method_22_code (1 : Nat) (Option.some Jvm.ClassFile.FieldType.boolean)) ∈ TT := tc6 (List.mem_of_getElem? (i := 137) rfl) rfl
theorem tw6_139 : (Jvm.Cond.methodLink "ThrowArmsModel" (101 : Nat) ({ cls := "ThrowArmsModel", name := "isWord", desc := "(Ljava/lang/String;)Z" } : Jvm.MethodName)) ∈ TT := tc6 (List.mem_of_getElem? (i := 139) rfl) rfl
theorem tw6_141 : (Jvm.Cond.instanceMethod ({ cls := "ThrowArmsModel", name := "isWord", desc := "(Ljava/lang/String;)Z" } : Jvm.MethodName)) ∈ TT := tc6 (List.mem_of_getElem? (i := 141) rfl) rfl
theorem tw6_142 : (Jvm.Cond.code ({ cls := "ThrowArmsModel", name := "isWord", desc := "(Ljava/lang/String;)Z" } : Jvm.MethodName) prog_13_method_13_code (3 : Nat) (Option.some Jvm.ClassFile.FieldType.boolean)) ∈ TT := tc6 (List.mem_of_getElem? (i := 142) rfl) rfl
theorem tw6_143 : (Jvm.Cond.methodLink "ThrowArmsModel" (83 : Nat) ({ cls := "java/lang/String", name := "length", desc := "()I" } : Jvm.MethodName)) ∈ TT := tc6 (List.mem_of_getElem? (i := 143) rfl) rfl
theorem tw6_144 : (Jvm.Cond.methodLink "ThrowArmsModel" (89 : Nat) ({ cls := "java/lang/String", name := "charAt", desc := "(I)C" } : Jvm.MethodName)) ∈ TT := tc6 (List.mem_of_getElem? (i := 144) rfl) rfl
theorem tw6_145 : (Jvm.Cond.methodLink "ThrowArmsModel" (140 : Nat) ({ cls := "ThrowArmsModel", name := "readArm", desc := "()Z" } : Jvm.MethodName)) ∈ TT := tc6 (List.mem_of_getElem? (i := 145) rfl) rfl
theorem tw6_147 : (Jvm.Cond.instanceMethod ({ cls := "ThrowArmsModel", name := "readArm", desc := "()Z" } : Jvm.MethodName)) ∈ TT := tc6 (List.mem_of_getElem? (i := 147) rfl) rfl
theorem tw6_148 : (Jvm.Cond.code ({ cls := "ThrowArmsModel", name := "readArm", desc := "()Z" } : Jvm.MethodName) prog_13_method_18_code (3 : Nat) (Option.some Jvm.ClassFile.FieldType.boolean)) ∈ TT := tc6 (List.mem_of_getElem? (i := 148) rfl) rfl
theorem tw6_149 : (Jvm.Cond.methodLink "ThrowArmsModel" (119 : Nat) ({ cls := "ThrowArmsModel", name := "errs", desc := "(I)Z" } : Jvm.MethodName)) ∈ TT := tc6 (List.mem_of_getElem? (i := 149) rfl) rfl
theorem tw6_151 : (Jvm.Cond.instanceMethod ({ cls := "ThrowArmsModel", name := "errs", desc := "(I)Z" } : Jvm.MethodName)) ∈ TT := tc6 (List.mem_of_getElem? (i := 151) rfl) rfl
theorem tw6_152 : (Jvm.Cond.code ({ cls := "ThrowArmsModel", name := "errs", desc := "(I)Z" } : Jvm.MethodName) prog_13_method_14_code (2 : Nat) (Option.some Jvm.ClassFile.FieldType.boolean)) ∈ TT := tc6 (List.mem_of_getElem? (i := 152) rfl) rfl
theorem tw6_153 : (Jvm.Cond.methodLink "ThrowArmsModel" (126 : Nat) ({ cls := "ThrowArmsModel", name := "isName", desc := "()Z" } : Jvm.MethodName)) ∈ TT := tc6 (List.mem_of_getElem? (i := 153) rfl) rfl
theorem tw6_155 : (Jvm.Cond.instanceMethod ({ cls := "ThrowArmsModel", name := "isName", desc := "()Z" } : Jvm.MethodName)) ∈ TT := tc6 (List.mem_of_getElem? (i := 155) rfl) rfl
theorem tw6_156 : (Jvm.Cond.code ({ cls := "ThrowArmsModel", name := "isName", desc := "()Z" } : Jvm.MethodName) prog_13_method_15_code (1 : Nat) (Option.some Jvm.ClassFile.FieldType.boolean)) ∈ TT := tc6 (List.mem_of_getElem? (i := 156) rfl) rfl
theorem tw6_164 : (Jvm.Cond.methodLink "ThrowArmsModel" (130 : Nat) ({ cls := "ThrowArmsModel", name := "isAt", desc := "([IIII)Z" } : Jvm.MethodName)) ∈ TT := tc6 (List.mem_of_getElem? (i := 164) rfl) rfl
theorem tw6_166 : (Jvm.Cond.instanceMethod ({ cls := "ThrowArmsModel", name := "isAt", desc := "([IIII)Z" } : Jvm.MethodName)) ∈ TT := tc6 (List.mem_of_getElem? (i := 166) rfl) rfl
theorem tw6_167 : (Jvm.Cond.code ({ cls := "ThrowArmsModel", name := "isAt", desc := "([IIII)Z" } : Jvm.MethodName) prog_13_method_16_code (8 : Nat) (Option.some Jvm.ClassFile.FieldType.boolean)) ∈ TT := tc6 (List.mem_of_getElem? (i := 167) rfl) rfl
theorem tw6_168 : (Jvm.Cond.methodLink "ThrowArmsModel" (134 : Nat) ({ cls := "ThrowArmsModel", name := "takes", desc := "(III)Z" } : Jvm.MethodName)) ∈ TT := tc6 (List.mem_of_getElem? (i := 168) rfl) rfl
theorem tw6_170 : (Jvm.Cond.instanceMethod ({ cls := "ThrowArmsModel", name := "takes", desc := "(III)Z" } : Jvm.MethodName)) ∈ TT := tc6 (List.mem_of_getElem? (i := 170) rfl) rfl
theorem tw6_171 : (Jvm.Cond.code ({ cls := "ThrowArmsModel", name := "takes", desc := "(III)Z" } : Jvm.MethodName) prog_13_method_17_code (4 : Nat) (Option.some Jvm.ClassFile.FieldType.boolean)) ∈ TT := tc6 (List.mem_of_getElem? (i := 171) rfl) rfl
theorem tw6_172 : (Jvm.Cond.methodLink "ThrowArmsModel" (143 : Nat) ({ cls := "ThrowArmsModel", name := "readGame", desc := "()Z" } : Jvm.MethodName)) ∈ TT := tc6 (List.mem_of_getElem? (i := 172) rfl) rfl
theorem tw6_174 : (Jvm.Cond.instanceMethod ({ cls := "ThrowArmsModel", name := "readGame", desc := "()Z" } : Jvm.MethodName)) ∈ TT := tc6 (List.mem_of_getElem? (i := 174) rfl) rfl
theorem tw6_175 : (Jvm.Cond.code ({ cls := "ThrowArmsModel", name := "readGame", desc := "()Z" } : Jvm.MethodName) prog_13_method_19_code (2 : Nat) (Option.some Jvm.ClassFile.FieldType.boolean)) ∈ TT := tc6 (List.mem_of_getElem? (i := 175) rfl) rfl
theorem tw6_176 : (Jvm.Cond.methodLink "ThrowArmsModel" (146 : Nat) ({ cls := "ThrowArmsModel", name := "readRest", desc := "()Z" } : Jvm.MethodName)) ∈ TT := tc6 (List.mem_of_getElem? (i := 176) rfl) rfl
theorem tw6_178 : (Jvm.Cond.instanceMethod ({ cls := "ThrowArmsModel", name := "readRest", desc := "()Z" } : Jvm.MethodName)) ∈ TT := tc6 (List.mem_of_getElem? (i := 178) rfl) rfl
theorem tw6_179 : (Jvm.Cond.code ({ cls := "ThrowArmsModel", name := "readRest", desc := "()Z" } : Jvm.MethodName) prog_13_method_20_code (2 : Nat) (Option.some Jvm.ClassFile.FieldType.boolean)) ∈ TT := tc6 (List.mem_of_getElem? (i := 179) rfl) rfl
theorem tw6_180 : (Jvm.Cond.methodLink "ThrowArmsModel" (149 : Nat) ({ cls := "ThrowArmsModel", name := "readOnce", desc := "(III)Z" } : Jvm.MethodName)) ∈ TT := tc6 (List.mem_of_getElem? (i := 180) rfl) rfl
theorem tw6_182 : (Jvm.Cond.instanceMethod ({ cls := "ThrowArmsModel", name := "readOnce", desc := "(III)Z" } : Jvm.MethodName)) ∈ TT := tc6 (List.mem_of_getElem? (i := 182) rfl) rfl
theorem tw6_183 : (Jvm.Cond.code ({ cls := "ThrowArmsModel", name := "readOnce", desc := "(III)Z" } : Jvm.MethodName) prog_13_method_21_code (4 : Nat) (Option.some Jvm.ClassFile.FieldType.boolean)) ∈ TT := tc6 (List.mem_of_getElem? (i := 183) rfl) rfl
theorem tw6_184 : (Jvm.Cond.methodLink "ThrowArmsModel" (168 : Nat) ({ cls := "ThrowArmsModel", name := "no", desc := "(I)I" } : Jvm.MethodName)) ∈ TT := tc6 (List.mem_of_getElem? (i := 184) rfl) rfl
theorem tw6_186 : (Jvm.Cond.instanceMethod ({ cls := "ThrowArmsModel", name := "no", desc := "(I)I" } : Jvm.MethodName)) ∈ TT := tc6 (List.mem_of_getElem? (i := 186) rfl) rfl
theorem tw6_187 : (Jvm.Cond.code ({ cls := "ThrowArmsModel", name := "no", desc := "(I)I" } : Jvm.MethodName) prog_13_method_5_code (2 : Nat) (Option.some Jvm.ClassFile.FieldType.int)) ∈ TT := tc6 (List.mem_of_getElem? (i := 187) rfl) rfl
theorem tw6_188 : (Jvm.Cond.methodLink "ThrowArmsModel" (178 : Nat) ({ cls := "ThrowArmsModel", name := "lays", desc := "([II[III)V" } : Jvm.MethodName)) ∈ TT := tc6 (List.mem_of_getElem? (i := 188) rfl) rfl
theorem tw6_189 : (Jvm.Cond.static ({ cls := "ThrowArmsModel", name := "lays", desc := "([II[III)V" } : Jvm.MethodName)) ∈ TT := tc6 (List.mem_of_getElem? (i := 189) rfl) rfl
theorem tw6_190 : (Jvm.Cond.code ({ cls := "ThrowArmsModel", name := "lays", desc := "([II[III)V" } : Jvm.MethodName) prog_13_method_24_code (6 : Nat) (Option.none : Option Jvm.ClassFile.FieldType)) ∈ TT := tc6 (List.mem_of_getElem? (i := 190) rfl) rfl
theorem tw6_191 : (Jvm.Cond.methodLink "ThrowArmsLaw" (32 : Nat) ({ cls := "ThrowArmsModel", name := "fault", desc := "()I" } : Jvm.MethodName)) ∈ TT := tc6 (List.mem_of_getElem? (i := 191) rfl) rfl
theorem tw6_192 : (Jvm.Cond.instanceMethod ({ cls := "ThrowArmsModel", name := "fault", desc := "()I" } : Jvm.MethodName)) ∈ TT := tc6 (List.mem_of_getElem? (i := 192) rfl) rfl
theorem tw6_193 : (Jvm.Cond.selects "ThrowArmsModel" ({ cls := "ThrowArmsModel", name := "fault", desc := "()I" } : Jvm.MethodName) ({ cls := "ThrowArmsModel", name := "fault", desc := "()I" } : Jvm.MethodName)) ∈ TT := tc6 (List.mem_of_getElem? (i := 193) rfl) rfl
theorem tw6_194 : (Jvm.Cond.code ({ cls := "ThrowArmsModel", name := "fault", desc := "()I" } : Jvm.MethodName) prog_13_method_26_code (1 : Nat) (Option.some Jvm.ClassFile.FieldType.int)) ∈ TT := tc6 (List.mem_of_getElem? (i := 194) rfl) rfl
theorem tw6_195 : (Jvm.Cond.methodLink "ThrowArmsLaw" (36 : Nat) ({ cls := "ThrowArmsModel", name := "where", desc := "()I" } : Jvm.MethodName)) ∈ TT := tc6 (List.mem_of_getElem? (i := 195) rfl) rfl
theorem tw6_196 : (Jvm.Cond.instanceMethod ({ cls := "ThrowArmsModel", name := "where", desc := "()I" } : Jvm.MethodName)) ∈ TT := tc6 (List.mem_of_getElem? (i := 196) rfl) rfl
theorem tw6_197 : (Jvm.Cond.selects "ThrowArmsModel" ({ cls := "ThrowArmsModel", name := "where", desc := "()I" } : Jvm.MethodName) ({ cls := "ThrowArmsModel", name := "where", desc := "()I" } : Jvm.MethodName)) ∈ TT := tc6 (List.mem_of_getElem? (i := 197) rfl) rfl
theorem tw6_198 : (Jvm.Cond.code ({ cls := "ThrowArmsModel", name := "where", desc := "()I" } : Jvm.MethodName) prog_13_method_27_code (1 : Nat) (Option.some Jvm.ClassFile.FieldType.int)) ∈ TT := tc6 (List.mem_of_getElem? (i := 198) rfl) rfl
theorem tw6_199 : (Jvm.Cond.methodLink "ThrowArmsLaw" (40 : Nat) ({ cls := "ThrowArmsModel", name := "about", desc := "(I)I" } : Jvm.MethodName)) ∈ TT := tc6 (List.mem_of_getElem? (i := 199) rfl) rfl
theorem tw6_200 : (Jvm.Cond.instanceMethod ({ cls := "ThrowArmsModel", name := "about", desc := "(I)I" } : Jvm.MethodName)) ∈ TT := tc6 (List.mem_of_getElem? (i := 200) rfl) rfl
theorem tw6_201 : (Jvm.Cond.selects "ThrowArmsModel" ({ cls := "ThrowArmsModel", name := "about", desc := "(I)I" } : Jvm.MethodName) ({ cls := "ThrowArmsModel", name := "about", desc := "(I)I" } : Jvm.MethodName)) ∈ TT := tc6 (List.mem_of_getElem? (i := 201) rfl) rfl
theorem tw6_202 : (Jvm.Cond.code ({ cls := "ThrowArmsModel", name := "about", desc := "(I)I" } : Jvm.MethodName) prog_13_method_31_code (2 : Nat) (Option.some Jvm.ClassFile.FieldType.int)) ∈ TT := tc6 (List.mem_of_getElem? (i := 202) rfl) rfl
theorem tw6_203 : (Jvm.Cond.methodLink "ThrowArmsModel" (182 : Nat) ({ cls := "ThrowArmsModel", name := "unless", desc := "(Z)I" } : Jvm.MethodName)) ∈ TT := tc6 (List.mem_of_getElem? (i := 203) rfl) rfl
theorem tw6_204 : (Jvm.Cond.static ({ cls := "ThrowArmsModel", name := "unless", desc := "(Z)I" } : Jvm.MethodName)) ∈ TT := tc6 (List.mem_of_getElem? (i := 204) rfl) rfl
theorem tw6_205 : (Jvm.Cond.code ({ cls := "ThrowArmsModel", name := "unless", desc := "(Z)I" } : Jvm.MethodName) prog_13_method_7_code (1 : Nat) (Option.some Jvm.ClassFile.FieldType.int)) ∈ TT := tc6 (List.mem_of_getElem? (i := 205) rfl) rfl
theorem tw6_206 : (Jvm.Cond.methodLink "ThrowArmsModel" (185 : Nat) ({ cls := "ThrowArmsModel", name := "outingsAll", desc := "()I" } : Jvm.MethodName)) ∈ TT := tc6 (List.mem_of_getElem? (i := 206) rfl) rfl
theorem tw6_208 : (Jvm.Cond.instanceMethod ({ cls := "ThrowArmsModel", name := "outingsAll", desc := "()I" } : Jvm.MethodName)) ∈ TT := tc6 (List.mem_of_getElem? (i := 208) rfl) rfl
theorem tw6_209 : (Jvm.Cond.code ({ cls := "ThrowArmsModel", name := "outingsAll", desc := "()I" } : Jvm.MethodName) prog_13_method_30_code (3 : Nat) (Option.some Jvm.ClassFile.FieldType.int)) ∈ TT := tc6 (List.mem_of_getElem? (i := 209) rfl) rfl
theorem tw6_210 : (Jvm.Cond.methodLink "ThrowArmsLaw" (45 : Nat) ({ cls := "ThrowArmsModel", name := "arm", desc := "(II)I" } : Jvm.MethodName)) ∈ TT := tc6 (List.mem_of_getElem? (i := 210) rfl) rfl
theorem tw6_211 : (Jvm.Cond.instanceMethod ({ cls := "ThrowArmsModel", name := "arm", desc := "(II)I" } : Jvm.MethodName)) ∈ TT := tc6 (List.mem_of_getElem? (i := 211) rfl) rfl
theorem tw6_212 : (Jvm.Cond.selects "ThrowArmsModel" ({ cls := "ThrowArmsModel", name := "arm", desc := "(II)I" } : Jvm.MethodName) ({ cls := "ThrowArmsModel", name := "arm", desc := "(II)I" } : Jvm.MethodName)) ∈ TT := tc6 (List.mem_of_getElem? (i := 212) rfl) rfl
theorem tw6_213 : (Jvm.Cond.code ({ cls := "ThrowArmsModel", name := "arm", desc := "(II)I" } : Jvm.MethodName) prog_13_method_43_code (3 : Nat) (Option.some Jvm.ClassFile.FieldType.int)) ∈ TT := tc6 (List.mem_of_getElem? (i := 213) rfl) rfl
theorem tw6_214 : (Jvm.Cond.methodLink "ThrowArmsModel" (211 : Nat) ({ cls := "ThrowArmsModel", name := "isArm", desc := "(I)Z" } : Jvm.MethodName)) ∈ TT := tc6 (List.mem_of_getElem? (i := 214) rfl) rfl
theorem tw6_216 : (Jvm.Cond.instanceMethod ({ cls := "ThrowArmsModel", name := "isArm", desc := "(I)Z" } : Jvm.MethodName)) ∈ TT := tc6 (List.mem_of_getElem? (i := 216) rfl) rfl
theorem tw6_217 : (Jvm.Cond.code ({ cls := "ThrowArmsModel", name := "isArm", desc := "(I)Z" } : Jvm.MethodName) prog_13_method_28_code (2 : Nat) (Option.some Jvm.ClassFile.FieldType.boolean)) ∈ TT := tc6 (List.mem_of_getElem? (i := 217) rfl) rfl
theorem tw6_218 : (Jvm.Cond.methodLink "ThrowArmsModel" (214 : Nat) ({ cls := "ThrowArmsModel", name := "sumOf", desc := "(II)I" } : Jvm.MethodName)) ∈ TT := tc6 (List.mem_of_getElem? (i := 218) rfl) rfl
theorem tw6_220 : (Jvm.Cond.instanceMethod ({ cls := "ThrowArmsModel", name := "sumOf", desc := "(II)I" } : Jvm.MethodName)) ∈ TT := tc6 (List.mem_of_getElem? (i := 220) rfl) rfl
theorem tw6_221 : (Jvm.Cond.code ({ cls := "ThrowArmsModel", name := "sumOf", desc := "(II)I" } : Jvm.MethodName) prog_13_method_42_code (7 : Nat) (Option.some Jvm.ClassFile.FieldType.int)) ∈ TT := tc6 (List.mem_of_getElem? (i := 221) rfl) rfl
theorem tw6_222 : (Jvm.Cond.methodLink "ThrowArmsModel" (198 : Nat) ({ cls := "ThrowArmsModel", name := "throwsAt", desc := "(II)I" } : Jvm.MethodName)) ∈ TT := tc6 (List.mem_of_getElem? (i := 222) rfl) rfl
theorem tw6_224 : (Jvm.Cond.instanceMethod ({ cls := "ThrowArmsModel", name := "throwsAt", desc := "(II)I" } : Jvm.MethodName)) ∈ TT := tc6 (List.mem_of_getElem? (i := 224) rfl) rfl
theorem tw6_225 : (Jvm.Cond.code ({ cls := "ThrowArmsModel", name := "throwsAt", desc := "(II)I" } : Jvm.MethodName) prog_13_method_38_code (3 : Nat) (Option.some Jvm.ClassFile.FieldType.int)) ∈ TT := tc6 (List.mem_of_getElem? (i := 225) rfl) rfl
theorem tw6_226 : (Jvm.Cond.methodLink "ThrowArmsModel" (195 : Nat) ({ cls := "ThrowArmsModel", name := "slot", desc := "(II)I" } : Jvm.MethodName)) ∈ TT := tc6 (List.mem_of_getElem? (i := 226) rfl) rfl
theorem tw6_228 : (Jvm.Cond.instanceMethod ({ cls := "ThrowArmsModel", name := "slot", desc := "(II)I" } : Jvm.MethodName)) ∈ TT := tc6 (List.mem_of_getElem? (i := 228) rfl) rfl
theorem tw6_229 : (Jvm.Cond.code ({ cls := "ThrowArmsModel", name := "slot", desc := "(II)I" } : Jvm.MethodName) prog_13_method_36_code (3 : Nat) (Option.some Jvm.ClassFile.FieldType.int)) ∈ TT := tc6 (List.mem_of_getElem? (i := 229) rfl) rfl
theorem tw6_230 : (Jvm.Cond.methodLink "ThrowArmsModel" (201 : Nat) ({ cls := "ThrowArmsModel", name := "who", desc := "(II)I" } : Jvm.MethodName)) ∈ TT := tc6 (List.mem_of_getElem? (i := 230) rfl) rfl
theorem tw6_232 : (Jvm.Cond.instanceMethod ({ cls := "ThrowArmsModel", name := "who", desc := "(II)I" } : Jvm.MethodName)) ∈ TT := tc6 (List.mem_of_getElem? (i := 232) rfl) rfl
theorem tw6_233 : (Jvm.Cond.code ({ cls := "ThrowArmsModel", name := "who", desc := "(II)I" } : Jvm.MethodName) prog_13_method_37_code (3 : Nat) (Option.some Jvm.ClassFile.FieldType.int)) ∈ TT := tc6 (List.mem_of_getElem? (i := 233) rfl) rfl
theorem tw6_234 : (Jvm.Cond.methodLink "ThrowArmsModel" (204 : Nat) ({ cls := "ThrowArmsModel", name := "worthOf", desc := "(III)I" } : Jvm.MethodName)) ∈ TT := tc6 (List.mem_of_getElem? (i := 234) rfl) rfl
theorem tw6_236 : (Jvm.Cond.instanceMethod ({ cls := "ThrowArmsModel", name := "worthOf", desc := "(III)I" } : Jvm.MethodName)) ∈ TT := tc6 (List.mem_of_getElem? (i := 236) rfl) rfl
theorem tw6_237 : (Jvm.Cond.code ({ cls := "ThrowArmsModel", name := "worthOf", desc := "(III)I" } : Jvm.MethodName) prog_13_method_34_code (5 : Nat) (Option.some Jvm.ClassFile.FieldType.int)) ∈ TT := tc6 (List.mem_of_getElem? (i := 237) rfl) rfl
theorem tw6_238 : (Jvm.Cond.methodLink "ThrowArmsModel" (188 : Nat) ({ cls := "ThrowArmsModel", name := "above", desc := "(II)I" } : Jvm.MethodName)) ∈ TT := tc6 (List.mem_of_getElem? (i := 238) rfl) rfl
theorem tw7_0 : (Jvm.Cond.instanceMethod ({ cls := "ThrowArmsModel", name := "above", desc := "(II)I" } : Jvm.MethodName)) ∈ TT := tc7 (List.mem_of_getElem? (i := 0) rfl) rfl
theorem tw7_1 : (Jvm.Cond.code ({ cls := "ThrowArmsModel", name := "above", desc := "(II)I" } : Jvm.MethodName) prog_13_method_33_code (3 : Nat) (Option.some Jvm.ClassFile.FieldType.int)) ∈ TT := tc7 (List.mem_of_getElem? (i := 1) rfl) rfl
theorem tw7_2 : (Jvm.Cond.methodLink "ThrowArmsModel" (192 : Nat) ({ cls := "ThrowArmsModel", name := "pointsOf", desc := "(II)I" } : Jvm.MethodName)) ∈ TT := tc7 (List.mem_of_getElem? (i := 2) rfl) rfl
theorem tw7_4 : (Jvm.Cond.instanceMethod ({ cls := "ThrowArmsModel", name := "pointsOf", desc := "(II)I" } : Jvm.MethodName)) ∈ TT := tc7 (List.mem_of_getElem? (i := 4) rfl) rfl
theorem tw7_5 : (Jvm.Cond.code ({ cls := "ThrowArmsModel", name := "pointsOf", desc := "(II)I" } : Jvm.MethodName) prog_13_method_32_code (5 : Nat) (Option.some Jvm.ClassFile.FieldType.int)) ∈ TT := tc7 (List.mem_of_getElem? (i := 5) rfl) rfl
theorem tw7_6 : (Jvm.Cond.methodLink "ThrowArmsModel" (208 : Nat) ({ cls := "ThrowArmsModel", name := "riskOf", desc := "(II)I" } : Jvm.MethodName)) ∈ TT := tc7 (List.mem_of_getElem? (i := 6) rfl) rfl
theorem tw7_8 : (Jvm.Cond.instanceMethod ({ cls := "ThrowArmsModel", name := "riskOf", desc := "(II)I" } : Jvm.MethodName)) ∈ TT := tc7 (List.mem_of_getElem? (i := 8) rfl) rfl
theorem tw7_9 : (Jvm.Cond.code ({ cls := "ThrowArmsModel", name := "riskOf", desc := "(II)I" } : Jvm.MethodName) prog_13_method_35_code (3 : Nat) (Option.some Jvm.ClassFile.FieldType.int)) ∈ TT := tc7 (List.mem_of_getElem? (i := 9) rfl) rfl
theorem tw7_10 : (Jvm.Cond.methodLink "ThrowArmsLaw" (49 : Nat) ({ cls := "ThrowArmsModel", name := "game", desc := "(II)I" } : Jvm.MethodName)) ∈ TT := tc7 (List.mem_of_getElem? (i := 10) rfl) rfl
theorem tw7_11 : (Jvm.Cond.instanceMethod ({ cls := "ThrowArmsModel", name := "game", desc := "(II)I" } : Jvm.MethodName)) ∈ TT := tc7 (List.mem_of_getElem? (i := 11) rfl) rfl
theorem tw7_12 : (Jvm.Cond.selects "ThrowArmsModel" ({ cls := "ThrowArmsModel", name := "game", desc := "(II)I" } : Jvm.MethodName) ({ cls := "ThrowArmsModel", name := "game", desc := "(II)I" } : Jvm.MethodName)) ∈ TT := tc7 (List.mem_of_getElem? (i := 12) rfl) rfl
theorem tw7_13 : (Jvm.Cond.code ({ cls := "ThrowArmsModel", name := "game", desc := "(II)I" } : Jvm.MethodName) prog_13_method_44_code (3 : Nat) (Option.some Jvm.ClassFile.FieldType.int)) ∈ TT := tc7 (List.mem_of_getElem? (i := 13) rfl) rfl
theorem tw7_14 : (Jvm.Cond.methodLink "ThrowArmsModel" (217 : Nat) ({ cls := "ThrowArmsModel", name := "isGame", desc := "(I)Z" } : Jvm.MethodName)) ∈ TT := tc7 (List.mem_of_getElem? (i := 14) rfl) rfl
theorem tw7_16 : (Jvm.Cond.instanceMethod ({ cls := "ThrowArmsModel", name := "isGame", desc := "(I)Z" } : Jvm.MethodName)) ∈ TT := tc7 (List.mem_of_getElem? (i := 16) rfl) rfl
theorem tw7_17 : (Jvm.Cond.code ({ cls := "ThrowArmsModel", name := "isGame", desc := "(I)Z" } : Jvm.MethodName) prog_13_method_29_code (2 : Nat) (Option.some Jvm.ClassFile.FieldType.boolean)) ∈ TT := tc7 (List.mem_of_getElem? (i := 17) rfl) rfl
theorem tw7_18 : (Jvm.Cond.methodLink "ThrowArmsModel" (220 : Nat) ({ cls := "ThrowArmsModel", name := "leftOf", desc := "(I)I" } : Jvm.MethodName)) ∈ TT := tc7 (List.mem_of_getElem? (i := 18) rfl) rfl
theorem tw7_20 : (Jvm.Cond.instanceMethod ({ cls := "ThrowArmsModel", name := "leftOf", desc := "(I)I" } : Jvm.MethodName)) ∈ TT := tc7 (List.mem_of_getElem? (i := 20) rfl) rfl
theorem tw7_21 : (Jvm.Cond.code ({ cls := "ThrowArmsModel", name := "leftOf", desc := "(I)I" } : Jvm.MethodName) prog_13_method_39_code (4 : Nat) (Option.some Jvm.ClassFile.FieldType.int)) ∈ TT := tc7 (List.mem_of_getElem? (i := 21) rfl) rfl
theorem tw7_22 : (Jvm.Cond.methodLink "ThrowArmsModel" (223 : Nat) ({ cls := "ThrowArmsModel", name := "valueOf", desc := "(I)I" } : Jvm.MethodName)) ∈ TT := tc7 (List.mem_of_getElem? (i := 22) rfl) rfl
theorem tw7_24 : (Jvm.Cond.instanceMethod ({ cls := "ThrowArmsModel", name := "valueOf", desc := "(I)I" } : Jvm.MethodName)) ∈ TT := tc7 (List.mem_of_getElem? (i := 24) rfl) rfl
theorem tw7_25 : (Jvm.Cond.code ({ cls := "ThrowArmsModel", name := "valueOf", desc := "(I)I" } : Jvm.MethodName) prog_13_method_40_code (4 : Nat) (Option.some Jvm.ClassFile.FieldType.int)) ∈ TT := tc7 (List.mem_of_getElem? (i := 25) rfl) rfl
theorem tw7_26 : (Jvm.Cond.methodLink "ThrowArmsLaw" (53 : Nat) ({ cls := "ThrowArmsModel", name := "rest", desc := "(I)I" } : Jvm.MethodName)) ∈ TT := tc7 (List.mem_of_getElem? (i := 26) rfl) rfl
theorem tw7_27 : (Jvm.Cond.instanceMethod ({ cls := "ThrowArmsModel", name := "rest", desc := "(I)I" } : Jvm.MethodName)) ∈ TT := tc7 (List.mem_of_getElem? (i := 27) rfl) rfl
theorem tw7_28 : (Jvm.Cond.selects "ThrowArmsModel" ({ cls := "ThrowArmsModel", name := "rest", desc := "(I)I" } : Jvm.MethodName) ({ cls := "ThrowArmsModel", name := "rest", desc := "(I)I" } : Jvm.MethodName)) ∈ TT := tc7 (List.mem_of_getElem? (i := 28) rfl) rfl
theorem tw7_29 : (Jvm.Cond.code ({ cls := "ThrowArmsModel", name := "rest", desc := "(I)I" } : Jvm.MethodName) prog_13_method_46_code (2 : Nat) (Option.some Jvm.ClassFile.FieldType.int)) ∈ TT := tc7 (List.mem_of_getElem? (i := 29) rfl) rfl
theorem tw7_30 : (Jvm.Cond.methodLink "ThrowArmsModel" (226 : Nat) ({ cls := "ThrowArmsModel", name := "restOf", desc := "(I)I" } : Jvm.MethodName)) ∈ TT := tc7 (List.mem_of_getElem? (i := 30) rfl) rfl
theorem tw7_32 : (Jvm.Cond.instanceMethod ({ cls := "ThrowArmsModel", name := "restOf", desc := "(I)I" } : Jvm.MethodName)) ∈ TT := tc7 (List.mem_of_getElem? (i := 32) rfl) rfl
theorem tw7_33 : (Jvm.Cond.code ({ cls := "ThrowArmsModel", name := "restOf", desc := "(I)I" } : Jvm.MethodName) prog_13_method_45_code (4 : Nat) (Option.some Jvm.ClassFile.FieldType.int)) ∈ TT := tc7 (List.mem_of_getElem? (i := 33) rfl) rfl
theorem tw7_34 : (Jvm.Cond.methodLink "ThrowArmsLaw" (58 : Nat) ({ cls := "ThrowArmsModel", name := "outing", desc := "(III)I" } : Jvm.MethodName)) ∈ TT := tc7 (List.mem_of_getElem? (i := 34) rfl) rfl
theorem tw7_35 : (Jvm.Cond.instanceMethod ({ cls := "ThrowArmsModel", name := "outing", desc := "(III)I" } : Jvm.MethodName)) ∈ TT := tc7 (List.mem_of_getElem? (i := 35) rfl) rfl
theorem tw7_36 : (Jvm.Cond.selects "ThrowArmsModel" ({ cls := "ThrowArmsModel", name := "outing", desc := "(III)I" } : Jvm.MethodName) ({ cls := "ThrowArmsModel", name := "outing", desc := "(III)I" } : Jvm.MethodName)) ∈ TT := tc7 (List.mem_of_getElem? (i := 36) rfl) rfl
theorem tw7_37 : (Jvm.Cond.code ({ cls := "ThrowArmsModel", name := "outing", desc := "(III)I" } : Jvm.MethodName) prog_13_method_53_code (6 : Nat) (Option.some Jvm.ClassFile.FieldType.int)) ∈ TT := tc7 (List.mem_of_getElem? (i := 37) rfl) rfl
theorem tw7_38 : (Jvm.Cond.methodLink "ThrowArmsModel" (249 : Nat) ({ cls := "ThrowArmsModel", name := "isAllowedAt", desc := "(II)Z" } : Jvm.MethodName)) ∈ TT := tc7 (List.mem_of_getElem? (i := 38) rfl) rfl
theorem tw7_40 : (Jvm.Cond.instanceMethod ({ cls := "ThrowArmsModel", name := "isAllowedAt", desc := "(II)Z" } : Jvm.MethodName)) ∈ TT := tc7 (List.mem_of_getElem? (i := 40) rfl) rfl
theorem tw7_41 : (Jvm.Cond.code ({ cls := "ThrowArmsModel", name := "isAllowedAt", desc := "(II)Z" } : Jvm.MethodName) prog_13_method_52_code (3 : Nat) (Option.some Jvm.ClassFile.FieldType.boolean)) ∈ TT := tc7 (List.mem_of_getElem? (i := 41) rfl) rfl
theorem tw7_42 : (Jvm.Cond.methodLink "ThrowArmsModel" (232 : Nat) ({ cls := "ThrowArmsModel", name := "laysDays", desc := "(III)V" } : Jvm.MethodName)) ∈ TT := tc7 (List.mem_of_getElem? (i := 42) rfl) rfl
theorem tw7_44 : (Jvm.Cond.instanceMethod ({ cls := "ThrowArmsModel", name := "laysDays", desc := "(III)V" } : Jvm.MethodName)) ∈ TT := tc7 (List.mem_of_getElem? (i := 44) rfl) rfl
theorem tw7_45 : (Jvm.Cond.code ({ cls := "ThrowArmsModel", name := "laysDays", desc := "(III)V" } : Jvm.MethodName) prog_13_method_47_code (6 : Nat) (Option.none : Option Jvm.ClassFile.FieldType)) ∈ TT := tc7 (List.mem_of_getElem? (i := 45) rfl) rfl
theorem tw7_46 : (Jvm.Cond.methodLink "ThrowArmsModel" (239 : Nat) ({ cls := "ThrowArmsModel", name := "isAllowed", desc := "(III)Z" } : Jvm.MethodName)) ∈ TT := tc7 (List.mem_of_getElem? (i := 46) rfl) rfl
theorem tw7_48 : (Jvm.Cond.instanceMethod ({ cls := "ThrowArmsModel", name := "isAllowed", desc := "(III)Z" } : Jvm.MethodName)) ∈ TT := tc7 (List.mem_of_getElem? (i := 48) rfl) rfl
theorem tw7_49 : (Jvm.Cond.code ({ cls := "ThrowArmsModel", name := "isAllowed", desc := "(III)Z" } : Jvm.MethodName) prog_13_method_49_code (7 : Nat) (Option.some Jvm.ClassFile.FieldType.boolean)) ∈ TT := tc7 (List.mem_of_getElem? (i := 49) rfl) rfl
theorem tw7_50 : (Jvm.Cond.methodLink "ThrowArmsModel" (229 : Nat) ({ cls := "ThrowArmsModel", name := "lately", desc := "(I)I" } : Jvm.MethodName)) ∈ TT := tc7 (List.mem_of_getElem? (i := 50) rfl) rfl
theorem tw7_52 : (Jvm.Cond.instanceMethod ({ cls := "ThrowArmsModel", name := "lately", desc := "(I)I" } : Jvm.MethodName)) ∈ TT := tc7 (List.mem_of_getElem? (i := 52) rfl) rfl
theorem tw7_53 : (Jvm.Cond.code ({ cls := "ThrowArmsModel", name := "lately", desc := "(I)I" } : Jvm.MethodName) prog_13_method_48_code (4 : Nat) (Option.some Jvm.ClassFile.FieldType.int)) ∈ TT := tc7 (List.mem_of_getElem? (i := 53) rfl) rfl
theorem tw7_54 : (Jvm.Cond.methodLink "ThrowArmsLaw" (62 : Nat) ({ cls := "ThrowArmsModel", name := "value", desc := "()I" } : Jvm.MethodName)) ∈ TT := tc7 (List.mem_of_getElem? (i := 54) rfl) rfl
theorem tw7_55 : (Jvm.Cond.instanceMethod ({ cls := "ThrowArmsModel", name := "value", desc := "()I" } : Jvm.MethodName)) ∈ TT := tc7 (List.mem_of_getElem? (i := 55) rfl) rfl
theorem tw7_56 : (Jvm.Cond.selects "ThrowArmsModel" ({ cls := "ThrowArmsModel", name := "value", desc := "()I" } : Jvm.MethodName) ({ cls := "ThrowArmsModel", name := "value", desc := "()I" } : Jvm.MethodName)) ∈ TT := tc7 (List.mem_of_getElem? (i := 56) rfl) rfl
theorem tw7_57 : (Jvm.Cond.code ({ cls := "ThrowArmsModel", name := "value", desc := "()I" } : Jvm.MethodName) prog_13_method_54_code (3 : Nat) (Option.some Jvm.ClassFile.FieldType.int)) ∈ TT := tc7 (List.mem_of_getElem? (i := 57) rfl) rfl
theorem tw7_58 : (Jvm.Cond.methodLink "ThrowArmsLaw" (66 : Nat) ({ cls := "ThrowArmsModel", name := "points", desc := "(II)I" } : Jvm.MethodName)) ∈ TT := tc7 (List.mem_of_getElem? (i := 58) rfl) rfl
theorem tw7_59 : (Jvm.Cond.instanceMethod ({ cls := "ThrowArmsModel", name := "points", desc := "(II)I" } : Jvm.MethodName)) ∈ TT := tc7 (List.mem_of_getElem? (i := 59) rfl) rfl
theorem tw7_60 : (Jvm.Cond.selects "ThrowArmsModel" ({ cls := "ThrowArmsModel", name := "points", desc := "(II)I" } : Jvm.MethodName) ({ cls := "ThrowArmsModel", name := "points", desc := "(II)I" } : Jvm.MethodName)) ∈ TT := tc7 (List.mem_of_getElem? (i := 60) rfl) rfl
theorem tw7_61 : (Jvm.Cond.code ({ cls := "ThrowArmsModel", name := "points", desc := "(II)I" } : Jvm.MethodName) prog_13_method_55_code (3 : Nat) (Option.some Jvm.ClassFile.FieldType.int)) ∈ TT := tc7 (List.mem_of_getElem? (i := 61) rfl) rfl
theorem tw7_62 : (Jvm.Cond.methodLink "ThrowArmsLaw" (70 : Nat) ({ cls := "ThrowArmsModel", name := "worth", desc := "(III)I" } : Jvm.MethodName)) ∈ TT := tc7 (List.mem_of_getElem? (i := 62) rfl) rfl
theorem tw7_63 : (Jvm.Cond.instanceMethod ({ cls := "ThrowArmsModel", name := "worth", desc := "(III)I" } : Jvm.MethodName)) ∈ TT := tc7 (List.mem_of_getElem? (i := 63) rfl) rfl
theorem tw7_64 : (Jvm.Cond.selects "ThrowArmsModel" ({ cls := "ThrowArmsModel", name := "worth", desc := "(III)I" } : Jvm.MethodName) ({ cls := "ThrowArmsModel", name := "worth", desc := "(III)I" } : Jvm.MethodName)) ∈ TT := tc7 (List.mem_of_getElem? (i := 64) rfl) rfl
theorem tw7_65 : (Jvm.Cond.code ({ cls := "ThrowArmsModel", name := "worth", desc := "(III)I" } : Jvm.MethodName) prog_13_method_56_code (4 : Nat) (Option.some Jvm.ClassFile.FieldType.int)) ∈ TT := tc7 (List.mem_of_getElem? (i := 65) rfl) rfl
theorem tw7_66 : (Jvm.Cond.methodLink "ThrowArmsLaw" (74 : Nat) ({ cls := "ThrowArmsModel", name := "most", desc := "(II)I" } : Jvm.MethodName)) ∈ TT := tc7 (List.mem_of_getElem? (i := 66) rfl) rfl
theorem tw7_67 : (Jvm.Cond.instanceMethod ({ cls := "ThrowArmsModel", name := "most", desc := "(II)I" } : Jvm.MethodName)) ∈ TT := tc7 (List.mem_of_getElem? (i := 67) rfl) rfl
theorem tw7_68 : (Jvm.Cond.selects "ThrowArmsModel" ({ cls := "ThrowArmsModel", name := "most", desc := "(II)I" } : Jvm.MethodName) ({ cls := "ThrowArmsModel", name := "most", desc := "(II)I" } : Jvm.MethodName)) ∈ TT := tc7 (List.mem_of_getElem? (i := 68) rfl) rfl
theorem tw7_69 : (Jvm.Cond.code ({ cls := "ThrowArmsModel", name := "most", desc := "(II)I" } : Jvm.MethodName) prog_13_method_57_code (3 : Nat) (Option.some Jvm.ClassFile.FieldType.int)) ∈ TT := tc7 (List.mem_of_getElem? (i := 69) rfl) rfl
theorem tw7_70 : (Jvm.Cond.methodLink "ThrowArmsModel" (252 : Nat) ({ cls := "ThrowArmsModel", name := "mostOf", desc := "(II)I" } : Jvm.MethodName)) ∈ TT := tc7 (List.mem_of_getElem? (i := 70) rfl) rfl
theorem tw7_72 : (Jvm.Cond.instanceMethod ({ cls := "ThrowArmsModel", name := "mostOf", desc := "(II)I" } : Jvm.MethodName)) ∈ TT := tc7 (List.mem_of_getElem? (i := 72) rfl) rfl
theorem tw7_73 : (Jvm.Cond.code ({ cls := "ThrowArmsModel", name := "mostOf", desc := "(II)I" } : Jvm.MethodName) prog_13_method_51_code (3 : Nat) (Option.some Jvm.ClassFile.FieldType.int)) ∈ TT := tc7 (List.mem_of_getElem? (i := 73) rfl) rfl
theorem tw7_74 : (Jvm.Cond.methodLink "ThrowArmsModel" (242 : Nat) ({ cls := "ThrowArmsModel", name := "isIn", desc := "(II)Z" } : Jvm.MethodName)) ∈ TT := tc7 (List.mem_of_getElem? (i := 74) rfl) rfl
theorem tw7_76 : (Jvm.Cond.instanceMethod ({ cls := "ThrowArmsModel", name := "isIn", desc := "(II)Z" } : Jvm.MethodName)) ∈ TT := tc7 (List.mem_of_getElem? (i := 76) rfl) rfl
theorem tw7_77 : (Jvm.Cond.code ({ cls := "ThrowArmsModel", name := "isIn", desc := "(II)Z" } : Jvm.MethodName) prog_13_method_41_code (5 : Nat) (Option.some Jvm.ClassFile.FieldType.boolean)) ∈ TT := tc7 (List.mem_of_getElem? (i := 77) rfl) rfl
theorem tw7_78 : (Jvm.Cond.methodLink "ThrowArmsModel" (246 : Nat) ({ cls := "ThrowArmsModel", name := "mostUpTo", desc := "(III)I" } : Jvm.MethodName)) ∈ TT := tc7 (List.mem_of_getElem? (i := 78) rfl) rfl
theorem tw7_80 : (Jvm.Cond.instanceMethod ({ cls := "ThrowArmsModel", name := "mostUpTo", desc := "(III)I" } : Jvm.MethodName)) ∈ TT := tc7 (List.mem_of_getElem? (i := 80) rfl) rfl
theorem tw7_81 : (Jvm.Cond.code ({ cls := "ThrowArmsModel", name := "mostUpTo", desc := "(III)I" } : Jvm.MethodName) prog_13_method_50_code (5 : Nat) (Option.some Jvm.ClassFile.FieldType.int)) ∈ TT := tc7 (List.mem_of_getElem? (i := 81) rfl) rfl
theorem tw7_82 : (Jvm.Cond.methodLink "ThrowArmsModel" (236 : Nat) ({ cls := "ThrowArmsModel", name := "lesse\x72", desc := "(II)I" } : Jvm.MethodName)) ∈ TT := tc7 (List.mem_of_getElem? (i := 82) rfl) rfl
theorem tw7_83 : (Jvm.Cond.static ({ cls := "ThrowArmsModel", name := "lesse\x72", desc := "(II)I" } : Jvm.MethodName)) ∈ TT := tc7 (List.mem_of_getElem? (i := 83) rfl) rfl
theorem tw7_84 : (Jvm.Cond.code ({ cls := "ThrowArmsModel", name := "lesse\x72", desc := "(II)I" } : Jvm.MethodName) prog_13_method_4_code (2 : Nat) (Option.some Jvm.ClassFile.FieldType.int)) ∈ TT := tc7 (List.mem_of_getElem? (i := 84) rfl) rfl
theorem tw7_85 : (Jvm.Cond.methodLink "ThrowArmsLaw" (78 : Nat) ({ cls := "ThrowArmsModel", name := "when", desc := "(III)I" } : Jvm.MethodName)) ∈ TT := tc7 (List.mem_of_getElem? (i := 85) rfl) rfl
theorem tw7_86 : (Jvm.Cond.instanceMethod ({ cls := "ThrowArmsModel", name := "when", desc := "(III)I" } : Jvm.MethodName)) ∈ TT := tc7 (List.mem_of_getElem? (i := 86) rfl) rfl
theorem tw7_87 : (Jvm.Cond.selects "ThrowArmsModel" ({ cls := "ThrowArmsModel", name := "when", desc := "(III)I" } : Jvm.MethodName) ({ cls := "ThrowArmsModel", name := "when", desc := "(III)I" } : Jvm.MethodName)) ∈ TT := tc7 (List.mem_of_getElem? (i := 87) rfl) rfl
theorem tw7_88 : (Jvm.Cond.code ({ cls := "ThrowArmsModel", name := "when", desc := "(III)I" } : Jvm.MethodName) prog_13_method_58_code (5 : Nat) (Option.some Jvm.ClassFile.FieldType.int)) ∈ TT := tc7 (List.mem_of_getElem? (i := 88) rfl) rfl
theorem tw7_89 : (Jvm.Cond.methodLink "ThrowArmsLaw" (90 : Nat) ({ cls := "ThrowArmsModel", name := "clash", desc := "(III)I" } : Jvm.MethodName)) ∈ TT := tc7 (List.mem_of_getElem? (i := 89) rfl) rfl
theorem tw7_90 : (Jvm.Cond.instanceMethod ({ cls := "ThrowArmsModel", name := "clash", desc := "(III)I" } : Jvm.MethodName)) ∈ TT := tc7 (List.mem_of_getElem? (i := 90) rfl) rfl
theorem tw7_91 : (Jvm.Cond.selects "ThrowArmsModel" ({ cls := "ThrowArmsModel", name := "clash", desc := "(III)I" } : Jvm.MethodName) ({ cls := "ThrowArmsModel", name := "clash", desc := "(III)I" } : Jvm.MethodName)) ∈ TT := tc7 (List.mem_of_getElem? (i := 91) rfl) rfl
theorem tw7_92 : (Jvm.Cond.code ({ cls := "ThrowArmsModel", name := "clash", desc := "(III)I" } : Jvm.MethodName) prog_13_method_60_code (7 : Nat) (Option.some Jvm.ClassFile.FieldType.int)) ∈ TT := tc7 (List.mem_of_getElem? (i := 92) rfl) rfl
theorem tw7_93 : (Jvm.Cond.methodLink "ThrowArmsLaw" (82 : Nat) ({ cls := "ThrowArmsModel", name := "ranked", desc := "(II)I" } : Jvm.MethodName)) ∈ TT := tc7 (List.mem_of_getElem? (i := 93) rfl) rfl
theorem tw7_94 : (Jvm.Cond.instanceMethod ({ cls := "ThrowArmsModel", name := "ranked", desc := "(II)I" } : Jvm.MethodName)) ∈ TT := tc7 (List.mem_of_getElem? (i := 94) rfl) rfl
theorem tw7_95 : (Jvm.Cond.selects "ThrowArmsModel" ({ cls := "ThrowArmsModel", name := "ranked", desc := "(II)I" } : Jvm.MethodName) ({ cls := "ThrowArmsModel", name := "ranked", desc := "(II)I" } : Jvm.MethodName)) ∈ TT := tc7 (List.mem_of_getElem? (i := 95) rfl) rfl
theorem tw7_96 : (Jvm.Cond.code ({ cls := "ThrowArmsModel", name := "ranked", desc := "(II)I" } : Jvm.MethodName) prog_13_method_61_code (8 : Nat) (Option.some Jvm.ClassFile.FieldType.int)) ∈ TT := tc7 (List.mem_of_getElem? (i := 96) rfl) rfl
theorem tw7_97 : (Jvm.Cond.methodLink "ThrowArmsModel" (255 : Nat) ({ cls := "ThrowArmsModel", name := "fullOf", desc := "(II)I" } : Jvm.MethodName)) ∈ TT := tc7 (List.mem_of_getElem? (i := 97) rfl) rfl
theorem tw7_99 : (Jvm.Cond.instanceMethod ({ cls := "ThrowArmsModel", name := "fullOf", desc := "(II)I" } : Jvm.MethodName)) ∈ TT := tc7 (List.mem_of_getElem? (i := 99) rfl) rfl
theorem tw7_100 : (Jvm.Cond.code ({ cls := "ThrowArmsModel", name := "fullOf", desc := "(II)I" } : Jvm.MethodName) prog_13_method_59_code (3 : Nat) (Option.some Jvm.ClassFile.FieldType.int)) ∈ TT := tc7 (List.mem_of_getElem? (i := 100) rfl) rfl
theorem tw7_101 : (Jvm.Cond.methodLink "ThrowArmsLaw" (86 : Nat) ({ cls := "ThrowArmsModel", name := "extra", desc := "(I)I" } : Jvm.MethodName)) ∈ TT := tc7 (List.mem_of_getElem? (i := 101) rfl) rfl
theorem tw7_102 : (Jvm.Cond.instanceMethod ({ cls := "ThrowArmsModel", name := "extra", desc := "(I)I" } : Jvm.MethodName)) ∈ TT := tc7 (List.mem_of_getElem? (i := 102) rfl) rfl
theorem tw7_103 : (Jvm.Cond.selects "ThrowArmsModel" ({ cls := "ThrowArmsModel", name := "extra", desc := "(I)I" } : Jvm.MethodName) ({ cls := "ThrowArmsModel", name := "extra", desc := "(I)I" } : Jvm.MethodName)) ∈ TT := tc7 (List.mem_of_getElem? (i := 103) rfl) rfl
theorem tw7_104 : (Jvm.Cond.code ({ cls := "ThrowArmsModel", name := "extra", desc := "(I)I" } : Jvm.MethodName) prog_13_method_62_code (4 : Nat) (Option.some Jvm.ClassFile.FieldType.int)) ∈ TT := tc7 (List.mem_of_getElem? (i := 104) rfl) rfl
theorem tw7_105 : (Jvm.Cond.methodLink "ThrowArmsLaw" (94 : Nat) ({ cls := "ThrowArmsModel", name := "best", desc := "(II)I" } : Jvm.MethodName)) ∈ TT := tc7 (List.mem_of_getElem? (i := 105) rfl) rfl
theorem tw7_106 : (Jvm.Cond.instanceMethod ({ cls := "ThrowArmsModel", name := "best", desc := "(II)I" } : Jvm.MethodName)) ∈ TT := tc7 (List.mem_of_getElem? (i := 106) rfl) rfl
theorem tw7_107 : (Jvm.Cond.selects "ThrowArmsModel" ({ cls := "ThrowArmsModel", name := "best", desc := "(II)I" } : Jvm.MethodName) ({ cls := "ThrowArmsModel", name := "best", desc := "(II)I" } : Jvm.MethodName)) ∈ TT := tc7 (List.mem_of_getElem? (i := 107) rfl) rfl
theorem tw7_108 : (Jvm.Cond.code ({ cls := "ThrowArmsModel", name := "best", desc := "(II)I" } : Jvm.MethodName) prog_13_method_68_code (3 : Nat) (Option.some Jvm.ClassFile.FieldType.int)) ∈ TT := tc7 (List.mem_of_getElem? (i := 108) rfl) rfl
theorem tw7_109 : (Jvm.Cond.methodLink "ThrowArmsModel" (267 : Nat) ({ cls := "ThrowArmsModel", name := "whyNotBest", desc := "(II)I" } : Jvm.MethodName)) ∈ TT := tc7 (List.mem_of_getElem? (i := 109) rfl) rfl
theorem tw7_111 : (Jvm.Cond.instanceMethod ({ cls := "ThrowArmsModel", name := "whyNotBest", desc := "(II)I" } : Jvm.MethodName)) ∈ TT := tc7 (List.mem_of_getElem? (i := 111) rfl) rfl
theorem tw7_112 : (Jvm.Cond.code ({ cls := "ThrowArmsModel", name := "whyNotBest", desc := "(II)I" } : Jvm.MethodName) prog_13_method_67_code (3 : Nat) (Option.some Jvm.ClassFile.FieldType.int)) ∈ TT := tc7 (List.mem_of_getElem? (i := 112) rfl) rfl
theorem tw7_113 : (Jvm.Cond.methodLink "ThrowArmsModel" (270 : Nat) ({ cls := "ThrowArmsModel", name := "laysBest", desc := "(II)I" } : Jvm.MethodName)) ∈ TT := tc7 (List.mem_of_getElem? (i := 113) rfl) rfl
theorem tw7_115 : (Jvm.Cond.instanceMethod ({ cls := "ThrowArmsModel", name := "laysBest", desc := "(II)I" } : Jvm.MethodName)) ∈ TT := tc7 (List.mem_of_getElem? (i := 115) rfl) rfl
theorem tw7_116 : (Jvm.Cond.code ({ cls := "ThrowArmsModel", name := "laysBest", desc := "(II)I" } : Jvm.MethodName) prog_13_method_66_code (6 : Nat) (Option.some Jvm.ClassFile.FieldType.int)) ∈ TT := tc7 (List.mem_of_getElem? (i := 116) rfl) rfl
theorem tw7_117 : (Jvm.Cond.methodLink "ThrowArmsModel" (258 : Nat) ({ cls := "ThrowArmsModel", name := "rowWorth", desc := "(II)I" } : Jvm.MethodName)) ∈ TT := tc7 (List.mem_of_getElem? (i := 117) rfl) rfl
theorem tw7_119 : (Jvm.Cond.instanceMethod ({ cls := "ThrowArmsModel", name := "rowWorth", desc := "(II)I" } : Jvm.MethodName)) ∈ TT := tc7 (List.mem_of_getElem? (i := 119) rfl) rfl
theorem tw7_120 : (Jvm.Cond.code ({ cls := "ThrowArmsModel", name := "rowWorth", desc := "(II)I" } : Jvm.MethodName) prog_13_method_64_code (5 : Nat) (Option.some Jvm.ClassFile.FieldType.int)) ∈ TT := tc7 (List.mem_of_getElem? (i := 120) rfl) rfl
theorem tw7_121 : (Jvm.Cond.methodLink "ThrowArmsModel" (261 : Nat) ({ cls := "ThrowArmsModel", name := "isRowAllowed", desc := "(II)Z" } : Jvm.MethodName)) ∈ TT := tc7 (List.mem_of_getElem? (i := 121) rfl) rfl
theorem tw7_123 : (Jvm.Cond.instanceMethod ({ cls := "ThrowArmsModel", name := "isRowAllowed", desc := "(II)Z" } : Jvm.MethodName)) ∈ TT := tc7 (List.mem_of_getElem? (i := 123) rfl) rfl
theorem tw7_124 : (Jvm.Cond.code ({ cls := "ThrowArmsModel", name := "isRowAllowed", desc := "(II)Z" } : Jvm.MethodName) prog_13_method_63_code (6 : Nat) (Option.some Jvm.ClassFile.FieldType.boolean)) ∈ TT := tc7 (List.mem_of_getElem? (i := 124) rfl) rfl
theorem tw7_125 : (Jvm.Cond.methodLink "ThrowArmsModel" (264 : Nat) ({ cls := "ThrowArmsModel", name := "nextRow", desc := "(I)Z" } : Jvm.MethodName)) ∈ TT := tc7 (List.mem_of_getElem? (i := 125) rfl) rfl
theorem tw7_127 : (Jvm.Cond.instanceMethod ({ cls := "ThrowArmsModel", name := "nextRow", desc := "(I)Z" } : Jvm.MethodName)) ∈ TT := tc7 (List.mem_of_getElem? (i := 127) rfl) rfl
theorem tw7_128 : (Jvm.Cond.code ({ cls := "ThrowArmsModel", name := "nextRow", desc := "(I)Z" } : Jvm.MethodName) prog_13_method_65_code (3 : Nat) (Option.some Jvm.ClassFile.FieldType.boolean)) ∈ TT := tc7 (List.mem_of_getElem? (i := 128) rfl) rfl
theorem tw7_129 : (Jvm.Cond.methodLink "ThrowArmsLaw" (98 : Nat) ({ cls := "ThrowArmsModel", name := "bestOf", desc := "(III)I" } : Jvm.MethodName)) ∈ TT := tc7 (List.mem_of_getElem? (i := 129) rfl) rfl
theorem tw7_130 : (Jvm.Cond.instanceMethod ({ cls := "ThrowArmsModel", name := "bestOf", desc := "(III)I" } : Jvm.MethodName)) ∈ TT := tc7 (List.mem_of_getElem? (i := 130) rfl) rfl
theorem tw7_131 : (Jvm.Cond.selects "ThrowArmsModel" ({ cls := "ThrowArmsModel", name := "bestOf", desc := "(III)I" } : Jvm.MethodName) ({ cls := "ThrowArmsModel", name := "bestOf", desc := "(III)I" } : Jvm.MethodName)) ∈ TT := tc7 (List.mem_of_getElem? (i := 131) rfl) rfl
theorem tw7_132 : (Jvm.Cond.code ({ cls := "ThrowArmsModel", name := "bestOf", desc := "(III)I" } : Jvm.MethodName) prog_13_method_69_code (5 : Nat) (Option.some Jvm.ClassFile.FieldType.int)) ∈ TT := tc7 (List.mem_of_getElem? (i := 132) rfl) rfl
theorem tw7_133 : (Jvm.Cond.methodLink "ThrowArmsLaw" (102 : Nat) ({ cls := "ThrowArmsModel", name := "pai\x72", desc := "(III)I" } : Jvm.MethodName)) ∈ TT := tc7 (List.mem_of_getElem? (i := 133) rfl) rfl
theorem tw7_134 : (Jvm.Cond.instanceMethod ({ cls := "ThrowArmsModel", name := "pai\x72", desc := "(III)I" } : Jvm.MethodName)) ∈ TT := tc7 (List.mem_of_getElem? (i := 134) rfl) rfl
theorem tw7_135 : (Jvm.Cond.selects "ThrowArmsModel" ({ cls := "ThrowArmsModel", name := "pai\x72", desc := "(III)I" } : Jvm.MethodName) ({ cls := "ThrowArmsModel", name := "pai\x72", desc := "(III)I" } : Jvm.MethodName)) ∈ TT := tc7 (List.mem_of_getElem? (i := 135) rfl) rfl
theorem tw7_136 : (Jvm.Cond.code ({ cls := "ThrowArmsModel", name := "pai\x72", desc := "(III)I" } : Jvm.MethodName) prog_13_method_71_code (12 : Nat) (Option.some Jvm.ClassFile.FieldType.int)) ∈ TT := tc7 (List.mem_of_getElem? (i := 136) rfl) rfl
theorem tw7_137 : (Jvm.Cond.methodLink "ThrowArmsModel" (273 : Nat) ({ cls := "ThrowArmsModel", name := "isAloneAllowed", desc := "(III)Z" } : Jvm.MethodName)) ∈ TT := tc7 (List.mem_of_getElem? (i := 137) rfl) rfl
theorem tw7_139 : (Jvm.Cond.instanceMethod ({ cls := "ThrowArmsModel", name := "isAloneAllowed", desc := "(III)Z" } : Jvm.MethodName)) ∈ TT := tc7 (List.mem_of_getElem? (i := 139) rfl) rfl
theorem tw7_140 : (Jvm.Cond.code ({ cls := "ThrowArmsModel", name := "isAloneAllowed", desc := "(III)Z" } : Jvm.MethodName) prog_13_method_70_code (4 : Nat) (Option.some Jvm.ClassFile.FieldType.boolean)) ∈ TT := tc7 (List.mem_of_getElem? (i := 140) rfl) rfl
theorem tw7_141 : (Jvm.Cond.methodLink "ThrowArmsLaw" (106 : Nat) ({ cls := "ThrowArmsModel", name := "breaches", desc := "()I" } : Jvm.MethodName)) ∈ TT := tc7 (List.mem_of_getElem? (i := 141) rfl) rfl
theorem tw7_142 : (Jvm.Cond.instanceMethod ({ cls := "ThrowArmsModel", name := "breaches", desc := "()I" } : Jvm.MethodName)) ∈ TT := tc7 (List.mem_of_getElem? (i := 142) rfl) rfl
theorem tw7_143 : (Jvm.Cond.selects "ThrowArmsModel" ({ cls := "ThrowArmsModel", name := "breaches", desc := "()I" } : Jvm.MethodName) ({ cls := "ThrowArmsModel", name := "breaches", desc := "()I" } : Jvm.MethodName)) ∈ TT := tc7 (List.mem_of_getElem? (i := 143) rfl) rfl
theorem tw7_144 : (Jvm.Cond.code ({ cls := "ThrowArmsModel", name := "breaches", desc := "()I" } : Jvm.MethodName) prog_13_method_73_code (2 : Nat) (Option.some Jvm.ClassFile.FieldType.int)) ∈ TT := tc7 (List.mem_of_getElem? (i := 144) rfl) rfl
theorem tw7_145 : (Jvm.Cond.methodLink "ThrowArmsModel" (276 : Nat) ({ cls := "ThrowArmsModel", name := "breachAt", desc := "(I)I" } : Jvm.MethodName)) ∈ TT := tc7 (List.mem_of_getElem? (i := 145) rfl) rfl
theorem tw7_147 : (Jvm.Cond.instanceMethod ({ cls := "ThrowArmsModel", name := "breachAt", desc := "(I)I" } : Jvm.MethodName)) ∈ TT := tc7 (List.mem_of_getElem? (i := 147) rfl) rfl
theorem tw7_148 : (Jvm.Cond.code ({ cls := "ThrowArmsModel", name := "breachAt", desc := "(I)I" } : Jvm.MethodName) prog_13_method_72_code (5 : Nat) (Option.some Jvm.ClassFile.FieldType.int)) ∈ TT := tc7 (List.mem_of_getElem? (i := 148) rfl) rfl
theorem tw7_149 : (Jvm.Cond.methodLink "ThrowArmsLaw" (110 : Nat) ({ cls := "ThrowArmsModel", name := "breach", desc := "(I)I" } : Jvm.MethodName)) ∈ TT := tc7 (List.mem_of_getElem? (i := 149) rfl) rfl
theorem tw7_150 : (Jvm.Cond.instanceMethod ({ cls := "ThrowArmsModel", name := "breach", desc := "(I)I" } : Jvm.MethodName)) ∈ TT := tc7 (List.mem_of_getElem? (i := 150) rfl) rfl
theorem tw7_151 : (Jvm.Cond.selects "ThrowArmsModel" ({ cls := "ThrowArmsModel", name := "breach", desc := "(I)I" } : Jvm.MethodName) ({ cls := "ThrowArmsModel", name := "breach", desc := "(I)I" } : Jvm.MethodName)) ∈ TT := tc7 (List.mem_of_getElem? (i := 151) rfl) rfl
theorem tw7_152 : (Jvm.Cond.code ({ cls := "ThrowArmsModel", name := "breach", desc := "(I)I" } : Jvm.MethodName) prog_13_method_74_code (2 : Nat) (Option.some Jvm.ClassFile.FieldType.int)) ∈ TT := tc7 (List.mem_of_getElem? (i := 152) rfl) rfl
theorem tw7_153 : (Jvm.Cond.methodLink "ThrowArmsLaw" (114 : Nat) ({ cls := "ThrowArmsModel", name := "work", desc := "(II)I" } : Jvm.MethodName)) ∈ TT := tc7 (List.mem_of_getElem? (i := 153) rfl) rfl
theorem tw7_154 : (Jvm.Cond.instanceMethod ({ cls := "ThrowArmsModel", name := "work", desc := "(II)I" } : Jvm.MethodName)) ∈ TT := tc7 (List.mem_of_getElem? (i := 154) rfl) rfl
theorem tw7_155 : (Jvm.Cond.selects "ThrowArmsModel" ({ cls := "ThrowArmsModel", name := "work", desc := "(II)I" } : Jvm.MethodName) ({ cls := "ThrowArmsModel", name := "work", desc := "(II)I" } : Jvm.MethodName)) ∈ TT := tc7 (List.mem_of_getElem? (i := 155) rfl) rfl
theorem tw7_156 : (Jvm.Cond.code ({ cls := "ThrowArmsModel", name := "work", desc := "(II)I" } : Jvm.MethodName) prog_13_method_75_code (3 : Nat) (Option.some Jvm.ClassFile.FieldType.int)) ∈ TT := tc7 (List.mem_of_getElem? (i := 156) rfl) rfl
theorem tw7_157 : (Jvm.Cond.methodLink "ThrowArmsLaw" (118 : Nat) ({ cls := "ThrowArmsModel", name := "busiest", desc := "(II)I" } : Jvm.MethodName)) ∈ TT := tc7 (List.mem_of_getElem? (i := 157) rfl) rfl
theorem tw7_158 : (Jvm.Cond.instanceMethod ({ cls := "ThrowArmsModel", name := "busiest", desc := "(II)I" } : Jvm.MethodName)) ∈ TT := tc7 (List.mem_of_getElem? (i := 158) rfl) rfl
theorem tw7_159 : (Jvm.Cond.selects "ThrowArmsModel" ({ cls := "ThrowArmsModel", name := "busiest", desc := "(II)I" } : Jvm.MethodName) ({ cls := "ThrowArmsModel", name := "busiest", desc := "(II)I" } : Jvm.MethodName)) ∈ TT := tc7 (List.mem_of_getElem? (i := 159) rfl) rfl
theorem tw7_160 : (Jvm.Cond.code ({ cls := "ThrowArmsModel", name := "busiest", desc := "(II)I" } : Jvm.MethodName) prog_13_method_76_code (5 : Nat) (Option.some Jvm.ClassFile.FieldType.int)) ∈ TT := tc7 (List.mem_of_getElem? (i := 160) rfl) rfl
theorem tw7_161 : (Jvm.Cond.methodLink "ThrowArmsLaw" (122 : Nat) ({ cls := "ThrowArmsModel", name := "idle", desc := "(I)I" } : Jvm.MethodName)) ∈ TT := tc7 (List.mem_of_getElem? (i := 161) rfl) rfl
theorem tw7_162 : (Jvm.Cond.instanceMethod ({ cls := "ThrowArmsModel", name := "idle", desc := "(I)I" } : Jvm.MethodName)) ∈ TT := tc7 (List.mem_of_getElem? (i := 162) rfl) rfl
theorem tw7_163 : (Jvm.Cond.selects "ThrowArmsModel" ({ cls := "ThrowArmsModel", name := "idle", desc := "(I)I" } : Jvm.MethodName) ({ cls := "ThrowArmsModel", name := "idle", desc := "(I)I" } : Jvm.MethodName)) ∈ TT := tc7 (List.mem_of_getElem? (i := 163) rfl) rfl
theorem tw7_164 : (Jvm.Cond.code ({ cls := "ThrowArmsModel", name := "idle", desc := "(I)I" } : Jvm.MethodName) prog_13_method_77_code (5 : Nat) (Option.some Jvm.ClassFile.FieldType.int)) ∈ TT := tc7 (List.mem_of_getElem? (i := 164) rfl) rfl
theorem tw7_165 : (Jvm.Cond.methodLink "ThrowArmsLaw" (126 : Nat) ({ cls := "ThrowArmsModel", name := "gap", desc := "(I)I" } : Jvm.MethodName)) ∈ TT := tc7 (List.mem_of_getElem? (i := 165) rfl) rfl
theorem tw7_166 : (Jvm.Cond.instanceMethod ({ cls := "ThrowArmsModel", name := "gap", desc := "(I)I" } : Jvm.MethodName)) ∈ TT := tc7 (List.mem_of_getElem? (i := 166) rfl) rfl
theorem tw7_167 : (Jvm.Cond.selects "ThrowArmsModel" ({ cls := "ThrowArmsModel", name := "gap", desc := "(I)I" } : Jvm.MethodName) ({ cls := "ThrowArmsModel", name := "gap", desc := "(I)I" } : Jvm.MethodName)) ∈ TT := tc7 (List.mem_of_getElem? (i := 167) rfl) rfl
theorem tw7_168 : (Jvm.Cond.code ({ cls := "ThrowArmsModel", name := "gap", desc := "(I)I" } : Jvm.MethodName) prog_13_method_78_code (6 : Nat) (Option.some Jvm.ClassFile.FieldType.int)) ∈ TT := tc7 (List.mem_of_getElem? (i := 168) rfl) rfl
theorem tw7_169 : (Jvm.Cond.methodLink "ThrowArmsLaw" (131 : Nat) ({ cls := "ThrowArmsModel", name := "hands", desc := "(IZ)I" } : Jvm.MethodName)) ∈ TT := tc7 (List.mem_of_getElem? (i := 169) rfl) rfl
theorem tw7_170 : (Jvm.Cond.instanceMethod ({ cls := "ThrowArmsModel", name := "hands", desc := "(IZ)I" } : Jvm.MethodName)) ∈ TT := tc7 (List.mem_of_getElem? (i := 170) rfl) rfl
theorem tw7_171 : (Jvm.Cond.selects "ThrowArmsModel" ({ cls := "ThrowArmsModel", name := "hands", desc := "(IZ)I" } : Jvm.MethodName) ({ cls := "ThrowArmsModel", name := "hands", desc := "(IZ)I" } : Jvm.MethodName)) ∈ TT := tc7 (List.mem_of_getElem? (i := 171) rfl) rfl
theorem tw7_172 : (Jvm.Cond.code ({ cls := "ThrowArmsModel", name := "hands", desc := "(IZ)I" } : Jvm.MethodName) prog_13_method_79_code (5 : Nat) (Option.some Jvm.ClassFile.FieldType.int)) ∈ TT := tc7 (List.mem_of_getElem? (i := 172) rfl) rfl
theorem tw7_173 : (Jvm.Cond.methodLink "ThrowArmsLaw" (135 : Nat) ({ cls := "ThrowArmsModel", name := "bare", desc := "(I)I" } : Jvm.MethodName)) ∈ TT := tc7 (List.mem_of_getElem? (i := 173) rfl) rfl
theorem tw7_174 : (Jvm.Cond.instanceMethod ({ cls := "ThrowArmsModel", name := "bare", desc := "(I)I" } : Jvm.MethodName)) ∈ TT := tc7 (List.mem_of_getElem? (i := 174) rfl) rfl
theorem tw7_175 : (Jvm.Cond.selects "ThrowArmsModel" ({ cls := "ThrowArmsModel", name := "bare", desc := "(I)I" } : Jvm.MethodName) ({ cls := "ThrowArmsModel", name := "bare", desc := "(I)I" } : Jvm.MethodName)) ∈ TT := tc7 (List.mem_of_getElem? (i := 175) rfl) rfl
theorem tw7_176 : (Jvm.Cond.code ({ cls := "ThrowArmsModel", name := "bare", desc := "(I)I" } : Jvm.MethodName) prog_13_method_80_code (4 : Nat) (Option.some Jvm.ClassFile.FieldType.int)) ∈ TT := tc7 (List.mem_of_getElem? (i := 176) rfl) rfl
theorem tw7_177 : (Jvm.Cond.methodLink "ThrowArmsLaw" (144 : Nat) ({ cls := "ThrowArmsModel", name := "sound", desc := "(II)J" } : Jvm.MethodName)) ∈ TT := tc7 (List.mem_of_getElem? (i := 177) rfl) rfl
theorem tw7_178 : (Jvm.Cond.instanceMethod ({ cls := "ThrowArmsModel", name := "sound", desc := "(II)J" } : Jvm.MethodName)) ∈ TT := tc7 (List.mem_of_getElem? (i := 178) rfl) rfl
theorem tw7_179 : (Jvm.Cond.selects "ThrowArmsModel" ({ cls := "ThrowArmsModel", name := "sound", desc := "(II)J" } : Jvm.MethodName) ({ cls := "ThrowArmsModel", name := "sound", desc := "(II)J" } : Jvm.MethodName)) ∈ TT := tc7 (List.mem_of_getElem? (i := 179) rfl) rfl
theorem tw7_180 : (Jvm.Cond.code ({ cls := "ThrowArmsModel", name := "sound", desc := "(II)J" } : Jvm.MethodName) prog_13_method_82_code (11 : Nat) (Option.some Jvm.ClassFile.FieldType.long)) ∈ TT := tc7 (List.mem_of_getElem? (i := 180) rfl) rfl
theorem tw7_181 : (Jvm.Cond.constantLong "ThrowArmsModel" (279 : Nat) (-1 : Int64)) ∈ TT := tc7 (List.mem_of_getElem? (i := 181) rfl) rfl
theorem tw7_182 : (Jvm.Cond.constantLong "ThrowArmsModel" (281 : Nat) (1000 : Int64)) ∈ TT := tc7 (List.mem_of_getElem? (i := 182) rfl) rfl
theorem tw7_183 : (Jvm.Cond.methodLink "ThrowArmsModel" (283 : Nat) ({ cls := "ThrowArmsModel", name := "common", desc := "(JJ)J" } : Jvm.MethodName)) ∈ TT := tc7 (List.mem_of_getElem? (i := 183) rfl) rfl
theorem tw7_184 : (Jvm.Cond.static ({ cls := "ThrowArmsModel", name := "common", desc := "(JJ)J" } : Jvm.MethodName)) ∈ TT := tc7 (List.mem_of_getElem? (i := 184) rfl) rfl
theorem tw7_185 : (Jvm.Cond.code ({ cls := "ThrowArmsModel", name := "common", desc := "(JJ)J" } : Jvm.MethodName) prog_13_method_81_code (10 : Nat) (Option.some Jvm.ClassFile.FieldType.long)) ∈ TT := tc7 (List.mem_of_getElem? (i := 185) rfl) rfl
theorem tw7_186 : (Jvm.Cond.methodLink "ThrowArmsLaw" (139 : Nat) ({ cls := "ThrowArmsModel", name := "risk", desc := "(I)I" } : Jvm.MethodName)) ∈ TT := tc7 (List.mem_of_getElem? (i := 186) rfl) rfl
theorem tw7_187 : (Jvm.Cond.instanceMethod ({ cls := "ThrowArmsModel", name := "risk", desc := "(I)I" } : Jvm.MethodName)) ∈ TT := tc7 (List.mem_of_getElem? (i := 187) rfl) rfl
theorem tw7_188 : (Jvm.Cond.selects "ThrowArmsModel" ({ cls := "ThrowArmsModel", name := "risk", desc := "(I)I" } : Jvm.MethodName) ({ cls := "ThrowArmsModel", name := "risk", desc := "(I)I" } : Jvm.MethodName)) ∈ TT := tc7 (List.mem_of_getElem? (i := 188) rfl) rfl
theorem tw7_189 : (Jvm.Cond.code ({ cls := "ThrowArmsModel", name := "risk", desc := "(I)I" } : Jvm.MethodName) prog_13_method_83_code (2 : Nat) (Option.some Jvm.ClassFile.FieldType.int)) ∈ TT := tc7 (List.mem_of_getElem? (i := 189) rfl) rfl
theorem tw7_190 : (Jvm.Cond.methodLink "ThrowArmsLaw" (148 : Nat) ({ cls := "ThrowArmsModel", name := "season", desc := "(II)I" } : Jvm.MethodName)) ∈ TT := tc7 (List.mem_of_getElem? (i := 190) rfl) rfl
theorem tw7_191 : (Jvm.Cond.instanceMethod ({ cls := "ThrowArmsModel", name := "season", desc := "(II)I" } : Jvm.MethodName)) ∈ TT := tc7 (List.mem_of_getElem? (i := 191) rfl) rfl
theorem tw7_192 : (Jvm.Cond.selects "ThrowArmsModel" ({ cls := "ThrowArmsModel", name := "season", desc := "(II)I" } : Jvm.MethodName) ({ cls := "ThrowArmsModel", name := "season", desc := "(II)I" } : Jvm.MethodName)) ∈ TT := tc7 (List.mem_of_getElem? (i := 192) rfl) rfl
theorem tw7_193 : (Jvm.Cond.code ({ cls := "ThrowArmsModel", name := "season", desc := "(II)I" } : Jvm.MethodName) prog_13_method_85_code (3 : Nat) (Option.some Jvm.ClassFile.FieldType.int)) ∈ TT := tc7 (List.mem_of_getElem? (i := 193) rfl) rfl
theorem tw7_194 : (Jvm.Cond.constant "ThrowArmsModel" (291 : Nat) (2147483646 : Int32)) ∈ TT := tc7 (List.mem_of_getElem? (i := 194) rfl) rfl
theorem tw7_195 : (Jvm.Cond.methodLink "ThrowArmsModel" (292 : Nat) ({ cls := "ThrowArmsModel", name := "goes", desc := "(I)V" } : Jvm.MethodName)) ∈ TT := tc7 (List.mem_of_getElem? (i := 195) rfl) rfl
theorem tw7_197 : (Jvm.Cond.instanceMethod ({ cls := "ThrowArmsModel", name := "goes", desc := "(I)V" } : Jvm.MethodName)) ∈ TT := tc7 (List.mem_of_getElem? (i := 197) rfl) rfl
theorem tw7_198 : (Jvm.Cond.code ({ cls := "ThrowArmsModel", name := "goes", desc := "(I)V" } : Jvm.MethodName) prog_13_method_84_code (7 : Nat) (Option.none : Option Jvm.ClassFile.FieldType)) ∈ TT := tc7 (List.mem_of_getElem? (i := 198) rfl) rfl
theorem tw7_199 : (Jvm.Cond.constantLong "ThrowArmsModel" (287 : Nat) (16807 : Int64)) ∈ TT := tc7 (List.mem_of_getElem? (i := 199) rfl) rfl
theorem tw7_200 : (Jvm.Cond.constantLong "ThrowArmsModel" (289 : Nat) (2147483647 : Int64)) ∈ TT := tc7 (List.mem_of_getElem? (i := 200) rfl) rfl
theorem tw7_201 : (Jvm.Cond.methodLink "ThrowArmsLaw" (152 : Nat) ({ cls := "ThrowArmsModel", name := "span", desc := "(III)I" } : Jvm.MethodName)) ∈ TT := tc7 (List.mem_of_getElem? (i := 201) rfl) rfl
theorem tw7_202 : (Jvm.Cond.instanceMethod ({ cls := "ThrowArmsModel", name := "span", desc := "(III)I" } : Jvm.MethodName)) ∈ TT := tc7 (List.mem_of_getElem? (i := 202) rfl) rfl
theorem tw7_203 : (Jvm.Cond.selects "ThrowArmsModel" ({ cls := "ThrowArmsModel", name := "span", desc := "(III)I" } : Jvm.MethodName) ({ cls := "ThrowArmsModel", name := "span", desc := "(III)I" } : Jvm.MethodName)) ∈ TT := tc7 (List.mem_of_getElem? (i := 203) rfl) rfl
theorem tw7_204 : (Jvm.Cond.code ({ cls := "ThrowArmsModel", name := "span", desc := "(III)I" } : Jvm.MethodName) prog_13_method_86_code (9 : Nat) (Option.some Jvm.ClassFile.FieldType.int)) ∈ TT := tc7 (List.mem_of_getElem? (i := 204) rfl) rfl
theorem tw7_205 : (Jvm.Cond.methodLink "ThrowArmsLaw" (157 : Nat) ({ cls := "ThrowArmsModel", name := "put", desc := "(IIIZ)I" } : Jvm.MethodName)) ∈ TT := tc7 (List.mem_of_getElem? (i := 205) rfl) rfl
theorem tw7_206 : (Jvm.Cond.instanceMethod ({ cls := "ThrowArmsModel", name := "put", desc := "(IIIZ)I" } : Jvm.MethodName)) ∈ TT := tc7 (List.mem_of_getElem? (i := 206) rfl) rfl
theorem tw7_207 : (Jvm.Cond.selects "ThrowArmsModel" ({ cls := "ThrowArmsModel", name := "put", desc := "(IIIZ)I" } : Jvm.MethodName) ({ cls := "ThrowArmsModel", name := "put", desc := "(IIIZ)I" } : Jvm.MethodName)) ∈ TT := tc7 (List.mem_of_getElem? (i := 207) rfl) rfl
theorem tw7_208 : (Jvm.Cond.code ({ cls := "ThrowArmsModel", name := "put", desc := "(IIIZ)I" } : Jvm.MethodName) prog_13_method_89_code (6 : Nat) (Option.some Jvm.ClassFile.FieldType.int)) ∈ TT := tc7 (List.mem_of_getElem? (i := 208) rfl) rfl
theorem tw7_209 : (Jvm.Cond.methodLink "ThrowArmsModel" (295 : Nat) ({ cls := "ThrowArmsModel", name := "remembers", desc := "()V" } : Jvm.MethodName)) ∈ TT := tc7 (List.mem_of_getElem? (i := 209) rfl) rfl
theorem tw7_211 : (Jvm.Cond.instanceMethod ({ cls := "ThrowArmsModel", name := "remembers", desc := "()V" } : Jvm.MethodName)) ∈ TT := tc7 (List.mem_of_getElem? (i := 211) rfl) rfl
theorem tw7_212 : (Jvm.Cond.code ({ cls := "ThrowArmsModel", name := "remembers", desc := "()V" } : Jvm.MethodName) prog_13_method_87_code (2 : Nat) (Option.none : Option Jvm.ClassFile.FieldType)) ∈ TT := tc7 (List.mem_of_getElem? (i := 212) rfl) rfl
theorem tw7_213 : (Jvm.Cond.methodLink "ThrowArmsModel" (298 : Nat) ({ cls := "ThrowArmsModel", name := "comes", desc := "(III)V" } : Jvm.MethodName)) ∈ TT := tc7 (List.mem_of_getElem? (i := 213) rfl) rfl
theorem tw7_215 : (Jvm.Cond.instanceMethod ({ cls := "ThrowArmsModel", name := "comes", desc := "(III)V" } : Jvm.MethodName)) ∈ TT := tc7 (List.mem_of_getElem? (i := 215) rfl) rfl
theorem tw7_216 : (Jvm.Cond.code ({ cls := "ThrowArmsModel", name := "comes", desc := "(III)V" } : Jvm.MethodName) prog_13_method_88_code (4 : Nat) (Option.none : Option Jvm.ClassFile.FieldType)) ∈ TT := tc7 (List.mem_of_getElem? (i := 216) rfl) rfl
theorem tw7_217 : (Jvm.Cond.methodLink "ThrowArmsLaw" (161 : Nat) ({ cls := "ThrowArmsModel", name := "take", desc := "(II)I" } : Jvm.MethodName)) ∈ TT := tc7 (List.mem_of_getElem? (i := 217) rfl) rfl
theorem tw7_218 : (Jvm.Cond.instanceMethod ({ cls := "ThrowArmsModel", name := "take", desc := "(II)I" } : Jvm.MethodName)) ∈ TT := tc7 (List.mem_of_getElem? (i := 218) rfl) rfl
theorem tw7_219 : (Jvm.Cond.selects "ThrowArmsModel" ({ cls := "ThrowArmsModel", name := "take", desc := "(II)I" } : Jvm.MethodName) ({ cls := "ThrowArmsModel", name := "take", desc := "(II)I" } : Jvm.MethodName)) ∈ TT := tc7 (List.mem_of_getElem? (i := 219) rfl) rfl
theorem tw7_220 : (Jvm.Cond.code ({ cls := "ThrowArmsModel", name := "take", desc := "(II)I" } : Jvm.MethodName) prog_13_method_90_code (5 : Nat) (Option.some Jvm.ClassFile.FieldType.int)) ∈ TT := tc7 (List.mem_of_getElem? (i := 220) rfl) rfl
theorem tw7_221 : (Jvm.Cond.methodLink "ThrowArmsLaw" (165 : Nat) ({ cls := "ThrowArmsModel", name := "shift", desc := "(III)I" } : Jvm.MethodName)) ∈ TT := tc7 (List.mem_of_getElem? (i := 221) rfl) rfl
theorem tw7_222 : (Jvm.Cond.instanceMethod ({ cls := "ThrowArmsModel", name := "shift", desc := "(III)I" } : Jvm.MethodName)) ∈ TT := tc7 (List.mem_of_getElem? (i := 222) rfl) rfl
theorem tw7_223 : (Jvm.Cond.selects "ThrowArmsModel" ({ cls := "ThrowArmsModel", name := "shift", desc := "(III)I" } : Jvm.MethodName) ({ cls := "ThrowArmsModel", name := "shift", desc := "(III)I" } : Jvm.MethodName)) ∈ TT := tc7 (List.mem_of_getElem? (i := 223) rfl) rfl
theorem tw7_224 : (Jvm.Cond.code ({ cls := "ThrowArmsModel", name := "shift", desc := "(III)I" } : Jvm.MethodName) prog_13_method_91_code (7 : Nat) (Option.some Jvm.ClassFile.FieldType.int)) ∈ TT := tc7 (List.mem_of_getElem? (i := 224) rfl) rfl
theorem tw7_225 : (Jvm.Cond.methodLink "ThrowArmsLaw" (170 : Nat) ({ cls := "ThrowArmsModel", name := "swap", desc := "(IIII)Z" } : Jvm.MethodName)) ∈ TT := tc7 (List.mem_of_getElem? (i := 225) rfl) rfl
theorem tw7_226 : (Jvm.Cond.instanceMethod ({ cls := "ThrowArmsModel", name := "swap", desc := "(IIII)Z" } : Jvm.MethodName)) ∈ TT := tc7 (List.mem_of_getElem? (i := 226) rfl) rfl
theorem tw7_227 : (Jvm.Cond.selects "ThrowArmsModel" ({ cls := "ThrowArmsModel", name := "swap", desc := "(IIII)Z" } : Jvm.MethodName) ({ cls := "ThrowArmsModel", name := "swap", desc := "(IIII)Z" } : Jvm.MethodName)) ∈ TT := tc7 (List.mem_of_getElem? (i := 227) rfl) rfl
theorem tw7_228 : (Jvm.Cond.code ({ cls := "ThrowArmsModel", name := "swap", desc := "(IIII)Z" } : Jvm.MethodName) prog_13_method_93_code (7 : Nat) (Option.some Jvm.ClassFile.FieldType.boolean)) ∈ TT := tc7 (List.mem_of_getElem? (i := 228) rfl) rfl
theorem tw7_229 : (Jvm.Cond.methodLink "ThrowArmsModel" (301 : Nat) ({ cls := "ThrowArmsModel", name := "exchanges", desc := "(IIII)V" } : Jvm.MethodName)) ∈ TT := tc7 (List.mem_of_getElem? (i := 229) rfl) rfl
theorem tw7_231 : (Jvm.Cond.instanceMethod ({ cls := "ThrowArmsModel", name := "exchanges", desc := "(IIII)V" } : Jvm.MethodName)) ∈ TT := tc7 (List.mem_of_getElem? (i := 231) rfl) rfl
theorem tw7_232 : (Jvm.Cond.code ({ cls := "ThrowArmsModel", name := "exchanges", desc := "(IIII)V" } : Jvm.MethodName) prog_13_method_92_code (6 : Nat) (Option.none : Option Jvm.ClassFile.FieldType)) ∈ TT := tc7 (List.mem_of_getElem? (i := 232) rfl) rfl
theorem tw7_233 : (Jvm.Cond.methodLink "ThrowArmsLaw" (174 : Nat) ({ cls := "ThrowArmsModel", name := "bette\x72", desc := "()I" } : Jvm.MethodName)) ∈ TT := tc7 (List.mem_of_getElem? (i := 233) rfl) rfl
theorem tw7_234 : (Jvm.Cond.instanceMethod ({ cls := "ThrowArmsModel", name := "bette\x72", desc := "()I" } : Jvm.MethodName)) ∈ TT := tc7 (List.mem_of_getElem? (i := 234) rfl) rfl
theorem tw7_235 : (Jvm.Cond.selects "ThrowArmsModel" ({ cls := "ThrowArmsModel", name := "bette\x72", desc := "()I" } : Jvm.MethodName) ({ cls := "ThrowArmsModel", name := "bette\x72", desc := "()I" } : Jvm.MethodName)) ∈ TT := tc7 (List.mem_of_getElem? (i := 235) rfl) rfl
theorem tw7_236 : (Jvm.Cond.code ({ cls := "ThrowArmsModel", name := "bette\x72", desc := "()I" } : Jvm.MethodName) prog_13_method_95_code (2 : Nat) (Option.some Jvm.ClassFile.FieldType.int)) ∈ TT := tc7 (List.mem_of_getElem? (i := 236) rfl) rfl
theorem tw7_237 : (Jvm.Cond.methodLink "ThrowArmsModel" (311 : Nat) ({ cls := "ThrowArmsModel", name := "laysGain", desc := "()Z" } : Jvm.MethodName)) ∈ TT := tc7 (List.mem_of_getElem? (i := 237) rfl) rfl
theorem tw7_239 : (Jvm.Cond.instanceMethod ({ cls := "ThrowArmsModel", name := "laysGain", desc := "()Z" } : Jvm.MethodName)) ∈ TT := tc7 (List.mem_of_getElem? (i := 239) rfl) rfl
theorem tw8_0 : (Jvm.Cond.code ({ cls := "ThrowArmsModel", name := "laysGain", desc := "()Z" } : Jvm.MethodName) prog_13_method_94_code (7 : Nat) (Option.some Jvm.ClassFile.FieldType.boolean)) ∈ TT := tc8 (List.mem_of_getElem? (i := 0) rfl) rfl
theorem tw8_1 : (Jvm.Cond.methodLink "ThrowArmsLaw" (178 : Nat) ({ cls := "ThrowArmsModel", name := "fill", desc := "(I)I" } : Jvm.MethodName)) ∈ TT := tc8 (List.mem_of_getElem? (i := 1) rfl) rfl
theorem tw8_2 : (Jvm.Cond.instanceMethod ({ cls := "ThrowArmsModel", name := "fill", desc := "(I)I" } : Jvm.MethodName)) ∈ TT := tc8 (List.mem_of_getElem? (i := 2) rfl) rfl
theorem tw8_3 : (Jvm.Cond.selects "ThrowArmsModel" ({ cls := "ThrowArmsModel", name := "fill", desc := "(I)I" } : Jvm.MethodName) ({ cls := "ThrowArmsModel", name := "fill", desc := "(I)I" } : Jvm.MethodName)) ∈ TT := tc8 (List.mem_of_getElem? (i := 3) rfl) rfl
theorem tw8_4 : (Jvm.Cond.code ({ cls := "ThrowArmsModel", name := "fill", desc := "(I)I" } : Jvm.MethodName) prog_13_method_97_code (2 : Nat) (Option.some Jvm.ClassFile.FieldType.int)) ∈ TT := tc8 (List.mem_of_getElem? (i := 4) rfl) rfl
theorem tw8_5 : (Jvm.Cond.methodLink "ThrowArmsModel" (314 : Nat) ({ cls := "ThrowArmsModel", name := "fills", desc := "(I)I" } : Jvm.MethodName)) ∈ TT := tc8 (List.mem_of_getElem? (i := 5) rfl) rfl
theorem tw8_7 : (Jvm.Cond.instanceMethod ({ cls := "ThrowArmsModel", name := "fills", desc := "(I)I" } : Jvm.MethodName)) ∈ TT := tc8 (List.mem_of_getElem? (i := 7) rfl) rfl
theorem tw8_8 : (Jvm.Cond.code ({ cls := "ThrowArmsModel", name := "fills", desc := "(I)I" } : Jvm.MethodName) prog_13_method_96_code (8 : Nat) (Option.some Jvm.ClassFile.FieldType.int)) ∈ TT := tc8 (List.mem_of_getElem? (i := 8) rfl) rfl
theorem tw8_9 : (Jvm.Cond.methodLink "ThrowArmsLaw" (182 : Nat) ({ cls := "ThrowArmsModel", name := "fillAll", desc := "()I" } : Jvm.MethodName)) ∈ TT := tc8 (List.mem_of_getElem? (i := 9) rfl) rfl
theorem tw8_10 : (Jvm.Cond.instanceMethod ({ cls := "ThrowArmsModel", name := "fillAll", desc := "()I" } : Jvm.MethodName)) ∈ TT := tc8 (List.mem_of_getElem? (i := 10) rfl) rfl
theorem tw8_11 : (Jvm.Cond.selects "ThrowArmsModel" ({ cls := "ThrowArmsModel", name := "fillAll", desc := "()I" } : Jvm.MethodName) ({ cls := "ThrowArmsModel", name := "fillAll", desc := "()I" } : Jvm.MethodName)) ∈ TT := tc8 (List.mem_of_getElem? (i := 11) rfl) rfl
theorem tw8_12 : (Jvm.Cond.code ({ cls := "ThrowArmsModel", name := "fillAll", desc := "()I" } : Jvm.MethodName) prog_13_method_98_code (3 : Nat) (Option.some Jvm.ClassFile.FieldType.int)) ∈ TT := tc8 (List.mem_of_getElem? (i := 12) rfl) rfl
theorem tw8_13 : (Jvm.Cond.methodLink "ThrowArmsLaw" (186 : Nat) ({ cls := "ThrowArmsModel", name := "laid", desc := "(II)I" } : Jvm.MethodName)) ∈ TT := tc8 (List.mem_of_getElem? (i := 13) rfl) rfl
theorem tw8_14 : (Jvm.Cond.instanceMethod ({ cls := "ThrowArmsModel", name := "laid", desc := "(II)I" } : Jvm.MethodName)) ∈ TT := tc8 (List.mem_of_getElem? (i := 14) rfl) rfl
theorem tw8_15 : (Jvm.Cond.selects "ThrowArmsModel" ({ cls := "ThrowArmsModel", name := "laid", desc := "(II)I" } : Jvm.MethodName) ({ cls := "ThrowArmsModel", name := "laid", desc := "(II)I" } : Jvm.MethodName)) ∈ TT := tc8 (List.mem_of_getElem? (i := 15) rfl) rfl
theorem tw8_16 : (Jvm.Cond.code ({ cls := "ThrowArmsModel", name := "laid", desc := "(II)I" } : Jvm.MethodName) prog_13_method_99_code (5 : Nat) (Option.some Jvm.ClassFile.FieldType.int)) ∈ TT := tc8 (List.mem_of_getElem? (i := 16) rfl) rfl
theorem tw8_17 : (Jvm.Cond.methodLink "ThrowArmsLaw" (190 : Nat) ({ cls := "ThrowArmsModel", name := "become", desc := "(III)I" } : Jvm.MethodName)) ∈ TT := tc8 (List.mem_of_getElem? (i := 17) rfl) rfl
theorem tw8_18 : (Jvm.Cond.instanceMethod ({ cls := "ThrowArmsModel", name := "become", desc := "(III)I" } : Jvm.MethodName)) ∈ TT := tc8 (List.mem_of_getElem? (i := 18) rfl) rfl
theorem tw8_19 : (Jvm.Cond.selects "ThrowArmsModel" ({ cls := "ThrowArmsModel", name := "become", desc := "(III)I" } : Jvm.MethodName) ({ cls := "ThrowArmsModel", name := "become", desc := "(III)I" } : Jvm.MethodName)) ∈ TT := tc8 (List.mem_of_getElem? (i := 19) rfl) rfl
theorem tw8_20 : (Jvm.Cond.code ({ cls := "ThrowArmsModel", name := "become", desc := "(III)I" } : Jvm.MethodName) prog_13_method_101_code (7 : Nat) (Option.some Jvm.ClassFile.FieldType.int)) ∈ TT := tc8 (List.mem_of_getElem? (i := 20) rfl) rfl
theorem tw8_21 : (Jvm.Cond.methodLink "ThrowArmsModel" (317 : Nat) ({ cls := "ThrowArmsModel", name := "canBecome", desc := "(III)Z" } : Jvm.MethodName)) ∈ TT := tc8 (List.mem_of_getElem? (i := 21) rfl) rfl
theorem tw8_23 : (Jvm.Cond.instanceMethod ({ cls := "ThrowArmsModel", name := "canBecome", desc := "(III)Z" } : Jvm.MethodName)) ∈ TT := tc8 (List.mem_of_getElem? (i := 23) rfl) rfl
theorem tw8_24 : (Jvm.Cond.code ({ cls := "ThrowArmsModel", name := "canBecome", desc := "(III)Z" } : Jvm.MethodName) prog_13_method_100_code (4 : Nat) (Option.some Jvm.ClassFile.FieldType.boolean)) ∈ TT := tc8 (List.mem_of_getElem? (i := 24) rfl) rfl
theorem tw8_25 : (Jvm.Cond.methodLink "ThrowArmsLaw" (194 : Nat) ({ cls := "ThrowArmsModel", name := "rule", desc := "(II)I" } : Jvm.MethodName)) ∈ TT := tc8 (List.mem_of_getElem? (i := 25) rfl) rfl
theorem tw8_26 : (Jvm.Cond.instanceMethod ({ cls := "ThrowArmsModel", name := "rule", desc := "(II)I" } : Jvm.MethodName)) ∈ TT := tc8 (List.mem_of_getElem? (i := 26) rfl) rfl
theorem tw8_27 : (Jvm.Cond.selects "ThrowArmsModel" ({ cls := "ThrowArmsModel", name := "rule", desc := "(II)I" } : Jvm.MethodName) ({ cls := "ThrowArmsModel", name := "rule", desc := "(II)I" } : Jvm.MethodName)) ∈ TT := tc8 (List.mem_of_getElem? (i := 27) rfl) rfl
theorem tw8_28 : (Jvm.Cond.code ({ cls := "ThrowArmsModel", name := "rule", desc := "(II)I" } : Jvm.MethodName) prog_13_method_102_code (5 : Nat) (Option.some Jvm.ClassFile.FieldType.int)) ∈ TT := tc8 (List.mem_of_getElem? (i := 28) rfl) rfl
theorem tw8_29 : (Jvm.Cond.methodLink "ThrowArmsLaw" (198 : Nat) ({ cls := "ThrowArmsModel", name := "rests", desc := "(II)I" } : Jvm.MethodName)) ∈ TT := tc8 (List.mem_of_getElem? (i := 29) rfl) rfl
theorem tw8_30 : (Jvm.Cond.instanceMethod ({ cls := "ThrowArmsModel", name := "rests", desc := "(II)I" } : Jvm.MethodName)) ∈ TT := tc8 (List.mem_of_getElem? (i := 30) rfl) rfl
theorem tw8_31 : (Jvm.Cond.selects "ThrowArmsModel" ({ cls := "ThrowArmsModel", name := "rests", desc := "(II)I" } : Jvm.MethodName) ({ cls := "ThrowArmsModel", name := "rests", desc := "(II)I" } : Jvm.MethodName)) ∈ TT := tc8 (List.mem_of_getElem? (i := 31) rfl) rfl
theorem tw8_32 : (Jvm.Cond.code ({ cls := "ThrowArmsModel", name := "rests", desc := "(II)I" } : Jvm.MethodName) prog_13_method_103_code (4 : Nat) (Option.some Jvm.ClassFile.FieldType.int)) ∈ TT := tc8 (List.mem_of_getElem? (i := 32) rfl) rfl
theorem tw8_33 : (Jvm.Cond.methodLink "ThrowArmsLaw" (202 : Nat) ({ cls := "ThrowArmsModel", name := "undo", desc := "()I" } : Jvm.MethodName)) ∈ TT := tc8 (List.mem_of_getElem? (i := 33) rfl) rfl
theorem tw8_34 : (Jvm.Cond.instanceMethod ({ cls := "ThrowArmsModel", name := "undo", desc := "()I" } : Jvm.MethodName)) ∈ TT := tc8 (List.mem_of_getElem? (i := 34) rfl) rfl
theorem tw8_35 : (Jvm.Cond.selects "ThrowArmsModel" ({ cls := "ThrowArmsModel", name := "undo", desc := "()I" } : Jvm.MethodName) ({ cls := "ThrowArmsModel", name := "undo", desc := "()I" } : Jvm.MethodName)) ∈ TT := tc8 (List.mem_of_getElem? (i := 35) rfl) rfl
theorem tw8_36 : (Jvm.Cond.code ({ cls := "ThrowArmsModel", name := "undo", desc := "()I" } : Jvm.MethodName) prog_13_method_104_code (1 : Nat) (Option.some Jvm.ClassFile.FieldType.int)) ∈ TT := tc8 (List.mem_of_getElem? (i := 36) rfl) rfl
theorem tw8_37 : (Jvm.Cond.methodLink "ThrowArmsLaw" (208 : Nat) ({ cls := "ThrowArmsModel", name := "named", desc := "(I)I" } : Jvm.MethodName)) ∈ TT := tc8 (List.mem_of_getElem? (i := 37) rfl) rfl
theorem tw8_38 : (Jvm.Cond.instanceMethod ({ cls := "ThrowArmsModel", name := "named", desc := "(I)I" } : Jvm.MethodName)) ∈ TT := tc8 (List.mem_of_getElem? (i := 38) rfl) rfl
theorem tw8_39 : (Jvm.Cond.selects "ThrowArmsModel" ({ cls := "ThrowArmsModel", name := "named", desc := "(I)I" } : Jvm.MethodName) ({ cls := "ThrowArmsModel", name := "named", desc := "(I)I" } : Jvm.MethodName)) ∈ TT := tc8 (List.mem_of_getElem? (i := 39) rfl) rfl
theorem tw8_40 : (Jvm.Cond.code ({ cls := "ThrowArmsModel", name := "named", desc := "(I)I" } : Jvm.MethodName) prog_13_method_105_code (5 : Nat) (Option.some Jvm.ClassFile.FieldType.int)) ∈ TT := tc8 (List.mem_of_getElem? (i := 40) rfl) rfl
theorem tw8_41 : (Jvm.Cond.methodLink "ThrowArmsLaw" (215 : Nat) ({ cls := "ThrowArmsModel", name := "size", desc := "()I" } : Jvm.MethodName)) ∈ TT := tc8 (List.mem_of_getElem? (i := 41) rfl) rfl
theorem tw8_42 : (Jvm.Cond.instanceMethod ({ cls := "ThrowArmsModel", name := "size", desc := "()I" } : Jvm.MethodName)) ∈ TT := tc8 (List.mem_of_getElem? (i := 42) rfl) rfl
theorem tw8_43 : (Jvm.Cond.selects "ThrowArmsModel" ({ cls := "ThrowArmsModel", name := "size", desc := "()I" } : Jvm.MethodName) ({ cls := "ThrowArmsModel", name := "size", desc := "()I" } : Jvm.MethodName)) ∈ TT := tc8 (List.mem_of_getElem? (i := 43) rfl) rfl
theorem tw8_44 : (Jvm.Cond.code ({ cls := "ThrowArmsModel", name := "size", desc := "()I" } : Jvm.MethodName) prog_13_method_106_code (1 : Nat) (Option.some Jvm.ClassFile.FieldType.int)) ∈ TT := tc8 (List.mem_of_getElem? (i := 44) rfl) rfl
theorem tw8_45 : (Jvm.Cond.methodLink "ThrowArmsLaw" (219 : Nat) ({ cls := "ThrowArmsModel", name := "trouble", desc := "()I" } : Jvm.MethodName)) ∈ TT := tc8 (List.mem_of_getElem? (i := 45) rfl) rfl
theorem tw8_46 : (Jvm.Cond.instanceMethod ({ cls := "ThrowArmsModel", name := "trouble", desc := "()I" } : Jvm.MethodName)) ∈ TT := tc8 (List.mem_of_getElem? (i := 46) rfl) rfl
theorem tw8_47 : (Jvm.Cond.selects "ThrowArmsModel" ({ cls := "ThrowArmsModel", name := "trouble", desc := "()I" } : Jvm.MethodName) ({ cls := "ThrowArmsModel", name := "trouble", desc := "()I" } : Jvm.MethodName)) ∈ TT := tc8 (List.mem_of_getElem? (i := 47) rfl) rfl
theorem tw8_48 : (Jvm.Cond.code ({ cls := "ThrowArmsModel", name := "trouble", desc := "()I" } : Jvm.MethodName) prog_13_method_107_code (1 : Nat) (Option.some Jvm.ClassFile.FieldType.int)) ∈ TT := tc8 (List.mem_of_getElem? (i := 48) rfl) rfl
theorem tw8_65 : (Jvm.Cond.fieldLink "java/lang/String" (9 : Nat) "java/lang/String" "value" "[B") ∈ TT := tc8 (List.mem_of_getElem? (i := 65) rfl) rfl
theorem tw8_66 : (Jvm.Cond.fieldLink "java/lang/String" (15 : Nat) "java/lang/String" "code\x72" "B") ∈ TT := tc8 (List.mem_of_getElem? (i := 66) rfl) rfl
theorem twp_0 : Jvm.Cond.selects "ThrowArms" ({ cls := "ThrowArms", name := "refuse", desc := "(I)I" } : Jvm.MethodName) ({ cls := "ThrowArms", name := "refuse", desc := "(I)I" } : Jvm.MethodName) ∈ TT := tcp (List.mem_of_getElem? (i := 0) rfl) rfl
theorem twp_1 : Jvm.Cond.selects "ThrowArms$Reade\x72" ({ cls := "ThrowArms$Reade\x72", name := "readLine", desc := "()Z" } : Jvm.MethodName) ({ cls := "ThrowArms$Reade\x72", name := "readLine", desc := "()Z" } : Jvm.MethodName) ∈ TT := tcp (List.mem_of_getElem? (i := 1) rfl) rfl
theorem twp_2 : Jvm.Cond.selects "ThrowArms$Tape" ({ cls := "ThrowArms$Tape", name := "scanWord", desc := "()V" } : Jvm.MethodName) ({ cls := "ThrowArms$Tape", name := "scanWord", desc := "()V" } : Jvm.MethodName) ∈ TT := tcp (List.mem_of_getElem? (i := 2) rfl) rfl
theorem twp_3 : Jvm.Cond.selects "ThrowArms$Tape" ({ cls := "ThrowArms$Tape", name := "scanWhole", desc := "()V" } : Jvm.MethodName) ({ cls := "ThrowArms$Tape", name := "scanWhole", desc := "()V" } : Jvm.MethodName) ∈ TT := tcp (List.mem_of_getElem? (i := 3) rfl) rfl
theorem twp_4 : Jvm.Cond.selects "ThrowArms$Reade\x72" ({ cls := "ThrowArms$Reade\x72", name := "readArm", desc := "()Z" } : Jvm.MethodName) ({ cls := "ThrowArms$Reade\x72", name := "readArm", desc := "()Z" } : Jvm.MethodName) ∈ TT := tcp (List.mem_of_getElem? (i := 4) rfl) rfl
theorem twp_5 : Jvm.Cond.selects "ThrowArms$Reade\x72" ({ cls := "ThrowArms$Reade\x72", name := "fail", desc := "(I)Z" } : Jvm.MethodName) ({ cls := "ThrowArms$Reade\x72", name := "fail", desc := "(I)Z" } : Jvm.MethodName) ∈ TT := tcp (List.mem_of_getElem? (i := 5) rfl) rfl
theorem twp_6 : Jvm.Cond.selects "ThrowArms$Reade\x72" ({ cls := "ThrowArms$Reade\x72", name := "readName", desc := "(I)Z" } : Jvm.MethodName) ({ cls := "ThrowArms$Reade\x72", name := "readName", desc := "(I)Z" } : Jvm.MethodName) ∈ TT := tcp (List.mem_of_getElem? (i := 6) rfl) rfl
theorem twp_7 : Jvm.Cond.selects "ThrowArms$Reade\x72" ({ cls := "ThrowArms$Reade\x72", name := "isReserved", desc := "()Z" } : Jvm.MethodName) ({ cls := "ThrowArms$Reade\x72", name := "isReserved", desc := "()Z" } : Jvm.MethodName) ∈ TT := tcp (List.mem_of_getElem? (i := 7) rfl) rfl
theorem twp_8 : Jvm.Cond.selects "ThrowArms$Reade\x72" ({ cls := "ThrowArms$Reade\x72", name := "readHand", desc := "(I)Z" } : Jvm.MethodName) ({ cls := "ThrowArms$Reade\x72", name := "readHand", desc := "(I)Z" } : Jvm.MethodName) ∈ TT := tcp (List.mem_of_getElem? (i := 8) rfl) rfl
theorem twp_9 : Jvm.Cond.selects "ThrowArms$Reade\x72" ({ cls := "ThrowArms$Reade\x72", name := "readWhole", desc := "(II)Z" } : Jvm.MethodName) ({ cls := "ThrowArms$Reade\x72", name := "readWhole", desc := "(II)Z" } : Jvm.MethodName) ∈ TT := tcp (List.mem_of_getElem? (i := 9) rfl) rfl
theorem twp_10 : Jvm.Cond.selects "ThrowArms$Reade\x72" ({ cls := "ThrowArms$Reade\x72", name := "readGame", desc := "()Z" } : Jvm.MethodName) ({ cls := "ThrowArms$Reade\x72", name := "readGame", desc := "()Z" } : Jvm.MethodName) ∈ TT := tcp (List.mem_of_getElem? (i := 10) rfl) rfl
theorem twp_11 : Jvm.Cond.selects "ThrowArms$Reade\x72" ({ cls := "ThrowArms$Reade\x72", name := "readRest", desc := "()Z" } : Jvm.MethodName) ({ cls := "ThrowArms$Reade\x72", name := "readRest", desc := "()Z" } : Jvm.MethodName) ∈ TT := tcp (List.mem_of_getElem? (i := 11) rfl) rfl
theorem twp_12 : Jvm.Cond.selects "ThrowArms$Reade\x72" ({ cls := "ThrowArms$Reade\x72", name := "readBound", desc := "(I)Z" } : Jvm.MethodName) ({ cls := "ThrowArms$Reade\x72", name := "readBound", desc := "(I)Z" } : Jvm.MethodName) ∈ TT := tcp (List.mem_of_getElem? (i := 12) rfl) rfl
theorem twp_13 : Jvm.Cond.selects "ThrowArms$Plan" ({ cls := "ThrowArms$Plan", name := "setAt", desc := "(IIII)V" } : Jvm.MethodName) ({ cls := "ThrowArms$Plan", name := "setAt", desc := "(IIII)V" } : Jvm.MethodName) ∈ TT := tcp (List.mem_of_getElem? (i := 13) rfl) rfl
theorem twp_14 : Jvm.Cond.selects "ThrowArms" ({ cls := "ThrowArms", name := "answe\x72", desc := "(I)I" } : Jvm.MethodName) ({ cls := "ThrowArms", name := "answe\x72", desc := "(I)I" } : Jvm.MethodName) ∈ TT := tcp (List.mem_of_getElem? (i := 14) rfl) rfl
theorem twp_15 : Jvm.Cond.selects "ThrowArms" ({ cls := "ThrowArms", name := "hasText", desc := "()Z" } : Jvm.MethodName) ({ cls := "ThrowArms", name := "hasText", desc := "()Z" } : Jvm.MethodName) ∈ TT := tcp (List.mem_of_getElem? (i := 15) rfl) rfl
theorem twp_16 : Jvm.Cond.selects "ThrowArms" ({ cls := "ThrowArms", name := "tellAll", desc := "(I)I" } : Jvm.MethodName) ({ cls := "ThrowArms", name := "tellAll", desc := "(I)I" } : Jvm.MethodName) ∈ TT := tcp (List.mem_of_getElem? (i := 16) rfl) rfl
theorem twp_17 : Jvm.Cond.selects "ThrowArms" ({ cls := "ThrowArms", name := "hasArm", desc := "(I)Z" } : Jvm.MethodName) ({ cls := "ThrowArms", name := "hasArm", desc := "(I)Z" } : Jvm.MethodName) ∈ TT := tcp (List.mem_of_getElem? (i := 17) rfl) rfl
theorem twp_18 : Jvm.Cond.selects "ThrowArms" ({ cls := "ThrowArms", name := "tellArm", desc := "(II)I" } : Jvm.MethodName) ({ cls := "ThrowArms", name := "tellArm", desc := "(II)I" } : Jvm.MethodName) ∈ TT := tcp (List.mem_of_getElem? (i := 18) rfl) rfl
theorem twp_19 : Jvm.Cond.selects "ThrowArms" ({ cls := "ThrowArms", name := "hasGame", desc := "(I)Z" } : Jvm.MethodName) ({ cls := "ThrowArms", name := "hasGame", desc := "(I)Z" } : Jvm.MethodName) ∈ TT := tcp (List.mem_of_getElem? (i := 19) rfl) rfl
theorem twp_20 : Jvm.Cond.selects "ThrowArms" ({ cls := "ThrowArms", name := "tellGame", desc := "(II)I" } : Jvm.MethodName) ({ cls := "ThrowArms", name := "tellGame", desc := "(II)I" } : Jvm.MethodName) ∈ TT := tcp (List.mem_of_getElem? (i := 20) rfl) rfl
theorem twp_21 : Jvm.Cond.selects "ThrowArms" ({ cls := "ThrowArms", name := "hasOuting", desc := "(II)Z" } : Jvm.MethodName) ({ cls := "ThrowArms", name := "hasOuting", desc := "(II)Z" } : Jvm.MethodName) ∈ TT := tcp (List.mem_of_getElem? (i := 21) rfl) rfl
theorem twp_22 : Jvm.Cond.selects "ThrowArms" ({ cls := "ThrowArms", name := "tellOuting", desc := "(III)I" } : Jvm.MethodName) ({ cls := "ThrowArms", name := "tellOuting", desc := "(III)I" } : Jvm.MethodName) ∈ TT := tcp (List.mem_of_getElem? (i := 22) rfl) rfl
theorem twp_23 : Jvm.Cond.selects "ThrowArms$Diary" ({ cls := "ThrowArms$Diary", name := "isRested", desc := "(I)Z" } : Jvm.MethodName) ({ cls := "ThrowArms$Diary", name := "isRested", desc := "(I)Z" } : Jvm.MethodName) ∈ TT := tcp (List.mem_of_getElem? (i := 23) rfl) rfl
theorem twp_24 : Jvm.Cond.selects "ThrowArms$Diary" ({ cls := "ThrowArms$Diary", name := "daysToNext", desc := "(I)I" } : Jvm.MethodName) ({ cls := "ThrowArms$Diary", name := "daysToNext", desc := "(I)I" } : Jvm.MethodName) ∈ TT := tcp (List.mem_of_getElem? (i := 24) rfl) rfl
theorem twp_25 : Jvm.Cond.selects "ThrowArms$Diary" ({ cls := "ThrowArms$Diary", name := "roomInWeek", desc := "(I)I" } : Jvm.MethodName) ({ cls := "ThrowArms$Diary", name := "roomInWeek", desc := "(I)I" } : Jvm.MethodName) ∈ TT := tcp (List.mem_of_getElem? (i := 25) rfl) rfl
theorem twp_26 : Jvm.Cond.selects "ThrowArms$Diary" ({ cls := "ThrowArms$Diary", name := "weekFrom", desc := "(II)I" } : Jvm.MethodName) ({ cls := "ThrowArms$Diary", name := "weekFrom", desc := "(II)I" } : Jvm.MethodName) ∈ TT := tcp (List.mem_of_getElem? (i := 26) rfl) rfl
theorem twp_27 : Jvm.Cond.selects "ThrowArms" ({ cls := "ThrowArms", name := "countAhead", desc := "(II)I" } : Jvm.MethodName) ({ cls := "ThrowArms", name := "countAhead", desc := "(II)I" } : Jvm.MethodName) ∈ TT := tcp (List.mem_of_getElem? (i := 27) rfl) rfl
theorem twp_28 : Jvm.Cond.selects "ThrowArms" ({ cls := "ThrowArms", name := "troubleOfBest", desc := "(II)I" } : Jvm.MethodName) ({ cls := "ThrowArms", name := "troubleOfBest", desc := "(II)I" } : Jvm.MethodName) ∈ TT := tcp (List.mem_of_getElem? (i := 28) rfl) rfl
theorem twp_29 : Jvm.Cond.selects "ThrowArms$Best" ({ cls := "ThrowArms$Best", name := "prepare", desc := "(I)V" } : Jvm.MethodName) ({ cls := "ThrowArms$Best", name := "prepare", desc := "(I)V" } : Jvm.MethodName) ∈ TT := tcp (List.mem_of_getElem? (i := 29) rfl) rfl
theorem twp_30 : Jvm.Cond.selects "ThrowArms$Best" ({ cls := "ThrowArms$Best", name := "fitsTogethe\x72", desc := "(II)Z" } : Jvm.MethodName) ({ cls := "ThrowArms$Best", name := "fitsTogethe\x72", desc := "(II)Z" } : Jvm.MethodName) ∈ TT := tcp (List.mem_of_getElem? (i := 30) rfl) rfl
theorem twp_31 : Jvm.Cond.selects "ThrowArms$Best" ({ cls := "ThrowArms$Best", name := "mayHave", desc := "(II)Z" } : Jvm.MethodName) ({ cls := "ThrowArms$Best", name := "mayHave", desc := "(II)Z" } : Jvm.MethodName) ∈ TT := tcp (List.mem_of_getElem? (i := 31) rfl) rfl
theorem twp_32 : Jvm.Cond.selects "ThrowArms$Best" ({ cls := "ThrowArms$Best", name := "search", desc := "(II)V" } : Jvm.MethodName) ({ cls := "ThrowArms$Best", name := "search", desc := "(II)V" } : Jvm.MethodName) ∈ TT := tcp (List.mem_of_getElem? (i := 32) rfl) rfl
theorem twp_33 : Jvm.Cond.selects "ThrowArms$Choose\x72" ({ cls := "ThrowArms$Choose\x72", name := "chooseOthe\x72", desc := "(III)V" } : Jvm.MethodName) ({ cls := "ThrowArms$Choose\x72", name := "chooseOthe\x72", desc := "(III)V" } : Jvm.MethodName) ∈ TT := tcp (List.mem_of_getElem? (i := 33) rfl) rfl
theorem twp_34 : Jvm.Cond.selects "ThrowArms$Season" ({ cls := "ThrowArms$Season", name := "playOuting", desc := "(II)V" } : Jvm.MethodName) ({ cls := "ThrowArms$Season", name := "playOuting", desc := "(II)V" } : Jvm.MethodName) ∈ TT := tcp (List.mem_of_getElem? (i := 34) rfl) rfl
theorem twp_35 : Jvm.Cond.selects "ThrowArms" ({ cls := "ThrowArms", name := "tellSeason", desc := "(I)I" } : Jvm.MethodName) ({ cls := "ThrowArms", name := "tellSeason", desc := "(I)I" } : Jvm.MethodName) ∈ TT := tcp (List.mem_of_getElem? (i := 35) rfl) rfl
theorem twp_36 : Jvm.Cond.selects "ThrowArms" ({ cls := "ThrowArms", name := "mayTrade", desc := "(IIII)Z" } : Jvm.MethodName) ({ cls := "ThrowArms", name := "mayTrade", desc := "(IIII)Z" } : Jvm.MethodName) ∈ TT := tcp (List.mem_of_getElem? (i := 36) rfl) rfl
theorem twp_37 : Jvm.Cond.selects "ThrowArms$Choose\x72" ({ cls := "ThrowArms$Choose\x72", name := "weighChanges", desc := "(II)V" } : Jvm.MethodName) ({ cls := "ThrowArms$Choose\x72", name := "weighChanges", desc := "(II)V" } : Jvm.MethodName) ∈ TT := tcp (List.mem_of_getElem? (i := 37) rfl) rfl
theorem twp_38 : Jvm.Cond.selects "ThrowArms$Choose\x72" ({ cls := "ThrowArms$Choose\x72", name := "addOuting", desc := "(I)Z" } : Jvm.MethodName) ({ cls := "ThrowArms$Choose\x72", name := "addOuting", desc := "(I)Z" } : Jvm.MethodName) ∈ TT := tcp (List.mem_of_getElem? (i := 38) rfl) rfl
theorem twp_39 : Jvm.Cond.selects "java/lang/Throwable" ({ cls := "java/lang/Throwable", name := "fillInStackTrace", desc := "(I)Ljava/lang/Throwable;" } : Jvm.MethodName) ({ cls := "java/lang/Throwable", name := "fillInStackTrace", desc := "(I)Ljava/lang/Throwable;" } : Jvm.MethodName) ∈ TT := tcp (List.mem_of_getElem? (i := 39) rfl) rfl
theorem twp_40 : Jvm.Cond.selects "ThrowArmsModel" ({ cls := "ThrowArmsModel", name := "laysWord", desc := "(I)V" } : Jvm.MethodName) ({ cls := "ThrowArmsModel", name := "laysWord", desc := "(I)V" } : Jvm.MethodName) ∈ TT := tcp (List.mem_of_getElem? (i := 40) rfl) rfl
theorem twp_41 : Jvm.Cond.selects "ThrowArmsModel" ({ cls := "ThrowArmsModel", name := "isRefused", desc := "(I)Z" } : Jvm.MethodName) ({ cls := "ThrowArmsModel", name := "isRefused", desc := "(I)Z" } : Jvm.MethodName) ∈ TT := tcp (List.mem_of_getElem? (i := 41) rfl) rfl
theorem twp_42 : Jvm.Cond.selects "ThrowArmsModel" ({ cls := "ThrowArmsModel", name := "readAll", desc := "(I)Z" } : Jvm.MethodName) ({ cls := "ThrowArmsModel", name := "readAll", desc := "(I)Z" } : Jvm.MethodName) ∈ TT := tcp (List.mem_of_getElem? (i := 42) rfl) rfl
theorem twp_43 : Jvm.Cond.selects "ThrowArmsModel" ({ cls := "ThrowArmsModel", name := "goesOn", desc := "()V" } : Jvm.MethodName) ({ cls := "ThrowArmsModel", name := "goesOn", desc := "()V" } : Jvm.MethodName) ∈ TT := tcp (List.mem_of_getElem? (i := 43) rfl) rfl
theorem twp_44 : Jvm.Cond.selects "ThrowArmsModel" ({ cls := "ThrowArmsModel", name := "see", desc := "(I)I" } : Jvm.MethodName) ({ cls := "ThrowArmsModel", name := "see", desc := "(I)I" } : Jvm.MethodName) ∈ TT := tcp (List.mem_of_getElem? (i := 44) rfl) rfl
theorem twp_45 : Jvm.Cond.selects "ThrowArmsModel" ({ cls := "ThrowArmsModel", name := "readLine", desc := "()Z" } : Jvm.MethodName) ({ cls := "ThrowArmsModel", name := "readLine", desc := "()Z" } : Jvm.MethodName) ∈ TT := tcp (List.mem_of_getElem? (i := 45) rfl) rfl
theorem twp_46 : Jvm.Cond.selects "ThrowArmsModel" ({ cls := "ThrowArmsModel", name := "isWord", desc := "(Ljava/lang/String;)Z" } : Jvm.MethodName) ({ cls := "ThrowArmsModel", name := "isWord", desc := "(Ljava/lang/String;)Z" } : Jvm.MethodName) ∈ TT := tcp (List.mem_of_getElem? (i := 46) rfl) rfl
theorem twp_47 : Jvm.Cond.selects "ThrowArmsModel" ({ cls := "ThrowArmsModel", name := "readArm", desc := "()Z" } : Jvm.MethodName) ({ cls := "ThrowArmsModel", name := "readArm", desc := "()Z" } : Jvm.MethodName) ∈ TT := tcp (List.mem_of_getElem? (i := 47) rfl) rfl
theorem twp_48 : Jvm.Cond.selects "ThrowArmsModel" ({ cls := "ThrowArmsModel", name := "errs", desc := "(I)Z" } : Jvm.MethodName) ({ cls := "ThrowArmsModel", name := "errs", desc := "(I)Z" } : Jvm.MethodName) ∈ TT := tcp (List.mem_of_getElem? (i := 48) rfl) rfl
theorem twp_49 : Jvm.Cond.selects "ThrowArmsModel" ({ cls := "ThrowArmsModel", name := "isName", desc := "()Z" } : Jvm.MethodName) ({ cls := "ThrowArmsModel", name := "isName", desc := "()Z" } : Jvm.MethodName) ∈ TT := tcp (List.mem_of_getElem? (i := 49) rfl) rfl
theorem twp_50 : Jvm.Cond.selects "ThrowArmsModel" ({ cls := "ThrowArmsModel", name := "isAt", desc := "([IIII)Z" } : Jvm.MethodName) ({ cls := "ThrowArmsModel", name := "isAt", desc := "([IIII)Z" } : Jvm.MethodName) ∈ TT := tcp (List.mem_of_getElem? (i := 50) rfl) rfl
theorem twp_51 : Jvm.Cond.selects "ThrowArmsModel" ({ cls := "ThrowArmsModel", name := "takes", desc := "(III)Z" } : Jvm.MethodName) ({ cls := "ThrowArmsModel", name := "takes", desc := "(III)Z" } : Jvm.MethodName) ∈ TT := tcp (List.mem_of_getElem? (i := 51) rfl) rfl
theorem twp_52 : Jvm.Cond.selects "ThrowArmsModel" ({ cls := "ThrowArmsModel", name := "readGame", desc := "()Z" } : Jvm.MethodName) ({ cls := "ThrowArmsModel", name := "readGame", desc := "()Z" } : Jvm.MethodName) ∈ TT := tcp (List.mem_of_getElem? (i := 52) rfl) rfl
theorem twp_53 : Jvm.Cond.selects "ThrowArmsModel" ({ cls := "ThrowArmsModel", name := "readRest", desc := "()Z" } : Jvm.MethodName) ({ cls := "ThrowArmsModel", name := "readRest", desc := "()Z" } : Jvm.MethodName) ∈ TT := tcp (List.mem_of_getElem? (i := 53) rfl) rfl
theorem twp_54 : Jvm.Cond.selects "ThrowArmsModel" ({ cls := "ThrowArmsModel", name := "readOnce", desc := "(III)Z" } : Jvm.MethodName) ({ cls := "ThrowArmsModel", name := "readOnce", desc := "(III)Z" } : Jvm.MethodName) ∈ TT := tcp (List.mem_of_getElem? (i := 54) rfl) rfl
theorem twp_55 : Jvm.Cond.selects "ThrowArmsModel" ({ cls := "ThrowArmsModel", name := "no", desc := "(I)I" } : Jvm.MethodName) ({ cls := "ThrowArmsModel", name := "no", desc := "(I)I" } : Jvm.MethodName) ∈ TT := tcp (List.mem_of_getElem? (i := 55) rfl) rfl
theorem twp_56 : Jvm.Cond.selects "ThrowArmsModel" ({ cls := "ThrowArmsModel", name := "outingsAll", desc := "()I" } : Jvm.MethodName) ({ cls := "ThrowArmsModel", name := "outingsAll", desc := "()I" } : Jvm.MethodName) ∈ TT := tcp (List.mem_of_getElem? (i := 56) rfl) rfl
theorem twp_57 : Jvm.Cond.selects "ThrowArmsModel" ({ cls := "ThrowArmsModel", name := "isArm", desc := "(I)Z" } : Jvm.MethodName) ({ cls := "ThrowArmsModel", name := "isArm", desc := "(I)Z" } : Jvm.MethodName) ∈ TT := tcp (List.mem_of_getElem? (i := 57) rfl) rfl
theorem twp_58 : Jvm.Cond.selects "ThrowArmsModel" ({ cls := "ThrowArmsModel", name := "sumOf", desc := "(II)I" } : Jvm.MethodName) ({ cls := "ThrowArmsModel", name := "sumOf", desc := "(II)I" } : Jvm.MethodName) ∈ TT := tcp (List.mem_of_getElem? (i := 58) rfl) rfl
theorem twp_59 : Jvm.Cond.selects "ThrowArmsModel" ({ cls := "ThrowArmsModel", name := "throwsAt", desc := "(II)I" } : Jvm.MethodName) ({ cls := "ThrowArmsModel", name := "throwsAt", desc := "(II)I" } : Jvm.MethodName) ∈ TT := tcp (List.mem_of_getElem? (i := 59) rfl) rfl
theorem twp_60 : Jvm.Cond.selects "ThrowArmsModel" ({ cls := "ThrowArmsModel", name := "slot", desc := "(II)I" } : Jvm.MethodName) ({ cls := "ThrowArmsModel", name := "slot", desc := "(II)I" } : Jvm.MethodName) ∈ TT := tcp (List.mem_of_getElem? (i := 60) rfl) rfl
theorem twp_61 : Jvm.Cond.selects "ThrowArmsModel" ({ cls := "ThrowArmsModel", name := "who", desc := "(II)I" } : Jvm.MethodName) ({ cls := "ThrowArmsModel", name := "who", desc := "(II)I" } : Jvm.MethodName) ∈ TT := tcp (List.mem_of_getElem? (i := 61) rfl) rfl
theorem twp_62 : Jvm.Cond.selects "ThrowArmsModel" ({ cls := "ThrowArmsModel", name := "worthOf", desc := "(III)I" } : Jvm.MethodName) ({ cls := "ThrowArmsModel", name := "worthOf", desc := "(III)I" } : Jvm.MethodName) ∈ TT := tcp (List.mem_of_getElem? (i := 62) rfl) rfl
theorem twp_63 : Jvm.Cond.selects "ThrowArmsModel" ({ cls := "ThrowArmsModel", name := "above", desc := "(II)I" } : Jvm.MethodName) ({ cls := "ThrowArmsModel", name := "above", desc := "(II)I" } : Jvm.MethodName) ∈ TT := tcp (List.mem_of_getElem? (i := 63) rfl) rfl
theorem twp_64 : Jvm.Cond.selects "ThrowArmsModel" ({ cls := "ThrowArmsModel", name := "pointsOf", desc := "(II)I" } : Jvm.MethodName) ({ cls := "ThrowArmsModel", name := "pointsOf", desc := "(II)I" } : Jvm.MethodName) ∈ TT := tcp (List.mem_of_getElem? (i := 64) rfl) rfl
theorem twp_65 : Jvm.Cond.selects "ThrowArmsModel" ({ cls := "ThrowArmsModel", name := "riskOf", desc := "(II)I" } : Jvm.MethodName) ({ cls := "ThrowArmsModel", name := "riskOf", desc := "(II)I" } : Jvm.MethodName) ∈ TT := tcp (List.mem_of_getElem? (i := 65) rfl) rfl
theorem twp_66 : Jvm.Cond.selects "ThrowArmsModel" ({ cls := "ThrowArmsModel", name := "isGame", desc := "(I)Z" } : Jvm.MethodName) ({ cls := "ThrowArmsModel", name := "isGame", desc := "(I)Z" } : Jvm.MethodName) ∈ TT := tcp (List.mem_of_getElem? (i := 66) rfl) rfl
theorem twp_67 : Jvm.Cond.selects "ThrowArmsModel" ({ cls := "ThrowArmsModel", name := "leftOf", desc := "(I)I" } : Jvm.MethodName) ({ cls := "ThrowArmsModel", name := "leftOf", desc := "(I)I" } : Jvm.MethodName) ∈ TT := tcp (List.mem_of_getElem? (i := 67) rfl) rfl
theorem twp_68 : Jvm.Cond.selects "ThrowArmsModel" ({ cls := "ThrowArmsModel", name := "valueOf", desc := "(I)I" } : Jvm.MethodName) ({ cls := "ThrowArmsModel", name := "valueOf", desc := "(I)I" } : Jvm.MethodName) ∈ TT := tcp (List.mem_of_getElem? (i := 68) rfl) rfl
theorem twp_69 : Jvm.Cond.selects "ThrowArmsModel" ({ cls := "ThrowArmsModel", name := "restOf", desc := "(I)I" } : Jvm.MethodName) ({ cls := "ThrowArmsModel", name := "restOf", desc := "(I)I" } : Jvm.MethodName) ∈ TT := tcp (List.mem_of_getElem? (i := 69) rfl) rfl
theorem twp_70 : Jvm.Cond.selects "ThrowArmsModel" ({ cls := "ThrowArmsModel", name := "isAllowedAt", desc := "(II)Z" } : Jvm.MethodName) ({ cls := "ThrowArmsModel", name := "isAllowedAt", desc := "(II)Z" } : Jvm.MethodName) ∈ TT := tcp (List.mem_of_getElem? (i := 70) rfl) rfl
theorem twp_71 : Jvm.Cond.selects "ThrowArmsModel" ({ cls := "ThrowArmsModel", name := "laysDays", desc := "(III)V" } : Jvm.MethodName) ({ cls := "ThrowArmsModel", name := "laysDays", desc := "(III)V" } : Jvm.MethodName) ∈ TT := tcp (List.mem_of_getElem? (i := 71) rfl) rfl
theorem twp_72 : Jvm.Cond.selects "ThrowArmsModel" ({ cls := "ThrowArmsModel", name := "isAllowed", desc := "(III)Z" } : Jvm.MethodName) ({ cls := "ThrowArmsModel", name := "isAllowed", desc := "(III)Z" } : Jvm.MethodName) ∈ TT := tcp (List.mem_of_getElem? (i := 72) rfl) rfl
theorem twp_73 : Jvm.Cond.selects "ThrowArmsModel" ({ cls := "ThrowArmsModel", name := "lately", desc := "(I)I" } : Jvm.MethodName) ({ cls := "ThrowArmsModel", name := "lately", desc := "(I)I" } : Jvm.MethodName) ∈ TT := tcp (List.mem_of_getElem? (i := 73) rfl) rfl
theorem twp_74 : Jvm.Cond.selects "ThrowArmsModel" ({ cls := "ThrowArmsModel", name := "mostOf", desc := "(II)I" } : Jvm.MethodName) ({ cls := "ThrowArmsModel", name := "mostOf", desc := "(II)I" } : Jvm.MethodName) ∈ TT := tcp (List.mem_of_getElem? (i := 74) rfl) rfl
theorem twp_75 : Jvm.Cond.selects "ThrowArmsModel" ({ cls := "ThrowArmsModel", name := "isIn", desc := "(II)Z" } : Jvm.MethodName) ({ cls := "ThrowArmsModel", name := "isIn", desc := "(II)Z" } : Jvm.MethodName) ∈ TT := tcp (List.mem_of_getElem? (i := 75) rfl) rfl
theorem twp_76 : Jvm.Cond.selects "ThrowArmsModel" ({ cls := "ThrowArmsModel", name := "mostUpTo", desc := "(III)I" } : Jvm.MethodName) ({ cls := "ThrowArmsModel", name := "mostUpTo", desc := "(III)I" } : Jvm.MethodName) ∈ TT := tcp (List.mem_of_getElem? (i := 76) rfl) rfl
theorem twp_77 : Jvm.Cond.selects "ThrowArmsModel" ({ cls := "ThrowArmsModel", name := "fullOf", desc := "(II)I" } : Jvm.MethodName) ({ cls := "ThrowArmsModel", name := "fullOf", desc := "(II)I" } : Jvm.MethodName) ∈ TT := tcp (List.mem_of_getElem? (i := 77) rfl) rfl
theorem twp_78 : Jvm.Cond.selects "ThrowArmsModel" ({ cls := "ThrowArmsModel", name := "whyNotBest", desc := "(II)I" } : Jvm.MethodName) ({ cls := "ThrowArmsModel", name := "whyNotBest", desc := "(II)I" } : Jvm.MethodName) ∈ TT := tcp (List.mem_of_getElem? (i := 78) rfl) rfl
theorem twp_79 : Jvm.Cond.selects "ThrowArmsModel" ({ cls := "ThrowArmsModel", name := "laysBest", desc := "(II)I" } : Jvm.MethodName) ({ cls := "ThrowArmsModel", name := "laysBest", desc := "(II)I" } : Jvm.MethodName) ∈ TT := tcp (List.mem_of_getElem? (i := 79) rfl) rfl
theorem twp_80 : Jvm.Cond.selects "ThrowArmsModel" ({ cls := "ThrowArmsModel", name := "rowWorth", desc := "(II)I" } : Jvm.MethodName) ({ cls := "ThrowArmsModel", name := "rowWorth", desc := "(II)I" } : Jvm.MethodName) ∈ TT := tcp (List.mem_of_getElem? (i := 80) rfl) rfl
theorem twp_81 : Jvm.Cond.selects "ThrowArmsModel" ({ cls := "ThrowArmsModel", name := "isRowAllowed", desc := "(II)Z" } : Jvm.MethodName) ({ cls := "ThrowArmsModel", name := "isRowAllowed", desc := "(II)Z" } : Jvm.MethodName) ∈ TT := tcp (List.mem_of_getElem? (i := 81) rfl) rfl
theorem twp_82 : Jvm.Cond.selects "ThrowArmsModel" ({ cls := "ThrowArmsModel", name := "nextRow", desc := "(I)Z" } : Jvm.MethodName) ({ cls := "ThrowArmsModel", name := "nextRow", desc := "(I)Z" } : Jvm.MethodName) ∈ TT := tcp (List.mem_of_getElem? (i := 82) rfl) rfl
theorem twp_83 : Jvm.Cond.selects "ThrowArmsModel" ({ cls := "ThrowArmsModel", name := "isAloneAllowed", desc := "(III)Z" } : Jvm.MethodName) ({ cls := "ThrowArmsModel", name := "isAloneAllowed", desc := "(III)Z" } : Jvm.MethodName) ∈ TT := tcp (List.mem_of_getElem? (i := 83) rfl) rfl
theorem twp_84 : Jvm.Cond.selects "ThrowArmsModel" ({ cls := "ThrowArmsModel", name := "breachAt", desc := "(I)I" } : Jvm.MethodName) ({ cls := "ThrowArmsModel", name := "breachAt", desc := "(I)I" } : Jvm.MethodName) ∈ TT := tcp (List.mem_of_getElem? (i := 84) rfl) rfl
theorem twp_85 : Jvm.Cond.selects "ThrowArmsModel" ({ cls := "ThrowArmsModel", name := "goes", desc := "(I)V" } : Jvm.MethodName) ({ cls := "ThrowArmsModel", name := "goes", desc := "(I)V" } : Jvm.MethodName) ∈ TT := tcp (List.mem_of_getElem? (i := 85) rfl) rfl
theorem twp_86 : Jvm.Cond.selects "ThrowArmsModel" ({ cls := "ThrowArmsModel", name := "remembers", desc := "()V" } : Jvm.MethodName) ({ cls := "ThrowArmsModel", name := "remembers", desc := "()V" } : Jvm.MethodName) ∈ TT := tcp (List.mem_of_getElem? (i := 86) rfl) rfl
theorem twp_87 : Jvm.Cond.selects "ThrowArmsModel" ({ cls := "ThrowArmsModel", name := "comes", desc := "(III)V" } : Jvm.MethodName) ({ cls := "ThrowArmsModel", name := "comes", desc := "(III)V" } : Jvm.MethodName) ∈ TT := tcp (List.mem_of_getElem? (i := 87) rfl) rfl
theorem twp_88 : Jvm.Cond.selects "ThrowArmsModel" ({ cls := "ThrowArmsModel", name := "exchanges", desc := "(IIII)V" } : Jvm.MethodName) ({ cls := "ThrowArmsModel", name := "exchanges", desc := "(IIII)V" } : Jvm.MethodName) ∈ TT := tcp (List.mem_of_getElem? (i := 88) rfl) rfl
theorem twp_89 : Jvm.Cond.selects "ThrowArmsModel" ({ cls := "ThrowArmsModel", name := "laysGain", desc := "()Z" } : Jvm.MethodName) ({ cls := "ThrowArmsModel", name := "laysGain", desc := "()Z" } : Jvm.MethodName) ∈ TT := tcp (List.mem_of_getElem? (i := 89) rfl) rfl
theorem twp_90 : Jvm.Cond.selects "ThrowArmsModel" ({ cls := "ThrowArmsModel", name := "fills", desc := "(I)I" } : Jvm.MethodName) ({ cls := "ThrowArmsModel", name := "fills", desc := "(I)I" } : Jvm.MethodName) ∈ TT := tcp (List.mem_of_getElem? (i := 90) rfl) rfl
theorem twp_91 : Jvm.Cond.selects "ThrowArmsModel" ({ cls := "ThrowArmsModel", name := "canBecome", desc := "(III)Z" } : Jvm.MethodName) ({ cls := "ThrowArmsModel", name := "canBecome", desc := "(III)Z" } : Jvm.MethodName) ∈ TT := tcp (List.mem_of_getElem? (i := 91) rfl) rfl
end
section
/-! The pure world of both objects after their constructors: ints and longs by cell and place; references never change. An abstract frame: pc, the listed values of the variables, the operand stack, the world. An operation is a predicate on frames turned backwards; a method's meaning is the least predicate that its operations close. -/
abbrev Wd : Type := (Nat → Nat → Int32) × (Nat → Nat → Int64)
abbrev Fr : Type := Nat → List Value → List Value → Wd → Prop
abbrev Op : Type := Fr → List Value → List Value → Wd → Prop
abbrev Kt : Type := Option Value → Wd → Prop
abbrev Mf : Type := List Value → Wd → Kt → Prop
abbrev Shp : Type := (Nat × Nat) ⊕ (Nat × List Nat)
def shp : List Shp := [.inr (10, [3, 5, 15, 23, 28, 29, 31, 38, 39, 41, 0, 0, 0]), .inr (8, [4, 0, 0, 0, 0, 0, 0, 1]), .inl (2, 800), .inr (6, [3, 6, 7, 0, 0]), .inl (3, 3), .inr (9, [0, 8, 9, 10, 0, 11, 12, 0, 13, 14]), .inl (1, 8), .inl (0, 8), .inl (0, 32), .inl (0, 60), .inl (0, 3), .inl (0, 5), .inl (0, 5), .inr (9, [0, 16, 17, 18, 0, 19, 20, 0, 21, 22]), .inl (1, 8), .inl (0, 8), .inl (0, 32), .inl (0, 60), .inl (0, 3), .inl (0, 5), .inl (0, 5), .inr (5, [24, 25, 26, 27]), .inl (0, 20), .inl (0, 60), .inl (0, 60), .inl (0, 160), .inr (1, [15, 23]), .inr (3, [28, 30, 0]), .inl (0, 20), .inr (0, [28, 29, 0, 0, 32, 33, 34, 35, 36, 37, 0]), .inl (0, 8), .inl (0, 8), .inl (0, 40), .inl (0, 6), .inl (0, 5), .inl (0, 5), .inr (2, [28, 29, 0, 0, 0, 0, 0, 0, 0]), .inr (7, [28, 40, 1, 0, 0, 0, 0, 0]), .inl (0, 8), .inr (4, [15, 23, 42, 0, 0]), .inl (0, 1800), .inr (11, [0, 0, 0, 0, 44, 0, 0, 45, 46, 47, 48, 0, 0, 0, 0, 0, 0, 0, 0, 49, 50, 51, 52, 53, 0, 54, 0, 0]), .inl (0, 800), .inl (0, 256), .inl (0, 256), .inl (0, 56), .inl (0, 56), .inl (0, 60), .inl (0, 5), .inl (0, 5), .inl (0, 8), .inl (0, 5), .inl (0, 2560)]
def roN : List String := ["TRAIT_LOW", "TRAIT_HIGH", "FACT_LOW", "FACT_HIGH", "BOUND_LOW", "BOUND_HIGH", "BOUND_WITHOUT"]
def roV : List (List Int32) := [[1, 1, 0, 0], [99, 120, 120, 9], [0, 0, 1], [59, 9, 200], [0, 0, 1], [500, 9, 60], [0, 0, 15]]
def sLen : List Nat := [3, 4, 5, 4, 4, 4, 4, 3]
def sByt : List (List Int32) := [[97, 114, 109], [108, 101, 102, 116], [114, 105, 103, 104, 116], [103, 97, 109, 101], [114, 101, 115, 116], [119, 101, 101, 107], [101, 100, 103, 101], [111, 117, 116]]
def sRef : List (String × Nat × String × Nat) := [("ThrowArms$Reade\x72", 65, "arm", 0), ("ThrowArms$Reade\x72", 131, "left", 1), ("ThrowArms$Reade\x72", 133, "right", 2), ("ThrowArms$Reade\x72", 74, "game", 3), ("ThrowArms$Reade\x72", 79, "rest", 4), ("ThrowArms$Reade\x72", 84, "week", 5), ("ThrowArms$Reade\x72", 89, "edge", 6), ("ThrowArms$Reade\x72", 91, "out", 7), ("ThrowArmsModel", 99, "arm", 0), ("ThrowArmsModel", 105, "left", 1), ("ThrowArmsModel", 107, "right", 2), ("ThrowArmsModel", 109, "game", 3), ("ThrowArmsModel", 111, "rest", 4), ("ThrowArmsModel", 113, "week", 5), ("ThrowArmsModel", 115, "edge", 6), ("ThrowArmsModel", 117, "out", 7)]
def nFld : List (String × Nat × String × String × String × String) := [("ThrowArms$Told", 44, "ThrowArms", "BOUND_WITHOUT", "[I", "ThrowArms"), ("ThrowArms$Reade\x72", 99, "ThrowArms", "TRAIT_LOW", "[I", "ThrowArms"), ("ThrowArms$Told", 57, "ThrowArms", "TRAIT_HIGH", "[I", "ThrowArms"), ("ThrowArms$Reade\x72", 141, "ThrowArms", "FACT_LOW", "[I", "ThrowArms"), ("ThrowArms$Reade\x72", 144, "ThrowArms", "FACT_HIGH", "[I", "ThrowArms"), ("ThrowArms$Reade\x72", 159, "ThrowArms", "BOUND_LOW", "[I", "ThrowArms"), ("ThrowArms$Reade\x72", 162, "ThrowArms", "BOUND_HIGH", "[I", "ThrowArms")]
def nMth : List (String × Nat × MethodName × String) := [("ThrowArms", 11, ⟨"ThrowArms$Tape", "<init>", "()V"⟩, "ThrowArms"), ("ThrowArms$Reade\x72", 17, ⟨"ThrowArms$Told", "<init>", "()V"⟩, "ThrowArms"), ("ThrowArms", 27, ⟨"ThrowArms$Told", "<init>", "()V"⟩, "ThrowArms"), ("ThrowArms", 34, ⟨"ThrowArms$Plan", "<init>", "()V"⟩, "ThrowArms"), ("ThrowArms$Reade\x72", 168, ⟨"ThrowArms", "within", "(III)Z"⟩, "ThrowArms"), ("ThrowArms$Book", 78, ⟨"ThrowArms", "within", "(III)Z"⟩, "ThrowArms")]
def upI (w : Wd) (c j : Nat) (v : Int32) : Wd := (fun a b => if a = c ∧ b = j then v else w.1 a b, w.2)
def upL (w : Wd) (c j : Nat) (v : Int64) : Wd := (w.1, fun a b => if a = c ∧ b = j then v else w.2 a b)
def cpI (w : Wd) (c : Nat) (f : Nat → Int32) (sp dp n : Nat) : Wd := (fun a b => if a = c then va_cpy f (w.1 c) sp dp n b else w.1 a b, w.2)
def cpL (w : Wd) (c : Nat) (f : Nat → Int64) (sp dp n : Nat) : Wd := (w.1, fun a b => if a = c then va_cpy f (w.2 c) sp dp n b else w.2 a b)
def vl (ad : Nat → Nat) (v : Value) : Value := match v with
  | .ref c => .ref (ad c)
  | u => u
def fvA (w : Wd) (c j k : Nat) : Value := match k with
  | 0 => .int (w.1 c j)
  | 1 => .long (w.2 c j)
  | d + 2 => .ref d
def arE (w : Wd) (c t : Nat) : (Nat → Int32) ⊕ (Nat → Int64) ⊕ (Nat → UInt32) ⊕ (Nat → UInt64) ⊕ (Nat → Option Nat) := match t with
  | 1 => .inr (.inl (w.2 c))
  | _ => .inl (w.1 c)
def cellE (ad : Nat → Nat) (cA : Nat → ClassId) (w : Wd) (c : Nat) (sh : Shp) : va_E := match sh with
  | .inl q => .inl (cA q.1, q.2, arE w c q.1)
  | .inr q => .inr (q.1, q.2.mapIdx (fun j k => vl ad (fvA w c j k)))
def Cells (ad : Nat → Nat) (cA : Nat → ClassId) (w : Wd) : va_W := shp.mapIdx (fun c sh => (ad c, cellE ad cA w c sh))
theorem Cells_get {ad : Nat → Nat} {cA : Nat → ClassId} {w : Wd} {c : Nat} {sh : Shp} (h : shp[c]? = some sh) : (Cells ad cA w)[c]? = some (ad c, cellE ad cA w c sh) := by
  simp [Cells, List.getElem?_mapIdx, h]
theorem Cells_back {ad : Nat → Nat} {cA : Nat → ClassId} {w : Wd} {c : Nat} {q : Nat × va_E} (h : (Cells ad cA w)[c]? = some q) : c < 53 ∧ q.1 = ad c := by
  simp only [Cells, List.getElem?_mapIdx] at h
  cases hs : shp[c]? with
  | none => rw [hs] at h; cases h
  | some sh =>
    rw [hs] at h
    have h1 := (List.getElem?_eq_some_iff.mp hs).1
    have h2 : shp.length = 53 := rfl
    simp at h
    rw [← h]
    exact ⟨by omega, rfl⟩
theorem cellE_congr {ad : Nat → Nat} {cA : Nat → ClassId} {w w' : Wd} {k : Nat} (h1 : w'.1 k = w.1 k) (h2 : w'.2 k = w.2 k) (sh : Shp) : cellE ad cA w' k sh = cellE ad cA w k sh := by
  cases sh with
  | inl q =>
    show Sum.inl (cA q.1, q.2, arE w' k q.1) = Sum.inl (cA q.1, q.2, arE w k q.1)
    have e : arE w' k q.1 = arE w k q.1 := by
      unfold arE
      split
      · rw [h2]
      · rw [h1]
    rw [e]
  | inr q =>
    show Sum.inr (q.1, q.2.mapIdx (fun j kd => vl ad (fvA w' k j kd))) = Sum.inr (q.1, q.2.mapIdx (fun j kd => vl ad (fvA w k j kd)))
    have e : (fun j kd => vl ad (fvA w' k j kd)) = (fun j kd => vl ad (fvA w k j kd)) := by
      funext j kd
      have : fvA w' k j kd = fvA w k j kd := by
        unfold fvA
        split
        · rw [h1]
        · rw [h2]
        · rfl
      rw [this]
    rw [e]
theorem Cells_set {ad : Nat → Nat} {cA : Nat → ClassId} {w w' : Wd} {c : Nat} {sh : Shp} {E : va_E} (h : shp[c]? = some sh) (ho : ∀ a, a ≠ c → w'.1 a = w.1 a ∧ w'.2 a = w.2 a) (hE : E = cellE ad cA w' c sh) : (Cells ad cA w).set c (ad c, E) = Cells ad cA w' := by
  subst hE
  apply List.ext_getElem?
  intro k
  rw [List.getElem?_set]
  by_cases hk : c = k
  · subst hk
    have hl : c < (Cells ad cA w).length := by simp [Cells]; exact (List.getElem?_eq_some_iff.mp h).1
    rw [if_pos rfl, if_pos hl]
    exact (Cells_get h).symm
  · rw [if_neg hk]
    simp only [Cells, List.getElem?_mapIdx]
    cases hs : shp[k]? with
    | none => rfl
    | some q =>
      have e := cellE_congr (ad := ad) (cA := cA) (ho k (Ne.symm hk)).1 (ho k (Ne.symm hk)).2 q
      simp [e]
def tysL (cA : Nat → ClassId) : List (ClassId × FieldType) := [(cA 0, .int), (cA 1, .long), (cA 2, .byte), (cA 3, .boolean)]
def AA (ad : Nat → Nat) : Nat → Prop := fun q => ∃ c, c < 53 ∧ q = ad c
def Inj (ad : Nat → Nat) : Prop := ∀ i j, i < 53 → j < 53 → ad i = ad j → i = j
theorem Cells_D {ad : Nat → Nat} {cA : Nat → ClassId} {w : Wd} (hi : Inj ad) : va_D (AA ad) (Cells ad cA w) := by
  refine ⟨fun i j p q h1 h2 h3 => ?_, fun k q h => ?_⟩
  · have a := Cells_back h1
    have b := Cells_back h2
    exact hi i j a.1 b.1 (by rw [← a.2, ← b.2]; exact h3)
  · have a := Cells_back h
    exact ⟨k, a.1, a.2⟩
/-- what isn't of the world: static arrays, texts, links among nest mates -/
def RO (ad adV : Nat → Nat) (U : State) (H : Heap) : Prop :=
  (∀ k, k < 7 → va_Z "ThrowArms" (roN.getD k "") "[I" (.ref (ad (100 + k))) (AA ad) U H ∧ va_T .int (ad (100 + k)) (roV.getD k []).length (fun j => .int ((roV.getD k []).getD j 0)) (AA ad) U H) ∧
  vk_S 8 sLen sByt (fun i => ad (200 + i)) adV (AA ad) U H ∧
  (∀ q ∈ sRef, vk_R q.1 q.2.1 q.2.2.1 (ad (200 + q.2.2.2)) U) ∧
  (∀ q ∈ nFld, va_Nw (.fieldLinkNest q.1 q.2.1 q.2.2.1 q.2.2.2.1 q.2.2.2.2.1 q.2.2.2.2.2) U) ∧
  (∀ q ∈ nMth, va_Nw (.methodLinkNest q.1 q.2.1 q.2.2.1 q.2.2.2) U)
theorem RO.same {ad adV : Nat → Nat} {u U : State} {H : Heap} (hv : u.vm = U.vm) (ha : u.vm.Alike U.vm) (h : RO ad adV u H) : RO ad adV U H :=
  ⟨fun k hk => ⟨va_Z.moved ha (h.1 k hk).1, va_T.moved ha (h.1 k hk).2⟩, vk_S.moved ha h.2.1, fun q hq => vk_R.same hv.symm (h.2.2.1 q hq), fun q hq => va_Nw.same rfl hv (h.2.2.2.1 q hq), fun q hq => va_Nw.same rfl hv (h.2.2.2.2 q hq)⟩
theorem RO.warm {ad adV : Nat → Nat} {u U : State} {H : Heap} (hW : u.WarmedH U.vm) (h : RO ad adV u H) : RO ad adV U H :=
  ⟨fun k hk => ⟨va_Z.moved hW.alike (h.1 k hk).1, va_T.moved hW.alike (h.1 k hk).2⟩, vk_S.moved hW.alike h.2.1, fun q hq => vk_R.warm hW (h.2.2.1 q hq), fun q hq => va_Nw.warmF hW (h.2.2.2.1 q hq), fun q hq => va_Nw.warmM hW (h.2.2.2.2 q hq)⟩
theorem RO.kept {ad adV : Nat → Nat} {U : State} {H H1 : Heap} (hq : ∀ a : Nat, a < H.size → ¬ AA ad a → H1[a]? = H[a]?) (h : RO ad adV U H) : RO ad adV U H1 :=
  ⟨fun k hk => ⟨(h.1 k hk).1.kept hq, (h.1 k hk).2.kept hq⟩, h.2.1.kept hq, h.2.2.1, h.2.2.2.1, h.2.2.2.2⟩
def Inv (D : va_G) (ad adV : Nat → Nat) (cA : Nat → ClassId) (w : Wd) (U : State) : Prop := va_P D vwCl (Cells ad cA w) U.heap ∧ va_K D vwCl (tysL cA) U ∧ Inj ad ∧ RO ad adV U U.heap
def QQ (D : va_G) (ad : Nat → Nat) (cA : Nat → ClassId) (K : Kt) : Array Value → State → Outcome → State → Prop := fun _ st oc t => ∃ (r : Option Value) (w' : Wd), K r w' ∧ oc = .returned (r.map (vl ad)) ∧ va_P D vwCl (Cells ad cA w') t.heap ∧ va_F (AA ad) st t
def rmd (d : Nat) : Room := { frames := d, cells := 0, slots := 0, locals := 40 * d }
/-- the machine's method meets the meaning f -/
def Okm (l : Launch) (y : MethodName) (cc : ByteArray) (maxL : Nat) (ret : Option FieldType) (d : Nat) (f : Mf) : Prop :=
  ∀ (D : va_G) (ad adV : Nat → Nat) (cA : Nat → ClassId) (As : List Value) (w : Wd) (K : Kt), f As w K → Met l y (.code y cc maxL ret :: TT) (rmd d) (va_Pc (As.map (vl ad)) (Inv D ad adV cA w)) (QQ D ad cA K) 0 0 (AA ad)
/-! variables -/
def hasL (ad : Nat → Nat) (ls : Array Slot) (nL : Nat) (L : List Value) : Prop := ls.size = nL ∧ lv_wf ls ∧ ∀ (i : Nat) (v : Value), L[i]? = some v → v ≠ .null → ls[i]? = some (.val (vl ad v))
def lvs (ad : Nat → Nat) (L : List Value) : List (Nat × Value) := (L.zipIdx.filter (fun q => decide (q.1 ≠ .null))).map (fun q => (q.2, vl ad q.1))
theorem lvs_mem {ad : Nat → Nat} {L : List Value} {q : Nat × Value} : q ∈ lvs ad L ↔ ∃ u, L[q.1]? = some u ∧ u ≠ .null ∧ q.2 = vl ad u := by
  obtain ⟨i, v⟩ := q
  simp only [lvs, List.mem_map, List.mem_filter, decide_eq_true_eq]
  constructor
  · rintro ⟨⟨u, j⟩, ⟨h1, h2⟩, h3⟩
    cases h3
    exact ⟨u, by simpa [List.mem_zipIdx_iff_getElem?] using h1, h2, rfl⟩
  · rintro ⟨u, h1, h2, rfl⟩
    exact ⟨(u, i), ⟨by simpa [List.mem_zipIdx_iff_getElem?] using h1, h2⟩, rfl⟩
theorem hasL_lv {ad : Nat → Nat} {ls : Array Slot} {nL : Nat} {L : List Value} (h : hasL ad ls nL L) : lv_has ls nL (lvs ad L) := by
  refine ⟨h.1, h.2.1, fun q hq => ?_⟩
  obtain ⟨u, h1, h2, h3⟩ := lvs_mem.mp hq
  rw [h3]
  exact h.2.2 q.1 u h1 h2
theorem hasL_get {ad : Nat → Nat} {ls : Array Slot} {nL : Nat} {L : List Value} (h : hasL ad ls nL L) {i : Nat} {v : Value} (e : L.getD i .null = v) (hn : v ≠ .null) : ls[i]? = some (.val (vl ad v)) := by
  refine h.2.2 i v ?_ hn
  rw [List.getD_eq_getElem?_getD] at e
  cases hs : L[i]? with
  | none => rw [hs] at e; exact absurd e.symm hn
  | some u => rw [hs] at e; simpa using e
def prevL (L : List Value) (i : Nat) : List Value := bif (L.getD (i - 1) .null).category == 2 then L.set (i - 1) .null else L
def stI (L : List Value) (i : Nat) (v : Value) : List Value := (prevL L i).set i v
def stL (L : List Value) (i : Nat) (v : Value) : List Value := ((prevL L i).set (i + 1) .null).set i v
theorem vl_cat (ad : Nat → Nat) (v : Value) : (vl ad v).category = v.category := by
  cases v <;> rfl
theorem prevL_get {L : List Value} {i j : Nat} {u : Value} (hj : j ≠ i) (h : (prevL L i)[j]? = some u) (hn : u ≠ .null) : L[j]? = some u ∧ ¬ (j + 1 = i ∧ u.category = 2) := by
  unfold prevL at h
  cases hc : ((L.getD (i - 1) .null).category == 2) with
  | true =>
    rw [hc] at h
    simp only [cond_true] at h
    rw [List.getElem?_set] at h
    by_cases e : i - 1 = j
    · rw [if_pos e] at h
      split at h
      · exact absurd (Option.some.inj h).symm hn
      · cases h
    · rw [if_neg e] at h
      exact ⟨h, fun z => e (by omega)⟩
  | false =>
    rw [hc] at h
    simp only [cond_false] at h
    refine ⟨h, fun z => ?_⟩
    have e : i - 1 = j := by omega
    rw [e, List.getD_eq_getElem?_getD, h] at hc
    simp [z.2] at hc
theorem hasL_stI {ad : Nat → Nat} {ls' : Array Slot} {nL : Nat} {L : List Value} {i : Nat} {v : Value} (h : lv_has ls' nL ((i, vl ad v) :: (lvs ad L).filter (fun q => !(q.1 == i) && !(q.1 + 1 == i && q.2.category == 2)))) : hasL ad ls' nL (stI L i v) := by
  refine ⟨h.1, h.2.1, fun j u hj hu => ?_⟩
  unfold stI at hj
  rw [List.getElem?_set] at hj
  by_cases e : i = j
  · subst e
    rw [if_pos rfl] at hj
    split at hj
    · rw [← Option.some.inj hj]
      exact h.2.2 (i, vl ad v) List.mem_cons_self
    · cases hj
  · rw [if_neg e] at hj
    obtain ⟨h1, h2⟩ := prevL_get (Ne.symm e) hj hu
    refine h.2.2 (j, vl ad u) (List.mem_cons_of_mem _ (List.mem_filter.mpr ⟨lvs_mem.mpr ⟨u, h1, hu, rfl⟩, ?_⟩))
    have e1 : (j == i) = false := by simp; exact Ne.symm e
    simp only [e1, vl_cat, Bool.not_false, Bool.true_and]
    cases h3 : (j + 1 == i && u.category == 2) with
    | false => rfl
    | true => exact absurd (by simpa using h3) h2
theorem hasL_stL {ad : Nat → Nat} {ls' : Array Slot} {nL : Nat} {L : List Value} {i : Nat} {v : Value} (h : lv_has ls' nL ((i, vl ad v) :: (lvs ad L).filter (fun q => !(q.1 == i) && (!(q.1 == i + 1) && !(q.1 + 1 == i && q.2.category == 2))))) : hasL ad ls' nL (stL L i v) := by
  refine ⟨h.1, h.2.1, fun j u hj hu => ?_⟩
  unfold stL at hj
  rw [List.getElem?_set] at hj
  by_cases e : i = j
  · subst e
    rw [if_pos rfl] at hj
    split at hj
    · rw [← Option.some.inj hj]
      exact h.2.2 (i, vl ad v) List.mem_cons_self
    · cases hj
  · rw [if_neg e] at hj
    rw [List.getElem?_set] at hj
    by_cases e2 : i + 1 = j
    · rw [if_pos e2] at hj
      split at hj
      · exact absurd (Option.some.inj hj).symm hu
      · cases hj
    · rw [if_neg e2] at hj
      obtain ⟨h1, h2⟩ := prevL_get (Ne.symm e) hj hu
      refine h.2.2 (j, vl ad u) (List.mem_cons_of_mem _ (List.mem_filter.mpr ⟨lvs_mem.mpr ⟨u, h1, hu, rfl⟩, ?_⟩))
      have e1 : (j == i) = false := by simp; exact Ne.symm e
      have e3 : (j == i + 1) = false := by simp; exact Ne.symm e2
      simp only [e1, e3, vl_cat, Bool.not_false, Bool.true_and]
      cases h3 : (j + 1 == i && u.category == 2) with
      | false => rfl
      | true => exact absurd (by simpa using h3) h2
/-! the least predicate -/
def RR (tab : Nat → Op) : Fr := fun pc L st w => ∀ P : Fr, (∀ pc L st w, tab pc P L st w → P pc L st w) → P pc L st w
def Mono (op : Op) : Prop := ∀ P Q : Fr, (∀ pc L st w, P pc L st w → Q pc L st w) → ∀ L st w, op P L st w → op Q L st w
theorem RR.step {tab : Nat → Op} {pc : Nat} {op : Op} (ht : tab pc = op) (hm : Mono op) {L st : List Value} {w : Wd} (h : op (RR tab) L st w) : RR tab pc L st w := by
  intro P hP
  refine hP pc L st w ?_
  rw [ht]
  exact hm (RR tab) P (fun pc L st w hr => hr P hP) L st w h
/-- the frame of a method at a pc, over any heap that holds the world -/
def Gd (p : Program) (l : Launch) (e : Env) (R : Room) (s : State) (m : MethodId) (args : Array Value) (below : List Frame) (meth : Method) (c : Code) (Q : State → Prop) (D : va_G) (ad : Nat → Nat) (cA : Nat → ClassId) (nL : Nat) : Fr := fun pc L st w =>
  ∀ (H : Heap) (locs : List Loc) (ls : Array Slot), va_P D vwCl (Cells ad cA w) H → va_S (AA ad) s.heap H locs → hasL ad ls nL L → W p l e R s m args below meth c H locs 0 0 Q (F0 m pc ls (st.map (vl ad)))
def Sd (p : Program) (l : Launch) (e : Env) (R : Room) (s : State) (m : MethodId) (args : Array Value) (below : List Frame) (meth : Method) (c : Code) (Q : State → Prop) (D : va_G) (ad : Nat → Nat) (cA : Nat → ClassId) (nL : Nat) (pc : Nat) (op : Op) : Prop :=
  ∀ (L st : List Value) (w : Wd), op (Gd p l e R s m args below meth c Q D ad cA nL) L st w → Gd p l e R s m args below meth c Q D ad cA nL pc L st w
def Cx (p : Program) (s : State) (m : MethodId) (args : Array Value) (meth : Method) (c : Code) (D : va_G) (ad adV : Nat → Nat) (cA : Nat → ClassId) (cc : ByteArray) (nL : Nat) (own : String) : Prop :=
  p.tables.exec = Jvm.exec ∧ c.code = cc ∧ c.maxLocals = nL ∧ s.vm.findClass own = some m.cls ∧ (∀ w ∈ TT, w.before args s = true) ∧ va_K D vwCl (tysL cA) s ∧ Inj ad ∧ RO ad adV s s.heap ∧ meth.locks = false
end
section
def o_pushI (x : Int32) (nx : Nat) : Op := fun P L st w => P nx L (.int x :: st) w
def o_pushL (x : Int64) (nx : Nat) : Op := fun P L st w => P nx L (.long x :: st) w
def o_pushR (x : Nat) (nx : Nat) : Op := fun P L st w => P nx L (.ref x :: st) w
def o_iload (i nx : Nat) : Op := fun P L st w => match L.getD i .null with
  | .int x => P nx L (.int x :: st) w
  | _ => False
def o_lload (i nx : Nat) : Op := fun P L st w => match L.getD i .null with
  | .long x => P nx L (.long x :: st) w
  | _ => False
def o_aload (i nx : Nat) : Op := fun P L st w => match L.getD i .null with
  | .ref x => P nx L (.ref x :: st) w
  | _ => False
def o_istore (i nx : Nat) : Op := fun P L st w => match st with
  | .int x :: r => P nx (stI L i (.int x)) r w
  | _ => False
def o_lstore (i nx : Nat) : Op := fun P L st w => match st with
  | .long x :: r => P nx (stL L i (.long x)) r w
  | _ => False
def o_iinc (i : Nat) (a : Int32) (nx : Nat) : Op := fun P L st w => match L.getD i .null with
  | .int x => P nx (stI L i (.int (x + a))) st w
  | _ => False
def o_iadd (nx : Nat) : Op := fun P L st w => match st with
  | .int y :: .int x :: r => P nx L (.int (x + y) :: r) w
  | _ => False
def o_isub (nx : Nat) : Op := fun P L st w => match st with
  | .int y :: .int x :: r => P nx L (.int (x - y) :: r) w
  | _ => False
def o_imul (nx : Nat) : Op := fun P L st w => match st with
  | .int y :: .int x :: r => P nx L (.int (x * y) :: r) w
  | _ => False
def o_iand (nx : Nat) : Op := fun P L st w => match st with
  | .int y :: .int x :: r => P nx L (.int (x &&& y) :: r) w
  | _ => False
def o_ior (nx : Nat) : Op := fun P L st w => match st with
  | .int y :: .int x :: r => P nx L (.int (x ||| y) :: r) w
  | _ => False
def o_ixor (nx : Nat) : Op := fun P L st w => match st with
  | .int y :: .int x :: r => P nx L (.int (x ^^^ y) :: r) w
  | _ => False
def o_ishl (nx : Nat) : Op := fun P L st w => match st with
  | .int y :: .int x :: r => P nx L (.int (x <<< (y &&& 31)) :: r) w
  | _ => False
def o_ishr (nx : Nat) : Op := fun P L st w => match st with
  | .int y :: .int x :: r => P nx L (.int (x >>> (y &&& 31)) :: r) w
  | _ => False
def o_iushr (nx : Nat) : Op := fun P L st w => match st with
  | .int y :: .int x :: r => P nx L (.int ((x.toUInt32 >>> (y.toUInt32 &&& Int32.toUInt32 31)).toInt32) :: r) w
  | _ => False
def o_idiv (nx : Nat) : Op := fun P L st w => match st with
  | .int y :: .int x :: r => ¬ y = 0 ∧ P nx L (.int (x / y) :: r) w
  | _ => False
def o_irem (nx : Nat) : Op := fun P L st w => match st with
  | .int y :: .int x :: r => ¬ y = 0 ∧ P nx L (.int (x - x / y * y) :: r) w
  | _ => False
def o_lmul (nx : Nat) : Op := fun P L st w => match st with
  | .long y :: .long x :: r => P nx L (.long (x * y) :: r) w
  | _ => False
def o_lor (nx : Nat) : Op := fun P L st w => match st with
  | .long y :: .long x :: r => P nx L (.long (x ||| y) :: r) w
  | _ => False
def o_ldiv (nx : Nat) : Op := fun P L st w => match st with
  | .long y :: .long x :: r => ¬ y = 0 ∧ P nx L (.long (x / y) :: r) w
  | _ => False
def o_lrem (nx : Nat) : Op := fun P L st w => match st with
  | .long y :: .long x :: r => ¬ y = 0 ∧ P nx L (.long (x - x / y * y) :: r) w
  | _ => False
def o_lshl (nx : Nat) : Op := fun P L st w => match st with
  | .int y :: .long x :: r => P nx L (.long (x <<< (y.toInt64 &&& 63)) :: r) w
  | _ => False
def o_lcmp (nx : Nat) : Op := fun P L st w => match st with
  | .long y :: .long x :: r => P nx L (.int (lg_cmp x y) :: r) w
  | _ => False
def o_i2l (nx : Nat) : Op := fun P L st w => match st with
  | .int x :: r => P nx L (.long x.toInt64 :: r) w
  | _ => False
def o_i2b (nx : Nat) : Op := fun P L st w => match st with
  | .int x :: r => P nx L (.int x.toInt8.toInt32 :: r) w
  | _ => False
def o_dup (nx : Nat) : Op := fun P L st w => match st with
  | .int x :: r => P nx L (.int x :: .int x :: r) w
  | .ref x :: r => P nx L (.ref x :: .ref x :: r) w
  | _ => False
def o_pop (nx : Nat) : Op := fun P L st w => match st with
  | .int _ :: r => P nx L r w
  | _ => False
def o_dup2 (nx : Nat) : Op := fun P L st w => match st with
  | .int y :: .ref x :: r => P nx L (.int y :: .ref x :: .int y :: .ref x :: r) w
  | _ => False
def o_if_eq (tg nx : Nat) : Op := fun P L st w => match st with
  | .int x :: r => (x = 0 → P tg L r w) ∧ (¬ (x = 0) → P nx L r w)
  | _ => False
def o_if_ne (tg nx : Nat) : Op := fun P L st w => match st with
  | .int x :: r => (¬ x = 0 → P tg L r w) ∧ (x = 0 → P nx L r w)
  | _ => False
def o_if_lt (tg nx : Nat) : Op := fun P L st w => match st with
  | .int x :: r => (x < 0 → P tg L r w) ∧ (¬ (x < 0) → P nx L r w)
  | _ => False
def o_if_ge (tg nx : Nat) : Op := fun P L st w => match st with
  | .int x :: r => (0 ≤ x → P tg L r w) ∧ (¬ (0 ≤ x) → P nx L r w)
  | _ => False
def o_if_gt (tg nx : Nat) : Op := fun P L st w => match st with
  | .int x :: r => (0 < x → P tg L r w) ∧ (¬ (0 < x) → P nx L r w)
  | _ => False
def o_if_le (tg nx : Nat) : Op := fun P L st w => match st with
  | .int x :: r => (x ≤ 0 → P tg L r w) ∧ (¬ (x ≤ 0) → P nx L r w)
  | _ => False
def o_icmp_eq (tg nx : Nat) : Op := fun P L st w => match st with
  | .int y :: .int x :: r => (x = y → P tg L r w) ∧ (¬ (x = y) → P nx L r w)
  | _ => False
def o_icmp_ne (tg nx : Nat) : Op := fun P L st w => match st with
  | .int y :: .int x :: r => (¬ x = y → P tg L r w) ∧ (x = y → P nx L r w)
  | _ => False
def o_icmp_lt (tg nx : Nat) : Op := fun P L st w => match st with
  | .int y :: .int x :: r => (x < y → P tg L r w) ∧ (¬ (x < y) → P nx L r w)
  | _ => False
def o_icmp_ge (tg nx : Nat) : Op := fun P L st w => match st with
  | .int y :: .int x :: r => (y ≤ x → P tg L r w) ∧ (¬ (y ≤ x) → P nx L r w)
  | _ => False
def o_icmp_gt (tg nx : Nat) : Op := fun P L st w => match st with
  | .int y :: .int x :: r => (y < x → P tg L r w) ∧ (¬ (y < x) → P nx L r w)
  | _ => False
def o_icmp_le (tg nx : Nat) : Op := fun P L st w => match st with
  | .int y :: .int x :: r => (x ≤ y → P tg L r w) ∧ (¬ (x ≤ y) → P nx L r w)
  | _ => False
def o_goto (tg : Nat) : Op := fun P L st w => P tg L st w
def o_table (lo hi : Int) (df : Nat) (tg : List Nat) : Op := fun P L st w => match st with
  | .int x :: r => (x.toInt < lo ∨ hi < x.toInt → P df L r w) ∧ ∀ (k t : Nat), tg[k]? = some t → x.toInt = lo + k → P t L r w
  | _ => False
def o_get (ci k nx : Nat) : Op := fun P L st w => match st with
  | .ref x :: r => match shp[x]? with
    | some (.inr q) => bif q.1 == ci then (match q.2[k]? with
      | some kd => P nx L (fvA w x k kd :: r) w
      | none => False) else False
    | _ => False
  | _ => False
def o_putI (ci k nx : Nat) : Op := fun P L st w => match st with
  | .int v :: .ref x :: r => match shp[x]? with
    | some (.inr q) => bif q.1 == ci && q.2[k]? == some 0 then P nx L r (upI w x k v) else False
    | _ => False
  | _ => False
def o_putL (ci k nx : Nat) : Op := fun P L st w => match st with
  | .long v :: .ref x :: r => match shp[x]? with
    | some (.inr q) => bif q.1 == ci && q.2[k]? == some 1 then P nx L r (upL w x k v) else False
    | _ => False
  | _ => False
theorem m_pushI (x : Int32) (nx : Nat) : Mono (o_pushI x nx) := by
  intro P Q hpq L st w h
  exact hpq _ _ _ _ h
theorem m_pushL (x : Int64) (nx : Nat) : Mono (o_pushL x nx) := by
  intro P Q hpq L st w h
  exact hpq _ _ _ _ h
theorem m_pushR (x : Nat) (nx : Nat) : Mono (o_pushR x nx) := by
  intro P Q hpq L st w h
  exact hpq _ _ _ _ h
theorem m_iload (i nx : Nat) : Mono (o_iload i nx) := by
  intro P Q hpq L st w h
  unfold o_iload at h ⊢
  split at h
  · exact hpq _ _ _ _ h
  · exact h.elim
theorem m_lload (i nx : Nat) : Mono (o_lload i nx) := by
  intro P Q hpq L st w h
  unfold o_lload at h ⊢
  split at h
  · exact hpq _ _ _ _ h
  · exact h.elim
theorem m_aload (i nx : Nat) : Mono (o_aload i nx) := by
  intro P Q hpq L st w h
  unfold o_aload at h ⊢
  split at h
  · exact hpq _ _ _ _ h
  · exact h.elim
theorem m_istore (i nx : Nat) : Mono (o_istore i nx) := by
  intro P Q hpq L st w h
  unfold o_istore at h ⊢
  split at h
  · exact hpq _ _ _ _ h
  · exact h.elim
theorem m_lstore (i nx : Nat) : Mono (o_lstore i nx) := by
  intro P Q hpq L st w h
  unfold o_lstore at h ⊢
  split at h
  · exact hpq _ _ _ _ h
  · exact h.elim
theorem m_iinc (i : Nat) (a : Int32) (nx : Nat) : Mono (o_iinc i a nx) := by
  intro P Q hpq L st w h
  unfold o_iinc at h ⊢
  split at h
  · exact hpq _ _ _ _ h
  · exact h.elim
theorem m_iadd (nx : Nat) : Mono (o_iadd nx) := by
  intro P Q hpq L st w h
  unfold o_iadd at h ⊢
  split at h
  · exact hpq _ _ _ _ h
  · exact h.elim
theorem m_isub (nx : Nat) : Mono (o_isub nx) := by
  intro P Q hpq L st w h
  unfold o_isub at h ⊢
  split at h
  · exact hpq _ _ _ _ h
  · exact h.elim
theorem m_imul (nx : Nat) : Mono (o_imul nx) := by
  intro P Q hpq L st w h
  unfold o_imul at h ⊢
  split at h
  · exact hpq _ _ _ _ h
  · exact h.elim
theorem m_iand (nx : Nat) : Mono (o_iand nx) := by
  intro P Q hpq L st w h
  unfold o_iand at h ⊢
  split at h
  · exact hpq _ _ _ _ h
  · exact h.elim
theorem m_ior (nx : Nat) : Mono (o_ior nx) := by
  intro P Q hpq L st w h
  unfold o_ior at h ⊢
  split at h
  · exact hpq _ _ _ _ h
  · exact h.elim
theorem m_ixor (nx : Nat) : Mono (o_ixor nx) := by
  intro P Q hpq L st w h
  unfold o_ixor at h ⊢
  split at h
  · exact hpq _ _ _ _ h
  · exact h.elim
theorem m_ishl (nx : Nat) : Mono (o_ishl nx) := by
  intro P Q hpq L st w h
  unfold o_ishl at h ⊢
  split at h
  · exact hpq _ _ _ _ h
  · exact h.elim
theorem m_ishr (nx : Nat) : Mono (o_ishr nx) := by
  intro P Q hpq L st w h
  unfold o_ishr at h ⊢
  split at h
  · exact hpq _ _ _ _ h
  · exact h.elim
theorem m_iushr (nx : Nat) : Mono (o_iushr nx) := by
  intro P Q hpq L st w h
  unfold o_iushr at h ⊢
  split at h
  · exact hpq _ _ _ _ h
  · exact h.elim
theorem m_idiv (nx : Nat) : Mono (o_idiv nx) := by
  intro P Q hpq L st w h
  unfold o_idiv at h ⊢
  split at h
  · exact ⟨h.1, hpq _ _ _ _ h.2⟩
  · exact h.elim
theorem m_irem (nx : Nat) : Mono (o_irem nx) := by
  intro P Q hpq L st w h
  unfold o_irem at h ⊢
  split at h
  · exact ⟨h.1, hpq _ _ _ _ h.2⟩
  · exact h.elim
theorem m_lmul (nx : Nat) : Mono (o_lmul nx) := by
  intro P Q hpq L st w h
  unfold o_lmul at h ⊢
  split at h
  · exact hpq _ _ _ _ h
  · exact h.elim
theorem m_lor (nx : Nat) : Mono (o_lor nx) := by
  intro P Q hpq L st w h
  unfold o_lor at h ⊢
  split at h
  · exact hpq _ _ _ _ h
  · exact h.elim
theorem m_ldiv (nx : Nat) : Mono (o_ldiv nx) := by
  intro P Q hpq L st w h
  unfold o_ldiv at h ⊢
  split at h
  · exact ⟨h.1, hpq _ _ _ _ h.2⟩
  · exact h.elim
theorem m_lrem (nx : Nat) : Mono (o_lrem nx) := by
  intro P Q hpq L st w h
  unfold o_lrem at h ⊢
  split at h
  · exact ⟨h.1, hpq _ _ _ _ h.2⟩
  · exact h.elim
theorem m_lshl (nx : Nat) : Mono (o_lshl nx) := by
  intro P Q hpq L st w h
  unfold o_lshl at h ⊢
  split at h
  · exact hpq _ _ _ _ h
  · exact h.elim
theorem m_lcmp (nx : Nat) : Mono (o_lcmp nx) := by
  intro P Q hpq L st w h
  unfold o_lcmp at h ⊢
  split at h
  · exact hpq _ _ _ _ h
  · exact h.elim
theorem m_i2l (nx : Nat) : Mono (o_i2l nx) := by
  intro P Q hpq L st w h
  unfold o_i2l at h ⊢
  split at h
  · exact hpq _ _ _ _ h
  · exact h.elim
theorem m_i2b (nx : Nat) : Mono (o_i2b nx) := by
  intro P Q hpq L st w h
  unfold o_i2b at h ⊢
  split at h
  · exact hpq _ _ _ _ h
  · exact h.elim
theorem m_dup (nx : Nat) : Mono (o_dup nx) := by
  intro P Q hpq L st w h
  unfold o_dup at h ⊢
  split at h
  · exact hpq _ _ _ _ h
  · exact hpq _ _ _ _ h
  · exact h.elim
theorem m_pop (nx : Nat) : Mono (o_pop nx) := by
  intro P Q hpq L st w h
  unfold o_pop at h ⊢
  split at h
  · exact hpq _ _ _ _ h
  · exact h.elim
theorem m_dup2 (nx : Nat) : Mono (o_dup2 nx) := by
  intro P Q hpq L st w h
  unfold o_dup2 at h ⊢
  split at h
  · exact hpq _ _ _ _ h
  · exact h.elim
theorem m_if_eq (tg nx : Nat) : Mono (o_if_eq tg nx) := by
  intro P Q hpq L st w h
  unfold o_if_eq at h ⊢
  split at h
  · exact ⟨fun z => hpq _ _ _ _ (h.1 z), fun z => hpq _ _ _ _ (h.2 z)⟩
  · exact h.elim
theorem m_if_ne (tg nx : Nat) : Mono (o_if_ne tg nx) := by
  intro P Q hpq L st w h
  unfold o_if_ne at h ⊢
  split at h
  · exact ⟨fun z => hpq _ _ _ _ (h.1 z), fun z => hpq _ _ _ _ (h.2 z)⟩
  · exact h.elim
theorem m_if_lt (tg nx : Nat) : Mono (o_if_lt tg nx) := by
  intro P Q hpq L st w h
  unfold o_if_lt at h ⊢
  split at h
  · exact ⟨fun z => hpq _ _ _ _ (h.1 z), fun z => hpq _ _ _ _ (h.2 z)⟩
  · exact h.elim
theorem m_if_ge (tg nx : Nat) : Mono (o_if_ge tg nx) := by
  intro P Q hpq L st w h
  unfold o_if_ge at h ⊢
  split at h
  · exact ⟨fun z => hpq _ _ _ _ (h.1 z), fun z => hpq _ _ _ _ (h.2 z)⟩
  · exact h.elim
theorem m_if_gt (tg nx : Nat) : Mono (o_if_gt tg nx) := by
  intro P Q hpq L st w h
  unfold o_if_gt at h ⊢
  split at h
  · exact ⟨fun z => hpq _ _ _ _ (h.1 z), fun z => hpq _ _ _ _ (h.2 z)⟩
  · exact h.elim
theorem m_if_le (tg nx : Nat) : Mono (o_if_le tg nx) := by
  intro P Q hpq L st w h
  unfold o_if_le at h ⊢
  split at h
  · exact ⟨fun z => hpq _ _ _ _ (h.1 z), fun z => hpq _ _ _ _ (h.2 z)⟩
  · exact h.elim
theorem m_icmp_eq (tg nx : Nat) : Mono (o_icmp_eq tg nx) := by
  intro P Q hpq L st w h
  unfold o_icmp_eq at h ⊢
  split at h
  · exact ⟨fun z => hpq _ _ _ _ (h.1 z), fun z => hpq _ _ _ _ (h.2 z)⟩
  · exact h.elim
theorem m_icmp_ne (tg nx : Nat) : Mono (o_icmp_ne tg nx) := by
  intro P Q hpq L st w h
  unfold o_icmp_ne at h ⊢
  split at h
  · exact ⟨fun z => hpq _ _ _ _ (h.1 z), fun z => hpq _ _ _ _ (h.2 z)⟩
  · exact h.elim
theorem m_icmp_lt (tg nx : Nat) : Mono (o_icmp_lt tg nx) := by
  intro P Q hpq L st w h
  unfold o_icmp_lt at h ⊢
  split at h
  · exact ⟨fun z => hpq _ _ _ _ (h.1 z), fun z => hpq _ _ _ _ (h.2 z)⟩
  · exact h.elim
theorem m_icmp_ge (tg nx : Nat) : Mono (o_icmp_ge tg nx) := by
  intro P Q hpq L st w h
  unfold o_icmp_ge at h ⊢
  split at h
  · exact ⟨fun z => hpq _ _ _ _ (h.1 z), fun z => hpq _ _ _ _ (h.2 z)⟩
  · exact h.elim
theorem m_icmp_gt (tg nx : Nat) : Mono (o_icmp_gt tg nx) := by
  intro P Q hpq L st w h
  unfold o_icmp_gt at h ⊢
  split at h
  · exact ⟨fun z => hpq _ _ _ _ (h.1 z), fun z => hpq _ _ _ _ (h.2 z)⟩
  · exact h.elim
theorem m_icmp_le (tg nx : Nat) : Mono (o_icmp_le tg nx) := by
  intro P Q hpq L st w h
  unfold o_icmp_le at h ⊢
  split at h
  · exact ⟨fun z => hpq _ _ _ _ (h.1 z), fun z => hpq _ _ _ _ (h.2 z)⟩
  · exact h.elim
theorem m_goto (tg : Nat) : Mono (o_goto tg) := by
  intro P Q hpq L st w h
  exact hpq _ _ _ _ h
theorem m_table (lo hi : Int) (df : Nat) (tg : List Nat) : Mono (o_table lo hi df tg) := by
  intro P Q hpq L st w h
  unfold o_table at h ⊢
  split at h
  · exact ⟨fun z => hpq _ _ _ _ (h.1 z), fun k t z1 z2 => hpq _ _ _ _ (h.2 k t z1 z2)⟩
  · exact h.elim
theorem m_get (ci k nx : Nat) : Mono (o_get ci k nx) := by
  intro P Q hpq L st w h
  unfold o_get at h ⊢
  split at h
  · split at h
    · rename_i q hq
      cases hc : (q.1 == ci) with
      | true =>
        simp only [hc, cond_true] at h ⊢
        split at h
        · exact hpq _ _ _ _ h
        · exact h.elim
      | false => simp only [hc, cond_false] at h
    · exact h.elim
  · exact h.elim
theorem m_putI (ci k nx : Nat) : Mono (o_putI ci k nx) := by
  intro P Q hpq L st w h
  unfold o_putI at h ⊢
  split at h
  · split at h
    · rename_i q hq
      cases hc : (q.1 == ci && q.2[k]? == some 0) with
      | true =>
        simp only [hc, cond_true] at h ⊢
        exact hpq _ _ _ _ h
      | false => simp only [hc, cond_false] at h
    · exact h.elim
  · exact h.elim
theorem m_putL (ci k nx : Nat) : Mono (o_putL ci k nx) := by
  intro P Q hpq L st w h
  unfold o_putL at h ⊢
  split at h
  · split at h
    · rename_i q hq
      cases hc : (q.1 == ci && q.2[k]? == some 1) with
      | true =>
        simp only [hc, cond_true] at h ⊢
        exact hpq _ _ _ _ h
      | false => simp only [hc, cond_false] at h
    · exact h.elim
  · exact h.elim
section OPS
variable {p : Program} {l : Launch} {e : Env} {R : Room} {s : State} {m : MethodId} {args : Array Value} {below : List Frame} {meth : Method} {c : Code} {Q : State → Prop} {D : va_G} {ad adV : Nat → Nat} {cA : Nat → ClassId} {cc : ByteArray} {nL : Nat} {own : String}
theorem s_iconst (C0 : Cx p s m args meth c D ad adV cA cc nL own) {pc : Nat} {n : Int} {v : Int32} (d : decode cc pc = .ok (.iconst n, 1)) (hv : Int32.ofInt n = v) : Sd p l e R s m args below meth c Q D ad cA nL pc (o_pushI v (pc + 1)) := by
  intro L st w h H locs ls hP hS hL
  exact lv_iconst C0.1 C0.2.1 d hv (h H locs ls hP hS hL)
theorem s_bipush (C0 : Cx p s m args meth c D ad adV cA cc nL own) {pc : Nat} {n : Int} {v : Int32} (d : decode cc pc = .ok (.bipush n, 2)) (hv : (Int8.ofInt n).toInt32 = v) : Sd p l e R s m args below meth c Q D ad cA nL pc (o_pushI v (pc + 2)) := by
  intro L st w h H locs ls hP hS hL
  exact lv_bipush C0.1 C0.2.1 d hv (h H locs ls hP hS hL)
theorem s_sipush (C0 : Cx p s m args meth c D ad adV cA cc nL own) {pc : Nat} {n : Int} {v : Int32} (d : decode cc pc = .ok (.sipush n, 3)) (hv : (Int16.ofInt n).toInt32 = v) : Sd p l e R s m args below meth c Q D ad cA nL pc (o_pushI v (pc + 3)) := by
  intro L st w h H locs ls hP hS hL
  exact lv_sipush C0.1 C0.2.1 d hv (h H locs ls hP hS hL)
theorem s_ldc (C0 : Cx p s m args meth c D ad adV cA cc nL own) {pc : Nat} {index : Nat} {v : Int32} (d : decode cc pc = .ok (.ldc index, 2)) (ht : Cond.constant own index v ∈ TT) : Sd p l e R s m args below meth c Q D ad cA nL pc (o_pushI v (pc + 2)) := by
  intro L st w h H locs ls hP hS hL
  exact lv_ldc C0.1 C0.2.1 C0.2.2.2.1 (C0.2.2.2.2.1 _ ht) d (h H locs ls hP hS hL)
theorem s_ldcw (C0 : Cx p s m args meth c D ad adV cA cc nL own) {pc : Nat} {index : Nat} {v : Int32} (d : decode cc pc = .ok (.ldc_w index, 3)) (ht : Cond.constant own index v ∈ TT) : Sd p l e R s m args below meth c Q D ad cA nL pc (o_pushI v (pc + 3)) := by
  intro L st w h H locs ls hP hS hL
  exact lv_ldcw C0.1 C0.2.1 C0.2.2.2.1 (C0.2.2.2.2.1 _ ht) d (h H locs ls hP hS hL)
theorem s_lconst (C0 : Cx p s m args meth c D ad adV cA cc nL own) {pc : Nat} {n : Fin 2} {v : Int64} (d : decode cc pc = .ok (.lconst n, 1)) (hv : Int64.ofNat (n : Nat) = v) : Sd p l e R s m args below meth c Q D ad cA nL pc (o_pushL v (pc + 1)) := by
  intro L st w h H locs ls hP hS hL
  exact lv_lconst C0.1 C0.2.1 d hv (h H locs ls hP hS hL)
theorem s_ldc2 (C0 : Cx p s m args meth c D ad adV cA cc nL own) {pc : Nat} {index : Nat} {v : Int64} (d : decode cc pc = .ok (.ldc2_w index, 3)) (ht : Cond.constantLong own index v ∈ TT) : Sd p l e R s m args below meth c Q D ad cA nL pc (o_pushL v (pc + 3)) := by
  intro L st w h H locs ls hP hS hL
  exact lv_ldc2 C0.1 C0.2.1 C0.2.2.2.1 (C0.2.2.2.2.1 _ ht) d (h H locs ls hP hS hL)
theorem s_ldcS (C0 : Cx p s m args meth c D ad adV cA cc nL own) {pc : Nat} {index : Nat} {tx : String} {k : Nat} (d : decode cc pc = .ok (.ldc index, 2)) (ht : (own, index, tx, k) ∈ sRef) : Sd p l e R s m args below meth c Q D ad cA nL pc (o_pushR (200 + k) (pc + 2)) := by
  intro L st w h H locs ls hP hS hL
  exact va_ldcS C0.1 C0.2.1 C0.2.2.2.1 (C0.2.2.2.2.2.2.2.1.2.2.1 _ ht) d (h H locs ls hP hS hL)
theorem s_gets (C0 : Cx p s m args meth c D ad adV cA cc nL own) {pc : Nat} {index : Nat} {nm : String} {k : Nat} (d : decode cc pc = .ok (.getstatic index, 3)) (ht : Cond.fieldLink own index "ThrowArms" nm "[I" ∈ TT) (hk : k < 7) (hn : roN.getD k "" = nm) : Sd p l e R s m args below meth c Q D ad cA nL pc (o_pushR (100 + k) (pc + 3)) := by
  intro L st w h H locs ls hP hS hL
  subst hn
  exact va_gets C0.1 C0.2.1 (C0.2.2.2.2.2.2.2.1.1 k hk).1 hS C0.2.2.2.1 (C0.2.2.2.2.1 _ ht) (fun _ h => h) d (h H locs ls hP hS hL)
theorem s_getsN (C0 : Cx p s m args meth c D ad adV cA cc nL own) {pc : Nat} {index : Nat} {nm host : String} {k : Nat} (d : decode cc pc = .ok (.getstatic index, 3)) (ht : (own, index, "ThrowArms", nm, "[I", host) ∈ nFld) (hk : k < 7) (hn : roN.getD k "" = nm) : Sd p l e R s m args below meth c Q D ad cA nL pc (o_pushR (100 + k) (pc + 3)) := by
  intro L st w h H locs ls hP hS hL
  subst hn
  exact va_getsN C0.1 C0.2.1 (C0.2.2.2.2.2.2.2.1.1 k hk).1 hS C0.2.2.2.1 (va_Nw.use rfl (C0.2.2.2.2.2.2.2.1.2.2.2.1 _ ht)) (fun _ h => h) d (h H locs ls hP hS hL)
theorem s_iload_n (C0 : Cx p s m args meth c D ad adV cA cc nL own) {pc : Nat} {k : Fin 4} {i : Nat} (d : decode cc pc = .ok (.iload_n k, 1)) (hi : (k : Nat) = i) : Sd p l e R s m args below meth c Q D ad cA nL pc (o_iload i (pc + 1)) := by
  intro L st w h H locs ls hP hS hL
  unfold o_iload at h
  split at h
  · exact lv_iload_n C0.1 C0.2.1 d hi (hasL_get hL ‹_› (by simp)) (h H locs ls hP hS hL)
  · exact h.elim
theorem s_iload (C0 : Cx p s m args meth c D ad adV cA cc nL own) {pc : Nat} {i : Nat} (d : decode cc pc = .ok (.iload i, 2)) : Sd p l e R s m args below meth c Q D ad cA nL pc (o_iload i (pc + 2)) := by
  intro L st w h H locs ls hP hS hL
  unfold o_iload at h
  split at h
  · exact lv_iload C0.1 C0.2.1 d (hasL_get hL ‹_› (by simp)) (h H locs ls hP hS hL)
  · exact h.elim
theorem s_lload_n (C0 : Cx p s m args meth c D ad adV cA cc nL own) {pc : Nat} {k : Fin 4} {i : Nat} (d : decode cc pc = .ok (.lload_n k, 1)) (hi : (k : Nat) = i) : Sd p l e R s m args below meth c Q D ad cA nL pc (o_lload i (pc + 1)) := by
  intro L st w h H locs ls hP hS hL
  unfold o_lload at h
  split at h
  · exact lv_lload_n C0.1 C0.2.1 d hi (hasL_get hL ‹_› (by simp)) (h H locs ls hP hS hL)
  · exact h.elim
theorem s_lload (C0 : Cx p s m args meth c D ad adV cA cc nL own) {pc : Nat} {i : Nat} (d : decode cc pc = .ok (.lload i, 2)) : Sd p l e R s m args below meth c Q D ad cA nL pc (o_lload i (pc + 2)) := by
  intro L st w h H locs ls hP hS hL
  unfold o_lload at h
  split at h
  · exact lv_lload C0.1 C0.2.1 d (hasL_get hL ‹_› (by simp)) (h H locs ls hP hS hL)
  · exact h.elim
theorem s_aload_n (C0 : Cx p s m args meth c D ad adV cA cc nL own) {pc : Nat} {k : Fin 4} {i : Nat} (d : decode cc pc = .ok (.aload_n k, 1)) (hi : (k : Nat) = i) : Sd p l e R s m args below meth c Q D ad cA nL pc (o_aload i (pc + 1)) := by
  intro L st w h H locs ls hP hS hL
  unfold o_aload at h
  split at h
  · exact lv_aload_n C0.1 C0.2.1 d hi (hasL_get hL ‹_› (by simp)) (h H locs ls hP hS hL)
  · exact h.elim
theorem s_aload (C0 : Cx p s m args meth c D ad adV cA cc nL own) {pc : Nat} {i : Nat} (d : decode cc pc = .ok (.aload i, 2)) : Sd p l e R s m args below meth c Q D ad cA nL pc (o_aload i (pc + 2)) := by
  intro L st w h H locs ls hP hS hL
  unfold o_aload at h
  split at h
  · exact lv_aload C0.1 C0.2.1 d (hasL_get hL ‹_› (by simp)) (h H locs ls hP hS hL)
  · exact h.elim
theorem s_istore_n (C0 : Cx p s m args meth c D ad adV cA cc nL own) {pc : Nat} {k : Fin 4} {i : Nat} (d : decode cc pc = .ok (.istore_n k, 1)) (hi : (k : Nat) = i) (hn : i < nL) : Sd p l e R s m args below meth c Q D ad cA nL pc (o_istore i (pc + 1)) := by
  intro L st w h H locs ls hP hS hL
  unfold o_istore at h
  split at h
  · exact lv_istore_n C0.1 C0.2.1 d hi (hasL_lv hL) hn rfl (fun ls1 h1 => h H locs ls1 hP hS (hasL_stI h1))
  · exact h.elim
theorem s_istore (C0 : Cx p s m args meth c D ad adV cA cc nL own) {pc : Nat} {i : Nat} (d : decode cc pc = .ok (.istore i, 2)) (hn : i < nL) : Sd p l e R s m args below meth c Q D ad cA nL pc (o_istore i (pc + 2)) := by
  intro L st w h H locs ls hP hS hL
  unfold o_istore at h
  split at h
  · exact lv_istore C0.1 C0.2.1 d (hasL_lv hL) hn rfl (fun ls1 h1 => h H locs ls1 hP hS (hasL_stI h1))
  · exact h.elim
theorem s_lstore_n (C0 : Cx p s m args meth c D ad adV cA cc nL own) {pc : Nat} {k : Fin 4} {i : Nat} (d : decode cc pc = .ok (.lstore_n k, 1)) (hi : (k : Nat) = i) (hn : i + 1 < nL) : Sd p l e R s m args below meth c Q D ad cA nL pc (o_lstore i (pc + 1)) := by
  intro L st w h H locs ls hP hS hL
  unfold o_lstore at h
  split at h
  · exact lv_lstore_n C0.1 C0.2.1 d hi (hasL_lv hL) hn rfl (fun ls1 h1 => h H locs ls1 hP hS (hasL_stL h1))
  · exact h.elim
theorem s_lstore (C0 : Cx p s m args meth c D ad adV cA cc nL own) {pc : Nat} {i : Nat} (d : decode cc pc = .ok (.lstore i, 2)) (hn : i + 1 < nL) : Sd p l e R s m args below meth c Q D ad cA nL pc (o_lstore i (pc + 2)) := by
  intro L st w h H locs ls hP hS hL
  unfold o_lstore at h
  split at h
  · exact lv_lstore C0.1 C0.2.1 d (hasL_lv hL) hn rfl (fun ls1 h1 => h H locs ls1 hP hS (hasL_stL h1))
  · exact h.elim
theorem s_iinc (C0 : Cx p s m args meth c D ad adV cA cc nL own) {pc : Nat} {i : Nat} {n : Int} {a : Int32} (d : decode cc pc = .ok (.iinc i n, 3)) (ha : Int32.ofInt n = a) (hn : i < nL) : Sd p l e R s m args below meth c Q D ad cA nL pc (o_iinc i a (pc + 3)) := by
  intro L st w h H locs ls hP hS hL
  unfold o_iinc at h
  split at h
  · rename_i x hx
    have hm : (i, vl ad (.int x)) ∈ lvs ad L := lvs_mem.mpr ⟨.int x, by
      show L[i]? = some (.int x)
      rw [List.getD_eq_getElem?_getD] at hx
      cases hs : L[i]? with
      | none => rw [hs] at hx; cases hx
      | some u => rw [hs] at hx; simpa using hx, by simp, rfl⟩
    obtain ⟨k, hk⟩ := List.getElem?_of_mem hm
    exact lv_iinc (k := k) C0.1 C0.2.1 d (hasL_lv hL) hk (by rw [ha]) hn rfl (fun ls1 h1 => h H locs ls1 hP hS (hasL_stI (v := .int (x + a)) h1))
  · exact h.elim
theorem s_iadd (C0 : Cx p s m args meth c D ad adV cA cc nL own) {pc : Nat} (d : decode cc pc = .ok (.iadd, 1)) : Sd p l e R s m args below meth c Q D ad cA nL pc (o_iadd (pc + 1)) := by
  intro L st w h H locs ls hP hS hL
  unfold o_iadd at h
  split at h
  · exact lv_iadd C0.1 C0.2.1 d (h H locs ls hP hS hL)
  · exact h.elim
theorem s_isub (C0 : Cx p s m args meth c D ad adV cA cc nL own) {pc : Nat} (d : decode cc pc = .ok (.isub, 1)) : Sd p l e R s m args below meth c Q D ad cA nL pc (o_isub (pc + 1)) := by
  intro L st w h H locs ls hP hS hL
  unfold o_isub at h
  split at h
  · exact lv_isub C0.1 C0.2.1 d (h H locs ls hP hS hL)
  · exact h.elim
theorem s_imul (C0 : Cx p s m args meth c D ad adV cA cc nL own) {pc : Nat} (d : decode cc pc = .ok (.imul, 1)) : Sd p l e R s m args below meth c Q D ad cA nL pc (o_imul (pc + 1)) := by
  intro L st w h H locs ls hP hS hL
  unfold o_imul at h
  split at h
  · exact lv_imul C0.1 C0.2.1 d (h H locs ls hP hS hL)
  · exact h.elim
theorem s_iand (C0 : Cx p s m args meth c D ad adV cA cc nL own) {pc : Nat} (d : decode cc pc = .ok (.iand, 1)) : Sd p l e R s m args below meth c Q D ad cA nL pc (o_iand (pc + 1)) := by
  intro L st w h H locs ls hP hS hL
  unfold o_iand at h
  split at h
  · exact lv_iand C0.1 C0.2.1 d (h H locs ls hP hS hL)
  · exact h.elim
theorem s_ior (C0 : Cx p s m args meth c D ad adV cA cc nL own) {pc : Nat} (d : decode cc pc = .ok (.ior, 1)) : Sd p l e R s m args below meth c Q D ad cA nL pc (o_ior (pc + 1)) := by
  intro L st w h H locs ls hP hS hL
  unfold o_ior at h
  split at h
  · exact lv_ior C0.1 C0.2.1 d (h H locs ls hP hS hL)
  · exact h.elim
theorem s_ixor (C0 : Cx p s m args meth c D ad adV cA cc nL own) {pc : Nat} (d : decode cc pc = .ok (.ixor, 1)) : Sd p l e R s m args below meth c Q D ad cA nL pc (o_ixor (pc + 1)) := by
  intro L st w h H locs ls hP hS hL
  unfold o_ixor at h
  split at h
  · exact lv_ixor C0.1 C0.2.1 d (h H locs ls hP hS hL)
  · exact h.elim
theorem s_ishl (C0 : Cx p s m args meth c D ad adV cA cc nL own) {pc : Nat} (d : decode cc pc = .ok (.ishl, 1)) : Sd p l e R s m args below meth c Q D ad cA nL pc (o_ishl (pc + 1)) := by
  intro L st w h H locs ls hP hS hL
  unfold o_ishl at h
  split at h
  · exact lv_ishl C0.1 C0.2.1 d (h H locs ls hP hS hL)
  · exact h.elim
theorem s_ishr (C0 : Cx p s m args meth c D ad adV cA cc nL own) {pc : Nat} (d : decode cc pc = .ok (.ishr, 1)) : Sd p l e R s m args below meth c Q D ad cA nL pc (o_ishr (pc + 1)) := by
  intro L st w h H locs ls hP hS hL
  unfold o_ishr at h
  split at h
  · exact lv_ishr C0.1 C0.2.1 d (h H locs ls hP hS hL)
  · exact h.elim
theorem s_iushr (C0 : Cx p s m args meth c D ad adV cA cc nL own) {pc : Nat} (d : decode cc pc = .ok (.iushr, 1)) : Sd p l e R s m args below meth c Q D ad cA nL pc (o_iushr (pc + 1)) := by
  intro L st w h H locs ls hP hS hL
  unfold o_iushr at h
  split at h
  · exact lv_iushr C0.1 C0.2.1 d rfl (h H locs ls hP hS hL)
  · exact h.elim
theorem s_idiv (C0 : Cx p s m args meth c D ad adV cA cc nL own) {pc : Nat} (d : decode cc pc = .ok (.idiv, 1)) : Sd p l e R s m args below meth c Q D ad cA nL pc (o_idiv (pc + 1)) := by
  intro L st w h H locs ls hP hS hL
  unfold o_idiv at h
  split at h
  · exact lv_idiv C0.1 C0.2.1 d h.1 (h.2 H locs ls hP hS hL)
  · exact h.elim
theorem s_irem (C0 : Cx p s m args meth c D ad adV cA cc nL own) {pc : Nat} (d : decode cc pc = .ok (.irem, 1)) : Sd p l e R s m args below meth c Q D ad cA nL pc (o_irem (pc + 1)) := by
  intro L st w h H locs ls hP hS hL
  unfold o_irem at h
  split at h
  · exact lv_irem C0.1 C0.2.1 d h.1 (h.2 H locs ls hP hS hL)
  · exact h.elim
theorem s_lmul (C0 : Cx p s m args meth c D ad adV cA cc nL own) {pc : Nat} (d : decode cc pc = .ok (.lmul, 1)) : Sd p l e R s m args below meth c Q D ad cA nL pc (o_lmul (pc + 1)) := by
  intro L st w h H locs ls hP hS hL
  unfold o_lmul at h
  split at h
  · exact lv_lmul C0.1 C0.2.1 d (h H locs ls hP hS hL)
  · exact h.elim
theorem s_lor (C0 : Cx p s m args meth c D ad adV cA cc nL own) {pc : Nat} (d : decode cc pc = .ok (.lor, 1)) : Sd p l e R s m args below meth c Q D ad cA nL pc (o_lor (pc + 1)) := by
  intro L st w h H locs ls hP hS hL
  unfold o_lor at h
  split at h
  · exact lv_lor C0.1 C0.2.1 d (h H locs ls hP hS hL)
  · exact h.elim
theorem s_ldiv (C0 : Cx p s m args meth c D ad adV cA cc nL own) {pc : Nat} (d : decode cc pc = .ok (.ldiv, 1)) : Sd p l e R s m args below meth c Q D ad cA nL pc (o_ldiv (pc + 1)) := by
  intro L st w h H locs ls hP hS hL
  unfold o_ldiv at h
  split at h
  · exact lv_ldiv C0.1 C0.2.1 d h.1 (h.2 H locs ls hP hS hL)
  · exact h.elim
theorem s_lrem (C0 : Cx p s m args meth c D ad adV cA cc nL own) {pc : Nat} (d : decode cc pc = .ok (.lrem, 1)) : Sd p l e R s m args below meth c Q D ad cA nL pc (o_lrem (pc + 1)) := by
  intro L st w h H locs ls hP hS hL
  unfold o_lrem at h
  split at h
  · exact lv_lrem C0.1 C0.2.1 d h.1 (h.2 H locs ls hP hS hL)
  · exact h.elim
theorem s_lshl (C0 : Cx p s m args meth c D ad adV cA cc nL own) {pc : Nat} (d : decode cc pc = .ok (.lshl, 1)) : Sd p l e R s m args below meth c Q D ad cA nL pc (o_lshl (pc + 1)) := by
  intro L st w h H locs ls hP hS hL
  unfold o_lshl at h
  split at h
  · exact lv_lshl C0.1 C0.2.1 d rfl (h H locs ls hP hS hL)
  · exact h.elim
theorem s_lcmp (C0 : Cx p s m args meth c D ad adV cA cc nL own) {pc : Nat} (d : decode cc pc = .ok (.lcmp, 1)) : Sd p l e R s m args below meth c Q D ad cA nL pc (o_lcmp (pc + 1)) := by
  intro L st w h H locs ls hP hS hL
  unfold o_lcmp at h
  split at h
  · exact W.lcmp C0.1 C0.2.1 d (h H locs ls hP hS hL)
  · exact h.elim
theorem s_i2l (C0 : Cx p s m args meth c D ad adV cA cc nL own) {pc : Nat} (d : decode cc pc = .ok (.i2l, 1)) : Sd p l e R s m args below meth c Q D ad cA nL pc (o_i2l (pc + 1)) := by
  intro L st w h H locs ls hP hS hL
  unfold o_i2l at h
  split at h
  · exact lv_i2l C0.1 C0.2.1 d rfl (h H locs ls hP hS hL)
  · exact h.elim
theorem s_i2b (C0 : Cx p s m args meth c D ad adV cA cc nL own) {pc : Nat} (d : decode cc pc = .ok (.i2b, 1)) : Sd p l e R s m args below meth c Q D ad cA nL pc (o_i2b (pc + 1)) := by
  intro L st w h H locs ls hP hS hL
  unfold o_i2b at h
  split at h
  · exact lv_i2b C0.1 C0.2.1 d rfl (h H locs ls hP hS hL)
  · exact h.elim
theorem s_dup (C0 : Cx p s m args meth c D ad adV cA cc nL own) {pc : Nat} (d : decode cc pc = .ok (.dup, 1)) : Sd p l e R s m args below meth c Q D ad cA nL pc (o_dup (pc + 1)) := by
  intro L st w h H locs ls hP hS hL
  unfold o_dup at h
  split at h
  · exact lv_dup C0.1 C0.2.1 d rfl (h H locs ls hP hS hL)
  · exact lv_dup C0.1 C0.2.1 d rfl (h H locs ls hP hS hL)
  · exact h.elim
theorem s_pop (C0 : Cx p s m args meth c D ad adV cA cc nL own) {pc : Nat} (d : decode cc pc = .ok (.pop, 1)) : Sd p l e R s m args below meth c Q D ad cA nL pc (o_pop (pc + 1)) := by
  intro L st w h H locs ls hP hS hL
  unfold o_pop at h
  split at h
  · exact lv_pop C0.1 C0.2.1 d rfl (h H locs ls hP hS hL)
  · exact h.elim
theorem s_dup2 (C0 : Cx p s m args meth c D ad adV cA cc nL own) {pc : Nat} (d : decode cc pc = .ok (.dup2, 1)) : Sd p l e R s m args below meth c Q D ad cA nL pc (o_dup2 (pc + 1)) := by
  intro L st w h H locs ls hP hS hL
  unfold o_dup2 at h
  split at h
  · exact lv_dup2_11 C0.1 C0.2.1 d rfl rfl (h H locs ls hP hS hL)
  · exact h.elim
theorem s_if_eq (C0 : Cx p s m args meth c D ad adV cA cc nL own) {pc : Nat} {off : Int} {tg : Nat} (d : decode cc pc = .ok (.ifCond .eq off, 3)) (ht : (pc : Int) + off = (tg : Int)) : Sd p l e R s m args below meth c Q D ad cA nL pc (o_if_eq tg (pc + 3)) := by
  intro L st w h H locs ls hP hS hL
  unfold o_if_eq at h
  split at h
  · exact lv_if_eq C0.1 C0.2.1 d ht (fun z => h.1 z H locs ls hP hS hL) (fun z => h.2 z H locs ls hP hS hL)
  · exact h.elim
theorem s_if_ne (C0 : Cx p s m args meth c D ad adV cA cc nL own) {pc : Nat} {off : Int} {tg : Nat} (d : decode cc pc = .ok (.ifCond .ne off, 3)) (ht : (pc : Int) + off = (tg : Int)) : Sd p l e R s m args below meth c Q D ad cA nL pc (o_if_ne tg (pc + 3)) := by
  intro L st w h H locs ls hP hS hL
  unfold o_if_ne at h
  split at h
  · exact lv_if_ne C0.1 C0.2.1 d ht (fun z => h.1 z H locs ls hP hS hL) (fun z => h.2 z H locs ls hP hS hL)
  · exact h.elim
theorem s_if_lt (C0 : Cx p s m args meth c D ad adV cA cc nL own) {pc : Nat} {off : Int} {tg : Nat} (d : decode cc pc = .ok (.ifCond .lt off, 3)) (ht : (pc : Int) + off = (tg : Int)) : Sd p l e R s m args below meth c Q D ad cA nL pc (o_if_lt tg (pc + 3)) := by
  intro L st w h H locs ls hP hS hL
  unfold o_if_lt at h
  split at h
  · exact lv_if_lt C0.1 C0.2.1 d ht (fun z => h.1 z H locs ls hP hS hL) (fun z => h.2 z H locs ls hP hS hL)
  · exact h.elim
theorem s_if_ge (C0 : Cx p s m args meth c D ad adV cA cc nL own) {pc : Nat} {off : Int} {tg : Nat} (d : decode cc pc = .ok (.ifCond .ge off, 3)) (ht : (pc : Int) + off = (tg : Int)) : Sd p l e R s m args below meth c Q D ad cA nL pc (o_if_ge tg (pc + 3)) := by
  intro L st w h H locs ls hP hS hL
  unfold o_if_ge at h
  split at h
  · exact lv_if_ge C0.1 C0.2.1 d ht (fun z => h.1 z H locs ls hP hS hL) (fun z => h.2 z H locs ls hP hS hL)
  · exact h.elim
theorem s_if_gt (C0 : Cx p s m args meth c D ad adV cA cc nL own) {pc : Nat} {off : Int} {tg : Nat} (d : decode cc pc = .ok (.ifCond .gt off, 3)) (ht : (pc : Int) + off = (tg : Int)) : Sd p l e R s m args below meth c Q D ad cA nL pc (o_if_gt tg (pc + 3)) := by
  intro L st w h H locs ls hP hS hL
  unfold o_if_gt at h
  split at h
  · exact lv_if_gt C0.1 C0.2.1 d ht (fun z => h.1 z H locs ls hP hS hL) (fun z => h.2 z H locs ls hP hS hL)
  · exact h.elim
theorem s_if_le (C0 : Cx p s m args meth c D ad adV cA cc nL own) {pc : Nat} {off : Int} {tg : Nat} (d : decode cc pc = .ok (.ifCond .le off, 3)) (ht : (pc : Int) + off = (tg : Int)) : Sd p l e R s m args below meth c Q D ad cA nL pc (o_if_le tg (pc + 3)) := by
  intro L st w h H locs ls hP hS hL
  unfold o_if_le at h
  split at h
  · exact lv_if_le C0.1 C0.2.1 d ht (fun z => h.1 z H locs ls hP hS hL) (fun z => h.2 z H locs ls hP hS hL)
  · exact h.elim
theorem s_icmp_eq (C0 : Cx p s m args meth c D ad adV cA cc nL own) {pc : Nat} {off : Int} {tg : Nat} (d : decode cc pc = .ok (.if_icmp .eq off, 3)) (ht : (pc : Int) + off = (tg : Int)) : Sd p l e R s m args below meth c Q D ad cA nL pc (o_icmp_eq tg (pc + 3)) := by
  intro L st w h H locs ls hP hS hL
  unfold o_icmp_eq at h
  split at h
  · exact lv_icmp_eq C0.1 C0.2.1 d ht (fun z => h.1 z H locs ls hP hS hL) (fun z => h.2 z H locs ls hP hS hL)
  · exact h.elim
theorem s_icmp_ne (C0 : Cx p s m args meth c D ad adV cA cc nL own) {pc : Nat} {off : Int} {tg : Nat} (d : decode cc pc = .ok (.if_icmp .ne off, 3)) (ht : (pc : Int) + off = (tg : Int)) : Sd p l e R s m args below meth c Q D ad cA nL pc (o_icmp_ne tg (pc + 3)) := by
  intro L st w h H locs ls hP hS hL
  unfold o_icmp_ne at h
  split at h
  · exact lv_icmp_ne C0.1 C0.2.1 d ht (fun z => h.1 z H locs ls hP hS hL) (fun z => h.2 z H locs ls hP hS hL)
  · exact h.elim
theorem s_icmp_lt (C0 : Cx p s m args meth c D ad adV cA cc nL own) {pc : Nat} {off : Int} {tg : Nat} (d : decode cc pc = .ok (.if_icmp .lt off, 3)) (ht : (pc : Int) + off = (tg : Int)) : Sd p l e R s m args below meth c Q D ad cA nL pc (o_icmp_lt tg (pc + 3)) := by
  intro L st w h H locs ls hP hS hL
  unfold o_icmp_lt at h
  split at h
  · exact lv_icmp_lt C0.1 C0.2.1 d ht (fun z => h.1 z H locs ls hP hS hL) (fun z => h.2 z H locs ls hP hS hL)
  · exact h.elim
theorem s_icmp_ge (C0 : Cx p s m args meth c D ad adV cA cc nL own) {pc : Nat} {off : Int} {tg : Nat} (d : decode cc pc = .ok (.if_icmp .ge off, 3)) (ht : (pc : Int) + off = (tg : Int)) : Sd p l e R s m args below meth c Q D ad cA nL pc (o_icmp_ge tg (pc + 3)) := by
  intro L st w h H locs ls hP hS hL
  unfold o_icmp_ge at h
  split at h
  · exact lv_icmp_ge C0.1 C0.2.1 d ht (fun z => h.1 z H locs ls hP hS hL) (fun z => h.2 z H locs ls hP hS hL)
  · exact h.elim
theorem s_icmp_gt (C0 : Cx p s m args meth c D ad adV cA cc nL own) {pc : Nat} {off : Int} {tg : Nat} (d : decode cc pc = .ok (.if_icmp .gt off, 3)) (ht : (pc : Int) + off = (tg : Int)) : Sd p l e R s m args below meth c Q D ad cA nL pc (o_icmp_gt tg (pc + 3)) := by
  intro L st w h H locs ls hP hS hL
  unfold o_icmp_gt at h
  split at h
  · exact lv_icmp_gt C0.1 C0.2.1 d ht (fun z => h.1 z H locs ls hP hS hL) (fun z => h.2 z H locs ls hP hS hL)
  · exact h.elim
theorem s_icmp_le (C0 : Cx p s m args meth c D ad adV cA cc nL own) {pc : Nat} {off : Int} {tg : Nat} (d : decode cc pc = .ok (.if_icmp .le off, 3)) (ht : (pc : Int) + off = (tg : Int)) : Sd p l e R s m args below meth c Q D ad cA nL pc (o_icmp_le tg (pc + 3)) := by
  intro L st w h H locs ls hP hS hL
  unfold o_icmp_le at h
  split at h
  · exact lv_icmp_le C0.1 C0.2.1 d ht (fun z => h.1 z H locs ls hP hS hL) (fun z => h.2 z H locs ls hP hS hL)
  · exact h.elim
theorem s_goto (C0 : Cx p s m args meth c D ad adV cA cc nL own) {pc : Nat} {off : Int} {tg : Nat} (d : decode cc pc = .ok (.goto off, 3)) (ht : (pc : Int) + off = (tg : Int)) : Sd p l e R s m args below meth c Q D ad cA nL pc (o_goto tg) := by
  intro L st w h H locs ls hP hS hL
  exact lv_goto C0.1 C0.2.1 d ht (h H locs ls hP hS hL)
theorem s_table (C0 : Cx p s m args meth c D ad adV cA cc nL own) {pc : Nat} {df lo hi : Int} {offs : Array Int} {len dt : Nat} {tg : List Nat} (d : decode cc pc = .ok (.tableswitch df lo hi offs, len)) (hd : (pc : Int) + df = (dt : Int)) (hl : lo + (offs.size : Int) = hi + 1) (hg : offs.toList.map (fun x => (pc : Int) + x) = tg.map (fun (x : Nat) => (x : Int))) : Sd p l e R s m args below meth c Q D ad cA nL pc (o_table lo hi dt tg) := by
  intro L st w h H locs ls hP hS hL
  unfold o_table at h
  split at h
  · rename_i x r
    by_cases z : x.toInt < lo ∨ hi < x.toInt
    · exact lv_tableOut C0.1 C0.2.1 d z hd (h.1 z H locs ls hP hS hL)
    · have z1 : ¬ x.toInt < lo := fun q => z (Or.inl q)
      have z2 : ¬ hi < x.toInt := fun q => z (Or.inr q)
      have hk : (x.toInt - lo).toNat < offs.size := by omega
      obtain ⟨off, ho⟩ : ∃ off, offs[(x.toInt - lo).toNat]? = some off := ⟨_, Array.getElem?_eq_getElem hk⟩
      have e1 : (offs.toList.map (fun x => (pc : Int) + x))[(x.toInt - lo).toNat]? = some ((pc : Int) + off) := by
        rw [List.getElem?_map, Array.getElem?_toList, ho]
        rfl
      rw [hg, List.getElem?_map] at e1
      cases ht : tg[(x.toInt - lo).toNat]? with
      | none => rw [ht] at e1; cases e1
      | some t =>
        rw [ht] at e1
        have e2 : (t : Int) = (pc : Int) + off := Option.some.inj e1
        exact lv_tableIn C0.1 C0.2.1 d z1 z2 ho e2.symm (h.2 _ t ht (by omega) H locs ls hP hS hL)
  · exact h.elim
theorem s_get (C0 : Cx p s m args meth c D ad adV cA cc nL own) {pc : Nat} {C : String} {T : u_T} {N ci k index : Nat} (d : decode cc pc = .ok (.getfield index, 3)) (hin : ∀ w ∈ u_ws C T N, w ∈ TT) (hc : vwCl[ci]? = some (C, T, N)) (hk : k < N) (ht : Cond.fieldLink own index (T k).1 (T k).2.1 (T k).2.2.1 ∈ TT) : Sd p l e R s m args below meth c Q D ad cA nL pc (o_get ci k (pc + 3)) := by
  intro L st w h H locs ls hP hS hL
  unfold o_get at h
  split at h
  · split at h
    · rename_i x r _ q hq
      cases hz : (q.1 == ci) with
      | true =>
        simp only [hz, cond_true] at h
        split at h
        · rename_i kd hkd
          have e : ci = q.1 := by simpa using (beq_iff_eq.mp hz).symm
          subst e
          exact va_get C0.1 C0.2.1 C0.2.2.2.2.1 hin C0.2.2.2.1 C0.2.2.2.2.2.1 hP x (fs := q.2.mapIdx (fun j k => vl ad (fvA w x j k))) (Cells_get hq) hc k hk (C0.2.2.2.2.1 _ ht) (fun _ h => h) (v := vl ad (fvA w x k kd)) (by rw [List.getElem?_mapIdx, hkd]; rfl) d (h H locs ls hP hS hL)
        · exact h.elim
      | false => simp only [hz, cond_false] at h
    · exact h.elim
  · exact h.elim
theorem s_putI (C0 : Cx p s m args meth c D ad adV cA cc nL own) {pc : Nat} {C : String} {T : u_T} {N ci k index : Nat} {ty0 : Nat → FieldType} (d : decode cc pc = .ok (.putfield index, 3)) (hin : ∀ w ∈ u_ws C T N, w ∈ TT) (hty : ∀ k, k < N → parseFieldDescriptor (T k).2.2.1 = some (ty0 k)) (hnm : ∀ a, a < N → ∀ b, b < N → a ≠ b → (T a).2.1 ≠ (T b).2.1) (hc : vwCl[ci]? = some (C, T, N)) (hk : k < N) (hfin : (T k).2.2.2 = false) (hd : ty0 k = .int) (ht : Cond.fieldLink own index (T k).1 (T k).2.1 (T k).2.2.1 ∈ TT) : Sd p l e R s m args below meth c Q D ad cA nL pc (o_putI ci k (pc + 3)) := by
  intro L st w h H locs ls hP hS hL
  unfold o_putI at h
  split at h
  · split at h
    · rename_i v x r _ q hq
      cases hz : (q.1 == ci && q.2[k]? == some 0) with
      | true =>
        simp only [hz, cond_true] at h
        simp only [Bool.and_eq_true, beq_iff_eq] at hz
        obtain ⟨e, hkd⟩ := hz
        subst e
        have hl : k < (q.2.mapIdx (fun j k => vl ad (fvA w x j k))).length := by rw [List.length_mapIdx]; exact (List.getElem?_eq_some_iff.mp hkd).1
        refine va_put C0.1 C0.2.1 C0.2.2.2.2.1 hin ty0 hty hnm C0.2.2.2.1 C0.2.2.2.2.2.1 hP (Cells_D C0.2.2.2.2.2.2.1) hS x (fs := q.2.mapIdx (fun j k => vl ad (fvA w x j k))) (Cells_get hq) hc k hk (C0.2.2.2.2.1 _ ht) (fun _ h => h) hfin (ty := .int) (v := .int v) (by rw [hty k hk, hd]) rfl rfl hl d (fun H1 locs1 hP1 _ hS1 => ?_)
        rw [Cells_set (w' := upI w x k v) hq] at hP1
        · exact h H1 locs1 ls hP1 hS1 hL
        · intro a ha
          exact ⟨by funext b; simp [upI, ha], by funext b; simp [upI, ha]⟩
        · show (Sum.inr (q.1, _) : va_E) = Sum.inr (q.1, _)
          congr 2
          apply List.ext_getElem?
          intro j
          rw [List.getElem?_set]
          by_cases hj : k = j
          · subst hj
            rw [if_pos rfl, if_pos hl, List.getElem?_mapIdx, hkd]
            simp [fvA, vl, upI]
          · rw [if_neg hj, List.getElem?_mapIdx, List.getElem?_mapIdx]
            cases q.2[j]? with
            | none => rfl
            | some kd =>
              have : fvA (upI w x k v) x j kd = fvA w x j kd := by
                unfold fvA
                split <;> simp [upI, Ne.symm hj]
              simp [this]
      | false => simp only [hz, cond_false] at h
    · exact h.elim
  · exact h.elim
theorem s_putL (C0 : Cx p s m args meth c D ad adV cA cc nL own) {pc : Nat} {C : String} {T : u_T} {N ci k index : Nat} {ty0 : Nat → FieldType} (d : decode cc pc = .ok (.putfield index, 3)) (hin : ∀ w ∈ u_ws C T N, w ∈ TT) (hty : ∀ k, k < N → parseFieldDescriptor (T k).2.2.1 = some (ty0 k)) (hnm : ∀ a, a < N → ∀ b, b < N → a ≠ b → (T a).2.1 ≠ (T b).2.1) (hc : vwCl[ci]? = some (C, T, N)) (hk : k < N) (hfin : (T k).2.2.2 = false) (hd : ty0 k = .long) (ht : Cond.fieldLink own index (T k).1 (T k).2.1 (T k).2.2.1 ∈ TT) : Sd p l e R s m args below meth c Q D ad cA nL pc (o_putL ci k (pc + 3)) := by
  intro L st w h H locs ls hP hS hL
  unfold o_putL at h
  split at h
  · split at h
    · rename_i v x r _ q hq
      cases hz : (q.1 == ci && q.2[k]? == some 1) with
      | true =>
        simp only [hz, cond_true] at h
        simp only [Bool.and_eq_true, beq_iff_eq] at hz
        obtain ⟨e, hkd⟩ := hz
        subst e
        have hl : k < (q.2.mapIdx (fun j k => vl ad (fvA w x j k))).length := by rw [List.length_mapIdx]; exact (List.getElem?_eq_some_iff.mp hkd).1
        refine va_put C0.1 C0.2.1 C0.2.2.2.2.1 hin ty0 hty hnm C0.2.2.2.1 C0.2.2.2.2.2.1 hP (Cells_D C0.2.2.2.2.2.2.1) hS x (fs := q.2.mapIdx (fun j k => vl ad (fvA w x j k))) (Cells_get hq) hc k hk (C0.2.2.2.2.1 _ ht) (fun _ h => h) hfin (ty := .long) (v := .long v) (by rw [hty k hk, hd]) rfl rfl hl d (fun H1 locs1 hP1 _ hS1 => ?_)
        rw [Cells_set (w' := upL w x k v) hq] at hP1
        · exact h H1 locs1 ls hP1 hS1 hL
        · intro a ha
          exact ⟨by funext b; simp [upL, ha], by funext b; simp [upL, ha]⟩
        · show (Sum.inr (q.1, _) : va_E) = Sum.inr (q.1, _)
          congr 2
          apply List.ext_getElem?
          intro j
          rw [List.getElem?_set]
          by_cases hj : k = j
          · subst hj
            rw [if_pos rfl, if_pos hl, List.getElem?_mapIdx, hkd]
            simp [fvA, vl, upL]
          · rw [if_neg hj, List.getElem?_mapIdx, List.getElem?_mapIdx]
            cases q.2[j]? with
            | none => rfl
            | some kd =>
              have : fvA (upL w x k v) x j kd = fvA w x j kd := by
                unfold fvA
                split <;> simp [upL, Ne.symm hj]
              simp [this]
      | false => simp only [hz, cond_false] at h
    · exact h.elim
  · exact h.elim
end OPS
end
section
def o_iald (nx : Nat) : Op := fun P L st w => match st with
  | .int i :: .ref x :: r => match shp[x]? with
    | some (.inl q) => bif q.1 == 0 then vp_in i q.2 ∧ P nx L (.int (w.1 x i.toNatClampNeg) :: r) w else False
    | _ => False
  | _ => False
theorem m_iald (nx : Nat) : Mono (o_iald nx) := by
  intro P Q hpq L st w h
  unfold o_iald at h ⊢
  split at h
  · split at h
    · rename_i q hq
      cases hc : (q.1 == 0) with
      | true =>
        simp only [hc, cond_true] at h ⊢
        exact ⟨h.1, hpq _ _ _ _ h.2⟩
      | false => simp only [hc, cond_false] at h
    · exact h.elim
  · exact h.elim
def o_lald (nx : Nat) : Op := fun P L st w => match st with
  | .int i :: .ref x :: r => match shp[x]? with
    | some (.inl q) => bif q.1 == 1 then vp_in i q.2 ∧ P nx L (.long (w.2 x i.toNatClampNeg) :: r) w else False
    | _ => False
  | _ => False
theorem m_lald (nx : Nat) : Mono (o_lald nx) := by
  intro P Q hpq L st w h
  unfold o_lald at h ⊢
  split at h
  · split at h
    · rename_i q hq
      cases hc : (q.1 == 1) with
      | true =>
        simp only [hc, cond_true] at h ⊢
        exact ⟨h.1, hpq _ _ _ _ h.2⟩
      | false => simp only [hc, cond_false] at h
    · exact h.elim
  · exact h.elim
def o_bald (nx : Nat) : Op := fun P L st w => match st with
  | .int i :: .ref x :: r => match shp[x]? with
    | some (.inl q) => bif q.1 == 2 then vp_in i q.2 ∧ P nx L (.int (w.1 x i.toNatClampNeg) :: r) w else False
    | _ => False
  | _ => False
theorem m_bald (nx : Nat) : Mono (o_bald nx) := by
  intro P Q hpq L st w h
  unfold o_bald at h ⊢
  split at h
  · split at h
    · rename_i q hq
      cases hc : (q.1 == 2) with
      | true =>
        simp only [hc, cond_true] at h ⊢
        exact ⟨h.1, hpq _ _ _ _ h.2⟩
      | false => simp only [hc, cond_false] at h
    · exact h.elim
  · exact h.elim
def o_zald (nx : Nat) : Op := fun P L st w => match st with
  | .int i :: .ref x :: r => match shp[x]? with
    | some (.inl q) => bif q.1 == 3 then vp_in i q.2 ∧ P nx L (.int (w.1 x i.toNatClampNeg) :: r) w else False
    | _ => False
  | _ => False
theorem m_zald (nx : Nat) : Mono (o_zald nx) := by
  intro P Q hpq L st w h
  unfold o_zald at h ⊢
  split at h
  · split at h
    · rename_i q hq
      cases hc : (q.1 == 3) with
      | true =>
        simp only [hc, cond_true] at h ⊢
        exact ⟨h.1, hpq _ _ _ _ h.2⟩
      | false => simp only [hc, cond_false] at h
    · exact h.elim
  · exact h.elim
def o_iast (nx : Nat) : Op := fun P L st w => match st with
  | .int v :: .int i :: .ref x :: r => match shp[x]? with
    | some (.inl q) => bif q.1 == 0 then vp_in i q.2 ∧ P nx L r (upI w x i.toNatClampNeg v) else False
    | _ => False
  | _ => False
theorem m_iast (nx : Nat) : Mono (o_iast nx) := by
  intro P Q hpq L st w h
  unfold o_iast at h ⊢
  split at h
  · split at h
    · rename_i q hq
      cases hc : (q.1 == 0) with
      | true =>
        simp only [hc, cond_true] at h ⊢
        exact ⟨h.1, hpq _ _ _ _ h.2⟩
      | false => simp only [hc, cond_false] at h
    · exact h.elim
  · exact h.elim
def o_last (nx : Nat) : Op := fun P L st w => match st with
  | .long v :: .int i :: .ref x :: r => match shp[x]? with
    | some (.inl q) => bif q.1 == 1 then vp_in i q.2 ∧ P nx L r (upL w x i.toNatClampNeg v) else False
    | _ => False
  | _ => False
theorem m_last (nx : Nat) : Mono (o_last nx) := by
  intro P Q hpq L st w h
  unfold o_last at h ⊢
  split at h
  · split at h
    · rename_i q hq
      cases hc : (q.1 == 1) with
      | true =>
        simp only [hc, cond_true] at h ⊢
        exact ⟨h.1, hpq _ _ _ _ h.2⟩
      | false => simp only [hc, cond_false] at h
    · exact h.elim
  · exact h.elim
def o_bast (nx : Nat) : Op := fun P L st w => match st with
  | .int v :: .int i :: .ref x :: r => match shp[x]? with
    | some (.inl q) => bif q.1 == 2 then vp_in i q.2 ∧ P nx L r (upI w x i.toNatClampNeg (vp_nar .byte v)) else False
    | _ => False
  | _ => False
theorem m_bast (nx : Nat) : Mono (o_bast nx) := by
  intro P Q hpq L st w h
  unfold o_bast at h ⊢
  split at h
  · split at h
    · rename_i q hq
      cases hc : (q.1 == 2) with
      | true =>
        simp only [hc, cond_true] at h ⊢
        exact ⟨h.1, hpq _ _ _ _ h.2⟩
      | false => simp only [hc, cond_false] at h
    · exact h.elim
  · exact h.elim
def o_zast (nx : Nat) : Op := fun P L st w => match st with
  | .int v :: .int i :: .ref x :: r => match shp[x]? with
    | some (.inl q) => bif q.1 == 3 then vp_in i q.2 ∧ P nx L r (upI w x i.toNatClampNeg (vp_nar .boolean v)) else False
    | _ => False
  | _ => False
theorem m_zast (nx : Nat) : Mono (o_zast nx) := by
  intro P Q hpq L st w h
  unfold o_zast at h ⊢
  split at h
  · split at h
    · rename_i q hq
      cases hc : (q.1 == 3) with
      | true =>
        simp only [hc, cond_true] at h ⊢
        exact ⟨h.1, hpq _ _ _ _ h.2⟩
      | false => simp only [hc, cond_false] at h
    · exact h.elim
  · exact h.elim
def o_iaro (nx : Nat) : Op := fun P L st w => match st with
  | .int i :: .ref x :: r => bif Nat.ble 100 x && Nat.ble x 106 then vp_in i (roV.getD (x - 100) []).length ∧ P nx L (.int ((roV.getD (x - 100) []).getD i.toNatClampNeg 0) :: r) w else False
  | _ => False
def rmok (r : List Value) : Bool := Nat.ble ((r.map fun v => v.category).sum) 8
def cpOk (sp dp n : Int32) (n0 n1 : Nat) : Prop := ¬ sp < 0 ∧ ¬ dp < 0 ∧ ¬ n < 0 ∧ sp.toNatClampNeg + n.toNatClampNeg ≤ n0 ∧ dp.toNatClampNeg + n.toNatClampNeg ≤ n1
/-- the length of an array of a kind -/
def arL (t x : Nat) : Option Nat := match shp[x]? with
  | some (.inl q) => bif q.1 == t then some q.2 else none
  | _ => none
def roL (x : Nat) : Option Nat := bif Nat.ble 100 x && Nat.ble x 106 then some (roV.getD (x - 100) []).length else none
theorem arL_of {t x n : Nat} (h : arL t x = some n) : shp[x]? = some (.inl (t, n)) := by
  unfold arL at h
  split at h
  · rename_i q hq
    cases hc : (q.1 == t) with
    | true =>
      rw [hc] at h
      have e : q.2 = n := Option.some.inj h
      have e2 : q.1 = t := by simpa using hc
      rw [hq, ← e, ← e2]
    | false => rw [hc] at h; cases h
  · cases h
theorem roL_of {x n : Nat} (h : roL x = some n) : ∃ k, k < 7 ∧ x = 100 + k ∧ n = (roV.getD k []).length := by
  unfold roL at h
  cases hc : (Nat.ble 100 x && Nat.ble x 106) with
  | true =>
    rw [hc] at h
    simp only [Bool.and_eq_true] at hc
    have h1 := Nat.le_of_ble_eq_true hc.1
    have h2 := Nat.le_of_ble_eq_true hc.2
    exact ⟨x - 100, by omega, by omega, (Option.some.inj h).symm⟩
  | false => rw [hc] at h; cases h
def o_copyI (nx : Nat) : Op := fun P L st w => match st with
  | .int n :: .int dp :: .ref x :: .int sp :: .ref y :: r => match arL 0 y, arL 0 x, rmok r with
    | some n0, some n1, true => cpOk sp dp n n0 n1 ∧ P nx L r (cpI w x (w.1 y) sp.toNatClampNeg dp.toNatClampNeg n.toNatClampNeg)
    | _, _, _ => False
  | _ => False
def o_copyL (nx : Nat) : Op := fun P L st w => match st with
  | .int n :: .int dp :: .ref x :: .int sp :: .ref y :: r => match arL 1 y, arL 1 x, rmok r with
    | some n0, some n1, true => cpOk sp dp n n0 n1 ∧ P nx L r (cpL w x (w.2 y) sp.toNatClampNeg dp.toNatClampNeg n.toNatClampNeg)
    | _, _, _ => False
  | _ => False
def o_copyR (nx : Nat) : Op := fun P L st w => match st with
  | .int n :: .int dp :: .ref x :: .int sp :: .ref y :: r => match roL y, arL 0 x, rmok r with
    | some n0, some n1, true => cpOk sp dp n n0 n1 ∧ P nx L r (cpI w x (fun j => (roV.getD (y - 100) []).getD j 0) sp.toNatClampNeg dp.toNatClampNeg n.toNatClampNeg)
    | _, _, _ => False
  | _ => False
def o_max (nx : Nat) : Op := fun P L st w => match st with
  | .int y :: .int x :: r => match rmok r with
    | true => P nx L (.int (if x < y then y else x) :: r) w
    | false => False
  | _ => False
def o_min (nx : Nat) : Op := fun P L st w => match st with
  | .int y :: .int x :: r => match rmok r with
    | true => P nx L (.int (if y < x then y else x) :: r) w
    | false => False
  | _ => False
def clsOf (x : Nat) : Option Nat := match shp[x]? with
  | some (.inr q) => some q.1
  | _ => none
def okV (x ci n : Nat) (st r : List Value) : Bool := clsOf x == some ci && rmok r && (st.take n).length == n
def okT (x n : Nat) (st r : List Value) : Bool := Nat.ble 200 x && Nat.ble x 207 && rmok r && (st.take n).length == n
def okS (n : Nat) (st r : List Value) : Bool := rmok r && (st.take n).length == n
def o_callV (f : Mf) (n ci nx : Nat) : Op := fun P L st w => match st.drop n with
  | .ref x :: r => match okV x ci n st r with
    | true => f (.ref x :: (st.take n).reverse) w (fun v w1 => P nx L (v.toList ++ r) w1)
    | false => False
  | _ => False
def o_callT (f : Mf) (n nx : Nat) : Op := fun P L st w => match st.drop n with
  | .ref x :: r => match okT x n st r with
    | true => f (.ref x :: (st.take n).reverse) w (fun v w1 => P nx L (v.toList ++ r) w1)
    | false => False
  | _ => False
def o_callS (f : Mf) (n nx : Nat) : Op := fun P L st w => match okS n st (st.drop n) with
  | true => f (st.take n).reverse w (fun v w1 => P nx L (v.toList ++ st.drop n) w1)
  | false => False
def o_iret (K : Kt) : Op := fun _ _ st w => match st with
  | [.int x] => K (some (.int x)) w
  | _ => False
def o_zret (K : Kt) : Op := fun _ _ st w => match st with
  | [.int x] => (x = 0 ∨ x = 1) ∧ K (some (.int x)) w
  | _ => False
def o_lret (K : Kt) : Op := fun _ _ st w => match st with
  | [.long x] => K (some (.long x)) w
  | _ => False
def o_vret (K : Kt) : Op := fun _ _ st w => match st with
  | [] => K none w
  | _ => False
def o_bot : Op := fun _ _ _ _ => False
/-- a meaning that may be used behind a weaker end -/
def MonoF (f : Mf) : Prop := ∀ (As : List Value) (w : Wd) (K K1 : Kt), (∀ r w1, K r w1 → K1 r w1) → f As w K → f As w K1
theorem m_bot : Mono o_bot := fun _ _ _ _ _ _ h => h
theorem m_iret (K : Kt) : Mono (o_iret K) := fun _ _ _ _ _ _ h => h
theorem m_zret (K : Kt) : Mono (o_zret K) := fun _ _ _ _ _ _ h => h
theorem m_lret (K : Kt) : Mono (o_lret K) := fun _ _ _ _ _ _ h => h
theorem m_vret (K : Kt) : Mono (o_vret K) := fun _ _ _ _ _ _ h => h
theorem m_iaro (nx : Nat) : Mono (o_iaro nx) := by
  intro P Q hpq L st w h
  unfold o_iaro at h ⊢
  split at h
  · rename_i i x r
    cases hc : (Nat.ble 100 x && Nat.ble x 106) with
    | true =>
      simp only [hc, cond_true] at h ⊢
      exact ⟨h.1, hpq _ _ _ _ h.2⟩
    | false => simp only [hc, cond_false] at h
  · exact h.elim
theorem m_max (nx : Nat) : Mono (o_max nx) := by
  intro P Q hpq L st w h
  unfold o_max at h ⊢
  split at h
  · rename_i y x r
    revert h
    cases rmok r
    · exact False.elim
    · exact hpq _ _ _ _
  · exact False.elim h
theorem m_min (nx : Nat) : Mono (o_min nx) := by
  intro P Q hpq L st w h
  unfold o_min at h ⊢
  split at h
  · rename_i y x r
    revert h
    cases rmok r
    · exact False.elim
    · exact hpq _ _ _ _
  · exact False.elim h
theorem m_copyI (nx : Nat) : Mono (o_copyI nx) := by
  intro P Q hpq L st w h
  unfold o_copyI at h ⊢
  split at h
  · rename_i n dp x sp y r
    revert h
    cases arL 0 y <;> cases arL 0 x <;> cases rmok r <;> intro h <;> first | exact False.elim h | exact ⟨h.1, hpq _ _ _ _ h.2⟩
  · exact False.elim h
theorem m_copyL (nx : Nat) : Mono (o_copyL nx) := by
  intro P Q hpq L st w h
  unfold o_copyL at h ⊢
  split at h
  · rename_i n dp x sp y r
    revert h
    cases arL 1 y <;> cases arL 1 x <;> cases rmok r <;> intro h <;> first | exact False.elim h | exact ⟨h.1, hpq _ _ _ _ h.2⟩
  · exact False.elim h
theorem m_copyR (nx : Nat) : Mono (o_copyR nx) := by
  intro P Q hpq L st w h
  unfold o_copyR at h ⊢
  split at h
  · rename_i n dp x sp y r
    revert h
    cases roL y <;> cases arL 0 x <;> cases rmok r <;> intro h <;> first | exact False.elim h | exact ⟨h.1, hpq _ _ _ _ h.2⟩
  · exact False.elim h
theorem m_callV {f : Mf} (hf : MonoF f) (n ci nx : Nat) : Mono (o_callV f n ci nx) := by
  intro P Q hpq L st w h
  unfold o_callV at h ⊢
  revert h
  generalize st.drop n = dr
  intro h
  split at h
  · rename_i x r
    revert h
    cases okV x ci n st r
    · exact False.elim
    · exact hf _ _ _ _ (fun r w1 z => hpq _ _ _ _ z)
  · exact False.elim h
theorem m_callT {f : Mf} (hf : MonoF f) (n nx : Nat) : Mono (o_callT f n nx) := by
  intro P Q hpq L st w h
  unfold o_callT at h ⊢
  revert h
  generalize st.drop n = dr
  intro h
  split at h
  · rename_i x r
    revert h
    cases okT x n st r
    · exact False.elim
    · exact hf _ _ _ _ (fun r w1 z => hpq _ _ _ _ z)
  · exact False.elim h
theorem m_callS {f : Mf} (hf : MonoF f) (n nx : Nat) : Mono (o_callS f n nx) := by
  intro P Q hpq L st w h
  unfold o_callS at h ⊢
  revert h
  cases okS n st (st.drop n)
  · exact False.elim
  · exact hf _ _ _ _ (fun r w1 z => hpq _ _ _ _ z)
section OPA
variable {p : Program} {l : Launch} {e : Env} {R : Room} {s : State} {m : MethodId} {args : Array Value} {below : List Frame} {meth : Method} {c : Code} {Q : State → Prop} {D : va_G} {ad adV : Nat → Nat} {cA : Nat → ClassId} {cc : ByteArray} {nL : Nat} {own : String}
theorem s_iald (C0 : Cx p s m args meth c D ad adV cA cc nL own) {pc : Nat} (d : decode cc pc = .ok (.iaload, 1)) : Sd p l e R s m args below meth c Q D ad cA nL pc (o_iald (pc + 1)) := by
  intro L st w h H locs ls hP hS hL
  unfold o_iald at h
  split at h
  · split at h
    · rename_i i x r _ q hq
      cases hz : (q.1 == 0) with
      | true =>
        simp only [hz, cond_true] at h
        obtain ⟨t, n⟩ := q
        have e : t = 0 := by simpa using hz
        subst e
        exact va_iald C0.1 C0.2.1 C0.2.2.2.2.2.1 hP x 0 (Cells_get hq) rfl h.1 d (h.2 H locs ls hP hS hL)
      | false => simp only [hz, cond_false] at h
    · exact h.elim
  · exact h.elim
theorem s_lald (C0 : Cx p s m args meth c D ad adV cA cc nL own) {pc : Nat} (d : decode cc pc = .ok (.laload, 1)) : Sd p l e R s m args below meth c Q D ad cA nL pc (o_lald (pc + 1)) := by
  intro L st w h H locs ls hP hS hL
  unfold o_lald at h
  split at h
  · split at h
    · rename_i i x r _ q hq
      cases hz : (q.1 == 1) with
      | true =>
        simp only [hz, cond_true] at h
        obtain ⟨t, n⟩ := q
        have e : t = 1 := by simpa using hz
        subst e
        exact va_lald C0.1 C0.2.1 C0.2.2.2.2.2.1 hP x 1 (Cells_get hq) rfl h.1 d (h.2 H locs ls hP hS hL)
      | false => simp only [hz, cond_false] at h
    · exact h.elim
  · exact h.elim
theorem s_bald (C0 : Cx p s m args meth c D ad adV cA cc nL own) {pc : Nat} (d : decode cc pc = .ok (.baload, 1)) : Sd p l e R s m args below meth c Q D ad cA nL pc (o_bald (pc + 1)) := by
  intro L st w h H locs ls hP hS hL
  unfold o_bald at h
  split at h
  · split at h
    · rename_i i x r _ q hq
      cases hz : (q.1 == 2) with
      | true =>
        simp only [hz, cond_true] at h
        obtain ⟨t, n⟩ := q
        have e : t = 2 := by simpa using hz
        subst e
        exact va_bald C0.1 C0.2.1 C0.2.2.2.2.2.1 hP x 2 (Cells_get hq) rfl h.1 d (h.2 H locs ls hP hS hL)
      | false => simp only [hz, cond_false] at h
    · exact h.elim
  · exact h.elim
theorem s_zald (C0 : Cx p s m args meth c D ad adV cA cc nL own) {pc : Nat} (d : decode cc pc = .ok (.baload, 1)) : Sd p l e R s m args below meth c Q D ad cA nL pc (o_zald (pc + 1)) := by
  intro L st w h H locs ls hP hS hL
  unfold o_zald at h
  split at h
  · split at h
    · rename_i i x r _ q hq
      cases hz : (q.1 == 3) with
      | true =>
        simp only [hz, cond_true] at h
        obtain ⟨t, n⟩ := q
        have e : t = 3 := by simpa using hz
        subst e
        exact va_zald C0.1 C0.2.1 C0.2.2.2.2.2.1 hP x 3 (Cells_get hq) rfl h.1 d (h.2 H locs ls hP hS hL)
      | false => simp only [hz, cond_false] at h
    · exact h.elim
  · exact h.elim
theorem s_iast (C0 : Cx p s m args meth c D ad adV cA cc nL own) {pc : Nat} (d : decode cc pc = .ok (.iastore, 1)) : Sd p l e R s m args below meth c Q D ad cA nL pc (o_iast (pc + 1)) := by
  intro L st w h H locs ls hP hS hL
  unfold o_iast at h
  split at h
  · split at h
    · rename_i v i x r _ q hq
      cases hz : (q.1 == 0) with
      | true =>
        simp only [hz, cond_true] at h
        obtain ⟨t, n⟩ := q
        have e : t = 0 := by simpa using hz
        subst e
        refine va_iast C0.1 C0.2.1 C0.2.2.2.2.2.1 hP (Cells_D C0.2.2.2.2.2.2.1) hS x 0 (Cells_get hq) rfl h.1 d (fun H1 locs1 hP1 _ hS1 => ?_)
        rw [Cells_set (w' := upI w x i.toNatClampNeg v) hq] at hP1
        · exact h.2 H1 locs1 ls hP1 hS1 hL
        · intro a ha
          exact ⟨by funext b; simp [upI, ha], by funext b; simp [upI, ha]⟩
        · simp only [cellE, arE]
          congr 5
          all_goals (try (funext b; simp [upI, upd, vp_updL]))
      | false => simp only [hz, cond_false] at h
    · exact h.elim
  · exact h.elim
theorem s_last (C0 : Cx p s m args meth c D ad adV cA cc nL own) {pc : Nat} (d : decode cc pc = .ok (.lastore, 1)) : Sd p l e R s m args below meth c Q D ad cA nL pc (o_last (pc + 1)) := by
  intro L st w h H locs ls hP hS hL
  unfold o_last at h
  split at h
  · split at h
    · rename_i v i x r _ q hq
      cases hz : (q.1 == 1) with
      | true =>
        simp only [hz, cond_true] at h
        obtain ⟨t, n⟩ := q
        have e : t = 1 := by simpa using hz
        subst e
        refine va_last C0.1 C0.2.1 C0.2.2.2.2.2.1 hP (Cells_D C0.2.2.2.2.2.2.1) hS x 1 (Cells_get hq) rfl h.1 d (fun H1 locs1 hP1 _ hS1 => ?_)
        rw [Cells_set (w' := upL w x i.toNatClampNeg v) hq] at hP1
        · exact h.2 H1 locs1 ls hP1 hS1 hL
        · intro a ha
          exact ⟨by funext b; simp [upL, ha], by funext b; simp [upL, ha]⟩
        · simp only [cellE, arE]
          congr 5
          all_goals (try (funext b; simp [upL, upd, vp_updL]))
      | false => simp only [hz, cond_false] at h
    · exact h.elim
  · exact h.elim
theorem s_bast (C0 : Cx p s m args meth c D ad adV cA cc nL own) {pc : Nat} (d : decode cc pc = .ok (.bastore, 1)) : Sd p l e R s m args below meth c Q D ad cA nL pc (o_bast (pc + 1)) := by
  intro L st w h H locs ls hP hS hL
  unfold o_bast at h
  split at h
  · split at h
    · rename_i v i x r _ q hq
      cases hz : (q.1 == 2) with
      | true =>
        simp only [hz, cond_true] at h
        obtain ⟨t, n⟩ := q
        have e : t = 2 := by simpa using hz
        subst e
        refine va_bast C0.1 C0.2.1 C0.2.2.2.2.2.1 hP (Cells_D C0.2.2.2.2.2.2.1) hS x 2 (Cells_get hq) rfl h.1 d (fun H1 locs1 hP1 _ hS1 => ?_)
        rw [Cells_set (w' := upI w x i.toNatClampNeg (vp_nar .byte v)) hq] at hP1
        · exact h.2 H1 locs1 ls hP1 hS1 hL
        · intro a ha
          exact ⟨by funext b; simp [upI, ha], by funext b; simp [upI, ha]⟩
        · simp only [cellE, arE]
          congr 5
          all_goals (try (funext b; simp [upI, upd, vp_updL]))
      | false => simp only [hz, cond_false] at h
    · exact h.elim
  · exact h.elim
theorem s_zast (C0 : Cx p s m args meth c D ad adV cA cc nL own) {pc : Nat} (d : decode cc pc = .ok (.bastore, 1)) : Sd p l e R s m args below meth c Q D ad cA nL pc (o_zast (pc + 1)) := by
  intro L st w h H locs ls hP hS hL
  unfold o_zast at h
  split at h
  · split at h
    · rename_i v i x r _ q hq
      cases hz : (q.1 == 3) with
      | true =>
        simp only [hz, cond_true] at h
        obtain ⟨t, n⟩ := q
        have e : t = 3 := by simpa using hz
        subst e
        refine va_zast C0.1 C0.2.1 C0.2.2.2.2.2.1 hP (Cells_D C0.2.2.2.2.2.2.1) hS x 3 (Cells_get hq) rfl h.1 d (fun H1 locs1 hP1 _ hS1 => ?_)
        rw [Cells_set (w' := upI w x i.toNatClampNeg (vp_nar .boolean v)) hq] at hP1
        · exact h.2 H1 locs1 ls hP1 hS1 hL
        · intro a ha
          exact ⟨by funext b; simp [upI, ha], by funext b; simp [upI, ha]⟩
        · simp only [cellE, arE]
          congr 5
          all_goals (try (funext b; simp [upI, upd, vp_updL]))
      | false => simp only [hz, cond_false] at h
    · exact h.elim
  · exact h.elim
theorem s_iaro (C0 : Cx p s m args meth c D ad adV cA cc nL own) {pc : Nat} (d : decode cc pc = .ok (.iaload, 1)) : Sd p l e R s m args below meth c Q D ad cA nL pc (o_iaro (pc + 1)) := by
  intro L st w h H locs ls hP hS hL
  unfold o_iaro at h
  split at h
  · rename_i i x r
    cases hz : (Nat.ble 100 x && Nat.ble x 106) with
    | true =>
      simp only [hz, cond_true] at h
      simp only [Bool.and_eq_true] at hz
      have h1 := Nat.le_of_ble_eq_true hz.1
      have h2 := Nat.le_of_ble_eq_true hz.2
      obtain ⟨k, hk⟩ := Nat.exists_eq_add_of_le h1
      subst hk
      rw [Nat.add_sub_cancel_left] at h
      exact va_ti C0.1 C0.2.1 (C0.2.2.2.2.2.2.2.1.1 k (by omega)).2 hS h.1 rfl d (h.2 H locs ls hP hS hL)
    | false => simp only [hz, cond_false] at h
  · exact h.elim
theorem rm_vl (ad : Nat → Nat) (r : List Value) : ((r.map (vl ad)).map fun v => v.category).sum = (r.map fun v => v.category).sum := by
  rw [List.map_map]
  congr 1
  apply List.map_congr_left
  intro a _
  exact vl_cat ad a
theorem rm_le {ad : Nat → Nat} {r : List Value} (h : rmok r = true) : ((r.map (vl ad)).map fun v => v.category).sum ≤ 8 := by
  rw [rm_vl]
  exact Nat.le_of_ble_eq_true h
theorem s_max (C0 : Cx p s m args meth c D ad adV cA cc nL own) {pc index dd : Nat} (d : decode cc pc = .ok (.invokestatic index, 3)) (t1 : Cond.methodLink own index Lib.Math.max.name ∈ TT) (t2 : Cond.static Lib.Math.max.name ∈ TT) (t3 : Cond.initialized "java/lang/Math" ∈ TT) (t4 : Cond.code Lib.Math.max.name Lib.Math.max.code 2 (some .int) ∈ TT) (hR : R = rmd dd) (hd : 1 ≤ dd) : Sd p l e R s m args below meth c Q D ad cA nL pc (o_max (pc + 3)) := by
  intro L st w h H locs ls hP hS hL
  unfold o_max at h
  split at h
  · split at h
    · rename_i hr
      have hz := rm_le (ad := ad) hr
      have hl : R.locals = 40 * dd := by rw [hR]; rfl
      have hf : R.frames = dd := by rw [hR]; rfl
      exact va_mmax C0.1 C0.2.1 (by rw [C0.2.2.1]; exact hL.1.symm) C0.2.2.2.1 (C0.2.2.2.2.1 _ t1) (C0.2.2.2.2.1 _ t2) (C0.2.2.2.2.1 _ t3) (C0.2.2.2.2.1 _ t4) (by omega) (by omega) (Nat.zero_le _) (Nat.zero_le _) d (h H locs ls hP hS hL)
    · exact h.elim
  · exact h.elim
theorem s_min (C0 : Cx p s m args meth c D ad adV cA cc nL own) {pc index dd : Nat} (d : decode cc pc = .ok (.invokestatic index, 3)) (t1 : Cond.methodLink own index Lib.Math.min.name ∈ TT) (t2 : Cond.static Lib.Math.min.name ∈ TT) (t3 : Cond.initialized "java/lang/Math" ∈ TT) (t4 : Cond.code Lib.Math.min.name Lib.Math.min.code 2 (some .int) ∈ TT) (hR : R = rmd dd) (hd : 1 ≤ dd) : Sd p l e R s m args below meth c Q D ad cA nL pc (o_min (pc + 3)) := by
  intro L st w h H locs ls hP hS hL
  unfold o_min at h
  split at h
  · split at h
    · rename_i hr
      have hz := rm_le (ad := ad) hr
      have hl : R.locals = 40 * dd := by rw [hR]; rfl
      have hf : R.frames = dd := by rw [hR]; rfl
      exact va_mmin C0.1 C0.2.1 (by rw [C0.2.2.1]; exact hL.1.symm) C0.2.2.2.1 (C0.2.2.2.2.1 _ t1) (C0.2.2.2.2.1 _ t2) (C0.2.2.2.2.1 _ t3) (C0.2.2.2.2.1 _ t4) (by omega) (by omega) (Nat.zero_le _) (Nat.zero_le _) d (h H locs ls hP hS hL)
    · exact h.elim
  · exact h.elim
theorem s_copyI (C0 : Cx p s m args meth c D ad adV cA cc nL own) {pc index dd : Nat} (d : decode cc pc = .ok (.invokestatic index, 3)) (t1 : Cond.methodLink own index arraycopyName ∈ TT) (t2 : Cond.native arraycopyName ∈ TT) (t3 : Cond.static arraycopyName ∈ TT) (t4 : Cond.initialized "java/lang/System" ∈ TT) (hR : R = rmd dd) (hd : 1 ≤ dd) : Sd p l e R s m args below meth c Q D ad cA nL pc (o_copyI (pc + 3)) := by
  intro L st w h H locs ls hP hS hL
  unfold o_copyI at h
  split at h
  · rename_i n dp x sp y r
    revert h
    cases h1 : arL 0 y <;> cases h2 : arL 0 x <;> cases hr : rmok r <;> intro h <;> try exact False.elim h
    · rename_i n0 n1
      have hz := rm_le (ad := ad) hr
      have hl : R.locals = 40 * dd := by rw [hR]; rfl
      have hf : R.frames = dd := by rw [hR]; rfl
      have hw : nativeFrameWords "java/lang/System" "arraycopy" 5 + 11 = 18 := by decide +kernel
      refine va_copyi C0.1 C0.2.1 (by rw [C0.2.2.1]; exact hL.1.symm) C0.2.2.2.1 (C0.2.2.2.2.1 _ t1) (C0.2.2.2.2.1 _ t2) (C0.2.2.2.2.1 _ t3) (C0.2.2.2.2.1 _ t4) C0.2.2.2.2.2.1 hP (Cells_D C0.2.2.2.2.2.2.1) hS y x 0 0 (Cells_get (arL_of h1)) (Cells_get (arL_of h2)) rfl rfl rfl h.1.1 h.1.2.1 h.1.2.2.1 h.1.2.2.2.1 h.1.2.2.2.2 (fun _ _ => rfl) (by omega) (by omega) d (fun H1 locs1 hP1 _ hS1 => ?_)
      rw [Cells_set (w' := cpI w x (w.1 y) sp.toNatClampNeg dp.toNatClampNeg n.toNatClampNeg) (arL_of h2)] at hP1
      · exact h.2 H1 locs1 ls hP1 hS1 hL
      · intro a ha
        exact ⟨by funext b; simp [cpI, ha], by funext b; simp [cpI, ha]⟩
      · simp only [cellE, arE]
        congr 5
        all_goals (try (funext b; simp [cpI]))
  · exact False.elim h
theorem s_copyL (C0 : Cx p s m args meth c D ad adV cA cc nL own) {pc index dd : Nat} (d : decode cc pc = .ok (.invokestatic index, 3)) (t1 : Cond.methodLink own index arraycopyName ∈ TT) (t2 : Cond.native arraycopyName ∈ TT) (t3 : Cond.static arraycopyName ∈ TT) (t4 : Cond.initialized "java/lang/System" ∈ TT) (hR : R = rmd dd) (hd : 1 ≤ dd) : Sd p l e R s m args below meth c Q D ad cA nL pc (o_copyL (pc + 3)) := by
  intro L st w h H locs ls hP hS hL
  unfold o_copyL at h
  split at h
  · rename_i n dp x sp y r
    revert h
    cases h1 : arL 1 y <;> cases h2 : arL 1 x <;> cases hr : rmok r <;> intro h <;> try exact False.elim h
    · rename_i n0 n1
      have hz := rm_le (ad := ad) hr
      have hl : R.locals = 40 * dd := by rw [hR]; rfl
      have hf : R.frames = dd := by rw [hR]; rfl
      have hw : nativeFrameWords "java/lang/System" "arraycopy" 5 + 11 = 18 := by decide +kernel
      refine va_copyl C0.1 C0.2.1 (by rw [C0.2.2.1]; exact hL.1.symm) C0.2.2.2.1 (C0.2.2.2.2.1 _ t1) (C0.2.2.2.2.1 _ t2) (C0.2.2.2.2.1 _ t3) (C0.2.2.2.2.1 _ t4) C0.2.2.2.2.2.1 hP (Cells_D C0.2.2.2.2.2.2.1) hS y x 1 1 (Cells_get (arL_of h1)) (Cells_get (arL_of h2)) rfl rfl rfl h.1.1 h.1.2.1 h.1.2.2.1 h.1.2.2.2.1 h.1.2.2.2.2 (fun _ _ => rfl) (by omega) (by omega) d (fun H1 locs1 hP1 _ hS1 => ?_)
      rw [Cells_set (w' := cpL w x (w.2 y) sp.toNatClampNeg dp.toNatClampNeg n.toNatClampNeg) (arL_of h2)] at hP1
      · exact h.2 H1 locs1 ls hP1 hS1 hL
      · intro a ha
        exact ⟨by funext b; simp [cpL, ha], by funext b; simp [cpL, ha]⟩
      · simp only [cellE, arE]
        congr 5
        all_goals (try (funext b; simp [cpL]))
  · exact False.elim h
end OPA
end
section
section OPC
variable {p : Program} {l : Launch} {e : Env} {R : Room} {s : State} {m : MethodId} {args : Array Value} {below : List Frame} {meth : Method} {c : Code} {Q : State → Prop} {D : va_G} {ad adV : Nat → Nat} {cA : Nat → ClassId} {cc : ByteArray} {nL : Nat} {own : String}
/-- behind a call: its end, and the world that it left -/
theorem W_run {H : Heap} {locs : List Loc} {pc : Nat} {ls : Array Slot} {st0 rest : List Value} {a : Array Value} {K : Kt} (hr : va_Run p l e R s m args below meth c H locs 0 0 0 0 (F0 m pc ls st0) rest (QQ D ad cA K a) (AA ad)) (hS : va_S (AA ad) s.heap H locs)
    (kk : ∀ (r : Option Value) (w1 : Wd) (H1 : Heap) (locs1 : List Loc), K r w1 → va_P D vwCl (Cells ad cA w1) H1 → va_S (AA ad) s.heap H1 locs1 → W p l e R s m args below meth c H1 locs1 0 0 Q (F0 m (pc + 3) ls ((r.map (vl ad)).toList ++ rest))) : W p l e R s m args below meth c H locs 0 0 Q (F0 m pc ls st0) := by
  intro T hT X
  obtain ⟨v, st₀, t, T', L, h0, X', hL, e1, e2, ⟨r, w1, hK, hv, hP1, hz, hk⟩, st⟩ := hr T hT X
  have hv2 : v = r.map (vl ad) := by
    injection hv
  subst hv2
  rw [h0] at hz hk
  obtain ⟨t2, a1, b1⟩ := kk r w1 T'.heap (locs ++ L) hK (by rw [e1]; exact hP1)
    ⟨Nat.le_trans hS.1 (by rw [e1]; exact hz), fun q h1 h2 => by rw [e1, hk q (Nat.lt_of_lt_of_le h1 hS.1) h2]; exact hS.2.1 q h1 h2, fun q hq => by
      rcases List.mem_append.mp hq with h | h
      · exact hS.2.2 q h
      · exact hL q h⟩ T' rfl X'
  exact ⟨t2, st t2 a1, b1⟩
theorem blind_P {av : List Value} {w : Wd} : FrameBlind (va_Pc av (Inv D ad adV cA w)) := by
  intro a U g mk h
  exact ⟨h.1, h.2.1, va_K.moved (u := U) (U := U.calling g mk a) (Vm.Alike.refl U.vm) h.2.2.1, h.2.2.2.1, RO.same (u := U) (U := U.calling g mk a) rfl (Vm.Alike.refl U.vm) h.2.2.2.2⟩
theorem inv_call {H : Heap} {locs : List Loc} {w : Wd} (C0 : Cx p s m args meth c D ad adV cA cc nL own) (hP : va_P D vwCl (Cells ad cA w) H) (hS : va_S (AA ad) s.heap H locs) {U : State} (hU : U.heap = H) (hW : s.WarmedH U.vm) : Inv D ad adV cA w U := by
  refine ⟨by rw [hU]; exact hP, va_K.moved hW.alike C0.2.2.2.2.2.1, C0.2.2.2.2.2.2.1, ?_⟩
  rw [hU]
  exact RO.warm hW (RO.kept hS.2.1 C0.2.2.2.2.2.2.2.1)
theorem good_c {y : MethodName} {cc2 : ByteArray} {maxL : Nat} {ret : Option FieldType} (t5 : Cond.code y cc2 maxL ret ∈ TT) : GoodIn TT (Cond.code y cc2 maxL ret :: TT) := fun w h => (List.mem_cons.mp h).elim (fun e => e ▸ TT_TT _ t5) (fun h => TT_TT w h)
theorem good_V {y : MethodName} {cc2 : ByteArray} {maxL index : Nat} {ret : Option FieldType} {C : String} (t1 : Cond.methodLink own index y ∈ TT) (t2 : Cond.instanceMethod y ∈ TT) (t3 : Cond.selects C y y ∈ TT) (t4 : Cond.initialized C ∈ TT) (t5 : Cond.code y cc2 maxL ret ∈ TT) : GoodIn TT (wsV own index C y (Cond.code y cc2 maxL ret :: TT)) := by
  intro w h
  rcases List.mem_append.mp h with h | h
  · simp only [List.mem_cons, List.not_mem_nil, or_false] at h
    rcases h with h | h | h | h
    · rw [h]; exact TT_TT _ t1
    · rw [h]; exact TT_TT _ t2
    · rw [h]; exact TT_TT _ t3
    · rw [h]; exact TT_TT _ t4
  · exact good_c t5 w h
theorem good_S {y : MethodName} {cc2 : ByteArray} {maxL index : Nat} {ret : Option FieldType} (t1 : Cond.methodLink own index y ∈ TT) (t2 : Cond.static y ∈ TT) (t4 : Cond.initialized y.cls ∈ TT) (t5 : Cond.code y cc2 maxL ret ∈ TT) : GoodIn TT (va_wsS own index y (Cond.code y cc2 maxL ret :: TT)) := by
  intro w h
  rcases List.mem_append.mp h with h | h
  · simp only [List.mem_cons, List.not_mem_nil, or_false] at h
    rcases h with h | h | h
    · rw [h]; exact TT_TT _ t1
    · rw [h]; exact TT_TT _ t2
    · rw [h]; exact TT_TT _ t4
  · exact good_c t5 w h
theorem stack_V {n x : Nat} {st r : List Value} (hd : st.drop n = .ref x :: r) : st.map (vl ad) = (((st.take n).reverse).map (vl ad)).reverse ++ .ref (ad x) :: r.map (vl ad) := by
  conv => lhs; rw [← List.take_append_drop n st, hd]
  rw [List.map_append, List.map_reverse, List.reverse_reverse]
  rfl
theorem stack_S {n : Nat} {st : List Value} : st.map (vl ad) = (((st.take n).reverse).map (vl ad)).reverse ++ (st.drop n).map (vl ad) := by
  conv => lhs; rw [← List.take_append_drop n st]
  rw [List.map_append, List.map_reverse, List.reverse_reverse]
theorem opt_l (r : Option Value) (rest : List Value) : (r.map (vl ad)).toList ++ rest.map (vl ad) = (r.toList ++ rest).map (vl ad) := by
  cases r <;> rfl
theorem room_c {dd d2 maxL : Nat} (hR : R = rmd dd) (hlt : d2 + 1 ≤ dd) (hm : maxL ≤ 21) : (rmd d2).frames + 1 ≤ R.frames ∧ 8 + (maxL + 11) + (rmd d2).locals ≤ R.locals := by
  subst hR
  show d2 + 1 ≤ dd ∧ 8 + (maxL + 11) + 40 * d2 ≤ 40 * dd
  omega
theorem s_callV (C0 : Cx p s m args meth c D ad adV cA cc nL own) {pc index n ci dd d2 maxL N : Nat} {y : MethodName} {cc2 : ByteArray} {ret : Option FieldType} {f : Mf} {C : String} {T : u_T} (hM : Okm l y cc2 maxL ret d2 f) (d : decode cc pc = .ok (.invokevirtual index, 3)) (hc : vwCl[ci]? = some (C, T, N))
    (hy : y.cls = C ∧ y.cls ≠ "java/lang/invoke/MethodHandle" ∧ y.cls ≠ "java/lang/invoke/VarHandle" ∧ (parseMethodDescriptor y.desc).map (fun d => d.parameters.length) = some n)
    (t1 : Cond.methodLink own index y ∈ TT) (t2 : Cond.instanceMethod y ∈ TT) (t3 : Cond.selects C y y ∈ TT) (t4 : Cond.initialized C ∈ TT) (t5 : Cond.code y cc2 maxL ret ∈ TT) (hR : R = rmd dd) (hlt : d2 + 1 ≤ dd) (hm : maxL ≤ 21) : Sd p l e R s m args below meth c Q D ad cA nL pc (o_callV f n ci (pc + 3)) := by
  intro L st w h H locs ls hP hS hL
  unfold o_callV at h
  split at h
  · rename_i x r hd
    revert h
    cases hk : okV x ci n st r
    · exact False.elim
    · intro h
      simp only [okV, Bool.and_eq_true, beq_iff_eq] at hk
      obtain ⟨⟨hk1, hk2⟩, hk3⟩ := hk
      have hz := rm_le (ad := ad) hk2
      have hsh : ∃ fs : List Nat, shp[x]? = some (.inr (ci, fs)) := by
        unfold clsOf at hk1
        split at hk1
        · rename_i q hq
          obtain ⟨a, b⟩ := q
          cases hk1
          exact ⟨b, hq⟩
        · cases hk1
      obtain ⟨fs, hfs⟩ := hsh
      have hrun := va_runV (As := ((st.take n).reverse).map (vl ad)) (rest := r.map (vl ad)) (b := ad x) (H := H) (locs := locs) (cells := 0) (slots := 0) (g := F0 m pc ls (st.map (vl ad))) (e := e) (R := R) (below := below) (meth := meth) ⟨C0.1, C0.2.1, C0.2.2.1, C0.2.2.2.1, C0.2.2.2.2.1⟩ (hM D ad adV cA (.ref x :: (st.take n).reverse) w _ h) (cwV n C0.2.2.2.2.1 (good_V t1 t2 t3 t4 t5) rfl rfl rfl hy (room_c hR hlt hm)) ⟨blind_P, va_recv C0.2.2.2.2.2.1 hP hc (Cells_get hfs), fun U hU hW => ⟨rfl, inv_call C0 hP hS hU hW⟩⟩ rfl (by rw [List.length_map, List.length_reverse]; exact hk3) hL.1 (stack_V hd) (by show 2 * 0 + _ ≤ 8; omega) d ⟨Nat.zero_le _, Nat.zero_le _⟩
      refine W_run hrun hS (fun r2 w1 H1 locs1 hK hP1 hS1 => ?_)
      rw [opt_l]
      exact hK H1 locs1 ls hP1 hS1 hL
  · exact False.elim h
theorem s_callT (C0 : Cx p s m args meth c D ad adV cA cc nL own) {pc index n dd d2 maxL : Nat} {y : MethodName} {cc2 : ByteArray} {ret : Option FieldType} {f : Mf} (hM : Okm l y cc2 maxL ret d2 f) (d : decode cc pc = .ok (.invokevirtual index, 3))
    (hy : y.cls = "java/lang/String" ∧ y.cls ≠ "java/lang/invoke/MethodHandle" ∧ y.cls ≠ "java/lang/invoke/VarHandle" ∧ (parseMethodDescriptor y.desc).map (fun d => d.parameters.length) = some n)
    (t1 : Cond.methodLink own index y ∈ TT) (t2 : Cond.instanceMethod y ∈ TT) (t3 : Cond.selects "java/lang/String" y y ∈ TT) (t4 : Cond.initialized "java/lang/String" ∈ TT) (t5 : Cond.code y cc2 maxL ret ∈ TT) (hR : R = rmd dd) (hlt : d2 + 1 ≤ dd) (hm : maxL ≤ 21) : Sd p l e R s m args below meth c Q D ad cA nL pc (o_callT f n (pc + 3)) := by
  intro L st w h H locs ls hP hS hL
  unfold o_callT at h
  split at h
  · rename_i x r hd
    revert h
    cases hk : okT x n st r
    · exact False.elim
    · intro h
      simp only [okT, Bool.and_eq_true, beq_iff_eq] at hk
      obtain ⟨⟨⟨hk0, hk1⟩, hk2⟩, hk3⟩ := hk
      have hz := rm_le (ad := ad) hk2
      have h1 := Nat.le_of_ble_eq_true hk0
      have h2 := Nat.le_of_ble_eq_true hk1
      obtain ⟨k, hk4⟩ := Nat.exists_eq_add_of_le h1
      subst hk4
      have hrun := va_runV (As := ((st.take n).reverse).map (vl ad)) (rest := r.map (vl ad)) (b := ad (200 + k)) (H := H) (locs := locs) (cells := 0) (slots := 0) (g := F0 m pc ls (st.map (vl ad))) (e := e) (R := R) (below := below) (meth := meth) ⟨C0.1, C0.2.1, C0.2.2.1, C0.2.2.2.1, C0.2.2.2.2.1⟩ (hM D ad adV cA (.ref (200 + k) :: (st.take n).reverse) w _ h) (cwV n C0.2.2.2.2.1 (good_V t1 t2 t3 t4 t5) rfl rfl rfl hy (room_c hR hlt hm)) ⟨blind_P, vk_recv C0.2.2.2.2.2.2.2.1.2.1 (i := k) (by omega) hS, fun U hU hW => ⟨rfl, inv_call C0 hP hS hU hW⟩⟩ rfl (by rw [List.length_map, List.length_reverse]; exact hk3) hL.1 (stack_V hd) (by show 2 * 0 + _ ≤ 8; omega) d ⟨Nat.zero_le _, Nat.zero_le _⟩
      refine W_run hrun hS (fun r2 w1 H1 locs1 hK hP1 hS1 => ?_)
      rw [opt_l]
      exact hK H1 locs1 ls hP1 hS1 hL
  · exact False.elim h
theorem s_callS (C0 : Cx p s m args meth c D ad adV cA cc nL own) {pc index n dd d2 maxL : Nat} {y : MethodName} {cc2 : ByteArray} {ret : Option FieldType} {f : Mf} (hM : Okm l y cc2 maxL ret d2 f) (d : decode cc pc = .ok (.invokestatic index, 3))
    (hy : y.cls ≠ "java/lang/invoke/MethodHandle" ∧ y.cls ≠ "java/lang/invoke/VarHandle" ∧ (parseMethodDescriptor y.desc).map (fun d => d.parameters.length) = some n)
    (t1 : Cond.methodLink own index y ∈ TT) (t2 : Cond.static y ∈ TT) (t4 : Cond.initialized y.cls ∈ TT) (t5 : Cond.code y cc2 maxL ret ∈ TT) (hR : R = rmd dd) (hlt : d2 + 1 ≤ dd) (hm : maxL ≤ 21) : Sd p l e R s m args below meth c Q D ad cA nL pc (o_callS f n (pc + 3)) := by
  intro L st w h H locs ls hP hS hL
  unfold o_callS at h
  revert h
  cases hk : okS n st (st.drop n)
  · exact False.elim
  · intro h
    simp only [okS, Bool.and_eq_true, beq_iff_eq] at hk
    have hz := rm_le (ad := ad) hk.1
    have hrun := va_runS (As := ((st.take n).reverse).map (vl ad)) (rest := (st.drop n).map (vl ad)) (H := H) (locs := locs) (cells := 0) (slots := 0) (g := F0 m pc ls (st.map (vl ad))) (e := e) (R := R) (below := below) (meth := meth) ⟨C0.1, C0.2.1, C0.2.2.1, C0.2.2.2.1, C0.2.2.2.2.1⟩ (hM D ad adV cA (st.take n).reverse w _ h) (va_cwS n C0.2.2.2.2.1 (good_S t1 t2 t4 t5) rfl rfl rfl hy (room_c hR hlt hm)) ⟨blind_P, fun U hU hW => ⟨rfl, inv_call C0 hP hS hU hW⟩⟩ rfl (by rw [List.length_map, List.length_reverse]; exact hk.2) hL.1 stack_S (by show 2 * 0 + _ ≤ 8; omega) d ⟨Nat.zero_le _, Nat.zero_le _⟩
    refine W_run hrun hS (fun r2 w1 H1 locs1 hK hP1 hS1 => ?_)
    rw [opt_l]
    exact hK H1 locs1 ls hP1 hS1 hL
theorem s_callN (C0 : Cx p s m args meth c D ad adV cA cc nL own) {pc index n dd d2 maxL : Nat} {y : MethodName} {host : String} {cc2 : ByteArray} {ret : Option FieldType} {f : Mf} (hM : Okm l y cc2 maxL ret d2 f) (d : decode cc pc = .ok (.invokestatic index, 3))
    (hy : y.cls ≠ "java/lang/invoke/MethodHandle" ∧ y.cls ≠ "java/lang/invoke/VarHandle" ∧ (parseMethodDescriptor y.desc).map (fun d => d.parameters.length) = some n)
    (t1 : (own, index, y, host) ∈ nMth) (t2 : Cond.static y ∈ TT) (t4 : Cond.initialized y.cls ∈ TT) (t5 : Cond.code y cc2 maxL ret ∈ TT) (hR : R = rmd dd) (hlt : d2 + 1 ≤ dd) (hm : maxL ≤ 21) : Sd p l e R s m args below meth c Q D ad cA nL pc (o_callS f n (pc + 3)) := by
  intro L st w h H locs ls hP hS hL
  unfold o_callS at h
  revert h
  cases hk : okS n st (st.drop n)
  · exact False.elim
  · intro h
    simp only [okS, Bool.and_eq_true, beq_iff_eq] at hk
    have hz := rm_le (ad := ad) hk.1
    have hrun := va_runSN (As := ((st.take n).reverse).map (vl ad)) (rest := (st.drop n).map (vl ad)) (H := H) (locs := locs) (cells := 0) (slots := 0) (g := F0 m pc ls (st.map (vl ad))) (e := e) (R := R) (below := below) (meth := meth) ⟨C0.1, C0.2.1, C0.2.2.1, C0.2.2.2.1, C0.2.2.2.2.1⟩ (hM D ad adV cA (st.take n).reverse w _ h) ⟨va_cnB n C0.2.2.2.2.1 (good_c t5) rfl rfl rfl (C0.2.2.2.2.2.2.2.1.2.2.2.2 _ t1) (C0.2.2.2.2.1 _ t4) hy (room_c hR hlt hm), C0.2.2.2.2.1 _ t2, trivial⟩ ⟨blind_P, fun U hU hW => ⟨rfl, inv_call C0 hP hS hU hW⟩⟩ rfl (by rw [List.length_map, List.length_reverse]; exact hk.2) hL.1 stack_S (by show 2 * 0 + _ ≤ 8; omega) d ⟨Nat.zero_le _, Nat.zero_le _⟩
    refine W_run hrun hS (fun r2 w1 H1 locs1 hK hP1 hS1 => ?_)
    rw [opt_l]
    exact hK H1 locs1 ls hP1 hS1 hL
theorem s_bot (C0 : Cx p s m args meth c D ad adV cA cc nL own) {pc : Nat} : Sd p l e R s m args below meth c Q D ad cA nL pc o_bot := fun _ _ _ h => False.elim h
theorem s_iret (C0 : Cx p s m args meth c D ad adV cA cc nL own) {pc : Nat} {K : Kt} (hr : meth.sig.returnType = some .int) (d : decode cc pc = .ok (.ireturn, 1)) : Sd p l e R s m args below meth c (MQ below (QQ D ad cA K) args s 0 0 (AA ad)) D ad cA nL pc (o_iret K) := by
  intro L st w h H locs ls hP hS hL
  unfold o_iret at h
  split at h
  · exact W.iret C0.1 C0.2.1 hr (fun t ht hW => ⟨some _, w, h, rfl, by rw [ht]; exact hP, hS.F ht⟩) hS.2.2 d C0.2.2.2.2.2.2.2.2
  · exact False.elim h
theorem s_zret (C0 : Cx p s m args meth c D ad adV cA cc nL own) {pc : Nat} {K : Kt} (hr : meth.sig.returnType = some .boolean) (d : decode cc pc = .ok (.ireturn, 1)) : Sd p l e R s m args below meth c (MQ below (QQ D ad cA K) args s 0 0 (AA ad)) D ad cA nL pc (o_zret K) := by
  intro L st w h H locs ls hP hS hL
  unfold o_zret at h
  split at h
  · refine W.zret C0.1 C0.2.1 hr ?_ (fun t ht hW => ⟨some _, w, h.2, rfl, by rw [ht]; exact hP, hS.F ht⟩) hS.2.2 d C0.2.2.2.2.2.2.2.2
    rcases h.1 with h | h <;> rw [h] <;> decide
  · exact False.elim h
theorem s_lret (C0 : Cx p s m args meth c D ad adV cA cc nL own) {pc : Nat} {K : Kt} (hr : meth.sig.returnType = some .long) (d : decode cc pc = .ok (.lreturn, 1)) : Sd p l e R s m args below meth c (MQ below (QQ D ad cA K) args s 0 0 (AA ad)) D ad cA nL pc (o_lret K) := by
  intro L st w h H locs ls hP hS hL
  unfold o_lret at h
  split at h
  · exact W.lret C0.1 C0.2.1 hr (fun t ht hW => ⟨some _, w, h, rfl, by rw [ht]; exact hP, hS.F ht⟩) hS.2.2 d C0.2.2.2.2.2.2.2.2
  · exact False.elim h
theorem s_vret (C0 : Cx p s m args meth c D ad adV cA cc nL own) {pc : Nat} {K : Kt} (hr : meth.sig.returnType = none) (d : decode cc pc = .ok (.return_, 1)) : Sd p l e R s m args below meth c (MQ below (QQ D ad cA K) args s 0 0 (AA ad)) D ad cA nL pc (o_vret K) := by
  intro L st w h H locs ls hP hS hL
  unfold o_vret at h
  split at h
  · exact W.vret C0.1 C0.2.1 hr (fun t ht hW => ⟨none, w, h, rfl, by rw [ht]; exact hP, hS.F ht⟩) hS.2.2 d C0.2.2.2.2.2.2.2.2
  · exact False.elim h
end OPC
/-! a method out of its table -/
def wds (As : List Value) : Nat := (As.map fun v => v.category).sum
def entL : List Value → List Value
  | [] => []
  | v :: r => bif v.category == 2 then v :: .null :: entL r else v :: entL r
def ent (n : Nat) (As : List Value) : List Value := entL As ++ List.replicate (n - wds As) .null
/-- a method's meaning: the least predicate that its table closes, from its entry -/
def mf (n : Nat) (tab : Kt → Nat → Op) : Mf := fun As w K => wds As ≤ n ∧ RR (tab K) 0 (ent n As) [] w
theorem lg_len (vs : List Value) : (lg_sl vs).length = wds vs := by
  induction vs with
  | nil => rfl
  | cons v r ih =>
    show (lg_sl (v :: r)).length = v.category + wds r
    have e : lg_sl (v :: r) = (if v.category = 2 then [Slot.val v, Slot.second] else [Slot.val v]) ++ lg_sl r := by simp [lg_sl]
    rw [e, List.length_append, ih]
    rcases lv_cat v with h | h
    · rw [if_neg (by omega), h]; rfl
    · rw [if_pos h, h]; rfl
theorem entL_args (ad : Nat → Nat) : ∀ (As : List Value) (i j : Nat) (v : Value), (entL As)[j]? = some v → v ≠ .null → (i + j, vl ad v) ∈ lv_args i (As.map (vl ad)) := by
  intro As
  induction As with
  | nil => intro i j v h; cases h
  | cons a r ih =>
    intro i j v h hn
    show (i + j, vl ad v) ∈ (i, vl ad a) :: lv_args (if (vl ad a).category = 2 then i + 2 else i + 1) (r.map (vl ad))
    rw [vl_cat]
    have e : entL (a :: r) = bif a.category == 2 then a :: .null :: entL r else a :: entL r := rfl
    rw [e] at h
    cases hc : (a.category == 2) with
    | true =>
      rw [hc] at h
      simp only [cond_true] at h
      have h2 : a.category = 2 := by simpa using hc
      rw [if_pos h2]
      match j, h with
      | 0, h => cases h; exact List.mem_cons_self
      | 1, h => cases h; exact absurd rfl hn
      | j + 2, h =>
        refine List.mem_cons_of_mem _ ?_
        have := ih (i + 2) j v h hn
        rw [show i + (j + 2) = i + 2 + j by omega]
        exact this
    | false =>
      rw [hc] at h
      simp only [cond_false] at h
      have h2 : ¬ a.category = 2 := by simpa using hc
      rw [if_neg h2]
      match j, h with
      | 0, h => cases h; exact List.mem_cons_self
      | j + 1, h =>
        refine List.mem_cons_of_mem _ ?_
        have := ih (i + 1) j v h hn
        rw [show i + (j + 1) = i + 1 + j by omega]
        exact this
theorem ent_has {ad : Nat → Nat} {As : List Value} {n : Nat} (h : wds As ≤ n) : hasL ad ((lg_sl (As.map (vl ad)) ++ List.replicate (n - (lg_sl (As.map (vl ad))).length) Slot.unset).toArray) n (ent n As) := by
  have hw : (lg_sl (As.map (vl ad))).length = wds As := by
    rw [lg_len]
    exact rm_vl ad As
  obtain ⟨h1, h2, h3⟩ := lv_entry (As.map (vl ad)) (n := n) (by rw [hw]; exact h)
  refine ⟨h1, h2, fun i v hi hn => ?_⟩
  unfold ent at hi
  rw [List.getElem?_append] at hi
  split at hi
  · have := entL_args ad As 0 i v hi hn
    rw [Nat.zero_add] at this
    exact h3 _ this
  · rw [List.getElem?_replicate] at hi
    split at hi
    · exact absurd (Option.some.inj hi).symm hn
    · cases hi
theorem mf_mono {n : Nat} {tab : Kt → Nat → Op} (h : ∀ (K K1 : Kt), (∀ r w1, K r w1 → K1 r w1) → ∀ pc (P : Fr) L st w, tab K pc P L st w → tab K1 pc P L st w) : MonoF (mf n tab) := by
  intro As w K K1 hk hf
  exact ⟨hf.1, fun P hP => hf.2 P (fun pc L st w z => hP pc L st w (h K K1 hk pc P L st w z))⟩
theorem Okm_of {l : Launch} {y : MethodName} {cc : ByteArray} {maxL d : Nat} {ret : Option FieldType} {tab : Kt → Nat → Op} {own : String} (hy : plainName y.cls = true) (ho : y.cls = own)
    (hs : ∀ (p : Program) (e : Env) (s : State) (m : MethodId) (args : Array Value) (below : List Frame) (meth : Method) (c : Code) (D : va_G) (ad adV : Nat → Nat) (cA : Nat → ClassId) (K : Kt), Cx p s m args meth c D ad adV cA cc maxL own → meth.sig.returnType = ret → ∀ pc, Sd p l e (rmd d) s m args below meth c (MQ below (QQ D ad cA K) args s 0 0 (AA ad)) D ad cA maxL pc (tab K pc)) : Okm l y cc maxL ret d (mf maxL tab) := by
  intro D ad adV cA As w K hf
  refine Met.ofW (cc := cc) (maxL := maxL) (ret := ret) hy rfl ?_
  intro p e s m args below meth c s₁ B hml hv
  obtain ⟨rfl, hP, hK, hI, hR⟩ := hv
  have hts := atoms_spec (ws := Cond.code y cc maxL ret :: TT) B.pre
  have hown : s.vm.findClass own = some m.cls := by rw [← ho]; exact findClass_of_methodNamed B.named
  have C0 : Cx p s m (As.map (vl ad)).toArray meth c D ad adV cA cc maxL own := ⟨B.exec, B.bytes, hml, hown, fun w h => hts w (List.mem_cons_of_mem _ h), hK, hI, hR, B.notSynchronized⟩
  have hG := hf.2 (Gd p l e (rmd d) s m (As.map (vl ad)).toArray below meth c (MQ below (QQ D ad cA K) (As.map (vl ad)).toArray s 0 0 (AA ad)) D ad cA maxL) (fun pc L st w h => hs p e s m _ below meth c D ad adV cA K C0 B.returns pc L st w h)
  rw [lg_entry_eq]
  exact hG s.heap [] _ hP va_S.rf (ent_has hf.1)
end
section
def opOf (K : Kt) : Op ⊕ Nat → Op
  | .inl o => o
  | .inr 0 => o_iret K
  | .inr 1 => o_zret K
  | .inr 2 => o_lret K
  | .inr _ => o_vret K
def tl (K : Kt) : List (Nat × (Op ⊕ Nat)) → Nat → Op
  | [], _ => o_bot
  | q :: r, pc => bif Nat.beq q.1 pc then opOf K q.2 else tl K r pc
theorem opOf_le {K K1 : Kt} (hk : ∀ r w1, K r w1 → K1 r w1) (o : Op ⊕ Nat) (P : Fr) (L st : List Value) (w : Wd) (h : opOf K o P L st w) : opOf K1 o P L st w := by
  match o, h with
  | .inl _, h => exact h
  | .inr 0, h =>
    revert h; show o_iret K P L st w → o_iret K1 P L st w
    unfold o_iret; split
    · exact hk _ _
    · exact id
  | .inr 1, h =>
    revert h; show o_zret K P L st w → o_zret K1 P L st w
    unfold o_zret; split
    · exact fun h => ⟨h.1, hk _ _ h.2⟩
    · exact id
  | .inr 2, h =>
    revert h; show o_lret K P L st w → o_lret K1 P L st w
    unfold o_lret; split
    · exact hk _ _
    · exact id
  | .inr (n + 3), h =>
    revert h; show o_vret K P L st w → o_vret K1 P L st w
    unfold o_vret; split
    · exact hk _ _
    · exact id
theorem tl_le {K K1 : Kt} (hk : ∀ r w1, K r w1 → K1 r w1) (lst : List (Nat × (Op ⊕ Nat))) (pc : Nat) (P : Fr) (L st : List Value) (w : Wd) (h : tl K lst pc P L st w) : tl K1 lst pc P L st w := by
  induction lst with
  | nil => exact h
  | cons q r ih =>
    revert h
    show (bif Nat.beq q.1 pc then opOf K q.2 else tl K r pc) P L st w → (bif Nat.beq q.1 pc then opOf K1 q.2 else tl K1 r pc) P L st w
    cases Nat.beq q.1 pc
    · exact ih
    · exact opOf_le hk q.2 P L st w
theorem mono_f (n : Nat) (lst : List (Nat × (Op ⊕ Nat))) : MonoF (mf n (fun K => tl K lst)) := mf_mono (fun _ _ hk pc P L st w h => tl_le hk lst pc P L st w h)
theorem Okm_tl {l : Launch} {y : MethodName} {cc : ByteArray} {maxL d : Nat} {ret : Option FieldType} {lst : List (Nat × (Op ⊕ Nat))} {own : String} (hy : plainName y.cls = true) (ho : y.cls = own)
    (hs : ∀ {p : Program} {e : Env} {s : State} {m : MethodId} {args : Array Value} {below : List Frame} {meth : Method} {c : Code} {D : va_G} {ad adV : Nat → Nat} {cA : Nat → ClassId} {K : Kt}, Cx p s m args meth c D ad adV cA cc maxL own → meth.sig.returnType = ret → ∀ q ∈ lst, Sd p l e (rmd d) s m args below meth c (MQ below (QQ D ad cA K) args s 0 0 (AA ad)) D ad cA maxL q.1 (opOf K q.2)) : Okm l y cc maxL ret d (mf maxL (fun K => tl K lst)) := by
  refine Okm_of hy ho (fun p e s m args below meth c D ad adV cA K C0 hr pc => ?_)
  have h := hs (p := p) (e := e) (s := s) (m := m) (args := args) (below := below) (meth := meth) (c := c) (K := K) C0 hr
  clear hs
  induction lst with
  | nil => exact s_bot C0
  | cons q r ih =>
    show Sd p l e (rmd d) s m args below meth c _ D ad cA maxL pc (bif Nat.beq q.1 pc then opOf K q.2 else tl K r pc)
    cases hb : Nat.beq q.1 pc with
    | true =>
      have e1 : q.1 = pc := Nat.eq_of_beq_eq_true hb
      rw [← e1]
      exact h q List.mem_cons_self
    | false => exact ih (fun q hq => h q (List.mem_cons_of_mem _ hq))
theorem inX0 : ∀ w ∈ u_ws RX0 TX0 11, w ∈ TT := by
  intro w h
  obtain ⟨k, hk, rfl⟩ := List.mem_map.mp h
  have hk := List.mem_range.mp hk
  match k, hk with
  | 0, _ => exact tw1_239
  | 1, _ => exact tw2_1
  | 2, _ => exact tw2_3
  | 3, _ => exact tw2_5
  | 4, _ => exact tw2_7
  | 5, _ => exact tw2_9
  | 6, _ => exact tw2_11
  | 7, _ => exact tw2_13
  | 8, _ => exact tw2_15
  | 9, _ => exact tw2_17
  | 10, _ => exact tw2_19
  | k + 11, h => exact absurd h (by omega)
theorem inX1 : ∀ w ∈ u_ws RX1 TX1 2, w ∈ TT := by
  intro w h
  obtain ⟨k, hk, rfl⟩ := List.mem_map.mp h
  have hk := List.mem_range.mp hk
  match k, hk with
  | 0, _ => exact tw1_199
  | 1, _ => exact tw1_201
  | k + 2, h => exact absurd h (by omega)
theorem inX2 : ∀ w ∈ u_ws RX2 TX2 9, w ∈ TT := by
  intro w h
  obtain ⟨k, hk, rfl⟩ := List.mem_map.mp h
  have hk := List.mem_range.mp hk
  match k, hk with
  | 0, _ => exact tw2_40
  | 1, _ => exact tw2_42
  | 2, _ => exact tw2_44
  | 3, _ => exact tw2_46
  | 4, _ => exact tw2_48
  | 5, _ => exact tw2_50
  | 6, _ => exact tw2_52
  | 7, _ => exact tw2_54
  | 8, _ => exact tw2_56
  | k + 9, h => exact absurd h (by omega)
theorem inX3 : ∀ w ∈ u_ws RX3 TX3 3, w ∈ TT := by
  intro w h
  obtain ⟨k, hk, rfl⟩ := List.mem_map.mp h
  have hk := List.mem_range.mp hk
  match k, hk with
  | 0, _ => exact tw1_213
  | 1, _ => exact tw1_215
  | 2, _ => exact tw1_217
  | k + 3, h => exact absurd h (by omega)
theorem inX4 : ∀ w ∈ u_ws RX4 TX4 5, w ∈ TT := by
  intro w h
  obtain ⟨k, hk, rfl⟩ := List.mem_map.mp h
  have hk := List.mem_range.mp hk
  match k, hk with
  | 0, _ => exact tw2_107
  | 1, _ => exact tw2_109
  | 2, _ => exact tw2_111
  | 3, _ => exact tw2_113
  | 4, _ => exact tw2_115
  | k + 5, h => exact absurd h (by omega)
theorem inX5 : ∀ w ∈ u_ws RX5 TX5 4, w ∈ TT := by
  intro w h
  obtain ⟨k, hk, rfl⟩ := List.mem_map.mp h
  have hk := List.mem_range.mp hk
  match k, hk with
  | 0, _ => exact tw1_175
  | 1, _ => exact tw1_177
  | 2, _ => exact tw1_179
  | 3, _ => exact tw1_181
  | k + 4, h => exact absurd h (by omega)
theorem inX6 : ∀ w ∈ u_ws RX6 TX6 5, w ∈ TT := by
  intro w h
  obtain ⟨k, hk, rfl⟩ := List.mem_map.mp h
  have hk := List.mem_range.mp hk
  match k, hk with
  | 0, _ => exact tw1_147
  | 1, _ => exact tw1_149
  | 2, _ => exact tw1_151
  | 3, _ => exact tw1_153
  | 4, _ => exact tw1_155
  | k + 5, h => exact absurd h (by omega)
theorem inX7 : ∀ w ∈ u_ws RX7 TX7 8, w ∈ TT := by
  intro w h
  obtain ⟨k, hk, rfl⟩ := List.mem_map.mp h
  have hk := List.mem_range.mp hk
  match k, hk with
  | 0, _ => exact tw2_78
  | 1, _ => exact tw2_80
  | 2, _ => exact tw2_82
  | 3, _ => exact tw2_84
  | 4, _ => exact tw2_86
  | 5, _ => exact tw2_88
  | 6, _ => exact tw2_90
  | 7, _ => exact tw2_92
  | k + 8, h => exact absurd h (by omega)
theorem inX8 : ∀ w ∈ u_ws RX8 TX8 8, w ∈ TT := by
  intro w h
  obtain ⟨k, hk, rfl⟩ := List.mem_map.mp h
  have hk := List.mem_range.mp hk
  match k, hk with
  | 0, _ => exact tw1_50
  | 1, _ => exact tw1_52
  | 2, _ => exact tw1_54
  | 3, _ => exact tw1_56
  | 4, _ => exact tw1_58
  | 5, _ => exact tw1_60
  | 6, _ => exact tw1_62
  | 7, _ => exact tw1_64
  | k + 8, h => exact absurd h (by omega)
theorem inX9 : ∀ w ∈ u_ws RX9 TX9 10, w ∈ TT := by
  intro w h
  obtain ⟨k, hk, rfl⟩ := List.mem_map.mp h
  have hk := List.mem_range.mp hk
  match k, hk with
  | 0, _ => exact tw1_115
  | 1, _ => exact tw1_117
  | 2, _ => exact tw1_119
  | 3, _ => exact tw1_121
  | 4, _ => exact tw1_123
  | 5, _ => exact tw1_125
  | 6, _ => exact tw1_127
  | 7, _ => exact tw1_129
  | 8, _ => exact tw1_131
  | 9, _ => exact tw1_133
  | k + 10, h => exact absurd h (by omega)
theorem inX10 : ∀ w ∈ u_ws RX10 TX10 13, w ∈ TT := by
  intro w h
  obtain ⟨k, hk, rfl⟩ := List.mem_map.mp h
  have hk := List.mem_range.mp hk
  match k, hk with
  | 0, _ => exact tw2_131
  | 1, _ => exact tw2_133
  | 2, _ => exact tw2_135
  | 3, _ => exact tw2_137
  | 4, _ => exact tw2_139
  | 5, _ => exact tw2_141
  | 6, _ => exact tw2_143
  | 7, _ => exact tw2_145
  | 8, _ => exact tw2_147
  | 9, _ => exact tw2_149
  | 10, _ => exact tw2_151
  | 11, _ => exact tw2_153
  | 12, _ => exact tw2_155
  | k + 13, h => exact absurd h (by omega)
theorem inX11 : ∀ w ∈ u_ws RX11 TX11 28, w ∈ TT := by
  intro w h
  obtain ⟨k, hk, rfl⟩ := List.mem_map.mp h
  have hk := List.mem_range.mp hk
  match k, hk with
  | 0, _ => exact tw6_39
  | 1, _ => exact tw6_41
  | 2, _ => exact tw6_43
  | 3, _ => exact tw6_45
  | 4, _ => exact tw6_47
  | 5, _ => exact tw6_49
  | 6, _ => exact tw6_51
  | 7, _ => exact tw6_53
  | 8, _ => exact tw6_55
  | 9, _ => exact tw6_57
  | 10, _ => exact tw6_59
  | 11, _ => exact tw6_61
  | 12, _ => exact tw6_63
  | 13, _ => exact tw6_65
  | 14, _ => exact tw6_67
  | 15, _ => exact tw6_69
  | 16, _ => exact tw6_71
  | 17, _ => exact tw6_73
  | 18, _ => exact tw6_75
  | 19, _ => exact tw6_77
  | 20, _ => exact tw6_79
  | 21, _ => exact tw6_81
  | 22, _ => exact tw6_83
  | 23, _ => exact tw6_85
  | 24, _ => exact tw6_87
  | 25, _ => exact tw6_89
  | 26, _ => exact tw6_91
  | 27, _ => exact tw6_93
  | k + 28, h => exact absurd h (by omega)
theorem twm_max : Cond.code Lib.Math.max.name Lib.Math.max.code 2 (some .int) ∈ TT := tw2_199
theorem twm_min : Cond.code Lib.Math.min.name Lib.Math.min.code 2 (some .int) ∈ TT := tw2_196
end
section
def o_putZ (ci k nx : Nat) : Op := fun P L st w => match st with
  | .int v :: .ref x :: r => match shp[x]? with
    | some (.inr q) => bif q.1 == ci && q.2[k]? == some 0 then (v = 0 ∨ v = 1) ∧ P nx L r (upI w x k v) else False
    | _ => False
  | _ => False
theorem m_putZ (ci k nx : Nat) : Mono (o_putZ ci k nx) := by
  intro P Q hpq L st w h
  unfold o_putZ at h ⊢
  split at h
  · split at h
    · rename_i q hq
      cases hc : (q.1 == ci && q.2[k]? == some 0) with
      | true =>
        simp only [hc, cond_true] at h ⊢
        exact ⟨h.1, hpq _ _ _ _ h.2⟩
      | false => simp only [hc, cond_false] at h
    · exact h.elim
  · exact h.elim
section OPM
variable {p : Program} {l : Launch} {e : Env} {R : Room} {s : State} {m : MethodId} {args : Array Value} {below : List Frame} {meth : Method} {c : Code} {Q : State → Prop} {D : va_G} {ad adV : Nat → Nat} {cA : Nat → ClassId} {cc : ByteArray} {nL : Nat} {own : String}
theorem s_putZ (C0 : Cx p s m args meth c D ad adV cA cc nL own) {pc : Nat} {C : String} {T : u_T} {N ci k index : Nat} {ty0 : Nat → FieldType} (d : decode cc pc = .ok (.putfield index, 3)) (hin : ∀ w ∈ u_ws C T N, w ∈ TT) (hty : ∀ k, k < N → parseFieldDescriptor (T k).2.2.1 = some (ty0 k)) (hnm : ∀ a, a < N → ∀ b, b < N → a ≠ b → (T a).2.1 ≠ (T b).2.1) (hc : vwCl[ci]? = some (C, T, N)) (hk : k < N) (hfin : (T k).2.2.2 = false) (hd : ty0 k = .boolean) (ht : Cond.fieldLink own index (T k).1 (T k).2.1 (T k).2.2.1 ∈ TT) : Sd p l e R s m args below meth c Q D ad cA nL pc (o_putZ ci k (pc + 3)) := by
  intro L st w h H locs ls hP hS hL
  unfold o_putZ at h
  split at h
  · split at h
    · rename_i v x r _ q hq
      cases hz : (q.1 == ci && q.2[k]? == some 0) with
      | true =>
        simp only [hz, cond_true] at h
        simp only [Bool.and_eq_true, beq_iff_eq] at hz
        obtain ⟨e, hkd⟩ := hz
        subst e
        obtain ⟨hv, h⟩ := h
        have hl : k < (q.2.mapIdx (fun j k => vl ad (fvA w x j k))).length := by rw [List.length_mapIdx]; exact (List.getElem?_eq_some_iff.mp hkd).1
        refine va_put C0.1 C0.2.1 C0.2.2.2.2.1 hin ty0 hty hnm C0.2.2.2.1 C0.2.2.2.2.2.1 hP (Cells_D C0.2.2.2.2.2.2.1) hS x (fs := q.2.mapIdx (fun j k => vl ad (fvA w x j k))) (Cells_get hq) hc k hk (C0.2.2.2.2.1 _ ht) (fun _ h => h) hfin (ty := .boolean) (v := .int v) (by rw [hty k hk, hd]) (by rcases hv with hv | hv <;> rw [hv] <;> decide) (by rcases hv with hv | hv <;> rw [hv] <;> decide) hl d (fun H1 locs1 hP1 _ hS1 => ?_)
        rw [Cells_set (w' := upI w x k v) hq] at hP1
        · exact h H1 locs1 ls hP1 hS1 hL
        · intro a ha
          exact ⟨by funext b; simp [upI, ha], by funext b; simp [upI, ha]⟩
        · show (Sum.inr (q.1, _) : va_E) = Sum.inr (q.1, _)
          congr 2
          apply List.ext_getElem?
          intro j
          rw [List.getElem?_set]
          by_cases hj : k = j
          · subst hj
            rw [if_pos rfl, if_pos hl, List.getElem?_mapIdx, hkd]
            simp [fvA, vl, upI]
          · rw [if_neg hj, List.getElem?_mapIdx, List.getElem?_mapIdx]
            cases q.2[j]? with
            | none => rfl
            | some kd =>
              have : fvA (upI w x k v) x j kd = fvA w x j kd := by
                unfold fvA
                split <;> simp [upI, Ne.symm hj]
              simp [this]
      | false => simp only [hz, cond_false] at h
    · exact h.elim
  · exact h.elim
/-- a copy out of a static array of ints -/
theorem s_copyR (C0 : Cx p s m args meth c D ad adV cA cc nL own) {pc index dd : Nat} (d : decode cc pc = .ok (.invokestatic index, 3)) (t1 : Cond.methodLink own index arraycopyName ∈ TT) (t2 : Cond.native arraycopyName ∈ TT) (t3 : Cond.static arraycopyName ∈ TT) (t4 : Cond.initialized "java/lang/System" ∈ TT) (hR : R = rmd dd) (hd : 1 ≤ dd) : Sd p l e R s m args below meth c Q D ad cA nL pc (o_copyR (pc + 3)) := by
  intro L st w h H locs ls hP hS hL
  unfold o_copyR at h
  split at h
  · rename_i n dp x sp y r
    revert h
    cases h1 : roL y <;> cases h2 : arL 0 x <;> cases hr : rmok r <;> intro h <;> try exact False.elim h
    · rename_i n0 n1
      have hz := rm_le (ad := ad) hr
      have hl : R.locals = 40 * dd := by rw [hR]; rfl
      have hf : R.frames = dd := by rw [hR]; rfl
      have hw : nativeFrameWords "java/lang/System" "arraycopy" 5 + 11 = 18 := by decide +kernel
      obtain ⟨k, hk, rfl, hn0⟩ := roL_of h1
      rw [Nat.add_sub_cancel_left] at h
      subst hn0
      obtain ⟨⟨g1, g2, g3, g4, g5⟩, h⟩ := h
      have hX := (C0.2.2.2.2.2.2.2.1.1 k hk).2
      have nn : ∀ z : Int32, ¬ z < 0 → z.toInt = (z.toNatClampNeg : Int) := by
        intro z hz
        have hz0 : (0 : Int) ≤ z.toInt := by
          have := Int32.not_lt.mp hz
          simpa using Int32.le_iff_toInt_le.mp this
        show z.toInt = ((z.toInt.toNat : Nat) : Int)
        omega
      have ha1 := Cells_get (ad := ad) (cA := cA) (w := w) (arL_of h2)
      intro T hT X
      obtain ⟨scr, hs1, hs2, hs3, hs4, -, hs5, hs7⟩ := hX
      have hc0 : H[ad (100 + k)]? = some scr := by rw [hS.2.1 _ (Array.getElem?_eq_some_iff.mp hs1).1 hs7]; exact hs1
      have hc1 : H[ad x]? = some (vp_cell (cA 0) (n1, .inl (w.1 x))) := hP x _ ha1
      obtain ⟨hs6, k0, hk0, cm0, hkk0⟩ := hs2
      obtain ⟨-, k1, hk1, cm1, hkk1⟩ := (C0.2.2.2.2.2.1.2 0 (cA 0, .int) rfl).1 n1 (fun j => .int (w.1 x j))
      have hD := Cells_D (cA := cA) (w := w) C0.2.2.2.2.2.2.1
      obtain ⟨vm', X', step⟩ := X.arraycopy C0.1 C0.2.2.2.1 (C0.2.2.2.2.1 _ t1) (C0.2.2.2.2.1 _ t2) (C0.2.2.2.2.1 _ t3) (C0.2.2.2.2.1 _ t4) (src := ad (100 + k)) (dst := ad x) (cs := scr) (cd := vp_cell (cA 0) (n1, .inl (w.1 x))) (srcPos := sp) (destPos := dp) (n := n) (by rw [hT]; exact hc0) (by rw [hT]; exact hc1)
        hs6 (fun _ h => by cases h) hs3 (fun h => by cases h) hk0 hk1 hkk0 hkk1 (by simp [refKind]) g1 g2 g3
        (by rw [nn sp g1, nn n g3]; omega)
        (by rw [nn dp g2, nn n g3]; show ¬ _ > ((arrV (cA 0) n1 (fun j => .int (w.1 x j))).slots.size : Int); rw [arrV_size]; omega)
        (fun vm₁ _ i hi => by
          have e : scr.slots.getD (sp.toNatClampNeg + i) .null = .int ((roV.getD k []).getD (sp.toNatClampNeg + i) 0) := by
            rw [Array.getD_eq_getD_getElem?, hs5 _ (by omega)]
            rfl
          refine ⟨?_, ?_⟩
          · rw [e]
            rfl
          · rw [e]
            exact trivial)
        (g := F0 m pc ls (.int n :: .int dp :: .ref (ad x) :: .int sp :: .ref (ad (100 + k)) :: r.map (vl ad))) rfl (by rw [C0.2.2.1]; exact hL.1) (rest := r.map (vl ad)) rfl (by rw [C0.2.1]; exact d) (by omega) (by show 2 * 0 + _ + _ ≤ _; omega)
      have e1 : copied scr (vp_cell (cA 0) (n1, .inl (w.1 x))) sp dp n = vp_cell (cA 0) (n1, .inl (va_cpy (fun j => (roV.getD k []).getD j 0) (w.1 x) sp.toNatClampNeg dp.toNatClampNeg n.toNatClampNeg)) := va_copiedX (fun z => .int z) scr (cA 0) (fun j => (roV.getD k []).getD j 0) (w.1 x) hs5 g4
      rw [e1] at X' step
      have hl : ad x < H.size := (Array.getElem?_eq_some_iff.mp hc1).1
      generalize hE : vp_cell (cA 0) (n1, .inl (va_cpy (fun j => (roV.getD k []).getD j 0) (w.1 x) sp.toNatClampNeg dp.toNatClampNeg n.toNatClampNeg)) = E at X' step
      have hheap : ((T.setVm vm').setCell (ad x) E).heap = H.setIfInBounds (ad x) E := by rw [← hT]; rfl
      have oq : ∀ q : Nat, q ≠ ad x → (H.setIfInBounds (ad x) E)[q]? = H[q]? := fun q hq => by simp [Array.getElem?_setIfInBounds, Ne.symm hq]
      have hP1 := hP.set (e := .inl (cA 0, n1, .inl (va_cpy (fun j => (roV.getD k []).getD j 0) (w.1 x) sp.toNatClampNeg dp.toNatClampNeg n.toNatClampNeg))) (H1 := H.setIfInBounds (ad x) E) hD ha1 (show (H.setIfInBounds (ad x) E)[ad x]? = some (vp_cell _ _) by rw [← hE]; simp [Array.getElem?_setIfInBounds, hl]) oq
      rw [Cells_set (w' := cpI w x (fun j => (roV.getD k []).getD j 0) sp.toNatClampNeg dp.toNatClampNeg n.toNatClampNeg) (arL_of h2)] at hP1
      · obtain ⟨t, a1, b1⟩ := h _ _ ls hP1 ⟨by simp; exact hS.1, fun q g1 g2 => by
            rw [oq q (fun e => g2 (by rw [e]; exact hD.2 x _ ha1))]
            exact hS.2.1 q g1 g2, fun q hq => by
            rcases List.mem_append.mp hq with h | h
            · exact hS.2.2 q h
            · obtain ⟨z, -, hz⟩ := List.mem_map.mp h
              rw [← hz]
              exact hD.2 x _ ha1⟩ hL _ hheap X'
        exact ⟨t, step t a1, b1⟩
      · intro a ha
        exact ⟨by funext b; simp [cpI, ha], by funext b; simp [cpI, ha]⟩
      · have ee : (cpI w x (fun j => (roV.getD k []).getD j 0) sp.toNatClampNeg dp.toNatClampNeg n.toNatClampNeg).1 x = va_cpy (fun j => (roV.getD k []).getD j 0) (w.1 x) sp.toNatClampNeg dp.toNatClampNeg n.toNatClampNeg := by
          funext b
          simp [cpI]
        show _ = (Sum.inl (cA 0, n1, Sum.inl ((cpI w x (fun j => (roV.getD k []).getD j 0) sp.toNatClampNeg dp.toNatClampNeg n.toNatClampNeg).1 x)) : va_E)
        rw [ee]
  · exact False.elim h
end OPM
/-! texts: their meanings -/
def isS (x : Nat) : Bool := Nat.ble 200 x && Nat.ble x 207
def fJ0_length_8abf5 : Mf := fun As w K => match As with
  | [.ref x] => match isS x with
    | true => K (some (.int (nI (sLen.getD (x - 200) 0)))) w
    | false => False
  | _ => False
def fJ0_charAt_5068e : Mf := fun As w K => match As with
  | [.ref x, .int i] => match isS x with
    | true => vp_in i (sLen.getD (x - 200) 0) ∧ K (some (.int ((sByt.getD (x - 200) []).getD i.toNatClampNeg 0))) w
    | false => False
  | _ => False
theorem qJ0_length_8abf5 : yJ0_length_8abf5.cls = "java/lang/String" ∧ yJ0_length_8abf5.cls ≠ "java/lang/invoke/MethodHandle" ∧ yJ0_length_8abf5.cls ≠ "java/lang/invoke/VarHandle" ∧ (parseMethodDescriptor yJ0_length_8abf5.desc).map (fun d => d.parameters.length) = some 0 := by decide +kernel
theorem qJ0_charAt_5068e : yJ0_charAt_5068e.cls = "java/lang/String" ∧ yJ0_charAt_5068e.cls ≠ "java/lang/invoke/MethodHandle" ∧ yJ0_charAt_5068e.cls ≠ "java/lang/invoke/VarHandle" ∧ (parseMethodDescriptor yJ0_charAt_5068e.desc).map (fun d => d.parameters.length) = some 1 := by decide +kernel
theorem kJ0_length_8abf5 (l : Launch) : Okm l yJ0_length_8abf5 cJ0_length_8abf5 1 (some .int) 4 fJ0_length_8abf5 := sorry
theorem kJ0_charAt_5068e (l : Launch) : Okm l yJ0_charAt_5068e cJ0_charAt_5068e 2 (some .char) 4 fJ0_charAt_5068e := sorry
end
section
theorem dX9_trait_0 : decode cX9_trait 0 = .ok (.aload_n 0, 1) := by decide +kernel
theorem dX9_trait_1 : decode cX9_trait 1 = .ok (.getfield 23, 3) := by decide +kernel
theorem dX9_trait_4 : decode cX9_trait 4 = .ok (.iload_n 1, 1) := by decide +kernel
theorem dX9_trait_5 : decode cX9_trait 5 = .ok (.iconst 4, 1) := by decide +kernel
theorem dX9_trait_6 : decode cX9_trait 6 = .ok (.imul, 1) := by decide +kernel
theorem dX9_trait_7 : decode cX9_trait 7 = .ok (.iload_n 2, 1) := by decide +kernel
theorem dX9_trait_8 : decode cX9_trait 8 = .ok (.iadd, 1) := by decide +kernel
theorem dX9_trait_9 : decode cX9_trait 9 = .ok (.iaload, 1) := by decide +kernel
theorem dX9_trait_10 : decode cX9_trait 10 = .ok (.ireturn, 1) := by decide +kernel
def lX9_trait : List (Nat × (Op ⊕ Nat)) := [(0, .inl (o_aload 0 1)), (1, .inl (o_get 9 3 4)), (4, .inl (o_iload 1 5)), (5, .inl (o_pushI (nI 4) 6)), (6, .inl (o_imul 7)), (7, .inl (o_iload 2 8)), (8, .inl (o_iadd 9)), (9, .inl (o_iald 10)), (10, .inr 0)]
theorem qX9_trait : yX9_trait.cls = RX9 ∧ yX9_trait.cls ≠ "java/lang/invoke/MethodHandle" ∧ yX9_trait.cls ≠ "java/lang/invoke/VarHandle" ∧ (parseMethodDescriptor yX9_trait.desc).map (fun d => d.parameters.length) = some 2 := by decide +kernel
set_option maxRecDepth 10000 in
theorem hX9_trait_0 (l : Launch) {p : Program} {e : Env} {s : State} {m : MethodId} {args : Array Value} {below : List Frame} {meth : Method} {c : Code} {D : va_G} {ad adV : Nat → Nat} {cA : Nat → ClassId} {K : Kt} (C0 : Cx p s m args meth c D ad adV cA cX9_trait 3 RX9) (hr : meth.sig.returnType = (some .int)) : ∀ q ∈ lX9_trait, Sd p l e (rmd 0) s m args below meth c (MQ below (QQ D ad cA K) args s 0 0 (AA ad)) D ad cA 3 q.1 (opOf K q.2) := List.forall_mem_cons.mpr ⟨s_aload_n C0 dX9_trait_0 rfl, List.forall_mem_cons.mpr ⟨s_get (ci := 9) (k := 3) C0 dX9_trait_1 inX9 rfl (by decide) tw1_91, List.forall_mem_cons.mpr ⟨s_iload_n C0 dX9_trait_4 rfl, List.forall_mem_cons.mpr ⟨s_iconst C0 dX9_trait_5 rfl, List.forall_mem_cons.mpr ⟨s_imul C0 dX9_trait_6, List.forall_mem_cons.mpr ⟨s_iload_n C0 dX9_trait_7 rfl, List.forall_mem_cons.mpr ⟨s_iadd C0 dX9_trait_8, List.forall_mem_cons.mpr ⟨s_iald C0 dX9_trait_9, List.forall_mem_cons.mpr ⟨s_iret C0 hr dX9_trait_10, fun _ h => absurd h List.not_mem_nil⟩⟩⟩⟩⟩⟩⟩⟩⟩
def fX9_trait : Mf := mf 3 (fun K => tl K lX9_trait)
theorem kX9_trait (l : Launch) : Okm l yX9_trait cX9_trait 3 (some .int) 0 fX9_trait := Okm_tl (own := RX9) (by decide +kernel) rfl (fun C0 hr => hX9_trait_0 l C0 hr)
theorem dX9_fact_0 : decode cX9_fact 0 = .ok (.aload_n 0, 1) := by decide +kernel
theorem dX9_fact_1 : decode cX9_fact 1 = .ok (.getfield 29, 3) := by decide +kernel
theorem dX9_fact_4 : decode cX9_fact 4 = .ok (.iload_n 1, 1) := by decide +kernel
theorem dX9_fact_5 : decode cX9_fact 5 = .ok (.iconst 3, 1) := by decide +kernel
theorem dX9_fact_6 : decode cX9_fact 6 = .ok (.imul, 1) := by decide +kernel
theorem dX9_fact_7 : decode cX9_fact 7 = .ok (.iload_n 2, 1) := by decide +kernel
theorem dX9_fact_8 : decode cX9_fact 8 = .ok (.iadd, 1) := by decide +kernel
theorem dX9_fact_9 : decode cX9_fact 9 = .ok (.iaload, 1) := by decide +kernel
theorem dX9_fact_10 : decode cX9_fact 10 = .ok (.ireturn, 1) := by decide +kernel
def lX9_fact : List (Nat × (Op ⊕ Nat)) := [(0, .inl (o_aload 0 1)), (1, .inl (o_get 9 5 4)), (4, .inl (o_iload 1 5)), (5, .inl (o_pushI (nI 3) 6)), (6, .inl (o_imul 7)), (7, .inl (o_iload 2 8)), (8, .inl (o_iadd 9)), (9, .inl (o_iald 10)), (10, .inr 0)]
theorem qX9_fact : yX9_fact.cls = RX9 ∧ yX9_fact.cls ≠ "java/lang/invoke/MethodHandle" ∧ yX9_fact.cls ≠ "java/lang/invoke/VarHandle" ∧ (parseMethodDescriptor yX9_fact.desc).map (fun d => d.parameters.length) = some 2 := by decide +kernel
set_option maxRecDepth 10000 in
theorem hX9_fact_0 (l : Launch) {p : Program} {e : Env} {s : State} {m : MethodId} {args : Array Value} {below : List Frame} {meth : Method} {c : Code} {D : va_G} {ad adV : Nat → Nat} {cA : Nat → ClassId} {K : Kt} (C0 : Cx p s m args meth c D ad adV cA cX9_fact 3 RX9) (hr : meth.sig.returnType = (some .int)) : ∀ q ∈ lX9_fact, Sd p l e (rmd 0) s m args below meth c (MQ below (QQ D ad cA K) args s 0 0 (AA ad)) D ad cA 3 q.1 (opOf K q.2) := List.forall_mem_cons.mpr ⟨s_aload_n C0 dX9_fact_0 rfl, List.forall_mem_cons.mpr ⟨s_get (ci := 9) (k := 5) C0 dX9_fact_1 inX9 rfl (by decide) tw1_99, List.forall_mem_cons.mpr ⟨s_iload_n C0 dX9_fact_4 rfl, List.forall_mem_cons.mpr ⟨s_iconst C0 dX9_fact_5 rfl, List.forall_mem_cons.mpr ⟨s_imul C0 dX9_fact_6, List.forall_mem_cons.mpr ⟨s_iload_n C0 dX9_fact_7 rfl, List.forall_mem_cons.mpr ⟨s_iadd C0 dX9_fact_8, List.forall_mem_cons.mpr ⟨s_iald C0 dX9_fact_9, List.forall_mem_cons.mpr ⟨s_iret C0 hr dX9_fact_10, fun _ h => absurd h List.not_mem_nil⟩⟩⟩⟩⟩⟩⟩⟩⟩
def fX9_fact : Mf := mf 3 (fun K => tl K lX9_fact)
theorem kX9_fact (l : Launch) : Okm l yX9_fact cX9_fact 3 (some .int) 0 fX9_fact := Okm_tl (own := RX9) (by decide +kernel) rfl (fun C0 hr => hX9_fact_0 l C0 hr)
theorem dX1_fullThrows_0 : decode cX1_fullThrows 0 = .ok (.aload_n 0, 1) := by decide +kernel
theorem dX1_fullThrows_1 : decode cX1_fullThrows 1 = .ok (.getfield 9, 3) := by decide +kernel
theorem dX1_fullThrows_4 : decode cX1_fullThrows 4 = .ok (.iload_n 1, 1) := by decide +kernel
theorem dX1_fullThrows_5 : decode cX1_fullThrows 5 = .ok (.iconst 1, 1) := by decide +kernel
theorem dX1_fullThrows_6 : decode cX1_fullThrows 6 = .ok (.invokevirtual 29, 3) := by decide +kernel
theorem dX1_fullThrows_9 : decode cX1_fullThrows 9 = .ok (.aload_n 0, 1) := by decide +kernel
theorem dX1_fullThrows_10 : decode cX1_fullThrows 10 = .ok (.getfield 9, 3) := by decide +kernel
theorem dX1_fullThrows_13 : decode cX1_fullThrows 13 = .ok (.iload_n 2, 1) := by decide +kernel
theorem dX1_fullThrows_14 : decode cX1_fullThrows 14 = .ok (.iconst 2, 1) := by decide +kernel
theorem dX1_fullThrows_15 : decode cX1_fullThrows 15 = .ok (.invokevirtual 19, 3) := by decide +kernel
theorem dX1_fullThrows_18 : decode cX1_fullThrows 18 = .ok (.invokestatic 40, 3) := by decide +kernel
theorem dX1_fullThrows_21 : decode cX1_fullThrows 21 = .ok (.ireturn, 1) := by decide +kernel
def lX1_fullThrows : List (Nat × (Op ⊕ Nat)) := [(0, .inl (o_aload 0 1)), (1, .inl (o_get 1 0 4)), (4, .inl (o_iload 1 5)), (5, .inl (o_pushI (nI 1) 6)), (6, .inl (o_callV fX9_trait 2 9 9)), (9, .inl (o_aload 0 10)), (10, .inl (o_get 1 0 13)), (13, .inl (o_iload 2 14)), (14, .inl (o_pushI (nI 2) 15)), (15, .inl (o_callV fX9_fact 2 9 18)), (18, .inl (o_min 21)), (21, .inr 0)]
theorem qX1_fullThrows : yX1_fullThrows.cls = RX1 ∧ yX1_fullThrows.cls ≠ "java/lang/invoke/MethodHandle" ∧ yX1_fullThrows.cls ≠ "java/lang/invoke/VarHandle" ∧ (parseMethodDescriptor yX1_fullThrows.desc).map (fun d => d.parameters.length) = some 2 := by decide +kernel
set_option maxRecDepth 10000 in
theorem hX1_fullThrows_0 (l : Launch) {p : Program} {e : Env} {s : State} {m : MethodId} {args : Array Value} {below : List Frame} {meth : Method} {c : Code} {D : va_G} {ad adV : Nat → Nat} {cA : Nat → ClassId} {K : Kt} (C0 : Cx p s m args meth c D ad adV cA cX1_fullThrows 3 RX1) (hr : meth.sig.returnType = (some .int)) : ∀ q ∈ lX1_fullThrows, Sd p l e (rmd 1) s m args below meth c (MQ below (QQ D ad cA K) args s 0 0 (AA ad)) D ad cA 3 q.1 (opOf K q.2) := List.forall_mem_cons.mpr ⟨s_aload_n C0 dX1_fullThrows_0 rfl, List.forall_mem_cons.mpr ⟨s_get (ci := 1) (k := 0) C0 dX1_fullThrows_1 inX1 rfl (by decide) tw1_190, List.forall_mem_cons.mpr ⟨s_iload_n C0 dX1_fullThrows_4 rfl, List.forall_mem_cons.mpr ⟨s_iconst C0 dX1_fullThrows_5 rfl, List.forall_mem_cons.mpr ⟨s_callV (ci := 9) C0 (kX9_trait l) dX1_fullThrows_6 rfl qX9_trait tw3_205 tw3_73 tw3_74 tw1_4 tw3_75 rfl (by decide) (by decide), List.forall_mem_cons.mpr ⟨s_aload_n C0 dX1_fullThrows_9 rfl, List.forall_mem_cons.mpr ⟨s_get (ci := 1) (k := 0) C0 dX1_fullThrows_10 inX1 rfl (by decide) tw1_190, List.forall_mem_cons.mpr ⟨s_iload_n C0 dX1_fullThrows_13 rfl, List.forall_mem_cons.mpr ⟨s_iconst C0 dX1_fullThrows_14 rfl, List.forall_mem_cons.mpr ⟨s_callV (ci := 9) C0 (kX9_fact l) dX1_fullThrows_15 rfl qX9_fact tw3_211 tw3_92 tw3_93 tw1_4 tw3_94 rfl (by decide) (by decide), List.forall_mem_cons.mpr ⟨s_min C0 dX1_fullThrows_18 tw3_206 tw2_195 tw1_14 twm_min rfl (by decide), List.forall_mem_cons.mpr ⟨s_iret C0 hr dX1_fullThrows_21, fun _ h => absurd h List.not_mem_nil⟩⟩⟩⟩⟩⟩⟩⟩⟩⟩⟩⟩
def fX1_fullThrows : Mf := mf 3 (fun K => tl K lX1_fullThrows)
theorem kX1_fullThrows (l : Launch) : Okm l yX1_fullThrows cX1_fullThrows 3 (some .int) 1 fX1_fullThrows := Okm_tl (own := RX1) (by decide +kernel) rfl (fun C0 hr => hX1_fullThrows_0 l C0 hr)
theorem dX1_pointsOf_0 : decode cX1_pointsOf 0 = .ok (.aload_n 0, 1) := by decide +kernel
theorem dX1_pointsOf_1 : decode cX1_pointsOf 1 = .ok (.getfield 9, 3) := by decide +kernel
theorem dX1_pointsOf_4 : decode cX1_pointsOf 4 = .ok (.iload_n 2, 1) := by decide +kernel
theorem dX1_pointsOf_5 : decode cX1_pointsOf 5 = .ok (.iconst 1, 1) := by decide +kernel
theorem dX1_pointsOf_6 : decode cX1_pointsOf 6 = .ok (.invokevirtual 19, 3) := by decide +kernel
theorem dX1_pointsOf_9 : decode cX1_pointsOf 9 = .ok (.istore_n 3, 1) := by decide +kernel
theorem dX1_pointsOf_10 : decode cX1_pointsOf 10 = .ok (.bipush 9, 2) := by decide +kernel
theorem dX1_pointsOf_12 : decode cX1_pointsOf 12 = .ok (.iload_n 3, 1) := by decide +kernel
theorem dX1_pointsOf_13 : decode cX1_pointsOf 13 = .ok (.isub, 1) := by decide +kernel
theorem dX1_pointsOf_14 : decode cX1_pointsOf 14 = .ok (.istore 4, 2) := by decide +kernel
theorem dX1_pointsOf_16 : decode cX1_pointsOf 16 = .ok (.aload_n 0, 1) := by decide +kernel
theorem dX1_pointsOf_17 : decode cX1_pointsOf 17 = .ok (.getfield 9, 3) := by decide +kernel
theorem dX1_pointsOf_20 : decode cX1_pointsOf 20 = .ok (.getfield 25, 3) := by decide +kernel
theorem dX1_pointsOf_23 : decode cX1_pointsOf 23 = .ok (.iload_n 1, 1) := by decide +kernel
theorem dX1_pointsOf_24 : decode cX1_pointsOf 24 = .ok (.iaload, 1) := by decide +kernel
theorem dX1_pointsOf_25 : decode cX1_pointsOf 25 = .ok (.iconst 1, 1) := by decide +kernel
theorem dX1_pointsOf_26 : decode cX1_pointsOf 26 = .ok (.if_icmp .ne 10, 3) := by decide +kernel
theorem dX1_pointsOf_29 : decode cX1_pointsOf 29 = .ok (.iload 4, 2) := by decide +kernel
theorem dX1_pointsOf_31 : decode cX1_pointsOf 31 = .ok (.iload_n 3, 1) := by decide +kernel
theorem dX1_pointsOf_32 : decode cX1_pointsOf 32 = .ok (.isub, 1) := by decide +kernel
theorem dX1_pointsOf_33 : decode cX1_pointsOf 33 = .ok (.goto 7, 3) := by decide +kernel
theorem dX1_pointsOf_36 : decode cX1_pointsOf 36 = .ok (.iload_n 3, 1) := by decide +kernel
theorem dX1_pointsOf_37 : decode cX1_pointsOf 37 = .ok (.iload 4, 2) := by decide +kernel
theorem dX1_pointsOf_39 : decode cX1_pointsOf 39 = .ok (.isub, 1) := by decide +kernel
theorem dX1_pointsOf_40 : decode cX1_pointsOf 40 = .ok (.istore 5, 2) := by decide +kernel
theorem dX1_pointsOf_42 : decode cX1_pointsOf 42 = .ok (.iconst 0, 1) := by decide +kernel
theorem dX1_pointsOf_43 : decode cX1_pointsOf 43 = .ok (.aload_n 0, 1) := by decide +kernel
theorem dX1_pointsOf_44 : decode cX1_pointsOf 44 = .ok (.getfield 9, 3) := by decide +kernel
theorem dX1_pointsOf_47 : decode cX1_pointsOf 47 = .ok (.iload_n 1, 1) := by decide +kernel
theorem dX1_pointsOf_48 : decode cX1_pointsOf 48 = .ok (.iconst 0, 1) := by decide +kernel
theorem dX1_pointsOf_49 : decode cX1_pointsOf 49 = .ok (.invokevirtual 29, 3) := by decide +kernel
theorem dX1_pointsOf_52 : decode cX1_pointsOf 52 = .ok (.aload_n 0, 1) := by decide +kernel
theorem dX1_pointsOf_53 : decode cX1_pointsOf 53 = .ok (.getfield 9, 3) := by decide +kernel
theorem dX1_pointsOf_56 : decode cX1_pointsOf 56 = .ok (.getfield 32, 3) := by decide +kernel
theorem dX1_pointsOf_59 : decode cX1_pointsOf 59 = .ok (.iconst 1, 1) := by decide +kernel
theorem dX1_pointsOf_60 : decode cX1_pointsOf 60 = .ok (.iaload, 1) := by decide +kernel
theorem dX1_pointsOf_61 : decode cX1_pointsOf 61 = .ok (.iload 5, 2) := by decide +kernel
theorem dX1_pointsOf_63 : decode cX1_pointsOf 63 = .ok (.imul, 1) := by decide +kernel
theorem dX1_pointsOf_64 : decode cX1_pointsOf 64 = .ok (.iadd, 1) := by decide +kernel
theorem dX1_pointsOf_65 : decode cX1_pointsOf 65 = .ok (.invokestatic 35, 3) := by decide +kernel
theorem dX1_pointsOf_68 : decode cX1_pointsOf 68 = .ok (.ireturn, 1) := by decide +kernel
def lX1_pointsOf_0 : List (Nat × (Op ⊕ Nat)) := [(0, .inl (o_aload 0 1)), (1, .inl (o_get 1 0 4)), (4, .inl (o_iload 2 5)), (5, .inl (o_pushI (nI 1) 6)), (6, .inl (o_callV fX9_fact 2 9 9)), (9, .inl (o_istore 3 10)), (10, .inl (o_pushI (nI 9) 12)), (12, .inl (o_iload 3 13)), (13, .inl (o_isub 14)), (14, .inl (o_istore 4 16)), (16, .inl (o_aload 0 17)), (17, .inl (o_get 1 0 20)), (20, .inl (o_get 9 2 23)), (23, .inl (o_iload 1 24)), (24, .inl (o_iald 25)), (25, .inl (o_pushI (nI 1) 26)), (26, .inl (o_icmp_ne 36 29)), (29, .inl (o_iload 4 31)), (31, .inl (o_iload 3 32)), (32, .inl (o_isub 33)), (33, .inl (o_goto 40)), (36, .inl (o_iload 3 37)), (37, .inl (o_iload 4 39)), (39, .inl (o_isub 40)), (40, .inl (o_istore 5 42)), (42, .inl (o_pushI (nI 0) 43)), (43, .inl (o_aload 0 44)), (44, .inl (o_get 1 0 47)), (47, .inl (o_iload 1 48)), (48, .inl (o_pushI (nI 0) 49)), (49, .inl (o_callV fX9_trait 2 9 52)), (52, .inl (o_aload 0 53)), (53, .inl (o_get 1 0 56)), (56, .inl (o_get 9 6 59)), (59, .inl (o_pushI (nI 1) 60)), (60, .inl (o_iald 61)), (61, .inl (o_iload 5 63)), (63, .inl (o_imul 64)), (64, .inl (o_iadd 65)), (65, .inl (o_max 68))]
def lX1_pointsOf_1 : List (Nat × (Op ⊕ Nat)) := [(68, .inr 0)]
def lX1_pointsOf : List (Nat × (Op ⊕ Nat)) := lX1_pointsOf_0 ++ (lX1_pointsOf_1)
theorem qX1_pointsOf : yX1_pointsOf.cls = RX1 ∧ yX1_pointsOf.cls ≠ "java/lang/invoke/MethodHandle" ∧ yX1_pointsOf.cls ≠ "java/lang/invoke/VarHandle" ∧ (parseMethodDescriptor yX1_pointsOf.desc).map (fun d => d.parameters.length) = some 2 := by decide +kernel
set_option maxRecDepth 10000 in
theorem hX1_pointsOf_0 (l : Launch) {p : Program} {e : Env} {s : State} {m : MethodId} {args : Array Value} {below : List Frame} {meth : Method} {c : Code} {D : va_G} {ad adV : Nat → Nat} {cA : Nat → ClassId} {K : Kt} (C0 : Cx p s m args meth c D ad adV cA cX1_pointsOf 6 RX1) (hr : meth.sig.returnType = (some .int)) : ∀ q ∈ lX1_pointsOf_0, Sd p l e (rmd 1) s m args below meth c (MQ below (QQ D ad cA K) args s 0 0 (AA ad)) D ad cA 6 q.1 (opOf K q.2) := List.forall_mem_cons.mpr ⟨s_aload_n C0 dX1_pointsOf_0 rfl, List.forall_mem_cons.mpr ⟨s_get (ci := 1) (k := 0) C0 dX1_pointsOf_1 inX1 rfl (by decide) tw1_190, List.forall_mem_cons.mpr ⟨s_iload_n C0 dX1_pointsOf_4 rfl, List.forall_mem_cons.mpr ⟨s_iconst C0 dX1_pointsOf_5 rfl, List.forall_mem_cons.mpr ⟨s_callV (ci := 9) C0 (kX9_fact l) dX1_pointsOf_6 rfl qX9_fact tw3_211 tw3_92 tw3_93 tw1_4 tw3_94 rfl (by decide) (by decide), List.forall_mem_cons.mpr ⟨s_istore_n C0 dX1_pointsOf_9 rfl (by decide), List.forall_mem_cons.mpr ⟨s_bipush C0 dX1_pointsOf_10 (by decide +kernel), List.forall_mem_cons.mpr ⟨s_iload_n C0 dX1_pointsOf_12 rfl, List.forall_mem_cons.mpr ⟨s_isub C0 dX1_pointsOf_13, List.forall_mem_cons.mpr ⟨s_istore C0 dX1_pointsOf_14 (by decide), List.forall_mem_cons.mpr ⟨s_aload_n C0 dX1_pointsOf_16 rfl, List.forall_mem_cons.mpr ⟨s_get (ci := 1) (k := 0) C0 dX1_pointsOf_17 inX1 rfl (by decide) tw1_190, List.forall_mem_cons.mpr ⟨s_get (ci := 9) (k := 2) C0 dX1_pointsOf_20 inX9 rfl (by decide) tw1_88, List.forall_mem_cons.mpr ⟨s_iload_n C0 dX1_pointsOf_23 rfl, List.forall_mem_cons.mpr ⟨s_iald C0 dX1_pointsOf_24, List.forall_mem_cons.mpr ⟨s_iconst C0 dX1_pointsOf_25 rfl, List.forall_mem_cons.mpr ⟨s_icmp_ne C0 dX1_pointsOf_26 rfl, List.forall_mem_cons.mpr ⟨s_iload C0 dX1_pointsOf_29, List.forall_mem_cons.mpr ⟨s_iload_n C0 dX1_pointsOf_31 rfl, List.forall_mem_cons.mpr ⟨s_isub C0 dX1_pointsOf_32, List.forall_mem_cons.mpr ⟨s_goto C0 dX1_pointsOf_33 rfl, List.forall_mem_cons.mpr ⟨s_iload_n C0 dX1_pointsOf_36 rfl, List.forall_mem_cons.mpr ⟨s_iload C0 dX1_pointsOf_37, List.forall_mem_cons.mpr ⟨s_isub C0 dX1_pointsOf_39, List.forall_mem_cons.mpr ⟨s_istore C0 dX1_pointsOf_40 (by decide), List.forall_mem_cons.mpr ⟨s_iconst C0 dX1_pointsOf_42 rfl, List.forall_mem_cons.mpr ⟨s_aload_n C0 dX1_pointsOf_43 rfl, List.forall_mem_cons.mpr ⟨s_get (ci := 1) (k := 0) C0 dX1_pointsOf_44 inX1 rfl (by decide) tw1_190, List.forall_mem_cons.mpr ⟨s_iload_n C0 dX1_pointsOf_47 rfl, List.forall_mem_cons.mpr ⟨s_iconst C0 dX1_pointsOf_48 rfl, List.forall_mem_cons.mpr ⟨s_callV (ci := 9) C0 (kX9_trait l) dX1_pointsOf_49 rfl qX9_trait tw3_205 tw3_73 tw3_74 tw1_4 tw3_75 rfl (by decide) (by decide), List.forall_mem_cons.mpr ⟨s_aload_n C0 dX1_pointsOf_52 rfl, List.forall_mem_cons.mpr ⟨s_get (ci := 1) (k := 0) C0 dX1_pointsOf_53 inX1 rfl (by decide) tw1_190, List.forall_mem_cons.mpr ⟨s_get (ci := 9) (k := 6) C0 dX1_pointsOf_56 inX9 rfl (by decide) tw1_102, List.forall_mem_cons.mpr ⟨s_iconst C0 dX1_pointsOf_59 rfl, List.forall_mem_cons.mpr ⟨s_iald C0 dX1_pointsOf_60, List.forall_mem_cons.mpr ⟨s_iload C0 dX1_pointsOf_61, List.forall_mem_cons.mpr ⟨s_imul C0 dX1_pointsOf_63, List.forall_mem_cons.mpr ⟨s_iadd C0 dX1_pointsOf_64, List.forall_mem_cons.mpr ⟨s_max C0 dX1_pointsOf_65 tw3_212 tw2_198 tw1_14 twm_max rfl (by decide), fun _ h => absurd h List.not_mem_nil⟩⟩⟩⟩⟩⟩⟩⟩⟩⟩⟩⟩⟩⟩⟩⟩⟩⟩⟩⟩⟩⟩⟩⟩⟩⟩⟩⟩⟩⟩⟩⟩⟩⟩⟩⟩⟩⟩⟩⟩
set_option maxRecDepth 10000 in
theorem hX1_pointsOf_1 (l : Launch) {p : Program} {e : Env} {s : State} {m : MethodId} {args : Array Value} {below : List Frame} {meth : Method} {c : Code} {D : va_G} {ad adV : Nat → Nat} {cA : Nat → ClassId} {K : Kt} (C0 : Cx p s m args meth c D ad adV cA cX1_pointsOf 6 RX1) (hr : meth.sig.returnType = (some .int)) : ∀ q ∈ lX1_pointsOf_1, Sd p l e (rmd 1) s m args below meth c (MQ below (QQ D ad cA K) args s 0 0 (AA ad)) D ad cA 6 q.1 (opOf K q.2) := List.forall_mem_cons.mpr ⟨s_iret C0 hr dX1_pointsOf_68, fun _ h => absurd h List.not_mem_nil⟩
def fX1_pointsOf : Mf := mf 6 (fun K => tl K lX1_pointsOf)
theorem kX1_pointsOf (l : Launch) : Okm l yX1_pointsOf cX1_pointsOf 6 (some .int) 1 fX1_pointsOf := Okm_tl (own := RX1) (by decide +kernel) rfl (fun C0 hr => List.forall_mem_append.mpr ⟨hX1_pointsOf_0 l C0 hr, hX1_pointsOf_1 l C0 hr⟩)
theorem dX1_valueOf_0 : decode cX1_valueOf 0 = .ok (.iload_n 3, 1) := by decide +kernel
theorem dX1_valueOf_1 : decode cX1_valueOf 1 = .ok (.aload_n 0, 1) := by decide +kernel
theorem dX1_valueOf_2 : decode cX1_valueOf 2 = .ok (.getfield 9, 3) := by decide +kernel
theorem dX1_valueOf_5 : decode cX1_valueOf 5 = .ok (.iload_n 1, 1) := by decide +kernel
theorem dX1_valueOf_6 : decode cX1_valueOf 6 = .ok (.iconst 2, 1) := by decide +kernel
theorem dX1_valueOf_7 : decode cX1_valueOf 7 = .ok (.invokevirtual 29, 3) := by decide +kernel
theorem dX1_valueOf_10 : decode cX1_valueOf 10 = .ok (.invokestatic 40, 3) := by decide +kernel
theorem dX1_valueOf_13 : decode cX1_valueOf 13 = .ok (.istore 4, 2) := by decide +kernel
theorem dX1_valueOf_15 : decode cX1_valueOf 15 = .ok (.aload_n 0, 1) := by decide +kernel
theorem dX1_valueOf_16 : decode cX1_valueOf 16 = .ok (.iload_n 1, 1) := by decide +kernel
theorem dX1_valueOf_17 : decode cX1_valueOf 17 = .ok (.iload_n 2, 1) := by decide +kernel
theorem dX1_valueOf_18 : decode cX1_valueOf 18 = .ok (.invokevirtual 43, 3) := by decide +kernel
theorem dX1_valueOf_21 : decode cX1_valueOf 21 = .ok (.istore 5, 2) := by decide +kernel
theorem dX1_valueOf_23 : decode cX1_valueOf 23 = .ok (.iload 5, 2) := by decide +kernel
theorem dX1_valueOf_25 : decode cX1_valueOf 25 = .ok (.iload 4, 2) := by decide +kernel
theorem dX1_valueOf_27 : decode cX1_valueOf 27 = .ok (.imul, 1) := by decide +kernel
theorem dX1_valueOf_28 : decode cX1_valueOf 28 = .ok (.iload 5, 2) := by decide +kernel
theorem dX1_valueOf_30 : decode cX1_valueOf 30 = .ok (.iload_n 3, 1) := by decide +kernel
theorem dX1_valueOf_31 : decode cX1_valueOf 31 = .ok (.iload 4, 2) := by decide +kernel
theorem dX1_valueOf_33 : decode cX1_valueOf 33 = .ok (.isub, 1) := by decide +kernel
theorem dX1_valueOf_34 : decode cX1_valueOf 34 = .ok (.imul, 1) := by decide +kernel
theorem dX1_valueOf_35 : decode cX1_valueOf 35 = .ok (.iconst 2, 1) := by decide +kernel
theorem dX1_valueOf_36 : decode cX1_valueOf 36 = .ok (.idiv, 1) := by decide +kernel
theorem dX1_valueOf_37 : decode cX1_valueOf 37 = .ok (.iadd, 1) := by decide +kernel
theorem dX1_valueOf_38 : decode cX1_valueOf 38 = .ok (.ireturn, 1) := by decide +kernel
def lX1_valueOf : List (Nat × (Op ⊕ Nat)) := [(0, .inl (o_iload 3 1)), (1, .inl (o_aload 0 2)), (2, .inl (o_get 1 0 5)), (5, .inl (o_iload 1 6)), (6, .inl (o_pushI (nI 2) 7)), (7, .inl (o_callV fX9_trait 2 9 10)), (10, .inl (o_min 13)), (13, .inl (o_istore 4 15)), (15, .inl (o_aload 0 16)), (16, .inl (o_iload 1 17)), (17, .inl (o_iload 2 18)), (18, .inl (o_callV fX1_pointsOf 2 1 21)), (21, .inl (o_istore 5 23)), (23, .inl (o_iload 5 25)), (25, .inl (o_iload 4 27)), (27, .inl (o_imul 28)), (28, .inl (o_iload 5 30)), (30, .inl (o_iload 3 31)), (31, .inl (o_iload 4 33)), (33, .inl (o_isub 34)), (34, .inl (o_imul 35)), (35, .inl (o_pushI (nI 2) 36)), (36, .inl (o_idiv 37)), (37, .inl (o_iadd 38)), (38, .inr 0)]
theorem qX1_valueOf : yX1_valueOf.cls = RX1 ∧ yX1_valueOf.cls ≠ "java/lang/invoke/MethodHandle" ∧ yX1_valueOf.cls ≠ "java/lang/invoke/VarHandle" ∧ (parseMethodDescriptor yX1_valueOf.desc).map (fun d => d.parameters.length) = some 3 := by decide +kernel
set_option maxRecDepth 10000 in
theorem hX1_valueOf_0 (l : Launch) {p : Program} {e : Env} {s : State} {m : MethodId} {args : Array Value} {below : List Frame} {meth : Method} {c : Code} {D : va_G} {ad adV : Nat → Nat} {cA : Nat → ClassId} {K : Kt} (C0 : Cx p s m args meth c D ad adV cA cX1_valueOf 6 RX1) (hr : meth.sig.returnType = (some .int)) : ∀ q ∈ lX1_valueOf, Sd p l e (rmd 2) s m args below meth c (MQ below (QQ D ad cA K) args s 0 0 (AA ad)) D ad cA 6 q.1 (opOf K q.2) := List.forall_mem_cons.mpr ⟨s_iload_n C0 dX1_valueOf_0 rfl, List.forall_mem_cons.mpr ⟨s_aload_n C0 dX1_valueOf_1 rfl, List.forall_mem_cons.mpr ⟨s_get (ci := 1) (k := 0) C0 dX1_valueOf_2 inX1 rfl (by decide) tw1_190, List.forall_mem_cons.mpr ⟨s_iload_n C0 dX1_valueOf_5 rfl, List.forall_mem_cons.mpr ⟨s_iconst C0 dX1_valueOf_6 rfl, List.forall_mem_cons.mpr ⟨s_callV (ci := 9) C0 (kX9_trait l) dX1_valueOf_7 rfl qX9_trait tw3_205 tw3_73 tw3_74 tw1_4 tw3_75 rfl (by decide) (by decide), List.forall_mem_cons.mpr ⟨s_min C0 dX1_valueOf_10 tw3_206 tw2_195 tw1_14 twm_min rfl (by decide), List.forall_mem_cons.mpr ⟨s_istore C0 dX1_valueOf_13 (by decide), List.forall_mem_cons.mpr ⟨s_aload_n C0 dX1_valueOf_15 rfl, List.forall_mem_cons.mpr ⟨s_iload_n C0 dX1_valueOf_16 rfl, List.forall_mem_cons.mpr ⟨s_iload_n C0 dX1_valueOf_17 rfl, List.forall_mem_cons.mpr ⟨s_callV (ci := 1) C0 (kX1_pointsOf l) dX1_valueOf_18 rfl qX1_pointsOf tw3_207 tw3_208 tw3_209 tw1_6 tw3_210 rfl (by decide) (by decide), List.forall_mem_cons.mpr ⟨s_istore C0 dX1_valueOf_21 (by decide), List.forall_mem_cons.mpr ⟨s_iload C0 dX1_valueOf_23, List.forall_mem_cons.mpr ⟨s_iload C0 dX1_valueOf_25, List.forall_mem_cons.mpr ⟨s_imul C0 dX1_valueOf_27, List.forall_mem_cons.mpr ⟨s_iload C0 dX1_valueOf_28, List.forall_mem_cons.mpr ⟨s_iload_n C0 dX1_valueOf_30 rfl, List.forall_mem_cons.mpr ⟨s_iload C0 dX1_valueOf_31, List.forall_mem_cons.mpr ⟨s_isub C0 dX1_valueOf_33, List.forall_mem_cons.mpr ⟨s_imul C0 dX1_valueOf_34, List.forall_mem_cons.mpr ⟨s_iconst C0 dX1_valueOf_35 rfl, List.forall_mem_cons.mpr ⟨s_idiv C0 dX1_valueOf_36, List.forall_mem_cons.mpr ⟨s_iadd C0 dX1_valueOf_37, List.forall_mem_cons.mpr ⟨s_iret C0 hr dX1_valueOf_38, fun _ h => absurd h List.not_mem_nil⟩⟩⟩⟩⟩⟩⟩⟩⟩⟩⟩⟩⟩⟩⟩⟩⟩⟩⟩⟩⟩⟩⟩⟩⟩
def fX1_valueOf : Mf := mf 6 (fun K => tl K lX1_valueOf)
theorem kX1_valueOf (l : Launch) : Okm l yX1_valueOf cX1_valueOf 6 (some .int) 2 fX1_valueOf := Okm_tl (own := RX1) (by decide +kernel) rfl (fun C0 hr => hX1_valueOf_0 l C0 hr)
theorem dX5_copyLoads_0 : decode cX5_copyLoads 0 = .ok (.aload_n 0, 1) := by decide +kernel
theorem dX5_copyLoads_1 : decode cX5_copyLoads 1 = .ok (.getfield 21, 3) := by decide +kernel
theorem dX5_copyLoads_4 : decode cX5_copyLoads 4 = .ok (.iload_n 1, 1) := by decide +kernel
theorem dX5_copyLoads_5 : decode cX5_copyLoads 5 = .ok (.bipush 20, 2) := by decide +kernel
theorem dX5_copyLoads_7 : decode cX5_copyLoads 7 = .ok (.imul, 1) := by decide +kernel
theorem dX5_copyLoads_8 : decode cX5_copyLoads 8 = .ok (.aload_n 2, 1) := by decide +kernel
theorem dX5_copyLoads_9 : decode cX5_copyLoads 9 = .ok (.iconst 0, 1) := by decide +kernel
theorem dX5_copyLoads_10 : decode cX5_copyLoads 10 = .ok (.bipush 20, 2) := by decide +kernel
theorem dX5_copyLoads_12 : decode cX5_copyLoads 12 = .ok (.invokestatic 28, 3) := by decide +kernel
theorem dX5_copyLoads_15 : decode cX5_copyLoads 15 = .ok (.return_, 1) := by decide +kernel
def lX5_copyLoads : List (Nat × (Op ⊕ Nat)) := [(0, .inl (o_aload 0 1)), (1, .inl (o_get 5 3 4)), (4, .inl (o_iload 1 5)), (5, .inl (o_pushI (nI 20) 7)), (7, .inl (o_imul 8)), (8, .inl (o_aload 2 9)), (9, .inl (o_pushI (nI 0) 10)), (10, .inl (o_pushI (nI 20) 12)), (12, .inl (o_copyI 15)), (15, .inr 3)]
theorem qX5_copyLoads : yX5_copyLoads.cls = RX5 ∧ yX5_copyLoads.cls ≠ "java/lang/invoke/MethodHandle" ∧ yX5_copyLoads.cls ≠ "java/lang/invoke/VarHandle" ∧ (parseMethodDescriptor yX5_copyLoads.desc).map (fun d => d.parameters.length) = some 2 := by decide +kernel
set_option maxRecDepth 10000 in
theorem hX5_copyLoads_0 (l : Launch) {p : Program} {e : Env} {s : State} {m : MethodId} {args : Array Value} {below : List Frame} {meth : Method} {c : Code} {D : va_G} {ad adV : Nat → Nat} {cA : Nat → ClassId} {K : Kt} (C0 : Cx p s m args meth c D ad adV cA cX5_copyLoads 3 RX5) (hr : meth.sig.returnType = none) : ∀ q ∈ lX5_copyLoads, Sd p l e (rmd 1) s m args below meth c (MQ below (QQ D ad cA K) args s 0 0 (AA ad)) D ad cA 3 q.1 (opOf K q.2) := List.forall_mem_cons.mpr ⟨s_aload_n C0 dX5_copyLoads_0 rfl, List.forall_mem_cons.mpr ⟨s_get (ci := 5) (k := 3) C0 dX5_copyLoads_1 inX5 rfl (by decide) tw1_174, List.forall_mem_cons.mpr ⟨s_iload_n C0 dX5_copyLoads_4 rfl, List.forall_mem_cons.mpr ⟨s_bipush C0 dX5_copyLoads_5 (by decide +kernel), List.forall_mem_cons.mpr ⟨s_imul C0 dX5_copyLoads_7, List.forall_mem_cons.mpr ⟨s_aload_n C0 dX5_copyLoads_8 rfl, List.forall_mem_cons.mpr ⟨s_iconst C0 dX5_copyLoads_9 rfl, List.forall_mem_cons.mpr ⟨s_bipush C0 dX5_copyLoads_10 (by decide +kernel), List.forall_mem_cons.mpr ⟨s_copyI C0 dX5_copyLoads_12 tw4_49 tw2_189 tw2_188 tw1_13 rfl (by decide), List.forall_mem_cons.mpr ⟨s_vret C0 hr dX5_copyLoads_15, fun _ h => absurd h List.not_mem_nil⟩⟩⟩⟩⟩⟩⟩⟩⟩⟩
def fX5_copyLoads : Mf := mf 3 (fun K => tl K lX5_copyLoads)
theorem kX5_copyLoads (l : Launch) : Okm l yX5_copyLoads cX5_copyLoads 3 none 1 fX5_copyLoads := Okm_tl (own := RX5) (by decide +kernel) rfl (fun C0 hr => hX5_copyLoads_0 l C0 hr)
theorem dX3_open_0 : decode cX3_open 0 = .ok (.aload_n 0, 1) := by decide +kernel
theorem dX3_open_1 : decode cX3_open 1 = .ok (.iload_n 1, 1) := by decide +kernel
theorem dX3_open_2 : decode cX3_open 2 = .ok (.putfield 15, 3) := by decide +kernel
theorem dX3_open_5 : decode cX3_open 5 = .ok (.aload_n 0, 1) := by decide +kernel
theorem dX3_open_6 : decode cX3_open 6 = .ok (.getfield 19, 3) := by decide +kernel
theorem dX3_open_9 : decode cX3_open 9 = .ok (.getfield 23, 3) := by decide +kernel
theorem dX3_open_12 : decode cX3_open 12 = .ok (.iload_n 1, 1) := by decide +kernel
theorem dX3_open_13 : decode cX3_open 13 = .ok (.aload_n 0, 1) := by decide +kernel
theorem dX3_open_14 : decode cX3_open 14 = .ok (.getfield 9, 3) := by decide +kernel
theorem dX3_open_17 : decode cX3_open 17 = .ok (.invokevirtual 29, 3) := by decide +kernel
theorem dX3_open_20 : decode cX3_open 20 = .ok (.return_, 1) := by decide +kernel
def lX3_open : List (Nat × (Op ⊕ Nat)) := [(0, .inl (o_aload 0 1)), (1, .inl (o_iload 1 2)), (2, .inl (o_putI 3 2 5)), (5, .inl (o_aload 0 6)), (6, .inl (o_get 3 0 9)), (9, .inl (o_get 1 1 12)), (12, .inl (o_iload 1 13)), (13, .inl (o_aload 0 14)), (14, .inl (o_get 3 1 17)), (17, .inl (o_callV fX5_copyLoads 2 5 20)), (20, .inr 3)]
theorem qX3_open : yX3_open.cls = RX3 ∧ yX3_open.cls ≠ "java/lang/invoke/MethodHandle" ∧ yX3_open.cls ≠ "java/lang/invoke/VarHandle" ∧ (parseMethodDescriptor yX3_open.desc).map (fun d => d.parameters.length) = some 1 := by decide +kernel
set_option maxRecDepth 10000 in
theorem hX3_open_0 (l : Launch) {p : Program} {e : Env} {s : State} {m : MethodId} {args : Array Value} {below : List Frame} {meth : Method} {c : Code} {D : va_G} {ad adV : Nat → Nat} {cA : Nat → ClassId} {K : Kt} (C0 : Cx p s m args meth c D ad adV cA cX3_open 2 RX3) (hr : meth.sig.returnType = none) : ∀ q ∈ lX3_open, Sd p l e (rmd 2) s m args below meth c (MQ below (QQ D ad cA K) args s 0 0 (AA ad)) D ad cA 2 q.1 (opOf K q.2) := List.forall_mem_cons.mpr ⟨s_aload_n C0 dX3_open_0 rfl, List.forall_mem_cons.mpr ⟨s_iload_n C0 dX3_open_1 rfl, List.forall_mem_cons.mpr ⟨s_putI (ci := 3) (k := 2) C0 dX3_open_2 inX3 tyX3_ok nmX3 rfl (by decide) rfl rfl tw1_212, List.forall_mem_cons.mpr ⟨s_aload_n C0 dX3_open_5 rfl, List.forall_mem_cons.mpr ⟨s_get (ci := 3) (k := 0) C0 dX3_open_6 inX3 rfl (by decide) tw1_210, List.forall_mem_cons.mpr ⟨s_get (ci := 1) (k := 1) C0 dX3_open_9 inX1 rfl (by decide) tw1_196, List.forall_mem_cons.mpr ⟨s_iload_n C0 dX3_open_12 rfl, List.forall_mem_cons.mpr ⟨s_aload_n C0 dX3_open_13 rfl, List.forall_mem_cons.mpr ⟨s_get (ci := 3) (k := 1) C0 dX3_open_14 inX3 rfl (by decide) tw1_211, List.forall_mem_cons.mpr ⟨s_callV (ci := 5) C0 (kX5_copyLoads l) dX3_open_17 rfl qX5_copyLoads tw4_45 tw4_46 tw4_47 tw1_5 tw4_48 rfl (by decide) (by decide), List.forall_mem_cons.mpr ⟨s_vret C0 hr dX3_open_20, fun _ h => absurd h List.not_mem_nil⟩⟩⟩⟩⟩⟩⟩⟩⟩⟩⟩
def fX3_open : Mf := mf 2 (fun K => tl K lX3_open)
theorem kX3_open (l : Launch) : Okm l yX3_open cX3_open 2 none 2 fX3_open := Okm_tl (own := RX3) (by decide +kernel) rfl (fun C0 hr => hX3_open_0 l C0 hr)
theorem dX3_write_0 : decode cX3_write 0 = .ok (.aload_n 0, 1) := by decide +kernel
theorem dX3_write_1 : decode cX3_write 1 = .ok (.getfield 9, 3) := by decide +kernel
theorem dX3_write_4 : decode cX3_write 4 = .ok (.iload_n 1, 1) := by decide +kernel
theorem dX3_write_5 : decode cX3_write 5 = .ok (.iload_n 2, 1) := by decide +kernel
theorem dX3_write_6 : decode cX3_write 6 = .ok (.iastore, 1) := by decide +kernel
theorem dX3_write_7 : decode cX3_write 7 = .ok (.return_, 1) := by decide +kernel
def lX3_write : List (Nat × (Op ⊕ Nat)) := [(0, .inl (o_aload 0 1)), (1, .inl (o_get 3 1 4)), (4, .inl (o_iload 1 5)), (5, .inl (o_iload 2 6)), (6, .inl (o_iast 7)), (7, .inr 3)]
theorem qX3_write : yX3_write.cls = RX3 ∧ yX3_write.cls ≠ "java/lang/invoke/MethodHandle" ∧ yX3_write.cls ≠ "java/lang/invoke/VarHandle" ∧ (parseMethodDescriptor yX3_write.desc).map (fun d => d.parameters.length) = some 2 := by decide +kernel
set_option maxRecDepth 10000 in
theorem hX3_write_0 (l : Launch) {p : Program} {e : Env} {s : State} {m : MethodId} {args : Array Value} {below : List Frame} {meth : Method} {c : Code} {D : va_G} {ad adV : Nat → Nat} {cA : Nat → ClassId} {K : Kt} (C0 : Cx p s m args meth c D ad adV cA cX3_write 3 RX3) (hr : meth.sig.returnType = none) : ∀ q ∈ lX3_write, Sd p l e (rmd 0) s m args below meth c (MQ below (QQ D ad cA K) args s 0 0 (AA ad)) D ad cA 3 q.1 (opOf K q.2) := List.forall_mem_cons.mpr ⟨s_aload_n C0 dX3_write_0 rfl, List.forall_mem_cons.mpr ⟨s_get (ci := 3) (k := 1) C0 dX3_write_1 inX3 rfl (by decide) tw1_211, List.forall_mem_cons.mpr ⟨s_iload_n C0 dX3_write_4 rfl, List.forall_mem_cons.mpr ⟨s_iload_n C0 dX3_write_5 rfl, List.forall_mem_cons.mpr ⟨s_iast C0 dX3_write_6, List.forall_mem_cons.mpr ⟨s_vret C0 hr dX3_write_7, fun _ h => absurd h List.not_mem_nil⟩⟩⟩⟩⟩⟩
def fX3_write : Mf := mf 3 (fun K => tl K lX3_write)
theorem kX3_write (l : Launch) : Okm l yX3_write cX3_write 3 none 0 fX3_write := Okm_tl (own := RX3) (by decide +kernel) rfl (fun C0 hr => hX3_write_0 l C0 hr)
theorem dX0_mayHave_0 : decode cX0_mayHave 0 = .ok (.aload_n 0, 1) := by decide +kernel
theorem dX0_mayHave_1 : decode cX0_mayHave 1 = .ok (.getfield 18, 3) := by decide +kernel
theorem dX0_mayHave_4 : decode cX0_mayHave 4 = .ok (.iload_n 1, 1) := by decide +kernel
theorem dX0_mayHave_5 : decode cX0_mayHave 5 = .ok (.iaload, 1) := by decide +kernel
theorem dX0_mayHave_6 : decode cX0_mayHave 6 = .ok (.iload_n 2, 1) := by decide +kernel
theorem dX0_mayHave_7 : decode cX0_mayHave 7 = .ok (.iushr, 1) := by decide +kernel
theorem dX0_mayHave_8 : decode cX0_mayHave 8 = .ok (.iconst 1, 1) := by decide +kernel
theorem dX0_mayHave_9 : decode cX0_mayHave 9 = .ok (.iand, 1) := by decide +kernel
theorem dX0_mayHave_10 : decode cX0_mayHave 10 = .ok (.iconst 1, 1) := by decide +kernel
theorem dX0_mayHave_11 : decode cX0_mayHave 11 = .ok (.if_icmp .ne 7, 3) := by decide +kernel
theorem dX0_mayHave_14 : decode cX0_mayHave 14 = .ok (.iconst 1, 1) := by decide +kernel
theorem dX0_mayHave_15 : decode cX0_mayHave 15 = .ok (.goto 4, 3) := by decide +kernel
theorem dX0_mayHave_18 : decode cX0_mayHave 18 = .ok (.iconst 0, 1) := by decide +kernel
theorem dX0_mayHave_19 : decode cX0_mayHave 19 = .ok (.ireturn, 1) := by decide +kernel
def lX0_mayHave : List (Nat × (Op ⊕ Nat)) := [(0, .inl (o_aload 0 1)), (1, .inl (o_get 0 4 4)), (4, .inl (o_iload 1 5)), (5, .inl (o_iald 6)), (6, .inl (o_iload 2 7)), (7, .inl (o_iushr 8)), (8, .inl (o_pushI (nI 1) 9)), (9, .inl (o_iand 10)), (10, .inl (o_pushI (nI 1) 11)), (11, .inl (o_icmp_ne 18 14)), (14, .inl (o_pushI (nI 1) 15)), (15, .inl (o_goto 19)), (18, .inl (o_pushI (nI 0) 19)), (19, .inr 1)]
theorem qX0_mayHave : yX0_mayHave.cls = RX0 ∧ yX0_mayHave.cls ≠ "java/lang/invoke/MethodHandle" ∧ yX0_mayHave.cls ≠ "java/lang/invoke/VarHandle" ∧ (parseMethodDescriptor yX0_mayHave.desc).map (fun d => d.parameters.length) = some 2 := by decide +kernel
set_option maxRecDepth 10000 in
theorem hX0_mayHave_0 (l : Launch) {p : Program} {e : Env} {s : State} {m : MethodId} {args : Array Value} {below : List Frame} {meth : Method} {c : Code} {D : va_G} {ad adV : Nat → Nat} {cA : Nat → ClassId} {K : Kt} (C0 : Cx p s m args meth c D ad adV cA cX0_mayHave 3 RX0) (hr : meth.sig.returnType = (some .boolean)) : ∀ q ∈ lX0_mayHave, Sd p l e (rmd 0) s m args below meth c (MQ below (QQ D ad cA K) args s 0 0 (AA ad)) D ad cA 3 q.1 (opOf K q.2) := List.forall_mem_cons.mpr ⟨s_aload_n C0 dX0_mayHave_0 rfl, List.forall_mem_cons.mpr ⟨s_get (ci := 0) (k := 4) C0 dX0_mayHave_1 inX0 rfl (by decide) tw1_230, List.forall_mem_cons.mpr ⟨s_iload_n C0 dX0_mayHave_4 rfl, List.forall_mem_cons.mpr ⟨s_iald C0 dX0_mayHave_5, List.forall_mem_cons.mpr ⟨s_iload_n C0 dX0_mayHave_6 rfl, List.forall_mem_cons.mpr ⟨s_iushr C0 dX0_mayHave_7, List.forall_mem_cons.mpr ⟨s_iconst C0 dX0_mayHave_8 rfl, List.forall_mem_cons.mpr ⟨s_iand C0 dX0_mayHave_9, List.forall_mem_cons.mpr ⟨s_iconst C0 dX0_mayHave_10 rfl, List.forall_mem_cons.mpr ⟨s_icmp_ne C0 dX0_mayHave_11 rfl, List.forall_mem_cons.mpr ⟨s_iconst C0 dX0_mayHave_14 rfl, List.forall_mem_cons.mpr ⟨s_goto C0 dX0_mayHave_15 rfl, List.forall_mem_cons.mpr ⟨s_iconst C0 dX0_mayHave_18 rfl, List.forall_mem_cons.mpr ⟨s_zret C0 hr dX0_mayHave_19, fun _ h => absurd h List.not_mem_nil⟩⟩⟩⟩⟩⟩⟩⟩⟩⟩⟩⟩⟩⟩
def fX0_mayHave : Mf := mf 3 (fun K => tl K lX0_mayHave)
theorem kX0_mayHave (l : Launch) : Okm l yX0_mayHave cX0_mayHave 3 (some .boolean) 0 fX0_mayHave := Okm_tl (own := RX0) (by decide +kernel) rfl (fun C0 hr => hX0_mayHave_0 l C0 hr)
theorem dX9_daysFrom_0 : decode cX9_daysFrom 0 = .ok (.aload_n 0, 1) := by decide +kernel
theorem dX9_daysFrom_1 : decode cX9_daysFrom 1 = .ok (.getfield 29, 3) := by decide +kernel
theorem dX9_daysFrom_4 : decode cX9_daysFrom 4 = .ok (.iload_n 2, 1) := by decide +kernel
theorem dX9_daysFrom_5 : decode cX9_daysFrom 5 = .ok (.iconst 3, 1) := by decide +kernel
theorem dX9_daysFrom_6 : decode cX9_daysFrom 6 = .ok (.imul, 1) := by decide +kernel
theorem dX9_daysFrom_7 : decode cX9_daysFrom 7 = .ok (.iconst 0, 1) := by decide +kernel
theorem dX9_daysFrom_8 : decode cX9_daysFrom 8 = .ok (.iadd, 1) := by decide +kernel
theorem dX9_daysFrom_9 : decode cX9_daysFrom 9 = .ok (.iaload, 1) := by decide +kernel
theorem dX9_daysFrom_10 : decode cX9_daysFrom 10 = .ok (.aload_n 0, 1) := by decide +kernel
theorem dX9_daysFrom_11 : decode cX9_daysFrom 11 = .ok (.getfield 29, 3) := by decide +kernel
theorem dX9_daysFrom_14 : decode cX9_daysFrom 14 = .ok (.iload_n 1, 1) := by decide +kernel
theorem dX9_daysFrom_15 : decode cX9_daysFrom 15 = .ok (.iconst 3, 1) := by decide +kernel
theorem dX9_daysFrom_16 : decode cX9_daysFrom 16 = .ok (.imul, 1) := by decide +kernel
theorem dX9_daysFrom_17 : decode cX9_daysFrom 17 = .ok (.iconst 0, 1) := by decide +kernel
theorem dX9_daysFrom_18 : decode cX9_daysFrom 18 = .ok (.iadd, 1) := by decide +kernel
theorem dX9_daysFrom_19 : decode cX9_daysFrom 19 = .ok (.iaload, 1) := by decide +kernel
theorem dX9_daysFrom_20 : decode cX9_daysFrom 20 = .ok (.isub, 1) := by decide +kernel
theorem dX9_daysFrom_21 : decode cX9_daysFrom 21 = .ok (.ireturn, 1) := by decide +kernel
def lX9_daysFrom : List (Nat × (Op ⊕ Nat)) := [(0, .inl (o_aload 0 1)), (1, .inl (o_get 9 5 4)), (4, .inl (o_iload 2 5)), (5, .inl (o_pushI (nI 3) 6)), (6, .inl (o_imul 7)), (7, .inl (o_pushI (nI 0) 8)), (8, .inl (o_iadd 9)), (9, .inl (o_iald 10)), (10, .inl (o_aload 0 11)), (11, .inl (o_get 9 5 14)), (14, .inl (o_iload 1 15)), (15, .inl (o_pushI (nI 3) 16)), (16, .inl (o_imul 17)), (17, .inl (o_pushI (nI 0) 18)), (18, .inl (o_iadd 19)), (19, .inl (o_iald 20)), (20, .inl (o_isub 21)), (21, .inr 0)]
theorem qX9_daysFrom : yX9_daysFrom.cls = RX9 ∧ yX9_daysFrom.cls ≠ "java/lang/invoke/MethodHandle" ∧ yX9_daysFrom.cls ≠ "java/lang/invoke/VarHandle" ∧ (parseMethodDescriptor yX9_daysFrom.desc).map (fun d => d.parameters.length) = some 2 := by decide +kernel
set_option maxRecDepth 10000 in
theorem hX9_daysFrom_0 (l : Launch) {p : Program} {e : Env} {s : State} {m : MethodId} {args : Array Value} {below : List Frame} {meth : Method} {c : Code} {D : va_G} {ad adV : Nat → Nat} {cA : Nat → ClassId} {K : Kt} (C0 : Cx p s m args meth c D ad adV cA cX9_daysFrom 3 RX9) (hr : meth.sig.returnType = (some .int)) : ∀ q ∈ lX9_daysFrom, Sd p l e (rmd 0) s m args below meth c (MQ below (QQ D ad cA K) args s 0 0 (AA ad)) D ad cA 3 q.1 (opOf K q.2) := List.forall_mem_cons.mpr ⟨s_aload_n C0 dX9_daysFrom_0 rfl, List.forall_mem_cons.mpr ⟨s_get (ci := 9) (k := 5) C0 dX9_daysFrom_1 inX9 rfl (by decide) tw1_99, List.forall_mem_cons.mpr ⟨s_iload_n C0 dX9_daysFrom_4 rfl, List.forall_mem_cons.mpr ⟨s_iconst C0 dX9_daysFrom_5 rfl, List.forall_mem_cons.mpr ⟨s_imul C0 dX9_daysFrom_6, List.forall_mem_cons.mpr ⟨s_iconst C0 dX9_daysFrom_7 rfl, List.forall_mem_cons.mpr ⟨s_iadd C0 dX9_daysFrom_8, List.forall_mem_cons.mpr ⟨s_iald C0 dX9_daysFrom_9, List.forall_mem_cons.mpr ⟨s_aload_n C0 dX9_daysFrom_10 rfl, List.forall_mem_cons.mpr ⟨s_get (ci := 9) (k := 5) C0 dX9_daysFrom_11 inX9 rfl (by decide) tw1_99, List.forall_mem_cons.mpr ⟨s_iload_n C0 dX9_daysFrom_14 rfl, List.forall_mem_cons.mpr ⟨s_iconst C0 dX9_daysFrom_15 rfl, List.forall_mem_cons.mpr ⟨s_imul C0 dX9_daysFrom_16, List.forall_mem_cons.mpr ⟨s_iconst C0 dX9_daysFrom_17 rfl, List.forall_mem_cons.mpr ⟨s_iadd C0 dX9_daysFrom_18, List.forall_mem_cons.mpr ⟨s_iald C0 dX9_daysFrom_19, List.forall_mem_cons.mpr ⟨s_isub C0 dX9_daysFrom_20, List.forall_mem_cons.mpr ⟨s_iret C0 hr dX9_daysFrom_21, fun _ h => absurd h List.not_mem_nil⟩⟩⟩⟩⟩⟩⟩⟩⟩⟩⟩⟩⟩⟩⟩⟩⟩⟩
def fX9_daysFrom : Mf := mf 3 (fun K => tl K lX9_daysFrom)
theorem kX9_daysFrom (l : Launch) : Okm l yX9_daysFrom cX9_daysFrom 3 (some .int) 0 fX9_daysFrom := Okm_tl (own := RX9) (by decide +kernel) rfl (fun C0 hr => hX9_daysFrom_0 l C0 hr)
theorem dX9_restAfter_0 : decode cX9_restAfter 0 = .ok (.aload_n 0, 1) := by decide +kernel
theorem dX9_restAfter_1 : decode cX9_restAfter 1 = .ok (.getfield 35, 3) := by decide +kernel
theorem dX9_restAfter_4 : decode cX9_restAfter 4 = .ok (.iconst 1, 1) := by decide +kernel
theorem dX9_restAfter_5 : decode cX9_restAfter 5 = .ok (.isub, 1) := by decide +kernel
theorem dX9_restAfter_6 : decode cX9_restAfter 6 = .ok (.istore_n 2, 1) := by decide +kernel
theorem dX9_restAfter_7 : decode cX9_restAfter 7 = .ok (.iload_n 2, 1) := by decide +kernel
theorem dX9_restAfter_8 : decode cX9_restAfter 8 = .ok (.ifCond .lt 26, 3) := by decide +kernel
theorem dX9_restAfter_11 : decode cX9_restAfter 11 = .ok (.aload_n 0, 1) := by decide +kernel
theorem dX9_restAfter_12 : decode cX9_restAfter 12 = .ok (.getfield 38, 3) := by decide +kernel
theorem dX9_restAfter_15 : decode cX9_restAfter 15 = .ok (.iload_n 2, 1) := by decide +kernel
theorem dX9_restAfter_16 : decode cX9_restAfter 16 = .ok (.iaload, 1) := by decide +kernel
theorem dX9_restAfter_17 : decode cX9_restAfter 17 = .ok (.iload_n 1, 1) := by decide +kernel
theorem dX9_restAfter_18 : decode cX9_restAfter 18 = .ok (.if_icmp .gt 10, 3) := by decide +kernel
theorem dX9_restAfter_21 : decode cX9_restAfter 21 = .ok (.aload_n 0, 1) := by decide +kernel
theorem dX9_restAfter_22 : decode cX9_restAfter 22 = .ok (.getfield 41, 3) := by decide +kernel
theorem dX9_restAfter_25 : decode cX9_restAfter 25 = .ok (.iload_n 2, 1) := by decide +kernel
theorem dX9_restAfter_26 : decode cX9_restAfter 26 = .ok (.iaload, 1) := by decide +kernel
theorem dX9_restAfter_27 : decode cX9_restAfter 27 = .ok (.ireturn, 1) := by decide +kernel
theorem dX9_restAfter_28 : decode cX9_restAfter 28 = .ok (.iinc 2 (-1), 3) := by decide +kernel
theorem dX9_restAfter_31 : decode cX9_restAfter 31 = .ok (.goto (-24), 3) := by decide +kernel
theorem dX9_restAfter_34 : decode cX9_restAfter 34 = .ok (.iconst 0, 1) := by decide +kernel
theorem dX9_restAfter_35 : decode cX9_restAfter 35 = .ok (.ireturn, 1) := by decide +kernel
def lX9_restAfter : List (Nat × (Op ⊕ Nat)) := [(0, .inl (o_aload 0 1)), (1, .inl (o_get 9 7 4)), (4, .inl (o_pushI (nI 1) 5)), (5, .inl (o_isub 6)), (6, .inl (o_istore 2 7)), (7, .inl (o_iload 2 8)), (8, .inl (o_if_lt 34 11)), (11, .inl (o_aload 0 12)), (12, .inl (o_get 9 8 15)), (15, .inl (o_iload 2 16)), (16, .inl (o_iald 17)), (17, .inl (o_iload 1 18)), (18, .inl (o_icmp_gt 28 21)), (21, .inl (o_aload 0 22)), (22, .inl (o_get 9 9 25)), (25, .inl (o_iload 2 26)), (26, .inl (o_iald 27)), (27, .inr 0), (28, .inl (o_iinc 2 ((-1)) 31)), (31, .inl (o_goto 7)), (34, .inl (o_pushI (nI 0) 35)), (35, .inr 0)]
theorem qX9_restAfter : yX9_restAfter.cls = RX9 ∧ yX9_restAfter.cls ≠ "java/lang/invoke/MethodHandle" ∧ yX9_restAfter.cls ≠ "java/lang/invoke/VarHandle" ∧ (parseMethodDescriptor yX9_restAfter.desc).map (fun d => d.parameters.length) = some 1 := by decide +kernel
set_option maxRecDepth 10000 in
theorem hX9_restAfter_0 (l : Launch) {p : Program} {e : Env} {s : State} {m : MethodId} {args : Array Value} {below : List Frame} {meth : Method} {c : Code} {D : va_G} {ad adV : Nat → Nat} {cA : Nat → ClassId} {K : Kt} (C0 : Cx p s m args meth c D ad adV cA cX9_restAfter 3 RX9) (hr : meth.sig.returnType = (some .int)) : ∀ q ∈ lX9_restAfter, Sd p l e (rmd 0) s m args below meth c (MQ below (QQ D ad cA K) args s 0 0 (AA ad)) D ad cA 3 q.1 (opOf K q.2) := List.forall_mem_cons.mpr ⟨s_aload_n C0 dX9_restAfter_0 rfl, List.forall_mem_cons.mpr ⟨s_get (ci := 9) (k := 7) C0 dX9_restAfter_1 inX9 rfl (by decide) tw1_107, List.forall_mem_cons.mpr ⟨s_iconst C0 dX9_restAfter_4 rfl, List.forall_mem_cons.mpr ⟨s_isub C0 dX9_restAfter_5, List.forall_mem_cons.mpr ⟨s_istore_n C0 dX9_restAfter_6 rfl (by decide), List.forall_mem_cons.mpr ⟨s_iload_n C0 dX9_restAfter_7 rfl, List.forall_mem_cons.mpr ⟨s_if_lt C0 dX9_restAfter_8 rfl, List.forall_mem_cons.mpr ⟨s_aload_n C0 dX9_restAfter_11 rfl, List.forall_mem_cons.mpr ⟨s_get (ci := 9) (k := 8) C0 dX9_restAfter_12 inX9 rfl (by decide) tw1_110, List.forall_mem_cons.mpr ⟨s_iload_n C0 dX9_restAfter_15 rfl, List.forall_mem_cons.mpr ⟨s_iald C0 dX9_restAfter_16, List.forall_mem_cons.mpr ⟨s_iload_n C0 dX9_restAfter_17 rfl, List.forall_mem_cons.mpr ⟨s_icmp_gt C0 dX9_restAfter_18 rfl, List.forall_mem_cons.mpr ⟨s_aload_n C0 dX9_restAfter_21 rfl, List.forall_mem_cons.mpr ⟨s_get (ci := 9) (k := 9) C0 dX9_restAfter_22 inX9 rfl (by decide) tw1_112, List.forall_mem_cons.mpr ⟨s_iload_n C0 dX9_restAfter_25 rfl, List.forall_mem_cons.mpr ⟨s_iald C0 dX9_restAfter_26, List.forall_mem_cons.mpr ⟨s_iret C0 hr dX9_restAfter_27, List.forall_mem_cons.mpr ⟨s_iinc C0 dX9_restAfter_28 rfl (by decide), List.forall_mem_cons.mpr ⟨s_goto C0 dX9_restAfter_31 rfl, List.forall_mem_cons.mpr ⟨s_iconst C0 dX9_restAfter_34 rfl, List.forall_mem_cons.mpr ⟨s_iret C0 hr dX9_restAfter_35, fun _ h => absurd h List.not_mem_nil⟩⟩⟩⟩⟩⟩⟩⟩⟩⟩⟩⟩⟩⟩⟩⟩⟩⟩⟩⟩⟩⟩
def fX9_restAfter : Mf := mf 3 (fun K => tl K lX9_restAfter)
theorem kX9_restAfter (l : Launch) : Okm l yX9_restAfter cX9_restAfter 3 (some .int) 0 fX9_restAfter := Okm_tl (own := RX9) (by decide +kernel) rfl (fun C0 hr => hX9_restAfter_0 l C0 hr)
theorem dX3_isRested_0 : decode cX3_isRested 0 = .ok (.iconst 0, 1) := by decide +kernel
theorem dX3_isRested_1 : decode cX3_isRested 1 = .ok (.istore_n 2, 1) := by decide +kernel
theorem dX3_isRested_2 : decode cX3_isRested 2 = .ok (.iload_n 2, 1) := by decide +kernel
theorem dX3_isRested_3 : decode cX3_isRested 3 = .ok (.iload_n 1, 1) := by decide +kernel
theorem dX3_isRested_4 : decode cX3_isRested 4 = .ok (.if_icmp .ge 51, 3) := by decide +kernel
theorem dX3_isRested_7 : decode cX3_isRested 7 = .ok (.aload_n 0, 1) := by decide +kernel
theorem dX3_isRested_8 : decode cX3_isRested 8 = .ok (.getfield 9, 3) := by decide +kernel
theorem dX3_isRested_11 : decode cX3_isRested 11 = .ok (.iload_n 2, 1) := by decide +kernel
theorem dX3_isRested_12 : decode cX3_isRested 12 = .ok (.iaload, 1) := by decide +kernel
theorem dX3_isRested_13 : decode cX3_isRested 13 = .ok (.ifCond .le 36, 3) := by decide +kernel
theorem dX3_isRested_16 : decode cX3_isRested 16 = .ok (.aload_n 0, 1) := by decide +kernel
theorem dX3_isRested_17 : decode cX3_isRested 17 = .ok (.getfield 19, 3) := by decide +kernel
theorem dX3_isRested_20 : decode cX3_isRested 20 = .ok (.getfield 57, 3) := by decide +kernel
theorem dX3_isRested_23 : decode cX3_isRested 23 = .ok (.iload_n 2, 1) := by decide +kernel
theorem dX3_isRested_24 : decode cX3_isRested 24 = .ok (.iload_n 1, 1) := by decide +kernel
theorem dX3_isRested_25 : decode cX3_isRested 25 = .ok (.invokevirtual 95, 3) := by decide +kernel
theorem dX3_isRested_28 : decode cX3_isRested 28 = .ok (.aload_n 0, 1) := by decide +kernel
theorem dX3_isRested_29 : decode cX3_isRested 29 = .ok (.getfield 19, 3) := by decide +kernel
theorem dX3_isRested_32 : decode cX3_isRested 32 = .ok (.getfield 57, 3) := by decide +kernel
theorem dX3_isRested_35 : decode cX3_isRested 35 = .ok (.aload_n 0, 1) := by decide +kernel
theorem dX3_isRested_36 : decode cX3_isRested 36 = .ok (.getfield 9, 3) := by decide +kernel
theorem dX3_isRested_39 : decode cX3_isRested 39 = .ok (.iload_n 2, 1) := by decide +kernel
theorem dX3_isRested_40 : decode cX3_isRested 40 = .ok (.iaload, 1) := by decide +kernel
theorem dX3_isRested_41 : decode cX3_isRested 41 = .ok (.invokevirtual 70, 3) := by decide +kernel
theorem dX3_isRested_44 : decode cX3_isRested 44 = .ok (.if_icmp .gt 5, 3) := by decide +kernel
theorem dX3_isRested_47 : decode cX3_isRested 47 = .ok (.iconst 0, 1) := by decide +kernel
theorem dX3_isRested_48 : decode cX3_isRested 48 = .ok (.ireturn, 1) := by decide +kernel
theorem dX3_isRested_49 : decode cX3_isRested 49 = .ok (.iinc 2 1, 3) := by decide +kernel
theorem dX3_isRested_52 : decode cX3_isRested 52 = .ok (.goto (-50), 3) := by decide +kernel
theorem dX3_isRested_55 : decode cX3_isRested 55 = .ok (.iconst 1, 1) := by decide +kernel
theorem dX3_isRested_56 : decode cX3_isRested 56 = .ok (.ireturn, 1) := by decide +kernel
def lX3_isRested : List (Nat × (Op ⊕ Nat)) := [(0, .inl (o_pushI (nI 0) 1)), (1, .inl (o_istore 2 2)), (2, .inl (o_iload 2 3)), (3, .inl (o_iload 1 4)), (4, .inl (o_icmp_ge 55 7)), (7, .inl (o_aload 0 8)), (8, .inl (o_get 3 1 11)), (11, .inl (o_iload 2 12)), (12, .inl (o_iald 13)), (13, .inl (o_if_le 49 16)), (16, .inl (o_aload 0 17)), (17, .inl (o_get 3 0 20)), (20, .inl (o_get 1 0 23)), (23, .inl (o_iload 2 24)), (24, .inl (o_iload 1 25)), (25, .inl (o_callV fX9_daysFrom 2 9 28)), (28, .inl (o_aload 0 29)), (29, .inl (o_get 3 0 32)), (32, .inl (o_get 1 0 35)), (35, .inl (o_aload 0 36)), (36, .inl (o_get 3 1 39)), (39, .inl (o_iload 2 40)), (40, .inl (o_iald 41)), (41, .inl (o_callV fX9_restAfter 1 9 44)), (44, .inl (o_icmp_gt 49 47)), (47, .inl (o_pushI (nI 0) 48)), (48, .inr 1), (49, .inl (o_iinc 2 (nI 1) 52)), (52, .inl (o_goto 2)), (55, .inl (o_pushI (nI 1) 56)), (56, .inr 1)]
theorem qX3_isRested : yX3_isRested.cls = RX3 ∧ yX3_isRested.cls ≠ "java/lang/invoke/MethodHandle" ∧ yX3_isRested.cls ≠ "java/lang/invoke/VarHandle" ∧ (parseMethodDescriptor yX3_isRested.desc).map (fun d => d.parameters.length) = some 1 := by decide +kernel
set_option maxRecDepth 10000 in
theorem hX3_isRested_0 (l : Launch) {p : Program} {e : Env} {s : State} {m : MethodId} {args : Array Value} {below : List Frame} {meth : Method} {c : Code} {D : va_G} {ad adV : Nat → Nat} {cA : Nat → ClassId} {K : Kt} (C0 : Cx p s m args meth c D ad adV cA cX3_isRested 3 RX3) (hr : meth.sig.returnType = (some .boolean)) : ∀ q ∈ lX3_isRested, Sd p l e (rmd 1) s m args below meth c (MQ below (QQ D ad cA K) args s 0 0 (AA ad)) D ad cA 3 q.1 (opOf K q.2) := List.forall_mem_cons.mpr ⟨s_iconst C0 dX3_isRested_0 rfl, List.forall_mem_cons.mpr ⟨s_istore_n C0 dX3_isRested_1 rfl (by decide), List.forall_mem_cons.mpr ⟨s_iload_n C0 dX3_isRested_2 rfl, List.forall_mem_cons.mpr ⟨s_iload_n C0 dX3_isRested_3 rfl, List.forall_mem_cons.mpr ⟨s_icmp_ge C0 dX3_isRested_4 rfl, List.forall_mem_cons.mpr ⟨s_aload_n C0 dX3_isRested_7 rfl, List.forall_mem_cons.mpr ⟨s_get (ci := 3) (k := 1) C0 dX3_isRested_8 inX3 rfl (by decide) tw1_211, List.forall_mem_cons.mpr ⟨s_iload_n C0 dX3_isRested_11 rfl, List.forall_mem_cons.mpr ⟨s_iald C0 dX3_isRested_12, List.forall_mem_cons.mpr ⟨s_if_le C0 dX3_isRested_13 rfl, List.forall_mem_cons.mpr ⟨s_aload_n C0 dX3_isRested_16 rfl, List.forall_mem_cons.mpr ⟨s_get (ci := 3) (k := 0) C0 dX3_isRested_17 inX3 rfl (by decide) tw1_210, List.forall_mem_cons.mpr ⟨s_get (ci := 1) (k := 0) C0 dX3_isRested_20 inX1 rfl (by decide) tw1_194, List.forall_mem_cons.mpr ⟨s_iload_n C0 dX3_isRested_23 rfl, List.forall_mem_cons.mpr ⟨s_iload_n C0 dX3_isRested_24 rfl, List.forall_mem_cons.mpr ⟨s_callV (ci := 9) C0 (kX9_daysFrom l) dX3_isRested_25 rfl qX9_daysFrom tw4_59 tw4_60 tw4_61 tw1_4 tw4_62 rfl (by decide) (by decide), List.forall_mem_cons.mpr ⟨s_aload_n C0 dX3_isRested_28 rfl, List.forall_mem_cons.mpr ⟨s_get (ci := 3) (k := 0) C0 dX3_isRested_29 inX3 rfl (by decide) tw1_210, List.forall_mem_cons.mpr ⟨s_get (ci := 1) (k := 0) C0 dX3_isRested_32 inX1 rfl (by decide) tw1_194, List.forall_mem_cons.mpr ⟨s_aload_n C0 dX3_isRested_35 rfl, List.forall_mem_cons.mpr ⟨s_get (ci := 3) (k := 1) C0 dX3_isRested_36 inX3 rfl (by decide) tw1_211, List.forall_mem_cons.mpr ⟨s_iload_n C0 dX3_isRested_39 rfl, List.forall_mem_cons.mpr ⟨s_iald C0 dX3_isRested_40, List.forall_mem_cons.mpr ⟨s_callV (ci := 9) C0 (kX9_restAfter l) dX3_isRested_41 rfl qX9_restAfter tw4_63 tw4_5 tw4_6 tw1_4 tw4_7 rfl (by decide) (by decide), List.forall_mem_cons.mpr ⟨s_icmp_gt C0 dX3_isRested_44 rfl, List.forall_mem_cons.mpr ⟨s_iconst C0 dX3_isRested_47 rfl, List.forall_mem_cons.mpr ⟨s_zret C0 hr dX3_isRested_48, List.forall_mem_cons.mpr ⟨s_iinc C0 dX3_isRested_49 rfl (by decide), List.forall_mem_cons.mpr ⟨s_goto C0 dX3_isRested_52 rfl, List.forall_mem_cons.mpr ⟨s_iconst C0 dX3_isRested_55 rfl, List.forall_mem_cons.mpr ⟨s_zret C0 hr dX3_isRested_56, fun _ h => absurd h List.not_mem_nil⟩⟩⟩⟩⟩⟩⟩⟩⟩⟩⟩⟩⟩⟩⟩⟩⟩⟩⟩⟩⟩⟩⟩⟩⟩⟩⟩⟩⟩⟩⟩
def fX3_isRested : Mf := mf 3 (fun K => tl K lX3_isRested)
theorem kX3_isRested (l : Launch) : Okm l yX3_isRested cX3_isRested 3 (some .boolean) 1 fX3_isRested := Okm_tl (own := RX3) (by decide +kernel) rfl (fun C0 hr => hX3_isRested_0 l C0 hr)
theorem dX3_daysToNext_0 : decode cX3_daysToNext 0 = .ok (.iload_n 1, 1) := by decide +kernel
theorem dX3_daysToNext_1 : decode cX3_daysToNext 1 = .ok (.iconst 1, 1) := by decide +kernel
theorem dX3_daysToNext_2 : decode cX3_daysToNext 2 = .ok (.iadd, 1) := by decide +kernel
theorem dX3_daysToNext_3 : decode cX3_daysToNext 3 = .ok (.istore_n 2, 1) := by decide +kernel
theorem dX3_daysToNext_4 : decode cX3_daysToNext 4 = .ok (.iload_n 2, 1) := by decide +kernel
theorem dX3_daysToNext_5 : decode cX3_daysToNext 5 = .ok (.aload_n 0, 1) := by decide +kernel
theorem dX3_daysToNext_6 : decode cX3_daysToNext 6 = .ok (.getfield 19, 3) := by decide +kernel
theorem dX3_daysToNext_9 : decode cX3_daysToNext 9 = .ok (.getfield 57, 3) := by decide +kernel
theorem dX3_daysToNext_12 : decode cX3_daysToNext 12 = .ok (.getfield 98, 3) := by decide +kernel
theorem dX3_daysToNext_15 : decode cX3_daysToNext 15 = .ok (.if_icmp .ge 31, 3) := by decide +kernel
theorem dX3_daysToNext_18 : decode cX3_daysToNext 18 = .ok (.aload_n 0, 1) := by decide +kernel
theorem dX3_daysToNext_19 : decode cX3_daysToNext 19 = .ok (.getfield 9, 3) := by decide +kernel
theorem dX3_daysToNext_22 : decode cX3_daysToNext 22 = .ok (.iload_n 2, 1) := by decide +kernel
theorem dX3_daysToNext_23 : decode cX3_daysToNext 23 = .ok (.iaload, 1) := by decide +kernel
theorem dX3_daysToNext_24 : decode cX3_daysToNext 24 = .ok (.ifCond .le 16, 3) := by decide +kernel
theorem dX3_daysToNext_27 : decode cX3_daysToNext 27 = .ok (.aload_n 0, 1) := by decide +kernel
theorem dX3_daysToNext_28 : decode cX3_daysToNext 28 = .ok (.getfield 19, 3) := by decide +kernel
theorem dX3_daysToNext_31 : decode cX3_daysToNext 31 = .ok (.getfield 57, 3) := by decide +kernel
theorem dX3_daysToNext_34 : decode cX3_daysToNext 34 = .ok (.iload_n 1, 1) := by decide +kernel
theorem dX3_daysToNext_35 : decode cX3_daysToNext 35 = .ok (.iload_n 2, 1) := by decide +kernel
theorem dX3_daysToNext_36 : decode cX3_daysToNext 36 = .ok (.invokevirtual 95, 3) := by decide +kernel
theorem dX3_daysToNext_39 : decode cX3_daysToNext 39 = .ok (.ireturn, 1) := by decide +kernel
theorem dX3_daysToNext_40 : decode cX3_daysToNext 40 = .ok (.iinc 2 1, 3) := by decide +kernel
theorem dX3_daysToNext_43 : decode cX3_daysToNext 43 = .ok (.goto (-39), 3) := by decide +kernel
theorem dX3_daysToNext_46 : decode cX3_daysToNext 46 = .ok (.ldc 101, 2) := by decide +kernel
theorem dX3_daysToNext_48 : decode cX3_daysToNext 48 = .ok (.ireturn, 1) := by decide +kernel
def lX3_daysToNext : List (Nat × (Op ⊕ Nat)) := [(0, .inl (o_iload 1 1)), (1, .inl (o_pushI (nI 1) 2)), (2, .inl (o_iadd 3)), (3, .inl (o_istore 2 4)), (4, .inl (o_iload 2 5)), (5, .inl (o_aload 0 6)), (6, .inl (o_get 3 0 9)), (9, .inl (o_get 1 0 12)), (12, .inl (o_get 9 4 15)), (15, .inl (o_icmp_ge 46 18)), (18, .inl (o_aload 0 19)), (19, .inl (o_get 3 1 22)), (22, .inl (o_iload 2 23)), (23, .inl (o_iald 24)), (24, .inl (o_if_le 40 27)), (27, .inl (o_aload 0 28)), (28, .inl (o_get 3 0 31)), (31, .inl (o_get 1 0 34)), (34, .inl (o_iload 1 35)), (35, .inl (o_iload 2 36)), (36, .inl (o_callV fX9_daysFrom 2 9 39)), (39, .inr 0), (40, .inl (o_iinc 2 (nI 1) 43)), (43, .inl (o_goto 4)), (46, .inl (o_pushI (nI 1000000) 48)), (48, .inr 0)]
theorem qX3_daysToNext : yX3_daysToNext.cls = RX3 ∧ yX3_daysToNext.cls ≠ "java/lang/invoke/MethodHandle" ∧ yX3_daysToNext.cls ≠ "java/lang/invoke/VarHandle" ∧ (parseMethodDescriptor yX3_daysToNext.desc).map (fun d => d.parameters.length) = some 1 := by decide +kernel
set_option maxRecDepth 10000 in
theorem hX3_daysToNext_0 (l : Launch) {p : Program} {e : Env} {s : State} {m : MethodId} {args : Array Value} {below : List Frame} {meth : Method} {c : Code} {D : va_G} {ad adV : Nat → Nat} {cA : Nat → ClassId} {K : Kt} (C0 : Cx p s m args meth c D ad adV cA cX3_daysToNext 3 RX3) (hr : meth.sig.returnType = (some .int)) : ∀ q ∈ lX3_daysToNext, Sd p l e (rmd 1) s m args below meth c (MQ below (QQ D ad cA K) args s 0 0 (AA ad)) D ad cA 3 q.1 (opOf K q.2) := List.forall_mem_cons.mpr ⟨s_iload_n C0 dX3_daysToNext_0 rfl, List.forall_mem_cons.mpr ⟨s_iconst C0 dX3_daysToNext_1 rfl, List.forall_mem_cons.mpr ⟨s_iadd C0 dX3_daysToNext_2, List.forall_mem_cons.mpr ⟨s_istore_n C0 dX3_daysToNext_3 rfl (by decide), List.forall_mem_cons.mpr ⟨s_iload_n C0 dX3_daysToNext_4 rfl, List.forall_mem_cons.mpr ⟨s_aload_n C0 dX3_daysToNext_5 rfl, List.forall_mem_cons.mpr ⟨s_get (ci := 3) (k := 0) C0 dX3_daysToNext_6 inX3 rfl (by decide) tw1_210, List.forall_mem_cons.mpr ⟨s_get (ci := 1) (k := 0) C0 dX3_daysToNext_9 inX1 rfl (by decide) tw1_194, List.forall_mem_cons.mpr ⟨s_get (ci := 9) (k := 4) C0 dX3_daysToNext_12 inX9 rfl (by decide) tw1_98, List.forall_mem_cons.mpr ⟨s_icmp_ge C0 dX3_daysToNext_15 rfl, List.forall_mem_cons.mpr ⟨s_aload_n C0 dX3_daysToNext_18 rfl, List.forall_mem_cons.mpr ⟨s_get (ci := 3) (k := 1) C0 dX3_daysToNext_19 inX3 rfl (by decide) tw1_211, List.forall_mem_cons.mpr ⟨s_iload_n C0 dX3_daysToNext_22 rfl, List.forall_mem_cons.mpr ⟨s_iald C0 dX3_daysToNext_23, List.forall_mem_cons.mpr ⟨s_if_le C0 dX3_daysToNext_24 rfl, List.forall_mem_cons.mpr ⟨s_aload_n C0 dX3_daysToNext_27 rfl, List.forall_mem_cons.mpr ⟨s_get (ci := 3) (k := 0) C0 dX3_daysToNext_28 inX3 rfl (by decide) tw1_210, List.forall_mem_cons.mpr ⟨s_get (ci := 1) (k := 0) C0 dX3_daysToNext_31 inX1 rfl (by decide) tw1_194, List.forall_mem_cons.mpr ⟨s_iload_n C0 dX3_daysToNext_34 rfl, List.forall_mem_cons.mpr ⟨s_iload_n C0 dX3_daysToNext_35 rfl, List.forall_mem_cons.mpr ⟨s_callV (ci := 9) C0 (kX9_daysFrom l) dX3_daysToNext_36 rfl qX9_daysFrom tw4_59 tw4_60 tw4_61 tw1_4 tw4_62 rfl (by decide) (by decide), List.forall_mem_cons.mpr ⟨s_iret C0 hr dX3_daysToNext_39, List.forall_mem_cons.mpr ⟨s_iinc C0 dX3_daysToNext_40 rfl (by decide), List.forall_mem_cons.mpr ⟨s_goto C0 dX3_daysToNext_43 rfl, List.forall_mem_cons.mpr ⟨s_ldc C0 dX3_daysToNext_46 tw4_68, List.forall_mem_cons.mpr ⟨s_iret C0 hr dX3_daysToNext_48, fun _ h => absurd h List.not_mem_nil⟩⟩⟩⟩⟩⟩⟩⟩⟩⟩⟩⟩⟩⟩⟩⟩⟩⟩⟩⟩⟩⟩⟩⟩⟩⟩
def fX3_daysToNext : Mf := mf 3 (fun K => tl K lX3_daysToNext)
theorem kX3_daysToNext (l : Launch) : Okm l yX3_daysToNext cX3_daysToNext 3 (some .int) 1 fX3_daysToNext := Okm_tl (own := RX3) (by decide +kernel) rfl (fun C0 hr => hX3_daysToNext_0 l C0 hr)
theorem dX3_weekFrom_0 : decode cX3_weekFrom 0 = .ok (.iconst 0, 1) := by decide +kernel
theorem dX3_weekFrom_1 : decode cX3_weekFrom 1 = .ok (.istore_n 3, 1) := by decide +kernel
theorem dX3_weekFrom_2 : decode cX3_weekFrom 2 = .ok (.iload_n 1, 1) := by decide +kernel
theorem dX3_weekFrom_3 : decode cX3_weekFrom 3 = .ok (.istore 4, 2) := by decide +kernel
theorem dX3_weekFrom_5 : decode cX3_weekFrom 5 = .ok (.iload 4, 2) := by decide +kernel
theorem dX3_weekFrom_7 : decode cX3_weekFrom 7 = .ok (.aload_n 0, 1) := by decide +kernel
theorem dX3_weekFrom_8 : decode cX3_weekFrom 8 = .ok (.getfield 19, 3) := by decide +kernel
theorem dX3_weekFrom_11 : decode cX3_weekFrom 11 = .ok (.getfield 57, 3) := by decide +kernel
theorem dX3_weekFrom_14 : decode cX3_weekFrom 14 = .ok (.getfield 98, 3) := by decide +kernel
theorem dX3_weekFrom_17 : decode cX3_weekFrom 17 = .ok (.if_icmp .ge 50, 3) := by decide +kernel
theorem dX3_weekFrom_20 : decode cX3_weekFrom 20 = .ok (.aload_n 0, 1) := by decide +kernel
theorem dX3_weekFrom_21 : decode cX3_weekFrom 21 = .ok (.getfield 19, 3) := by decide +kernel
theorem dX3_weekFrom_24 : decode cX3_weekFrom 24 = .ok (.getfield 57, 3) := by decide +kernel
theorem dX3_weekFrom_27 : decode cX3_weekFrom 27 = .ok (.iload_n 1, 1) := by decide +kernel
theorem dX3_weekFrom_28 : decode cX3_weekFrom 28 = .ok (.iload 4, 2) := by decide +kernel
theorem dX3_weekFrom_30 : decode cX3_weekFrom 30 = .ok (.invokevirtual 95, 3) := by decide +kernel
theorem dX3_weekFrom_33 : decode cX3_weekFrom 33 = .ok (.bipush 7, 2) := by decide +kernel
theorem dX3_weekFrom_35 : decode cX3_weekFrom 35 = .ok (.if_icmp .lt 6, 3) := by decide +kernel
theorem dX3_weekFrom_38 : decode cX3_weekFrom 38 = .ok (.goto 29, 3) := by decide +kernel
theorem dX3_weekFrom_41 : decode cX3_weekFrom 41 = .ok (.iload_n 3, 1) := by decide +kernel
theorem dX3_weekFrom_42 : decode cX3_weekFrom 42 = .ok (.iload 4, 2) := by decide +kernel
theorem dX3_weekFrom_44 : decode cX3_weekFrom 44 = .ok (.iload_n 2, 1) := by decide +kernel
theorem dX3_weekFrom_45 : decode cX3_weekFrom 45 = .ok (.if_icmp .ne 7, 3) := by decide +kernel
theorem dX3_weekFrom_48 : decode cX3_weekFrom 48 = .ok (.iconst 0, 1) := by decide +kernel
theorem dX3_weekFrom_49 : decode cX3_weekFrom 49 = .ok (.goto 10, 3) := by decide +kernel
theorem dX3_weekFrom_52 : decode cX3_weekFrom 52 = .ok (.aload_n 0, 1) := by decide +kernel
theorem dX3_weekFrom_53 : decode cX3_weekFrom 53 = .ok (.getfield 9, 3) := by decide +kernel
theorem dX3_weekFrom_56 : decode cX3_weekFrom 56 = .ok (.iload 4, 2) := by decide +kernel
theorem dX3_weekFrom_58 : decode cX3_weekFrom 58 = .ok (.iaload, 1) := by decide +kernel
theorem dX3_weekFrom_59 : decode cX3_weekFrom 59 = .ok (.iadd, 1) := by decide +kernel
theorem dX3_weekFrom_60 : decode cX3_weekFrom 60 = .ok (.istore_n 3, 1) := by decide +kernel
theorem dX3_weekFrom_61 : decode cX3_weekFrom 61 = .ok (.iinc 4 1, 3) := by decide +kernel
theorem dX3_weekFrom_64 : decode cX3_weekFrom 64 = .ok (.goto (-59), 3) := by decide +kernel
theorem dX3_weekFrom_67 : decode cX3_weekFrom 67 = .ok (.iload_n 3, 1) := by decide +kernel
theorem dX3_weekFrom_68 : decode cX3_weekFrom 68 = .ok (.ireturn, 1) := by decide +kernel
def lX3_weekFrom : List (Nat × (Op ⊕ Nat)) := [(0, .inl (o_pushI (nI 0) 1)), (1, .inl (o_istore 3 2)), (2, .inl (o_iload 1 3)), (3, .inl (o_istore 4 5)), (5, .inl (o_iload 4 7)), (7, .inl (o_aload 0 8)), (8, .inl (o_get 3 0 11)), (11, .inl (o_get 1 0 14)), (14, .inl (o_get 9 4 17)), (17, .inl (o_icmp_ge 67 20)), (20, .inl (o_aload 0 21)), (21, .inl (o_get 3 0 24)), (24, .inl (o_get 1 0 27)), (27, .inl (o_iload 1 28)), (28, .inl (o_iload 4 30)), (30, .inl (o_callV fX9_daysFrom 2 9 33)), (33, .inl (o_pushI (nI 7) 35)), (35, .inl (o_icmp_lt 41 38)), (38, .inl (o_goto 67)), (41, .inl (o_iload 3 42)), (42, .inl (o_iload 4 44)), (44, .inl (o_iload 2 45)), (45, .inl (o_icmp_ne 52 48)), (48, .inl (o_pushI (nI 0) 49)), (49, .inl (o_goto 59)), (52, .inl (o_aload 0 53)), (53, .inl (o_get 3 1 56)), (56, .inl (o_iload 4 58)), (58, .inl (o_iald 59)), (59, .inl (o_iadd 60)), (60, .inl (o_istore 3 61)), (61, .inl (o_iinc 4 (nI 1) 64)), (64, .inl (o_goto 5)), (67, .inl (o_iload 3 68)), (68, .inr 0)]
theorem qX3_weekFrom : yX3_weekFrom.cls = RX3 ∧ yX3_weekFrom.cls ≠ "java/lang/invoke/MethodHandle" ∧ yX3_weekFrom.cls ≠ "java/lang/invoke/VarHandle" ∧ (parseMethodDescriptor yX3_weekFrom.desc).map (fun d => d.parameters.length) = some 2 := by decide +kernel
set_option maxRecDepth 10000 in
theorem hX3_weekFrom_0 (l : Launch) {p : Program} {e : Env} {s : State} {m : MethodId} {args : Array Value} {below : List Frame} {meth : Method} {c : Code} {D : va_G} {ad adV : Nat → Nat} {cA : Nat → ClassId} {K : Kt} (C0 : Cx p s m args meth c D ad adV cA cX3_weekFrom 5 RX3) (hr : meth.sig.returnType = (some .int)) : ∀ q ∈ lX3_weekFrom, Sd p l e (rmd 1) s m args below meth c (MQ below (QQ D ad cA K) args s 0 0 (AA ad)) D ad cA 5 q.1 (opOf K q.2) := List.forall_mem_cons.mpr ⟨s_iconst C0 dX3_weekFrom_0 rfl, List.forall_mem_cons.mpr ⟨s_istore_n C0 dX3_weekFrom_1 rfl (by decide), List.forall_mem_cons.mpr ⟨s_iload_n C0 dX3_weekFrom_2 rfl, List.forall_mem_cons.mpr ⟨s_istore C0 dX3_weekFrom_3 (by decide), List.forall_mem_cons.mpr ⟨s_iload C0 dX3_weekFrom_5, List.forall_mem_cons.mpr ⟨s_aload_n C0 dX3_weekFrom_7 rfl, List.forall_mem_cons.mpr ⟨s_get (ci := 3) (k := 0) C0 dX3_weekFrom_8 inX3 rfl (by decide) tw1_210, List.forall_mem_cons.mpr ⟨s_get (ci := 1) (k := 0) C0 dX3_weekFrom_11 inX1 rfl (by decide) tw1_194, List.forall_mem_cons.mpr ⟨s_get (ci := 9) (k := 4) C0 dX3_weekFrom_14 inX9 rfl (by decide) tw1_98, List.forall_mem_cons.mpr ⟨s_icmp_ge C0 dX3_weekFrom_17 rfl, List.forall_mem_cons.mpr ⟨s_aload_n C0 dX3_weekFrom_20 rfl, List.forall_mem_cons.mpr ⟨s_get (ci := 3) (k := 0) C0 dX3_weekFrom_21 inX3 rfl (by decide) tw1_210, List.forall_mem_cons.mpr ⟨s_get (ci := 1) (k := 0) C0 dX3_weekFrom_24 inX1 rfl (by decide) tw1_194, List.forall_mem_cons.mpr ⟨s_iload_n C0 dX3_weekFrom_27 rfl, List.forall_mem_cons.mpr ⟨s_iload C0 dX3_weekFrom_28, List.forall_mem_cons.mpr ⟨s_callV (ci := 9) C0 (kX9_daysFrom l) dX3_weekFrom_30 rfl qX9_daysFrom tw4_59 tw4_60 tw4_61 tw1_4 tw4_62 rfl (by decide) (by decide), List.forall_mem_cons.mpr ⟨s_bipush C0 dX3_weekFrom_33 (by decide +kernel), List.forall_mem_cons.mpr ⟨s_icmp_lt C0 dX3_weekFrom_35 rfl, List.forall_mem_cons.mpr ⟨s_goto C0 dX3_weekFrom_38 rfl, List.forall_mem_cons.mpr ⟨s_iload_n C0 dX3_weekFrom_41 rfl, List.forall_mem_cons.mpr ⟨s_iload C0 dX3_weekFrom_42, List.forall_mem_cons.mpr ⟨s_iload_n C0 dX3_weekFrom_44 rfl, List.forall_mem_cons.mpr ⟨s_icmp_ne C0 dX3_weekFrom_45 rfl, List.forall_mem_cons.mpr ⟨s_iconst C0 dX3_weekFrom_48 rfl, List.forall_mem_cons.mpr ⟨s_goto C0 dX3_weekFrom_49 rfl, List.forall_mem_cons.mpr ⟨s_aload_n C0 dX3_weekFrom_52 rfl, List.forall_mem_cons.mpr ⟨s_get (ci := 3) (k := 1) C0 dX3_weekFrom_53 inX3 rfl (by decide) tw1_211, List.forall_mem_cons.mpr ⟨s_iload C0 dX3_weekFrom_56, List.forall_mem_cons.mpr ⟨s_iald C0 dX3_weekFrom_58, List.forall_mem_cons.mpr ⟨s_iadd C0 dX3_weekFrom_59, List.forall_mem_cons.mpr ⟨s_istore_n C0 dX3_weekFrom_60 rfl (by decide), List.forall_mem_cons.mpr ⟨s_iinc C0 dX3_weekFrom_61 rfl (by decide), List.forall_mem_cons.mpr ⟨s_goto C0 dX3_weekFrom_64 rfl, List.forall_mem_cons.mpr ⟨s_iload_n C0 dX3_weekFrom_67 rfl, List.forall_mem_cons.mpr ⟨s_iret C0 hr dX3_weekFrom_68, fun _ h => absurd h List.not_mem_nil⟩⟩⟩⟩⟩⟩⟩⟩⟩⟩⟩⟩⟩⟩⟩⟩⟩⟩⟩⟩⟩⟩⟩⟩⟩⟩⟩⟩⟩⟩⟩⟩⟩⟩⟩
def fX3_weekFrom : Mf := mf 5 (fun K => tl K lX3_weekFrom)
theorem kX3_weekFrom (l : Launch) : Okm l yX3_weekFrom cX3_weekFrom 5 (some .int) 1 fX3_weekFrom := Okm_tl (own := RX3) (by decide +kernel) rfl (fun C0 hr => hX3_weekFrom_0 l C0 hr)
theorem dX3_roomInWeek_0 : decode cX3_roomInWeek 0 = .ok (.aload_n 0, 1) := by decide +kernel
theorem dX3_roomInWeek_1 : decode cX3_roomInWeek 1 = .ok (.getfield 19, 3) := by decide +kernel
theorem dX3_roomInWeek_4 : decode cX3_roomInWeek 4 = .ok (.getfield 57, 3) := by decide +kernel
theorem dX3_roomInWeek_7 : decode cX3_roomInWeek 7 = .ok (.getfield 102, 3) := by decide +kernel
theorem dX3_roomInWeek_10 : decode cX3_roomInWeek 10 = .ok (.iconst 0, 1) := by decide +kernel
theorem dX3_roomInWeek_11 : decode cX3_roomInWeek 11 = .ok (.iaload, 1) := by decide +kernel
theorem dX3_roomInWeek_12 : decode cX3_roomInWeek 12 = .ok (.istore_n 2, 1) := by decide +kernel
theorem dX3_roomInWeek_13 : decode cX3_roomInWeek 13 = .ok (.iload_n 2, 1) := by decide +kernel
theorem dX3_roomInWeek_14 : decode cX3_roomInWeek 14 = .ok (.ifCond .ne 6, 3) := by decide +kernel
theorem dX3_roomInWeek_17 : decode cX3_roomInWeek 17 = .ok (.ldc 101, 2) := by decide +kernel
theorem dX3_roomInWeek_19 : decode cX3_roomInWeek 19 = .ok (.ireturn, 1) := by decide +kernel
theorem dX3_roomInWeek_20 : decode cX3_roomInWeek 20 = .ok (.iconst 0, 1) := by decide +kernel
theorem dX3_roomInWeek_21 : decode cX3_roomInWeek 21 = .ok (.istore_n 3, 1) := by decide +kernel
theorem dX3_roomInWeek_22 : decode cX3_roomInWeek 22 = .ok (.iload_n 1, 1) := by decide +kernel
theorem dX3_roomInWeek_23 : decode cX3_roomInWeek 23 = .ok (.istore 4, 2) := by decide +kernel
theorem dX3_roomInWeek_25 : decode cX3_roomInWeek 25 = .ok (.iload 4, 2) := by decide +kernel
theorem dX3_roomInWeek_27 : decode cX3_roomInWeek 27 = .ok (.ifCond .lt 42, 3) := by decide +kernel
theorem dX3_roomInWeek_30 : decode cX3_roomInWeek 30 = .ok (.aload_n 0, 1) := by decide +kernel
theorem dX3_roomInWeek_31 : decode cX3_roomInWeek 31 = .ok (.getfield 19, 3) := by decide +kernel
theorem dX3_roomInWeek_34 : decode cX3_roomInWeek 34 = .ok (.getfield 57, 3) := by decide +kernel
theorem dX3_roomInWeek_37 : decode cX3_roomInWeek 37 = .ok (.iload 4, 2) := by decide +kernel
theorem dX3_roomInWeek_39 : decode cX3_roomInWeek 39 = .ok (.iload_n 1, 1) := by decide +kernel
theorem dX3_roomInWeek_40 : decode cX3_roomInWeek 40 = .ok (.invokevirtual 95, 3) := by decide +kernel
theorem dX3_roomInWeek_43 : decode cX3_roomInWeek 43 = .ok (.bipush 7, 2) := by decide +kernel
theorem dX3_roomInWeek_45 : decode cX3_roomInWeek 45 = .ok (.if_icmp .lt 6, 3) := by decide +kernel
theorem dX3_roomInWeek_48 : decode cX3_roomInWeek 48 = .ok (.goto 21, 3) := by decide +kernel
theorem dX3_roomInWeek_51 : decode cX3_roomInWeek 51 = .ok (.iload_n 3, 1) := by decide +kernel
theorem dX3_roomInWeek_52 : decode cX3_roomInWeek 52 = .ok (.aload_n 0, 1) := by decide +kernel
theorem dX3_roomInWeek_53 : decode cX3_roomInWeek 53 = .ok (.iload 4, 2) := by decide +kernel
theorem dX3_roomInWeek_55 : decode cX3_roomInWeek 55 = .ok (.iload_n 1, 1) := by decide +kernel
theorem dX3_roomInWeek_56 : decode cX3_roomInWeek 56 = .ok (.invokevirtual 105, 3) := by decide +kernel
theorem dX3_roomInWeek_59 : decode cX3_roomInWeek 59 = .ok (.invokestatic 108, 3) := by decide +kernel
theorem dX3_roomInWeek_62 : decode cX3_roomInWeek 62 = .ok (.istore_n 3, 1) := by decide +kernel
theorem dX3_roomInWeek_63 : decode cX3_roomInWeek 63 = .ok (.iinc 4 (-1), 3) := by decide +kernel
theorem dX3_roomInWeek_66 : decode cX3_roomInWeek 66 = .ok (.goto (-41), 3) := by decide +kernel
theorem dX3_roomInWeek_69 : decode cX3_roomInWeek 69 = .ok (.iload_n 2, 1) := by decide +kernel
theorem dX3_roomInWeek_70 : decode cX3_roomInWeek 70 = .ok (.iload_n 3, 1) := by decide +kernel
theorem dX3_roomInWeek_71 : decode cX3_roomInWeek 71 = .ok (.isub, 1) := by decide +kernel
theorem dX3_roomInWeek_72 : decode cX3_roomInWeek 72 = .ok (.ireturn, 1) := by decide +kernel
def lX3_roomInWeek : List (Nat × (Op ⊕ Nat)) := [(0, .inl (o_aload 0 1)), (1, .inl (o_get 3 0 4)), (4, .inl (o_get 1 0 7)), (7, .inl (o_get 9 6 10)), (10, .inl (o_pushI (nI 0) 11)), (11, .inl (o_iald 12)), (12, .inl (o_istore 2 13)), (13, .inl (o_iload 2 14)), (14, .inl (o_if_ne 20 17)), (17, .inl (o_pushI (nI 1000000) 19)), (19, .inr 0), (20, .inl (o_pushI (nI 0) 21)), (21, .inl (o_istore 3 22)), (22, .inl (o_iload 1 23)), (23, .inl (o_istore 4 25)), (25, .inl (o_iload 4 27)), (27, .inl (o_if_lt 69 30)), (30, .inl (o_aload 0 31)), (31, .inl (o_get 3 0 34)), (34, .inl (o_get 1 0 37)), (37, .inl (o_iload 4 39)), (39, .inl (o_iload 1 40)), (40, .inl (o_callV fX9_daysFrom 2 9 43)), (43, .inl (o_pushI (nI 7) 45)), (45, .inl (o_icmp_lt 51 48)), (48, .inl (o_goto 69)), (51, .inl (o_iload 3 52)), (52, .inl (o_aload 0 53)), (53, .inl (o_iload 4 55)), (55, .inl (o_iload 1 56)), (56, .inl (o_callV fX3_weekFrom 2 3 59)), (59, .inl (o_max 62)), (62, .inl (o_istore 3 63)), (63, .inl (o_iinc 4 ((-1)) 66)), (66, .inl (o_goto 25)), (69, .inl (o_iload 2 70)), (70, .inl (o_iload 3 71)), (71, .inl (o_isub 72)), (72, .inr 0)]
theorem qX3_roomInWeek : yX3_roomInWeek.cls = RX3 ∧ yX3_roomInWeek.cls ≠ "java/lang/invoke/MethodHandle" ∧ yX3_roomInWeek.cls ≠ "java/lang/invoke/VarHandle" ∧ (parseMethodDescriptor yX3_roomInWeek.desc).map (fun d => d.parameters.length) = some 1 := by decide +kernel
set_option maxRecDepth 10000 in
theorem hX3_roomInWeek_0 (l : Launch) {p : Program} {e : Env} {s : State} {m : MethodId} {args : Array Value} {below : List Frame} {meth : Method} {c : Code} {D : va_G} {ad adV : Nat → Nat} {cA : Nat → ClassId} {K : Kt} (C0 : Cx p s m args meth c D ad adV cA cX3_roomInWeek 5 RX3) (hr : meth.sig.returnType = (some .int)) : ∀ q ∈ lX3_roomInWeek, Sd p l e (rmd 2) s m args below meth c (MQ below (QQ D ad cA K) args s 0 0 (AA ad)) D ad cA 5 q.1 (opOf K q.2) := List.forall_mem_cons.mpr ⟨s_aload_n C0 dX3_roomInWeek_0 rfl, List.forall_mem_cons.mpr ⟨s_get (ci := 3) (k := 0) C0 dX3_roomInWeek_1 inX3 rfl (by decide) tw1_210, List.forall_mem_cons.mpr ⟨s_get (ci := 1) (k := 0) C0 dX3_roomInWeek_4 inX1 rfl (by decide) tw1_194, List.forall_mem_cons.mpr ⟨s_get (ci := 9) (k := 6) C0 dX3_roomInWeek_7 inX9 rfl (by decide) tw1_105, List.forall_mem_cons.mpr ⟨s_iconst C0 dX3_roomInWeek_10 rfl, List.forall_mem_cons.mpr ⟨s_iald C0 dX3_roomInWeek_11, List.forall_mem_cons.mpr ⟨s_istore_n C0 dX3_roomInWeek_12 rfl (by decide), List.forall_mem_cons.mpr ⟨s_iload_n C0 dX3_roomInWeek_13 rfl, List.forall_mem_cons.mpr ⟨s_if_ne C0 dX3_roomInWeek_14 rfl, List.forall_mem_cons.mpr ⟨s_ldc C0 dX3_roomInWeek_17 tw4_68, List.forall_mem_cons.mpr ⟨s_iret C0 hr dX3_roomInWeek_19, List.forall_mem_cons.mpr ⟨s_iconst C0 dX3_roomInWeek_20 rfl, List.forall_mem_cons.mpr ⟨s_istore_n C0 dX3_roomInWeek_21 rfl (by decide), List.forall_mem_cons.mpr ⟨s_iload_n C0 dX3_roomInWeek_22 rfl, List.forall_mem_cons.mpr ⟨s_istore C0 dX3_roomInWeek_23 (by decide), List.forall_mem_cons.mpr ⟨s_iload C0 dX3_roomInWeek_25, List.forall_mem_cons.mpr ⟨s_if_lt C0 dX3_roomInWeek_27 rfl, List.forall_mem_cons.mpr ⟨s_aload_n C0 dX3_roomInWeek_30 rfl, List.forall_mem_cons.mpr ⟨s_get (ci := 3) (k := 0) C0 dX3_roomInWeek_31 inX3 rfl (by decide) tw1_210, List.forall_mem_cons.mpr ⟨s_get (ci := 1) (k := 0) C0 dX3_roomInWeek_34 inX1 rfl (by decide) tw1_194, List.forall_mem_cons.mpr ⟨s_iload C0 dX3_roomInWeek_37, List.forall_mem_cons.mpr ⟨s_iload_n C0 dX3_roomInWeek_39 rfl, List.forall_mem_cons.mpr ⟨s_callV (ci := 9) C0 (kX9_daysFrom l) dX3_roomInWeek_40 rfl qX9_daysFrom tw4_59 tw4_60 tw4_61 tw1_4 tw4_62 rfl (by decide) (by decide), List.forall_mem_cons.mpr ⟨s_bipush C0 dX3_roomInWeek_43 (by decide +kernel), List.forall_mem_cons.mpr ⟨s_icmp_lt C0 dX3_roomInWeek_45 rfl, List.forall_mem_cons.mpr ⟨s_goto C0 dX3_roomInWeek_48 rfl, List.forall_mem_cons.mpr ⟨s_iload_n C0 dX3_roomInWeek_51 rfl, List.forall_mem_cons.mpr ⟨s_aload_n C0 dX3_roomInWeek_52 rfl, List.forall_mem_cons.mpr ⟨s_iload C0 dX3_roomInWeek_53, List.forall_mem_cons.mpr ⟨s_iload_n C0 dX3_roomInWeek_55 rfl, List.forall_mem_cons.mpr ⟨s_callV (ci := 3) C0 (kX3_weekFrom l) dX3_roomInWeek_56 rfl qX3_weekFrom tw4_73 tw4_75 twp_26 tw1_7 tw4_76 rfl (by decide) (by decide), List.forall_mem_cons.mpr ⟨s_max C0 dX3_roomInWeek_59 tw4_77 tw2_198 tw1_14 twm_max rfl (by decide), List.forall_mem_cons.mpr ⟨s_istore_n C0 dX3_roomInWeek_62 rfl (by decide), List.forall_mem_cons.mpr ⟨s_iinc C0 dX3_roomInWeek_63 rfl (by decide), List.forall_mem_cons.mpr ⟨s_goto C0 dX3_roomInWeek_66 rfl, List.forall_mem_cons.mpr ⟨s_iload_n C0 dX3_roomInWeek_69 rfl, List.forall_mem_cons.mpr ⟨s_iload_n C0 dX3_roomInWeek_70 rfl, List.forall_mem_cons.mpr ⟨s_isub C0 dX3_roomInWeek_71, List.forall_mem_cons.mpr ⟨s_iret C0 hr dX3_roomInWeek_72, fun _ h => absurd h List.not_mem_nil⟩⟩⟩⟩⟩⟩⟩⟩⟩⟩⟩⟩⟩⟩⟩⟩⟩⟩⟩⟩⟩⟩⟩⟩⟩⟩⟩⟩⟩⟩⟩⟩⟩⟩⟩⟩⟩⟩⟩
def fX3_roomInWeek : Mf := mf 5 (fun K => tl K lX3_roomInWeek)
theorem kX3_roomInWeek (l : Launch) : Okm l yX3_roomInWeek cX3_roomInWeek 5 (some .int) 2 fX3_roomInWeek := Okm_tl (own := RX3) (by decide +kernel) rfl (fun C0 hr => hX3_roomInWeek_0 l C0 hr)
theorem dX3_clashes_0 : decode cX3_clashes 0 = .ok (.iconst 0, 1) := by decide +kernel
theorem dX3_clashes_1 : decode cX3_clashes 1 = .ok (.istore_n 3, 1) := by decide +kernel
theorem dX3_clashes_2 : decode cX3_clashes 2 = .ok (.iload_n 2, 1) := by decide +kernel
theorem dX3_clashes_3 : decode cX3_clashes 3 = .ok (.aload_n 0, 1) := by decide +kernel
theorem dX3_clashes_4 : decode cX3_clashes 4 = .ok (.getfield 19, 3) := by decide +kernel
theorem dX3_clashes_7 : decode cX3_clashes 7 = .ok (.getfield 57, 3) := by decide +kernel
theorem dX3_clashes_10 : decode cX3_clashes 10 = .ok (.aload_n 0, 1) := by decide +kernel
theorem dX3_clashes_11 : decode cX3_clashes 11 = .ok (.getfield 15, 3) := by decide +kernel
theorem dX3_clashes_14 : decode cX3_clashes 14 = .ok (.iconst 1, 1) := by decide +kernel
theorem dX3_clashes_15 : decode cX3_clashes 15 = .ok (.invokevirtual 61, 3) := by decide +kernel
theorem dX3_clashes_18 : decode cX3_clashes 18 = .ok (.if_icmp .le 7, 3) := by decide +kernel
theorem dX3_clashes_21 : decode cX3_clashes 21 = .ok (.iload_n 3, 1) := by decide +kernel
theorem dX3_clashes_22 : decode cX3_clashes 22 = .ok (.iconst 1, 1) := by decide +kernel
theorem dX3_clashes_23 : decode cX3_clashes 23 = .ok (.ior, 1) := by decide +kernel
theorem dX3_clashes_24 : decode cX3_clashes 24 = .ok (.istore_n 3, 1) := by decide +kernel
theorem dX3_clashes_25 : decode cX3_clashes 25 = .ok (.aload_n 0, 1) := by decide +kernel
theorem dX3_clashes_26 : decode cX3_clashes 26 = .ok (.iload_n 1, 1) := by decide +kernel
theorem dX3_clashes_27 : decode cX3_clashes 27 = .ok (.invokevirtual 66, 3) := by decide +kernel
theorem dX3_clashes_30 : decode cX3_clashes 30 = .ok (.ifCond .ne 7, 3) := by decide +kernel
theorem dX3_clashes_33 : decode cX3_clashes 33 = .ok (.iload_n 3, 1) := by decide +kernel
theorem dX3_clashes_34 : decode cX3_clashes 34 = .ok (.iconst 2, 1) := by decide +kernel
theorem dX3_clashes_35 : decode cX3_clashes 35 = .ok (.ior, 1) := by decide +kernel
theorem dX3_clashes_36 : decode cX3_clashes 36 = .ok (.istore_n 3, 1) := by decide +kernel
theorem dX3_clashes_37 : decode cX3_clashes 37 = .ok (.aload_n 0, 1) := by decide +kernel
theorem dX3_clashes_38 : decode cX3_clashes 38 = .ok (.getfield 19, 3) := by decide +kernel
theorem dX3_clashes_41 : decode cX3_clashes 41 = .ok (.getfield 57, 3) := by decide +kernel
theorem dX3_clashes_44 : decode cX3_clashes 44 = .ok (.iload_n 2, 1) := by decide +kernel
theorem dX3_clashes_45 : decode cX3_clashes 45 = .ok (.invokevirtual 70, 3) := by decide +kernel
theorem dX3_clashes_48 : decode cX3_clashes 48 = .ok (.aload_n 0, 1) := by decide +kernel
theorem dX3_clashes_49 : decode cX3_clashes 49 = .ok (.iload_n 1, 1) := by decide +kernel
theorem dX3_clashes_50 : decode cX3_clashes 50 = .ok (.invokevirtual 74, 3) := by decide +kernel
theorem dX3_clashes_53 : decode cX3_clashes 53 = .ok (.if_icmp .lt 7, 3) := by decide +kernel
theorem dX3_clashes_56 : decode cX3_clashes 56 = .ok (.iload_n 3, 1) := by decide +kernel
theorem dX3_clashes_57 : decode cX3_clashes 57 = .ok (.iconst 4, 1) := by decide +kernel
theorem dX3_clashes_58 : decode cX3_clashes 58 = .ok (.ior, 1) := by decide +kernel
theorem dX3_clashes_59 : decode cX3_clashes 59 = .ok (.istore_n 3, 1) := by decide +kernel
theorem dX3_clashes_60 : decode cX3_clashes 60 = .ok (.iload_n 2, 1) := by decide +kernel
theorem dX3_clashes_61 : decode cX3_clashes 61 = .ok (.aload_n 0, 1) := by decide +kernel
theorem dX3_clashes_62 : decode cX3_clashes 62 = .ok (.iload_n 1, 1) := by decide +kernel
theorem dX3_clashes_63 : decode cX3_clashes 63 = .ok (.invokevirtual 77, 3) := by decide +kernel
theorem dX3_clashes_66 : decode cX3_clashes 66 = .ok (.if_icmp .le 8, 3) := by decide +kernel
theorem dX3_clashes_69 : decode cX3_clashes 69 = .ok (.iload_n 3, 1) := by decide +kernel
theorem dX3_clashes_70 : decode cX3_clashes 70 = .ok (.bipush 8, 2) := by decide +kernel
theorem dX3_clashes_72 : decode cX3_clashes 72 = .ok (.ior, 1) := by decide +kernel
theorem dX3_clashes_73 : decode cX3_clashes 73 = .ok (.istore_n 3, 1) := by decide +kernel
theorem dX3_clashes_74 : decode cX3_clashes 74 = .ok (.iload_n 3, 1) := by decide +kernel
theorem dX3_clashes_75 : decode cX3_clashes 75 = .ok (.ireturn, 1) := by decide +kernel
def lX3_clashes_0 : List (Nat × (Op ⊕ Nat)) := [(0, .inl (o_pushI (nI 0) 1)), (1, .inl (o_istore 3 2)), (2, .inl (o_iload 2 3)), (3, .inl (o_aload 0 4)), (4, .inl (o_get 3 0 7)), (7, .inl (o_get 1 0 10)), (10, .inl (o_aload 0 11)), (11, .inl (o_get 3 2 14)), (14, .inl (o_pushI (nI 1) 15)), (15, .inl (o_callV fX9_trait 2 9 18)), (18, .inl (o_icmp_le 25 21)), (21, .inl (o_iload 3 22)), (22, .inl (o_pushI (nI 1) 23)), (23, .inl (o_ior 24)), (24, .inl (o_istore 3 25)), (25, .inl (o_aload 0 26)), (26, .inl (o_iload 1 27)), (27, .inl (o_callV fX3_isRested 1 3 30)), (30, .inl (o_if_ne 37 33)), (33, .inl (o_iload 3 34)), (34, .inl (o_pushI (nI 2) 35)), (35, .inl (o_ior 36)), (36, .inl (o_istore 3 37)), (37, .inl (o_aload 0 38)), (38, .inl (o_get 3 0 41)), (41, .inl (o_get 1 0 44)), (44, .inl (o_iload 2 45)), (45, .inl (o_callV fX9_restAfter 1 9 48)), (48, .inl (o_aload 0 49)), (49, .inl (o_iload 1 50)), (50, .inl (o_callV fX3_daysToNext 1 3 53)), (53, .inl (o_icmp_lt 60 56)), (56, .inl (o_iload 3 57)), (57, .inl (o_pushI (nI 4) 58)), (58, .inl (o_ior 59)), (59, .inl (o_istore 3 60)), (60, .inl (o_iload 2 61)), (61, .inl (o_aload 0 62)), (62, .inl (o_iload 1 63)), (63, .inl (o_callV fX3_roomInWeek 1 3 66))]
def lX3_clashes_1 : List (Nat × (Op ⊕ Nat)) := [(66, .inl (o_icmp_le 74 69)), (69, .inl (o_iload 3 70)), (70, .inl (o_pushI (nI 8) 72)), (72, .inl (o_ior 73)), (73, .inl (o_istore 3 74)), (74, .inl (o_iload 3 75)), (75, .inr 0)]
def lX3_clashes : List (Nat × (Op ⊕ Nat)) := lX3_clashes_0 ++ (lX3_clashes_1)
theorem qX3_clashes : yX3_clashes.cls = RX3 ∧ yX3_clashes.cls ≠ "java/lang/invoke/MethodHandle" ∧ yX3_clashes.cls ≠ "java/lang/invoke/VarHandle" ∧ (parseMethodDescriptor yX3_clashes.desc).map (fun d => d.parameters.length) = some 2 := by decide +kernel
set_option maxRecDepth 10000 in
theorem hX3_clashes_0 (l : Launch) {p : Program} {e : Env} {s : State} {m : MethodId} {args : Array Value} {below : List Frame} {meth : Method} {c : Code} {D : va_G} {ad adV : Nat → Nat} {cA : Nat → ClassId} {K : Kt} (C0 : Cx p s m args meth c D ad adV cA cX3_clashes 4 RX3) (hr : meth.sig.returnType = (some .int)) : ∀ q ∈ lX3_clashes_0, Sd p l e (rmd 3) s m args below meth c (MQ below (QQ D ad cA K) args s 0 0 (AA ad)) D ad cA 4 q.1 (opOf K q.2) := List.forall_mem_cons.mpr ⟨s_iconst C0 dX3_clashes_0 rfl, List.forall_mem_cons.mpr ⟨s_istore_n C0 dX3_clashes_1 rfl (by decide), List.forall_mem_cons.mpr ⟨s_iload_n C0 dX3_clashes_2 rfl, List.forall_mem_cons.mpr ⟨s_aload_n C0 dX3_clashes_3 rfl, List.forall_mem_cons.mpr ⟨s_get (ci := 3) (k := 0) C0 dX3_clashes_4 inX3 rfl (by decide) tw1_210, List.forall_mem_cons.mpr ⟨s_get (ci := 1) (k := 0) C0 dX3_clashes_7 inX1 rfl (by decide) tw1_194, List.forall_mem_cons.mpr ⟨s_aload_n C0 dX3_clashes_10 rfl, List.forall_mem_cons.mpr ⟨s_get (ci := 3) (k := 2) C0 dX3_clashes_11 inX3 rfl (by decide) tw1_212, List.forall_mem_cons.mpr ⟨s_iconst C0 dX3_clashes_14 rfl, List.forall_mem_cons.mpr ⟨s_callV (ci := 9) C0 (kX9_trait l) dX3_clashes_15 rfl qX9_trait tw4_54 tw3_73 tw3_74 tw1_4 tw3_75 rfl (by decide) (by decide), List.forall_mem_cons.mpr ⟨s_icmp_le C0 dX3_clashes_18 rfl, List.forall_mem_cons.mpr ⟨s_iload_n C0 dX3_clashes_21 rfl, List.forall_mem_cons.mpr ⟨s_iconst C0 dX3_clashes_22 rfl, List.forall_mem_cons.mpr ⟨s_ior C0 dX3_clashes_23, List.forall_mem_cons.mpr ⟨s_istore_n C0 dX3_clashes_24 rfl (by decide), List.forall_mem_cons.mpr ⟨s_aload_n C0 dX3_clashes_25 rfl, List.forall_mem_cons.mpr ⟨s_iload_n C0 dX3_clashes_26 rfl, List.forall_mem_cons.mpr ⟨s_callV (ci := 3) C0 (kX3_isRested l) dX3_clashes_27 rfl qX3_isRested tw4_55 tw4_57 twp_23 tw1_7 tw4_58 rfl (by decide) (by decide), List.forall_mem_cons.mpr ⟨s_if_ne C0 dX3_clashes_30 rfl, List.forall_mem_cons.mpr ⟨s_iload_n C0 dX3_clashes_33 rfl, List.forall_mem_cons.mpr ⟨s_iconst C0 dX3_clashes_34 rfl, List.forall_mem_cons.mpr ⟨s_ior C0 dX3_clashes_35, List.forall_mem_cons.mpr ⟨s_istore_n C0 dX3_clashes_36 rfl (by decide), List.forall_mem_cons.mpr ⟨s_aload_n C0 dX3_clashes_37 rfl, List.forall_mem_cons.mpr ⟨s_get (ci := 3) (k := 0) C0 dX3_clashes_38 inX3 rfl (by decide) tw1_210, List.forall_mem_cons.mpr ⟨s_get (ci := 1) (k := 0) C0 dX3_clashes_41 inX1 rfl (by decide) tw1_194, List.forall_mem_cons.mpr ⟨s_iload_n C0 dX3_clashes_44 rfl, List.forall_mem_cons.mpr ⟨s_callV (ci := 9) C0 (kX9_restAfter l) dX3_clashes_45 rfl qX9_restAfter tw4_63 tw4_5 tw4_6 tw1_4 tw4_7 rfl (by decide) (by decide), List.forall_mem_cons.mpr ⟨s_aload_n C0 dX3_clashes_48 rfl, List.forall_mem_cons.mpr ⟨s_iload_n C0 dX3_clashes_49 rfl, List.forall_mem_cons.mpr ⟨s_callV (ci := 3) C0 (kX3_daysToNext l) dX3_clashes_50 rfl qX3_daysToNext tw4_64 tw4_66 twp_24 tw1_7 tw4_67 rfl (by decide) (by decide), List.forall_mem_cons.mpr ⟨s_icmp_lt C0 dX3_clashes_53 rfl, List.forall_mem_cons.mpr ⟨s_iload_n C0 dX3_clashes_56 rfl, List.forall_mem_cons.mpr ⟨s_iconst C0 dX3_clashes_57 rfl, List.forall_mem_cons.mpr ⟨s_ior C0 dX3_clashes_58, List.forall_mem_cons.mpr ⟨s_istore_n C0 dX3_clashes_59 rfl (by decide), List.forall_mem_cons.mpr ⟨s_iload_n C0 dX3_clashes_60 rfl, List.forall_mem_cons.mpr ⟨s_aload_n C0 dX3_clashes_61 rfl, List.forall_mem_cons.mpr ⟨s_iload_n C0 dX3_clashes_62 rfl, List.forall_mem_cons.mpr ⟨s_callV (ci := 3) C0 (kX3_roomInWeek l) dX3_clashes_63 rfl qX3_roomInWeek tw4_69 tw4_71 twp_25 tw1_7 tw4_72 rfl (by decide) (by decide), fun _ h => absurd h List.not_mem_nil⟩⟩⟩⟩⟩⟩⟩⟩⟩⟩⟩⟩⟩⟩⟩⟩⟩⟩⟩⟩⟩⟩⟩⟩⟩⟩⟩⟩⟩⟩⟩⟩⟩⟩⟩⟩⟩⟩⟩⟩
set_option maxRecDepth 10000 in
theorem hX3_clashes_1 (l : Launch) {p : Program} {e : Env} {s : State} {m : MethodId} {args : Array Value} {below : List Frame} {meth : Method} {c : Code} {D : va_G} {ad adV : Nat → Nat} {cA : Nat → ClassId} {K : Kt} (C0 : Cx p s m args meth c D ad adV cA cX3_clashes 4 RX3) (hr : meth.sig.returnType = (some .int)) : ∀ q ∈ lX3_clashes_1, Sd p l e (rmd 3) s m args below meth c (MQ below (QQ D ad cA K) args s 0 0 (AA ad)) D ad cA 4 q.1 (opOf K q.2) := List.forall_mem_cons.mpr ⟨s_icmp_le C0 dX3_clashes_66 rfl, List.forall_mem_cons.mpr ⟨s_iload_n C0 dX3_clashes_69 rfl, List.forall_mem_cons.mpr ⟨s_bipush C0 dX3_clashes_70 (by decide +kernel), List.forall_mem_cons.mpr ⟨s_ior C0 dX3_clashes_72, List.forall_mem_cons.mpr ⟨s_istore_n C0 dX3_clashes_73 rfl (by decide), List.forall_mem_cons.mpr ⟨s_iload_n C0 dX3_clashes_74 rfl, List.forall_mem_cons.mpr ⟨s_iret C0 hr dX3_clashes_75, fun _ h => absurd h List.not_mem_nil⟩⟩⟩⟩⟩⟩⟩
def fX3_clashes : Mf := mf 4 (fun K => tl K lX3_clashes)
theorem kX3_clashes (l : Launch) : Okm l yX3_clashes cX3_clashes 4 (some .int) 3 fX3_clashes := Okm_tl (own := RX3) (by decide +kernel) rfl (fun C0 hr => List.forall_mem_append.mpr ⟨hX3_clashes_0 l C0 hr, hX3_clashes_1 l C0 hr⟩)
theorem dX0_fitsTogether_0 : decode cX0_fitsTogether 0 = .ok (.iconst 0, 1) := by decide +kernel
theorem dX0_fitsTogether_1 : decode cX0_fitsTogether 1 = .ok (.istore_n 3, 1) := by decide +kernel
theorem dX0_fitsTogether_2 : decode cX0_fitsTogether 2 = .ok (.iconst 0, 1) := by decide +kernel
theorem dX0_fitsTogether_3 : decode cX0_fitsTogether 3 = .ok (.istore 4, 2) := by decide +kernel
theorem dX0_fitsTogether_5 : decode cX0_fitsTogether 5 = .ok (.iload 4, 2) := by decide +kernel
theorem dX0_fitsTogether_7 : decode cX0_fitsTogether 7 = .ok (.aload_n 0, 1) := by decide +kernel
theorem dX0_fitsTogether_8 : decode cX0_fitsTogether 8 = .ok (.getfield 15, 3) := by decide +kernel
theorem dX0_fitsTogether_11 : decode cX0_fitsTogether 11 = .ok (.if_icmp .ge 76, 3) := by decide +kernel
theorem dX0_fitsTogether_14 : decode cX0_fitsTogether 14 = .ok (.iload_n 2, 1) := by decide +kernel
theorem dX0_fitsTogether_15 : decode cX0_fitsTogether 15 = .ok (.iload 4, 2) := by decide +kernel
theorem dX0_fitsTogether_17 : decode cX0_fitsTogether 17 = .ok (.iushr, 1) := by decide +kernel
theorem dX0_fitsTogether_18 : decode cX0_fitsTogether 18 = .ok (.iconst 1, 1) := by decide +kernel
theorem dX0_fitsTogether_19 : decode cX0_fitsTogether 19 = .ok (.iand, 1) := by decide +kernel
theorem dX0_fitsTogether_20 : decode cX0_fitsTogether 20 = .ok (.iconst 1, 1) := by decide +kernel
theorem dX0_fitsTogether_21 : decode cX0_fitsTogether 21 = .ok (.if_icmp .ne 7, 3) := by decide +kernel
theorem dX0_fitsTogether_24 : decode cX0_fitsTogether 24 = .ok (.iconst 1, 1) := by decide +kernel
theorem dX0_fitsTogether_25 : decode cX0_fitsTogether 25 = .ok (.goto 4, 3) := by decide +kernel
theorem dX0_fitsTogether_28 : decode cX0_fitsTogether 28 = .ok (.iconst 0, 1) := by decide +kernel
theorem dX0_fitsTogether_29 : decode cX0_fitsTogether 29 = .ok (.istore 5, 2) := by decide +kernel
theorem dX0_fitsTogether_31 : decode cX0_fitsTogether 31 = .ok (.aload_n 0, 1) := by decide +kernel
theorem dX0_fitsTogether_32 : decode cX0_fitsTogether 32 = .ok (.getfield 44, 3) := by decide +kernel
theorem dX0_fitsTogether_35 : decode cX0_fitsTogether 35 = .ok (.aload_n 0, 1) := by decide +kernel
theorem dX0_fitsTogether_36 : decode cX0_fitsTogether 36 = .ok (.getfield 9, 3) := by decide +kernel
theorem dX0_fitsTogether_39 : decode cX0_fitsTogether 39 = .ok (.iload 4, 2) := by decide +kernel
theorem dX0_fitsTogether_41 : decode cX0_fitsTogether 41 = .ok (.iadd, 1) := by decide +kernel
theorem dX0_fitsTogether_42 : decode cX0_fitsTogether 42 = .ok (.iload 5, 2) := by decide +kernel
theorem dX0_fitsTogether_44 : decode cX0_fitsTogether 44 = .ok (.ifCond .eq 21, 3) := by decide +kernel
theorem dX0_fitsTogether_47 : decode cX0_fitsTogether 47 = .ok (.aload_n 0, 1) := by decide +kernel
theorem dX0_fitsTogether_48 : decode cX0_fitsTogether 48 = .ok (.getfield 40, 3) := by decide +kernel
theorem dX0_fitsTogether_51 : decode cX0_fitsTogether 51 = .ok (.iload_n 1, 1) := by decide +kernel
theorem dX0_fitsTogether_52 : decode cX0_fitsTogether 52 = .ok (.aload_n 0, 1) := by decide +kernel
theorem dX0_fitsTogether_53 : decode cX0_fitsTogether 53 = .ok (.getfield 9, 3) := by decide +kernel
theorem dX0_fitsTogether_56 : decode cX0_fitsTogether 56 = .ok (.iload 4, 2) := by decide +kernel
theorem dX0_fitsTogether_58 : decode cX0_fitsTogether 58 = .ok (.iadd, 1) := by decide +kernel
theorem dX0_fitsTogether_59 : decode cX0_fitsTogether 59 = .ok (.invokevirtual 74, 3) := by decide +kernel
theorem dX0_fitsTogether_62 : decode cX0_fitsTogether 62 = .ok (.goto 4, 3) := by decide +kernel
theorem dX0_fitsTogether_65 : decode cX0_fitsTogether 65 = .ok (.iconst 0, 1) := by decide +kernel
theorem dX0_fitsTogether_66 : decode cX0_fitsTogether 66 = .ok (.invokevirtual 90, 3) := by decide +kernel
theorem dX0_fitsTogether_69 : decode cX0_fitsTogether 69 = .ok (.iload 5, 2) := by decide +kernel
theorem dX0_fitsTogether_71 : decode cX0_fitsTogether 71 = .ok (.ifCond .eq 8, 3) := by decide +kernel
theorem dX0_fitsTogether_74 : decode cX0_fitsTogether 74 = .ok (.iload 4, 2) := by decide +kernel
theorem dX0_fitsTogether_76 : decode cX0_fitsTogether 76 = .ok (.goto 4, 3) := by decide +kernel
theorem dX0_fitsTogether_79 : decode cX0_fitsTogether 79 = .ok (.iload_n 3, 1) := by decide +kernel
theorem dX0_fitsTogether_80 : decode cX0_fitsTogether 80 = .ok (.istore_n 3, 1) := by decide +kernel
theorem dX0_fitsTogether_81 : decode cX0_fitsTogether 81 = .ok (.iinc 4 1, 3) := by decide +kernel
theorem dX0_fitsTogether_84 : decode cX0_fitsTogether 84 = .ok (.goto (-79), 3) := by decide +kernel
theorem dX0_fitsTogether_87 : decode cX0_fitsTogether 87 = .ok (.aload_n 0, 1) := by decide +kernel
theorem dX0_fitsTogether_88 : decode cX0_fitsTogether 88 = .ok (.iload_n 1, 1) := by decide +kernel
theorem dX0_fitsTogether_89 : decode cX0_fitsTogether 89 = .ok (.iload_n 2, 1) := by decide +kernel
theorem dX0_fitsTogether_90 : decode cX0_fitsTogether 90 = .ok (.iconst 1, 1) := by decide +kernel
theorem dX0_fitsTogether_91 : decode cX0_fitsTogether 91 = .ok (.iload_n 3, 1) := by decide +kernel
theorem dX0_fitsTogether_92 : decode cX0_fitsTogether 92 = .ok (.ishl, 1) := by decide +kernel
theorem dX0_fitsTogether_93 : decode cX0_fitsTogether 93 = .ok (.ixor, 1) := by decide +kernel
theorem dX0_fitsTogether_94 : decode cX0_fitsTogether 94 = .ok (.invokevirtual 93, 3) := by decide +kernel
theorem dX0_fitsTogether_97 : decode cX0_fitsTogether 97 = .ok (.ifCond .eq 37, 3) := by decide +kernel
theorem dX0_fitsTogether_100 : decode cX0_fitsTogether 100 = .ok (.aload_n 0, 1) := by decide +kernel
theorem dX0_fitsTogether_101 : decode cX0_fitsTogether 101 = .ok (.getfield 44, 3) := by decide +kernel
theorem dX0_fitsTogether_104 : decode cX0_fitsTogether 104 = .ok (.aload_n 0, 1) := by decide +kernel
theorem dX0_fitsTogether_105 : decode cX0_fitsTogether 105 = .ok (.getfield 9, 3) := by decide +kernel
theorem dX0_fitsTogether_108 : decode cX0_fitsTogether 108 = .ok (.iload_n 3, 1) := by decide +kernel
theorem dX0_fitsTogether_109 : decode cX0_fitsTogether 109 = .ok (.iadd, 1) := by decide +kernel
theorem dX0_fitsTogether_110 : decode cX0_fitsTogether 110 = .ok (.aload_n 0, 1) := by decide +kernel
theorem dX0_fitsTogether_111 : decode cX0_fitsTogether 111 = .ok (.getfield 40, 3) := by decide +kernel
theorem dX0_fitsTogether_114 : decode cX0_fitsTogether 114 = .ok (.iload_n 1, 1) := by decide +kernel
theorem dX0_fitsTogether_115 : decode cX0_fitsTogether 115 = .ok (.aload_n 0, 1) := by decide +kernel
theorem dX0_fitsTogether_116 : decode cX0_fitsTogether 116 = .ok (.getfield 9, 3) := by decide +kernel
theorem dX0_fitsTogether_119 : decode cX0_fitsTogether 119 = .ok (.iload_n 3, 1) := by decide +kernel
theorem dX0_fitsTogether_120 : decode cX0_fitsTogether 120 = .ok (.iadd, 1) := by decide +kernel
theorem dX0_fitsTogether_121 : decode cX0_fitsTogether 121 = .ok (.invokevirtual 74, 3) := by decide +kernel
theorem dX0_fitsTogether_124 : decode cX0_fitsTogether 124 = .ok (.invokevirtual 96, 3) := by decide +kernel
theorem dX0_fitsTogether_127 : decode cX0_fitsTogether 127 = .ok (.ifCond .ne 7, 3) := by decide +kernel
theorem dX0_fitsTogether_130 : decode cX0_fitsTogether 130 = .ok (.iconst 1, 1) := by decide +kernel
theorem dX0_fitsTogether_131 : decode cX0_fitsTogether 131 = .ok (.goto 4, 3) := by decide +kernel
theorem dX0_fitsTogether_134 : decode cX0_fitsTogether 134 = .ok (.iconst 0, 1) := by decide +kernel
theorem dX0_fitsTogether_135 : decode cX0_fitsTogether 135 = .ok (.ireturn, 1) := by decide +kernel
def lX0_fitsTogether_0 : List (Nat × (Op ⊕ Nat)) := [(0, .inl (o_pushI (nI 0) 1)), (1, .inl (o_istore 3 2)), (2, .inl (o_pushI (nI 0) 3)), (3, .inl (o_istore 4 5)), (5, .inl (o_iload 4 7)), (7, .inl (o_aload 0 8)), (8, .inl (o_get 0 3 11)), (11, .inl (o_icmp_ge 87 14)), (14, .inl (o_iload 2 15)), (15, .inl (o_iload 4 17)), (17, .inl (o_iushr 18)), (18, .inl (o_pushI (nI 1) 19)), (19, .inl (o_iand 20)), (20, .inl (o_pushI (nI 1) 21)), (21, .inl (o_icmp_ne 28 24)), (24, .inl (o_pushI (nI 1) 25)), (25, .inl (o_goto 29)), (28, .inl (o_pushI (nI 0) 29)), (29, .inl (o_istore 5 31)), (31, .inl (o_aload 0 32)), (32, .inl (o_get 0 1 35)), (35, .inl (o_aload 0 36)), (36, .inl (o_get 0 2 39)), (39, .inl (o_iload 4 41)), (41, .inl (o_iadd 42)), (42, .inl (o_iload 5 44)), (44, .inl (o_if_eq 65 47)), (47, .inl (o_aload 0 48)), (48, .inl (o_get 0 0 51)), (51, .inl (o_iload 1 52)), (52, .inl (o_aload 0 53)), (53, .inl (o_get 0 2 56)), (56, .inl (o_iload 4 58)), (58, .inl (o_iadd 59)), (59, .inl (o_callV fX1_fullThrows 2 1 62)), (62, .inl (o_goto 66)), (65, .inl (o_pushI (nI 0) 66)), (66, .inl (o_callV fX3_write 2 3 69)), (69, .inl (o_iload 5 71)), (71, .inl (o_if_eq 79 74))]
def lX0_fitsTogether_1 : List (Nat × (Op ⊕ Nat)) := [(74, .inl (o_iload 4 76)), (76, .inl (o_goto 80)), (79, .inl (o_iload 3 80)), (80, .inl (o_istore 3 81)), (81, .inl (o_iinc 4 (nI 1) 84)), (84, .inl (o_goto 5)), (87, .inl (o_aload 0 88)), (88, .inl (o_iload 1 89)), (89, .inl (o_iload 2 90)), (90, .inl (o_pushI (nI 1) 91)), (91, .inl (o_iload 3 92)), (92, .inl (o_ishl 93)), (93, .inl (o_ixor 94)), (94, .inl (o_callV fX0_mayHave 2 0 97)), (97, .inl (o_if_eq 134 100)), (100, .inl (o_aload 0 101)), (101, .inl (o_get 0 1 104)), (104, .inl (o_aload 0 105)), (105, .inl (o_get 0 2 108)), (108, .inl (o_iload 3 109)), (109, .inl (o_iadd 110)), (110, .inl (o_aload 0 111)), (111, .inl (o_get 0 0 114)), (114, .inl (o_iload 1 115)), (115, .inl (o_aload 0 116)), (116, .inl (o_get 0 2 119)), (119, .inl (o_iload 3 120)), (120, .inl (o_iadd 121)), (121, .inl (o_callV fX1_fullThrows 2 1 124)), (124, .inl (o_callV fX3_clashes 2 3 127)), (127, .inl (o_if_ne 134 130)), (130, .inl (o_pushI (nI 1) 131)), (131, .inl (o_goto 135)), (134, .inl (o_pushI (nI 0) 135)), (135, .inr 1)]
def lX0_fitsTogether : List (Nat × (Op ⊕ Nat)) := lX0_fitsTogether_0 ++ (lX0_fitsTogether_1)
theorem qX0_fitsTogether : yX0_fitsTogether.cls = RX0 ∧ yX0_fitsTogether.cls ≠ "java/lang/invoke/MethodHandle" ∧ yX0_fitsTogether.cls ≠ "java/lang/invoke/VarHandle" ∧ (parseMethodDescriptor yX0_fitsTogether.desc).map (fun d => d.parameters.length) = some 2 := by decide +kernel
set_option maxRecDepth 10000 in
theorem hX0_fitsTogether_0 (l : Launch) {p : Program} {e : Env} {s : State} {m : MethodId} {args : Array Value} {below : List Frame} {meth : Method} {c : Code} {D : va_G} {ad adV : Nat → Nat} {cA : Nat → ClassId} {K : Kt} (C0 : Cx p s m args meth c D ad adV cA cX0_fitsTogether 6 RX0) (hr : meth.sig.returnType = (some .boolean)) : ∀ q ∈ lX0_fitsTogether_0, Sd p l e (rmd 4) s m args below meth c (MQ below (QQ D ad cA K) args s 0 0 (AA ad)) D ad cA 6 q.1 (opOf K q.2) := List.forall_mem_cons.mpr ⟨s_iconst C0 dX0_fitsTogether_0 rfl, List.forall_mem_cons.mpr ⟨s_istore_n C0 dX0_fitsTogether_1 rfl (by decide), List.forall_mem_cons.mpr ⟨s_iconst C0 dX0_fitsTogether_2 rfl, List.forall_mem_cons.mpr ⟨s_istore C0 dX0_fitsTogether_3 (by decide), List.forall_mem_cons.mpr ⟨s_iload C0 dX0_fitsTogether_5, List.forall_mem_cons.mpr ⟨s_aload_n C0 dX0_fitsTogether_7 rfl, List.forall_mem_cons.mpr ⟨s_get (ci := 0) (k := 3) C0 dX0_fitsTogether_8 inX0 rfl (by decide) tw1_229, List.forall_mem_cons.mpr ⟨s_icmp_ge C0 dX0_fitsTogether_11 rfl, List.forall_mem_cons.mpr ⟨s_iload_n C0 dX0_fitsTogether_14 rfl, List.forall_mem_cons.mpr ⟨s_iload C0 dX0_fitsTogether_15, List.forall_mem_cons.mpr ⟨s_iushr C0 dX0_fitsTogether_17, List.forall_mem_cons.mpr ⟨s_iconst C0 dX0_fitsTogether_18 rfl, List.forall_mem_cons.mpr ⟨s_iand C0 dX0_fitsTogether_19, List.forall_mem_cons.mpr ⟨s_iconst C0 dX0_fitsTogether_20 rfl, List.forall_mem_cons.mpr ⟨s_icmp_ne C0 dX0_fitsTogether_21 rfl, List.forall_mem_cons.mpr ⟨s_iconst C0 dX0_fitsTogether_24 rfl, List.forall_mem_cons.mpr ⟨s_goto C0 dX0_fitsTogether_25 rfl, List.forall_mem_cons.mpr ⟨s_iconst C0 dX0_fitsTogether_28 rfl, List.forall_mem_cons.mpr ⟨s_istore C0 dX0_fitsTogether_29 (by decide), List.forall_mem_cons.mpr ⟨s_aload_n C0 dX0_fitsTogether_31 rfl, List.forall_mem_cons.mpr ⟨s_get (ci := 0) (k := 1) C0 dX0_fitsTogether_32 inX0 rfl (by decide) tw1_227, List.forall_mem_cons.mpr ⟨s_aload_n C0 dX0_fitsTogether_35 rfl, List.forall_mem_cons.mpr ⟨s_get (ci := 0) (k := 2) C0 dX0_fitsTogether_36 inX0 rfl (by decide) tw1_228, List.forall_mem_cons.mpr ⟨s_iload C0 dX0_fitsTogether_39, List.forall_mem_cons.mpr ⟨s_iadd C0 dX0_fitsTogether_41, List.forall_mem_cons.mpr ⟨s_iload C0 dX0_fitsTogether_42, List.forall_mem_cons.mpr ⟨s_if_eq C0 dX0_fitsTogether_44 rfl, List.forall_mem_cons.mpr ⟨s_aload_n C0 dX0_fitsTogether_47 rfl, List.forall_mem_cons.mpr ⟨s_get (ci := 0) (k := 0) C0 dX0_fitsTogether_48 inX0 rfl (by decide) tw1_226, List.forall_mem_cons.mpr ⟨s_iload_n C0 dX0_fitsTogether_51 rfl, List.forall_mem_cons.mpr ⟨s_aload_n C0 dX0_fitsTogether_52 rfl, List.forall_mem_cons.mpr ⟨s_get (ci := 0) (k := 2) C0 dX0_fitsTogether_53 inX0 rfl (by decide) tw1_228, List.forall_mem_cons.mpr ⟨s_iload C0 dX0_fitsTogether_56, List.forall_mem_cons.mpr ⟨s_iadd C0 dX0_fitsTogether_58, List.forall_mem_cons.mpr ⟨s_callV (ci := 1) C0 (kX1_fullThrows l) dX0_fitsTogether_59 rfl qX1_fullThrows tw4_146 tw4_116 tw4_117 tw1_6 tw4_118 rfl (by decide) (by decide), List.forall_mem_cons.mpr ⟨s_goto C0 dX0_fitsTogether_62 rfl, List.forall_mem_cons.mpr ⟨s_iconst C0 dX0_fitsTogether_65 rfl, List.forall_mem_cons.mpr ⟨s_callV (ci := 3) C0 (kX3_write l) dX0_fitsTogether_66 rfl qX3_write tw4_153 tw4_154 tw4_155 tw1_7 tw4_156 rfl (by decide) (by decide), List.forall_mem_cons.mpr ⟨s_iload C0 dX0_fitsTogether_69, List.forall_mem_cons.mpr ⟨s_if_eq C0 dX0_fitsTogether_71 rfl, fun _ h => absurd h List.not_mem_nil⟩⟩⟩⟩⟩⟩⟩⟩⟩⟩⟩⟩⟩⟩⟩⟩⟩⟩⟩⟩⟩⟩⟩⟩⟩⟩⟩⟩⟩⟩⟩⟩⟩⟩⟩⟩⟩⟩⟩⟩
set_option maxRecDepth 10000 in
theorem hX0_fitsTogether_1 (l : Launch) {p : Program} {e : Env} {s : State} {m : MethodId} {args : Array Value} {below : List Frame} {meth : Method} {c : Code} {D : va_G} {ad adV : Nat → Nat} {cA : Nat → ClassId} {K : Kt} (C0 : Cx p s m args meth c D ad adV cA cX0_fitsTogether 6 RX0) (hr : meth.sig.returnType = (some .boolean)) : ∀ q ∈ lX0_fitsTogether_1, Sd p l e (rmd 4) s m args below meth c (MQ below (QQ D ad cA K) args s 0 0 (AA ad)) D ad cA 6 q.1 (opOf K q.2) := List.forall_mem_cons.mpr ⟨s_iload C0 dX0_fitsTogether_74, List.forall_mem_cons.mpr ⟨s_goto C0 dX0_fitsTogether_76 rfl, List.forall_mem_cons.mpr ⟨s_iload_n C0 dX0_fitsTogether_79 rfl, List.forall_mem_cons.mpr ⟨s_istore_n C0 dX0_fitsTogether_80 rfl (by decide), List.forall_mem_cons.mpr ⟨s_iinc C0 dX0_fitsTogether_81 rfl (by decide), List.forall_mem_cons.mpr ⟨s_goto C0 dX0_fitsTogether_84 rfl, List.forall_mem_cons.mpr ⟨s_aload_n C0 dX0_fitsTogether_87 rfl, List.forall_mem_cons.mpr ⟨s_iload_n C0 dX0_fitsTogether_88 rfl, List.forall_mem_cons.mpr ⟨s_iload_n C0 dX0_fitsTogether_89 rfl, List.forall_mem_cons.mpr ⟨s_iconst C0 dX0_fitsTogether_90 rfl, List.forall_mem_cons.mpr ⟨s_iload_n C0 dX0_fitsTogether_91 rfl, List.forall_mem_cons.mpr ⟨s_ishl C0 dX0_fitsTogether_92, List.forall_mem_cons.mpr ⟨s_ixor C0 dX0_fitsTogether_93, List.forall_mem_cons.mpr ⟨s_callV (ci := 0) C0 (kX0_mayHave l) dX0_fitsTogether_94 rfl qX0_mayHave tw4_157 tw4_159 twp_31 tw1_8 tw4_160 rfl (by decide) (by decide), List.forall_mem_cons.mpr ⟨s_if_eq C0 dX0_fitsTogether_97 rfl, List.forall_mem_cons.mpr ⟨s_aload_n C0 dX0_fitsTogether_100 rfl, List.forall_mem_cons.mpr ⟨s_get (ci := 0) (k := 1) C0 dX0_fitsTogether_101 inX0 rfl (by decide) tw1_227, List.forall_mem_cons.mpr ⟨s_aload_n C0 dX0_fitsTogether_104 rfl, List.forall_mem_cons.mpr ⟨s_get (ci := 0) (k := 2) C0 dX0_fitsTogether_105 inX0 rfl (by decide) tw1_228, List.forall_mem_cons.mpr ⟨s_iload_n C0 dX0_fitsTogether_108 rfl, List.forall_mem_cons.mpr ⟨s_iadd C0 dX0_fitsTogether_109, List.forall_mem_cons.mpr ⟨s_aload_n C0 dX0_fitsTogether_110 rfl, List.forall_mem_cons.mpr ⟨s_get (ci := 0) (k := 0) C0 dX0_fitsTogether_111 inX0 rfl (by decide) tw1_226, List.forall_mem_cons.mpr ⟨s_iload_n C0 dX0_fitsTogether_114 rfl, List.forall_mem_cons.mpr ⟨s_aload_n C0 dX0_fitsTogether_115 rfl, List.forall_mem_cons.mpr ⟨s_get (ci := 0) (k := 2) C0 dX0_fitsTogether_116 inX0 rfl (by decide) tw1_228, List.forall_mem_cons.mpr ⟨s_iload_n C0 dX0_fitsTogether_119 rfl, List.forall_mem_cons.mpr ⟨s_iadd C0 dX0_fitsTogether_120, List.forall_mem_cons.mpr ⟨s_callV (ci := 1) C0 (kX1_fullThrows l) dX0_fitsTogether_121 rfl qX1_fullThrows tw4_146 tw4_116 tw4_117 tw1_6 tw4_118 rfl (by decide) (by decide), List.forall_mem_cons.mpr ⟨s_callV (ci := 3) C0 (kX3_clashes l) dX0_fitsTogether_124 rfl qX3_clashes tw4_161 tw4_51 tw4_52 tw1_7 tw4_53 rfl (by decide) (by decide), List.forall_mem_cons.mpr ⟨s_if_ne C0 dX0_fitsTogether_127 rfl, List.forall_mem_cons.mpr ⟨s_iconst C0 dX0_fitsTogether_130 rfl, List.forall_mem_cons.mpr ⟨s_goto C0 dX0_fitsTogether_131 rfl, List.forall_mem_cons.mpr ⟨s_iconst C0 dX0_fitsTogether_134 rfl, List.forall_mem_cons.mpr ⟨s_zret C0 hr dX0_fitsTogether_135, fun _ h => absurd h List.not_mem_nil⟩⟩⟩⟩⟩⟩⟩⟩⟩⟩⟩⟩⟩⟩⟩⟩⟩⟩⟩⟩⟩⟩⟩⟩⟩⟩⟩⟩⟩⟩⟩⟩⟩⟩⟩
def fX0_fitsTogether : Mf := mf 6 (fun K => tl K lX0_fitsTogether)
theorem kX0_fitsTogether (l : Launch) : Okm l yX0_fitsTogether cX0_fitsTogether 6 (some .boolean) 4 fX0_fitsTogether := Okm_tl (own := RX0) (by decide +kernel) rfl (fun C0 hr => List.forall_mem_append.mpr ⟨hX0_fitsTogether_0 l C0 hr, hX0_fitsTogether_1 l C0 hr⟩)
theorem dX0_prepare_0 : decode cX0_prepare 0 = .ok (.aload_n 0, 1) := by decide +kernel
theorem dX0_prepare_1 : decode cX0_prepare 1 = .ok (.getfield 22, 3) := by decide +kernel
theorem dX0_prepare_4 : decode cX0_prepare 4 = .ok (.iload_n 1, 1) := by decide +kernel
theorem dX0_prepare_5 : decode cX0_prepare 5 = .ok (.iconst 0, 1) := by decide +kernel
theorem dX0_prepare_6 : decode cX0_prepare 6 = .ok (.iastore, 1) := by decide +kernel
theorem dX0_prepare_7 : decode cX0_prepare 7 = .ok (.iconst 0, 1) := by decide +kernel
theorem dX0_prepare_8 : decode cX0_prepare 8 = .ok (.istore_n 2, 1) := by decide +kernel
theorem dX0_prepare_9 : decode cX0_prepare 9 = .ok (.iload_n 2, 1) := by decide +kernel
theorem dX0_prepare_10 : decode cX0_prepare 10 = .ok (.aload_n 0, 1) := by decide +kernel
theorem dX0_prepare_11 : decode cX0_prepare 11 = .ok (.getfield 15, 3) := by decide +kernel
theorem dX0_prepare_14 : decode cX0_prepare 14 = .ok (.if_icmp .ge 47, 3) := by decide +kernel
theorem dX0_prepare_17 : decode cX0_prepare 17 = .ok (.aload_n 0, 1) := by decide +kernel
theorem dX0_prepare_18 : decode cX0_prepare 18 = .ok (.getfield 25, 3) := by decide +kernel
theorem dX0_prepare_21 : decode cX0_prepare 21 = .ok (.iload_n 1, 1) := by decide +kernel
theorem dX0_prepare_22 : decode cX0_prepare 22 = .ok (.iconst 5, 1) := by decide +kernel
theorem dX0_prepare_23 : decode cX0_prepare 23 = .ok (.imul, 1) := by decide +kernel
theorem dX0_prepare_24 : decode cX0_prepare 24 = .ok (.iload_n 2, 1) := by decide +kernel
theorem dX0_prepare_25 : decode cX0_prepare 25 = .ok (.iadd, 1) := by decide +kernel
theorem dX0_prepare_26 : decode cX0_prepare 26 = .ok (.aload_n 0, 1) := by decide +kernel
theorem dX0_prepare_27 : decode cX0_prepare 27 = .ok (.getfield 40, 3) := by decide +kernel
theorem dX0_prepare_30 : decode cX0_prepare 30 = .ok (.iload_n 1, 1) := by decide +kernel
theorem dX0_prepare_31 : decode cX0_prepare 31 = .ok (.aload_n 0, 1) := by decide +kernel
theorem dX0_prepare_32 : decode cX0_prepare 32 = .ok (.getfield 9, 3) := by decide +kernel
theorem dX0_prepare_35 : decode cX0_prepare 35 = .ok (.iload_n 2, 1) := by decide +kernel
theorem dX0_prepare_36 : decode cX0_prepare 36 = .ok (.iadd, 1) := by decide +kernel
theorem dX0_prepare_37 : decode cX0_prepare 37 = .ok (.aload_n 0, 1) := by decide +kernel
theorem dX0_prepare_38 : decode cX0_prepare 38 = .ok (.getfield 40, 3) := by decide +kernel
theorem dX0_prepare_41 : decode cX0_prepare 41 = .ok (.iload_n 1, 1) := by decide +kernel
theorem dX0_prepare_42 : decode cX0_prepare 42 = .ok (.aload_n 0, 1) := by decide +kernel
theorem dX0_prepare_43 : decode cX0_prepare 43 = .ok (.getfield 9, 3) := by decide +kernel
theorem dX0_prepare_46 : decode cX0_prepare 46 = .ok (.iload_n 2, 1) := by decide +kernel
theorem dX0_prepare_47 : decode cX0_prepare 47 = .ok (.iadd, 1) := by decide +kernel
theorem dX0_prepare_48 : decode cX0_prepare 48 = .ok (.invokevirtual 74, 3) := by decide +kernel
theorem dX0_prepare_51 : decode cX0_prepare 51 = .ok (.invokevirtual 77, 3) := by decide +kernel
theorem dX0_prepare_54 : decode cX0_prepare 54 = .ok (.iastore, 1) := by decide +kernel
theorem dX0_prepare_55 : decode cX0_prepare 55 = .ok (.iinc 2 1, 3) := by decide +kernel
theorem dX0_prepare_58 : decode cX0_prepare 58 = .ok (.goto (-49), 3) := by decide +kernel
theorem dX0_prepare_61 : decode cX0_prepare 61 = .ok (.aload_n 0, 1) := by decide +kernel
theorem dX0_prepare_62 : decode cX0_prepare 62 = .ok (.getfield 18, 3) := by decide +kernel
theorem dX0_prepare_65 : decode cX0_prepare 65 = .ok (.iload_n 1, 1) := by decide +kernel
theorem dX0_prepare_66 : decode cX0_prepare 66 = .ok (.iconst 1, 1) := by decide +kernel
theorem dX0_prepare_67 : decode cX0_prepare 67 = .ok (.iastore, 1) := by decide +kernel
theorem dX0_prepare_68 : decode cX0_prepare 68 = .ok (.aload_n 0, 1) := by decide +kernel
theorem dX0_prepare_69 : decode cX0_prepare 69 = .ok (.getfield 44, 3) := by decide +kernel
theorem dX0_prepare_72 : decode cX0_prepare 72 = .ok (.iload_n 1, 1) := by decide +kernel
theorem dX0_prepare_73 : decode cX0_prepare 73 = .ok (.invokevirtual 81, 3) := by decide +kernel
theorem dX0_prepare_76 : decode cX0_prepare 76 = .ok (.iconst 1, 1) := by decide +kernel
theorem dX0_prepare_77 : decode cX0_prepare 77 = .ok (.istore_n 2, 1) := by decide +kernel
theorem dX0_prepare_78 : decode cX0_prepare 78 = .ok (.iload_n 2, 1) := by decide +kernel
theorem dX0_prepare_79 : decode cX0_prepare 79 = .ok (.iconst 1, 1) := by decide +kernel
theorem dX0_prepare_80 : decode cX0_prepare 80 = .ok (.aload_n 0, 1) := by decide +kernel
theorem dX0_prepare_81 : decode cX0_prepare 81 = .ok (.getfield 15, 3) := by decide +kernel
theorem dX0_prepare_84 : decode cX0_prepare 84 = .ok (.ishl, 1) := by decide +kernel
theorem dX0_prepare_85 : decode cX0_prepare 85 = .ok (.if_icmp .ge 30, 3) := by decide +kernel
theorem dX0_prepare_88 : decode cX0_prepare 88 = .ok (.aload_n 0, 1) := by decide +kernel
theorem dX0_prepare_89 : decode cX0_prepare 89 = .ok (.iload_n 1, 1) := by decide +kernel
theorem dX0_prepare_90 : decode cX0_prepare 90 = .ok (.iload_n 2, 1) := by decide +kernel
theorem dX0_prepare_91 : decode cX0_prepare 91 = .ok (.invokevirtual 86, 3) := by decide +kernel
theorem dX0_prepare_94 : decode cX0_prepare 94 = .ok (.ifCond .eq 15, 3) := by decide +kernel
theorem dX0_prepare_97 : decode cX0_prepare 97 = .ok (.aload_n 0, 1) := by decide +kernel
theorem dX0_prepare_98 : decode cX0_prepare 98 = .ok (.getfield 18, 3) := by decide +kernel
theorem dX0_prepare_101 : decode cX0_prepare 101 = .ok (.iload_n 1, 1) := by decide +kernel
theorem dX0_prepare_102 : decode cX0_prepare 102 = .ok (.dup2, 1) := by decide +kernel
theorem dX0_prepare_103 : decode cX0_prepare 103 = .ok (.iaload, 1) := by decide +kernel
theorem dX0_prepare_104 : decode cX0_prepare 104 = .ok (.iconst 1, 1) := by decide +kernel
theorem dX0_prepare_105 : decode cX0_prepare 105 = .ok (.iload_n 2, 1) := by decide +kernel
theorem dX0_prepare_106 : decode cX0_prepare 106 = .ok (.ishl, 1) := by decide +kernel
theorem dX0_prepare_107 : decode cX0_prepare 107 = .ok (.ior, 1) := by decide +kernel
theorem dX0_prepare_108 : decode cX0_prepare 108 = .ok (.iastore, 1) := by decide +kernel
theorem dX0_prepare_109 : decode cX0_prepare 109 = .ok (.iinc 2 1, 3) := by decide +kernel
theorem dX0_prepare_112 : decode cX0_prepare 112 = .ok (.goto (-34), 3) := by decide +kernel
theorem dX0_prepare_115 : decode cX0_prepare 115 = .ok (.return_, 1) := by decide +kernel
def lX0_prepare_0 : List (Nat × (Op ⊕ Nat)) := [(0, .inl (o_aload 0 1)), (1, .inl (o_get 0 5 4)), (4, .inl (o_iload 1 5)), (5, .inl (o_pushI (nI 0) 6)), (6, .inl (o_iast 7)), (7, .inl (o_pushI (nI 0) 8)), (8, .inl (o_istore 2 9)), (9, .inl (o_iload 2 10)), (10, .inl (o_aload 0 11)), (11, .inl (o_get 0 3 14)), (14, .inl (o_icmp_ge 61 17)), (17, .inl (o_aload 0 18)), (18, .inl (o_get 0 6 21)), (21, .inl (o_iload 1 22)), (22, .inl (o_pushI (nI 5) 23)), (23, .inl (o_imul 24)), (24, .inl (o_iload 2 25)), (25, .inl (o_iadd 26)), (26, .inl (o_aload 0 27)), (27, .inl (o_get 0 0 30)), (30, .inl (o_iload 1 31)), (31, .inl (o_aload 0 32)), (32, .inl (o_get 0 2 35)), (35, .inl (o_iload 2 36)), (36, .inl (o_iadd 37)), (37, .inl (o_aload 0 38)), (38, .inl (o_get 0 0 41)), (41, .inl (o_iload 1 42)), (42, .inl (o_aload 0 43)), (43, .inl (o_get 0 2 46)), (46, .inl (o_iload 2 47)), (47, .inl (o_iadd 48)), (48, .inl (o_callV fX1_fullThrows 2 1 51)), (51, .inl (o_callV fX1_valueOf 3 1 54)), (54, .inl (o_iast 55)), (55, .inl (o_iinc 2 (nI 1) 58)), (58, .inl (o_goto 9)), (61, .inl (o_aload 0 62)), (62, .inl (o_get 0 4 65)), (65, .inl (o_iload 1 66))]
def lX0_prepare_1 : List (Nat × (Op ⊕ Nat)) := [(66, .inl (o_pushI (nI 1) 67)), (67, .inl (o_iast 68)), (68, .inl (o_aload 0 69)), (69, .inl (o_get 0 1 72)), (72, .inl (o_iload 1 73)), (73, .inl (o_callV fX3_open 1 3 76)), (76, .inl (o_pushI (nI 1) 77)), (77, .inl (o_istore 2 78)), (78, .inl (o_iload 2 79)), (79, .inl (o_pushI (nI 1) 80)), (80, .inl (o_aload 0 81)), (81, .inl (o_get 0 3 84)), (84, .inl (o_ishl 85)), (85, .inl (o_icmp_ge 115 88)), (88, .inl (o_aload 0 89)), (89, .inl (o_iload 1 90)), (90, .inl (o_iload 2 91)), (91, .inl (o_callV fX0_fitsTogether 2 0 94)), (94, .inl (o_if_eq 109 97)), (97, .inl (o_aload 0 98)), (98, .inl (o_get 0 4 101)), (101, .inl (o_iload 1 102)), (102, .inl (o_dup2 103)), (103, .inl (o_iald 104)), (104, .inl (o_pushI (nI 1) 105)), (105, .inl (o_iload 2 106)), (106, .inl (o_ishl 107)), (107, .inl (o_ior 108)), (108, .inl (o_iast 109)), (109, .inl (o_iinc 2 (nI 1) 112)), (112, .inl (o_goto 78)), (115, .inr 3)]
def lX0_prepare : List (Nat × (Op ⊕ Nat)) := lX0_prepare_0 ++ (lX0_prepare_1)
theorem qX0_prepare : yX0_prepare.cls = RX0 ∧ yX0_prepare.cls ≠ "java/lang/invoke/MethodHandle" ∧ yX0_prepare.cls ≠ "java/lang/invoke/VarHandle" ∧ (parseMethodDescriptor yX0_prepare.desc).map (fun d => d.parameters.length) = some 1 := by decide +kernel
set_option maxRecDepth 10000 in
theorem hX0_prepare_0 (l : Launch) {p : Program} {e : Env} {s : State} {m : MethodId} {args : Array Value} {below : List Frame} {meth : Method} {c : Code} {D : va_G} {ad adV : Nat → Nat} {cA : Nat → ClassId} {K : Kt} (C0 : Cx p s m args meth c D ad adV cA cX0_prepare 3 RX0) (hr : meth.sig.returnType = none) : ∀ q ∈ lX0_prepare_0, Sd p l e (rmd 5) s m args below meth c (MQ below (QQ D ad cA K) args s 0 0 (AA ad)) D ad cA 3 q.1 (opOf K q.2) := List.forall_mem_cons.mpr ⟨s_aload_n C0 dX0_prepare_0 rfl, List.forall_mem_cons.mpr ⟨s_get (ci := 0) (k := 5) C0 dX0_prepare_1 inX0 rfl (by decide) tw1_231, List.forall_mem_cons.mpr ⟨s_iload_n C0 dX0_prepare_4 rfl, List.forall_mem_cons.mpr ⟨s_iconst C0 dX0_prepare_5 rfl, List.forall_mem_cons.mpr ⟨s_iast C0 dX0_prepare_6, List.forall_mem_cons.mpr ⟨s_iconst C0 dX0_prepare_7 rfl, List.forall_mem_cons.mpr ⟨s_istore_n C0 dX0_prepare_8 rfl (by decide), List.forall_mem_cons.mpr ⟨s_iload_n C0 dX0_prepare_9 rfl, List.forall_mem_cons.mpr ⟨s_aload_n C0 dX0_prepare_10 rfl, List.forall_mem_cons.mpr ⟨s_get (ci := 0) (k := 3) C0 dX0_prepare_11 inX0 rfl (by decide) tw1_229, List.forall_mem_cons.mpr ⟨s_icmp_ge C0 dX0_prepare_14 rfl, List.forall_mem_cons.mpr ⟨s_aload_n C0 dX0_prepare_17 rfl, List.forall_mem_cons.mpr ⟨s_get (ci := 0) (k := 6) C0 dX0_prepare_18 inX0 rfl (by decide) tw1_232, List.forall_mem_cons.mpr ⟨s_iload_n C0 dX0_prepare_21 rfl, List.forall_mem_cons.mpr ⟨s_iconst C0 dX0_prepare_22 rfl, List.forall_mem_cons.mpr ⟨s_imul C0 dX0_prepare_23, List.forall_mem_cons.mpr ⟨s_iload_n C0 dX0_prepare_24 rfl, List.forall_mem_cons.mpr ⟨s_iadd C0 dX0_prepare_25, List.forall_mem_cons.mpr ⟨s_aload_n C0 dX0_prepare_26 rfl, List.forall_mem_cons.mpr ⟨s_get (ci := 0) (k := 0) C0 dX0_prepare_27 inX0 rfl (by decide) tw1_226, List.forall_mem_cons.mpr ⟨s_iload_n C0 dX0_prepare_30 rfl, List.forall_mem_cons.mpr ⟨s_aload_n C0 dX0_prepare_31 rfl, List.forall_mem_cons.mpr ⟨s_get (ci := 0) (k := 2) C0 dX0_prepare_32 inX0 rfl (by decide) tw1_228, List.forall_mem_cons.mpr ⟨s_iload_n C0 dX0_prepare_35 rfl, List.forall_mem_cons.mpr ⟨s_iadd C0 dX0_prepare_36, List.forall_mem_cons.mpr ⟨s_aload_n C0 dX0_prepare_37 rfl, List.forall_mem_cons.mpr ⟨s_get (ci := 0) (k := 0) C0 dX0_prepare_38 inX0 rfl (by decide) tw1_226, List.forall_mem_cons.mpr ⟨s_iload_n C0 dX0_prepare_41 rfl, List.forall_mem_cons.mpr ⟨s_aload_n C0 dX0_prepare_42 rfl, List.forall_mem_cons.mpr ⟨s_get (ci := 0) (k := 2) C0 dX0_prepare_43 inX0 rfl (by decide) tw1_228, List.forall_mem_cons.mpr ⟨s_iload_n C0 dX0_prepare_46 rfl, List.forall_mem_cons.mpr ⟨s_iadd C0 dX0_prepare_47, List.forall_mem_cons.mpr ⟨s_callV (ci := 1) C0 (kX1_fullThrows l) dX0_prepare_48 rfl qX1_fullThrows tw4_146 tw4_116 tw4_117 tw1_6 tw4_118 rfl (by decide) (by decide), List.forall_mem_cons.mpr ⟨s_callV (ci := 1) C0 (kX1_valueOf l) dX0_prepare_51 rfl qX1_valueOf tw4_147 tw3_202 tw3_203 tw1_6 tw3_204 rfl (by decide) (by decide), List.forall_mem_cons.mpr ⟨s_iast C0 dX0_prepare_54, List.forall_mem_cons.mpr ⟨s_iinc C0 dX0_prepare_55 rfl (by decide), List.forall_mem_cons.mpr ⟨s_goto C0 dX0_prepare_58 rfl, List.forall_mem_cons.mpr ⟨s_aload_n C0 dX0_prepare_61 rfl, List.forall_mem_cons.mpr ⟨s_get (ci := 0) (k := 4) C0 dX0_prepare_62 inX0 rfl (by decide) tw1_230, List.forall_mem_cons.mpr ⟨s_iload_n C0 dX0_prepare_65 rfl, fun _ h => absurd h List.not_mem_nil⟩⟩⟩⟩⟩⟩⟩⟩⟩⟩⟩⟩⟩⟩⟩⟩⟩⟩⟩⟩⟩⟩⟩⟩⟩⟩⟩⟩⟩⟩⟩⟩⟩⟩⟩⟩⟩⟩⟩⟩
set_option maxRecDepth 10000 in
theorem hX0_prepare_1 (l : Launch) {p : Program} {e : Env} {s : State} {m : MethodId} {args : Array Value} {below : List Frame} {meth : Method} {c : Code} {D : va_G} {ad adV : Nat → Nat} {cA : Nat → ClassId} {K : Kt} (C0 : Cx p s m args meth c D ad adV cA cX0_prepare 3 RX0) (hr : meth.sig.returnType = none) : ∀ q ∈ lX0_prepare_1, Sd p l e (rmd 5) s m args below meth c (MQ below (QQ D ad cA K) args s 0 0 (AA ad)) D ad cA 3 q.1 (opOf K q.2) := List.forall_mem_cons.mpr ⟨s_iconst C0 dX0_prepare_66 rfl, List.forall_mem_cons.mpr ⟨s_iast C0 dX0_prepare_67, List.forall_mem_cons.mpr ⟨s_aload_n C0 dX0_prepare_68 rfl, List.forall_mem_cons.mpr ⟨s_get (ci := 0) (k := 1) C0 dX0_prepare_69 inX0 rfl (by decide) tw1_227, List.forall_mem_cons.mpr ⟨s_iload_n C0 dX0_prepare_72 rfl, List.forall_mem_cons.mpr ⟨s_callV (ci := 3) C0 (kX3_open l) dX0_prepare_73 rfl qX3_open tw4_148 tw4_42 tw4_43 tw1_7 tw4_44 rfl (by decide) (by decide), List.forall_mem_cons.mpr ⟨s_iconst C0 dX0_prepare_76 rfl, List.forall_mem_cons.mpr ⟨s_istore_n C0 dX0_prepare_77 rfl (by decide), List.forall_mem_cons.mpr ⟨s_iload_n C0 dX0_prepare_78 rfl, List.forall_mem_cons.mpr ⟨s_iconst C0 dX0_prepare_79 rfl, List.forall_mem_cons.mpr ⟨s_aload_n C0 dX0_prepare_80 rfl, List.forall_mem_cons.mpr ⟨s_get (ci := 0) (k := 3) C0 dX0_prepare_81 inX0 rfl (by decide) tw1_229, List.forall_mem_cons.mpr ⟨s_ishl C0 dX0_prepare_84, List.forall_mem_cons.mpr ⟨s_icmp_ge C0 dX0_prepare_85 rfl, List.forall_mem_cons.mpr ⟨s_aload_n C0 dX0_prepare_88 rfl, List.forall_mem_cons.mpr ⟨s_iload_n C0 dX0_prepare_89 rfl, List.forall_mem_cons.mpr ⟨s_iload_n C0 dX0_prepare_90 rfl, List.forall_mem_cons.mpr ⟨s_callV (ci := 0) C0 (kX0_fitsTogether l) dX0_prepare_91 rfl qX0_fitsTogether tw4_149 tw4_151 twp_30 tw1_8 tw4_152 rfl (by decide) (by decide), List.forall_mem_cons.mpr ⟨s_if_eq C0 dX0_prepare_94 rfl, List.forall_mem_cons.mpr ⟨s_aload_n C0 dX0_prepare_97 rfl, List.forall_mem_cons.mpr ⟨s_get (ci := 0) (k := 4) C0 dX0_prepare_98 inX0 rfl (by decide) tw1_230, List.forall_mem_cons.mpr ⟨s_iload_n C0 dX0_prepare_101 rfl, List.forall_mem_cons.mpr ⟨s_dup2 C0 dX0_prepare_102, List.forall_mem_cons.mpr ⟨s_iald C0 dX0_prepare_103, List.forall_mem_cons.mpr ⟨s_iconst C0 dX0_prepare_104 rfl, List.forall_mem_cons.mpr ⟨s_iload_n C0 dX0_prepare_105 rfl, List.forall_mem_cons.mpr ⟨s_ishl C0 dX0_prepare_106, List.forall_mem_cons.mpr ⟨s_ior C0 dX0_prepare_107, List.forall_mem_cons.mpr ⟨s_iast C0 dX0_prepare_108, List.forall_mem_cons.mpr ⟨s_iinc C0 dX0_prepare_109 rfl (by decide), List.forall_mem_cons.mpr ⟨s_goto C0 dX0_prepare_112 rfl, List.forall_mem_cons.mpr ⟨s_vret C0 hr dX0_prepare_115, fun _ h => absurd h List.not_mem_nil⟩⟩⟩⟩⟩⟩⟩⟩⟩⟩⟩⟩⟩⟩⟩⟩⟩⟩⟩⟩⟩⟩⟩⟩⟩⟩⟩⟩⟩⟩⟩⟩
def fX0_prepare : Mf := mf 3 (fun K => tl K lX0_prepare)
theorem kX0_prepare (l : Launch) : Okm l yX0_prepare cX0_prepare 3 none 5 fX0_prepare := Okm_tl (own := RX0) (by decide +kernel) rfl (fun C0 hr => List.forall_mem_append.mpr ⟨hX0_prepare_0 l C0 hr, hX0_prepare_1 l C0 hr⟩)
theorem dX0_search_0 : decode cX0_search 0 = .ok (.iload_n 2, 1) := by decide +kernel
theorem dX0_search_1 : decode cX0_search 1 = .ok (.aload_n 0, 1) := by decide +kernel
theorem dX0_search_2 : decode cX0_search 2 = .ok (.getfield 28, 3) := by decide +kernel
theorem dX0_search_5 : decode cX0_search 5 = .ok (.iload_n 1, 1) := by decide +kernel
theorem dX0_search_6 : decode cX0_search 6 = .ok (.iaload, 1) := by decide +kernel
theorem dX0_search_7 : decode cX0_search 7 = .ok (.iadd, 1) := by decide +kernel
theorem dX0_search_8 : decode cX0_search 8 = .ok (.aload_n 0, 1) := by decide +kernel
theorem dX0_search_9 : decode cX0_search 9 = .ok (.getfield 37, 3) := by decide +kernel
theorem dX0_search_12 : decode cX0_search 12 = .ok (.if_icmp .gt 4, 3) := by decide +kernel
theorem dX0_search_15 : decode cX0_search 15 = .ok (.return_, 1) := by decide +kernel
theorem dX0_search_16 : decode cX0_search 16 = .ok (.iload_n 1, 1) := by decide +kernel
theorem dX0_search_17 : decode cX0_search 17 = .ok (.aload_n 0, 1) := by decide +kernel
theorem dX0_search_18 : decode cX0_search 18 = .ok (.getfield 15, 3) := by decide +kernel
theorem dX0_search_21 : decode cX0_search 21 = .ok (.if_icmp .lt 23, 3) := by decide +kernel
theorem dX0_search_24 : decode cX0_search 24 = .ok (.aload_n 0, 1) := by decide +kernel
theorem dX0_search_25 : decode cX0_search 25 = .ok (.iload_n 2, 1) := by decide +kernel
theorem dX0_search_26 : decode cX0_search 26 = .ok (.putfield 37, 3) := by decide +kernel
theorem dX0_search_29 : decode cX0_search 29 = .ok (.aload_n 0, 1) := by decide +kernel
theorem dX0_search_30 : decode cX0_search 30 = .ok (.getfield 31, 3) := by decide +kernel
theorem dX0_search_33 : decode cX0_search 33 = .ok (.iconst 0, 1) := by decide +kernel
theorem dX0_search_34 : decode cX0_search 34 = .ok (.aload_n 0, 1) := by decide +kernel
theorem dX0_search_35 : decode cX0_search 35 = .ok (.getfield 34, 3) := by decide +kernel
theorem dX0_search_38 : decode cX0_search 38 = .ok (.iconst 0, 1) := by decide +kernel
theorem dX0_search_39 : decode cX0_search 39 = .ok (.iconst 5, 1) := by decide +kernel
theorem dX0_search_40 : decode cX0_search 40 = .ok (.invokestatic 99, 3) := by decide +kernel
theorem dX0_search_43 : decode cX0_search 43 = .ok (.return_, 1) := by decide +kernel
theorem dX0_search_44 : decode cX0_search 44 = .ok (.iconst 0, 1) := by decide +kernel
theorem dX0_search_45 : decode cX0_search 45 = .ok (.istore_n 3, 1) := by decide +kernel
theorem dX0_search_46 : decode cX0_search 46 = .ok (.iload_n 3, 1) := by decide +kernel
theorem dX0_search_47 : decode cX0_search 47 = .ok (.aload_n 0, 1) := by decide +kernel
theorem dX0_search_48 : decode cX0_search 48 = .ok (.getfield 40, 3) := by decide +kernel
theorem dX0_search_51 : decode cX0_search 51 = .ok (.getfield 54, 3) := by decide +kernel
theorem dX0_search_54 : decode cX0_search 54 = .ok (.getfield 60, 3) := by decide +kernel
theorem dX0_search_57 : decode cX0_search 57 = .ok (.if_icmp .ge 77, 3) := by decide +kernel
theorem dX0_search_60 : decode cX0_search 60 = .ok (.aload_n 0, 1) := by decide +kernel
theorem dX0_search_61 : decode cX0_search 61 = .ok (.iload_n 3, 1) := by decide +kernel
theorem dX0_search_62 : decode cX0_search 62 = .ok (.aload_n 0, 1) := by decide +kernel
theorem dX0_search_63 : decode cX0_search 63 = .ok (.getfield 22, 3) := by decide +kernel
theorem dX0_search_66 : decode cX0_search 66 = .ok (.iload_n 3, 1) := by decide +kernel
theorem dX0_search_67 : decode cX0_search 67 = .ok (.iaload, 1) := by decide +kernel
theorem dX0_search_68 : decode cX0_search 68 = .ok (.iconst 1, 1) := by decide +kernel
theorem dX0_search_69 : decode cX0_search 69 = .ok (.iload_n 1, 1) := by decide +kernel
theorem dX0_search_70 : decode cX0_search 70 = .ok (.ishl, 1) := by decide +kernel
theorem dX0_search_71 : decode cX0_search 71 = .ok (.ior, 1) := by decide +kernel
theorem dX0_search_72 : decode cX0_search 72 = .ok (.invokevirtual 93, 3) := by decide +kernel
theorem dX0_search_75 : decode cX0_search 75 = .ok (.ifCond .eq 53, 3) := by decide +kernel
theorem dX0_search_78 : decode cX0_search 78 = .ok (.aload_n 0, 1) := by decide +kernel
theorem dX0_search_79 : decode cX0_search 79 = .ok (.getfield 22, 3) := by decide +kernel
theorem dX0_search_82 : decode cX0_search 82 = .ok (.iload_n 3, 1) := by decide +kernel
theorem dX0_search_83 : decode cX0_search 83 = .ok (.dup2, 1) := by decide +kernel
theorem dX0_search_84 : decode cX0_search 84 = .ok (.iaload, 1) := by decide +kernel
theorem dX0_search_85 : decode cX0_search 85 = .ok (.iconst 1, 1) := by decide +kernel
theorem dX0_search_86 : decode cX0_search 86 = .ok (.iload_n 1, 1) := by decide +kernel
theorem dX0_search_87 : decode cX0_search 87 = .ok (.ishl, 1) := by decide +kernel
theorem dX0_search_88 : decode cX0_search 88 = .ok (.ior, 1) := by decide +kernel
theorem dX0_search_89 : decode cX0_search 89 = .ok (.iastore, 1) := by decide +kernel
theorem dX0_search_90 : decode cX0_search 90 = .ok (.aload_n 0, 1) := by decide +kernel
theorem dX0_search_91 : decode cX0_search 91 = .ok (.getfield 31, 3) := by decide +kernel
theorem dX0_search_94 : decode cX0_search 94 = .ok (.iload_n 1, 1) := by decide +kernel
theorem dX0_search_95 : decode cX0_search 95 = .ok (.iload_n 3, 1) := by decide +kernel
theorem dX0_search_96 : decode cX0_search 96 = .ok (.iastore, 1) := by decide +kernel
theorem dX0_search_97 : decode cX0_search 97 = .ok (.aload_n 0, 1) := by decide +kernel
theorem dX0_search_98 : decode cX0_search 98 = .ok (.iload_n 1, 1) := by decide +kernel
theorem dX0_search_99 : decode cX0_search 99 = .ok (.iconst 1, 1) := by decide +kernel
theorem dX0_search_100 : decode cX0_search 100 = .ok (.iadd, 1) := by decide +kernel
theorem dX0_search_101 : decode cX0_search 101 = .ok (.iload_n 2, 1) := by decide +kernel
theorem dX0_search_102 : decode cX0_search 102 = .ok (.aload_n 0, 1) := by decide +kernel
theorem dX0_search_103 : decode cX0_search 103 = .ok (.getfield 25, 3) := by decide +kernel
theorem dX0_search_106 : decode cX0_search 106 = .ok (.iload_n 3, 1) := by decide +kernel
theorem dX0_search_107 : decode cX0_search 107 = .ok (.iconst 5, 1) := by decide +kernel
theorem dX0_search_108 : decode cX0_search 108 = .ok (.imul, 1) := by decide +kernel
theorem dX0_search_109 : decode cX0_search 109 = .ok (.iload_n 1, 1) := by decide +kernel
theorem dX0_search_110 : decode cX0_search 110 = .ok (.iadd, 1) := by decide +kernel
theorem dX0_search_111 : decode cX0_search 111 = .ok (.iaload, 1) := by decide +kernel
theorem dX0_search_112 : decode cX0_search 112 = .ok (.iadd, 1) := by decide +kernel
theorem dX0_search_113 : decode cX0_search 113 = .ok (.invokevirtual 70, 3) := by decide +kernel
theorem dX0_search_116 : decode cX0_search 116 = .ok (.aload_n 0, 1) := by decide +kernel
theorem dX0_search_117 : decode cX0_search 117 = .ok (.getfield 22, 3) := by decide +kernel
theorem dX0_search_120 : decode cX0_search 120 = .ok (.iload_n 3, 1) := by decide +kernel
theorem dX0_search_121 : decode cX0_search 121 = .ok (.dup2, 1) := by decide +kernel
theorem dX0_search_122 : decode cX0_search 122 = .ok (.iaload, 1) := by decide +kernel
theorem dX0_search_123 : decode cX0_search 123 = .ok (.iconst 1, 1) := by decide +kernel
theorem dX0_search_124 : decode cX0_search 124 = .ok (.iload_n 1, 1) := by decide +kernel
theorem dX0_search_125 : decode cX0_search 125 = .ok (.ishl, 1) := by decide +kernel
theorem dX0_search_126 : decode cX0_search 126 = .ok (.ixor, 1) := by decide +kernel
theorem dX0_search_127 : decode cX0_search 127 = .ok (.iastore, 1) := by decide +kernel
theorem dX0_search_128 : decode cX0_search 128 = .ok (.iinc 3 1, 3) := by decide +kernel
theorem dX0_search_131 : decode cX0_search 131 = .ok (.goto (-85), 3) := by decide +kernel
theorem dX0_search_134 : decode cX0_search 134 = .ok (.aload_n 0, 1) := by decide +kernel
theorem dX0_search_135 : decode cX0_search 135 = .ok (.getfield 31, 3) := by decide +kernel
theorem dX0_search_138 : decode cX0_search 138 = .ok (.iload_n 1, 1) := by decide +kernel
theorem dX0_search_139 : decode cX0_search 139 = .ok (.bipush (-2), 2) := by decide +kernel
theorem dX0_search_141 : decode cX0_search 141 = .ok (.iastore, 1) := by decide +kernel
theorem dX0_search_142 : decode cX0_search 142 = .ok (.aload_n 0, 1) := by decide +kernel
theorem dX0_search_143 : decode cX0_search 143 = .ok (.iload_n 1, 1) := by decide +kernel
theorem dX0_search_144 : decode cX0_search 144 = .ok (.iconst 1, 1) := by decide +kernel
theorem dX0_search_145 : decode cX0_search 145 = .ok (.iadd, 1) := by decide +kernel
theorem dX0_search_146 : decode cX0_search 146 = .ok (.iload_n 2, 1) := by decide +kernel
theorem dX0_search_147 : decode cX0_search 147 = .ok (.invokevirtual 70, 3) := by decide +kernel
theorem dX0_search_150 : decode cX0_search 150 = .ok (.return_, 1) := by decide +kernel
def lX0_search_0 (fs : Mf) : List (Nat × (Op ⊕ Nat)) := [(0, .inl (o_iload 2 1)), (1, .inl (o_aload 0 2)), (2, .inl (o_get 0 7 5)), (5, .inl (o_iload 1 6)), (6, .inl (o_iald 7)), (7, .inl (o_iadd 8)), (8, .inl (o_aload 0 9)), (9, .inl (o_get 0 10 12)), (12, .inl (o_icmp_gt 16 15)), (15, .inr 3), (16, .inl (o_iload 1 17)), (17, .inl (o_aload 0 18)), (18, .inl (o_get 0 3 21)), (21, .inl (o_icmp_lt 44 24)), (24, .inl (o_aload 0 25)), (25, .inl (o_iload 2 26)), (26, .inl (o_putI 0 10 29)), (29, .inl (o_aload 0 30)), (30, .inl (o_get 0 8 33)), (33, .inl (o_pushI (nI 0) 34)), (34, .inl (o_aload 0 35)), (35, .inl (o_get 0 9 38)), (38, .inl (o_pushI (nI 0) 39)), (39, .inl (o_pushI (nI 5) 40)), (40, .inl (o_copyI 43)), (43, .inr 3), (44, .inl (o_pushI (nI 0) 45)), (45, .inl (o_istore 3 46)), (46, .inl (o_iload 3 47)), (47, .inl (o_aload 0 48)), (48, .inl (o_get 0 0 51)), (51, .inl (o_get 1 0 54)), (54, .inl (o_get 9 0 57)), (57, .inl (o_icmp_ge 134 60)), (60, .inl (o_aload 0 61)), (61, .inl (o_iload 3 62)), (62, .inl (o_aload 0 63)), (63, .inl (o_get 0 5 66)), (66, .inl (o_iload 3 67)), (67, .inl (o_iald 68))]
def lX0_search_1 (fs : Mf) : List (Nat × (Op ⊕ Nat)) := [(68, .inl (o_pushI (nI 1) 69)), (69, .inl (o_iload 1 70)), (70, .inl (o_ishl 71)), (71, .inl (o_ior 72)), (72, .inl (o_callV fX0_mayHave 2 0 75)), (75, .inl (o_if_eq 128 78)), (78, .inl (o_aload 0 79)), (79, .inl (o_get 0 5 82)), (82, .inl (o_iload 3 83)), (83, .inl (o_dup2 84)), (84, .inl (o_iald 85)), (85, .inl (o_pushI (nI 1) 86)), (86, .inl (o_iload 1 87)), (87, .inl (o_ishl 88)), (88, .inl (o_ior 89)), (89, .inl (o_iast 90)), (90, .inl (o_aload 0 91)), (91, .inl (o_get 0 8 94)), (94, .inl (o_iload 1 95)), (95, .inl (o_iload 3 96)), (96, .inl (o_iast 97)), (97, .inl (o_aload 0 98)), (98, .inl (o_iload 1 99)), (99, .inl (o_pushI (nI 1) 100)), (100, .inl (o_iadd 101)), (101, .inl (o_iload 2 102)), (102, .inl (o_aload 0 103)), (103, .inl (o_get 0 6 106)), (106, .inl (o_iload 3 107)), (107, .inl (o_pushI (nI 5) 108)), (108, .inl (o_imul 109)), (109, .inl (o_iload 1 110)), (110, .inl (o_iadd 111)), (111, .inl (o_iald 112)), (112, .inl (o_iadd 113)), (113, .inl (o_callV fs 2 0 116)), (116, .inl (o_aload 0 117)), (117, .inl (o_get 0 5 120)), (120, .inl (o_iload 3 121)), (121, .inl (o_dup2 122))]
def lX0_search_2 (fs : Mf) : List (Nat × (Op ⊕ Nat)) := [(122, .inl (o_iald 123)), (123, .inl (o_pushI (nI 1) 124)), (124, .inl (o_iload 1 125)), (125, .inl (o_ishl 126)), (126, .inl (o_ixor 127)), (127, .inl (o_iast 128)), (128, .inl (o_iinc 3 (nI 1) 131)), (131, .inl (o_goto 46)), (134, .inl (o_aload 0 135)), (135, .inl (o_get 0 8 138)), (138, .inl (o_iload 1 139)), (139, .inl (o_pushI ((-2)) 141)), (141, .inl (o_iast 142)), (142, .inl (o_aload 0 143)), (143, .inl (o_iload 1 144)), (144, .inl (o_pushI (nI 1) 145)), (145, .inl (o_iadd 146)), (146, .inl (o_iload 2 147)), (147, .inl (o_callV fs 2 0 150)), (150, .inr 3)]
def lX0_search (fs : Mf) : List (Nat × (Op ⊕ Nat)) := lX0_search_0 fs ++ (lX0_search_1 fs ++ (lX0_search_2 fs))
theorem qX0_search : yX0_search.cls = RX0 ∧ yX0_search.cls ≠ "java/lang/invoke/MethodHandle" ∧ yX0_search.cls ≠ "java/lang/invoke/VarHandle" ∧ (parseMethodDescriptor yX0_search.desc).map (fun d => d.parameters.length) = some 2 := by decide +kernel
set_option maxRecDepth 10000 in
theorem hX0_search_0 (l : Launch) {p : Program} {e : Env} {s : State} {m : MethodId} {args : Array Value} {below : List Frame} {meth : Method} {c : Code} {D : va_G} {ad adV : Nat → Nat} {cA : Nat → ClassId} {K : Kt} {fs : Mf} {dd ds : Nat} (hs : Okm l yX0_search cX0_search 4 none ds fs) (hd : ds + 1 ≤ dd) (h1 : 1 ≤ dd) (C0 : Cx p s m args meth c D ad adV cA cX0_search 4 RX0) (hr : meth.sig.returnType = none) : ∀ q ∈ lX0_search_0 fs, Sd p l e (rmd dd) s m args below meth c (MQ below (QQ D ad cA K) args s 0 0 (AA ad)) D ad cA 4 q.1 (opOf K q.2) := List.forall_mem_cons.mpr ⟨s_iload_n C0 dX0_search_0 rfl, List.forall_mem_cons.mpr ⟨s_aload_n C0 dX0_search_1 rfl, List.forall_mem_cons.mpr ⟨s_get (ci := 0) (k := 7) C0 dX0_search_2 inX0 rfl (by decide) tw1_233, List.forall_mem_cons.mpr ⟨s_iload_n C0 dX0_search_5 rfl, List.forall_mem_cons.mpr ⟨s_iald C0 dX0_search_6, List.forall_mem_cons.mpr ⟨s_iadd C0 dX0_search_7, List.forall_mem_cons.mpr ⟨s_aload_n C0 dX0_search_8 rfl, List.forall_mem_cons.mpr ⟨s_get (ci := 0) (k := 10) C0 dX0_search_9 inX0 rfl (by decide) tw1_237, List.forall_mem_cons.mpr ⟨s_icmp_gt C0 dX0_search_12 rfl, List.forall_mem_cons.mpr ⟨s_vret C0 hr dX0_search_15, List.forall_mem_cons.mpr ⟨s_iload_n C0 dX0_search_16 rfl, List.forall_mem_cons.mpr ⟨s_aload_n C0 dX0_search_17 rfl, List.forall_mem_cons.mpr ⟨s_get (ci := 0) (k := 3) C0 dX0_search_18 inX0 rfl (by decide) tw1_229, List.forall_mem_cons.mpr ⟨s_icmp_lt C0 dX0_search_21 rfl, List.forall_mem_cons.mpr ⟨s_aload_n C0 dX0_search_24 rfl, List.forall_mem_cons.mpr ⟨s_iload_n C0 dX0_search_25 rfl, List.forall_mem_cons.mpr ⟨s_putI (ci := 0) (k := 10) C0 dX0_search_26 inX0 tyX0_ok nmX0 rfl (by decide) rfl rfl tw1_237, List.forall_mem_cons.mpr ⟨s_aload_n C0 dX0_search_29 rfl, List.forall_mem_cons.mpr ⟨s_get (ci := 0) (k := 8) C0 dX0_search_30 inX0 rfl (by decide) tw1_234, List.forall_mem_cons.mpr ⟨s_iconst C0 dX0_search_33 rfl, List.forall_mem_cons.mpr ⟨s_aload_n C0 dX0_search_34 rfl, List.forall_mem_cons.mpr ⟨s_get (ci := 0) (k := 9) C0 dX0_search_35 inX0 rfl (by decide) tw1_235, List.forall_mem_cons.mpr ⟨s_iconst C0 dX0_search_38 rfl, List.forall_mem_cons.mpr ⟨s_iconst C0 dX0_search_39 rfl, List.forall_mem_cons.mpr ⟨s_copyI C0 dX0_search_40 tw4_167 tw2_189 tw2_188 tw1_13 rfl h1, List.forall_mem_cons.mpr ⟨s_vret C0 hr dX0_search_43, List.forall_mem_cons.mpr ⟨s_iconst C0 dX0_search_44 rfl, List.forall_mem_cons.mpr ⟨s_istore_n C0 dX0_search_45 rfl (by decide), List.forall_mem_cons.mpr ⟨s_iload_n C0 dX0_search_46 rfl, List.forall_mem_cons.mpr ⟨s_aload_n C0 dX0_search_47 rfl, List.forall_mem_cons.mpr ⟨s_get (ci := 0) (k := 0) C0 dX0_search_48 inX0 rfl (by decide) tw1_226, List.forall_mem_cons.mpr ⟨s_get (ci := 1) (k := 0) C0 dX0_search_51 inX1 rfl (by decide) tw1_191, List.forall_mem_cons.mpr ⟨s_get (ci := 9) (k := 0) C0 dX0_search_54 inX9 rfl (by decide) tw1_81, List.forall_mem_cons.mpr ⟨s_icmp_ge C0 dX0_search_57 rfl, List.forall_mem_cons.mpr ⟨s_aload_n C0 dX0_search_60 rfl, List.forall_mem_cons.mpr ⟨s_iload_n C0 dX0_search_61 rfl, List.forall_mem_cons.mpr ⟨s_aload_n C0 dX0_search_62 rfl, List.forall_mem_cons.mpr ⟨s_get (ci := 0) (k := 5) C0 dX0_search_63 inX0 rfl (by decide) tw1_231, List.forall_mem_cons.mpr ⟨s_iload_n C0 dX0_search_66 rfl, List.forall_mem_cons.mpr ⟨s_iald C0 dX0_search_67, fun _ h => absurd h List.not_mem_nil⟩⟩⟩⟩⟩⟩⟩⟩⟩⟩⟩⟩⟩⟩⟩⟩⟩⟩⟩⟩⟩⟩⟩⟩⟩⟩⟩⟩⟩⟩⟩⟩⟩⟩⟩⟩⟩⟩⟩⟩
set_option maxRecDepth 10000 in
theorem hX0_search_1 (l : Launch) {p : Program} {e : Env} {s : State} {m : MethodId} {args : Array Value} {below : List Frame} {meth : Method} {c : Code} {D : va_G} {ad adV : Nat → Nat} {cA : Nat → ClassId} {K : Kt} {fs : Mf} {dd ds : Nat} (hs : Okm l yX0_search cX0_search 4 none ds fs) (hd : ds + 1 ≤ dd) (h1 : 1 ≤ dd) (C0 : Cx p s m args meth c D ad adV cA cX0_search 4 RX0) (hr : meth.sig.returnType = none) : ∀ q ∈ lX0_search_1 fs, Sd p l e (rmd dd) s m args below meth c (MQ below (QQ D ad cA K) args s 0 0 (AA ad)) D ad cA 4 q.1 (opOf K q.2) := List.forall_mem_cons.mpr ⟨s_iconst C0 dX0_search_68 rfl, List.forall_mem_cons.mpr ⟨s_iload_n C0 dX0_search_69 rfl, List.forall_mem_cons.mpr ⟨s_ishl C0 dX0_search_70, List.forall_mem_cons.mpr ⟨s_ior C0 dX0_search_71, List.forall_mem_cons.mpr ⟨s_callV (ci := 0) C0 (kX0_mayHave l) dX0_search_72 rfl qX0_mayHave tw4_157 tw4_159 twp_31 tw1_8 tw4_160 rfl h1 (by decide), List.forall_mem_cons.mpr ⟨s_if_eq C0 dX0_search_75 rfl, List.forall_mem_cons.mpr ⟨s_aload_n C0 dX0_search_78 rfl, List.forall_mem_cons.mpr ⟨s_get (ci := 0) (k := 5) C0 dX0_search_79 inX0 rfl (by decide) tw1_231, List.forall_mem_cons.mpr ⟨s_iload_n C0 dX0_search_82 rfl, List.forall_mem_cons.mpr ⟨s_dup2 C0 dX0_search_83, List.forall_mem_cons.mpr ⟨s_iald C0 dX0_search_84, List.forall_mem_cons.mpr ⟨s_iconst C0 dX0_search_85 rfl, List.forall_mem_cons.mpr ⟨s_iload_n C0 dX0_search_86 rfl, List.forall_mem_cons.mpr ⟨s_ishl C0 dX0_search_87, List.forall_mem_cons.mpr ⟨s_ior C0 dX0_search_88, List.forall_mem_cons.mpr ⟨s_iast C0 dX0_search_89, List.forall_mem_cons.mpr ⟨s_aload_n C0 dX0_search_90 rfl, List.forall_mem_cons.mpr ⟨s_get (ci := 0) (k := 8) C0 dX0_search_91 inX0 rfl (by decide) tw1_234, List.forall_mem_cons.mpr ⟨s_iload_n C0 dX0_search_94 rfl, List.forall_mem_cons.mpr ⟨s_iload_n C0 dX0_search_95 rfl, List.forall_mem_cons.mpr ⟨s_iast C0 dX0_search_96, List.forall_mem_cons.mpr ⟨s_aload_n C0 dX0_search_97 rfl, List.forall_mem_cons.mpr ⟨s_iload_n C0 dX0_search_98 rfl, List.forall_mem_cons.mpr ⟨s_iconst C0 dX0_search_99 rfl, List.forall_mem_cons.mpr ⟨s_iadd C0 dX0_search_100, List.forall_mem_cons.mpr ⟨s_iload_n C0 dX0_search_101 rfl, List.forall_mem_cons.mpr ⟨s_aload_n C0 dX0_search_102 rfl, List.forall_mem_cons.mpr ⟨s_get (ci := 0) (k := 6) C0 dX0_search_103 inX0 rfl (by decide) tw1_232, List.forall_mem_cons.mpr ⟨s_iload_n C0 dX0_search_106 rfl, List.forall_mem_cons.mpr ⟨s_iconst C0 dX0_search_107 rfl, List.forall_mem_cons.mpr ⟨s_imul C0 dX0_search_108, List.forall_mem_cons.mpr ⟨s_iload_n C0 dX0_search_109 rfl, List.forall_mem_cons.mpr ⟨s_iadd C0 dX0_search_110, List.forall_mem_cons.mpr ⟨s_iald C0 dX0_search_111, List.forall_mem_cons.mpr ⟨s_iadd C0 dX0_search_112, List.forall_mem_cons.mpr ⟨s_callV (ci := 0) C0 hs dX0_search_113 rfl qX0_search tw4_163 tw4_165 twp_32 tw1_8 tw4_166 rfl hd (by decide), List.forall_mem_cons.mpr ⟨s_aload_n C0 dX0_search_116 rfl, List.forall_mem_cons.mpr ⟨s_get (ci := 0) (k := 5) C0 dX0_search_117 inX0 rfl (by decide) tw1_231, List.forall_mem_cons.mpr ⟨s_iload_n C0 dX0_search_120 rfl, List.forall_mem_cons.mpr ⟨s_dup2 C0 dX0_search_121, fun _ h => absurd h List.not_mem_nil⟩⟩⟩⟩⟩⟩⟩⟩⟩⟩⟩⟩⟩⟩⟩⟩⟩⟩⟩⟩⟩⟩⟩⟩⟩⟩⟩⟩⟩⟩⟩⟩⟩⟩⟩⟩⟩⟩⟩⟩
set_option maxRecDepth 10000 in
theorem hX0_search_2 (l : Launch) {p : Program} {e : Env} {s : State} {m : MethodId} {args : Array Value} {below : List Frame} {meth : Method} {c : Code} {D : va_G} {ad adV : Nat → Nat} {cA : Nat → ClassId} {K : Kt} {fs : Mf} {dd ds : Nat} (hs : Okm l yX0_search cX0_search 4 none ds fs) (hd : ds + 1 ≤ dd) (h1 : 1 ≤ dd) (C0 : Cx p s m args meth c D ad adV cA cX0_search 4 RX0) (hr : meth.sig.returnType = none) : ∀ q ∈ lX0_search_2 fs, Sd p l e (rmd dd) s m args below meth c (MQ below (QQ D ad cA K) args s 0 0 (AA ad)) D ad cA 4 q.1 (opOf K q.2) := List.forall_mem_cons.mpr ⟨s_iald C0 dX0_search_122, List.forall_mem_cons.mpr ⟨s_iconst C0 dX0_search_123 rfl, List.forall_mem_cons.mpr ⟨s_iload_n C0 dX0_search_124 rfl, List.forall_mem_cons.mpr ⟨s_ishl C0 dX0_search_125, List.forall_mem_cons.mpr ⟨s_ixor C0 dX0_search_126, List.forall_mem_cons.mpr ⟨s_iast C0 dX0_search_127, List.forall_mem_cons.mpr ⟨s_iinc C0 dX0_search_128 rfl (by decide), List.forall_mem_cons.mpr ⟨s_goto C0 dX0_search_131 rfl, List.forall_mem_cons.mpr ⟨s_aload_n C0 dX0_search_134 rfl, List.forall_mem_cons.mpr ⟨s_get (ci := 0) (k := 8) C0 dX0_search_135 inX0 rfl (by decide) tw1_234, List.forall_mem_cons.mpr ⟨s_iload_n C0 dX0_search_138 rfl, List.forall_mem_cons.mpr ⟨s_bipush C0 dX0_search_139 (by decide +kernel), List.forall_mem_cons.mpr ⟨s_iast C0 dX0_search_141, List.forall_mem_cons.mpr ⟨s_aload_n C0 dX0_search_142 rfl, List.forall_mem_cons.mpr ⟨s_iload_n C0 dX0_search_143 rfl, List.forall_mem_cons.mpr ⟨s_iconst C0 dX0_search_144 rfl, List.forall_mem_cons.mpr ⟨s_iadd C0 dX0_search_145, List.forall_mem_cons.mpr ⟨s_iload_n C0 dX0_search_146 rfl, List.forall_mem_cons.mpr ⟨s_callV (ci := 0) C0 hs dX0_search_147 rfl qX0_search tw4_163 tw4_165 twp_32 tw1_8 tw4_166 rfl hd (by decide), List.forall_mem_cons.mpr ⟨s_vret C0 hr dX0_search_150, fun _ h => absurd h List.not_mem_nil⟩⟩⟩⟩⟩⟩⟩⟩⟩⟩⟩⟩⟩⟩⟩⟩⟩⟩⟩⟩
def fX0_search : Nat → Mf
  | 0 => fun _ _ _ => False
  | n + 1 => mf 4 (fun K => tl K (lX0_search (fX0_search n)))
theorem kX0_search (l : Launch) : ∀ n : Nat, Okm l yX0_search cX0_search 4 none (n + 1) (fX0_search n)
  | 0 => fun _ _ _ _ _ _ _ h => False.elim h
  | n + 1 => Okm_tl (own := RX0) (by decide +kernel) rfl (fun C0 hr => (fun hs hd h1 => List.forall_mem_append.mpr ⟨hX0_search_0 l hs hd h1 C0 hr, List.forall_mem_append.mpr ⟨hX0_search_1 l hs hd h1 C0 hr, hX0_search_2 l hs hd h1 C0 hr⟩⟩) (kX0_search l n) (Nat.le_refl _) (Nat.succ_le_succ (Nat.zero_le _)))
theorem dX0_find_0 : decode cX0_find 0 = .ok (.aload_n 0, 1) := by decide +kernel
theorem dX0_find_1 : decode cX0_find 1 = .ok (.iload_n 1, 1) := by decide +kernel
theorem dX0_find_2 : decode cX0_find 2 = .ok (.putfield 9, 3) := by decide +kernel
theorem dX0_find_5 : decode cX0_find 5 = .ok (.aload_n 0, 1) := by decide +kernel
theorem dX0_find_6 : decode cX0_find 6 = .ok (.iload_n 2, 1) := by decide +kernel
theorem dX0_find_7 : decode cX0_find 7 = .ok (.iconst 5, 1) := by decide +kernel
theorem dX0_find_8 : decode cX0_find 8 = .ok (.invokestatic 48, 3) := by decide +kernel
theorem dX0_find_11 : decode cX0_find 11 = .ok (.putfield 15, 3) := by decide +kernel
theorem dX0_find_14 : decode cX0_find 14 = .ok (.iconst 0, 1) := by decide +kernel
theorem dX0_find_15 : decode cX0_find 15 = .ok (.istore_n 3, 1) := by decide +kernel
theorem dX0_find_16 : decode cX0_find 16 = .ok (.iload_n 3, 1) := by decide +kernel
theorem dX0_find_17 : decode cX0_find 17 = .ok (.aload_n 0, 1) := by decide +kernel
theorem dX0_find_18 : decode cX0_find 18 = .ok (.getfield 40, 3) := by decide +kernel
theorem dX0_find_21 : decode cX0_find 21 = .ok (.getfield 54, 3) := by decide +kernel
theorem dX0_find_24 : decode cX0_find 24 = .ok (.getfield 60, 3) := by decide +kernel
theorem dX0_find_27 : decode cX0_find 27 = .ok (.if_icmp .ge 14, 3) := by decide +kernel
theorem dX0_find_30 : decode cX0_find 30 = .ok (.aload_n 0, 1) := by decide +kernel
theorem dX0_find_31 : decode cX0_find 31 = .ok (.iload_n 3, 1) := by decide +kernel
theorem dX0_find_32 : decode cX0_find 32 = .ok (.invokevirtual 65, 3) := by decide +kernel
theorem dX0_find_35 : decode cX0_find 35 = .ok (.iinc 3 1, 3) := by decide +kernel
theorem dX0_find_38 : decode cX0_find 38 = .ok (.goto (-22), 3) := by decide +kernel
theorem dX0_find_41 : decode cX0_find 41 = .ok (.aload_n 0, 1) := by decide +kernel
theorem dX0_find_42 : decode cX0_find 42 = .ok (.getfield 28, 3) := by decide +kernel
theorem dX0_find_45 : decode cX0_find 45 = .ok (.aload_n 0, 1) := by decide +kernel
theorem dX0_find_46 : decode cX0_find 46 = .ok (.getfield 15, 3) := by decide +kernel
theorem dX0_find_49 : decode cX0_find 49 = .ok (.iconst 0, 1) := by decide +kernel
theorem dX0_find_50 : decode cX0_find 50 = .ok (.iastore, 1) := by decide +kernel
theorem dX0_find_51 : decode cX0_find 51 = .ok (.aload_n 0, 1) := by decide +kernel
theorem dX0_find_52 : decode cX0_find 52 = .ok (.getfield 15, 3) := by decide +kernel
theorem dX0_find_55 : decode cX0_find 55 = .ok (.iconst 1, 1) := by decide +kernel
theorem dX0_find_56 : decode cX0_find 56 = .ok (.isub, 1) := by decide +kernel
theorem dX0_find_57 : decode cX0_find 57 = .ok (.istore_n 3, 1) := by decide +kernel
theorem dX0_find_58 : decode cX0_find 58 = .ok (.iload_n 3, 1) := by decide +kernel
theorem dX0_find_59 : decode cX0_find 59 = .ok (.ifCond .lt 38, 3) := by decide +kernel
theorem dX0_find_62 : decode cX0_find 62 = .ok (.aload_n 0, 1) := by decide +kernel
theorem dX0_find_63 : decode cX0_find 63 = .ok (.getfield 28, 3) := by decide +kernel
theorem dX0_find_66 : decode cX0_find 66 = .ok (.iload_n 3, 1) := by decide +kernel
theorem dX0_find_67 : decode cX0_find 67 = .ok (.ldc 69, 2) := by decide +kernel
theorem dX0_find_69 : decode cX0_find 69 = .ok (.iastore, 1) := by decide +kernel
theorem dX0_find_70 : decode cX0_find 70 = .ok (.aload_n 0, 1) := by decide +kernel
theorem dX0_find_71 : decode cX0_find 71 = .ok (.iconst (-1), 1) := by decide +kernel
theorem dX0_find_72 : decode cX0_find 72 = .ok (.putfield 37, 3) := by decide +kernel
theorem dX0_find_75 : decode cX0_find 75 = .ok (.aload_n 0, 1) := by decide +kernel
theorem dX0_find_76 : decode cX0_find 76 = .ok (.iload_n 3, 1) := by decide +kernel
theorem dX0_find_77 : decode cX0_find 77 = .ok (.iconst 0, 1) := by decide +kernel
theorem dX0_find_78 : decode cX0_find 78 = .ok (.invokevirtual 70, 3) := by decide +kernel
theorem dX0_find_81 : decode cX0_find 81 = .ok (.aload_n 0, 1) := by decide +kernel
theorem dX0_find_82 : decode cX0_find 82 = .ok (.getfield 28, 3) := by decide +kernel
theorem dX0_find_85 : decode cX0_find 85 = .ok (.iload_n 3, 1) := by decide +kernel
theorem dX0_find_86 : decode cX0_find 86 = .ok (.aload_n 0, 1) := by decide +kernel
theorem dX0_find_87 : decode cX0_find 87 = .ok (.getfield 37, 3) := by decide +kernel
theorem dX0_find_90 : decode cX0_find 90 = .ok (.iastore, 1) := by decide +kernel
theorem dX0_find_91 : decode cX0_find 91 = .ok (.iinc 3 (-1), 3) := by decide +kernel
theorem dX0_find_94 : decode cX0_find 94 = .ok (.goto (-36), 3) := by decide +kernel
theorem dX0_find_97 : decode cX0_find 97 = .ok (.return_, 1) := by decide +kernel
def lX0_find_0 : List (Nat × (Op ⊕ Nat)) := [(0, .inl (o_aload 0 1)), (1, .inl (o_iload 1 2)), (2, .inl (o_putI 0 2 5)), (5, .inl (o_aload 0 6)), (6, .inl (o_iload 2 7)), (7, .inl (o_pushI (nI 5) 8)), (8, .inl (o_min 11)), (11, .inl (o_putI 0 3 14)), (14, .inl (o_pushI (nI 0) 15)), (15, .inl (o_istore 3 16)), (16, .inl (o_iload 3 17)), (17, .inl (o_aload 0 18)), (18, .inl (o_get 0 0 21)), (21, .inl (o_get 1 0 24)), (24, .inl (o_get 9 0 27)), (27, .inl (o_icmp_ge 41 30)), (30, .inl (o_aload 0 31)), (31, .inl (o_iload 3 32)), (32, .inl (o_callV fX0_prepare 1 0 35)), (35, .inl (o_iinc 3 (nI 1) 38)), (38, .inl (o_goto 16)), (41, .inl (o_aload 0 42)), (42, .inl (o_get 0 7 45)), (45, .inl (o_aload 0 46)), (46, .inl (o_get 0 3 49)), (49, .inl (o_pushI (nI 0) 50)), (50, .inl (o_iast 51)), (51, .inl (o_aload 0 52)), (52, .inl (o_get 0 3 55)), (55, .inl (o_pushI (nI 1) 56)), (56, .inl (o_isub 57)), (57, .inl (o_istore 3 58)), (58, .inl (o_iload 3 59)), (59, .inl (o_if_lt 97 62)), (62, .inl (o_aload 0 63)), (63, .inl (o_get 0 7 66)), (66, .inl (o_iload 3 67)), (67, .inl (o_pushI (nI 100000000) 69)), (69, .inl (o_iast 70)), (70, .inl (o_aload 0 71))]
def lX0_find_1 : List (Nat × (Op ⊕ Nat)) := [(71, .inl (o_pushI ((-1)) 72)), (72, .inl (o_putI 0 10 75)), (75, .inl (o_aload 0 76)), (76, .inl (o_iload 3 77)), (77, .inl (o_pushI (nI 0) 78)), (78, .inl (o_callV (fX0_search 8) 2 0 81)), (81, .inl (o_aload 0 82)), (82, .inl (o_get 0 7 85)), (85, .inl (o_iload 3 86)), (86, .inl (o_aload 0 87)), (87, .inl (o_get 0 10 90)), (90, .inl (o_iast 91)), (91, .inl (o_iinc 3 ((-1)) 94)), (94, .inl (o_goto 58)), (97, .inr 3)]
def lX0_find : List (Nat × (Op ⊕ Nat)) := lX0_find_0 ++ (lX0_find_1)
theorem qX0_find : yX0_find.cls = RX0 ∧ yX0_find.cls ≠ "java/lang/invoke/MethodHandle" ∧ yX0_find.cls ≠ "java/lang/invoke/VarHandle" ∧ (parseMethodDescriptor yX0_find.desc).map (fun d => d.parameters.length) = some 2 := by decide +kernel
set_option maxRecDepth 10000 in
theorem hX0_find_0 (l : Launch) {p : Program} {e : Env} {s : State} {m : MethodId} {args : Array Value} {below : List Frame} {meth : Method} {c : Code} {D : va_G} {ad adV : Nat → Nat} {cA : Nat → ClassId} {K : Kt} (C0 : Cx p s m args meth c D ad adV cA cX0_find 4 RX0) (hr : meth.sig.returnType = none) : ∀ q ∈ lX0_find_0, Sd p l e (rmd 11) s m args below meth c (MQ below (QQ D ad cA K) args s 0 0 (AA ad)) D ad cA 4 q.1 (opOf K q.2) := List.forall_mem_cons.mpr ⟨s_aload_n C0 dX0_find_0 rfl, List.forall_mem_cons.mpr ⟨s_iload_n C0 dX0_find_1 rfl, List.forall_mem_cons.mpr ⟨s_putI (ci := 0) (k := 2) C0 dX0_find_2 inX0 tyX0_ok nmX0 rfl (by decide) rfl rfl tw1_228, List.forall_mem_cons.mpr ⟨s_aload_n C0 dX0_find_5 rfl, List.forall_mem_cons.mpr ⟨s_iload_n C0 dX0_find_6 rfl, List.forall_mem_cons.mpr ⟨s_iconst C0 dX0_find_7 rfl, List.forall_mem_cons.mpr ⟨s_min C0 dX0_find_8 tw4_141 tw2_195 tw1_14 twm_min rfl (by decide), List.forall_mem_cons.mpr ⟨s_putI (ci := 0) (k := 3) C0 dX0_find_11 inX0 tyX0_ok nmX0 rfl (by decide) rfl rfl tw1_229, List.forall_mem_cons.mpr ⟨s_iconst C0 dX0_find_14 rfl, List.forall_mem_cons.mpr ⟨s_istore_n C0 dX0_find_15 rfl (by decide), List.forall_mem_cons.mpr ⟨s_iload_n C0 dX0_find_16 rfl, List.forall_mem_cons.mpr ⟨s_aload_n C0 dX0_find_17 rfl, List.forall_mem_cons.mpr ⟨s_get (ci := 0) (k := 0) C0 dX0_find_18 inX0 rfl (by decide) tw1_226, List.forall_mem_cons.mpr ⟨s_get (ci := 1) (k := 0) C0 dX0_find_21 inX1 rfl (by decide) tw1_191, List.forall_mem_cons.mpr ⟨s_get (ci := 9) (k := 0) C0 dX0_find_24 inX9 rfl (by decide) tw1_81, List.forall_mem_cons.mpr ⟨s_icmp_ge C0 dX0_find_27 rfl, List.forall_mem_cons.mpr ⟨s_aload_n C0 dX0_find_30 rfl, List.forall_mem_cons.mpr ⟨s_iload_n C0 dX0_find_31 rfl, List.forall_mem_cons.mpr ⟨s_callV (ci := 0) C0 (kX0_prepare l) dX0_find_32 rfl qX0_prepare tw4_142 tw4_144 twp_29 tw1_8 tw4_145 rfl (by decide) (by decide), List.forall_mem_cons.mpr ⟨s_iinc C0 dX0_find_35 rfl (by decide), List.forall_mem_cons.mpr ⟨s_goto C0 dX0_find_38 rfl, List.forall_mem_cons.mpr ⟨s_aload_n C0 dX0_find_41 rfl, List.forall_mem_cons.mpr ⟨s_get (ci := 0) (k := 7) C0 dX0_find_42 inX0 rfl (by decide) tw1_233, List.forall_mem_cons.mpr ⟨s_aload_n C0 dX0_find_45 rfl, List.forall_mem_cons.mpr ⟨s_get (ci := 0) (k := 3) C0 dX0_find_46 inX0 rfl (by decide) tw1_229, List.forall_mem_cons.mpr ⟨s_iconst C0 dX0_find_49 rfl, List.forall_mem_cons.mpr ⟨s_iast C0 dX0_find_50, List.forall_mem_cons.mpr ⟨s_aload_n C0 dX0_find_51 rfl, List.forall_mem_cons.mpr ⟨s_get (ci := 0) (k := 3) C0 dX0_find_52 inX0 rfl (by decide) tw1_229, List.forall_mem_cons.mpr ⟨s_iconst C0 dX0_find_55 rfl, List.forall_mem_cons.mpr ⟨s_isub C0 dX0_find_56, List.forall_mem_cons.mpr ⟨s_istore_n C0 dX0_find_57 rfl (by decide), List.forall_mem_cons.mpr ⟨s_iload_n C0 dX0_find_58 rfl, List.forall_mem_cons.mpr ⟨s_if_lt C0 dX0_find_59 rfl, List.forall_mem_cons.mpr ⟨s_aload_n C0 dX0_find_62 rfl, List.forall_mem_cons.mpr ⟨s_get (ci := 0) (k := 7) C0 dX0_find_63 inX0 rfl (by decide) tw1_233, List.forall_mem_cons.mpr ⟨s_iload_n C0 dX0_find_66 rfl, List.forall_mem_cons.mpr ⟨s_ldc C0 dX0_find_67 tw4_162, List.forall_mem_cons.mpr ⟨s_iast C0 dX0_find_69, List.forall_mem_cons.mpr ⟨s_aload_n C0 dX0_find_70 rfl, fun _ h => absurd h List.not_mem_nil⟩⟩⟩⟩⟩⟩⟩⟩⟩⟩⟩⟩⟩⟩⟩⟩⟩⟩⟩⟩⟩⟩⟩⟩⟩⟩⟩⟩⟩⟩⟩⟩⟩⟩⟩⟩⟩⟩⟩⟩
set_option maxRecDepth 10000 in
theorem hX0_find_1 (l : Launch) {p : Program} {e : Env} {s : State} {m : MethodId} {args : Array Value} {below : List Frame} {meth : Method} {c : Code} {D : va_G} {ad adV : Nat → Nat} {cA : Nat → ClassId} {K : Kt} (C0 : Cx p s m args meth c D ad adV cA cX0_find 4 RX0) (hr : meth.sig.returnType = none) : ∀ q ∈ lX0_find_1, Sd p l e (rmd 11) s m args below meth c (MQ below (QQ D ad cA K) args s 0 0 (AA ad)) D ad cA 4 q.1 (opOf K q.2) := List.forall_mem_cons.mpr ⟨s_iconst C0 dX0_find_71 rfl, List.forall_mem_cons.mpr ⟨s_putI (ci := 0) (k := 10) C0 dX0_find_72 inX0 tyX0_ok nmX0 rfl (by decide) rfl rfl tw1_237, List.forall_mem_cons.mpr ⟨s_aload_n C0 dX0_find_75 rfl, List.forall_mem_cons.mpr ⟨s_iload_n C0 dX0_find_76 rfl, List.forall_mem_cons.mpr ⟨s_iconst C0 dX0_find_77 rfl, List.forall_mem_cons.mpr ⟨s_callV (ci := 0) C0 (kX0_search l 8) dX0_find_78 rfl qX0_search tw4_163 tw4_165 twp_32 tw1_8 tw4_166 rfl (by decide) (by decide), List.forall_mem_cons.mpr ⟨s_aload_n C0 dX0_find_81 rfl, List.forall_mem_cons.mpr ⟨s_get (ci := 0) (k := 7) C0 dX0_find_82 inX0 rfl (by decide) tw1_233, List.forall_mem_cons.mpr ⟨s_iload_n C0 dX0_find_85 rfl, List.forall_mem_cons.mpr ⟨s_aload_n C0 dX0_find_86 rfl, List.forall_mem_cons.mpr ⟨s_get (ci := 0) (k := 10) C0 dX0_find_87 inX0 rfl (by decide) tw1_237, List.forall_mem_cons.mpr ⟨s_iast C0 dX0_find_90, List.forall_mem_cons.mpr ⟨s_iinc C0 dX0_find_91 rfl (by decide), List.forall_mem_cons.mpr ⟨s_goto C0 dX0_find_94 rfl, List.forall_mem_cons.mpr ⟨s_vret C0 hr dX0_find_97, fun _ h => absurd h List.not_mem_nil⟩⟩⟩⟩⟩⟩⟩⟩⟩⟩⟩⟩⟩⟩⟩
def fX0_find : Mf := mf 4 (fun K => tl K lX0_find)
theorem kX0_find (l : Launch) : Okm l yX0_find cX0_find 4 none 11 fX0_find := Okm_tl (own := RX0) (by decide +kernel) rfl (fun C0 hr => List.forall_mem_append.mpr ⟨hX0_find_0 l C0 hr, hX0_find_1 l C0 hr⟩)
theorem dX1_riskOf_0 : decode cX1_riskOf 0 = .ok (.aload_n 0, 1) := by decide +kernel
theorem dX1_riskOf_1 : decode cX1_riskOf 1 = .ok (.getfield 9, 3) := by decide +kernel
theorem dX1_riskOf_4 : decode cX1_riskOf 4 = .ok (.iload_n 1, 1) := by decide +kernel
theorem dX1_riskOf_5 : decode cX1_riskOf 5 = .ok (.iconst 3, 1) := by decide +kernel
theorem dX1_riskOf_6 : decode cX1_riskOf 6 = .ok (.invokevirtual 29, 3) := by decide +kernel
theorem dX1_riskOf_9 : decode cX1_riskOf 9 = .ok (.iconst 0, 1) := by decide +kernel
theorem dX1_riskOf_10 : decode cX1_riskOf 10 = .ok (.iload_n 2, 1) := by decide +kernel
theorem dX1_riskOf_11 : decode cX1_riskOf 11 = .ok (.aload_n 0, 1) := by decide +kernel
theorem dX1_riskOf_12 : decode cX1_riskOf 12 = .ok (.getfield 9, 3) := by decide +kernel
theorem dX1_riskOf_15 : decode cX1_riskOf 15 = .ok (.iload_n 1, 1) := by decide +kernel
theorem dX1_riskOf_16 : decode cX1_riskOf 16 = .ok (.iconst 2, 1) := by decide +kernel
theorem dX1_riskOf_17 : decode cX1_riskOf 17 = .ok (.invokevirtual 29, 3) := by decide +kernel
theorem dX1_riskOf_20 : decode cX1_riskOf 20 = .ok (.isub, 1) := by decide +kernel
theorem dX1_riskOf_21 : decode cX1_riskOf 21 = .ok (.invokestatic 35, 3) := by decide +kernel
theorem dX1_riskOf_24 : decode cX1_riskOf 24 = .ok (.imul, 1) := by decide +kernel
theorem dX1_riskOf_25 : decode cX1_riskOf 25 = .ok (.ireturn, 1) := by decide +kernel
def lX1_riskOf : List (Nat × (Op ⊕ Nat)) := [(0, .inl (o_aload 0 1)), (1, .inl (o_get 1 0 4)), (4, .inl (o_iload 1 5)), (5, .inl (o_pushI (nI 3) 6)), (6, .inl (o_callV fX9_trait 2 9 9)), (9, .inl (o_pushI (nI 0) 10)), (10, .inl (o_iload 2 11)), (11, .inl (o_aload 0 12)), (12, .inl (o_get 1 0 15)), (15, .inl (o_iload 1 16)), (16, .inl (o_pushI (nI 2) 17)), (17, .inl (o_callV fX9_trait 2 9 20)), (20, .inl (o_isub 21)), (21, .inl (o_max 24)), (24, .inl (o_imul 25)), (25, .inr 0)]
theorem qX1_riskOf : yX1_riskOf.cls = RX1 ∧ yX1_riskOf.cls ≠ "java/lang/invoke/MethodHandle" ∧ yX1_riskOf.cls ≠ "java/lang/invoke/VarHandle" ∧ (parseMethodDescriptor yX1_riskOf.desc).map (fun d => d.parameters.length) = some 2 := by decide +kernel
set_option maxRecDepth 10000 in
theorem hX1_riskOf_0 (l : Launch) {p : Program} {e : Env} {s : State} {m : MethodId} {args : Array Value} {below : List Frame} {meth : Method} {c : Code} {D : va_G} {ad adV : Nat → Nat} {cA : Nat → ClassId} {K : Kt} (C0 : Cx p s m args meth c D ad adV cA cX1_riskOf 3 RX1) (hr : meth.sig.returnType = (some .int)) : ∀ q ∈ lX1_riskOf, Sd p l e (rmd 1) s m args below meth c (MQ below (QQ D ad cA K) args s 0 0 (AA ad)) D ad cA 3 q.1 (opOf K q.2) := List.forall_mem_cons.mpr ⟨s_aload_n C0 dX1_riskOf_0 rfl, List.forall_mem_cons.mpr ⟨s_get (ci := 1) (k := 0) C0 dX1_riskOf_1 inX1 rfl (by decide) tw1_190, List.forall_mem_cons.mpr ⟨s_iload_n C0 dX1_riskOf_4 rfl, List.forall_mem_cons.mpr ⟨s_iconst C0 dX1_riskOf_5 rfl, List.forall_mem_cons.mpr ⟨s_callV (ci := 9) C0 (kX9_trait l) dX1_riskOf_6 rfl qX9_trait tw3_205 tw3_73 tw3_74 tw1_4 tw3_75 rfl (by decide) (by decide), List.forall_mem_cons.mpr ⟨s_iconst C0 dX1_riskOf_9 rfl, List.forall_mem_cons.mpr ⟨s_iload_n C0 dX1_riskOf_10 rfl, List.forall_mem_cons.mpr ⟨s_aload_n C0 dX1_riskOf_11 rfl, List.forall_mem_cons.mpr ⟨s_get (ci := 1) (k := 0) C0 dX1_riskOf_12 inX1 rfl (by decide) tw1_190, List.forall_mem_cons.mpr ⟨s_iload_n C0 dX1_riskOf_15 rfl, List.forall_mem_cons.mpr ⟨s_iconst C0 dX1_riskOf_16 rfl, List.forall_mem_cons.mpr ⟨s_callV (ci := 9) C0 (kX9_trait l) dX1_riskOf_17 rfl qX9_trait tw3_205 tw3_73 tw3_74 tw1_4 tw3_75 rfl (by decide) (by decide), List.forall_mem_cons.mpr ⟨s_isub C0 dX1_riskOf_20, List.forall_mem_cons.mpr ⟨s_max C0 dX1_riskOf_21 tw3_212 tw2_198 tw1_14 twm_max rfl (by decide), List.forall_mem_cons.mpr ⟨s_imul C0 dX1_riskOf_24, List.forall_mem_cons.mpr ⟨s_iret C0 hr dX1_riskOf_25, fun _ h => absurd h List.not_mem_nil⟩⟩⟩⟩⟩⟩⟩⟩⟩⟩⟩⟩⟩⟩⟩⟩
def fX1_riskOf : Mf := mf 3 (fun K => tl K lX1_riskOf)
theorem kX1_riskOf (l : Launch) : Okm l yX1_riskOf cX1_riskOf 3 (some .int) 1 fX1_riskOf := Okm_tl (own := RX1) (by decide +kernel) rfl (fun C0 hr => hX1_riskOf_0 l C0 hr)
theorem dX5_armAt_0 : decode cX5_armAt 0 = .ok (.aload_n 0, 1) := by decide +kernel
theorem dX5_armAt_1 : decode cX5_armAt 1 = .ok (.getfield 15, 3) := by decide +kernel
theorem dX5_armAt_4 : decode cX5_armAt 4 = .ok (.iload_n 1, 1) := by decide +kernel
theorem dX5_armAt_5 : decode cX5_armAt 5 = .ok (.iconst 3, 1) := by decide +kernel
theorem dX5_armAt_6 : decode cX5_armAt 6 = .ok (.imul, 1) := by decide +kernel
theorem dX5_armAt_7 : decode cX5_armAt 7 = .ok (.iload_n 2, 1) := by decide +kernel
theorem dX5_armAt_8 : decode cX5_armAt 8 = .ok (.iadd, 1) := by decide +kernel
theorem dX5_armAt_9 : decode cX5_armAt 9 = .ok (.iaload, 1) := by decide +kernel
theorem dX5_armAt_10 : decode cX5_armAt 10 = .ok (.ireturn, 1) := by decide +kernel
def lX5_armAt : List (Nat × (Op ⊕ Nat)) := [(0, .inl (o_aload 0 1)), (1, .inl (o_get 5 1 4)), (4, .inl (o_iload 1 5)), (5, .inl (o_pushI (nI 3) 6)), (6, .inl (o_imul 7)), (7, .inl (o_iload 2 8)), (8, .inl (o_iadd 9)), (9, .inl (o_iald 10)), (10, .inr 0)]
theorem qX5_armAt : yX5_armAt.cls = RX5 ∧ yX5_armAt.cls ≠ "java/lang/invoke/MethodHandle" ∧ yX5_armAt.cls ≠ "java/lang/invoke/VarHandle" ∧ (parseMethodDescriptor yX5_armAt.desc).map (fun d => d.parameters.length) = some 2 := by decide +kernel
set_option maxRecDepth 10000 in
theorem hX5_armAt_0 (l : Launch) {p : Program} {e : Env} {s : State} {m : MethodId} {args : Array Value} {below : List Frame} {meth : Method} {c : Code} {D : va_G} {ad adV : Nat → Nat} {cA : Nat → ClassId} {K : Kt} (C0 : Cx p s m args meth c D ad adV cA cX5_armAt 3 RX5) (hr : meth.sig.returnType = (some .int)) : ∀ q ∈ lX5_armAt, Sd p l e (rmd 0) s m args below meth c (MQ below (QQ D ad cA K) args s 0 0 (AA ad)) D ad cA 3 q.1 (opOf K q.2) := List.forall_mem_cons.mpr ⟨s_aload_n C0 dX5_armAt_0 rfl, List.forall_mem_cons.mpr ⟨s_get (ci := 5) (k := 1) C0 dX5_armAt_1 inX5 rfl (by decide) tw1_172, List.forall_mem_cons.mpr ⟨s_iload_n C0 dX5_armAt_4 rfl, List.forall_mem_cons.mpr ⟨s_iconst C0 dX5_armAt_5 rfl, List.forall_mem_cons.mpr ⟨s_imul C0 dX5_armAt_6, List.forall_mem_cons.mpr ⟨s_iload_n C0 dX5_armAt_7 rfl, List.forall_mem_cons.mpr ⟨s_iadd C0 dX5_armAt_8, List.forall_mem_cons.mpr ⟨s_iald C0 dX5_armAt_9, List.forall_mem_cons.mpr ⟨s_iret C0 hr dX5_armAt_10, fun _ h => absurd h List.not_mem_nil⟩⟩⟩⟩⟩⟩⟩⟩⟩
def fX5_armAt : Mf := mf 3 (fun K => tl K lX5_armAt)
theorem kX5_armAt (l : Launch) : Okm l yX5_armAt cX5_armAt 3 (some .int) 0 fX5_armAt := Okm_tl (own := RX5) (by decide +kernel) rfl (fun C0 hr => hX5_armAt_0 l C0 hr)
theorem dX5_throwsAt_0 : decode cX5_throwsAt 0 = .ok (.aload_n 0, 1) := by decide +kernel
theorem dX5_throwsAt_1 : decode cX5_throwsAt 1 = .ok (.getfield 18, 3) := by decide +kernel
theorem dX5_throwsAt_4 : decode cX5_throwsAt 4 = .ok (.iload_n 1, 1) := by decide +kernel
theorem dX5_throwsAt_5 : decode cX5_throwsAt 5 = .ok (.iconst 3, 1) := by decide +kernel
theorem dX5_throwsAt_6 : decode cX5_throwsAt 6 = .ok (.imul, 1) := by decide +kernel
theorem dX5_throwsAt_7 : decode cX5_throwsAt 7 = .ok (.iload_n 2, 1) := by decide +kernel
theorem dX5_throwsAt_8 : decode cX5_throwsAt 8 = .ok (.iadd, 1) := by decide +kernel
theorem dX5_throwsAt_9 : decode cX5_throwsAt 9 = .ok (.iaload, 1) := by decide +kernel
theorem dX5_throwsAt_10 : decode cX5_throwsAt 10 = .ok (.ireturn, 1) := by decide +kernel
def lX5_throwsAt : List (Nat × (Op ⊕ Nat)) := [(0, .inl (o_aload 0 1)), (1, .inl (o_get 5 2 4)), (4, .inl (o_iload 1 5)), (5, .inl (o_pushI (nI 3) 6)), (6, .inl (o_imul 7)), (7, .inl (o_iload 2 8)), (8, .inl (o_iadd 9)), (9, .inl (o_iald 10)), (10, .inr 0)]
theorem qX5_throwsAt : yX5_throwsAt.cls = RX5 ∧ yX5_throwsAt.cls ≠ "java/lang/invoke/MethodHandle" ∧ yX5_throwsAt.cls ≠ "java/lang/invoke/VarHandle" ∧ (parseMethodDescriptor yX5_throwsAt.desc).map (fun d => d.parameters.length) = some 2 := by decide +kernel
set_option maxRecDepth 10000 in
theorem hX5_throwsAt_0 (l : Launch) {p : Program} {e : Env} {s : State} {m : MethodId} {args : Array Value} {below : List Frame} {meth : Method} {c : Code} {D : va_G} {ad adV : Nat → Nat} {cA : Nat → ClassId} {K : Kt} (C0 : Cx p s m args meth c D ad adV cA cX5_throwsAt 3 RX5) (hr : meth.sig.returnType = (some .int)) : ∀ q ∈ lX5_throwsAt, Sd p l e (rmd 0) s m args below meth c (MQ below (QQ D ad cA K) args s 0 0 (AA ad)) D ad cA 3 q.1 (opOf K q.2) := List.forall_mem_cons.mpr ⟨s_aload_n C0 dX5_throwsAt_0 rfl, List.forall_mem_cons.mpr ⟨s_get (ci := 5) (k := 2) C0 dX5_throwsAt_1 inX5 rfl (by decide) tw1_173, List.forall_mem_cons.mpr ⟨s_iload_n C0 dX5_throwsAt_4 rfl, List.forall_mem_cons.mpr ⟨s_iconst C0 dX5_throwsAt_5 rfl, List.forall_mem_cons.mpr ⟨s_imul C0 dX5_throwsAt_6, List.forall_mem_cons.mpr ⟨s_iload_n C0 dX5_throwsAt_7 rfl, List.forall_mem_cons.mpr ⟨s_iadd C0 dX5_throwsAt_8, List.forall_mem_cons.mpr ⟨s_iald C0 dX5_throwsAt_9, List.forall_mem_cons.mpr ⟨s_iret C0 hr dX5_throwsAt_10, fun _ h => absurd h List.not_mem_nil⟩⟩⟩⟩⟩⟩⟩⟩⟩
def fX5_throwsAt : Mf := mf 3 (fun K => tl K lX5_throwsAt)
theorem kX5_throwsAt (l : Launch) : Okm l yX5_throwsAt cX5_throwsAt 3 (some .int) 0 fX5_throwsAt := Okm_tl (own := RX5) (by decide +kernel) rfl (fun C0 hr => hX5_throwsAt_0 l C0 hr)
theorem dX1_valueAt_0 : decode cX1_valueAt 0 = .ok (.aload_n 0, 1) := by decide +kernel
theorem dX1_valueAt_1 : decode cX1_valueAt 1 = .ok (.aload_n 0, 1) := by decide +kernel
theorem dX1_valueAt_2 : decode cX1_valueAt 2 = .ok (.getfield 15, 3) := by decide +kernel
theorem dX1_valueAt_5 : decode cX1_valueAt 5 = .ok (.iload_n 1, 1) := by decide +kernel
theorem dX1_valueAt_6 : decode cX1_valueAt 6 = .ok (.iload_n 2, 1) := by decide +kernel
theorem dX1_valueAt_7 : decode cX1_valueAt 7 = .ok (.invokevirtual 46, 3) := by decide +kernel
theorem dX1_valueAt_10 : decode cX1_valueAt 10 = .ok (.iload_n 1, 1) := by decide +kernel
theorem dX1_valueAt_11 : decode cX1_valueAt 11 = .ok (.aload_n 0, 1) := by decide +kernel
theorem dX1_valueAt_12 : decode cX1_valueAt 12 = .ok (.getfield 15, 3) := by decide +kernel
theorem dX1_valueAt_15 : decode cX1_valueAt 15 = .ok (.iload_n 1, 1) := by decide +kernel
theorem dX1_valueAt_16 : decode cX1_valueAt 16 = .ok (.iload_n 2, 1) := by decide +kernel
theorem dX1_valueAt_17 : decode cX1_valueAt 17 = .ok (.invokevirtual 51, 3) := by decide +kernel
theorem dX1_valueAt_20 : decode cX1_valueAt 20 = .ok (.invokevirtual 54, 3) := by decide +kernel
theorem dX1_valueAt_23 : decode cX1_valueAt 23 = .ok (.ireturn, 1) := by decide +kernel
def lX1_valueAt : List (Nat × (Op ⊕ Nat)) := [(0, .inl (o_aload 0 1)), (1, .inl (o_aload 0 2)), (2, .inl (o_get 1 1 5)), (5, .inl (o_iload 1 6)), (6, .inl (o_iload 2 7)), (7, .inl (o_callV fX5_armAt 2 5 10)), (10, .inl (o_iload 1 11)), (11, .inl (o_aload 0 12)), (12, .inl (o_get 1 1 15)), (15, .inl (o_iload 1 16)), (16, .inl (o_iload 2 17)), (17, .inl (o_callV fX5_throwsAt 2 5 20)), (20, .inl (o_callV fX1_valueOf 3 1 23)), (23, .inr 0)]
theorem qX1_valueAt : yX1_valueAt.cls = RX1 ∧ yX1_valueAt.cls ≠ "java/lang/invoke/MethodHandle" ∧ yX1_valueAt.cls ≠ "java/lang/invoke/VarHandle" ∧ (parseMethodDescriptor yX1_valueAt.desc).map (fun d => d.parameters.length) = some 2 := by decide +kernel
set_option maxRecDepth 10000 in
theorem hX1_valueAt_0 (l : Launch) {p : Program} {e : Env} {s : State} {m : MethodId} {args : Array Value} {below : List Frame} {meth : Method} {c : Code} {D : va_G} {ad adV : Nat → Nat} {cA : Nat → ClassId} {K : Kt} (C0 : Cx p s m args meth c D ad adV cA cX1_valueAt 3 RX1) (hr : meth.sig.returnType = (some .int)) : ∀ q ∈ lX1_valueAt, Sd p l e (rmd 3) s m args below meth c (MQ below (QQ D ad cA K) args s 0 0 (AA ad)) D ad cA 3 q.1 (opOf K q.2) := List.forall_mem_cons.mpr ⟨s_aload_n C0 dX1_valueAt_0 rfl, List.forall_mem_cons.mpr ⟨s_aload_n C0 dX1_valueAt_1 rfl, List.forall_mem_cons.mpr ⟨s_get (ci := 1) (k := 1) C0 dX1_valueAt_2 inX1 rfl (by decide) tw1_195, List.forall_mem_cons.mpr ⟨s_iload_n C0 dX1_valueAt_5 rfl, List.forall_mem_cons.mpr ⟨s_iload_n C0 dX1_valueAt_6 rfl, List.forall_mem_cons.mpr ⟨s_callV (ci := 5) C0 (kX5_armAt l) dX1_valueAt_7 rfl qX5_armAt tw3_239 tw3_128 tw3_129 tw1_5 tw3_130 rfl (by decide) (by decide), List.forall_mem_cons.mpr ⟨s_iload_n C0 dX1_valueAt_10 rfl, List.forall_mem_cons.mpr ⟨s_aload_n C0 dX1_valueAt_11 rfl, List.forall_mem_cons.mpr ⟨s_get (ci := 1) (k := 1) C0 dX1_valueAt_12 inX1 rfl (by decide) tw1_195, List.forall_mem_cons.mpr ⟨s_iload_n C0 dX1_valueAt_15 rfl, List.forall_mem_cons.mpr ⟨s_iload_n C0 dX1_valueAt_16 rfl, List.forall_mem_cons.mpr ⟨s_callV (ci := 5) C0 (kX5_throwsAt l) dX1_valueAt_17 rfl qX5_throwsAt tw3_230 tw3_132 tw3_133 tw1_5 tw3_134 rfl (by decide) (by decide), List.forall_mem_cons.mpr ⟨s_callV (ci := 1) C0 (kX1_valueOf l) dX1_valueAt_20 rfl qX1_valueOf tw3_201 tw3_202 tw3_203 tw1_6 tw3_204 rfl (by decide) (by decide), List.forall_mem_cons.mpr ⟨s_iret C0 hr dX1_valueAt_23, fun _ h => absurd h List.not_mem_nil⟩⟩⟩⟩⟩⟩⟩⟩⟩⟩⟩⟩⟩⟩
def fX1_valueAt : Mf := mf 3 (fun K => tl K lX1_valueAt)
theorem kX1_valueAt (l : Launch) : Okm l yX1_valueAt cX1_valueAt 3 (some .int) 3 fX1_valueAt := Okm_tl (own := RX1) (by decide +kernel) rfl (fun C0 hr => hX1_valueAt_0 l C0 hr)
theorem dX1_riskAt_0 : decode cX1_riskAt 0 = .ok (.aload_n 0, 1) := by decide +kernel
theorem dX1_riskAt_1 : decode cX1_riskAt 1 = .ok (.aload_n 0, 1) := by decide +kernel
theorem dX1_riskAt_2 : decode cX1_riskAt 2 = .ok (.getfield 15, 3) := by decide +kernel
theorem dX1_riskAt_5 : decode cX1_riskAt 5 = .ok (.iload_n 1, 1) := by decide +kernel
theorem dX1_riskAt_6 : decode cX1_riskAt 6 = .ok (.iload_n 2, 1) := by decide +kernel
theorem dX1_riskAt_7 : decode cX1_riskAt 7 = .ok (.invokevirtual 46, 3) := by decide +kernel
theorem dX1_riskAt_10 : decode cX1_riskAt 10 = .ok (.aload_n 0, 1) := by decide +kernel
theorem dX1_riskAt_11 : decode cX1_riskAt 11 = .ok (.getfield 15, 3) := by decide +kernel
theorem dX1_riskAt_14 : decode cX1_riskAt 14 = .ok (.iload_n 1, 1) := by decide +kernel
theorem dX1_riskAt_15 : decode cX1_riskAt 15 = .ok (.iload_n 2, 1) := by decide +kernel
theorem dX1_riskAt_16 : decode cX1_riskAt 16 = .ok (.invokevirtual 51, 3) := by decide +kernel
theorem dX1_riskAt_19 : decode cX1_riskAt 19 = .ok (.invokevirtual 58, 3) := by decide +kernel
theorem dX1_riskAt_22 : decode cX1_riskAt 22 = .ok (.ireturn, 1) := by decide +kernel
def lX1_riskAt : List (Nat × (Op ⊕ Nat)) := [(0, .inl (o_aload 0 1)), (1, .inl (o_aload 0 2)), (2, .inl (o_get 1 1 5)), (5, .inl (o_iload 1 6)), (6, .inl (o_iload 2 7)), (7, .inl (o_callV fX5_armAt 2 5 10)), (10, .inl (o_aload 0 11)), (11, .inl (o_get 1 1 14)), (14, .inl (o_iload 1 15)), (15, .inl (o_iload 2 16)), (16, .inl (o_callV fX5_throwsAt 2 5 19)), (19, .inl (o_callV fX1_riskOf 2 1 22)), (22, .inr 0)]
theorem qX1_riskAt : yX1_riskAt.cls = RX1 ∧ yX1_riskAt.cls ≠ "java/lang/invoke/MethodHandle" ∧ yX1_riskAt.cls ≠ "java/lang/invoke/VarHandle" ∧ (parseMethodDescriptor yX1_riskAt.desc).map (fun d => d.parameters.length) = some 2 := by decide +kernel
set_option maxRecDepth 10000 in
theorem hX1_riskAt_0 (l : Launch) {p : Program} {e : Env} {s : State} {m : MethodId} {args : Array Value} {below : List Frame} {meth : Method} {c : Code} {D : va_G} {ad adV : Nat → Nat} {cA : Nat → ClassId} {K : Kt} (C0 : Cx p s m args meth c D ad adV cA cX1_riskAt 3 RX1) (hr : meth.sig.returnType = (some .int)) : ∀ q ∈ lX1_riskAt, Sd p l e (rmd 2) s m args below meth c (MQ below (QQ D ad cA K) args s 0 0 (AA ad)) D ad cA 3 q.1 (opOf K q.2) := List.forall_mem_cons.mpr ⟨s_aload_n C0 dX1_riskAt_0 rfl, List.forall_mem_cons.mpr ⟨s_aload_n C0 dX1_riskAt_1 rfl, List.forall_mem_cons.mpr ⟨s_get (ci := 1) (k := 1) C0 dX1_riskAt_2 inX1 rfl (by decide) tw1_195, List.forall_mem_cons.mpr ⟨s_iload_n C0 dX1_riskAt_5 rfl, List.forall_mem_cons.mpr ⟨s_iload_n C0 dX1_riskAt_6 rfl, List.forall_mem_cons.mpr ⟨s_callV (ci := 5) C0 (kX5_armAt l) dX1_riskAt_7 rfl qX5_armAt tw3_239 tw3_128 tw3_129 tw1_5 tw3_130 rfl (by decide) (by decide), List.forall_mem_cons.mpr ⟨s_aload_n C0 dX1_riskAt_10 rfl, List.forall_mem_cons.mpr ⟨s_get (ci := 1) (k := 1) C0 dX1_riskAt_11 inX1 rfl (by decide) tw1_195, List.forall_mem_cons.mpr ⟨s_iload_n C0 dX1_riskAt_14 rfl, List.forall_mem_cons.mpr ⟨s_iload_n C0 dX1_riskAt_15 rfl, List.forall_mem_cons.mpr ⟨s_callV (ci := 5) C0 (kX5_throwsAt l) dX1_riskAt_16 rfl qX5_throwsAt tw3_230 tw3_132 tw3_133 tw1_5 tw3_134 rfl (by decide) (by decide), List.forall_mem_cons.mpr ⟨s_callV (ci := 1) C0 (kX1_riskOf l) dX1_riskAt_19 rfl qX1_riskOf tw4_27 tw4_28 tw4_29 tw1_6 tw4_30 rfl (by decide) (by decide), List.forall_mem_cons.mpr ⟨s_iret C0 hr dX1_riskAt_22, fun _ h => absurd h List.not_mem_nil⟩⟩⟩⟩⟩⟩⟩⟩⟩⟩⟩⟩⟩
def fX1_riskAt : Mf := mf 3 (fun K => tl K lX1_riskAt)
theorem kX1_riskAt (l : Launch) : Okm l yX1_riskAt cX1_riskAt 3 (some .int) 2 fX1_riskAt := Okm_tl (own := RX1) (by decide +kernel) rfl (fun C0 hr => hX1_riskAt_0 l C0 hr)
theorem dX1_leftIn_0 : decode cX1_leftIn 0 = .ok (.aload_n 0, 1) := by decide +kernel
theorem dX1_leftIn_1 : decode cX1_leftIn 1 = .ok (.getfield 9, 3) := by decide +kernel
theorem dX1_leftIn_4 : decode cX1_leftIn 4 = .ok (.iload_n 1, 1) := by decide +kernel
theorem dX1_leftIn_5 : decode cX1_leftIn 5 = .ok (.iconst 2, 1) := by decide +kernel
theorem dX1_leftIn_6 : decode cX1_leftIn 6 = .ok (.invokevirtual 19, 3) := by decide +kernel
theorem dX1_leftIn_9 : decode cX1_leftIn 9 = .ok (.istore_n 2, 1) := by decide +kernel
theorem dX1_leftIn_10 : decode cX1_leftIn 10 = .ok (.iconst 0, 1) := by decide +kernel
theorem dX1_leftIn_11 : decode cX1_leftIn 11 = .ok (.istore_n 3, 1) := by decide +kernel
theorem dX1_leftIn_12 : decode cX1_leftIn 12 = .ok (.iload_n 3, 1) := by decide +kernel
theorem dX1_leftIn_13 : decode cX1_leftIn 13 = .ok (.aload_n 0, 1) := by decide +kernel
theorem dX1_leftIn_14 : decode cX1_leftIn 14 = .ok (.getfield 15, 3) := by decide +kernel
theorem dX1_leftIn_17 : decode cX1_leftIn 17 = .ok (.getfield 61, 3) := by decide +kernel
theorem dX1_leftIn_20 : decode cX1_leftIn 20 = .ok (.iload_n 1, 1) := by decide +kernel
theorem dX1_leftIn_21 : decode cX1_leftIn 21 = .ok (.iaload, 1) := by decide +kernel
theorem dX1_leftIn_22 : decode cX1_leftIn 22 = .ok (.if_icmp .ge 21, 3) := by decide +kernel
theorem dX1_leftIn_25 : decode cX1_leftIn 25 = .ok (.iload_n 2, 1) := by decide +kernel
theorem dX1_leftIn_26 : decode cX1_leftIn 26 = .ok (.aload_n 0, 1) := by decide +kernel
theorem dX1_leftIn_27 : decode cX1_leftIn 27 = .ok (.getfield 15, 3) := by decide +kernel
theorem dX1_leftIn_30 : decode cX1_leftIn 30 = .ok (.iload_n 1, 1) := by decide +kernel
theorem dX1_leftIn_31 : decode cX1_leftIn 31 = .ok (.iload_n 3, 1) := by decide +kernel
theorem dX1_leftIn_32 : decode cX1_leftIn 32 = .ok (.invokevirtual 51, 3) := by decide +kernel
theorem dX1_leftIn_35 : decode cX1_leftIn 35 = .ok (.isub, 1) := by decide +kernel
theorem dX1_leftIn_36 : decode cX1_leftIn 36 = .ok (.istore_n 2, 1) := by decide +kernel
theorem dX1_leftIn_37 : decode cX1_leftIn 37 = .ok (.iinc 3 1, 3) := by decide +kernel
theorem dX1_leftIn_40 : decode cX1_leftIn 40 = .ok (.goto (-28), 3) := by decide +kernel
theorem dX1_leftIn_43 : decode cX1_leftIn 43 = .ok (.iload_n 2, 1) := by decide +kernel
theorem dX1_leftIn_44 : decode cX1_leftIn 44 = .ok (.ireturn, 1) := by decide +kernel
def lX1_leftIn : List (Nat × (Op ⊕ Nat)) := [(0, .inl (o_aload 0 1)), (1, .inl (o_get 1 0 4)), (4, .inl (o_iload 1 5)), (5, .inl (o_pushI (nI 2) 6)), (6, .inl (o_callV fX9_fact 2 9 9)), (9, .inl (o_istore 2 10)), (10, .inl (o_pushI (nI 0) 11)), (11, .inl (o_istore 3 12)), (12, .inl (o_iload 3 13)), (13, .inl (o_aload 0 14)), (14, .inl (o_get 1 1 17)), (17, .inl (o_get 5 0 20)), (20, .inl (o_iload 1 21)), (21, .inl (o_iald 22)), (22, .inl (o_icmp_ge 43 25)), (25, .inl (o_iload 2 26)), (26, .inl (o_aload 0 27)), (27, .inl (o_get 1 1 30)), (30, .inl (o_iload 1 31)), (31, .inl (o_iload 3 32)), (32, .inl (o_callV fX5_throwsAt 2 5 35)), (35, .inl (o_isub 36)), (36, .inl (o_istore 2 37)), (37, .inl (o_iinc 3 (nI 1) 40)), (40, .inl (o_goto 12)), (43, .inl (o_iload 2 44)), (44, .inr 0)]
theorem qX1_leftIn : yX1_leftIn.cls = RX1 ∧ yX1_leftIn.cls ≠ "java/lang/invoke/MethodHandle" ∧ yX1_leftIn.cls ≠ "java/lang/invoke/VarHandle" ∧ (parseMethodDescriptor yX1_leftIn.desc).map (fun d => d.parameters.length) = some 1 := by decide +kernel
set_option maxRecDepth 10000 in
theorem hX1_leftIn_0 (l : Launch) {p : Program} {e : Env} {s : State} {m : MethodId} {args : Array Value} {below : List Frame} {meth : Method} {c : Code} {D : va_G} {ad adV : Nat → Nat} {cA : Nat → ClassId} {K : Kt} (C0 : Cx p s m args meth c D ad adV cA cX1_leftIn 4 RX1) (hr : meth.sig.returnType = (some .int)) : ∀ q ∈ lX1_leftIn, Sd p l e (rmd 1) s m args below meth c (MQ below (QQ D ad cA K) args s 0 0 (AA ad)) D ad cA 4 q.1 (opOf K q.2) := List.forall_mem_cons.mpr ⟨s_aload_n C0 dX1_leftIn_0 rfl, List.forall_mem_cons.mpr ⟨s_get (ci := 1) (k := 0) C0 dX1_leftIn_1 inX1 rfl (by decide) tw1_190, List.forall_mem_cons.mpr ⟨s_iload_n C0 dX1_leftIn_4 rfl, List.forall_mem_cons.mpr ⟨s_iconst C0 dX1_leftIn_5 rfl, List.forall_mem_cons.mpr ⟨s_callV (ci := 9) C0 (kX9_fact l) dX1_leftIn_6 rfl qX9_fact tw3_211 tw3_92 tw3_93 tw1_4 tw3_94 rfl (by decide) (by decide), List.forall_mem_cons.mpr ⟨s_istore_n C0 dX1_leftIn_9 rfl (by decide), List.forall_mem_cons.mpr ⟨s_iconst C0 dX1_leftIn_10 rfl, List.forall_mem_cons.mpr ⟨s_istore_n C0 dX1_leftIn_11 rfl (by decide), List.forall_mem_cons.mpr ⟨s_iload_n C0 dX1_leftIn_12 rfl, List.forall_mem_cons.mpr ⟨s_aload_n C0 dX1_leftIn_13 rfl, List.forall_mem_cons.mpr ⟨s_get (ci := 1) (k := 1) C0 dX1_leftIn_14 inX1 rfl (by decide) tw1_195, List.forall_mem_cons.mpr ⟨s_get (ci := 5) (k := 0) C0 dX1_leftIn_17 inX5 rfl (by decide) tw1_169, List.forall_mem_cons.mpr ⟨s_iload_n C0 dX1_leftIn_20 rfl, List.forall_mem_cons.mpr ⟨s_iald C0 dX1_leftIn_21, List.forall_mem_cons.mpr ⟨s_icmp_ge C0 dX1_leftIn_22 rfl, List.forall_mem_cons.mpr ⟨s_iload_n C0 dX1_leftIn_25 rfl, List.forall_mem_cons.mpr ⟨s_aload_n C0 dX1_leftIn_26 rfl, List.forall_mem_cons.mpr ⟨s_get (ci := 1) (k := 1) C0 dX1_leftIn_27 inX1 rfl (by decide) tw1_195, List.forall_mem_cons.mpr ⟨s_iload_n C0 dX1_leftIn_30 rfl, List.forall_mem_cons.mpr ⟨s_iload_n C0 dX1_leftIn_31 rfl, List.forall_mem_cons.mpr ⟨s_callV (ci := 5) C0 (kX5_throwsAt l) dX1_leftIn_32 rfl qX5_throwsAt tw3_230 tw3_132 tw3_133 tw1_5 tw3_134 rfl (by decide) (by decide), List.forall_mem_cons.mpr ⟨s_isub C0 dX1_leftIn_35, List.forall_mem_cons.mpr ⟨s_istore_n C0 dX1_leftIn_36 rfl (by decide), List.forall_mem_cons.mpr ⟨s_iinc C0 dX1_leftIn_37 rfl (by decide), List.forall_mem_cons.mpr ⟨s_goto C0 dX1_leftIn_40 rfl, List.forall_mem_cons.mpr ⟨s_iload_n C0 dX1_leftIn_43 rfl, List.forall_mem_cons.mpr ⟨s_iret C0 hr dX1_leftIn_44, fun _ h => absurd h List.not_mem_nil⟩⟩⟩⟩⟩⟩⟩⟩⟩⟩⟩⟩⟩⟩⟩⟩⟩⟩⟩⟩⟩⟩⟩⟩⟩⟩⟩
def fX1_leftIn : Mf := mf 4 (fun K => tl K lX1_leftIn)
theorem kX1_leftIn (l : Launch) : Okm l yX1_leftIn cX1_leftIn 4 (some .int) 1 fX1_leftIn := Okm_tl (own := RX1) (by decide +kernel) rfl (fun C0 hr => hX1_leftIn_0 l C0 hr)
theorem dX1_valueOfGame_0 : decode cX1_valueOfGame 0 = .ok (.iconst 0, 1) := by decide +kernel
theorem dX1_valueOfGame_1 : decode cX1_valueOfGame 1 = .ok (.istore_n 2, 1) := by decide +kernel
theorem dX1_valueOfGame_2 : decode cX1_valueOfGame 2 = .ok (.iconst 0, 1) := by decide +kernel
theorem dX1_valueOfGame_3 : decode cX1_valueOfGame 3 = .ok (.istore_n 3, 1) := by decide +kernel
theorem dX1_valueOfGame_4 : decode cX1_valueOfGame 4 = .ok (.iload_n 3, 1) := by decide +kernel
theorem dX1_valueOfGame_5 : decode cX1_valueOfGame 5 = .ok (.aload_n 0, 1) := by decide +kernel
theorem dX1_valueOfGame_6 : decode cX1_valueOfGame 6 = .ok (.getfield 15, 3) := by decide +kernel
theorem dX1_valueOfGame_9 : decode cX1_valueOfGame 9 = .ok (.getfield 61, 3) := by decide +kernel
theorem dX1_valueOfGame_12 : decode cX1_valueOfGame 12 = .ok (.iload_n 1, 1) := by decide +kernel
theorem dX1_valueOfGame_13 : decode cX1_valueOfGame 13 = .ok (.iaload, 1) := by decide +kernel
theorem dX1_valueOfGame_14 : decode cX1_valueOfGame 14 = .ok (.if_icmp .ge 18, 3) := by decide +kernel
theorem dX1_valueOfGame_17 : decode cX1_valueOfGame 17 = .ok (.iload_n 2, 1) := by decide +kernel
theorem dX1_valueOfGame_18 : decode cX1_valueOfGame 18 = .ok (.aload_n 0, 1) := by decide +kernel
theorem dX1_valueOfGame_19 : decode cX1_valueOfGame 19 = .ok (.iload_n 1, 1) := by decide +kernel
theorem dX1_valueOfGame_20 : decode cX1_valueOfGame 20 = .ok (.iload_n 3, 1) := by decide +kernel
theorem dX1_valueOfGame_21 : decode cX1_valueOfGame 21 = .ok (.invokevirtual 64, 3) := by decide +kernel
theorem dX1_valueOfGame_24 : decode cX1_valueOfGame 24 = .ok (.iadd, 1) := by decide +kernel
theorem dX1_valueOfGame_25 : decode cX1_valueOfGame 25 = .ok (.istore_n 2, 1) := by decide +kernel
theorem dX1_valueOfGame_26 : decode cX1_valueOfGame 26 = .ok (.iinc 3 1, 3) := by decide +kernel
theorem dX1_valueOfGame_29 : decode cX1_valueOfGame 29 = .ok (.goto (-25), 3) := by decide +kernel
theorem dX1_valueOfGame_32 : decode cX1_valueOfGame 32 = .ok (.iload_n 2, 1) := by decide +kernel
theorem dX1_valueOfGame_33 : decode cX1_valueOfGame 33 = .ok (.ireturn, 1) := by decide +kernel
def lX1_valueOfGame : List (Nat × (Op ⊕ Nat)) := [(0, .inl (o_pushI (nI 0) 1)), (1, .inl (o_istore 2 2)), (2, .inl (o_pushI (nI 0) 3)), (3, .inl (o_istore 3 4)), (4, .inl (o_iload 3 5)), (5, .inl (o_aload 0 6)), (6, .inl (o_get 1 1 9)), (9, .inl (o_get 5 0 12)), (12, .inl (o_iload 1 13)), (13, .inl (o_iald 14)), (14, .inl (o_icmp_ge 32 17)), (17, .inl (o_iload 2 18)), (18, .inl (o_aload 0 19)), (19, .inl (o_iload 1 20)), (20, .inl (o_iload 3 21)), (21, .inl (o_callV fX1_valueAt 2 1 24)), (24, .inl (o_iadd 25)), (25, .inl (o_istore 2 26)), (26, .inl (o_iinc 3 (nI 1) 29)), (29, .inl (o_goto 4)), (32, .inl (o_iload 2 33)), (33, .inr 0)]
theorem qX1_valueOfGame : yX1_valueOfGame.cls = RX1 ∧ yX1_valueOfGame.cls ≠ "java/lang/invoke/MethodHandle" ∧ yX1_valueOfGame.cls ≠ "java/lang/invoke/VarHandle" ∧ (parseMethodDescriptor yX1_valueOfGame.desc).map (fun d => d.parameters.length) = some 1 := by decide +kernel
set_option maxRecDepth 10000 in
theorem hX1_valueOfGame_0 (l : Launch) {p : Program} {e : Env} {s : State} {m : MethodId} {args : Array Value} {below : List Frame} {meth : Method} {c : Code} {D : va_G} {ad adV : Nat → Nat} {cA : Nat → ClassId} {K : Kt} (C0 : Cx p s m args meth c D ad adV cA cX1_valueOfGame 4 RX1) (hr : meth.sig.returnType = (some .int)) : ∀ q ∈ lX1_valueOfGame, Sd p l e (rmd 4) s m args below meth c (MQ below (QQ D ad cA K) args s 0 0 (AA ad)) D ad cA 4 q.1 (opOf K q.2) := List.forall_mem_cons.mpr ⟨s_iconst C0 dX1_valueOfGame_0 rfl, List.forall_mem_cons.mpr ⟨s_istore_n C0 dX1_valueOfGame_1 rfl (by decide), List.forall_mem_cons.mpr ⟨s_iconst C0 dX1_valueOfGame_2 rfl, List.forall_mem_cons.mpr ⟨s_istore_n C0 dX1_valueOfGame_3 rfl (by decide), List.forall_mem_cons.mpr ⟨s_iload_n C0 dX1_valueOfGame_4 rfl, List.forall_mem_cons.mpr ⟨s_aload_n C0 dX1_valueOfGame_5 rfl, List.forall_mem_cons.mpr ⟨s_get (ci := 1) (k := 1) C0 dX1_valueOfGame_6 inX1 rfl (by decide) tw1_195, List.forall_mem_cons.mpr ⟨s_get (ci := 5) (k := 0) C0 dX1_valueOfGame_9 inX5 rfl (by decide) tw1_169, List.forall_mem_cons.mpr ⟨s_iload_n C0 dX1_valueOfGame_12 rfl, List.forall_mem_cons.mpr ⟨s_iald C0 dX1_valueOfGame_13, List.forall_mem_cons.mpr ⟨s_icmp_ge C0 dX1_valueOfGame_14 rfl, List.forall_mem_cons.mpr ⟨s_iload_n C0 dX1_valueOfGame_17 rfl, List.forall_mem_cons.mpr ⟨s_aload_n C0 dX1_valueOfGame_18 rfl, List.forall_mem_cons.mpr ⟨s_iload_n C0 dX1_valueOfGame_19 rfl, List.forall_mem_cons.mpr ⟨s_iload_n C0 dX1_valueOfGame_20 rfl, List.forall_mem_cons.mpr ⟨s_callV (ci := 1) C0 (kX1_valueAt l) dX1_valueOfGame_21 rfl qX1_valueAt tw3_235 tw3_236 tw3_237 tw1_6 tw3_238 rfl (by decide) (by decide), List.forall_mem_cons.mpr ⟨s_iadd C0 dX1_valueOfGame_24, List.forall_mem_cons.mpr ⟨s_istore_n C0 dX1_valueOfGame_25 rfl (by decide), List.forall_mem_cons.mpr ⟨s_iinc C0 dX1_valueOfGame_26 rfl (by decide), List.forall_mem_cons.mpr ⟨s_goto C0 dX1_valueOfGame_29 rfl, List.forall_mem_cons.mpr ⟨s_iload_n C0 dX1_valueOfGame_32 rfl, List.forall_mem_cons.mpr ⟨s_iret C0 hr dX1_valueOfGame_33, fun _ h => absurd h List.not_mem_nil⟩⟩⟩⟩⟩⟩⟩⟩⟩⟩⟩⟩⟩⟩⟩⟩⟩⟩⟩⟩⟩⟩
def fX1_valueOfGame : Mf := mf 4 (fun K => tl K lX1_valueOfGame)
theorem kX1_valueOfGame (l : Launch) : Okm l yX1_valueOfGame cX1_valueOfGame 4 (some .int) 4 fX1_valueOfGame := Okm_tl (own := RX1) (by decide +kernel) rfl (fun C0 hr => hX1_valueOfGame_0 l C0 hr)
theorem dX1_allOutings_0 : decode cX1_allOutings 0 = .ok (.iconst 0, 1) := by decide +kernel
theorem dX1_allOutings_1 : decode cX1_allOutings 1 = .ok (.istore_n 1, 1) := by decide +kernel
theorem dX1_allOutings_2 : decode cX1_allOutings 2 = .ok (.iconst 0, 1) := by decide +kernel
theorem dX1_allOutings_3 : decode cX1_allOutings 3 = .ok (.istore_n 2, 1) := by decide +kernel
theorem dX1_allOutings_4 : decode cX1_allOutings 4 = .ok (.iload_n 2, 1) := by decide +kernel
theorem dX1_allOutings_5 : decode cX1_allOutings 5 = .ok (.aload_n 0, 1) := by decide +kernel
theorem dX1_allOutings_6 : decode cX1_allOutings 6 = .ok (.getfield 9, 3) := by decide +kernel
theorem dX1_allOutings_9 : decode cX1_allOutings 9 = .ok (.getfield 67, 3) := by decide +kernel
theorem dX1_allOutings_12 : decode cX1_allOutings 12 = .ok (.if_icmp .ge 21, 3) := by decide +kernel
theorem dX1_allOutings_15 : decode cX1_allOutings 15 = .ok (.iload_n 1, 1) := by decide +kernel
theorem dX1_allOutings_16 : decode cX1_allOutings 16 = .ok (.aload_n 0, 1) := by decide +kernel
theorem dX1_allOutings_17 : decode cX1_allOutings 17 = .ok (.getfield 15, 3) := by decide +kernel
theorem dX1_allOutings_20 : decode cX1_allOutings 20 = .ok (.getfield 61, 3) := by decide +kernel
theorem dX1_allOutings_23 : decode cX1_allOutings 23 = .ok (.iload_n 2, 1) := by decide +kernel
theorem dX1_allOutings_24 : decode cX1_allOutings 24 = .ok (.iaload, 1) := by decide +kernel
theorem dX1_allOutings_25 : decode cX1_allOutings 25 = .ok (.iadd, 1) := by decide +kernel
theorem dX1_allOutings_26 : decode cX1_allOutings 26 = .ok (.istore_n 1, 1) := by decide +kernel
theorem dX1_allOutings_27 : decode cX1_allOutings 27 = .ok (.iinc 2 1, 3) := by decide +kernel
theorem dX1_allOutings_30 : decode cX1_allOutings 30 = .ok (.goto (-26), 3) := by decide +kernel
theorem dX1_allOutings_33 : decode cX1_allOutings 33 = .ok (.iload_n 1, 1) := by decide +kernel
theorem dX1_allOutings_34 : decode cX1_allOutings 34 = .ok (.ireturn, 1) := by decide +kernel
def lX1_allOutings : List (Nat × (Op ⊕ Nat)) := [(0, .inl (o_pushI (nI 0) 1)), (1, .inl (o_istore 1 2)), (2, .inl (o_pushI (nI 0) 3)), (3, .inl (o_istore 2 4)), (4, .inl (o_iload 2 5)), (5, .inl (o_aload 0 6)), (6, .inl (o_get 1 0 9)), (9, .inl (o_get 9 4 12)), (12, .inl (o_icmp_ge 33 15)), (15, .inl (o_iload 1 16)), (16, .inl (o_aload 0 17)), (17, .inl (o_get 1 1 20)), (20, .inl (o_get 5 0 23)), (23, .inl (o_iload 2 24)), (24, .inl (o_iald 25)), (25, .inl (o_iadd 26)), (26, .inl (o_istore 1 27)), (27, .inl (o_iinc 2 (nI 1) 30)), (30, .inl (o_goto 4)), (33, .inl (o_iload 1 34)), (34, .inr 0)]
theorem qX1_allOutings : yX1_allOutings.cls = RX1 ∧ yX1_allOutings.cls ≠ "java/lang/invoke/MethodHandle" ∧ yX1_allOutings.cls ≠ "java/lang/invoke/VarHandle" ∧ (parseMethodDescriptor yX1_allOutings.desc).map (fun d => d.parameters.length) = some 0 := by decide +kernel
set_option maxRecDepth 10000 in
theorem hX1_allOutings_0 (l : Launch) {p : Program} {e : Env} {s : State} {m : MethodId} {args : Array Value} {below : List Frame} {meth : Method} {c : Code} {D : va_G} {ad adV : Nat → Nat} {cA : Nat → ClassId} {K : Kt} (C0 : Cx p s m args meth c D ad adV cA cX1_allOutings 3 RX1) (hr : meth.sig.returnType = (some .int)) : ∀ q ∈ lX1_allOutings, Sd p l e (rmd 0) s m args below meth c (MQ below (QQ D ad cA K) args s 0 0 (AA ad)) D ad cA 3 q.1 (opOf K q.2) := List.forall_mem_cons.mpr ⟨s_iconst C0 dX1_allOutings_0 rfl, List.forall_mem_cons.mpr ⟨s_istore_n C0 dX1_allOutings_1 rfl (by decide), List.forall_mem_cons.mpr ⟨s_iconst C0 dX1_allOutings_2 rfl, List.forall_mem_cons.mpr ⟨s_istore_n C0 dX1_allOutings_3 rfl (by decide), List.forall_mem_cons.mpr ⟨s_iload_n C0 dX1_allOutings_4 rfl, List.forall_mem_cons.mpr ⟨s_aload_n C0 dX1_allOutings_5 rfl, List.forall_mem_cons.mpr ⟨s_get (ci := 1) (k := 0) C0 dX1_allOutings_6 inX1 rfl (by decide) tw1_190, List.forall_mem_cons.mpr ⟨s_get (ci := 9) (k := 4) C0 dX1_allOutings_9 inX9 rfl (by decide) tw1_97, List.forall_mem_cons.mpr ⟨s_icmp_ge C0 dX1_allOutings_12 rfl, List.forall_mem_cons.mpr ⟨s_iload_n C0 dX1_allOutings_15 rfl, List.forall_mem_cons.mpr ⟨s_aload_n C0 dX1_allOutings_16 rfl, List.forall_mem_cons.mpr ⟨s_get (ci := 1) (k := 1) C0 dX1_allOutings_17 inX1 rfl (by decide) tw1_195, List.forall_mem_cons.mpr ⟨s_get (ci := 5) (k := 0) C0 dX1_allOutings_20 inX5 rfl (by decide) tw1_169, List.forall_mem_cons.mpr ⟨s_iload_n C0 dX1_allOutings_23 rfl, List.forall_mem_cons.mpr ⟨s_iald C0 dX1_allOutings_24, List.forall_mem_cons.mpr ⟨s_iadd C0 dX1_allOutings_25, List.forall_mem_cons.mpr ⟨s_istore_n C0 dX1_allOutings_26 rfl (by decide), List.forall_mem_cons.mpr ⟨s_iinc C0 dX1_allOutings_27 rfl (by decide), List.forall_mem_cons.mpr ⟨s_goto C0 dX1_allOutings_30 rfl, List.forall_mem_cons.mpr ⟨s_iload_n C0 dX1_allOutings_33 rfl, List.forall_mem_cons.mpr ⟨s_iret C0 hr dX1_allOutings_34, fun _ h => absurd h List.not_mem_nil⟩⟩⟩⟩⟩⟩⟩⟩⟩⟩⟩⟩⟩⟩⟩⟩⟩⟩⟩⟩⟩
def fX1_allOutings : Mf := mf 3 (fun K => tl K lX1_allOutings)
theorem kX1_allOutings (l : Launch) : Okm l yX1_allOutings cX1_allOutings 3 (some .int) 0 fX1_allOutings := Okm_tl (own := RX1) (by decide +kernel) rfl (fun C0 hr => hX1_allOutings_0 l C0 hr)
theorem dX5_loadOf_0 : decode cX5_loadOf 0 = .ok (.aload_n 0, 1) := by decide +kernel
theorem dX5_loadOf_1 : decode cX5_loadOf 1 = .ok (.getfield 21, 3) := by decide +kernel
theorem dX5_loadOf_4 : decode cX5_loadOf 4 = .ok (.iload_n 1, 1) := by decide +kernel
theorem dX5_loadOf_5 : decode cX5_loadOf 5 = .ok (.bipush 20, 2) := by decide +kernel
theorem dX5_loadOf_7 : decode cX5_loadOf 7 = .ok (.imul, 1) := by decide +kernel
theorem dX5_loadOf_8 : decode cX5_loadOf 8 = .ok (.iload_n 2, 1) := by decide +kernel
theorem dX5_loadOf_9 : decode cX5_loadOf 9 = .ok (.iadd, 1) := by decide +kernel
theorem dX5_loadOf_10 : decode cX5_loadOf 10 = .ok (.iaload, 1) := by decide +kernel
theorem dX5_loadOf_11 : decode cX5_loadOf 11 = .ok (.ireturn, 1) := by decide +kernel
def lX5_loadOf : List (Nat × (Op ⊕ Nat)) := [(0, .inl (o_aload 0 1)), (1, .inl (o_get 5 3 4)), (4, .inl (o_iload 1 5)), (5, .inl (o_pushI (nI 20) 7)), (7, .inl (o_imul 8)), (8, .inl (o_iload 2 9)), (9, .inl (o_iadd 10)), (10, .inl (o_iald 11)), (11, .inr 0)]
theorem qX5_loadOf : yX5_loadOf.cls = RX5 ∧ yX5_loadOf.cls ≠ "java/lang/invoke/MethodHandle" ∧ yX5_loadOf.cls ≠ "java/lang/invoke/VarHandle" ∧ (parseMethodDescriptor yX5_loadOf.desc).map (fun d => d.parameters.length) = some 2 := by decide +kernel
set_option maxRecDepth 10000 in
theorem hX5_loadOf_0 (l : Launch) {p : Program} {e : Env} {s : State} {m : MethodId} {args : Array Value} {below : List Frame} {meth : Method} {c : Code} {D : va_G} {ad adV : Nat → Nat} {cA : Nat → ClassId} {K : Kt} (C0 : Cx p s m args meth c D ad adV cA cX5_loadOf 3 RX5) (hr : meth.sig.returnType = (some .int)) : ∀ q ∈ lX5_loadOf, Sd p l e (rmd 0) s m args below meth c (MQ below (QQ D ad cA K) args s 0 0 (AA ad)) D ad cA 3 q.1 (opOf K q.2) := List.forall_mem_cons.mpr ⟨s_aload_n C0 dX5_loadOf_0 rfl, List.forall_mem_cons.mpr ⟨s_get (ci := 5) (k := 3) C0 dX5_loadOf_1 inX5 rfl (by decide) tw1_174, List.forall_mem_cons.mpr ⟨s_iload_n C0 dX5_loadOf_4 rfl, List.forall_mem_cons.mpr ⟨s_bipush C0 dX5_loadOf_5 (by decide +kernel), List.forall_mem_cons.mpr ⟨s_imul C0 dX5_loadOf_7, List.forall_mem_cons.mpr ⟨s_iload_n C0 dX5_loadOf_8 rfl, List.forall_mem_cons.mpr ⟨s_iadd C0 dX5_loadOf_9, List.forall_mem_cons.mpr ⟨s_iald C0 dX5_loadOf_10, List.forall_mem_cons.mpr ⟨s_iret C0 hr dX5_loadOf_11, fun _ h => absurd h List.not_mem_nil⟩⟩⟩⟩⟩⟩⟩⟩⟩
def fX5_loadOf : Mf := mf 3 (fun K => tl K lX5_loadOf)
theorem kX5_loadOf (l : Launch) : Okm l yX5_loadOf cX5_loadOf 3 (some .int) 0 fX5_loadOf := Okm_tl (own := RX5) (by decide +kernel) rfl (fun C0 hr => hX5_loadOf_0 l C0 hr)
theorem dX1_throwsOfArm_0 : decode cX1_throwsOfArm 0 = .ok (.iconst 0, 1) := by decide +kernel
theorem dX1_throwsOfArm_1 : decode cX1_throwsOfArm 1 = .ok (.istore_n 2, 1) := by decide +kernel
theorem dX1_throwsOfArm_2 : decode cX1_throwsOfArm 2 = .ok (.iconst 0, 1) := by decide +kernel
theorem dX1_throwsOfArm_3 : decode cX1_throwsOfArm 3 = .ok (.istore_n 3, 1) := by decide +kernel
theorem dX1_throwsOfArm_4 : decode cX1_throwsOfArm 4 = .ok (.iload_n 3, 1) := by decide +kernel
theorem dX1_throwsOfArm_5 : decode cX1_throwsOfArm 5 = .ok (.aload_n 0, 1) := by decide +kernel
theorem dX1_throwsOfArm_6 : decode cX1_throwsOfArm 6 = .ok (.getfield 9, 3) := by decide +kernel
theorem dX1_throwsOfArm_9 : decode cX1_throwsOfArm 9 = .ok (.getfield 67, 3) := by decide +kernel
theorem dX1_throwsOfArm_12 : decode cX1_throwsOfArm 12 = .ok (.if_icmp .ge 21, 3) := by decide +kernel
theorem dX1_throwsOfArm_15 : decode cX1_throwsOfArm 15 = .ok (.iload_n 2, 1) := by decide +kernel
theorem dX1_throwsOfArm_16 : decode cX1_throwsOfArm 16 = .ok (.aload_n 0, 1) := by decide +kernel
theorem dX1_throwsOfArm_17 : decode cX1_throwsOfArm 17 = .ok (.getfield 15, 3) := by decide +kernel
theorem dX1_throwsOfArm_20 : decode cX1_throwsOfArm 20 = .ok (.iload_n 1, 1) := by decide +kernel
theorem dX1_throwsOfArm_21 : decode cX1_throwsOfArm 21 = .ok (.iload_n 3, 1) := by decide +kernel
theorem dX1_throwsOfArm_22 : decode cX1_throwsOfArm 22 = .ok (.invokevirtual 71, 3) := by decide +kernel
theorem dX1_throwsOfArm_25 : decode cX1_throwsOfArm 25 = .ok (.iadd, 1) := by decide +kernel
theorem dX1_throwsOfArm_26 : decode cX1_throwsOfArm 26 = .ok (.istore_n 2, 1) := by decide +kernel
theorem dX1_throwsOfArm_27 : decode cX1_throwsOfArm 27 = .ok (.iinc 3 1, 3) := by decide +kernel
theorem dX1_throwsOfArm_30 : decode cX1_throwsOfArm 30 = .ok (.goto (-26), 3) := by decide +kernel
theorem dX1_throwsOfArm_33 : decode cX1_throwsOfArm 33 = .ok (.iload_n 2, 1) := by decide +kernel
theorem dX1_throwsOfArm_34 : decode cX1_throwsOfArm 34 = .ok (.ireturn, 1) := by decide +kernel
def lX1_throwsOfArm : List (Nat × (Op ⊕ Nat)) := [(0, .inl (o_pushI (nI 0) 1)), (1, .inl (o_istore 2 2)), (2, .inl (o_pushI (nI 0) 3)), (3, .inl (o_istore 3 4)), (4, .inl (o_iload 3 5)), (5, .inl (o_aload 0 6)), (6, .inl (o_get 1 0 9)), (9, .inl (o_get 9 4 12)), (12, .inl (o_icmp_ge 33 15)), (15, .inl (o_iload 2 16)), (16, .inl (o_aload 0 17)), (17, .inl (o_get 1 1 20)), (20, .inl (o_iload 1 21)), (21, .inl (o_iload 3 22)), (22, .inl (o_callV fX5_loadOf 2 5 25)), (25, .inl (o_iadd 26)), (26, .inl (o_istore 2 27)), (27, .inl (o_iinc 3 (nI 1) 30)), (30, .inl (o_goto 4)), (33, .inl (o_iload 2 34)), (34, .inr 0)]
theorem qX1_throwsOfArm : yX1_throwsOfArm.cls = RX1 ∧ yX1_throwsOfArm.cls ≠ "java/lang/invoke/MethodHandle" ∧ yX1_throwsOfArm.cls ≠ "java/lang/invoke/VarHandle" ∧ (parseMethodDescriptor yX1_throwsOfArm.desc).map (fun d => d.parameters.length) = some 1 := by decide +kernel
set_option maxRecDepth 10000 in
theorem hX1_throwsOfArm_0 (l : Launch) {p : Program} {e : Env} {s : State} {m : MethodId} {args : Array Value} {below : List Frame} {meth : Method} {c : Code} {D : va_G} {ad adV : Nat → Nat} {cA : Nat → ClassId} {K : Kt} (C0 : Cx p s m args meth c D ad adV cA cX1_throwsOfArm 4 RX1) (hr : meth.sig.returnType = (some .int)) : ∀ q ∈ lX1_throwsOfArm, Sd p l e (rmd 1) s m args below meth c (MQ below (QQ D ad cA K) args s 0 0 (AA ad)) D ad cA 4 q.1 (opOf K q.2) := List.forall_mem_cons.mpr ⟨s_iconst C0 dX1_throwsOfArm_0 rfl, List.forall_mem_cons.mpr ⟨s_istore_n C0 dX1_throwsOfArm_1 rfl (by decide), List.forall_mem_cons.mpr ⟨s_iconst C0 dX1_throwsOfArm_2 rfl, List.forall_mem_cons.mpr ⟨s_istore_n C0 dX1_throwsOfArm_3 rfl (by decide), List.forall_mem_cons.mpr ⟨s_iload_n C0 dX1_throwsOfArm_4 rfl, List.forall_mem_cons.mpr ⟨s_aload_n C0 dX1_throwsOfArm_5 rfl, List.forall_mem_cons.mpr ⟨s_get (ci := 1) (k := 0) C0 dX1_throwsOfArm_6 inX1 rfl (by decide) tw1_190, List.forall_mem_cons.mpr ⟨s_get (ci := 9) (k := 4) C0 dX1_throwsOfArm_9 inX9 rfl (by decide) tw1_97, List.forall_mem_cons.mpr ⟨s_icmp_ge C0 dX1_throwsOfArm_12 rfl, List.forall_mem_cons.mpr ⟨s_iload_n C0 dX1_throwsOfArm_15 rfl, List.forall_mem_cons.mpr ⟨s_aload_n C0 dX1_throwsOfArm_16 rfl, List.forall_mem_cons.mpr ⟨s_get (ci := 1) (k := 1) C0 dX1_throwsOfArm_17 inX1 rfl (by decide) tw1_195, List.forall_mem_cons.mpr ⟨s_iload_n C0 dX1_throwsOfArm_20 rfl, List.forall_mem_cons.mpr ⟨s_iload_n C0 dX1_throwsOfArm_21 rfl, List.forall_mem_cons.mpr ⟨s_callV (ci := 5) C0 (kX5_loadOf l) dX1_throwsOfArm_22 rfl qX5_loadOf tw3_184 tw3_185 tw3_186 tw1_5 tw3_187 rfl (by decide) (by decide), List.forall_mem_cons.mpr ⟨s_iadd C0 dX1_throwsOfArm_25, List.forall_mem_cons.mpr ⟨s_istore_n C0 dX1_throwsOfArm_26 rfl (by decide), List.forall_mem_cons.mpr ⟨s_iinc C0 dX1_throwsOfArm_27 rfl (by decide), List.forall_mem_cons.mpr ⟨s_goto C0 dX1_throwsOfArm_30 rfl, List.forall_mem_cons.mpr ⟨s_iload_n C0 dX1_throwsOfArm_33 rfl, List.forall_mem_cons.mpr ⟨s_iret C0 hr dX1_throwsOfArm_34, fun _ h => absurd h List.not_mem_nil⟩⟩⟩⟩⟩⟩⟩⟩⟩⟩⟩⟩⟩⟩⟩⟩⟩⟩⟩⟩⟩
def fX1_throwsOfArm : Mf := mf 4 (fun K => tl K lX1_throwsOfArm)
theorem kX1_throwsOfArm (l : Launch) : Okm l yX1_throwsOfArm cX1_throwsOfArm 4 (some .int) 1 fX1_throwsOfArm := Okm_tl (own := RX1) (by decide +kernel) rfl (fun C0 hr => hX1_throwsOfArm_0 l C0 hr)
theorem dX5_has_0 : decode cX5_has 0 = .ok (.aload_n 0, 1) := by decide +kernel
theorem dX5_has_1 : decode cX5_has 1 = .ok (.iload_n 1, 1) := by decide +kernel
theorem dX5_has_2 : decode cX5_has 2 = .ok (.iload_n 2, 1) := by decide +kernel
theorem dX5_has_3 : decode cX5_has 3 = .ok (.invokevirtual 24, 3) := by decide +kernel
theorem dX5_has_6 : decode cX5_has 6 = .ok (.ifCond .le 7, 3) := by decide +kernel
theorem dX5_has_9 : decode cX5_has 9 = .ok (.iconst 1, 1) := by decide +kernel
theorem dX5_has_10 : decode cX5_has 10 = .ok (.goto 4, 3) := by decide +kernel
theorem dX5_has_13 : decode cX5_has 13 = .ok (.iconst 0, 1) := by decide +kernel
theorem dX5_has_14 : decode cX5_has 14 = .ok (.ireturn, 1) := by decide +kernel
def lX5_has : List (Nat × (Op ⊕ Nat)) := [(0, .inl (o_aload 0 1)), (1, .inl (o_iload 1 2)), (2, .inl (o_iload 2 3)), (3, .inl (o_callV fX5_loadOf 2 5 6)), (6, .inl (o_if_le 13 9)), (9, .inl (o_pushI (nI 1) 10)), (10, .inl (o_goto 14)), (13, .inl (o_pushI (nI 0) 14)), (14, .inr 1)]
theorem qX5_has : yX5_has.cls = RX5 ∧ yX5_has.cls ≠ "java/lang/invoke/MethodHandle" ∧ yX5_has.cls ≠ "java/lang/invoke/VarHandle" ∧ (parseMethodDescriptor yX5_has.desc).map (fun d => d.parameters.length) = some 2 := by decide +kernel
set_option maxRecDepth 10000 in
theorem hX5_has_0 (l : Launch) {p : Program} {e : Env} {s : State} {m : MethodId} {args : Array Value} {below : List Frame} {meth : Method} {c : Code} {D : va_G} {ad adV : Nat → Nat} {cA : Nat → ClassId} {K : Kt} (C0 : Cx p s m args meth c D ad adV cA cX5_has 3 RX5) (hr : meth.sig.returnType = (some .boolean)) : ∀ q ∈ lX5_has, Sd p l e (rmd 1) s m args below meth c (MQ below (QQ D ad cA K) args s 0 0 (AA ad)) D ad cA 3 q.1 (opOf K q.2) := List.forall_mem_cons.mpr ⟨s_aload_n C0 dX5_has_0 rfl, List.forall_mem_cons.mpr ⟨s_iload_n C0 dX5_has_1 rfl, List.forall_mem_cons.mpr ⟨s_iload_n C0 dX5_has_2 rfl, List.forall_mem_cons.mpr ⟨s_callV (ci := 5) C0 (kX5_loadOf l) dX5_has_3 rfl qX5_loadOf tw3_196 tw3_185 tw3_186 tw1_5 tw3_187 rfl (by decide) (by decide), List.forall_mem_cons.mpr ⟨s_if_le C0 dX5_has_6 rfl, List.forall_mem_cons.mpr ⟨s_iconst C0 dX5_has_9 rfl, List.forall_mem_cons.mpr ⟨s_goto C0 dX5_has_10 rfl, List.forall_mem_cons.mpr ⟨s_iconst C0 dX5_has_13 rfl, List.forall_mem_cons.mpr ⟨s_zret C0 hr dX5_has_14, fun _ h => absurd h List.not_mem_nil⟩⟩⟩⟩⟩⟩⟩⟩⟩
def fX5_has : Mf := mf 3 (fun K => tl K lX5_has)
theorem kX5_has (l : Launch) : Okm l yX5_has cX5_has 3 (some .boolean) 1 fX5_has := Okm_tl (own := RX5) (by decide +kernel) rfl (fun C0 hr => hX5_has_0 l C0 hr)
theorem dX1_outingsOfArm_0 : decode cX1_outingsOfArm 0 = .ok (.iconst 0, 1) := by decide +kernel
theorem dX1_outingsOfArm_1 : decode cX1_outingsOfArm 1 = .ok (.istore_n 2, 1) := by decide +kernel
theorem dX1_outingsOfArm_2 : decode cX1_outingsOfArm 2 = .ok (.iconst 0, 1) := by decide +kernel
theorem dX1_outingsOfArm_3 : decode cX1_outingsOfArm 3 = .ok (.istore_n 3, 1) := by decide +kernel
theorem dX1_outingsOfArm_4 : decode cX1_outingsOfArm 4 = .ok (.iload_n 3, 1) := by decide +kernel
theorem dX1_outingsOfArm_5 : decode cX1_outingsOfArm 5 = .ok (.aload_n 0, 1) := by decide +kernel
theorem dX1_outingsOfArm_6 : decode cX1_outingsOfArm 6 = .ok (.getfield 9, 3) := by decide +kernel
theorem dX1_outingsOfArm_9 : decode cX1_outingsOfArm 9 = .ok (.getfield 67, 3) := by decide +kernel
theorem dX1_outingsOfArm_12 : decode cX1_outingsOfArm 12 = .ok (.if_icmp .ge 29, 3) := by decide +kernel
theorem dX1_outingsOfArm_15 : decode cX1_outingsOfArm 15 = .ok (.iload_n 2, 1) := by decide +kernel
theorem dX1_outingsOfArm_16 : decode cX1_outingsOfArm 16 = .ok (.aload_n 0, 1) := by decide +kernel
theorem dX1_outingsOfArm_17 : decode cX1_outingsOfArm 17 = .ok (.getfield 15, 3) := by decide +kernel
theorem dX1_outingsOfArm_20 : decode cX1_outingsOfArm 20 = .ok (.iload_n 1, 1) := by decide +kernel
theorem dX1_outingsOfArm_21 : decode cX1_outingsOfArm 21 = .ok (.iload_n 3, 1) := by decide +kernel
theorem dX1_outingsOfArm_22 : decode cX1_outingsOfArm 22 = .ok (.invokevirtual 74, 3) := by decide +kernel
theorem dX1_outingsOfArm_25 : decode cX1_outingsOfArm 25 = .ok (.ifCond .eq 7, 3) := by decide +kernel
theorem dX1_outingsOfArm_28 : decode cX1_outingsOfArm 28 = .ok (.iconst 1, 1) := by decide +kernel
theorem dX1_outingsOfArm_29 : decode cX1_outingsOfArm 29 = .ok (.goto 4, 3) := by decide +kernel
theorem dX1_outingsOfArm_32 : decode cX1_outingsOfArm 32 = .ok (.iconst 0, 1) := by decide +kernel
theorem dX1_outingsOfArm_33 : decode cX1_outingsOfArm 33 = .ok (.iadd, 1) := by decide +kernel
theorem dX1_outingsOfArm_34 : decode cX1_outingsOfArm 34 = .ok (.istore_n 2, 1) := by decide +kernel
theorem dX1_outingsOfArm_35 : decode cX1_outingsOfArm 35 = .ok (.iinc 3 1, 3) := by decide +kernel
theorem dX1_outingsOfArm_38 : decode cX1_outingsOfArm 38 = .ok (.goto (-34), 3) := by decide +kernel
theorem dX1_outingsOfArm_41 : decode cX1_outingsOfArm 41 = .ok (.iload_n 2, 1) := by decide +kernel
theorem dX1_outingsOfArm_42 : decode cX1_outingsOfArm 42 = .ok (.ireturn, 1) := by decide +kernel
def lX1_outingsOfArm : List (Nat × (Op ⊕ Nat)) := [(0, .inl (o_pushI (nI 0) 1)), (1, .inl (o_istore 2 2)), (2, .inl (o_pushI (nI 0) 3)), (3, .inl (o_istore 3 4)), (4, .inl (o_iload 3 5)), (5, .inl (o_aload 0 6)), (6, .inl (o_get 1 0 9)), (9, .inl (o_get 9 4 12)), (12, .inl (o_icmp_ge 41 15)), (15, .inl (o_iload 2 16)), (16, .inl (o_aload 0 17)), (17, .inl (o_get 1 1 20)), (20, .inl (o_iload 1 21)), (21, .inl (o_iload 3 22)), (22, .inl (o_callV fX5_has 2 5 25)), (25, .inl (o_if_eq 32 28)), (28, .inl (o_pushI (nI 1) 29)), (29, .inl (o_goto 33)), (32, .inl (o_pushI (nI 0) 33)), (33, .inl (o_iadd 34)), (34, .inl (o_istore 2 35)), (35, .inl (o_iinc 3 (nI 1) 38)), (38, .inl (o_goto 4)), (41, .inl (o_iload 2 42)), (42, .inr 0)]
theorem qX1_outingsOfArm : yX1_outingsOfArm.cls = RX1 ∧ yX1_outingsOfArm.cls ≠ "java/lang/invoke/MethodHandle" ∧ yX1_outingsOfArm.cls ≠ "java/lang/invoke/VarHandle" ∧ (parseMethodDescriptor yX1_outingsOfArm.desc).map (fun d => d.parameters.length) = some 1 := by decide +kernel
set_option maxRecDepth 10000 in
theorem hX1_outingsOfArm_0 (l : Launch) {p : Program} {e : Env} {s : State} {m : MethodId} {args : Array Value} {below : List Frame} {meth : Method} {c : Code} {D : va_G} {ad adV : Nat → Nat} {cA : Nat → ClassId} {K : Kt} (C0 : Cx p s m args meth c D ad adV cA cX1_outingsOfArm 4 RX1) (hr : meth.sig.returnType = (some .int)) : ∀ q ∈ lX1_outingsOfArm, Sd p l e (rmd 2) s m args below meth c (MQ below (QQ D ad cA K) args s 0 0 (AA ad)) D ad cA 4 q.1 (opOf K q.2) := List.forall_mem_cons.mpr ⟨s_iconst C0 dX1_outingsOfArm_0 rfl, List.forall_mem_cons.mpr ⟨s_istore_n C0 dX1_outingsOfArm_1 rfl (by decide), List.forall_mem_cons.mpr ⟨s_iconst C0 dX1_outingsOfArm_2 rfl, List.forall_mem_cons.mpr ⟨s_istore_n C0 dX1_outingsOfArm_3 rfl (by decide), List.forall_mem_cons.mpr ⟨s_iload_n C0 dX1_outingsOfArm_4 rfl, List.forall_mem_cons.mpr ⟨s_aload_n C0 dX1_outingsOfArm_5 rfl, List.forall_mem_cons.mpr ⟨s_get (ci := 1) (k := 0) C0 dX1_outingsOfArm_6 inX1 rfl (by decide) tw1_190, List.forall_mem_cons.mpr ⟨s_get (ci := 9) (k := 4) C0 dX1_outingsOfArm_9 inX9 rfl (by decide) tw1_97, List.forall_mem_cons.mpr ⟨s_icmp_ge C0 dX1_outingsOfArm_12 rfl, List.forall_mem_cons.mpr ⟨s_iload_n C0 dX1_outingsOfArm_15 rfl, List.forall_mem_cons.mpr ⟨s_aload_n C0 dX1_outingsOfArm_16 rfl, List.forall_mem_cons.mpr ⟨s_get (ci := 1) (k := 1) C0 dX1_outingsOfArm_17 inX1 rfl (by decide) tw1_195, List.forall_mem_cons.mpr ⟨s_iload_n C0 dX1_outingsOfArm_20 rfl, List.forall_mem_cons.mpr ⟨s_iload_n C0 dX1_outingsOfArm_21 rfl, List.forall_mem_cons.mpr ⟨s_callV (ci := 5) C0 (kX5_has l) dX1_outingsOfArm_22 rfl qX5_has tw3_192 tw3_193 tw3_194 tw1_5 tw3_195 rfl (by decide) (by decide), List.forall_mem_cons.mpr ⟨s_if_eq C0 dX1_outingsOfArm_25 rfl, List.forall_mem_cons.mpr ⟨s_iconst C0 dX1_outingsOfArm_28 rfl, List.forall_mem_cons.mpr ⟨s_goto C0 dX1_outingsOfArm_29 rfl, List.forall_mem_cons.mpr ⟨s_iconst C0 dX1_outingsOfArm_32 rfl, List.forall_mem_cons.mpr ⟨s_iadd C0 dX1_outingsOfArm_33, List.forall_mem_cons.mpr ⟨s_istore_n C0 dX1_outingsOfArm_34 rfl (by decide), List.forall_mem_cons.mpr ⟨s_iinc C0 dX1_outingsOfArm_35 rfl (by decide), List.forall_mem_cons.mpr ⟨s_goto C0 dX1_outingsOfArm_38 rfl, List.forall_mem_cons.mpr ⟨s_iload_n C0 dX1_outingsOfArm_41 rfl, List.forall_mem_cons.mpr ⟨s_iret C0 hr dX1_outingsOfArm_42, fun _ h => absurd h List.not_mem_nil⟩⟩⟩⟩⟩⟩⟩⟩⟩⟩⟩⟩⟩⟩⟩⟩⟩⟩⟩⟩⟩⟩⟩⟩⟩
def fX1_outingsOfArm : Mf := mf 4 (fun K => tl K lX1_outingsOfArm)
theorem kX1_outingsOfArm (l : Launch) : Okm l yX1_outingsOfArm cX1_outingsOfArm 4 (some .int) 2 fX1_outingsOfArm := Okm_tl (own := RX1) (by decide +kernel) rfl (fun C0 hr => hX1_outingsOfArm_0 l C0 hr)
theorem dX1_valueOfArm_0 : decode cX1_valueOfArm 0 = .ok (.iconst 0, 1) := by decide +kernel
theorem dX1_valueOfArm_1 : decode cX1_valueOfArm 1 = .ok (.istore_n 2, 1) := by decide +kernel
theorem dX1_valueOfArm_2 : decode cX1_valueOfArm 2 = .ok (.iconst 0, 1) := by decide +kernel
theorem dX1_valueOfArm_3 : decode cX1_valueOfArm 3 = .ok (.istore_n 3, 1) := by decide +kernel
theorem dX1_valueOfArm_4 : decode cX1_valueOfArm 4 = .ok (.iload_n 3, 1) := by decide +kernel
theorem dX1_valueOfArm_5 : decode cX1_valueOfArm 5 = .ok (.aload_n 0, 1) := by decide +kernel
theorem dX1_valueOfArm_6 : decode cX1_valueOfArm 6 = .ok (.getfield 9, 3) := by decide +kernel
theorem dX1_valueOfArm_9 : decode cX1_valueOfArm 9 = .ok (.getfield 67, 3) := by decide +kernel
theorem dX1_valueOfArm_12 : decode cX1_valueOfArm 12 = .ok (.if_icmp .ge 27, 3) := by decide +kernel
theorem dX1_valueOfArm_15 : decode cX1_valueOfArm 15 = .ok (.iload_n 2, 1) := by decide +kernel
theorem dX1_valueOfArm_16 : decode cX1_valueOfArm 16 = .ok (.aload_n 0, 1) := by decide +kernel
theorem dX1_valueOfArm_17 : decode cX1_valueOfArm 17 = .ok (.iload_n 1, 1) := by decide +kernel
theorem dX1_valueOfArm_18 : decode cX1_valueOfArm 18 = .ok (.iload_n 3, 1) := by decide +kernel
theorem dX1_valueOfArm_19 : decode cX1_valueOfArm 19 = .ok (.aload_n 0, 1) := by decide +kernel
theorem dX1_valueOfArm_20 : decode cX1_valueOfArm 20 = .ok (.getfield 15, 3) := by decide +kernel
theorem dX1_valueOfArm_23 : decode cX1_valueOfArm 23 = .ok (.iload_n 1, 1) := by decide +kernel
theorem dX1_valueOfArm_24 : decode cX1_valueOfArm 24 = .ok (.iload_n 3, 1) := by decide +kernel
theorem dX1_valueOfArm_25 : decode cX1_valueOfArm 25 = .ok (.invokevirtual 71, 3) := by decide +kernel
theorem dX1_valueOfArm_28 : decode cX1_valueOfArm 28 = .ok (.invokevirtual 54, 3) := by decide +kernel
theorem dX1_valueOfArm_31 : decode cX1_valueOfArm 31 = .ok (.iadd, 1) := by decide +kernel
theorem dX1_valueOfArm_32 : decode cX1_valueOfArm 32 = .ok (.istore_n 2, 1) := by decide +kernel
theorem dX1_valueOfArm_33 : decode cX1_valueOfArm 33 = .ok (.iinc 3 1, 3) := by decide +kernel
theorem dX1_valueOfArm_36 : decode cX1_valueOfArm 36 = .ok (.goto (-32), 3) := by decide +kernel
theorem dX1_valueOfArm_39 : decode cX1_valueOfArm 39 = .ok (.iload_n 2, 1) := by decide +kernel
theorem dX1_valueOfArm_40 : decode cX1_valueOfArm 40 = .ok (.ireturn, 1) := by decide +kernel
def lX1_valueOfArm : List (Nat × (Op ⊕ Nat)) := [(0, .inl (o_pushI (nI 0) 1)), (1, .inl (o_istore 2 2)), (2, .inl (o_pushI (nI 0) 3)), (3, .inl (o_istore 3 4)), (4, .inl (o_iload 3 5)), (5, .inl (o_aload 0 6)), (6, .inl (o_get 1 0 9)), (9, .inl (o_get 9 4 12)), (12, .inl (o_icmp_ge 39 15)), (15, .inl (o_iload 2 16)), (16, .inl (o_aload 0 17)), (17, .inl (o_iload 1 18)), (18, .inl (o_iload 3 19)), (19, .inl (o_aload 0 20)), (20, .inl (o_get 1 1 23)), (23, .inl (o_iload 1 24)), (24, .inl (o_iload 3 25)), (25, .inl (o_callV fX5_loadOf 2 5 28)), (28, .inl (o_callV fX1_valueOf 3 1 31)), (31, .inl (o_iadd 32)), (32, .inl (o_istore 2 33)), (33, .inl (o_iinc 3 (nI 1) 36)), (36, .inl (o_goto 4)), (39, .inl (o_iload 2 40)), (40, .inr 0)]
theorem qX1_valueOfArm : yX1_valueOfArm.cls = RX1 ∧ yX1_valueOfArm.cls ≠ "java/lang/invoke/MethodHandle" ∧ yX1_valueOfArm.cls ≠ "java/lang/invoke/VarHandle" ∧ (parseMethodDescriptor yX1_valueOfArm.desc).map (fun d => d.parameters.length) = some 1 := by decide +kernel
set_option maxRecDepth 10000 in
theorem hX1_valueOfArm_0 (l : Launch) {p : Program} {e : Env} {s : State} {m : MethodId} {args : Array Value} {below : List Frame} {meth : Method} {c : Code} {D : va_G} {ad adV : Nat → Nat} {cA : Nat → ClassId} {K : Kt} (C0 : Cx p s m args meth c D ad adV cA cX1_valueOfArm 4 RX1) (hr : meth.sig.returnType = (some .int)) : ∀ q ∈ lX1_valueOfArm, Sd p l e (rmd 3) s m args below meth c (MQ below (QQ D ad cA K) args s 0 0 (AA ad)) D ad cA 4 q.1 (opOf K q.2) := List.forall_mem_cons.mpr ⟨s_iconst C0 dX1_valueOfArm_0 rfl, List.forall_mem_cons.mpr ⟨s_istore_n C0 dX1_valueOfArm_1 rfl (by decide), List.forall_mem_cons.mpr ⟨s_iconst C0 dX1_valueOfArm_2 rfl, List.forall_mem_cons.mpr ⟨s_istore_n C0 dX1_valueOfArm_3 rfl (by decide), List.forall_mem_cons.mpr ⟨s_iload_n C0 dX1_valueOfArm_4 rfl, List.forall_mem_cons.mpr ⟨s_aload_n C0 dX1_valueOfArm_5 rfl, List.forall_mem_cons.mpr ⟨s_get (ci := 1) (k := 0) C0 dX1_valueOfArm_6 inX1 rfl (by decide) tw1_190, List.forall_mem_cons.mpr ⟨s_get (ci := 9) (k := 4) C0 dX1_valueOfArm_9 inX9 rfl (by decide) tw1_97, List.forall_mem_cons.mpr ⟨s_icmp_ge C0 dX1_valueOfArm_12 rfl, List.forall_mem_cons.mpr ⟨s_iload_n C0 dX1_valueOfArm_15 rfl, List.forall_mem_cons.mpr ⟨s_aload_n C0 dX1_valueOfArm_16 rfl, List.forall_mem_cons.mpr ⟨s_iload_n C0 dX1_valueOfArm_17 rfl, List.forall_mem_cons.mpr ⟨s_iload_n C0 dX1_valueOfArm_18 rfl, List.forall_mem_cons.mpr ⟨s_aload_n C0 dX1_valueOfArm_19 rfl, List.forall_mem_cons.mpr ⟨s_get (ci := 1) (k := 1) C0 dX1_valueOfArm_20 inX1 rfl (by decide) tw1_195, List.forall_mem_cons.mpr ⟨s_iload_n C0 dX1_valueOfArm_23 rfl, List.forall_mem_cons.mpr ⟨s_iload_n C0 dX1_valueOfArm_24 rfl, List.forall_mem_cons.mpr ⟨s_callV (ci := 5) C0 (kX5_loadOf l) dX1_valueOfArm_25 rfl qX5_loadOf tw3_184 tw3_185 tw3_186 tw1_5 tw3_187 rfl (by decide) (by decide), List.forall_mem_cons.mpr ⟨s_callV (ci := 1) C0 (kX1_valueOf l) dX1_valueOfArm_28 rfl qX1_valueOf tw3_201 tw3_202 tw3_203 tw1_6 tw3_204 rfl (by decide) (by decide), List.forall_mem_cons.mpr ⟨s_iadd C0 dX1_valueOfArm_31, List.forall_mem_cons.mpr ⟨s_istore_n C0 dX1_valueOfArm_32 rfl (by decide), List.forall_mem_cons.mpr ⟨s_iinc C0 dX1_valueOfArm_33 rfl (by decide), List.forall_mem_cons.mpr ⟨s_goto C0 dX1_valueOfArm_36 rfl, List.forall_mem_cons.mpr ⟨s_iload_n C0 dX1_valueOfArm_39 rfl, List.forall_mem_cons.mpr ⟨s_iret C0 hr dX1_valueOfArm_40, fun _ h => absurd h List.not_mem_nil⟩⟩⟩⟩⟩⟩⟩⟩⟩⟩⟩⟩⟩⟩⟩⟩⟩⟩⟩⟩⟩⟩⟩⟩⟩
def fX1_valueOfArm : Mf := mf 4 (fun K => tl K lX1_valueOfArm)
theorem kX1_valueOfArm (l : Launch) : Okm l yX1_valueOfArm cX1_valueOfArm 4 (some .int) 3 fX1_valueOfArm := Okm_tl (own := RX1) (by decide +kernel) rfl (fun C0 hr => hX1_valueOfArm_0 l C0 hr)
theorem dX10_within_0 : decode cX10_within 0 = .ok (.iload_n 0, 1) := by decide +kernel
theorem dX10_within_1 : decode cX10_within 1 = .ok (.iload_n 1, 1) := by decide +kernel
theorem dX10_within_2 : decode cX10_within 2 = .ok (.if_icmp .lt 12, 3) := by decide +kernel
theorem dX10_within_5 : decode cX10_within 5 = .ok (.iload_n 0, 1) := by decide +kernel
theorem dX10_within_6 : decode cX10_within 6 = .ok (.iload_n 2, 1) := by decide +kernel
theorem dX10_within_7 : decode cX10_within 7 = .ok (.if_icmp .gt 7, 3) := by decide +kernel
theorem dX10_within_10 : decode cX10_within 10 = .ok (.iconst 1, 1) := by decide +kernel
theorem dX10_within_11 : decode cX10_within 11 = .ok (.goto 4, 3) := by decide +kernel
theorem dX10_within_14 : decode cX10_within 14 = .ok (.iconst 0, 1) := by decide +kernel
theorem dX10_within_15 : decode cX10_within 15 = .ok (.ireturn, 1) := by decide +kernel
def lX10_within : List (Nat × (Op ⊕ Nat)) := [(0, .inl (o_iload 0 1)), (1, .inl (o_iload 1 2)), (2, .inl (o_icmp_lt 14 5)), (5, .inl (o_iload 0 6)), (6, .inl (o_iload 2 7)), (7, .inl (o_icmp_gt 14 10)), (10, .inl (o_pushI (nI 1) 11)), (11, .inl (o_goto 15)), (14, .inl (o_pushI (nI 0) 15)), (15, .inr 1)]
theorem qX10_within : yX10_within.cls ≠ "java/lang/invoke/MethodHandle" ∧ yX10_within.cls ≠ "java/lang/invoke/VarHandle" ∧ (parseMethodDescriptor yX10_within.desc).map (fun d => d.parameters.length) = some 3 := by decide +kernel
set_option maxRecDepth 10000 in
theorem hX10_within_0 (l : Launch) {p : Program} {e : Env} {s : State} {m : MethodId} {args : Array Value} {below : List Frame} {meth : Method} {c : Code} {D : va_G} {ad adV : Nat → Nat} {cA : Nat → ClassId} {K : Kt} (C0 : Cx p s m args meth c D ad adV cA cX10_within 3 RX10) (hr : meth.sig.returnType = (some .boolean)) : ∀ q ∈ lX10_within, Sd p l e (rmd 0) s m args below meth c (MQ below (QQ D ad cA K) args s 0 0 (AA ad)) D ad cA 3 q.1 (opOf K q.2) := List.forall_mem_cons.mpr ⟨s_iload_n C0 dX10_within_0 rfl, List.forall_mem_cons.mpr ⟨s_iload_n C0 dX10_within_1 rfl, List.forall_mem_cons.mpr ⟨s_icmp_lt C0 dX10_within_2 rfl, List.forall_mem_cons.mpr ⟨s_iload_n C0 dX10_within_5 rfl, List.forall_mem_cons.mpr ⟨s_iload_n C0 dX10_within_6 rfl, List.forall_mem_cons.mpr ⟨s_icmp_gt C0 dX10_within_7 rfl, List.forall_mem_cons.mpr ⟨s_iconst C0 dX10_within_10 rfl, List.forall_mem_cons.mpr ⟨s_goto C0 dX10_within_11 rfl, List.forall_mem_cons.mpr ⟨s_iconst C0 dX10_within_14 rfl, List.forall_mem_cons.mpr ⟨s_zret C0 hr dX10_within_15, fun _ h => absurd h List.not_mem_nil⟩⟩⟩⟩⟩⟩⟩⟩⟩⟩
def fX10_within : Mf := mf 3 (fun K => tl K lX10_within)
theorem kX10_within (l : Launch) : Okm l yX10_within cX10_within 3 (some .boolean) 0 fX10_within := Okm_tl (own := RX10) (by decide +kernel) rfl (fun C0 hr => hX10_within_0 l C0 hr)
theorem dX1_weekOfArm_0 : decode cX1_weekOfArm 0 = .ok (.iconst 0, 1) := by decide +kernel
theorem dX1_weekOfArm_1 : decode cX1_weekOfArm 1 = .ok (.istore_n 3, 1) := by decide +kernel
theorem dX1_weekOfArm_2 : decode cX1_weekOfArm 2 = .ok (.iconst 0, 1) := by decide +kernel
theorem dX1_weekOfArm_3 : decode cX1_weekOfArm 3 = .ok (.istore 4, 2) := by decide +kernel
theorem dX1_weekOfArm_5 : decode cX1_weekOfArm 5 = .ok (.iload 4, 2) := by decide +kernel
theorem dX1_weekOfArm_7 : decode cX1_weekOfArm 7 = .ok (.aload_n 0, 1) := by decide +kernel
theorem dX1_weekOfArm_8 : decode cX1_weekOfArm 8 = .ok (.getfield 9, 3) := by decide +kernel
theorem dX1_weekOfArm_11 : decode cX1_weekOfArm 11 = .ok (.getfield 67, 3) := by decide +kernel
theorem dX1_weekOfArm_14 : decode cX1_weekOfArm 14 = .ok (.if_icmp .ge 45, 3) := by decide +kernel
theorem dX1_weekOfArm_17 : decode cX1_weekOfArm 17 = .ok (.aload_n 0, 1) := by decide +kernel
theorem dX1_weekOfArm_18 : decode cX1_weekOfArm 18 = .ok (.getfield 9, 3) := by decide +kernel
theorem dX1_weekOfArm_21 : decode cX1_weekOfArm 21 = .ok (.iload 4, 2) := by decide +kernel
theorem dX1_weekOfArm_23 : decode cX1_weekOfArm 23 = .ok (.iconst 0, 1) := by decide +kernel
theorem dX1_weekOfArm_24 : decode cX1_weekOfArm 24 = .ok (.invokevirtual 19, 3) := by decide +kernel
theorem dX1_weekOfArm_27 : decode cX1_weekOfArm 27 = .ok (.iload_n 2, 1) := by decide +kernel
theorem dX1_weekOfArm_28 : decode cX1_weekOfArm 28 = .ok (.bipush 7, 2) := by decide +kernel
theorem dX1_weekOfArm_30 : decode cX1_weekOfArm 30 = .ok (.isub, 1) := by decide +kernel
theorem dX1_weekOfArm_31 : decode cX1_weekOfArm 31 = .ok (.iconst 1, 1) := by decide +kernel
theorem dX1_weekOfArm_32 : decode cX1_weekOfArm 32 = .ok (.iadd, 1) := by decide +kernel
theorem dX1_weekOfArm_33 : decode cX1_weekOfArm 33 = .ok (.iload_n 2, 1) := by decide +kernel
theorem dX1_weekOfArm_34 : decode cX1_weekOfArm 34 = .ok (.invokestatic 78, 3) := by decide +kernel
theorem dX1_weekOfArm_37 : decode cX1_weekOfArm 37 = .ok (.ifCond .eq 16, 3) := by decide +kernel
theorem dX1_weekOfArm_40 : decode cX1_weekOfArm 40 = .ok (.iload_n 3, 1) := by decide +kernel
theorem dX1_weekOfArm_41 : decode cX1_weekOfArm 41 = .ok (.aload_n 0, 1) := by decide +kernel
theorem dX1_weekOfArm_42 : decode cX1_weekOfArm 42 = .ok (.getfield 15, 3) := by decide +kernel
theorem dX1_weekOfArm_45 : decode cX1_weekOfArm 45 = .ok (.iload_n 1, 1) := by decide +kernel
theorem dX1_weekOfArm_46 : decode cX1_weekOfArm 46 = .ok (.iload 4, 2) := by decide +kernel
theorem dX1_weekOfArm_48 : decode cX1_weekOfArm 48 = .ok (.invokevirtual 71, 3) := by decide +kernel
theorem dX1_weekOfArm_51 : decode cX1_weekOfArm 51 = .ok (.iadd, 1) := by decide +kernel
theorem dX1_weekOfArm_52 : decode cX1_weekOfArm 52 = .ok (.istore_n 3, 1) := by decide +kernel
theorem dX1_weekOfArm_53 : decode cX1_weekOfArm 53 = .ok (.iinc 4 1, 3) := by decide +kernel
theorem dX1_weekOfArm_56 : decode cX1_weekOfArm 56 = .ok (.goto (-51), 3) := by decide +kernel
theorem dX1_weekOfArm_59 : decode cX1_weekOfArm 59 = .ok (.iload_n 3, 1) := by decide +kernel
theorem dX1_weekOfArm_60 : decode cX1_weekOfArm 60 = .ok (.ireturn, 1) := by decide +kernel
def lX1_weekOfArm : List (Nat × (Op ⊕ Nat)) := [(0, .inl (o_pushI (nI 0) 1)), (1, .inl (o_istore 3 2)), (2, .inl (o_pushI (nI 0) 3)), (3, .inl (o_istore 4 5)), (5, .inl (o_iload 4 7)), (7, .inl (o_aload 0 8)), (8, .inl (o_get 1 0 11)), (11, .inl (o_get 9 4 14)), (14, .inl (o_icmp_ge 59 17)), (17, .inl (o_aload 0 18)), (18, .inl (o_get 1 0 21)), (21, .inl (o_iload 4 23)), (23, .inl (o_pushI (nI 0) 24)), (24, .inl (o_callV fX9_fact 2 9 27)), (27, .inl (o_iload 2 28)), (28, .inl (o_pushI (nI 7) 30)), (30, .inl (o_isub 31)), (31, .inl (o_pushI (nI 1) 32)), (32, .inl (o_iadd 33)), (33, .inl (o_iload 2 34)), (34, .inl (o_callS fX10_within 3 37)), (37, .inl (o_if_eq 53 40)), (40, .inl (o_iload 3 41)), (41, .inl (o_aload 0 42)), (42, .inl (o_get 1 1 45)), (45, .inl (o_iload 1 46)), (46, .inl (o_iload 4 48)), (48, .inl (o_callV fX5_loadOf 2 5 51)), (51, .inl (o_iadd 52)), (52, .inl (o_istore 3 53)), (53, .inl (o_iinc 4 (nI 1) 56)), (56, .inl (o_goto 5)), (59, .inl (o_iload 3 60)), (60, .inr 0)]
theorem qX1_weekOfArm : yX1_weekOfArm.cls = RX1 ∧ yX1_weekOfArm.cls ≠ "java/lang/invoke/MethodHandle" ∧ yX1_weekOfArm.cls ≠ "java/lang/invoke/VarHandle" ∧ (parseMethodDescriptor yX1_weekOfArm.desc).map (fun d => d.parameters.length) = some 2 := by decide +kernel
set_option maxRecDepth 10000 in
theorem hX1_weekOfArm_0 (l : Launch) {p : Program} {e : Env} {s : State} {m : MethodId} {args : Array Value} {below : List Frame} {meth : Method} {c : Code} {D : va_G} {ad adV : Nat → Nat} {cA : Nat → ClassId} {K : Kt} (C0 : Cx p s m args meth c D ad adV cA cX1_weekOfArm 5 RX1) (hr : meth.sig.returnType = (some .int)) : ∀ q ∈ lX1_weekOfArm, Sd p l e (rmd 1) s m args below meth c (MQ below (QQ D ad cA K) args s 0 0 (AA ad)) D ad cA 5 q.1 (opOf K q.2) := List.forall_mem_cons.mpr ⟨s_iconst C0 dX1_weekOfArm_0 rfl, List.forall_mem_cons.mpr ⟨s_istore_n C0 dX1_weekOfArm_1 rfl (by decide), List.forall_mem_cons.mpr ⟨s_iconst C0 dX1_weekOfArm_2 rfl, List.forall_mem_cons.mpr ⟨s_istore C0 dX1_weekOfArm_3 (by decide), List.forall_mem_cons.mpr ⟨s_iload C0 dX1_weekOfArm_5, List.forall_mem_cons.mpr ⟨s_aload_n C0 dX1_weekOfArm_7 rfl, List.forall_mem_cons.mpr ⟨s_get (ci := 1) (k := 0) C0 dX1_weekOfArm_8 inX1 rfl (by decide) tw1_190, List.forall_mem_cons.mpr ⟨s_get (ci := 9) (k := 4) C0 dX1_weekOfArm_11 inX9 rfl (by decide) tw1_97, List.forall_mem_cons.mpr ⟨s_icmp_ge C0 dX1_weekOfArm_14 rfl, List.forall_mem_cons.mpr ⟨s_aload_n C0 dX1_weekOfArm_17 rfl, List.forall_mem_cons.mpr ⟨s_get (ci := 1) (k := 0) C0 dX1_weekOfArm_18 inX1 rfl (by decide) tw1_190, List.forall_mem_cons.mpr ⟨s_iload C0 dX1_weekOfArm_21, List.forall_mem_cons.mpr ⟨s_iconst C0 dX1_weekOfArm_23 rfl, List.forall_mem_cons.mpr ⟨s_callV (ci := 9) C0 (kX9_fact l) dX1_weekOfArm_24 rfl qX9_fact tw3_211 tw3_92 tw3_93 tw1_4 tw3_94 rfl (by decide) (by decide), List.forall_mem_cons.mpr ⟨s_iload_n C0 dX1_weekOfArm_27 rfl, List.forall_mem_cons.mpr ⟨s_bipush C0 dX1_weekOfArm_28 (by decide +kernel), List.forall_mem_cons.mpr ⟨s_isub C0 dX1_weekOfArm_30, List.forall_mem_cons.mpr ⟨s_iconst C0 dX1_weekOfArm_31 rfl, List.forall_mem_cons.mpr ⟨s_iadd C0 dX1_weekOfArm_32, List.forall_mem_cons.mpr ⟨s_iload_n C0 dX1_weekOfArm_33 rfl, List.forall_mem_cons.mpr ⟨s_callN C0 (kX10_within l) dX1_weekOfArm_34 qX10_within (List.mem_of_getElem? (i := 5) rfl) tw2_171 tw1_1 tw2_172 rfl (by decide) (by decide), List.forall_mem_cons.mpr ⟨s_if_eq C0 dX1_weekOfArm_37 rfl, List.forall_mem_cons.mpr ⟨s_iload_n C0 dX1_weekOfArm_40 rfl, List.forall_mem_cons.mpr ⟨s_aload_n C0 dX1_weekOfArm_41 rfl, List.forall_mem_cons.mpr ⟨s_get (ci := 1) (k := 1) C0 dX1_weekOfArm_42 inX1 rfl (by decide) tw1_195, List.forall_mem_cons.mpr ⟨s_iload_n C0 dX1_weekOfArm_45 rfl, List.forall_mem_cons.mpr ⟨s_iload C0 dX1_weekOfArm_46, List.forall_mem_cons.mpr ⟨s_callV (ci := 5) C0 (kX5_loadOf l) dX1_weekOfArm_48 rfl qX5_loadOf tw3_184 tw3_185 tw3_186 tw1_5 tw3_187 rfl (by decide) (by decide), List.forall_mem_cons.mpr ⟨s_iadd C0 dX1_weekOfArm_51, List.forall_mem_cons.mpr ⟨s_istore_n C0 dX1_weekOfArm_52 rfl (by decide), List.forall_mem_cons.mpr ⟨s_iinc C0 dX1_weekOfArm_53 rfl (by decide), List.forall_mem_cons.mpr ⟨s_goto C0 dX1_weekOfArm_56 rfl, List.forall_mem_cons.mpr ⟨s_iload_n C0 dX1_weekOfArm_59 rfl, List.forall_mem_cons.mpr ⟨s_iret C0 hr dX1_weekOfArm_60, fun _ h => absurd h List.not_mem_nil⟩⟩⟩⟩⟩⟩⟩⟩⟩⟩⟩⟩⟩⟩⟩⟩⟩⟩⟩⟩⟩⟩⟩⟩⟩⟩⟩⟩⟩⟩⟩⟩⟩⟩
def fX1_weekOfArm : Mf := mf 5 (fun K => tl K lX1_weekOfArm)
theorem kX1_weekOfArm (l : Launch) : Okm l yX1_weekOfArm cX1_weekOfArm 5 (some .int) 1 fX1_weekOfArm := Okm_tl (own := RX1) (by decide +kernel) rfl (fun C0 hr => hX1_weekOfArm_0 l C0 hr)
end
