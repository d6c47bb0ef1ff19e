section
-- ===== PART A: goes FIRST, ahead of the names: the tables' words, and 'selects' of the private methods out of them =====
/-- a private method of a class that the tables say can be made, by its rows of tables_1 -/
def lw_okq (q : MethodName × Nat) : Prop := (q.1.cls ≠ "java/lang/invoke/MethodHandle" ∧ q.1.cls ≠ "java/lang/invoke/VarHandle") ∧ Cond.instantiable q.1.cls q.2 ∈ tables_1 ∧ Cond.privateMethod q.1 ∈ tables_1 ∧ Cond.instanceMethod q.1 ∈ tables_1
theorem lw_p0 : lw_okq (⟨"DyeVats$Text", "takesCode", "(I)Z"⟩, 7) := ⟨⟨by decide +kernel, by decide +kernel⟩, List.mem_of_getElem? (i := 68) (by decide +kernel), List.mem_of_getElem? (i := 141) (by decide +kernel), List.mem_of_getElem? (i := 142) (by decide +kernel)⟩
theorem lw_p1 : lw_okq (⟨"DyeVats$Text", "takesDigit", "(I)Z"⟩, 7) := ⟨⟨by decide +kernel, by decide +kernel⟩, List.mem_of_getElem? (i := 68) (by decide +kernel), List.mem_of_getElem? (i := 145) (by decide +kernel), List.mem_of_getElem? (i := 146) (by decide +kernel)⟩
theorem lw_p2 : lw_okq (⟨"DyeVats$Text", "canBecomeWhole", "(I)Z"⟩, 7) := ⟨⟨by decide +kernel, by decide +kernel⟩, List.mem_of_getElem? (i := 68) (by decide +kernel), List.mem_of_getElem? (i := 149) (by decide +kernel), List.mem_of_getElem? (i := 150) (by decide +kernel)⟩
theorem lw_p3 : lw_okq (⟨"DyeVats$Text", "leastOfPart", "()I"⟩, 7) := ⟨⟨by decide +kernel, by decide +kernel⟩, List.mem_of_getElem? (i := 68) (by decide +kernel), List.mem_of_getElem? (i := 153) (by decide +kernel), List.mem_of_getElem? (i := 154) (by decide +kernel)⟩
theorem lw_p4 : lw_okq (⟨"DyeVats$Text", "mostOfPart", "()I"⟩, 7) := ⟨⟨by decide +kernel, by decide +kernel⟩, List.mem_of_getElem? (i := 68) (by decide +kernel), List.mem_of_getElem? (i := 157) (by decide +kernel), List.mem_of_getElem? (i := 158) (by decide +kernel)⟩
theorem lw_p5 : lw_okq (⟨"DyeVats$Text", "isWholeNumber", "()Z"⟩, 7) := ⟨⟨by decide +kernel, by decide +kernel⟩, List.mem_of_getElem? (i := 68) (by decide +kernel), List.mem_of_getElem? (i := 202) (by decide +kernel), List.mem_of_getElem? (i := 203) (by decide +kernel)⟩
theorem lw_p6 : lw_okq (⟨"DyeVats$State", "runValves", "()V"⟩, 1) := ⟨⟨by decide +kernel, by decide +kernel⟩, List.mem_of_getElem? (i := 29) (by decide +kernel), List.mem_of_getElem? (i := 226) (by decide +kernel), List.mem_of_getElem? (i := 227) (by decide +kernel)⟩
theorem lw_p7 : lw_okq (⟨"DyeVats$State", "isOpen", "(II)Z"⟩, 1) := ⟨⟨by decide +kernel, by decide +kernel⟩, List.mem_of_getElem? (i := 29) (by decide +kernel), List.mem_of_getElem? (i := 234) (by decide +kernel), List.mem_of_getElem? (i := 235) (by decide +kernel)⟩
theorem lw_p8 : lw_okq (⟨"DyeVats$State", "moveWater", "(III)I"⟩, 1) := ⟨⟨by decide +kernel, by decide +kernel⟩, List.mem_of_getElem? (i := 29) (by decide +kernel), List.mem_of_getElem? (i := 238) (by decide +kernel), List.mem_of_getElem? (i := 239) (by decide +kernel)⟩
theorem lw_p9 : lw_okq (⟨"DyeVats$State", "levelPipes", "()V"⟩, 1) := ⟨⟨by decide +kernel, by decide +kernel⟩, List.mem_of_getElem? (i := 29) (by decide +kernel), List.mem_of_getElem? (i := 248) (by decide +kernel), List.mem_of_getElem? (i := 249) (by decide +kernel)⟩
theorem lw_p10 : lw_okq (⟨"DyeVats$State", "settleGrains", "()V"⟩, 1) := ⟨⟨by decide +kernel, by decide +kernel⟩, List.mem_of_getElem? (i := 29) (by decide +kernel), List.mem_of_getElem? (i := 252) (by decide +kernel), List.mem_of_getElem? (i := 253) (by decide +kernel)⟩
theorem lw_p11 : lw_okq (⟨"DyeVats", "numberOf", "(I)I"⟩, 9) := ⟨⟨by decide +kernel, by decide +kernel⟩, List.mem_of_getElem? (i := 21) (by decide +kernel), List.mem_of_getElem? (i := 270) (by decide +kernel), List.mem_of_getElem? (i := 271) (by decide +kernel)⟩
theorem lw_p12 : lw_okq (⟨"DyeVats", "hashVats", "(J)J"⟩, 9) := ⟨⟨by decide +kernel, by decide +kernel⟩, List.mem_of_getElem? (i := 21) (by decide +kernel), List.mem_of_getElem? (i := 289) (by decide +kernel), List.mem_of_getElem? (i := 290) (by decide +kernel)⟩
theorem lw_p13 : lw_okq (⟨"DyeVats", "findEmptyHours", "()V"⟩, 9) := ⟨⟨by decide +kernel, by decide +kernel⟩, List.mem_of_getElem? (i := 21) (by decide +kernel), List.mem_of_getElem? (i := 293) (by decide +kernel), List.mem_of_getElem? (i := 294) (by decide +kernel)⟩
theorem lw_p14 : lw_okq (⟨"DyeVats", "hashValves", "(J)J"⟩, 9) := ⟨⟨by decide +kernel, by decide +kernel⟩, List.mem_of_getElem? (i := 21) (by decide +kernel), List.mem_of_getElem? (i := 301) (by decide +kernel), List.mem_of_getElem? (i := 302) (by decide +kernel)⟩
theorem lw_p15 : lw_okq (⟨"DyeVats", "hashDyes", "(J)J"⟩, 9) := ⟨⟨by decide +kernel, by decide +kernel⟩, List.mem_of_getElem? (i := 21) (by decide +kernel), List.mem_of_getElem? (i := 309) (by decide +kernel), List.mem_of_getElem? (i := 310) (by decide +kernel)⟩
def lw_privs_1 : List (MethodName × Nat) := [(⟨"DyeVats$Text", "takesCode", "(I)Z"⟩, 7), (⟨"DyeVats$Text", "takesDigit", "(I)Z"⟩, 7), (⟨"DyeVats$Text", "canBecomeWhole", "(I)Z"⟩, 7), (⟨"DyeVats$Text", "leastOfPart", "()I"⟩, 7), (⟨"DyeVats$Text", "mostOfPart", "()I"⟩, 7), (⟨"DyeVats$Text", "isWholeNumber", "()Z"⟩, 7), (⟨"DyeVats$State", "runValves", "()V"⟩, 1), (⟨"DyeVats$State", "isOpen", "(II)Z"⟩, 1), (⟨"DyeVats$State", "moveWater", "(III)I"⟩, 1), (⟨"DyeVats$State", "levelPipes", "()V"⟩, 1), (⟨"DyeVats$State", "settleGrains", "()V"⟩, 1), (⟨"DyeVats", "numberOf", "(I)I"⟩, 9), (⟨"DyeVats", "hashVats", "(J)J"⟩, 9), (⟨"DyeVats", "findEmptyHours", "()V"⟩, 9), (⟨"DyeVats", "hashValves", "(J)J"⟩, 9), (⟨"DyeVats", "hashDyes", "(J)J"⟩, 9)]
theorem lw_r1 : ∀ q ∈ lw_privs_1, lw_okq q := List.forall_mem_cons.mpr ⟨lw_p0, List.forall_mem_cons.mpr ⟨lw_p1, List.forall_mem_cons.mpr ⟨lw_p2, List.forall_mem_cons.mpr ⟨lw_p3, List.forall_mem_cons.mpr ⟨lw_p4, List.forall_mem_cons.mpr ⟨lw_p5, List.forall_mem_cons.mpr ⟨lw_p6, List.forall_mem_cons.mpr ⟨lw_p7, List.forall_mem_cons.mpr ⟨lw_p8, List.forall_mem_cons.mpr ⟨lw_p9, List.forall_mem_cons.mpr ⟨lw_p10, List.forall_mem_cons.mpr ⟨lw_p11, List.forall_mem_cons.mpr ⟨lw_p12, List.forall_mem_cons.mpr ⟨lw_p13, List.forall_mem_cons.mpr ⟨lw_p14, List.forall_mem_cons.mpr ⟨lw_p15, fun _ h => absurd h List.not_mem_nil⟩⟩⟩⟩⟩⟩⟩⟩⟩⟩⟩⟩⟩⟩⟩⟩
theorem lw_p16 : lw_okq (⟨"DyeVats$State", "grainsInAll", "(I)I"⟩, 1) := ⟨⟨by decide +kernel, by decide +kernel⟩, List.mem_of_getElem? (i := 29) (by decide +kernel), List.mem_of_getElem? (i := 317) (by decide +kernel), List.mem_of_getElem? (i := 318) (by decide +kernel)⟩
theorem lw_p17 : lw_okq (⟨"DyeVats$State", "strongestVat", "(I)I"⟩, 1) := ⟨⟨by decide +kernel, by decide +kernel⟩, List.mem_of_getElem? (i := 29) (by decide +kernel), List.mem_of_getElem? (i := 321) (by decide +kernel), List.mem_of_getElem? (i := 322) (by decide +kernel)⟩
theorem lw_p18 : lw_okq (⟨"DyeVats$Days", "reachDay", "(I)V"⟩, 5) := ⟨⟨by decide +kernel, by decide +kernel⟩, List.mem_of_getElem? (i := 42) (by decide +kernel), List.mem_of_getElem? (i := 335) (by decide +kernel), List.mem_of_getElem? (i := 336) (by decide +kernel)⟩
theorem lw_p19 : lw_okq (⟨"DyeVats$Days", "isSameLook", "(II)Z"⟩, 5) := ⟨⟨by decide +kernel, by decide +kernel⟩, List.mem_of_getElem? (i := 42) (by decide +kernel), List.mem_of_getElem? (i := 340) (by decide +kernel), List.mem_of_getElem? (i := 341) (by decide +kernel)⟩
theorem lw_p20 : lw_okq (⟨"java/lang/Throwable", "fillInStackTrace", "(I)Ljava/lang/Throwable;"⟩, 6) := ⟨⟨by decide +kernel, by decide +kernel⟩, List.mem_of_getElem? (i := 406) (by decide +kernel), List.mem_of_getElem? (i := 404) (by decide +kernel), List.mem_of_getElem? (i := 405) (by decide +kernel)⟩
theorem lw_p21 : lw_okq (⟨"DyeVats", "saveState", "()V"⟩, 9) := ⟨⟨by decide +kernel, by decide +kernel⟩, List.mem_of_getElem? (i := 21) (by decide +kernel), List.mem_of_getElem? (i := 454) (by decide +kernel), List.mem_of_getElem? (i := 455) (by decide +kernel)⟩
theorem lw_p22 : lw_okq (⟨"DyeVats", "refuse", "()I"⟩, 9) := ⟨⟨by decide +kernel, by decide +kernel⟩, List.mem_of_getElem? (i := 21) (by decide +kernel), List.mem_of_getElem? (i := 459) (by decide +kernel), List.mem_of_getElem? (i := 460) (by decide +kernel)⟩
theorem lw_p23 : lw_okq (⟨"DyeVats", "requireValve", "(I)V"⟩, 9) := ⟨⟨by decide +kernel, by decide +kernel⟩, List.mem_of_getElem? (i := 21) (by decide +kernel), List.mem_of_getElem? (i := 529) (by decide +kernel), List.mem_of_getElem? (i := 530) (by decide +kernel)⟩
theorem lw_p24 : lw_okq (⟨"DyeVatsModel", "setVat", "(III)V"⟩, 17) := ⟨⟨by decide +kernel, by decide +kernel⟩, List.mem_of_getElem? (i := 654) (by decide +kernel), List.mem_of_getElem? (i := 660) (by decide +kernel), List.mem_of_getElem? (i := 661) (by decide +kernel)⟩
theorem lw_p25 : lw_okq (⟨"DyeVatsModel", "hourOfDay", "()I"⟩, 17) := ⟨⟨by decide +kernel, by decide +kernel⟩, List.mem_of_getElem? (i := 654) (by decide +kernel), List.mem_of_getElem? (i := 731) (by decide +kernel), List.mem_of_getElem? (i := 732) (by decide +kernel)⟩
theorem lw_p26 : lw_okq (⟨"DyeVatsModel", "record", "()V"⟩, 17) := ⟨⟨by decide +kernel, by decide +kernel⟩, List.mem_of_getElem? (i := 654) (by decide +kernel), List.mem_of_getElem? (i := 739) (by decide +kernel), List.mem_of_getElem? (i := 740) (by decide +kernel)⟩
theorem lw_p27 : lw_okq (⟨"DyeVatsModel", "of", "(II)I"⟩, 17) := ⟨⟨by decide +kernel, by decide +kernel⟩, List.mem_of_getElem? (i := 654) (by decide +kernel), List.mem_of_getElem? (i := 750) (by decide +kernel), List.mem_of_getElem? (i := 751) (by decide +kernel)⟩
theorem lw_p28 : lw_okq (⟨"DyeVatsModel", "add", "(III)V"⟩, 17) := ⟨⟨by decide +kernel, by decide +kernel⟩, List.mem_of_getElem? (i := 654) (by decide +kernel), List.mem_of_getElem? (i := 754) (by decide +kernel), List.mem_of_getElem? (i := 755) (by decide +kernel)⟩
theorem lw_p29 : lw_okq (⟨"DyeVatsModel", "holds", "(I)I"⟩, 17) := ⟨⟨by decide +kernel, by decide +kernel⟩, List.mem_of_getElem? (i := 654) (by decide +kernel), List.mem_of_getElem? (i := 770) (by decide +kernel), List.mem_of_getElem? (i := 771) (by decide +kernel)⟩
theorem lw_p30 : lw_okq (⟨"DyeVatsModel", "putValve", "(IIIII)V"⟩, 17) := ⟨⟨by decide +kernel, by decide +kernel⟩, List.mem_of_getElem? (i := 654) (by decide +kernel), List.mem_of_getElem? (i := 785) (by decide +kernel), List.mem_of_getElem? (i := 786) (by decide +kernel)⟩
theorem lw_p31 : lw_okq (⟨"DyeVatsModel", "isValve", "(I)Z"⟩, 17) := ⟨⟨by decide +kernel, by decide +kernel⟩, List.mem_of_getElem? (i := 654) (by decide +kernel), List.mem_of_getElem? (i := 793) (by decide +kernel), List.mem_of_getElem? (i := 794) (by decide +kernel)⟩
def lw_privs_2 : List (MethodName × Nat) := [(⟨"DyeVats$State", "grainsInAll", "(I)I"⟩, 1), (⟨"DyeVats$State", "strongestVat", "(I)I"⟩, 1), (⟨"DyeVats$Days", "reachDay", "(I)V"⟩, 5), (⟨"DyeVats$Days", "isSameLook", "(II)Z"⟩, 5), (⟨"java/lang/Throwable", "fillInStackTrace", "(I)Ljava/lang/Throwable;"⟩, 6), (⟨"DyeVats", "saveState", "()V"⟩, 9), (⟨"DyeVats", "refuse", "()I"⟩, 9), (⟨"DyeVats", "requireValve", "(I)V"⟩, 9), (⟨"DyeVatsModel", "setVat", "(III)V"⟩, 17), (⟨"DyeVatsModel", "hourOfDay", "()I"⟩, 17), (⟨"DyeVatsModel", "record", "()V"⟩, 17), (⟨"DyeVatsModel", "of", "(II)I"⟩, 17), (⟨"DyeVatsModel", "add", "(III)V"⟩, 17), (⟨"DyeVatsModel", "holds", "(I)I"⟩, 17), (⟨"DyeVatsModel", "putValve", "(IIIII)V"⟩, 17), (⟨"DyeVatsModel", "isValve", "(I)Z"⟩, 17)]
theorem lw_r2 : ∀ q ∈ lw_privs_2, lw_okq q := List.forall_mem_cons.mpr ⟨lw_p16, List.forall_mem_cons.mpr ⟨lw_p17, List.forall_mem_cons.mpr ⟨lw_p18, List.forall_mem_cons.mpr ⟨lw_p19, List.forall_mem_cons.mpr ⟨lw_p20, List.forall_mem_cons.mpr ⟨lw_p21, List.forall_mem_cons.mpr ⟨lw_p22, List.forall_mem_cons.mpr ⟨lw_p23, List.forall_mem_cons.mpr ⟨lw_p24, List.forall_mem_cons.mpr ⟨lw_p25, List.forall_mem_cons.mpr ⟨lw_p26, List.forall_mem_cons.mpr ⟨lw_p27, List.forall_mem_cons.mpr ⟨lw_p28, List.forall_mem_cons.mpr ⟨lw_p29, List.forall_mem_cons.mpr ⟨lw_p30, List.forall_mem_cons.mpr ⟨lw_p31, fun _ h => absurd h List.not_mem_nil⟩⟩⟩⟩⟩⟩⟩⟩⟩⟩⟩⟩⟩⟩⟩⟩
theorem lw_p32 : lw_okq (⟨"DyeVatsModel", "dropValve", "(I)V"⟩, 17) := ⟨⟨by decide +kernel, by decide +kernel⟩, List.mem_of_getElem? (i := 654) (by decide +kernel), List.mem_of_getElem? (i := 797) (by decide +kernel), List.mem_of_getElem? (i := 798) (by decide +kernel)⟩
theorem lw_p33 : lw_okq (⟨"DyeVatsModel", "isPipe", "(II)Z"⟩, 17) := ⟨⟨by decide +kernel, by decide +kernel⟩, List.mem_of_getElem? (i := 654) (by decide +kernel), List.mem_of_getElem? (i := 805) (by decide +kernel), List.mem_of_getElem? (i := 806) (by decide +kernel)⟩
theorem lw_p34 : lw_okq (⟨"DyeVatsModel", "hours", "(I)V"⟩, 17) := ⟨⟨by decide +kernel, by decide +kernel⟩, List.mem_of_getElem? (i := 654) (by decide +kernel), List.mem_of_getElem? (i := 817) (by decide +kernel), List.mem_of_getElem? (i := 818) (by decide +kernel)⟩
theorem lw_p35 : lw_okq (⟨"DyeVatsModel", "hour", "()V"⟩, 17) := ⟨⟨by decide +kernel, by decide +kernel⟩, List.mem_of_getElem? (i := 654) (by decide +kernel), List.mem_of_getElem? (i := 821) (by decide +kernel), List.mem_of_getElem? (i := 822) (by decide +kernel)⟩
theorem lw_p36 : lw_okq (⟨"DyeVatsModel", "isOpen", "(I)Z"⟩, 17) := ⟨⟨by decide +kernel, by decide +kernel⟩, List.mem_of_getElem? (i := 654) (by decide +kernel), List.mem_of_getElem? (i := 825) (by decide +kernel), List.mem_of_getElem? (i := 826) (by decide +kernel)⟩
theorem lw_p37 : lw_okq (⟨"DyeVatsModel", "valveNow", "(II)I"⟩, 17) := ⟨⟨by decide +kernel, by decide +kernel⟩, List.mem_of_getElem? (i := 654) (by decide +kernel), List.mem_of_getElem? (i := 829) (by decide +kernel), List.mem_of_getElem? (i := 830) (by decide +kernel)⟩
theorem lw_p38 : lw_okq (⟨"DyeVatsModel", "move", "(III)I"⟩, 17) := ⟨⟨by decide +kernel, by decide +kernel⟩, List.mem_of_getElem? (i := 654) (by decide +kernel), List.mem_of_getElem? (i := 833) (by decide +kernel), List.mem_of_getElem? (i := 834) (by decide +kernel)⟩
theorem lw_p39 : lw_okq (⟨"DyeVatsModel", "level", "(II)V"⟩, 17) := ⟨⟨by decide +kernel, by decide +kernel⟩, List.mem_of_getElem? (i := 654) (by decide +kernel), List.mem_of_getElem? (i := 837) (by decide +kernel), List.mem_of_getElem? (i := 838) (by decide +kernel)⟩
theorem lw_p40 : lw_okq (⟨"DyeVatsModel", "settle", "(I)V"⟩, 17) := ⟨⟨by decide +kernel, by decide +kernel⟩, List.mem_of_getElem? (i := 654) (by decide +kernel), List.mem_of_getElem? (i := 841) (by decide +kernel), List.mem_of_getElem? (i := 842) (by decide +kernel)⟩
theorem lw_p41 : lw_okq (⟨"DyeVatsModel", "readPlan", "()I"⟩, 17) := ⟨⟨by decide +kernel, by decide +kernel⟩, List.mem_of_getElem? (i := 654) (by decide +kernel), List.mem_of_getElem? (i := 857) (by decide +kernel), List.mem_of_getElem? (i := 858) (by decide +kernel)⟩
theorem lw_p42 : lw_okq (⟨"DyeVatsModel", "readValve", "()V"⟩, 17) := ⟨⟨by decide +kernel, by decide +kernel⟩, List.mem_of_getElem? (i := 654) (by decide +kernel), List.mem_of_getElem? (i := 861) (by decide +kernel), List.mem_of_getElem? (i := 862) (by decide +kernel)⟩
theorem lw_p43 : lw_okq (⟨"DyeVatsModel", "takeVat", "(II)V"⟩, 17) := ⟨⟨by decide +kernel, by decide +kernel⟩, List.mem_of_getElem? (i := 654) (by decide +kernel), List.mem_of_getElem? (i := 865) (by decide +kernel), List.mem_of_getElem? (i := 866) (by decide +kernel)⟩
theorem lw_p44 : lw_okq (⟨"DyeVatsModel", "sign", "()I"⟩, 17) := ⟨⟨by decide +kernel, by decide +kernel⟩, List.mem_of_getElem? (i := 654) (by decide +kernel), List.mem_of_getElem? (i := 869) (by decide +kernel), List.mem_of_getElem? (i := 870) (by decide +kernel)⟩
theorem lw_p45 : lw_okq (⟨"DyeVatsModel", "take", "(Z)V"⟩, 17) := ⟨⟨by decide +kernel, by decide +kernel⟩, List.mem_of_getElem? (i := 654) (by decide +kernel), List.mem_of_getElem? (i := 873) (by decide +kernel), List.mem_of_getElem? (i := 874) (by decide +kernel)⟩
theorem lw_p46 : lw_okq (⟨"DyeVatsModel", "takeSign", "(I)V"⟩, 17) := ⟨⟨by decide +kernel, by decide +kernel⟩, List.mem_of_getElem? (i := 654) (by decide +kernel), List.mem_of_getElem? (i := 877) (by decide +kernel), List.mem_of_getElem? (i := 878) (by decide +kernel)⟩
theorem lw_p47 : lw_okq (⟨"DyeVatsModel", "takeRate", "()V"⟩, 17) := ⟨⟨by decide +kernel, by decide +kernel⟩, List.mem_of_getElem? (i := 654) (by decide +kernel), List.mem_of_getElem? (i := 881) (by decide +kernel), List.mem_of_getElem? (i := 882) (by decide +kernel)⟩
def lw_privs_3 : List (MethodName × Nat) := [(⟨"DyeVatsModel", "dropValve", "(I)V"⟩, 17), (⟨"DyeVatsModel", "isPipe", "(II)Z"⟩, 17), (⟨"DyeVatsModel", "hours", "(I)V"⟩, 17), (⟨"DyeVatsModel", "hour", "()V"⟩, 17), (⟨"DyeVatsModel", "isOpen", "(I)Z"⟩, 17), (⟨"DyeVatsModel", "valveNow", "(II)I"⟩, 17), (⟨"DyeVatsModel", "move", "(III)I"⟩, 17), (⟨"DyeVatsModel", "level", "(II)V"⟩, 17), (⟨"DyeVatsModel", "settle", "(I)V"⟩, 17), (⟨"DyeVatsModel", "readPlan", "()I"⟩, 17), (⟨"DyeVatsModel", "readValve", "()V"⟩, 17), (⟨"DyeVatsModel", "takeVat", "(II)V"⟩, 17), (⟨"DyeVatsModel", "sign", "()I"⟩, 17), (⟨"DyeVatsModel", "take", "(Z)V"⟩, 17), (⟨"DyeVatsModel", "takeSign", "(I)V"⟩, 17), (⟨"DyeVatsModel", "takeRate", "()V"⟩, 17)]
theorem lw_r3 : ∀ q ∈ lw_privs_3, lw_okq q := List.forall_mem_cons.mpr ⟨lw_p32, List.forall_mem_cons.mpr ⟨lw_p33, List.forall_mem_cons.mpr ⟨lw_p34, List.forall_mem_cons.mpr ⟨lw_p35, List.forall_mem_cons.mpr ⟨lw_p36, List.forall_mem_cons.mpr ⟨lw_p37, List.forall_mem_cons.mpr ⟨lw_p38, List.forall_mem_cons.mpr ⟨lw_p39, List.forall_mem_cons.mpr ⟨lw_p40, List.forall_mem_cons.mpr ⟨lw_p41, List.forall_mem_cons.mpr ⟨lw_p42, List.forall_mem_cons.mpr ⟨lw_p43, List.forall_mem_cons.mpr ⟨lw_p44, List.forall_mem_cons.mpr ⟨lw_p45, List.forall_mem_cons.mpr ⟨lw_p46, List.forall_mem_cons.mpr ⟨lw_p47, fun _ h => absurd h List.not_mem_nil⟩⟩⟩⟩⟩⟩⟩⟩⟩⟩⟩⟩⟩⟩⟩⟩
theorem lw_p48 : lw_okq (⟨"DyeVatsModel", "takeHour", "(I)V"⟩, 17) := ⟨⟨by decide +kernel, by decide +kernel⟩, List.mem_of_getElem? (i := 654) (by decide +kernel), List.mem_of_getElem? (i := 885) (by decide +kernel), List.mem_of_getElem? (i := 886) (by decide +kernel)⟩
theorem lw_p49 : lw_okq (⟨"DyeVatsModel", "vatNow", "(II)I"⟩, 17) := ⟨⟨by decide +kernel, by decide +kernel⟩, List.mem_of_getElem? (i := 654) (by decide +kernel), List.mem_of_getElem? (i := 900) (by decide +kernel), List.mem_of_getElem? (i := 901) (by decide +kernel)⟩
theorem lw_p50 : lw_okq (⟨"DyeVatsModel", "toldOfValve", "(II)I"⟩, 17) := ⟨⟨by decide +kernel, by decide +kernel⟩, List.mem_of_getElem? (i := 654) (by decide +kernel), List.mem_of_getElem? (i := 908) (by decide +kernel), List.mem_of_getElem? (i := 909) (by decide +kernel)⟩
theorem lw_p51 : lw_okq (⟨"DyeVatsModel", "dyeNow", "(II)I"⟩, 17) := ⟨⟨by decide +kernel, by decide +kernel⟩, List.mem_of_getElem? (i := 654) (by decide +kernel), List.mem_of_getElem? (i := 916) (by decide +kernel), List.mem_of_getElem? (i := 917) (by decide +kernel)⟩
theorem lw_p52 : lw_okq (⟨"DyeVatsModel", "inVats", "(I)I"⟩, 17) := ⟨⟨by decide +kernel, by decide +kernel⟩, List.mem_of_getElem? (i := 654) (by decide +kernel), List.mem_of_getElem? (i := 920) (by decide +kernel), List.mem_of_getElem? (i := 921) (by decide +kernel)⟩
theorem lw_p53 : lw_okq (⟨"DyeVatsModel", "strongest", "(I)I"⟩, 17) := ⟨⟨by decide +kernel, by decide +kernel⟩, List.mem_of_getElem? (i := 654) (by decide +kernel), List.mem_of_getElem? (i := 924) (by decide +kernel), List.mem_of_getElem? (i := 925) (by decide +kernel)⟩
theorem lw_p54 : lw_okq (⟨"DyeVatsModel", "countNow", "(I)I"⟩, 17) := ⟨⟨by decide +kernel, by decide +kernel⟩, List.mem_of_getElem? (i := 654) (by decide +kernel), List.mem_of_getElem? (i := 932) (by decide +kernel), List.mem_of_getElem? (i := 933) (by decide +kernel)⟩
theorem lw_p55 : lw_okq (⟨"DyeVatsModel", "pipes", "()I"⟩, 17) := ⟨⟨by decide +kernel, by decide +kernel⟩, List.mem_of_getElem? (i := 654) (by decide +kernel), List.mem_of_getElem? (i := 936) (by decide +kernel), List.mem_of_getElem? (i := 937) (by decide +kernel)⟩
theorem lw_p56 : lw_okq (⟨"DyeVatsModel", "leftBehind", "(III)I"⟩, 17) := ⟨⟨by decide +kernel, by decide +kernel⟩, List.mem_of_getElem? (i := 654) (by decide +kernel), List.mem_of_getElem? (i := 944) (by decide +kernel), List.mem_of_getElem? (i := 945) (by decide +kernel)⟩
theorem lw_p57 : lw_okq (⟨"DyeVatsModel", "putAside", "()V"⟩, 17) := ⟨⟨by decide +kernel, by decide +kernel⟩, List.mem_of_getElem? (i := 654) (by decide +kernel), List.mem_of_getElem? (i := 948) (by decide +kernel), List.mem_of_getElem? (i := 949) (by decide +kernel)⟩
theorem lw_p58 : lw_okq (⟨"DyeVatsModel", "putBack", "()V"⟩, 17) := ⟨⟨by decide +kernel, by decide +kernel⟩, List.mem_of_getElem? (i := 654) (by decide +kernel), List.mem_of_getElem? (i := 952) (by decide +kernel), List.mem_of_getElem? (i := 953) (by decide +kernel)⟩
theorem lw_p59 : lw_okq (⟨"DyeVatsModel", "hoursToEmpty", "(I)I"⟩, 17) := ⟨⟨by decide +kernel, by decide +kernel⟩, List.mem_of_getElem? (i := 654) (by decide +kernel), List.mem_of_getElem? (i := 960) (by decide +kernel), List.mem_of_getElem? (i := 961) (by decide +kernel)⟩
theorem lw_p60 : lw_okq (⟨"DyeVatsModel", "findRound", "()V"⟩, 17) := ⟨⟨by decide +kernel, by decide +kernel⟩, List.mem_of_getElem? (i := 654) (by decide +kernel), List.mem_of_getElem? (i := 968) (by decide +kernel), List.mem_of_getElem? (i := 969) (by decide +kernel)⟩
theorem lw_p61 : lw_okq (⟨"DyeVatsModel", "isSameLook", "(II)Z"⟩, 17) := ⟨⟨by decide +kernel, by decide +kernel⟩, List.mem_of_getElem? (i := 654) (by decide +kernel), List.mem_of_getElem? (i := 972) (by decide +kernel), List.mem_of_getElem? (i := 973) (by decide +kernel)⟩
theorem lw_p62 : lw_okq (⟨"DyeVatsModel", "findMainValve", "()I"⟩, 17) := ⟨⟨by decide +kernel, by decide +kernel⟩, List.mem_of_getElem? (i := 654) (by decide +kernel), List.mem_of_getElem? (i := 980) (by decide +kernel), List.mem_of_getElem? (i := 981) (by decide +kernel)⟩
theorem lw_p63 : lw_okq (⟨"DyeVatsModel", "shareGone", "()D"⟩, 17) := ⟨⟨by decide +kernel, by decide +kernel⟩, List.mem_of_getElem? (i := 654) (by decide +kernel), List.mem_of_getElem? (i := 988) (by decide +kernel), List.mem_of_getElem? (i := 989) (by decide +kernel)⟩
def lw_privs_4 : List (MethodName × Nat) := [(⟨"DyeVatsModel", "takeHour", "(I)V"⟩, 17), (⟨"DyeVatsModel", "vatNow", "(II)I"⟩, 17), (⟨"DyeVatsModel", "toldOfValve", "(II)I"⟩, 17), (⟨"DyeVatsModel", "dyeNow", "(II)I"⟩, 17), (⟨"DyeVatsModel", "inVats", "(I)I"⟩, 17), (⟨"DyeVatsModel", "strongest", "(I)I"⟩, 17), (⟨"DyeVatsModel", "countNow", "(I)I"⟩, 17), (⟨"DyeVatsModel", "pipes", "()I"⟩, 17), (⟨"DyeVatsModel", "leftBehind", "(III)I"⟩, 17), (⟨"DyeVatsModel", "putAside", "()V"⟩, 17), (⟨"DyeVatsModel", "putBack", "()V"⟩, 17), (⟨"DyeVatsModel", "hoursToEmpty", "(I)I"⟩, 17), (⟨"DyeVatsModel", "findRound", "()V"⟩, 17), (⟨"DyeVatsModel", "isSameLook", "(II)Z"⟩, 17), (⟨"DyeVatsModel", "findMainValve", "()I"⟩, 17), (⟨"DyeVatsModel", "shareGone", "()D"⟩, 17)]
theorem lw_r4 : ∀ q ∈ lw_privs_4, lw_okq q := List.forall_mem_cons.mpr ⟨lw_p48, List.forall_mem_cons.mpr ⟨lw_p49, List.forall_mem_cons.mpr ⟨lw_p50, List.forall_mem_cons.mpr ⟨lw_p51, List.forall_mem_cons.mpr ⟨lw_p52, List.forall_mem_cons.mpr ⟨lw_p53, List.forall_mem_cons.mpr ⟨lw_p54, List.forall_mem_cons.mpr ⟨lw_p55, List.forall_mem_cons.mpr ⟨lw_p56, List.forall_mem_cons.mpr ⟨lw_p57, List.forall_mem_cons.mpr ⟨lw_p58, List.forall_mem_cons.mpr ⟨lw_p59, List.forall_mem_cons.mpr ⟨lw_p60, List.forall_mem_cons.mpr ⟨lw_p61, List.forall_mem_cons.mpr ⟨lw_p62, List.forall_mem_cons.mpr ⟨lw_p63, fun _ h => absurd h List.not_mem_nil⟩⟩⟩⟩⟩⟩⟩⟩⟩⟩⟩⟩⟩⟩⟩⟩
def lw_privs : List (MethodName × Nat) := lw_privs_1 ++ (lw_privs_2 ++ (lw_privs_3 ++ (lw_privs_4)))
def lw_tbl : List Cond := k2_sels lw_privs ++ tables_1
theorem lw_privs_ok : ∀ q ∈ lw_privs, lw_okq q := by
  show ∀ q ∈ lw_privs_1 ++ (lw_privs_2 ++ (lw_privs_3 ++ (lw_privs_4))), lw_okq q
  exact List.forall_mem_append.mpr ⟨lw_r1, List.forall_mem_append.mpr ⟨lw_r2, List.forall_mem_append.mpr ⟨lw_r3, lw_r4⟩⟩⟩
/-- the streams that the claim lets the run draw from -/
abbrev lw_cs : List Choice := [Jvm.Choice.named "NaN.bits"]
theorem lw_bits : nanBits ∈ lw_cs := by first | decide | exact List.mem_cons_self | simp [lw_cs, nanBits]
end
section
/-! ===== BEGIN words of one list among another's, by their places ===== -/
theorem goodIn_r {big : List Cond} (ws : List Cond) (ps : List Nat) (hp : ws = ps.filterMap (fun i => big[i]?)) (h : ws.all goodWord = true) : GoodIn big ws := by
  intro w hw
  have h1 := List.all_eq_true.mp h w hw
  rw [hp] at hw
  obtain ⟨i, -, hi⟩ := List.mem_filterMap.mp hw
  have hm : w ∈ big := by first | exact List.mem_of_getElem? hi | exact List.getElem?_mem hi
  exact ⟨hm, good_of_word h1⟩
theorem goodIn_app {big a b : List Cond} (ha : GoodIn big a) (hb : GoodIn big b) : GoodIn big (a ++ b) := fun w h => (List.mem_append.mp h).elim (ha w) (hb w)
theorem goodIn_ca {big a b : List Cond} {c : Cond} (ha : GoodIn big (c :: a)) (hb : GoodIn big b) : GoodIn big (c :: (a ++ b)) := fun w h => (List.mem_cons.mp h).elim (fun e => ha w (List.mem_cons.mpr (Or.inl e))) (fun h => (List.mem_append.mp h).elim (fun h => ha w (List.mem_cons.mpr (Or.inr h))) (hb w))
theorem goodIn_sub {big ws : List Cond} (hm : ∀ w ∈ ws, w ∈ big) (h : ws.all goodWord = true) : GoodIn big ws := fun w hw => ⟨hm w hw, good_of_word (List.all_eq_true.mp h w hw)⟩
/-! ===== END ===== -/

/-! ===== BEGIN exceptions that leave a method, and their catching by the caller (launches without stack traces) ===== -/
section VXA
/-! The laws vx_back, vx_callV, vx_callS, vx_callSW, vx_throw0, vx_throwS follow proofs of the library, with one case more: JvmDerived/Free/Laws.lean (Back.of_free), Shelf42/LK1.lean (callV, callS), Shelf/KitTraced.lean (throwNew0V, throwNewS). -/
/-- where a method has thrown q: the class by its name, the cell, what was written, the world -/
def vx_T (XC : String → State → State → Prop) (st : State) (q : Addr) (t : State) (mc ms : Nat) (free : Addr → Prop) : Prop :=
  ∃ (E : String) (ce : Cell) (L : List Loc), XC E st t ∧ t.heap[q]? = some ce ∧ ce.vm = .none ∧ st.vm.findClass E = some ce.cls ∧ st.WarmedH t.vm ∧ st.sameButNew ({ t with vm := st.vm } : State) L mc ms ∧ ∀ z ∈ L, free z.base
def vx_Q (Qc : Array Value → State → Outcome → State → Prop) (XC : String → State → State → Prop) (mc ms : Nat) (free : Addr → Prop) : Array Value → State → Outcome → State → Prop := fun a st o t =>
  (Qc a st o t ∧ ∃ L, FrameEnd st o t L mc ms ∧ ∀ q ∈ L, free q.base) ∨ ∃ q, o = .threw q ∧ vx_T XC st q t mc ms free
/-- a callee that returns or throws -/
def vx_Met (l : Launch) (y : MethodName) (ws : List Cond) (rm : Room) (Pc : Array Value → State → Prop) (Qc : Array Value → State → Outcome → State → Prop) (XC : String → State → State → Prop) (mc ms : Nat) (free : Addr → Prop) : Prop :=
  MetFree l y (headSpec ws rm) Pc (fun _ _ _ _ _ => True) (vx_Q Qc XC mc ms free)
def vx_Post (XC : String → State → State → Prop) (mc ms : Nat) (free : Addr → Prop) : Pt → Array Value → Addr → Pt → Prop := fun A a q B =>
  ∃ (g : JFrame) (mk : MethodId) (t : State) (L : List Loc) (E : String) (ce : Cell), B.U.heap = t.heap ∧ B.U.vm = t.vm ∧ XC E (A.U.calling g mk a) t ∧ t.heap[q]? = some ce ∧ ce.vm = .none ∧ A.U.vm.findClass E = some ce.cls ∧ B.locs = A.locs ++ L ∧ (∀ z ∈ L, free z.base) ∧ B.cells = A.cells + mc ∧ B.slots = A.slots + ms
def vx_Back (l : Launch) (R : Room) (p : Program) (e : Env) (below : List Frame) (s : State) (sargs : Array Value) (y : MethodName) (len W9 : Nat)
    (Pre : Pt → Array Value → Prop) (Post : Pt → Array Value → Option Value → Pt → Prop) (PostX : Pt → Array Value → Addr → Pt → Prop) : Prop :=
  ∀ (m : MethodId) (meth : Method) (c : Code) (A : Pt) (g : JFrame) (ig : Instr) (mk : MethodId) (a : Array Value),
    Stand p l e R s m sargs below meth c A.U A.locs A.cells A.slots → g.method = m → g.locals.size = c.maxLocals → decode c.code g.pc = .ok (ig, len) →
    2 * g.monitorRoom + (g.stack.map fun v => v.category).sum ≤ W9 → A.U.methodNamed? y = some mk → Pre A a →
    (∃ (v : Option Value) (B : Pt), Stand p l e R s m sargs below meth c B.U B.locs B.cells B.slots ∧ Post A a v B ∧
      Steps p.tables e below (doInvoke e (A.U.setTop g) [] mk a).1 (B.U.setTop { g with pc := g.pc + len, stack := v.toList ++ g.stack })) ∨
    (∃ (q : Addr) (B : Pt), Stand p l e R s m sargs below meth c B.U B.locs B.cells B.slots ∧ PostX A a q B ∧
      Steps p.tables e below (doInvoke e (A.U.setTop g) [] mk a).1 ((B.U.setTop g).pushFrame (.throwing q)))
section Payer
variable {l : Launch} {R : Room} {p : Program} {e : Env} {below : List Frame} {s : State} {sargs : Array Value} {y : MethodName} {len W9 : Nat}
theorem vx_back {ws : List Cond} {rm : Room} {Pc : Array Value → State → Prop} {Qc : Array Value → State → Outcome → State → Prop} {XC : String → State → State → Prop} {mc ms : Nat} {free : Addr → Prop} {bytes : ByteArray} {maxL : Nat} {ret : Option FieldType}
    (hM : vx_Met l y ws rm Pc Qc XC mc ms free) (hblind : FrameBlind Pc) (hrc : rm.cells = mc) (hrs : rm.slots = ms)
    (hframes : rm.frames + 1 ≤ R.frames) (hlocals : W9 + (maxL + 11) + rm.locals ≤ R.locals)
    (hws : ∀ w ∈ ws, ∀ a' U, s.WarmedH U.vm → w.before a' U = true) (hcode : Cond.code y bytes maxL ret ∈ ws) (hinit : ∀ a' U, s.WarmedH U.vm → (Cond.initialized y.cls).before a' U = true) :
    vx_Back l R p e below s sargs y len W9 (PreOf R mc ms Pc) (PostOf Qc mc ms free) (vx_Post XC mc ms free) := by
  intro m meth c A g ig mk a X hg hsize hdg hW hn hp
  have h1 : (headSpec ws rm).pre.before a A.U = true := atoms_intro fun w hw => hws w hw _ _ X.warmed
  have h2 : (Cond.code y bytes maxL ret).before a A.U = true := hws _ hcode _ _ X.warmed
  have h3 : (Cond.initialized y.cls).before a A.U = true := hinit _ _ X.warmed
  have h4 : A.cells + (headSpec ws rm).room.cells ≤ R.cells := by rw [show (headSpec ws rm).room.cells = mc from hrc]; exact hp.1
  have h5 : A.slots + (headSpec ws rm).room.slots ≤ R.slots := by rw [show (headSpec ws rm).room.slots = ms from hrs]; exact hp.2.1
  have hPc : Pc a (A.U.calling g mk a) := hblind _ _ _ _ hp.2.2
  obtain ⟨U, Ls, c0, s0⟩ := A
  dsimp only [Pt.U, Pt.locs, Pt.cells, Pt.slots] at h1 h2 h3 h4 h5 X hn hPc ⊢
  obtain ⟨methY, cY, hmY, hcY, -, hlY, -, -, -, -⟩ := Cond.code_spec hn h2
  obtain ⟨kY, hkY, -⟩ := className_of_methodNamed hn
  have hinitY : kY.init = .initialized := Cond.initialized_spec (findClass_of_methodNamed hn) hkY h3
  have h : At U g.method c below := by rw [hg]; exact X.here
  have hlocals9 : W9 + (maxL + 11) + (headSpec ws rm).room.locals ≤ R.locals := hlocals
  have happ : (headSpec ws rm).appliesLoose y e.platform (U.calling g mk a) = true :=
    Spec.appliesLoose_calling (g := g) h hdg hn hkY hinitY
      (X.room_calling (g := g) (R' := (headSpec ws rm).room) hsize hmY hcY hframes (by rw [hlY]; omega) h4 h5) h1
  obtain ⟨mid, hmid⟩ := h.above
  have hfr : (U.setTop g).frames = (.java g :: mid) ++ below := by rw [State.frames_setTop' g h.top, hmid]; rfl
  obtain ⟨o, s₂, hsteps, -, hend, hq⟩ := Steps.callFree hM p X.admits X.cas X.clock (acts := []) hfr happ hPc trivial
  have hq' : vx_Q Qc XC mc ms free a (U.calling g mk a) o s₂ := hq
  rw [State.frames_setTop' g h.top] at hend
  obtain ⟨g₀, hg0⟩ := Option.isSome_iff_exists.mp h.top
  obtain ⟨r, hr⟩ := State.topJava?_eq_some.mp hg0
  have hr' : (({ U with heap := s₂.heap, slotsUsed := s₂.slotsUsed } : State).setVm s₂.vm).frames = .java g₀ :: r := hr
  rcases hq' with ⟨hqc, L, hfe, hL⟩ | ⟨q, rfl, E, ce, L, hx, hce, hcv, hcl, hW₂, hsm, hL⟩
  · obtain ⟨⟨v, rfl⟩, hW₂, e2, q2, q3, q4, q5, q6⟩ := id hfe
    have e3 : s₂ = ({ (U.calling g mk a).setFrames s₂.frames with heap := s₂.heap, slotsUsed := s₂.slotsUsed } : State).setVm s₂.vm := by
      have : s₂ = ({ s₂ with vm := (U.calling g mk a).vm } : State).setVm s₂.vm := rfl
      rw [e2] at this
      exact this
    obtain ⟨c₂, i₂, len₂, hc₂, hd₂, hf₂⟩ := hend
    have hW' : U.WarmedH s₂.vm := hW₂
    have hcc : c₂ = c := by
      have h1 : s₂.code? g.method = U.code? g.method := by
        rw [State.code?_eq, State.code?_eq, hW'.alike.method?]
      exact Option.some.inj (hc₂.symm.trans (h1.trans h.code))
    subst hcc
    have hlen : len₂ = len := by rw [hdg] at hd₂; cases hd₂; rfl
    subst hlen
    have hs₂ : s₂ = (({ U with heap := s₂.heap, slotsUsed := s₂.slotsUsed } : State).setVm s₂.vm).setTop { g with pc := g.pc + len₂, stack := v.toList ++ g.stack } := by
      refine e3.trans ?_
      rw [hf₂, State.calling_eq h.top, State.setFrames_setFrames, State.setTop_of_frames _ hr', hr]
      rfl
    have hsame : U.sameButNew ({ U with heap := s₂.heap, slotsUsed := s₂.slotsUsed } : State) L mc ms := by
      refine ⟨?_, q2, q3, q4, q5, q6⟩
      obtain ⟨t, ht, -⟩ := State.frames_cons hr
      show ({ U with heap := s₂.heap, slotsUsed := s₂.slotsUsed } : State) = { U.setFrames U.frames with heap := s₂.heap, slotsUsed := s₂.slotsUsed }
      rw [State.setFrames_self ht]
    subst hg
    refine Or.inl ⟨v, ⟨(({ U with heap := s₂.heap, slotsUsed := s₂.slotsUsed } : State).setVm s₂.vm), Ls ++ L, c0 + mc, s0 + ms⟩,
      ⟨X.admits, X.cas, X.clock, X.frames, X.room, X.hears, X.method, X.code, (X.here.setHeapUsed s₂.heap s₂.slotsUsed).setVm hW'.alike, X.tail, State.WarmedH.trans X.warmed hW', X.limits, X.bytes, X.same.trans (hsame.setVm s.vm)⟩,
      ⟨g, mk, s₂, L, rfl, rfl, hqc, rfl, hL, rfl, rfl⟩, ?_⟩
    show Steps p.tables e below _ ((({ U with heap := s₂.heap, slotsUsed := s₂.slotsUsed } : State).setVm s₂.vm).setTop { g with pc := g.pc + len₂, stack := v.toList ++ g.stack })
    rw [← hs₂]
    exact hsteps
  · obtain ⟨e2, q2, q3, q4, q5, q6⟩ := id hsm
    have e3 : s₂ = ({ (U.calling g mk a).setFrames s₂.frames with heap := s₂.heap, slotsUsed := s₂.slotsUsed } : State).setVm s₂.vm := by
      have : s₂ = ({ s₂ with vm := (U.calling g mk a).vm } : State).setVm s₂.vm := rfl
      rw [e2] at this
      exact this
    have hf₂ : s₂.frames = .throwing q :: .java g :: U.frames.tail := hend
    have hW' : U.WarmedH s₂.vm := hW₂
    have hs₂ : s₂ = ((({ U with heap := s₂.heap, slotsUsed := s₂.slotsUsed } : State).setVm s₂.vm).setTop g).pushFrame (.throwing q) := by
      refine e3.trans ?_
      rw [hf₂, State.calling_eq h.top, State.setFrames_setFrames, State.pushFrame, State.frames_setTop _ hr', State.setTop_of_frames _ hr', State.setFrames_setFrames, hr]
      rfl
    have hsame : U.sameButNew ({ U with heap := s₂.heap, slotsUsed := s₂.slotsUsed } : State) L mc ms := by
      refine ⟨?_, q2, q3, q4, q5, q6⟩
      obtain ⟨t, ht, -⟩ := State.frames_cons hr
      show ({ U with heap := s₂.heap, slotsUsed := s₂.slotsUsed } : State) = { U.setFrames U.frames with heap := s₂.heap, slotsUsed := s₂.slotsUsed }
      rw [State.setFrames_self ht]
    subst hg
    refine Or.inr ⟨q, ⟨(({ U with heap := s₂.heap, slotsUsed := s₂.slotsUsed } : State).setVm s₂.vm), Ls ++ L, c0 + mc, s0 + ms⟩,
      ⟨X.admits, X.cas, X.clock, X.frames, X.room, X.hears, X.method, X.code, (X.here.setHeapUsed s₂.heap s₂.slotsUsed).setVm hW'.alike, X.tail, State.WarmedH.trans X.warmed hW', X.limits, X.bytes, X.same.trans (hsame.setVm s.vm)⟩,
      ⟨g, mk, s₂, L, E, ce, rfl, rfl, hx, hce, hcv, hcl, rfl, hL, rfl, rfl⟩, ?_⟩
    show Steps p.tables e below _ (((({ U with heap := s₂.heap, slotsUsed := s₂.slotsUsed } : State).setVm s₂.vm).setTop g).pushFrame (.throwing q))
    rw [← hs₂]
    exact hsteps
end Payer
section Calls
variable {p : Program} {l : Launch} {e : Env} {R : Room} {s : State} {m : MethodId} {args : Array Value} {below : List Frame} {meth : Method} {c : Code} {T : State} {locs : List Loc} {cells slots : Nat}
theorem vx_callV (X : Stand p l e R s m args below meth c T locs cells slots) (hexec : p.tables.exec = Jvm.exec) {own C : String} {index : Nat} {y : MethodName} {bytes : ByteArray} {maxL : Nat} {ret : Option FieldType}
    (hown : s.vm.findClass own = some m.cls) (hlink : (Cond.methodLink own index y).before args s = true) (hinst : (Cond.instanceMethod y).before args s = true) (hsel : (Cond.selects C y y).before args s = true)
    (hcode : (Cond.code y bytes maxL ret).before args s = true) (hy : y.cls ≠ "java/lang/invoke/MethodHandle" ∧ y.cls ≠ "java/lang/invoke/VarHandle")
    {W9 : Nat} {Pre : Pt → Array Value → Prop} {Post : Pt → Array Value → Option Value → Pt → Prop} {PostX : Pt → Array Value → Addr → Pt → Prop} (hK : vx_Back l R p e below s args y 3 W9 Pre Post PostX)
    {b : Addr} {cellB : Cell} (hcell : T.heap[b]? = some cellB) (hobj : cellB.vm.isStatics = false) (hcls : s.vm.findClass C = some cellB.cls)
    {g : JFrame} (hg : g.method = m) (hsize : g.locals.size = c.maxLocals) {argsL rest : List Value} (hlen : ∀ sig, parseMethodDescriptor y.desc = some sig → argsL.length = sig.parameters.length)
    (hstack : g.stack = argsL.reverse ++ .ref b :: rest) (hW : 2 * g.monitorRoom + (rest.map fun v => v.category).sum ≤ W9) (hdg : decode c.code g.pc = .ok (.invokevirtual index, 3))
    (hpre : ∀ vm₁, s.WarmedH vm₁ → Pre ⟨T.setVm vm₁, locs, cells, slots⟩ (Value.ref b :: argsL).toArray) :
    (∃ (v : Option Value) (vm₁ : Vm) (B : Pt), s.WarmedH vm₁ ∧ Stand p l e R s m args below meth c B.U B.locs B.cells B.slots ∧ Post ⟨T.setVm vm₁, locs, cells, slots⟩ (Value.ref b :: argsL).toArray v B ∧
      ∀ target, Steps p.tables e below (B.U.setTop { g with pc := g.pc + 3, stack := v.toList ++ rest }) target → Steps p.tables e below (T.setTop g) target) ∨
    (∃ (q : Addr) (vm₁ : Vm) (B : Pt), s.WarmedH vm₁ ∧ Stand p l e R s m args below meth c B.U B.locs B.cells B.slots ∧ PostX ⟨T.setVm vm₁, locs, cells, slots⟩ (Value.ref b :: argsL).toArray q B ∧
      Steps p.tables e below (T.setTop g) ((B.U.setTop { g with stack := rest }).pushFrame (.throwing q))) := by
  obtain ⟨mk, methM, hnamed, hmethM, hstM, habM⟩ := Cond.instanceMethod_spec hinst
  obtain ⟨methM', cM, hmethM', -, -, -, -, -, -, hsigM⟩ := Cond.code_spec hnamed hcode
  cases hmethM.symm.trans hmethM'
  obtain ⟨c2, r2, m2, q1, q2, q3, q4, kP, hkP, hkPi⟩ := Cond.selects_spec hsel
  cases hcls.symm.trans q1
  cases (State.methodFound?_of_named hnamed hy).symm.trans q2
  cases hnamed.symm.trans q3
  have hselP : selectMethod e.platform s.vm cellB.cls mk = .method mk := by rw [Launch.admits_selectMethod X.admits]; exact q4
  obtain ⟨vm₁, X₁, hstep₁⟩ := X.invokevirtual hexec hown hlink hnamed hmethM hstM hkP hkPi hy (a := b) (cell := cellB) hcell
    (fun z h => by rw [h] at hobj; cases hobj) hselP hmethM habM hkP hkPi (g := g) hg (argsL := argsL) (rest := rest) (hlen _ hsigM) hstack hdg
  rcases hK m meth c ⟨T.setVm vm₁, locs, cells, slots⟩ { g with stack := rest } (.invokevirtual index) mk (Value.ref b :: argsL).toArray X₁ hg hsize hdg hW (X₁.named hnamed) (hpre vm₁ X₁.warmed) with ⟨v, B, X', hpost, hsteps⟩ | ⟨q, B, X', hpost, hsteps⟩
  · exact Or.inl ⟨v, vm₁, B, X₁.warmed, X', hpost, fun target h => hstep₁ _ fun acts => by rw [doInvoke_state]; exact hsteps.trans h⟩
  · exact Or.inr ⟨q, vm₁, B, X₁.warmed, X', hpost, hstep₁ _ fun acts => by rw [doInvoke_state]; exact hsteps⟩
theorem vx_callS (X : Stand p l e R s m args below meth c T locs cells slots) (hexec : p.tables.exec = Jvm.exec) {own : String} {index : Nat} {y : MethodName} {bytes : ByteArray} {maxL : Nat} {ret : Option FieldType}
    (hown : s.vm.findClass own = some m.cls) (hlink : (Cond.methodLink own index y).before args s = true) (hstat : (Cond.static y).before args s = true) (hinit : (Cond.initialized y.cls).before args s = true)
    (hcode : (Cond.code y bytes maxL ret).before args s = true) (hy : y.cls ≠ "java/lang/invoke/MethodHandle" ∧ y.cls ≠ "java/lang/invoke/VarHandle")
    {W9 : Nat} {Pre : Pt → Array Value → Prop} {Post : Pt → Array Value → Option Value → Pt → Prop} {PostX : Pt → Array Value → Addr → Pt → Prop} (hK : vx_Back l R p e below s args y 3 W9 Pre Post PostX)
    {g : JFrame} (hg : g.method = m) (hsize : g.locals.size = c.maxLocals) {argsL rest : List Value} (hlen : ∀ sig, parseMethodDescriptor y.desc = some sig → argsL.length = sig.parameters.length)
    (hstack : g.stack = argsL.reverse ++ rest) (hW : 2 * g.monitorRoom + (rest.map fun v => v.category).sum ≤ W9) (hdg : decode c.code g.pc = .ok (.invokestatic index, 3))
    (hpre : ∀ vm₁, s.WarmedH vm₁ → Pre ⟨T.setVm vm₁, locs, cells, slots⟩ argsL.toArray) :
    (∃ (v : Option Value) (vm₁ : Vm) (B : Pt), s.WarmedH vm₁ ∧ Stand p l e R s m args below meth c B.U B.locs B.cells B.slots ∧ Post ⟨T.setVm vm₁, locs, cells, slots⟩ argsL.toArray v B ∧
      ∀ target, Steps p.tables e below (B.U.setTop { g with pc := g.pc + 3, stack := v.toList ++ rest }) target → Steps p.tables e below (T.setTop g) target) ∨
    (∃ (q : Addr) (vm₁ : Vm) (B : Pt), s.WarmedH vm₁ ∧ Stand p l e R s m args below meth c B.U B.locs B.cells B.slots ∧ PostX ⟨T.setVm vm₁, locs, cells, slots⟩ argsL.toArray q B ∧
      Steps p.tables e below (T.setTop g) ((B.U.setTop { g with stack := rest }).pushFrame (.throwing q))) := by
  obtain ⟨mk, hnamed⟩ := Cond.code_named hcode
  obtain ⟨methM, cM, hmethM, -, -, -, -, -, -, hsigM⟩ := Cond.code_spec hnamed hcode
  have hstatic : methM.isStatic = true := Cond.static_spec hnamed hmethM hstat
  obtain ⟨kP, hkP, -⟩ := className_of_methodNamed hnamed
  have hinitP : kP.init = .initialized := Cond.initialized_spec (findClass_of_methodNamed hnamed) hkP hinit
  obtain ⟨vm₁, X₁, hstep₁⟩ := X.invokestatic hexec hown hlink hnamed hmethM hstatic hkP hinitP hy (g := g) hg (argsL := argsL) (rest := rest) (hlen _ hsigM) hstack hdg
  rcases hK m meth c ⟨T.setVm vm₁, locs, cells, slots⟩ { g with stack := rest } (.invokestatic index) mk argsL.toArray X₁ hg hsize hdg hW (X₁.named hnamed) (hpre vm₁ X₁.warmed) with ⟨v, B, X', hpost, hsteps⟩ | ⟨q, B, X', hpost, hsteps⟩
  · exact Or.inl ⟨v, vm₁, B, X₁.warmed, X', hpost, fun target h => hstep₁ _ fun acts => by rw [doInvoke_state]; exact hsteps.trans h⟩
  · exact Or.inr ⟨q, vm₁, B, X₁.warmed, X', hpost, hstep₁ _ fun acts => by rw [doInvoke_state]; exact hsteps⟩
end Calls
theorem vx_cls {s : State} {T : State} {vm₁ : Vm} {E : String} {k : ClassId} (hW : s.WarmedH vm₁) (h : (T.setVm vm₁).vm.findClass E = some k) : s.vm.findClass E = some k := by
  have h1 : vm₁.findClass E = some k := h
  rw [hW.alike.findClass] at h1
  exact h1
/-- the method's frame g, with q thrown over it -/
def vx_W (p : Program) (l : Launch) (e : Env) (R : Room) (s : State) (m : MethodId) (args : Array Value) (below : List Frame) (meth : Method) (c : Code) (H : Heap) (locs : List Loc) (cells slots : Nat) (Q : State → Prop) (g : JFrame) (q : Addr) : Prop :=
  ∀ T : State, T.heap = H → Stand p l e R s m args below meth c T locs cells slots → ∃ t, Steps p.tables e below ((T.setTop g).pushFrame (.throwing q)) t ∧ Q t
def vx_Run (p : Program) (l : Launch) (e : Env) (R : Room) (s : State) (m : MethodId) (args : Array Value) (below : List Frame) (meth : Method) (c : Code) (H : Heap) (locs : List Loc) (cells slots mc ms : Nat) (g : JFrame) (rest : List Value) (Qa : State → Outcome → State → Prop) (XC : String → State → State → Prop) (free : Addr → Prop) : Prop :=
  ∀ T : State, T.heap = H → Stand p l e R s m args below meth c T locs cells slots →
    (∃ (v : Option Value) (st₀ t T' : State) (L : List Loc), st₀.heap = H ∧ Stand p l e R s m args below meth c T' (locs ++ L) (cells + mc) (slots + ms) ∧ (∀ q ∈ L, free q.base) ∧ T'.heap = t.heap ∧ T'.vm = t.vm ∧ Qa st₀ (.returned v) t ∧
      Goes p e below T g T' { g with pc := g.pc + 3, stack := v.toList ++ rest }) ∨
    (∃ (q : Addr) (st₀ t T' : State) (L : List Loc) (E : String) (ce : Cell), st₀.heap = H ∧ Stand p l e R s m args below meth c T' (locs ++ L) (cells + mc) (slots + ms) ∧ (∀ z ∈ L, free z.base) ∧ T'.heap = t.heap ∧ T'.vm = t.vm ∧ XC E st₀ t ∧ t.heap[q]? = some ce ∧ ce.vm = .none ∧ s.vm.findClass E = some ce.cls ∧
      Steps p.tables e below (T.setTop g) ((T'.setTop { g with stack := rest }).pushFrame (.throwing q)))
def vx_X {S : Type} (px : S → Prop) (B : String → S → State → Prop) (A : Nat → Prop) : String → State → State → Prop := fun E st t => ∃ u : S, px u ∧ B E u t ∧ va_F A st t
section Runs
variable {p : Program} {l : Launch} {e : Env} {R : Room} {s : State} {m : MethodId} {args : Array Value} {below : List Frame} {meth : Method} {c : Code} {H : Heap} {locs : List Loc} {cells slots : Nat}
variable {y : MethodName} {bytes cc : ByteArray} {maxL nL mc ms n index : Nat} {ret : Option FieldType} {ws : List Cond} {rm : Room} {Pc : Array Value → State → Prop} {Qc : Array Value → State → Outcome → State → Prop} {XC : String → State → State → Prop} {free : Addr → Prop} {Ts : List Cond} {own C : String} {b : Addr} {As rest : List Value} {g : JFrame}
theorem vx_callBack (cb : CallB R s args own index y bytes maxL ret ws rm mc ms n) (hM : vx_Met l y ws rm Pc Qc XC mc ms free) (hbl : FrameBlind Pc) : vx_Back l R p e below s args y 3 8 (PreOf R mc ms Pc) (PostOf Qc mc ms free) (vx_Post XC mc ms free) := by
  obtain ⟨hrc, hrs, hfr, hlo, hws, hcw, -, hini, -⟩ := cb
  exact vx_back (bytes := bytes) (maxL := maxL) (ret := ret) hM hbl hrc hrs hfr hlo hws hcw (fun a' U hW => word_at hW (Or.inl (by first | rfl | simp [Cond.onTables, Cond.keeps, Cond.steady])) hini)
theorem vx_runV (S : CallFix p m c cc nL s args Ts own) (hM : vx_Met l y ws rm Pc Qc XC mc ms free) (cw : CallW R s args own C index y bytes maxL ret ws rm mc ms n) (hp : PreV s H C b Pc As)
    (hg : g.method = m) (hn : As.length = n) (hsize : g.locals.size = nL) (hstack : g.stack = As.reverse ++ .ref b :: rest) (hW : 2 * g.monitorRoom + (rest.map fun v => v.category).sum ≤ 8) (hdg : decode cc g.pc = .ok (.invokevirtual index, 3)) (hf : cells + mc ≤ R.cells ∧ slots + ms ≤ R.slots) :
    vx_Run p l e R s m args below meth c H locs cells slots mc ms g rest (Qc (Value.ref b :: As).toArray) XC free := by
  have hK : vx_Back l R p e below s args y 3 8 (PreOf R mc ms Pc) (PostOf Qc mc ms free) (vx_Post XC mc ms free) := vx_callBack cw.1 hM hp.1
  obtain ⟨⟨-, -, -, -, -, -, hcode, -, hy, hlen, hl⟩, hin, hse⟩ := cw
  obtain ⟨hx, hb, hml, ho, -⟩ := S
  obtain ⟨-, ⟨cellB, hcB, hoB, hclB⟩, hPc⟩ := hp
  intro T hT X
  rcases vx_callV X hx (C := C) (bytes := bytes) (maxL := maxL) (ret := ret) ho hl hin hse hcode hy hK (by rw [hT]; exact hcB) hoB hclB hg (hsize.trans hml.symm) (argsL := As) (rest := rest) (fun sig h => hn.trans (hlen sig h)) hstack hW (by rw [hb]; exact hdg)
    (fun vm₁ hW₁ => ⟨hf.1, hf.2, hPc (T.setVm vm₁) hT hW₁⟩) with ⟨v, vm₁, ⟨U', l2, c2, s2⟩, hW₁, X', ⟨g', mk, t, L, e1, e2, hq, h1, hL, h2, h3⟩, st⟩ | ⟨q, vm₁, ⟨U', l2, c2, s2⟩, hW₁, X', ⟨g', mk, t, L, E, ce, e1, e2, hq, hce, hcv, hcl, h1, hL, h2, h3⟩, st⟩
  · dsimp only [Pt.U, Pt.locs, Pt.cells, Pt.slots] at X' e1 e2 h1 h2 h3 st
    subst h1; subst h2; subst h3
    exact Or.inl ⟨v, (T.setVm vm₁).calling g' mk (Value.ref b :: As).toArray, t, U', L, hT, X', hL, e1, e2, hq, st⟩
  · dsimp only [Pt.U, Pt.locs, Pt.cells, Pt.slots] at X' e1 e2 h1 h2 h3 st hcl
    subst h1; subst h2; subst h3
    exact Or.inr ⟨q, (T.setVm vm₁).calling g' mk (Value.ref b :: As).toArray, t, U', L, E, ce, hT, X', hL, e1, e2, hq, hce, hcv, vx_cls hW₁ hcl, st⟩
theorem vx_runS (S : CallFix p m c cc nL s args Ts own) (hM : vx_Met l y ws rm Pc Qc XC mc ms free) (cw : CallB R s args own index y bytes maxL ret ws rm mc ms n ∧ (Cond.static y).before args s = true) (hp : PreS s H Pc As)
    (hg : g.method = m) (hn : As.length = n) (hsize : g.locals.size = nL) (hstack : g.stack = As.reverse ++ rest) (hW : 2 * g.monitorRoom + (rest.map fun v => v.category).sum ≤ 8) (hdg : decode cc g.pc = .ok (.invokestatic index, 3)) (hf : cells + mc ≤ R.cells ∧ slots + ms ≤ R.slots) :
    vx_Run p l e R s m args below meth c H locs cells slots mc ms g rest (Qc As.toArray) XC free := by
  have hK : vx_Back l R p e below s args y 3 8 (PreOf R mc ms Pc) (PostOf Qc mc ms free) (vx_Post XC mc ms free) := vx_callBack cw.1 hM hp.1
  obtain ⟨⟨-, -, -, -, -, -, hcode, hini, hy, hlen, hl⟩, hstt⟩ := cw
  obtain ⟨hx, hb, hml, ho, -⟩ := S
  intro T hT X
  rcases vx_callS X hx (bytes := bytes) (maxL := maxL) (ret := ret) ho hl hstt hini hcode hy hK hg (hsize.trans hml.symm) (argsL := As) (rest := rest) (fun sig h => hn.trans (hlen sig h)) hstack hW (by rw [hb]; exact hdg)
    (fun vm₁ hW₁ => ⟨hf.1, hf.2, hp.2 (T.setVm vm₁) hT hW₁⟩) with ⟨v, vm₁, ⟨U', l2, c2, s2⟩, hW₁, X', ⟨g', mk, t, L, e1, e2, hq, h1, hL, h2, h3⟩, st⟩ | ⟨q, vm₁, ⟨U', l2, c2, s2⟩, hW₁, X', ⟨g', mk, t, L, E, ce, e1, e2, hq, hce, hcv, hcl, h1, hL, h2, h3⟩, st⟩
  · dsimp only [Pt.U, Pt.locs, Pt.cells, Pt.slots] at X' e1 e2 h1 h2 h3 st
    subst h1; subst h2; subst h3
    exact Or.inl ⟨v, (T.setVm vm₁).calling g' mk As.toArray, t, U', L, hT, X', hL, e1, e2, hq, st⟩
  · dsimp only [Pt.U, Pt.locs, Pt.cells, Pt.slots] at X' e1 e2 h1 h2 h3 st hcl
    subst h1; subst h2; subst h3
    exact Or.inr ⟨q, (T.setVm vm₁).calling g' mk As.toArray, t, U', L, E, ce, hT, X', hL, e1, e2, hq, hce, hcv, vx_cls hW₁ hcl, st⟩
end Runs
section Rows
variable {p : Program} {l : Launch} {e : Env} {R : Room} {s : State} {m : MethodId} {args : Array Value} {below : List Frame} {meth : Method} {c : Code} {H : Heap} {locs : List Loc} {cells slots : Nat} {Q : State → Prop}
variable {mc ms : Nat} {free : Addr → Prop} {A0 A1 : Nat → Prop} {H0 : Heap} {a : Array Value} {pc : Nat} {ls : Array Slot} {st0 rest : List Value}
theorem vx_keep {st₀ t T' : State} {L : List Loc} (h0 : st₀.heap = H) (e1 : T'.heap = t.heap) (hS : va_S A0 H0 H locs) (hA : ∀ q, q < H.size → A1 q → A0 q) (hf : ∀ q, free q → A0 q) (hL : ∀ q ∈ L, free q.base) (hF : va_F A1 st₀ t) :
    H.size ≤ T'.heap.size ∧ (∀ q : Nat, q < H.size → ¬ A1 q → T'.heap[q]? = H[q]?) ∧ va_S A0 H0 T'.heap (locs ++ L) := by
  obtain ⟨hz, hk⟩ := hF
  rw [h0] at hz hk
  exact ⟨by rw [e1]; exact hz, fun q h1 h2 => by rw [e1]; exact hk q h1 h2,
    ⟨Nat.le_trans hS.1 (by rw [e1]; exact hz), fun q h1 h2 => by rw [e1, hk q (Nat.lt_of_lt_of_le h1 hS.1) (fun z => h2 (hA q (Nat.lt_of_lt_of_le h1 hS.1) z))]; exact hS.2.1 q h1 h2, fun q hq => by
      rcases List.mem_append.mp hq with h | h
      · exact hS.2.2 q h
      · exact hf _ (hL q h)⟩⟩
theorem vx_calli {S SX : Type} {post : Int32 → S → Prop} {px : SX → Prop} {B : S → State → Prop} {BX : String → SX → State → Prop} {AX : Nat → Prop} (hr : vx_Run p l e R s m args below meth c H locs cells slots mc ms (F0 m pc ls st0) rest (va_Qi post B A1 a) (vx_X px BX AX) free) (hS : va_S A0 H0 H locs) (hA : ∀ q, q < H.size → A1 q → A0 q) (hf : ∀ q, free q → A0 q) (hAX : ∀ q, q < H.size → AX q → A0 q)
    (kx : ∀ (E : String) (ce : Cell) (q9 : Addr) (u : SX) (t : State) (H1 : Heap) (locs1 : List Loc), t.heap = H1 → s.vm.Alike t.vm → px u → BX E u t → H.size ≤ H1.size → (∀ q : Nat, q < H.size → ¬ AX q → H1[q]? = H[q]?) → va_S A0 H0 H1 locs1 → H1[q9]? = some ce → ce.vm = .none → s.vm.findClass E = some ce.cls → vx_W p l e R s m args below meth c H1 locs1 (cells + mc) (slots + ms) Q (F0 m pc ls rest) q9)
    (kk : ∀ (r : Int32) (u : S) (t : State) (H1 : Heap) (locs1 : List Loc), t.heap = H1 → s.vm.Alike t.vm → post r u → B u t → H.size ≤ H1.size → (∀ q : Nat, q < H.size → ¬ A1 q → H1[q]? = H[q]?) → va_S A0 H0 H1 locs1 → W p l e R s m args below meth c H1 locs1 (cells + mc) (slots + ms) Q (F0 m (pc + 3) ls (.int r :: rest))) : W p l e R s m args below meth c H locs cells slots Q (F0 m pc ls st0) := by
  intro T hT X
  rcases hr T hT X with ⟨v, st₀, t, T', L, h0, X', hL, e1, e2, ⟨⟨r, u, hv, hp, hb⟩, hF⟩, st⟩ | ⟨q, st₀, t, T', L, E, ce, h0, X', hL, e1, e2, ⟨u, hp, hb, hF⟩, hce, hcv, hcl, st⟩
  · cases hv
    obtain ⟨k1, k2, k3⟩ := vx_keep h0 e1 hS hA hf hL hF
    obtain ⟨t2, a1, b1⟩ := kk r u t T'.heap (locs ++ L) e1.symm (by rw [← e2]; exact X'.warmed.alike) hp hb k1 k2 k3 T' rfl X'
    exact ⟨t2, st t2 a1, b1⟩
  · obtain ⟨k1, k2, k3⟩ := vx_keep h0 e1 hS hAX hf hL hF
    obtain ⟨t2, a1, b1⟩ := kx E ce q u t T'.heap (locs ++ L) e1.symm (by rw [← e2]; exact X'.warmed.alike) hp hb k1 k2 k3 (by rw [e1]; exact hce) hcv hcl T' rfl X'
    exact ⟨t2, st.trans a1, b1⟩
theorem vx_calll {S SX : Type} {post : Int64 → S → Prop} {px : SX → Prop} {B : S → State → Prop} {BX : String → SX → State → Prop} {AX : Nat → Prop} (hr : vx_Run p l e R s m args below meth c H locs cells slots mc ms (F0 m pc ls st0) rest (va_Ql post B A1 a) (vx_X px BX AX) free) (hS : va_S A0 H0 H locs) (hA : ∀ q, q < H.size → A1 q → A0 q) (hf : ∀ q, free q → A0 q) (hAX : ∀ q, q < H.size → AX q → A0 q)
    (kx : ∀ (E : String) (ce : Cell) (q9 : Addr) (u : SX) (t : State) (H1 : Heap) (locs1 : List Loc), t.heap = H1 → s.vm.Alike t.vm → px u → BX E u t → H.size ≤ H1.size → (∀ q : Nat, q < H.size → ¬ AX q → H1[q]? = H[q]?) → va_S A0 H0 H1 locs1 → H1[q9]? = some ce → ce.vm = .none → s.vm.findClass E = some ce.cls → vx_W p l e R s m args below meth c H1 locs1 (cells + mc) (slots + ms) Q (F0 m pc ls rest) q9)
    (kk : ∀ (r : Int64) (u : S) (t : State) (H1 : Heap) (locs1 : List Loc), t.heap = H1 → s.vm.Alike t.vm → post r u → B u t → H.size ≤ H1.size → (∀ q : Nat, q < H.size → ¬ A1 q → H1[q]? = H[q]?) → va_S A0 H0 H1 locs1 → W p l e R s m args below meth c H1 locs1 (cells + mc) (slots + ms) Q (F0 m (pc + 3) ls (.long r :: rest))) : W p l e R s m args below meth c H locs cells slots Q (F0 m pc ls st0) := by
  intro T hT X
  rcases hr T hT X with ⟨v, st₀, t, T', L, h0, X', hL, e1, e2, ⟨⟨r, u, hv, hp, hb⟩, hF⟩, st⟩ | ⟨q, st₀, t, T', L, E, ce, h0, X', hL, e1, e2, ⟨u, hp, hb, hF⟩, hce, hcv, hcl, st⟩
  · cases hv
    obtain ⟨k1, k2, k3⟩ := vx_keep h0 e1 hS hA hf hL hF
    obtain ⟨t2, a1, b1⟩ := kk r u t T'.heap (locs ++ L) e1.symm (by rw [← e2]; exact X'.warmed.alike) hp hb k1 k2 k3 T' rfl X'
    exact ⟨t2, st t2 a1, b1⟩
  · obtain ⟨k1, k2, k3⟩ := vx_keep h0 e1 hS hAX hf hL hF
    obtain ⟨t2, a1, b1⟩ := kx E ce q u t T'.heap (locs ++ L) e1.symm (by rw [← e2]; exact X'.warmed.alike) hp hb k1 k2 k3 (by rw [e1]; exact hce) hcv hcl T' rfl X'
    exact ⟨t2, st.trans a1, b1⟩
theorem vx_callf {S SX : Type} {post : UInt32 → S → Prop} {px : SX → Prop} {B : S → State → Prop} {BX : String → SX → State → Prop} {AX : Nat → Prop} (hr : vx_Run p l e R s m args below meth c H locs cells slots mc ms (F0 m pc ls st0) rest (va_Qf post B A1 a) (vx_X px BX AX) free) (hS : va_S A0 H0 H locs) (hA : ∀ q, q < H.size → A1 q → A0 q) (hf : ∀ q, free q → A0 q) (hAX : ∀ q, q < H.size → AX q → A0 q)
    (kx : ∀ (E : String) (ce : Cell) (q9 : Addr) (u : SX) (t : State) (H1 : Heap) (locs1 : List Loc), t.heap = H1 → s.vm.Alike t.vm → px u → BX E u t → H.size ≤ H1.size → (∀ q : Nat, q < H.size → ¬ AX q → H1[q]? = H[q]?) → va_S A0 H0 H1 locs1 → H1[q9]? = some ce → ce.vm = .none → s.vm.findClass E = some ce.cls → vx_W p l e R s m args below meth c H1 locs1 (cells + mc) (slots + ms) Q (F0 m pc ls rest) q9)
    (kk : ∀ (r : UInt32) (u : S) (t : State) (H1 : Heap) (locs1 : List Loc), t.heap = H1 → s.vm.Alike t.vm → post r u → B u t → H.size ≤ H1.size → (∀ q : Nat, q < H.size → ¬ A1 q → H1[q]? = H[q]?) → va_S A0 H0 H1 locs1 → W p l e R s m args below meth c H1 locs1 (cells + mc) (slots + ms) Q (F0 m (pc + 3) ls (.float r :: rest))) : W p l e R s m args below meth c H locs cells slots Q (F0 m pc ls st0) := by
  intro T hT X
  rcases hr T hT X with ⟨v, st₀, t, T', L, h0, X', hL, e1, e2, ⟨⟨r, u, hv, hp, hb⟩, hF⟩, st⟩ | ⟨q, st₀, t, T', L, E, ce, h0, X', hL, e1, e2, ⟨u, hp, hb, hF⟩, hce, hcv, hcl, st⟩
  · cases hv
    obtain ⟨k1, k2, k3⟩ := vx_keep h0 e1 hS hA hf hL hF
    obtain ⟨t2, a1, b1⟩ := kk r u t T'.heap (locs ++ L) e1.symm (by rw [← e2]; exact X'.warmed.alike) hp hb k1 k2 k3 T' rfl X'
    exact ⟨t2, st t2 a1, b1⟩
  · obtain ⟨k1, k2, k3⟩ := vx_keep h0 e1 hS hAX hf hL hF
    obtain ⟨t2, a1, b1⟩ := kx E ce q u t T'.heap (locs ++ L) e1.symm (by rw [← e2]; exact X'.warmed.alike) hp hb k1 k2 k3 (by rw [e1]; exact hce) hcv hcl T' rfl X'
    exact ⟨t2, st.trans a1, b1⟩
theorem vx_calld {S SX : Type} {post : UInt64 → S → Prop} {px : SX → Prop} {B : S → State → Prop} {BX : String → SX → State → Prop} {AX : Nat → Prop} (hr : vx_Run p l e R s m args below meth c H locs cells slots mc ms (F0 m pc ls st0) rest (va_Qd post B A1 a) (vx_X px BX AX) free) (hS : va_S A0 H0 H locs) (hA : ∀ q, q < H.size → A1 q → A0 q) (hf : ∀ q, free q → A0 q) (hAX : ∀ q, q < H.size → AX q → A0 q)
    (kx : ∀ (E : String) (ce : Cell) (q9 : Addr) (u : SX) (t : State) (H1 : Heap) (locs1 : List Loc), t.heap = H1 → s.vm.Alike t.vm → px u → BX E u t → H.size ≤ H1.size → (∀ q : Nat, q < H.size → ¬ AX q → H1[q]? = H[q]?) → va_S A0 H0 H1 locs1 → H1[q9]? = some ce → ce.vm = .none → s.vm.findClass E = some ce.cls → vx_W p l e R s m args below meth c H1 locs1 (cells + mc) (slots + ms) Q (F0 m pc ls rest) q9)
    (kk : ∀ (r : UInt64) (u : S) (t : State) (H1 : Heap) (locs1 : List Loc), t.heap = H1 → s.vm.Alike t.vm → post r u → B u t → H.size ≤ H1.size → (∀ q : Nat, q < H.size → ¬ A1 q → H1[q]? = H[q]?) → va_S A0 H0 H1 locs1 → W p l e R s m args below meth c H1 locs1 (cells + mc) (slots + ms) Q (F0 m (pc + 3) ls (.double r :: rest))) : W p l e R s m args below meth c H locs cells slots Q (F0 m pc ls st0) := by
  intro T hT X
  rcases hr T hT X with ⟨v, st₀, t, T', L, h0, X', hL, e1, e2, ⟨⟨r, u, hv, hp, hb⟩, hF⟩, st⟩ | ⟨q, st₀, t, T', L, E, ce, h0, X', hL, e1, e2, ⟨u, hp, hb, hF⟩, hce, hcv, hcl, st⟩
  · cases hv
    obtain ⟨k1, k2, k3⟩ := vx_keep h0 e1 hS hA hf hL hF
    obtain ⟨t2, a1, b1⟩ := kk r u t T'.heap (locs ++ L) e1.symm (by rw [← e2]; exact X'.warmed.alike) hp hb k1 k2 k3 T' rfl X'
    exact ⟨t2, st t2 a1, b1⟩
  · obtain ⟨k1, k2, k3⟩ := vx_keep h0 e1 hS hAX hf hL hF
    obtain ⟨t2, a1, b1⟩ := kx E ce q u t T'.heap (locs ++ L) e1.symm (by rw [← e2]; exact X'.warmed.alike) hp hb k1 k2 k3 (by rw [e1]; exact hce) hcv hcl T' rfl X'
    exact ⟨t2, st.trans a1, b1⟩
theorem vx_callv {S SX : Type} {post : S → Prop} {px : SX → Prop} {B : S → State → Prop} {BX : String → SX → State → Prop} {AX : Nat → Prop} (hr : vx_Run p l e R s m args below meth c H locs cells slots mc ms (F0 m pc ls st0) rest (va_Qv post B A1 a) (vx_X px BX AX) free) (hS : va_S A0 H0 H locs) (hA : ∀ q, q < H.size → A1 q → A0 q) (hf : ∀ q, free q → A0 q) (hAX : ∀ q, q < H.size → AX q → A0 q)
    (kx : ∀ (E : String) (ce : Cell) (q9 : Addr) (u : SX) (t : State) (H1 : Heap) (locs1 : List Loc), t.heap = H1 → s.vm.Alike t.vm → px u → BX E u t → H.size ≤ H1.size → (∀ q : Nat, q < H.size → ¬ AX q → H1[q]? = H[q]?) → va_S A0 H0 H1 locs1 → H1[q9]? = some ce → ce.vm = .none → s.vm.findClass E = some ce.cls → vx_W p l e R s m args below meth c H1 locs1 (cells + mc) (slots + ms) Q (F0 m pc ls rest) q9)
    (kk : ∀ (u : S) (t : State) (H1 : Heap) (locs1 : List Loc), t.heap = H1 → s.vm.Alike t.vm → post u → B u t → H.size ≤ H1.size → (∀ q : Nat, q < H.size → ¬ A1 q → H1[q]? = H[q]?) → va_S A0 H0 H1 locs1 → W p l e R s m args below meth c H1 locs1 (cells + mc) (slots + ms) Q (F0 m (pc + 3) ls (rest))) : W p l e R s m args below meth c H locs cells slots Q (F0 m pc ls st0) := by
  intro T hT X
  rcases hr T hT X with ⟨v, st₀, t, T', L, h0, X', hL, e1, e2, ⟨⟨u, hv, hp, hb⟩, hF⟩, st⟩ | ⟨q, st₀, t, T', L, E, ce, h0, X', hL, e1, e2, ⟨u, hp, hb, hF⟩, hce, hcv, hcl, st⟩
  · cases hv
    obtain ⟨k1, k2, k3⟩ := vx_keep h0 e1 hS hA hf hL hF
    obtain ⟨t2, a1, b1⟩ := kk u t T'.heap (locs ++ L) e1.symm (by rw [← e2]; exact X'.warmed.alike) hp hb k1 k2 k3 T' rfl X'
    exact ⟨t2, st t2 a1, b1⟩
  · obtain ⟨k1, k2, k3⟩ := vx_keep h0 e1 hS hAX hf hL hF
    obtain ⟨t2, a1, b1⟩ := kx E ce q u t T'.heap (locs ++ L) e1.symm (by rw [← e2]; exact X'.warmed.alike) hp hb k1 k2 k3 (by rw [e1]; exact hce) hcv hcl T' rfl X'
    exact ⟨t2, st.trans a1, b1⟩
/-- caught by the row x of this method's table; the rows ahead don't take it -/
theorem vx_catch {own name : String} {E : String} {ce : Cell} {q : Addr} (hown : s.vm.findClass own = some m.cls) (pre : List ExceptionTableEntry) (x : ExceptionTableEntry) (suf : List ExceptionTableEntry) (hsplit : c.exceptionTable.toList = pre ++ x :: suf)
    (hpass : ∀ z ∈ pre, covers z pc = false ∨ (z.catchType ≠ 0 ∧ ∃ nm : String, (Cond.classLink own z.catchType nm).before args s = true ∧ va_Nc E nm s)) (hx : covers x pc = true) (h0 : x.catchType ≠ 0)
    (hlink : (Cond.classLink own x.catchType name).before args s = true) (hcast : (Cond.castable E name).before args s = true) (hcell : H[q]? = some ce) (hv : ce.vm = .none) (hcl : s.vm.findClass E = some ce.cls)
    (kk : W p l e R s m args below meth c H locs cells slots Q (F0 m x.handlerPc ls [.ref q])) : vx_W p l e R s m args below meth c H locs cells slots Q (F0 m pc ls rest) q := by
  intro T hT X
  have hpl : e.platform.magicAccessors = ({} : Platform).magicAccessors := by rw [X.admits.platform]
  obtain ⟨c3, c4, hc3, hc4, hasg⟩ := Cond.castable_spec hcast
  cases Option.some.inj (hc3.symm.trans hcl)
  obtain ⟨c5, hc5, hcl5⟩ := Cond.classLink_spec hown hlink e.platform hpl
  cases Option.some.inj (hc4.symm.trans hc5)
  obtain ⟨vm', X', st⟩ := X.thenCaughtThrough q (g := F0 m pc ls rest) rfl (Steps.refl _) (by rw [hT]; exact hcell) (by rw [hv]; rfl) (by obtain ⟨k9, h9, -⟩ := Vm.findClass_spec hcl; exact ⟨k9, h9⟩) pre x suf hsplit
    (fun z hz => by
      rcases hpass z hz with h | ⟨hz0, nm, hl1, hn1⟩
      · exact Or.inl h
      · obtain ⟨c6, hc6, hcl6⟩ := Cond.classLink_spec hown hl1 e.platform hpl
        obtain ⟨a8, b8, h1, h2, h3⟩ := hn1
        cases Option.some.inj (h1.symm.trans hcl)
        cases Option.some.inj (h2.symm.trans hc6)
        exact Or.inr ⟨hz0, _, hcl6, h3⟩) hx (Or.inr ⟨h0, c4, hcl5, hasg⟩)
  obtain ⟨t, a1, b1⟩ := kk (T.setVm vm') hT X'
  exact ⟨t, st.trans a1, b1⟩
end Rows
section Ends
variable {p : Program} {l : Launch} {e : Env} {R : Room} {s : State} {m : MethodId} {args : Array Value} {below : List Frame} {meth : Method} {c : Code} {H : Heap} {locs : List Loc} {cells slots : Nat} {Q : State → Prop}
variable {mc ms : Nat} {free : Addr → Prop} {A0 A1 : Nat → Prop} {H0 : Heap} {a : Array Value} {ls : Array Slot} {st0 rest : List Value}
variable {Qc : Array Value → State → Outcome → State → Prop} {XC : String → State → State → Prop}
/-- what a body that may throw owes at its end -/
def vx_MQ (below : List Frame) (Qc : Array Value → State → Outcome → State → Prop) (XC : String → State → State → Prop) (a : Array Value) (s : State) (mc ms : Nat) (free : Addr → Prop) : State → Prop := fun t =>
  ∃ o, t.status = .running ∧ Ended t below o ∧ vx_Q Qc XC mc ms free a s o t
theorem vx_ret {g : JFrame} {mc ms : Nat} (k : W p l e R s m args below meth c H locs cells slots (MQ below Qc args s mc ms free) g) : W p l e R s m args below meth c H locs cells slots (vx_MQ below Qc XC args s mc ms free) g := by
  intro T hT X
  obtain ⟨t, a1, o, b1, b2, b3, b4⟩ := k T hT X
  exact ⟨t, a1, o, b1, b2, Or.inl ⟨b3, b4⟩⟩
/-- not caught here: it goes on to the caller -/
theorem vx_widen {g : JFrame} {q : Addr} {k n : Nat} (h1 : cells ≤ k) (h2 : slots ≤ n) (kk : vx_W p l e R s m args below meth c H locs k n Q g q) : vx_W p l e R s m args below meth c H locs cells slots Q g q := fun T hT X => kk T hT (stand_widen X h1 h2)
theorem vx_out {pc : Nat} {E : String} {ce : Cell} {q : Addr} {mc ms : Nat} (hout : ∀ x ∈ c.exceptionTable.toList, covers x pc = false) (hlocks : meth.locks = false) (hcell : H[q]? = some ce) (hv : ce.vm = .none) (hcl : s.vm.findClass E = some ce.cls)
    (hx : ∀ t : State, t.heap = H → s.vm.Alike t.vm → XC E s t) (hf : ∀ z ∈ locs, free z.base) (hc : cells ≤ mc) (hs : slots ≤ ms) :
    vx_W p l e R s m args below meth c H locs cells slots (vx_MQ below Qc XC args s mc ms free) (F0 m pc ls rest) q := by
  intro T hT X
  obtain ⟨st1, hrun, hend, hW, hsm⟩ := X.leaveThrown q (g := F0 m pc ls rest) rfl rfl rfl hout hlocks
  have hcell9 : (T.setFrames (.throwing q :: below)).heap[q]? = some ce := by
    show T.heap[q]? = some ce
    rw [hT]; exact hcell
  exact ⟨_, st1, .threw q, hrun, hend, Or.inr ⟨q, rfl, E, ce, locs, hx _ hT hW.alike, hcell9, hv, hcl, hW, hsm.mono hc hs, hf⟩⟩
theorem vx_frame {U : State} {k n : Nat} (h : s.sameButNew ({ U with vm := s.vm } : State) locs k n) : s.heap.size ≤ U.heap.size ∧ ∀ q : Nat, q < s.heap.size → (∀ z ∈ locs, z.base ≠ q) → U.heap[q]? = s.heap[q]? := by
  obtain ⟨-, h2, -, -, -, h6⟩ := h
  refine ⟨h2, fun q hq hz => ?_⟩
  obtain ⟨c9, e1, e2, e3, e4⟩ := h6 q _ (Array.getElem?_eq_getElem hq)
  have hs : c9.slots = (s.heap[q]).slots := Array.ext_getElem? fun i => e4 i fun hm => hz _ hm rfl
  have h9 : c9 = s.heap[q] := by
    rw [hs] at e2
    exact e2
  have e5 : U.heap[q]? = some c9 := e1
  rw [e5, h9, Array.getElem?_eq_getElem hq]
/-- the words of a throw but the four that speak of the heap -/
def vx_no (w : Cond) : Bool := decide (w ≠ .isRef (.static Bundle.tN "UNASSIGNED_STACK" Bundle.steD)) && decide (w ≠ .isRef (.static Bundle.tN "SUPPRESSED_SENTINEL" Bundle.listD)) && decide (w ≠ .laysStatic Bundle.tN "UNASSIGNED_STACK" Bundle.steD) && decide (w ≠ .laysStatic Bundle.tN "SUPPRESSED_SENTINEL" Bundle.listD)
def vx_at0 (own : String) (ic : Nat) (X : String) (names : List String) : List Cond := (Bundle.ownAtoms0 own ic X names).filter vx_no
def vx_atS (own : String) (ic : Nat) (X : String) (names : List String) : List Cond := (Bundle.ownAtoms own ic X names).filter vx_no
/-- a word that the tables alone decide, or a good one -/
def vx_ot (w : Cond) : Bool := w.onTables || goodWord w
theorem vx_ot_at {args a' : Array Value} {s U : State} {w : Cond} (hW : s.WarmedH U.vm) (hvm : s.vm = U.vm) (hg : vx_ot w = true) (h : w.before args s = true) : w.before a' U = true := by
  simp only [vx_ot, Bool.or_eq_true] at hg
  rcases hg with hg | hg
  · exact va_tabs hg hvm h
  · exact word_at hW (good_of_word hg) h
/-- a list's words: the good ones out of the method's own list, the others by premises of their own -/
theorem vx_hat {args : Array Value} {s : State} {L B : List Cond} (h1 : ∀ w ∈ L.filter goodWord, w.before args s = true) (h2 : ∀ w ∈ L.filter (fun w => !goodWord w), w ∈ B) (h3 : ∀ w ∈ B, w.before args s = true) : ∀ w ∈ L, w.before args s = true := by
  intro w hw
  by_cases g : goodWord w = true
  · exact h1 w (List.mem_filter.mpr ⟨hw, g⟩)
  · refine h3 w (h2 w (List.mem_filter.mpr ⟨hw, ?_⟩))
    show (!goodWord w) = true
    cases hgw : goodWord w
    · rfl
    · exact absurd hgw g
theorem vx_c {args : Array Value} {s : State} {w : Cond} {B : List Cond} (h : w.before args s = true) (t : ∀ w ∈ B, w.before args s = true) : ∀ w' ∈ w :: B, w'.before args s = true := fun w' h' => (List.mem_cons.mp h').elim (fun e => by rw [e]; exact h) (t w')
theorem vx_n {args : Array Value} {s : State} : ∀ w ∈ ([] : List Cond), w.before args s = true := fun _ h => nomatch h
theorem vx_own {args : Array Value} {s : State} {L : List Cond} (h1 : ∀ w ∈ L.filter vx_no, w.before args s = true)
    (hU : (Cond.isRef (.static Bundle.tN "UNASSIGNED_STACK" Bundle.steD)).before args s = true) (hN : (Cond.isRef (.static Bundle.tN "SUPPRESSED_SENTINEL" Bundle.listD)).before args s = true)
    (lU : (Cond.laysStatic Bundle.tN "UNASSIGNED_STACK" Bundle.steD).before args s = true) (lN : (Cond.laysStatic Bundle.tN "SUPPRESSED_SENTINEL" Bundle.listD).before args s = true) : ∀ w ∈ L, w.before args s = true := by
  intro w hw
  by_cases e1 : w = .isRef (.static Bundle.tN "UNASSIGNED_STACK" Bundle.steD)
  · rw [e1]; exact hU
  · by_cases e2 : w = .isRef (.static Bundle.tN "SUPPRESSED_SENTINEL" Bundle.listD)
    · rw [e2]; exact hN
    · by_cases e3 : w = .laysStatic Bundle.tN "UNASSIGNED_STACK" Bundle.steD
      · rw [e3]; exact lU
      · by_cases e4 : w = .laysStatic Bundle.tN "SUPPRESSED_SENTINEL" Bundle.listD
        · rw [e4]; exact lN
        · exact h1 w (List.mem_filter.mpr ⟨hw, by unfold vx_no; rw [decide_eq_true e1, decide_eq_true e2, decide_eq_true e3, decide_eq_true e4]; rfl⟩)
/-- where a static field lies, its class's statics cell in H -/
def vx_L (C n d : String) (A : Nat → Prop) (U : State) (H : Heap) : Prop := ∃ (c : ClassId) (k : Class) (i : Nat) (f : Field) (a : Nat) (cell : Cell), U.vm.findClass C = some c ∧ U.fieldFound? C n d = some (c, k, i, f) ∧ f.isStatic = true ∧ k.statics = some a ∧ H[a]? = some cell ∧ cell.vm.isStatics = true ∧ cell.cls = c ∧ f.slot < cell.slots.size ∧ k.staticTypes[f.slot]? = some f.type ∧ ¬ A a
theorem vx_L.moved {C n d : String} {A : Nat → Prop} {u U : State} {H : Heap} (hvm : u.vm.Alike U.vm) (h : vx_L C n d A u H) : vx_L C n d A U H := by
  obtain ⟨c, k, i, f, a, cell, h1, h2, h3, h4, h5, h6, h7, h8, h9, h10⟩ := h
  obtain ⟨k', hi', he⟩ := State.fieldFound?_setVm hvm h2
  exact ⟨c, k', i, f, a, cell, by rw [hvm.findClass]; exact h1, hi', h3, by rw [he]; exact h4, h5, h6, h7, h8, by rw [he]; exact h9, h10⟩
theorem vx_L.kept {C n d : String} {A : Nat → Prop} {U : State} {H H1 : Heap} (h : vx_L C n d A U H) (hq : ∀ a : Nat, a < H.size → ¬ A a → H1[a]? = H[a]?) : vx_L C n d A U H1 := by
  obtain ⟨c, k, i, f, a, cell, h1, h2, h3, h4, h5, h6, h7, h8, h9, h10⟩ := h
  exact ⟨c, k, i, f, a, cell, h1, h2, h3, h4, by rw [hq a (Array.getElem?_eq_some_iff.mp h5).1 h10]; exact h5, h6, h7, h8, h9, h10⟩
theorem vx_L.narrow {C n d : String} {A B : Nat → Prop} {U : State} {H : Heap} (h : vx_L C n d A U H) (hAB : ∀ q, B q → A q) : vx_L C n d B U H := by
  obtain ⟨c, k, i, f, a, cell, h1, h2, h3, h4, h5, h6, h7, h8, h9, h10⟩ := h
  exact ⟨c, k, i, f, a, cell, h1, h2, h3, h4, h5, h6, h7, h8, h9, fun z => h10 (hAB _ z)⟩
theorem vx_L.word {C n d : String} {A : Nat → Prop} {s : State} {args : Array Value} (h : vx_L C n d A s s.heap) : (Cond.laysStatic C n d).before args s = true := by
  obtain ⟨c, k, i, f, a, cell, h1, h2, h3, h4, h5, h6, h7, h8, h9, -⟩ := h
  show (Cond.laysStatic C n d).holds args s none s [] = true
  exact Cond.laysStatic_of h1 h2 h3 h4 h5 h6 h7 h8 h9
/-- .. and what it holds: null or some reference -/
def vx_Zq (C n d : String) (A : Nat → Prop) (U : State) (H : Heap) : Prop := va_Zq C n d A U H ∧ vx_L C n d A U H
theorem vx_Zq.moved {C n d : String} {A : Nat → Prop} {u U : State} {H : Heap} (hvm : u.vm.Alike U.vm) (h : vx_Zq C n d A u H) : vx_Zq C n d A U H := ⟨va_Zq.moved hvm h.1, vx_L.moved hvm h.2⟩
theorem vx_Zq.kept {C n d : String} {A : Nat → Prop} {U : State} {H H1 : Heap} (h : vx_Zq C n d A U H) (hq : ∀ a : Nat, a < H.size → ¬ A a → H1[a]? = H[a]?) : vx_Zq C n d A U H1 := ⟨va_Zq.kept h.1 hq, vx_L.kept h.2 hq⟩
theorem vx_Zq.narrow {C n d : String} {A B : Nat → Prop} {U : State} {H : Heap} (h : vx_Zq C n d A U H) (hAB : ∀ q, B q → A q) : vx_Zq C n d B U H := ⟨va_Zq.narrow h.1 hAB, vx_L.narrow h.2 hAB⟩
theorem vx_Zqof {args : Array Value} {s : State} {C n d : String} {A : Nat → Prop} (hl : (Cond.laysStatic C n d).before args s = true) (hini : (Cond.initialized C).before args s = true) (h : (Cond.isRef (.static C n d)).before args s = true) (hA : ∀ a : Nat, a < s.heap.size → ¬ A a) : vx_Zq C n d A s s.heap := by
  refine ⟨va_Zqof hl hini h hA, ?_⟩
  obtain ⟨c, k, i, f, a, cell, h1, h2, h3, h4, h5, h6, h7, h8, h9⟩ := Cond.laysStatic_spec hl
  exact ⟨c, k, i, f, a, cell, h1, h2, h3, h4, h5, h6, h7, h8, h9, hA a (Array.getElem?_eq_some_iff.mp h5).1⟩
theorem vx_isRef {C n d : String} {v : Value} {A : Nat → Prop} {s : State} {args : Array Value} (h : va_Z C n d v A s s.heap) (hv : v.isRef = true) : (Cond.isRef (.static C n d)).before args s = true := by
  obtain ⟨cf, kf, fi, f, a, cell, h1, h2, h3, h4, h5, h6, h7, -⟩ := h
  have he : (Term.static C n d).eval args s none [] s = some v := by
    simp [Term.eval, State.fieldNamed?, h1, h2, h4, h5, h6, h7]
  simp only [Cond.before, Cond.holds, Cond.value, he]
  cases v <;> simp_all [Value.isRef]
theorem vx_isRefq {C n d : String} {A : Nat → Prop} {s : State} {args : Array Value} (h : va_Zq C n d A s s.heap) : (Cond.isRef (.static C n d)).before args s = true := by
  rcases h with h | ⟨t, h⟩
  · exact vx_isRef h rfl
  · exact vx_isRef h rfl
/-- the same frame, seen from here: as if the method were called anew in this heap -/
theorem vx_rebase {T : State} (X : Stand p l e R s m args below meth c T locs cells slots) {R' : Room} (hf : R'.frames ≤ R.frames) (hl : R'.locals ≤ R.locals) (hc : cells + R'.cells ≤ R.cells) (hs : slots + R'.slots ≤ R.slots) :
    Stand p l e R' ((T.setVm s.vm).setFrames (.invoking m args :: below)) m args below meth c T [] 0 0 := by
  have htop : (T.setVm s.vm).topJava?.isSome := X.here.top
  have hF : ((T.setVm s.vm).setFrames (.invoking m args :: below)).frames = .invoking m args :: below := State.frames_setFrames _ (State.cur_lt_of_top htop)
  obtain ⟨g₀, hg0⟩ := Option.isSome_iff_exists.mp htop
  obtain ⟨r, hr⟩ := State.topJava?_eq_some.mp hg0
  have hl9 : e.platform.stackLimits (T.setVm s.vm).me = e.platform.stackLimits s.me := X.limits
  have hb9 : (T.setVm s.vm).me.stackBytes = s.me.stackBytes := X.bytes
  refine ⟨X.admits, X.cas, X.clock, hF, ?_, X.hears, X.method, X.code, X.here, X.tail, X.warmed, ?_, ?_, ?_⟩
  · have h := X.room
    have hU : ((T.setVm s.vm).setFrames (.invoking m args :: below)).localsInUse = s.localsInUse := by
      rw [State.localsInUse_invoking hF (meth := meth) (c := c) X.method X.code, State.localsInUse_invoking X.frames X.method X.code]
    simp only [State.hasRoom, Bool.and_eq_true, decide_eq_true_eq] at h ⊢
    obtain ⟨⟨⟨⟨h1, h2, h3, h4, h5, h6⟩, h7⟩, h8⟩, h9⟩ := h
    rw [X.frames, List.length_cons] at h2 h3
    have q1 := X.heapSize
    have q2 := X.used
    simp only [hF, hU, List.length_cons, State.stackLimits_setFrames, State.stackBytes_setFrames, hl9, hb9]
    refine ⟨⟨⟨⟨by omega, by omega, by omega, by omega, by omega, h6⟩, ?_⟩, ?_⟩, X.book⟩
    · show T.heap.size + R'.cells ≤ e.platform.maxCells
      omega
    · show T.slotsUsed + R'.slots ≤ e.platform.maxSlots
      omega
  · rw [State.stackLimits_setFrames]; rfl
  · rw [State.stackBytes_setFrames]; rfl
  · refine ⟨?_, Nat.le_refl _, Nat.le_refl _, ?_, ?_, fun a c9 h9 => ⟨c9, h9, rfl, rfl, fun _ _ => rfl⟩⟩
    · obtain ⟨t, ht, -⟩ := State.frames_cons hr
      show T.setVm s.vm = { ((T.setVm s.vm).setFrames (.invoking m args :: below)).setFrames (T.setVm s.vm).frames with heap := T.heap, slotsUsed := T.slotsUsed }
      rw [State.setFrames_setFrames, State.setFrames_self ht]
      rfl
    · show T.slotsUsed = T.slotsUsed + ((T.heap.toList.drop T.heap.size).map (·.slots.size)).sum
      rw [List.drop_eq_nil_of_le (Nat.le_of_eq Array.length_toList)]
      rfl
    · show ((T.heap.toList.drop T.heap.size).map (·.slots.size)).sum ≤ 0
      rw [List.drop_eq_nil_of_le (Nat.le_of_eq Array.length_toList)]
      exact Nat.le_refl _
/-- 'throw new E()': new; dup; invokespecial; athrow -/
theorem vx_throw0 {cc : ByteArray} {pc : Nat} (hexec : p.tables.exec = Jvm.exec) (hb : c.code = cc) (hl : l.stackTraces = false) {own cls : String} {names : List String} {ik ic mc ms : Nat} {A : Nat → Prop}
    (hown : s.vm.findClass own = some m.cls) (hcls : Bundle.fit cls = true) (hnames : ∀ n ∈ names, Bundle.fit n = true)
    (hk : (Cond.classLink own ik cls).before args s = true) (hini : (Cond.initialized cls).before args s = true) (hat : ∀ w ∈ vx_at0 own ic cls names, w.before args s = true)
    (hgood : ∀ w ∈ Cond.classLink own ik cls :: Cond.initialized cls :: vx_at0 own ic cls names, vx_ot w = true)
    (hU : vx_Zq Bundle.tN "UNASSIGNED_STACK" Bundle.steD A s s.heap) (hN : vx_Zq Bundle.tN "SUPPRESSED_SENTINEL" Bundle.listD A s s.heap) (hS : va_S A s.heap H locs) (hsize : ls.size = c.maxLocals)
    (d0 : decode cc pc = .ok (.new ik, 3)) (d3 : decode cc (pc + 3) = .ok (.dup, 1)) (d4 : decode cc (pc + 4) = .ok (.invokespecial ic, 3)) (d7 : decode cc (pc + 7) = .ok (.athrow, 1))
    (hout : ∀ x ∈ c.exceptionTable.toList, covers x (pc + 7) = false)
    (hRframes : names.length + 3 < R.frames) (hRlocals : (rest.map fun v => v.category).sum + (13 * (names.length + 1) + 42) ≤ R.locals) (hRcells : cells + 1 ≤ R.cells) (hRslots : slots + 6 ≤ R.slots) (hlocks : meth.locks = false)
    (hx : ∀ t : State, s.vm.Alike t.vm → H.size ≤ t.heap.size → (∀ q : Nat, q < H.size → t.heap[q]? = H[q]?) → XC cls s t)
    (hf : ∀ z ∈ locs, free z.base) (hc : cells + 1 ≤ mc) (hs : slots + 6 ≤ ms) :
    W p l e R s m args below meth c H locs cells slots (vx_MQ below Qc XC args s mc ms free) (F0 m pc ls rest) := by
  intro T hT X
  have htr : e.platform.stackTraces = false := (show e.platform.stackTraces = l.stackTraces by rw [X.admits.platform]).trans hl
  have Y := vx_rebase X (R' := { frames := R.frames, locals := R.locals, cells := 1, slots := 6 }) (Nat.le_refl _) (Nat.le_refl _) hRcells hRslots
  obtain ⟨s', hA⟩ : ∃ z, z = (T.setVm s.vm).setFrames (.invoking m args :: below) := ⟨_, rfl⟩
  rw [← hA] at Y
  have hvm : s'.vm = s.vm := by rw [hA]; rfl
  have hhp : s'.heap = H := by rw [hA]; exact hT
  have hW0 : s.WarmedH s'.vm := by rw [hvm]; exact State.WarmedH.refl s
  have hat' : ∀ w ∈ vx_at0 own ic cls names, w.before args s' = true := fun w hw => vx_ot_at hW0 hvm.symm (hgood w (List.mem_cons_of_mem _ (List.mem_cons_of_mem _ hw))) (hat w hw)
  have hk' : (Cond.classLink own ik cls).before args s' = true := vx_ot_at hW0 hvm.symm (hgood _ List.mem_cons_self) hk
  have hini' : (Cond.initialized cls).before args s' = true := vx_ot_at hW0 hvm.symm (hgood _ (List.mem_cons_of_mem _ List.mem_cons_self)) hini
  have hU' : vx_Zq Bundle.tN "UNASSIGNED_STACK" Bundle.steD A s' s'.heap := by rw [hhp]; exact vx_Zq.moved hW0.alike (hU.kept hS.2.1)
  have hN' : vx_Zq Bundle.tN "SUPPRESSED_SENTINEL" Bundle.listD A s' s'.heap := by rw [hhp]; exact vx_Zq.moved hW0.alike (hN.kept hS.2.1)
  have h : ∀ w ∈ Bundle.ownAtoms0 own ic cls names, w.before args s' = true := vx_own hat' (vx_isRefq hU'.1) (vx_isRefq hN'.1) hU'.2.word hN'.2.word
  have hown' : s'.vm.findClass own = some m.cls := by rw [hvm]; exact hown
  have hins : (Cond.instantiable cls 6).before args s' = true := h _ (by simp [Bundle.ownAtoms0])
  obtain ⟨vm₁, cX, kX, hfX, hkX, -, -, X₁, st1⟩ := Y.newCold hexec (own := own) (C := cls) (index := ik) (n := 6) hown' hk' hins hini'
    (g := F0 m pc ls rest) rfl (by rw [hb]; exact d0) (Nat.le_refl _) (Nat.le_refl _)
  generalize hT1 : (T.setVm vm₁).pushCell { cls := cX, slots := kX.instanceTypes.map defaultValue, vm := .none } = T1 at X₁ st1
  have hcat : (Value.ref T.heap.size).category = 1 := rfl
  have hcellA : T1.heap[T.heap.size]? = some (freshCell cX kX) := by rw [← hT1]; exact State.heap_pushCell_size _ _
  have d3' : decode c.code (pc + 3) = .ok (.dup, 1) := by rw [hb]; exact d3
  obtain ⟨U, hsteps, hrun, hend, hW, hsame, ce, hce, hO⟩ := X₁.ctorThrow0 hexec htr (own := own) (cls := cls) (names := names) (ic := ic) hown' hcls hnames h (fun x hx => nomatch hx) hfX hkX hcellA (by rw [hhp, hT]; exact Nat.le_refl _)
    (g := { method := m, pc := pc + 4, locals := ls, stack := .ref T.heap.size :: .ref T.heap.size :: rest, locked := none }) rfl hsize rfl rfl (rest := rest) rfl
    (by rw [hb]; exact d4) (by rw [hb]; exact d7) hout hRframes (by simp only [List.map_cons, List.sum_cons, hcat]; omega) hlocks
  obtain ⟨f1, f2⟩ := vx_frame hsame
  rw [hhp] at f1 f2
  have hWs : s.WarmedH U.vm := State.WarmedH.trans hW0 hW
  have hcl : s.vm.findClass cls = some ce.cls := by
    have h9 := hO.cls
    rw [hvm] at h9
    exact h9
  have hall : s.sameButNew ({ U with vm := s.vm } : State) locs mc ms := by
    subst hA
    obtain ⟨e1, e2⟩ := hsame
    rw [State.setFrames_setFrames] at e1
    have h2 : (T.setVm s.vm).sameButNew ({ U with vm := s.vm } : State) [] (0 + 1) (0 + 6) := ⟨e1, e2⟩
    have h3 := X.same.trans h2
    rw [List.append_nil] at h3
    exact h3.mono hc hs
  refine ⟨U, ?_, .threw T.heap.size, hrun, hend, Or.inr ⟨T.heap.size, rfl, cls, ce, locs, hx U hWs.alike f1 (fun q hq => f2 q hq (fun z hz => nomatch hz)), hce, hO.vm, hcl, hWs, hall, hf⟩⟩
  refine st1 _ ?_
  show Steps p.tables e below (T1.setTop { method := m, pc := pc + 3, locals := ls, stack := .ref T.heap.size :: rest, locked := none }) _
  jvm_step X₁.here [X₁.here.top, hexec, d3', Value.category]
  exact hsteps
/-- 'throw new E("text")': new; dup; ldc; invokespecial; athrow -/
theorem vx_throwS {cc : ByteArray} {pc : Nat} (hexec : p.tables.exec = Jvm.exec) (hb : c.code = cc) (hl : l.stackTraces = false) {own cls text : String} {names : List String} {ik is ic mc ms sa : Nat} {A : Nat → Prop}
    (hown : s.vm.findClass own = some m.cls) (hcls : Bundle.fit cls = true) (hnames : ∀ n ∈ names, Bundle.fit n = true)
    (hk : (Cond.classLink own ik cls).before args s = true) (hini : (Cond.initialized cls).before args s = true) (hstr : vk_R own is text sa s) (hat : ∀ w ∈ vx_atS own ic cls names, w.before args s = true)
    (hgood : ∀ w ∈ Cond.classLink own ik cls :: Cond.initialized cls :: vx_atS own ic cls names, vx_ot w = true)
    (hU : vx_Zq Bundle.tN "UNASSIGNED_STACK" Bundle.steD A s s.heap) (hN : vx_Zq Bundle.tN "SUPPRESSED_SENTINEL" Bundle.listD A s s.heap) (hS : va_S A s.heap H locs) (hsize : ls.size = c.maxLocals)
    (d0 : decode cc pc = .ok (.new ik, 3)) (d3 : decode cc (pc + 3) = .ok (.dup, 1)) (d4 : decode cc (pc + 4) = .ok (.ldc is, 2)) (d6 : decode cc (pc + 6) = .ok (.invokespecial ic, 3)) (d9 : decode cc (pc + 9) = .ok (.athrow, 1))
    (hout : ∀ x ∈ c.exceptionTable.toList, covers x (pc + 9) = false)
    (hRframes : names.length + 3 < R.frames) (hRlocals : (rest.map fun v => v.category).sum + (13 * (names.length + 1) + 43) ≤ R.locals) (hRcells : cells + 1 ≤ R.cells) (hRslots : slots + 6 ≤ R.slots) (hlocks : meth.locks = false)
    (hx : ∀ t : State, s.vm.Alike t.vm → H.size ≤ t.heap.size → (∀ q : Nat, q < H.size → t.heap[q]? = H[q]?) → XC cls s t)
    (hf : ∀ z ∈ locs, free z.base) (hc : cells + 1 ≤ mc) (hs : slots + 6 ≤ ms) :
    W p l e R s m args below meth c H locs cells slots (vx_MQ below Qc XC args s mc ms free) (F0 m pc ls rest) := by
  intro T hT X
  have htr : e.platform.stackTraces = false := (show e.platform.stackTraces = l.stackTraces by rw [X.admits.platform]).trans hl
  have Y := vx_rebase X (R' := { frames := R.frames, locals := R.locals, cells := 1, slots := 6 }) (Nat.le_refl _) (Nat.le_refl _) hRcells hRslots
  obtain ⟨s', hA⟩ : ∃ z, z = (T.setVm s.vm).setFrames (.invoking m args :: below) := ⟨_, rfl⟩
  rw [← hA] at Y
  have hvm : s'.vm = s.vm := by rw [hA]; rfl
  have hhp : s'.heap = H := by rw [hA]; exact hT
  have hW0 : s.WarmedH s'.vm := by rw [hvm]; exact State.WarmedH.refl s
  have hat' : ∀ w ∈ vx_atS own ic cls names, w.before args s' = true := fun w hw => vx_ot_at hW0 hvm.symm (hgood w (List.mem_cons_of_mem _ (List.mem_cons_of_mem _ hw))) (hat w hw)
  have hk' : (Cond.classLink own ik cls).before args s' = true := vx_ot_at hW0 hvm.symm (hgood _ List.mem_cons_self) hk
  have hini' : (Cond.initialized cls).before args s' = true := vx_ot_at hW0 hvm.symm (hgood _ (List.mem_cons_of_mem _ List.mem_cons_self)) hini
  have hU' : vx_Zq Bundle.tN "UNASSIGNED_STACK" Bundle.steD A s' s'.heap := by rw [hhp]; exact vx_Zq.moved hW0.alike (hU.kept hS.2.1)
  have hN' : vx_Zq Bundle.tN "SUPPRESSED_SENTINEL" Bundle.listD A s' s'.heap := by rw [hhp]; exact vx_Zq.moved hW0.alike (hN.kept hS.2.1)
  have h : ∀ w ∈ Bundle.ownAtoms own ic cls names, w.before args s' = true := vx_own hat' (vx_isRefq hU'.1) (vx_isRefq hN'.1) hU'.2.word hN'.2.word
  have hown' : s'.vm.findClass own = some m.cls := by rw [hvm]; exact hown
  have hins : (Cond.instantiable cls 6).before args s' = true := h _ (by simp [Bundle.ownAtoms])
  obtain ⟨vm₁, cX, kX, hfX, hkX, -, -, X₁, st1⟩ := Y.newCold hexec (own := own) (C := cls) (index := ik) (n := 6) hown' hk' hins hini'
    (g := F0 m pc ls rest) rfl (by rw [hb]; exact d0) (Nat.le_refl _) (Nat.le_refl _)
  generalize hT1 : (T.setVm vm₁).pushCell { cls := cX, slots := kX.instanceTypes.map defaultValue, vm := .none } = T1 at X₁ st1
  have hcat : (Value.ref T.heap.size).category = 1 := rfl
  have hcellA : T1.heap[T.heap.size]? = some (freshCell cX kX) := by rw [← hT1]; exact State.heap_pushCell_size _ _
  have d3' : decode c.code (pc + 3) = .ok (.dup, 1) := by rw [hb]; exact d3
  have d4' : decode c.code (pc + 4) = .ok (.ldc is, 2) := by rw [hb]; exact d4
  have hstr' : vk_R own is text sa s' := vk_R.warm hW0 hstr
  obtain ⟨U, hsteps, hrun, hend, hW, hsame, ce, hce, hO⟩ := X₁.ctorThrowS hexec htr (own := own) (cls := cls) (names := names) (ic := ic) hown' hcls hnames h (fun x hx => nomatch hx) hfX hkX hcellA (by rw [hhp, hT]; exact Nat.le_refl _) (msg := .ref sa) rfl
    (g := { method := m, pc := pc + 6, locals := ls, stack := .ref sa :: .ref T.heap.size :: .ref T.heap.size :: rest, locked := none }) rfl hsize rfl rfl (rest := rest) rfl
    (by rw [hb]; exact d6) (by rw [hb]; exact d9) hout hRframes (by simp only [List.map_cons, List.sum_cons, hcat]; omega) hlocks
  obtain ⟨f1, f2⟩ := vx_frame hsame
  rw [hhp] at f1 f2
  have hWs : s.WarmedH U.vm := State.WarmedH.trans hW0 hW
  have hcl : s.vm.findClass cls = some ce.cls := by
    have h9 := hO.cls
    rw [hvm] at h9
    exact h9
  have hall : s.sameButNew ({ U with vm := s.vm } : State) locs mc ms := by
    subst hA
    obtain ⟨e1, e2⟩ := hsame
    rw [State.setFrames_setFrames] at e1
    have h2 : (T.setVm s.vm).sameButNew ({ U with vm := s.vm } : State) [] (0 + 1) (0 + 6) := ⟨e1, e2⟩
    have h3 := X.same.trans h2
    rw [List.append_nil] at h3
    exact h3.mono hc hs
  refine ⟨U, ?_, .threw T.heap.size, hrun, hend, Or.inr ⟨T.heap.size, rfl, cls, ce, locs, hx U hWs.alike f1 (fun q hq => f2 q hq (fun z hz => nomatch hz)), hce, hO.vm, hcl, hWs, hall, hf⟩⟩
  refine st1 _ ?_
  show Steps p.tables e below (T1.setTop { method := m, pc := pc + 3, locals := ls, stack := .ref T.heap.size :: rest, locked := none }) _
  jvm_step X₁.here [X₁.here.top, hexec, d3', Value.category]
  exact X₁.ldcString hexec (own := own) (text := text) (index := is) (a := sa) hown' hstr'.1 hstr'.2
    (g := { method := m, pc := pc + 4, locals := ls, stack := .ref T.heap.size :: .ref T.heap.size :: rest, locked := none }) rfl d4' _ hsteps
/-- 'throw new E("text")', the text by a wide index -/
theorem vx_throwSW {cc : ByteArray} {pc : Nat} (hexec : p.tables.exec = Jvm.exec) (hb : c.code = cc) (hl : l.stackTraces = false) {own cls text : String} {names : List String} {ik is ic mc ms sa : Nat} {A : Nat → Prop}
    (hown : s.vm.findClass own = some m.cls) (hcls : Bundle.fit cls = true) (hnames : ∀ n ∈ names, Bundle.fit n = true)
    (hk : (Cond.classLink own ik cls).before args s = true) (hini : (Cond.initialized cls).before args s = true) (hstr : vk_R own is text sa s) (hat : ∀ w ∈ vx_atS own ic cls names, w.before args s = true)
    (hgood : ∀ w ∈ Cond.classLink own ik cls :: Cond.initialized cls :: vx_atS own ic cls names, vx_ot w = true)
    (hU : vx_Zq Bundle.tN "UNASSIGNED_STACK" Bundle.steD A s s.heap) (hN : vx_Zq Bundle.tN "SUPPRESSED_SENTINEL" Bundle.listD A s s.heap) (hS : va_S A s.heap H locs) (hsize : ls.size = c.maxLocals)
    (d0 : decode cc pc = .ok (.new ik, 3)) (d3 : decode cc (pc + 3) = .ok (.dup, 1)) (d4 : decode cc (pc + 4) = .ok (.ldc_w is, 3)) (d7 : decode cc (pc + 7) = .ok (.invokespecial ic, 3)) (d10 : decode cc (pc + 10) = .ok (.athrow, 1))
    (hout : ∀ x ∈ c.exceptionTable.toList, covers x (pc + 10) = false)
    (hRframes : names.length + 3 < R.frames) (hRlocals : (rest.map fun v => v.category).sum + (13 * (names.length + 1) + 43) ≤ R.locals) (hRcells : cells + 1 ≤ R.cells) (hRslots : slots + 6 ≤ R.slots) (hlocks : meth.locks = false)
    (hx : ∀ t : State, s.vm.Alike t.vm → H.size ≤ t.heap.size → (∀ q : Nat, q < H.size → t.heap[q]? = H[q]?) → XC cls s t)
    (hf : ∀ z ∈ locs, free z.base) (hc : cells + 1 ≤ mc) (hs : slots + 6 ≤ ms) :
    W p l e R s m args below meth c H locs cells slots (vx_MQ below Qc XC args s mc ms free) (F0 m pc ls rest) := by
  intro T hT X
  have htr : e.platform.stackTraces = false := (show e.platform.stackTraces = l.stackTraces by rw [X.admits.platform]).trans hl
  have Y := vx_rebase X (R' := { frames := R.frames, locals := R.locals, cells := 1, slots := 6 }) (Nat.le_refl _) (Nat.le_refl _) hRcells hRslots
  obtain ⟨s', hA⟩ : ∃ z, z = (T.setVm s.vm).setFrames (.invoking m args :: below) := ⟨_, rfl⟩
  rw [← hA] at Y
  have hvm : s'.vm = s.vm := by rw [hA]; rfl
  have hhp : s'.heap = H := by rw [hA]; exact hT
  have hW0 : s.WarmedH s'.vm := by rw [hvm]; exact State.WarmedH.refl s
  have hat' : ∀ w ∈ vx_atS own ic cls names, w.before args s' = true := fun w hw => vx_ot_at hW0 hvm.symm (hgood w (List.mem_cons_of_mem _ (List.mem_cons_of_mem _ hw))) (hat w hw)
  have hk' : (Cond.classLink own ik cls).before args s' = true := vx_ot_at hW0 hvm.symm (hgood _ List.mem_cons_self) hk
  have hini' : (Cond.initialized cls).before args s' = true := vx_ot_at hW0 hvm.symm (hgood _ (List.mem_cons_of_mem _ List.mem_cons_self)) hini
  have hU' : vx_Zq Bundle.tN "UNASSIGNED_STACK" Bundle.steD A s' s'.heap := by rw [hhp]; exact vx_Zq.moved hW0.alike (hU.kept hS.2.1)
  have hN' : vx_Zq Bundle.tN "SUPPRESSED_SENTINEL" Bundle.listD A s' s'.heap := by rw [hhp]; exact vx_Zq.moved hW0.alike (hN.kept hS.2.1)
  have h : ∀ w ∈ Bundle.ownAtoms own ic cls names, w.before args s' = true := vx_own hat' (vx_isRefq hU'.1) (vx_isRefq hN'.1) hU'.2.word hN'.2.word
  have hown' : s'.vm.findClass own = some m.cls := by rw [hvm]; exact hown
  have hins : (Cond.instantiable cls 6).before args s' = true := h _ (by simp [Bundle.ownAtoms])
  obtain ⟨vm₁, cX, kX, hfX, hkX, -, -, X₁, st1⟩ := Y.newCold hexec (own := own) (C := cls) (index := ik) (n := 6) hown' hk' hins hini'
    (g := F0 m pc ls rest) rfl (by rw [hb]; exact d0) (Nat.le_refl _) (Nat.le_refl _)
  generalize hT1 : (T.setVm vm₁).pushCell { cls := cX, slots := kX.instanceTypes.map defaultValue, vm := .none } = T1 at X₁ st1
  have hcat : (Value.ref T.heap.size).category = 1 := rfl
  have hcellA : T1.heap[T.heap.size]? = some (freshCell cX kX) := by rw [← hT1]; exact State.heap_pushCell_size _ _
  have d3' : decode c.code (pc + 3) = .ok (.dup, 1) := by rw [hb]; exact d3
  have d4' : decode c.code (pc + 4) = .ok (.ldc_w is, 3) := by rw [hb]; exact d4
  have hstr' : vk_R own is text sa s' := vk_R.warm hW0 hstr
  obtain ⟨U, hsteps, hrun, hend, hW, hsame, ce, hce, hO⟩ := X₁.ctorThrowS hexec htr (own := own) (cls := cls) (names := names) (ic := ic) hown' hcls hnames h (fun x hx => nomatch hx) hfX hkX hcellA (by rw [hhp, hT]; exact Nat.le_refl _) (msg := .ref sa) rfl
    (g := { method := m, pc := pc + 7, locals := ls, stack := .ref sa :: .ref T.heap.size :: .ref T.heap.size :: rest, locked := none }) rfl hsize rfl rfl (rest := rest) rfl
    (by rw [hb]; exact d7) (by rw [hb]; exact d10) hout hRframes (by simp only [List.map_cons, List.sum_cons, hcat]; omega) hlocks
  obtain ⟨f1, f2⟩ := vx_frame hsame
  rw [hhp] at f1 f2
  have hWs : s.WarmedH U.vm := State.WarmedH.trans hW0 hW
  have hcl : s.vm.findClass cls = some ce.cls := by
    have h9 := hO.cls
    rw [hvm] at h9
    exact h9
  have hall : s.sameButNew ({ U with vm := s.vm } : State) locs mc ms := by
    subst hA
    obtain ⟨e1, e2⟩ := hsame
    rw [State.setFrames_setFrames] at e1
    have h2 : (T.setVm s.vm).sameButNew ({ U with vm := s.vm } : State) [] (0 + 1) (0 + 6) := ⟨e1, e2⟩
    have h3 := X.same.trans h2
    rw [List.append_nil] at h3
    exact h3.mono hc hs
  refine ⟨U, ?_, .threw T.heap.size, hrun, hend, Or.inr ⟨T.heap.size, rfl, cls, ce, locs, hx U hWs.alike f1 (fun q hq => f2 q hq (fun z hz => nomatch hz)), hce, hO.vm, hcl, hWs, hall, hf⟩⟩
  refine st1 _ ?_
  show Steps p.tables e below (T1.setTop { method := m, pc := pc + 3, locals := ls, stack := .ref T.heap.size :: rest, locked := none }) _
  jvm_step X₁.here [X₁.here.top, hexec, d3', Value.category]
  exact X₁.ldcStringW hexec (own := own) (text := text) (index := is) (a := sa) hown' hstr'.1 hstr'.2
    (g := { method := m, pc := pc + 4, locals := ls, stack := .ref T.heap.size :: .ref T.heap.size :: rest, locked := none }) rfl d4' _ hsteps
end Ends
section Bodies
variable {l : Launch}
theorem vx_ofW {y : MethodName} {ws ws' : List Cond} {rm : Room} {Pc : Array Value → State → Prop} {Qc : Array Value → State → Outcome → State → Prop} {XC : String → State → State → Prop} {mc ms : Nat} {free : Addr → Prop} {cc : ByteArray} {maxL : Nat} {ret : Option FieldType}
    (hy : plainName y.cls = true) (hw : ws = Cond.code y cc maxL ret :: ws')
    (body : ∀ p e s m args below meth c s₁, BodyLoose p l y (headSpec ws rm) cc maxL ret e s m args below meth c s₁ → c.maxLocals = maxL → (∀ x ∈ c.exceptionTable.toList, False) → Pc args s →
      W p l e (headSpec ws rm).room s m args below meth c s.heap [] 0 0 (vx_MQ below Qc XC args s mc ms free) (entryFrame m args maxL)) : vx_Met l y ws rm Pc Qc XC mc ms free := by
  refine MetFree.of_bodyS (code := cc) (maxLocals := maxL) (ret := ret) hy ?_ ?_
  · intro args s m h hn
    obtain ⟨meth, c, h1, h2, h3, h4, h5, h6, -, -⟩ := Cond.code_spec hn (atoms_spec (ws := ws) h _ (by rw [hw]; exact List.mem_cons_self))
    exact ⟨meth, c, h1, h2, h3, h4, h5, h6⟩
  · intro p e s m args below meth c s₁ B hml hP _
    have hh0 : s₁.heap = s.heap := by rw [B.state]; rfl
    have ht : ∀ x ∈ c.exceptionTable.toList, False := by
      obtain ⟨meth9, c9, h1, h2, -, -, -, -, h7, -⟩ := Cond.code_spec B.named (atoms_spec (ws := ws) B.pre _ (by rw [hw]; exact List.mem_cons_self))
      cases Option.some.inj (h1.symm.trans B.method)
      cases Option.some.inj (h2.symm.trans (Stand.of_body B).code)
      intro x hx
      rw [Array.isEmpty_iff.mp h7] at hx
      cases hx
    obtain ⟨t, a1, o, b1, b2, b3⟩ := body p e s m args below meth c s₁ B hml ht hP s₁ hh0 (Stand.of_body B)
    exact ⟨t, o, a1, b1, b2, b3⟩
/-- the table of a body with handlers -/
theorem vx_table {p : Program} {x y : MethodName} {S : Spec} {cc bytes : ByteArray} {maxL maxL' : Nat} {ret ret' : Option FieldType} {e : Env} {s s₁ : State} {m : MethodId} {args : Array Value} {below : List Frame} {meth : Method} {c : Code} {hh : List (Nat × Nat × Nat × Nat)}
    (B : BodyLoose p l y S cc maxL ret e s m args below meth c s₁) (h : (Cond.codeWith y bytes maxL' ret' hh).before args s = true) : c.exceptionTable.toList = tableOf hh := by
  obtain ⟨m9, meth9, c9, hn9, h1, h2, -, -, h6, -⟩ := Cond.codeWith_spec h
  cases Option.some.inj (hn9.symm.trans B.named)
  cases Option.some.inj (h1.symm.trans B.method)
  cases Option.some.inj (h2.symm.trans (Stand.of_body B).code)
  rw [← h6, table_eq]
end Bodies
end VXA
/-! ===== END ===== -/
/-! ===== BEGIN a static call of a method with an exception table ===== -/
section VXS
variable {p : Program} {l : Launch} {e : Env} {R : Room} {s : State} {m : MethodId} {args : Array Value} {below : List Frame} {meth : Method} {c : Code} {T : State} {H : Heap} {locs : List Loc} {cells slots : Nat}
abbrev vx_CSW (R : Room) (s : State) (args : Array Value) (own : String) (index : Nat) (y : MethodName) (bytes : ByteArray) (maxL : Nat) (ret : Option FieldType) (hh : List (Nat × Nat × Nat × Nat)) (ws : List Cond) (rm : Room) (mc ms n : Nat) : Prop :=
  (rm.cells = mc ∧ rm.slots = ms ∧ rm.frames + 1 ≤ R.frames ∧ 8 + (maxL + 11) + rm.locals ≤ R.locals ∧ (∀ w ∈ ws, ∀ (a' : Array Value) (U : State), s.WarmedH U.vm → w.before a' U = true) ∧ Cond.codeWith y bytes maxL ret hh ∈ ws) ∧
  (Cond.codeWith y bytes maxL ret hh).before args s = true ∧ (Cond.initialized y.cls).before args s = true ∧ (y.cls ≠ "java/lang/invoke/MethodHandle" ∧ y.cls ≠ "java/lang/invoke/VarHandle") ∧
  (∀ sig, parseMethodDescriptor y.desc = some sig → n = sig.parameters.length) ∧ (Cond.methodLink own index y).before args s = true ∧ (Cond.static y).before args s = true
theorem vx_cwSW {own : String} {index maxL mc ms : Nat} {y : MethodName} {bytes : ByteArray} {ret : Option FieldType} {hh : List (Nat × Nat × Nat × Nat)} {Ts ws ws' : List Cond} {rm : Room} (n : Nat) (ht : ∀ w ∈ Ts, w.before args s = true) (hT : GoodIn Ts (va_wsS own index y ws)) (hw : ws = Cond.codeWith y bytes maxL ret hh :: ws') (hrc : rm.cells = mc) (hrs : rm.slots = ms)
    (hd : y.cls ≠ "java/lang/invoke/MethodHandle" ∧ y.cls ≠ "java/lang/invoke/VarHandle" ∧ (parseMethodDescriptor y.desc).map (fun d => d.parameters.length) = some n) (hR : rm.frames + 1 ≤ R.frames ∧ 8 + (maxL + 11) + rm.locals ≤ R.locals) :
    vx_CSW R s args own index y bytes maxL ret hh ws rm mc ms n := by
  have ok : ∀ w ∈ va_wsS own index y ws, w.before args s = true := fun w h => ht w (hT w h).1
  have hG : GoodIn Ts ws := fun w h => hT w (by unfold va_wsS; exact List.mem_append_right _ h)
  have hc : Cond.codeWith y bytes maxL ret hh ∈ ws := by rw [hw]; exact List.mem_cons_self
  refine ⟨⟨hrc, hrs, hR.1, hR.2, pay_in ht hG, hc⟩, ht _ (hG _ hc).1, ok _ (by simp [va_wsS]), ⟨hd.1, hd.2.1⟩, fun sig h => ?_, ok _ (by simp [va_wsS]), ok _ (by simp [va_wsS])⟩
  have h2 := hd.2.2
  rw [h] at h2
  exact (Option.some.inj h2).symm
theorem vx_callSW (X : Stand p l e R s m args below meth c T locs cells slots) (hexec : p.tables.exec = Jvm.exec) {own : String} {index : Nat} {y : MethodName} {bytes : ByteArray} {maxL : Nat} {ret : Option FieldType} {hh : List (Nat × Nat × Nat × Nat)}
    (hown : s.vm.findClass own = some m.cls) (hlink : (Cond.methodLink own index y).before args s = true) (hstat : (Cond.static y).before args s = true) (hinit : (Cond.initialized y.cls).before args s = true)
    (hcode : (Cond.codeWith y bytes maxL ret hh).before args s = true) (hy : y.cls ≠ "java/lang/invoke/MethodHandle" ∧ y.cls ≠ "java/lang/invoke/VarHandle")
    {W9 : Nat} {Pre : Pt → Array Value → Prop} {Post : Pt → Array Value → Option Value → Pt → Prop} (hK : Back l R p e below s args y 3 W9 Pre Post)
    {g : JFrame} (hg : g.method = m) (hsize : g.locals.size = c.maxLocals) {argsL rest : List Value} (hlen : ∀ sig, parseMethodDescriptor y.desc = some sig → argsL.length = sig.parameters.length)
    (hstack : g.stack = argsL.reverse ++ rest) (hW : 2 * g.monitorRoom + (rest.map fun v => v.category).sum ≤ W9) (hdg : decode c.code g.pc = .ok (.invokestatic index, 3))
    (hpre : ∀ vm₁, s.WarmedH vm₁ → Pre ⟨T.setVm vm₁, locs, cells, slots⟩ argsL.toArray) :
    ∃ (v : Option Value) (vm₁ : Vm) (B : Pt), s.WarmedH vm₁ ∧ Stand p l e R s m args below meth c B.U B.locs B.cells B.slots ∧ Post ⟨T.setVm vm₁, locs, cells, slots⟩ argsL.toArray v B ∧
      ∀ target, Steps p.tables e below (B.U.setTop { g with pc := g.pc + 3, stack := v.toList ++ rest }) target → Steps p.tables e below (T.setTop g) target := by
  obtain ⟨mk, methM, cM, hnamed, hmethM, -, -, -, -, -, -, hsigM⟩ := Cond.codeWith_spec hcode
  have hstatic : methM.isStatic = true := Cond.static_spec hnamed hmethM hstat
  obtain ⟨kP, hkP, -⟩ := className_of_methodNamed hnamed
  have hinitP : kP.init = .initialized := Cond.initialized_spec (findClass_of_methodNamed hnamed) hkP hinit
  obtain ⟨vm₁, X₁, hstep₁⟩ := X.invokestatic hexec hown hlink hnamed hmethM hstatic hkP hinitP hy (g := g) hg (argsL := argsL) (rest := rest) (hlen _ hsigM) hstack hdg
  obtain ⟨v, B, X', hpost, hsteps⟩ := hK m meth c ⟨T.setVm vm₁, locs, cells, slots⟩ { g with stack := rest } (.invokestatic index) mk argsL.toArray X₁ hg hsize hdg hW (X₁.named hnamed) (hpre vm₁ X₁.warmed)
  exact ⟨v, vm₁, B, X₁.warmed, X', hpost, fun target h => hstep₁ _ fun acts => by rw [doInvoke_state]; exact hsteps.trans h⟩
theorem vx_runSW {y : MethodName} {bytes cc : ByteArray} {maxL nL mc ms n index : Nat} {ret : Option FieldType} {hh : List (Nat × Nat × Nat × Nat)} {ws : List Cond} {rm : Room} {Pc : Array Value → State → Prop} {Qc : Array Value → State → Outcome → State → Prop} {free : Addr → Prop} {Ts : List Cond} {own : String} {As rest : List Value} {g : JFrame}
    (S : CallFix p m c cc nL s args Ts own) (hM : Met l y ws rm Pc Qc mc ms free) (cw : vx_CSW R s args own index y bytes maxL ret hh ws rm mc ms n) (hp : PreS s H Pc As)
    (hg : g.method = m) (hn : As.length = n) (hsize : g.locals.size = nL) (hstack : g.stack = As.reverse ++ rest) (hW : 2 * g.monitorRoom + (rest.map fun v => v.category).sum ≤ 8) (hdg : decode cc g.pc = .ok (.invokestatic index, 3)) (hf : cells + mc ≤ R.cells ∧ slots + ms ≤ R.slots) :
    va_Run p l e R s m args below meth c H locs cells slots mc ms g rest (Qc As.toArray) (free) := by
  obtain ⟨⟨hrc, hrs, hfr, hlo, hws, hcw⟩, hcode, hini, hy, hlen, hl, hstt⟩ := cw
  have hK : Back l R p e below s args y 3 8 (PreOf R mc ms Pc) (PostOf Qc mc ms free) := va_backW (hh := hh) (bytes := bytes) (maxL := maxL) (ret := ret) hM hp.1 hrc hrs hfr hlo hws hcw (fun a' U hW => word_at hW (Or.inl (by first | rfl | simp [Cond.onTables, Cond.keeps, Cond.steady])) hini)
  obtain ⟨hx, hb, hml, ho, -⟩ := S
  intro T hT X
  obtain ⟨v, vm₁, ⟨U', l2, c2, s2⟩, hW₁, X', ⟨g', mk, t, L, e1, e2, hq, h1, hL, h2, h3⟩, st⟩ := vx_callSW X hx (hh := hh) (bytes := bytes) (maxL := maxL) (ret := ret) ho hl hstt hini hcode hy hK hg (hsize.trans hml.symm) (argsL := As) (rest := rest) (fun sig h => hn.trans (hlen sig h)) hstack hW (by rw [hb]; exact hdg)
    (fun vm₁ hW₁ => ⟨hf.1, hf.2, hp.2 (T.setVm vm₁) hT hW₁⟩)
  dsimp only [Pt.U, Pt.locs, Pt.cells, Pt.slots] at X' e1 e2 h1 h2 h3 st
  subst h1; subst h2; subst h3
  exact ⟨v, (T.setVm vm₁).calling g' mk As.toArray, t, U', L, hT, X', hL, e1, e2, hq, st⟩
/-- not caught here, past rows that name other classes: it goes on to the caller -/
theorem vx_outP {p : Program} {l : Launch} {e : Env} {R : Room} {s : State} {m : MethodId} {args : Array Value} {below : List Frame} {meth : Method} {c : Code} {H : Heap} {locs : List Loc} {cells slots : Nat} {free : Addr → Prop} {ls : Array Slot} {rest : List Value} {Qc : Array Value → State → Outcome → State → Prop} {XC : String → State → State → Prop}
    {pc : Nat} {own E : String} {ce : Cell} {q : Addr} {mc ms : Nat} (hown : s.vm.findClass own = some m.cls) (hlocks : meth.locks = false)
    (hpass : ∀ z ∈ c.exceptionTable.toList, covers z pc = false ∨ (z.catchType ≠ 0 ∧ ∃ nm : String, (Cond.classLink own z.catchType nm).before args s = true ∧ va_Nc E nm s)) (hcell : H[q]? = some ce) (hv : ce.vm = .none) (hcl : s.vm.findClass E = some ce.cls)
    (hx : ∀ t : State, t.heap = H → s.vm.Alike t.vm → XC E s t) (hf : ∀ z ∈ locs, free z.base) (hc : cells ≤ mc) (hs : slots ≤ ms) :
    vx_W p l e R s m args below meth c H locs cells slots (vx_MQ below Qc XC args s mc ms free) (F0 m pc ls rest) q := by
  intro T hT X
  have hpl : e.platform.magicAccessors = ({} : Platform).magicAccessors := by rw [X.admits.platform]
  obtain ⟨vm', hW', X', st⟩ := X.outThrough hlocks q (g := F0 m pc ls rest) rfl rfl rfl (cell := ce) (by rw [hT]; exact hcell) (by rw [hv]; rfl)
    (by obtain ⟨k9, h9, -⟩ := Vm.findClass_spec hcl; exact ⟨k9, h9⟩) (fun z hz => by
      rcases hpass z hz with h | ⟨hz0, nm, hl1, hn1⟩
      · exact Or.inl h
      · obtain ⟨c6, hc6, hcl6⟩ := Cond.classLink_spec hown hl1 e.platform hpl
        obtain ⟨a8, b8, h1, h2, h3⟩ := hn1
        cases Option.some.inj (h1.symm.trans hcl)
        cases Option.some.inj (h2.symm.trans hc6)
        exact Or.inr ⟨hz0, _, hcl6, h3⟩)
  obtain ⟨g₀, hfr⟩ := X'.frames_eq
  have hcell9 : ((T.setVm vm').setFrames (.throwing q :: below)).heap[q]? = some ce := by
    show T.heap[q]? = some ce
    rw [hT]; exact hcell
  have hend : Ended ((T.setVm vm').setFrames (.throwing q :: below)) below (.threw q) := State.frames_setFrames _ (State.cur_lt_of_frames hfr)
  refine ⟨(T.setVm vm').setFrames (.throwing q :: below), ?_, .threw q, X'.here.running, hend, Or.inr ⟨q, rfl, E, ce, locs, hx _ hT (X'.ends _).1.alike, hcell9, hv, hcl, (X'.ends _).1, (X'.ends _).2.mono hc hs, hf⟩⟩
  rw [X.pushThrowing_eq]
  exact st
/-- a thing of a world lies in the heap -/
theorem vx_lt {D : va_G} {cl : List vw_C} {ws : va_W} {H1 : Heap} (h : va_P D cl ws H1) {k : Nat} {q : Nat × va_E} (hk : ws[k]? = some q) : q.1 < H1.size := (h k q hk).lt
end VXS
/-! ===== END ===== -/
/-! ===== BEGIN methods with a table of their own: called by a name, returning or throwing ===== -/
section VXH
/-! vx_backW, vx_callVX, vx_callSX, vx_callVW, vx_runVW, vx_runVX, vx_runSX, vx_ofWH follow the same proofs as their sisters above (Free/Laws.lean, Shelf42/LK1.lean); vx_outP calls Shelf42/NT130.lean (outThrough). -/
section
variable {l : Launch} {R : Room} {p : Program} {e : Env} {below : List Frame} {s : State} {sargs : Array Value} {y : MethodName} {len W9 : Nat}
theorem vx_backW {ws : List Cond} {rm : Room} {Pc : Array Value → State → Prop} {Qc : Array Value → State → Outcome → State → Prop} {XC : String → State → State → Prop} {mc ms : Nat} {free : Addr → Prop} {bytes : ByteArray} {maxL : Nat} {ret : Option FieldType} {hh : List (Nat × Nat × Nat × Nat)}
    (hM : vx_Met l y ws rm Pc Qc XC mc ms free) (hblind : FrameBlind Pc) (hrc : rm.cells = mc) (hrs : rm.slots = ms)
    (hframes : rm.frames + 1 ≤ R.frames) (hlocals : W9 + (maxL + 11) + rm.locals ≤ R.locals)
    (hws : ∀ w ∈ ws, ∀ a' U, s.WarmedH U.vm → w.before a' U = true) (hcode : Cond.codeWith y bytes maxL ret hh ∈ ws) (hinit : ∀ a' U, s.WarmedH U.vm → (Cond.initialized y.cls).before a' U = true) :
    vx_Back l R p e below s sargs y len W9 (PreOf R mc ms Pc) (PostOf Qc mc ms free) (vx_Post XC mc ms free) := by
  intro m meth c A g ig mk a X hg hsize hdg hW hn hp
  have h1 : (headSpec ws rm).pre.before a A.U = true := atoms_intro fun w hw => hws w hw _ _ X.warmed
  have h2 : (Cond.codeWith y bytes maxL ret hh).before a A.U = true := hws _ hcode _ _ X.warmed
  have h3 : (Cond.initialized y.cls).before a A.U = true := hinit _ _ X.warmed
  have h4 : A.cells + (headSpec ws rm).room.cells ≤ R.cells := by rw [show (headSpec ws rm).room.cells = mc from hrc]; exact hp.1
  have h5 : A.slots + (headSpec ws rm).room.slots ≤ R.slots := by rw [show (headSpec ws rm).room.slots = ms from hrs]; exact hp.2.1
  have hPc : Pc a (A.U.calling g mk a) := hblind _ _ _ _ hp.2.2
  obtain ⟨U, Ls, c0, s0⟩ := A
  dsimp only [Pt.U, Pt.locs, Pt.cells, Pt.slots] at h1 h2 h3 h4 h5 X hn hPc ⊢
  obtain ⟨m9, methY, cY, hn9, hmY, hcY, -, hlY, -⟩ := Cond.codeWith_spec h2
  cases Option.some.inj (hn9.symm.trans hn)
  obtain ⟨kY, hkY, -⟩ := className_of_methodNamed hn
  have hinitY : kY.init = .initialized := Cond.initialized_spec (findClass_of_methodNamed hn) hkY h3
  have h : At U g.method c below := by rw [hg]; exact X.here
  have hlocals9 : W9 + (maxL + 11) + (headSpec ws rm).room.locals ≤ R.locals := hlocals
  have happ : (headSpec ws rm).appliesLoose y e.platform (U.calling g mk a) = true :=
    Spec.appliesLoose_calling (g := g) h hdg hn hkY hinitY
      (X.room_calling (g := g) (R' := (headSpec ws rm).room) hsize hmY hcY hframes (by rw [hlY]; omega) h4 h5) h1
  obtain ⟨mid, hmid⟩ := h.above
  have hfr : (U.setTop g).frames = (.java g :: mid) ++ below := by rw [State.frames_setTop' g h.top, hmid]; rfl
  obtain ⟨o, s₂, hsteps, -, hend, hq⟩ := Steps.callFree hM p X.admits X.cas X.clock (acts := []) hfr happ hPc trivial
  have hq' : vx_Q Qc XC mc ms free a (U.calling g mk a) o s₂ := hq
  rw [State.frames_setTop' g h.top] at hend
  obtain ⟨g₀, hg0⟩ := Option.isSome_iff_exists.mp h.top
  obtain ⟨r, hr⟩ := State.topJava?_eq_some.mp hg0
  have hr' : (({ U with heap := s₂.heap, slotsUsed := s₂.slotsUsed } : State).setVm s₂.vm).frames = .java g₀ :: r := hr
  rcases hq' with ⟨hqc, L, hfe, hL⟩ | ⟨q, rfl, E, ce, L, hx, hce, hcv, hcl, hW₂, hsm, hL⟩
  · obtain ⟨⟨v, rfl⟩, hW₂, e2, q2, q3, q4, q5, q6⟩ := id hfe
    have e3 : s₂ = ({ (U.calling g mk a).setFrames s₂.frames with heap := s₂.heap, slotsUsed := s₂.slotsUsed } : State).setVm s₂.vm := by
      have : s₂ = ({ s₂ with vm := (U.calling g mk a).vm } : State).setVm s₂.vm := rfl
      rw [e2] at this
      exact this
    obtain ⟨c₂, i₂, len₂, hc₂, hd₂, hf₂⟩ := hend
    have hW' : U.WarmedH s₂.vm := hW₂
    have hcc : c₂ = c := by
      have h1 : s₂.code? g.method = U.code? g.method := by
        rw [State.code?_eq, State.code?_eq, hW'.alike.method?]
      exact Option.some.inj (hc₂.symm.trans (h1.trans h.code))
    subst hcc
    have hlen : len₂ = len := by rw [hdg] at hd₂; cases hd₂; rfl
    subst hlen
    have hs₂ : s₂ = (({ U with heap := s₂.heap, slotsUsed := s₂.slotsUsed } : State).setVm s₂.vm).setTop { g with pc := g.pc + len₂, stack := v.toList ++ g.stack } := by
      refine e3.trans ?_
      rw [hf₂, State.calling_eq h.top, State.setFrames_setFrames, State.setTop_of_frames _ hr', hr]
      rfl
    have hsame : U.sameButNew ({ U with heap := s₂.heap, slotsUsed := s₂.slotsUsed } : State) L mc ms := by
      refine ⟨?_, q2, q3, q4, q5, q6⟩
      obtain ⟨t, ht, -⟩ := State.frames_cons hr
      show ({ U with heap := s₂.heap, slotsUsed := s₂.slotsUsed } : State) = { U.setFrames U.frames with heap := s₂.heap, slotsUsed := s₂.slotsUsed }
      rw [State.setFrames_self ht]
    subst hg
    refine Or.inl ⟨v, ⟨(({ U with heap := s₂.heap, slotsUsed := s₂.slotsUsed } : State).setVm s₂.vm), Ls ++ L, c0 + mc, s0 + ms⟩,
      ⟨X.admits, X.cas, X.clock, X.frames, X.room, X.hears, X.method, X.code, (X.here.setHeapUsed s₂.heap s₂.slotsUsed).setVm hW'.alike, X.tail, State.WarmedH.trans X.warmed hW', X.limits, X.bytes, X.same.trans (hsame.setVm s.vm)⟩,
      ⟨g, mk, s₂, L, rfl, rfl, hqc, rfl, hL, rfl, rfl⟩, ?_⟩
    show Steps p.tables e below _ ((({ U with heap := s₂.heap, slotsUsed := s₂.slotsUsed } : State).setVm s₂.vm).setTop { g with pc := g.pc + len₂, stack := v.toList ++ g.stack })
    rw [← hs₂]
    exact hsteps
  · obtain ⟨e2, q2, q3, q4, q5, q6⟩ := id hsm
    have e3 : s₂ = ({ (U.calling g mk a).setFrames s₂.frames with heap := s₂.heap, slotsUsed := s₂.slotsUsed } : State).setVm s₂.vm := by
      have : s₂ = ({ s₂ with vm := (U.calling g mk a).vm } : State).setVm s₂.vm := rfl
      rw [e2] at this
      exact this
    have hf₂ : s₂.frames = .throwing q :: .java g :: U.frames.tail := hend
    have hW' : U.WarmedH s₂.vm := hW₂
    have hs₂ : s₂ = ((({ U with heap := s₂.heap, slotsUsed := s₂.slotsUsed } : State).setVm s₂.vm).setTop g).pushFrame (.throwing q) := by
      refine e3.trans ?_
      rw [hf₂, State.calling_eq h.top, State.setFrames_setFrames, State.pushFrame, State.frames_setTop _ hr', State.setTop_of_frames _ hr', State.setFrames_setFrames, hr]
      rfl
    have hsame : U.sameButNew ({ U with heap := s₂.heap, slotsUsed := s₂.slotsUsed } : State) L mc ms := by
      refine ⟨?_, q2, q3, q4, q5, q6⟩
      obtain ⟨t, ht, -⟩ := State.frames_cons hr
      show ({ U with heap := s₂.heap, slotsUsed := s₂.slotsUsed } : State) = { U.setFrames U.frames with heap := s₂.heap, slotsUsed := s₂.slotsUsed }
      rw [State.setFrames_self ht]
    subst hg
    refine Or.inr ⟨q, ⟨(({ U with heap := s₂.heap, slotsUsed := s₂.slotsUsed } : State).setVm s₂.vm), Ls ++ L, c0 + mc, s0 + ms⟩,
      ⟨X.admits, X.cas, X.clock, X.frames, X.room, X.hears, X.method, X.code, (X.here.setHeapUsed s₂.heap s₂.slotsUsed).setVm hW'.alike, X.tail, State.WarmedH.trans X.warmed hW', X.limits, X.bytes, X.same.trans (hsame.setVm s.vm)⟩,
      ⟨g, mk, s₂, L, E, ce, rfl, rfl, hx, hce, hcv, hcl, rfl, hL, rfl, rfl⟩, ?_⟩
    show Steps p.tables e below _ (((({ U with heap := s₂.heap, slotsUsed := s₂.slotsUsed } : State).setVm s₂.vm).setTop g).pushFrame (.throwing q))
    rw [← hs₂]
    exact hsteps
end
variable {p : Program} {l : Launch} {e : Env} {R : Room} {s : State} {m : MethodId} {args : Array Value} {below : List Frame} {meth : Method} {c : Code} {T : State} {H : Heap} {locs : List Loc} {cells slots : Nat}
theorem vx_callVX (X : Stand p l e R s m args below meth c T locs cells slots) (hexec : p.tables.exec = Jvm.exec) {own C : String} {index : Nat} {y : MethodName} {bytes : ByteArray} {maxL : Nat} {ret : Option FieldType} {hh : List (Nat × Nat × Nat × Nat)}
    (hown : s.vm.findClass own = some m.cls) (hlink : (Cond.methodLink own index y).before args s = true) (hinst : (Cond.instanceMethod y).before args s = true) (hsel : (Cond.selects C y y).before args s = true)
    (hcode : (Cond.codeWith y bytes maxL ret hh).before args s = true) (hy : y.cls ≠ "java/lang/invoke/MethodHandle" ∧ y.cls ≠ "java/lang/invoke/VarHandle")
    {W9 : Nat} {Pre : Pt → Array Value → Prop} {Post : Pt → Array Value → Option Value → Pt → Prop} {PostX : Pt → Array Value → Addr → Pt → Prop} (hK : vx_Back l R p e below s args y 3 W9 Pre Post PostX)
    {b : Addr} {cellB : Cell} (hcell : T.heap[b]? = some cellB) (hobj : cellB.vm.isStatics = false) (hcls : s.vm.findClass C = some cellB.cls)
    {g : JFrame} (hg : g.method = m) (hsize : g.locals.size = c.maxLocals) {argsL rest : List Value} (hlen : ∀ sig, parseMethodDescriptor y.desc = some sig → argsL.length = sig.parameters.length)
    (hstack : g.stack = argsL.reverse ++ .ref b :: rest) (hW : 2 * g.monitorRoom + (rest.map fun v => v.category).sum ≤ W9) (hdg : decode c.code g.pc = .ok (.invokevirtual index, 3))
    (hpre : ∀ vm₁, s.WarmedH vm₁ → Pre ⟨T.setVm vm₁, locs, cells, slots⟩ (Value.ref b :: argsL).toArray) :
    (∃ (v : Option Value) (vm₁ : Vm) (B : Pt), s.WarmedH vm₁ ∧ Stand p l e R s m args below meth c B.U B.locs B.cells B.slots ∧ Post ⟨T.setVm vm₁, locs, cells, slots⟩ (Value.ref b :: argsL).toArray v B ∧
      ∀ target, Steps p.tables e below (B.U.setTop { g with pc := g.pc + 3, stack := v.toList ++ rest }) target → Steps p.tables e below (T.setTop g) target) ∨
    (∃ (q : Addr) (vm₁ : Vm) (B : Pt), s.WarmedH vm₁ ∧ Stand p l e R s m args below meth c B.U B.locs B.cells B.slots ∧ PostX ⟨T.setVm vm₁, locs, cells, slots⟩ (Value.ref b :: argsL).toArray q B ∧
      Steps p.tables e below (T.setTop g) ((B.U.setTop { g with stack := rest }).pushFrame (.throwing q))) := by
  obtain ⟨mk, methM, hnamed, hmethM, hstM, habM⟩ := Cond.instanceMethod_spec hinst
  obtain ⟨m8, methM', cM, hn8, hmethM', -, -, -, -, -, -, hsigM⟩ := Cond.codeWith_spec hcode
  cases Option.some.inj (hn8.symm.trans hnamed)
  cases hmethM.symm.trans hmethM'
  obtain ⟨c2, r2, m2, q1, q2, q3, q4, kP, hkP, hkPi⟩ := Cond.selects_spec hsel
  cases hcls.symm.trans q1
  cases (State.methodFound?_of_named hnamed hy).symm.trans q2
  cases hnamed.symm.trans q3
  have hselP : selectMethod e.platform s.vm cellB.cls mk = .method mk := by rw [Launch.admits_selectMethod X.admits]; exact q4
  obtain ⟨vm₁, X₁, hstep₁⟩ := X.invokevirtual hexec hown hlink hnamed hmethM hstM hkP hkPi hy (a := b) (cell := cellB) hcell
    (fun z h => by rw [h] at hobj; cases hobj) hselP hmethM habM hkP hkPi (g := g) hg (argsL := argsL) (rest := rest) (hlen _ hsigM) hstack hdg
  rcases hK m meth c ⟨T.setVm vm₁, locs, cells, slots⟩ { g with stack := rest } (.invokevirtual index) mk (Value.ref b :: argsL).toArray X₁ hg hsize hdg hW (X₁.named hnamed) (hpre vm₁ X₁.warmed) with ⟨v, B, X', hpost, hsteps⟩ | ⟨q, B, X', hpost, hsteps⟩
  · exact Or.inl ⟨v, vm₁, B, X₁.warmed, X', hpost, fun target h => hstep₁ _ fun acts => by rw [doInvoke_state]; exact hsteps.trans h⟩
  · exact Or.inr ⟨q, vm₁, B, X₁.warmed, X', hpost, hstep₁ _ fun acts => by rw [doInvoke_state]; exact hsteps⟩
theorem vx_callSX (X : Stand p l e R s m args below meth c T locs cells slots) (hexec : p.tables.exec = Jvm.exec) {own : String} {index : Nat} {y : MethodName} {bytes : ByteArray} {maxL : Nat} {ret : Option FieldType} {hh : List (Nat × Nat × Nat × Nat)}
    (hown : s.vm.findClass own = some m.cls) (hlink : (Cond.methodLink own index y).before args s = true) (hstat : (Cond.static y).before args s = true) (hinit : (Cond.initialized y.cls).before args s = true)
    (hcode : (Cond.codeWith y bytes maxL ret hh).before args s = true) (hy : y.cls ≠ "java/lang/invoke/MethodHandle" ∧ y.cls ≠ "java/lang/invoke/VarHandle")
    {W9 : Nat} {Pre : Pt → Array Value → Prop} {Post : Pt → Array Value → Option Value → Pt → Prop} {PostX : Pt → Array Value → Addr → Pt → Prop} (hK : vx_Back l R p e below s args y 3 W9 Pre Post PostX)
    {g : JFrame} (hg : g.method = m) (hsize : g.locals.size = c.maxLocals) {argsL rest : List Value} (hlen : ∀ sig, parseMethodDescriptor y.desc = some sig → argsL.length = sig.parameters.length)
    (hstack : g.stack = argsL.reverse ++ rest) (hW : 2 * g.monitorRoom + (rest.map fun v => v.category).sum ≤ W9) (hdg : decode c.code g.pc = .ok (.invokestatic index, 3))
    (hpre : ∀ vm₁, s.WarmedH vm₁ → Pre ⟨T.setVm vm₁, locs, cells, slots⟩ argsL.toArray) :
    (∃ (v : Option Value) (vm₁ : Vm) (B : Pt), s.WarmedH vm₁ ∧ Stand p l e R s m args below meth c B.U B.locs B.cells B.slots ∧ Post ⟨T.setVm vm₁, locs, cells, slots⟩ argsL.toArray v B ∧
      ∀ target, Steps p.tables e below (B.U.setTop { g with pc := g.pc + 3, stack := v.toList ++ rest }) target → Steps p.tables e below (T.setTop g) target) ∨
    (∃ (q : Addr) (vm₁ : Vm) (B : Pt), s.WarmedH vm₁ ∧ Stand p l e R s m args below meth c B.U B.locs B.cells B.slots ∧ PostX ⟨T.setVm vm₁, locs, cells, slots⟩ argsL.toArray q B ∧
      Steps p.tables e below (T.setTop g) ((B.U.setTop { g with stack := rest }).pushFrame (.throwing q))) := by
  obtain ⟨mk, methM, cM, hnamed, hmethM, -, -, -, -, -, -, hsigM⟩ := Cond.codeWith_spec hcode
  have hstatic : methM.isStatic = true := Cond.static_spec hnamed hmethM hstat
  obtain ⟨kP, hkP, -⟩ := className_of_methodNamed hnamed
  have hinitP : kP.init = .initialized := Cond.initialized_spec (findClass_of_methodNamed hnamed) hkP hinit
  obtain ⟨vm₁, X₁, hstep₁⟩ := X.invokestatic hexec hown hlink hnamed hmethM hstatic hkP hinitP hy (g := g) hg (argsL := argsL) (rest := rest) (hlen _ hsigM) hstack hdg
  rcases hK m meth c ⟨T.setVm vm₁, locs, cells, slots⟩ { g with stack := rest } (.invokestatic index) mk argsL.toArray X₁ hg hsize hdg hW (X₁.named hnamed) (hpre vm₁ X₁.warmed) with ⟨v, B, X', hpost, hsteps⟩ | ⟨q, B, X', hpost, hsteps⟩
  · exact Or.inl ⟨v, vm₁, B, X₁.warmed, X', hpost, fun target h => hstep₁ _ fun acts => by rw [doInvoke_state]; exact hsteps.trans h⟩
  · exact Or.inr ⟨q, vm₁, B, X₁.warmed, X', hpost, hstep₁ _ fun acts => by rw [doInvoke_state]; exact hsteps⟩
theorem vx_callVW (X : Stand p l e R s m args below meth c T locs cells slots) (hexec : p.tables.exec = Jvm.exec) {own C : String} {index : Nat} {y : MethodName} {bytes : ByteArray} {maxL : Nat} {ret : Option FieldType} {hh : List (Nat × Nat × Nat × Nat)}
    (hown : s.vm.findClass own = some m.cls) (hlink : (Cond.methodLink own index y).before args s = true) (hinst : (Cond.instanceMethod y).before args s = true) (hsel : (Cond.selects C y y).before args s = true)
    (hcode : (Cond.codeWith y bytes maxL ret hh).before args s = true) (hy : y.cls ≠ "java/lang/invoke/MethodHandle" ∧ y.cls ≠ "java/lang/invoke/VarHandle")
    {W9 : Nat} {Pre : Pt → Array Value → Prop} {Post : Pt → Array Value → Option Value → Pt → Prop} (hK : Back l R p e below s args y 3 W9 Pre Post)
    {b : Addr} {cellB : Cell} (hcell : T.heap[b]? = some cellB) (hobj : cellB.vm.isStatics = false) (hcls : s.vm.findClass C = some cellB.cls)
    {g : JFrame} (hg : g.method = m) (hsize : g.locals.size = c.maxLocals) {argsL rest : List Value} (hlen : ∀ sig, parseMethodDescriptor y.desc = some sig → argsL.length = sig.parameters.length)
    (hstack : g.stack = argsL.reverse ++ .ref b :: rest) (hW : 2 * g.monitorRoom + (rest.map fun v => v.category).sum ≤ W9) (hdg : decode c.code g.pc = .ok (.invokevirtual index, 3))
    (hpre : ∀ vm₁, s.WarmedH vm₁ → Pre ⟨T.setVm vm₁, locs, cells, slots⟩ (Value.ref b :: argsL).toArray) :
    ∃ (v : Option Value) (vm₁ : Vm) (B : Pt), s.WarmedH vm₁ ∧ Stand p l e R s m args below meth c B.U B.locs B.cells B.slots ∧ Post ⟨T.setVm vm₁, locs, cells, slots⟩ (Value.ref b :: argsL).toArray v B ∧
      ∀ target, Steps p.tables e below (B.U.setTop { g with pc := g.pc + 3, stack := v.toList ++ rest }) target → Steps p.tables e below (T.setTop g) target := by
  obtain ⟨mk, methM, hnamed, hmethM, hstM, habM⟩ := Cond.instanceMethod_spec hinst
  obtain ⟨m8, methM', cM, hn8, hmethM', -, -, -, -, -, -, hsigM⟩ := Cond.codeWith_spec hcode
  cases Option.some.inj (hn8.symm.trans hnamed)
  cases hmethM.symm.trans hmethM'
  obtain ⟨c2, r2, m2, q1, q2, q3, q4, kP, hkP, hkPi⟩ := Cond.selects_spec hsel
  cases hcls.symm.trans q1
  cases (State.methodFound?_of_named hnamed hy).symm.trans q2
  cases hnamed.symm.trans q3
  have hselP : selectMethod e.platform s.vm cellB.cls mk = .method mk := by rw [Launch.admits_selectMethod X.admits]; exact q4
  obtain ⟨vm₁, X₁, hstep₁⟩ := X.invokevirtual hexec hown hlink hnamed hmethM hstM hkP hkPi hy (a := b) (cell := cellB) hcell
    (fun z h => by rw [h] at hobj; cases hobj) hselP hmethM habM hkP hkPi (g := g) hg (argsL := argsL) (rest := rest) (hlen _ hsigM) hstack hdg
  obtain ⟨v, B, X', hpost, hsteps⟩ := hK m meth c ⟨T.setVm vm₁, locs, cells, slots⟩ { g with stack := rest } (.invokevirtual index) mk (Value.ref b :: argsL).toArray X₁ hg hsize hdg hW (X₁.named hnamed) (hpre vm₁ X₁.warmed)
  exact ⟨v, vm₁, B, X₁.warmed, X', hpost, fun target h => hstep₁ _ fun acts => by rw [doInvoke_state]; exact hsteps.trans h⟩
abbrev vx_CVW (R : Room) (s : State) (args : Array Value) (own C : String) (index : Nat) (y : MethodName) (bytes : ByteArray) (maxL : Nat) (ret : Option FieldType) (hh : List (Nat × Nat × Nat × Nat)) (ws : List Cond) (rm : Room) (mc ms n : Nat) : Prop :=
  (rm.cells = mc ∧ rm.slots = ms ∧ rm.frames + 1 ≤ R.frames ∧ 8 + (maxL + 11) + rm.locals ≤ R.locals ∧ (∀ w ∈ ws, ∀ (a' : Array Value) (U : State), s.WarmedH U.vm → w.before a' U = true) ∧ Cond.codeWith y bytes maxL ret hh ∈ ws) ∧
  (Cond.codeWith y bytes maxL ret hh).before args s = true ∧ (Cond.initialized y.cls).before args s = true ∧ (y.cls ≠ "java/lang/invoke/MethodHandle" ∧ y.cls ≠ "java/lang/invoke/VarHandle") ∧
  (∀ sig, parseMethodDescriptor y.desc = some sig → n = sig.parameters.length) ∧ (Cond.methodLink own index y).before args s = true ∧ (Cond.instanceMethod y).before args s = true ∧ (Cond.selects C y y).before args s = true
theorem vx_cwVW {own C : String} {index maxL mc ms : Nat} {y : MethodName} {bytes : ByteArray} {ret : Option FieldType} {hh : List (Nat × Nat × Nat × Nat)} {Ts ws ws' : List Cond} {rm : Room} (n : Nat) (ht : ∀ w ∈ Ts, w.before args s = true) (hT : GoodIn Ts (wsV own index C y ws)) (hw : ws = Cond.codeWith y bytes maxL ret hh :: ws') (hrc : rm.cells = mc) (hrs : rm.slots = ms)
    (hd : y.cls = C ∧ y.cls ≠ "java/lang/invoke/MethodHandle" ∧ y.cls ≠ "java/lang/invoke/VarHandle" ∧ (parseMethodDescriptor y.desc).map (fun d => d.parameters.length) = some n) (hR : rm.frames + 1 ≤ R.frames ∧ 8 + (maxL + 11) + rm.locals ≤ R.locals) :
    vx_CVW R s args own C index y bytes maxL ret hh ws rm mc ms n := by
  obtain ⟨hC, hd⟩ := hd
  subst hC
  have ok : ∀ w ∈ wsV own index y.cls y ws, w.before args s = true := fun w h => ht w (hT w h).1
  have hG : GoodIn Ts ws := fun w h => hT w (by unfold wsV; exact List.mem_append_right _ h)
  have hc : Cond.codeWith y bytes maxL ret hh ∈ ws := by rw [hw]; exact List.mem_cons_self
  refine ⟨⟨hrc, hrs, hR.1, hR.2, pay_in ht hG, hc⟩, ht _ (hG _ hc).1, ok _ (by simp [wsV]), ⟨hd.1, hd.2.1⟩, fun sig h => ?_, ok _ (by simp [wsV]), ok _ (by simp [wsV]), ok _ (by simp [wsV])⟩
  have h2 := hd.2.2
  rw [h] at h2
  exact (Option.some.inj h2).symm
theorem vx_runVW {y : MethodName} {bytes cc : ByteArray} {maxL nL mc ms n index : Nat} {ret : Option FieldType} {hh : List (Nat × Nat × Nat × Nat)} {ws : List Cond} {rm : Room} {Pc : Array Value → State → Prop} {Qc : Array Value → State → Outcome → State → Prop} {free : Addr → Prop} {Ts : List Cond} {own C : String} {b : Addr} {As rest : List Value} {g : JFrame}
    (S : CallFix p m c cc nL s args Ts own) (hM : Met l y ws rm Pc Qc mc ms free) (cw : vx_CVW R s args own C index y bytes maxL ret hh ws rm mc ms n) (hp : PreV s H C b Pc As)
    (hg : g.method = m) (hn : As.length = n) (hsize : g.locals.size = nL) (hstack : g.stack = As.reverse ++ .ref b :: rest) (hW : 2 * g.monitorRoom + (rest.map fun v => v.category).sum ≤ 8) (hdg : decode cc g.pc = .ok (.invokevirtual index, 3)) (hf : cells + mc ≤ R.cells ∧ slots + ms ≤ R.slots) :
    va_Run p l e R s m args below meth c H locs cells slots mc ms g rest (Qc (Value.ref b :: As).toArray) free := by
  obtain ⟨⟨hrc, hrs, hfr, hlo, hws, hcw⟩, hcode, hini, hy, hlen, hl, hin, hse⟩ := cw
  have hK : Back l R p e below s args y 3 8 (PreOf R mc ms Pc) (PostOf Qc mc ms free) := va_backW (hh := hh) (bytes := bytes) (maxL := maxL) (ret := ret) hM hp.1 hrc hrs hfr hlo hws hcw (fun a' U hW => word_at hW (Or.inl (by first | rfl | simp [Cond.onTables, Cond.keeps, Cond.steady])) hini)
  obtain ⟨hx, hb, hml, ho, -⟩ := S
  obtain ⟨-, ⟨cellB, hcB, hoB, hclB⟩, hPc⟩ := hp
  intro T hT X
  obtain ⟨v, vm₁, ⟨U', l2, c2, s2⟩, hW₁, X', ⟨g', mk, t, L, e1, e2, hq, h1, hL, h2, h3⟩, st⟩ := vx_callVW X hx (C := C) (hh := hh) (bytes := bytes) (maxL := maxL) (ret := ret) ho hl hin hse hcode hy hK (by rw [hT]; exact hcB) hoB hclB hg (hsize.trans hml.symm) (argsL := As) (rest := rest) (fun sig h => hn.trans (hlen sig h)) hstack hW (by rw [hb]; exact hdg)
    (fun vm₁ hW₁ => ⟨hf.1, hf.2, hPc (T.setVm vm₁) hT hW₁⟩)
  dsimp only [Pt.U, Pt.locs, Pt.cells, Pt.slots] at X' e1 e2 h1 h2 h3 st
  subst h1; subst h2; subst h3
  exact ⟨v, (T.setVm vm₁).calling g' mk (Value.ref b :: As).toArray, t, U', L, hT, X', hL, e1, e2, hq, st⟩
section
variable {y : MethodName} {bytes cc : ByteArray} {maxL nL mc ms n index : Nat} {ret : Option FieldType} {ws : List Cond} {rm : Room} {Pc : Array Value → State → Prop} {Qc : Array Value → State → Outcome → State → Prop} {XC : String → State → State → Prop} {free : Addr → Prop} {Ts : List Cond} {own C : String} {b : Addr} {As rest : List Value} {g : JFrame}
theorem vx_runVX {hh : List (Nat × Nat × Nat × Nat)} (S : CallFix p m c cc nL s args Ts own) (hM : vx_Met l y ws rm Pc Qc XC mc ms free) (cw : vx_CVW R s args own C index y bytes maxL ret hh ws rm mc ms n) (hp : PreV s H C b Pc As)
    (hg : g.method = m) (hn : As.length = n) (hsize : g.locals.size = nL) (hstack : g.stack = As.reverse ++ .ref b :: rest) (hW : 2 * g.monitorRoom + (rest.map fun v => v.category).sum ≤ 8) (hdg : decode cc g.pc = .ok (.invokevirtual index, 3)) (hf : cells + mc ≤ R.cells ∧ slots + ms ≤ R.slots) :
    vx_Run p l e R s m args below meth c H locs cells slots mc ms g rest (Qc (Value.ref b :: As).toArray) XC free := by
  obtain ⟨⟨hrc, hrs, hfr, hlo, hws, hcw⟩, hcode, hini, hy, hlen, hl, hin, hse⟩ := cw
  have hK : vx_Back l R p e below s args y 3 8 (PreOf R mc ms Pc) (PostOf Qc mc ms free) (vx_Post XC mc ms free) := vx_backW (hh := hh) (bytes := bytes) (maxL := maxL) (ret := ret) hM hp.1 hrc hrs hfr hlo hws hcw (fun a' U hW => word_at hW (Or.inl (by first | rfl | simp [Cond.onTables, Cond.keeps, Cond.steady])) hini)
  obtain ⟨hx, hb, hml, ho, -⟩ := S
  obtain ⟨-, ⟨cellB, hcB, hoB, hclB⟩, hPc⟩ := hp
  intro T hT X
  rcases vx_callVX X hx (C := C) (hh := hh) (bytes := bytes) (maxL := maxL) (ret := ret) ho hl hin hse hcode hy hK (by rw [hT]; exact hcB) hoB hclB hg (hsize.trans hml.symm) (argsL := As) (rest := rest) (fun sig h => hn.trans (hlen sig h)) hstack hW (by rw [hb]; exact hdg)
    (fun vm₁ hW₁ => ⟨hf.1, hf.2, hPc (T.setVm vm₁) hT hW₁⟩) with ⟨v, vm₁, ⟨U', l2, c2, s2⟩, hW₁, X', ⟨g', mk, t, L, e1, e2, hq, h1, hL, h2, h3⟩, st⟩ | ⟨q, vm₁, ⟨U', l2, c2, s2⟩, hW₁, X', ⟨g', mk, t, L, E, ce, e1, e2, hq, hce, hcv, hcl, h1, hL, h2, h3⟩, st⟩
  · dsimp only [Pt.U, Pt.locs, Pt.cells, Pt.slots] at X' e1 e2 h1 h2 h3 st
    subst h1; subst h2; subst h3
    exact Or.inl ⟨v, (T.setVm vm₁).calling g' mk (Value.ref b :: As).toArray, t, U', L, hT, X', hL, e1, e2, hq, st⟩
  · dsimp only [Pt.U, Pt.locs, Pt.cells, Pt.slots] at X' e1 e2 h1 h2 h3 st hcl
    subst h1; subst h2; subst h3
    exact Or.inr ⟨q, (T.setVm vm₁).calling g' mk (Value.ref b :: As).toArray, t, U', L, E, ce, hT, X', hL, e1, e2, hq, hce, hcv, vx_cls hW₁ hcl, st⟩
theorem vx_runSX {hh : List (Nat × Nat × Nat × Nat)} (S : CallFix p m c cc nL s args Ts own) (hM : vx_Met l y ws rm Pc Qc XC mc ms free) (cw : vx_CSW R s args own index y bytes maxL ret hh ws rm mc ms n) (hp : PreS s H Pc As)
    (hg : g.method = m) (hn : As.length = n) (hsize : g.locals.size = nL) (hstack : g.stack = As.reverse ++ rest) (hW : 2 * g.monitorRoom + (rest.map fun v => v.category).sum ≤ 8) (hdg : decode cc g.pc = .ok (.invokestatic index, 3)) (hf : cells + mc ≤ R.cells ∧ slots + ms ≤ R.slots) :
    vx_Run p l e R s m args below meth c H locs cells slots mc ms g rest (Qc As.toArray) XC free := by
  obtain ⟨⟨hrc, hrs, hfr, hlo, hws, hcw⟩, hcode, hini, hy, hlen, hl, hstt⟩ := cw
  have hK : vx_Back l R p e below s args y 3 8 (PreOf R mc ms Pc) (PostOf Qc mc ms free) (vx_Post XC mc ms free) := vx_backW (hh := hh) (bytes := bytes) (maxL := maxL) (ret := ret) hM hp.1 hrc hrs hfr hlo hws hcw (fun a' U hW => word_at hW (Or.inl (by first | rfl | simp [Cond.onTables, Cond.keeps, Cond.steady])) hini)
  obtain ⟨hx, hb, hml, ho, -⟩ := S
  intro T hT X
  rcases vx_callSX X hx (hh := hh) (bytes := bytes) (maxL := maxL) (ret := ret) ho hl hstt hini hcode hy hK hg (hsize.trans hml.symm) (argsL := As) (rest := rest) (fun sig h => hn.trans (hlen sig h)) hstack hW (by rw [hb]; exact hdg)
    (fun vm₁ hW₁ => ⟨hf.1, hf.2, hp.2 (T.setVm vm₁) hT hW₁⟩) with ⟨v, vm₁, ⟨U', l2, c2, s2⟩, hW₁, X', ⟨g', mk, t, L, e1, e2, hq, h1, hL, h2, h3⟩, st⟩ | ⟨q, vm₁, ⟨U', l2, c2, s2⟩, hW₁, X', ⟨g', mk, t, L, E, ce, e1, e2, hq, hce, hcv, hcl, h1, hL, h2, h3⟩, st⟩
  · dsimp only [Pt.U, Pt.locs, Pt.cells, Pt.slots] at X' e1 e2 h1 h2 h3 st
    subst h1; subst h2; subst h3
    exact Or.inl ⟨v, (T.setVm vm₁).calling g' mk As.toArray, t, U', L, hT, X', hL, e1, e2, hq, st⟩
  · dsimp only [Pt.U, Pt.locs, Pt.cells, Pt.slots] at X' e1 e2 h1 h2 h3 st hcl
    subst h1; subst h2; subst h3
    exact Or.inr ⟨q, (T.setVm vm₁).calling g' mk As.toArray, t, U', L, E, ce, hT, X', hL, e1, e2, hq, hce, hcv, vx_cls hW₁ hcl, st⟩
end
end VXH
theorem vx_ofWH {l : Launch} {y : MethodName} {ws ws' : List Cond} {rm : Room} {Pc : Array Value → State → Prop} {Qc : Array Value → State → Outcome → State → Prop} {XC : String → State → State → Prop} {mc ms : Nat} {free : Addr → Prop} {cc : ByteArray} {maxL : Nat} {ret : Option FieldType} {hh : List (Nat × Nat × Nat × Nat)}
    (hy : plainName y.cls = true) (hw : ws = Cond.codeWith y cc maxL ret hh :: ws')
    (body : ∀ p e s m args below meth c s₁, BodyLoose p l y (headSpec ws rm) cc maxL ret e s m args below meth c s₁ → c.maxLocals = maxL → Pc args s →
      W p l e (headSpec ws rm).room s m args below meth c s.heap [] 0 0 (vx_MQ below Qc XC args s mc ms free) (entryFrame m args maxL)) : vx_Met l y ws rm Pc Qc XC mc ms free := by
  refine MetFree.of_bodyS (code := cc) (maxLocals := maxL) (ret := ret) hy ?_ ?_
  · intro args s m h hn
    obtain ⟨m9, meth, c, hn9, h1, h2, h3, h4, -, h5, h6, -⟩ := Cond.codeWith_spec (atoms_spec (ws := ws) h _ (by rw [hw]; exact List.mem_cons_self))
    cases hn.symm.trans hn9
    exact ⟨meth, c, h1, h2, h3, h4, h5, h6⟩
  · intro p e s m args below meth c s₁ B hml hP _
    have hh0 : s₁.heap = s.heap := by rw [B.state]; rfl
    obtain ⟨t, a1, o, b1, b2, b3⟩ := body p e s m args below meth c s₁ B hml hP s₁ hh0 (Stand.of_body B)
    exact ⟨t, o, a1, b1, b2, b3⟩
/-! ===== END ===== -/
end
section
/-! names, fields, records of methods: written by wip/whole/mk03.py out of what TURN printed of the program -/
def RX0 : String := "DyeVats$Days"
def TX0 : u_T := fun k => match k with
  | 0 => ("DyeVats$Days", "runner", "LDyeVats$State;", true)
  | 1 => ("DyeVats$Days", "looks", "[I", true)
  | 2 => ("DyeVats$Days", "reached", "I", false)
  | 3 => ("DyeVats$Days", "length", "I", false)
  | _ => ("DyeVats$Days", "lead", "I", false)
def tyX0 : Nat → FieldType := fun k => match k with
  | 0 => .object "DyeVats$State"
  | 1 => .array .int
  | 2 => .int
  | 3 => .int
  | _ => .int
theorem nmX0 : ∀ a, a < 5 → ∀ b, b < 5 → a ≠ b → (TX0 a).2.1 ≠ (TX0 b).2.1 := by decide +kernel
theorem tyX0_ok : ∀ k, k < 5 → parseFieldDescriptor (TX0 k).2.2.1 = some (tyX0 k) := by decide +kernel
def RX1 : String := "DyeVats$State"
def TX1 : u_T := fun k => match k with
  | _ => ("DyeVats$State", "cells", "[I", true)
def tyX1 : Nat → FieldType := fun k => match k with
  | _ => .array .int
theorem nmX1 : ∀ a, a < 1 → ∀ b, b < 1 → a ≠ b → (TX1 a).2.1 ≠ (TX1 b).2.1 := by decide +kernel
theorem tyX1_ok : ∀ k, k < 1 → parseFieldDescriptor (TX1 k).2.2.1 = some (tyX1 k) := by decide +kernel
def RX2 : String := "DyeVats$Text"
def TX2 : u_T := fun k => match k with
  | 0 => ("DyeVats$Text", "codes", "[I", true)
  | 1 => ("DyeVats$Text", "length", "I", false)
  | 2 => ("DyeVats$Text", "read", "[I", true)
  | 3 => ("DyeVats$Text", "endedValves", "I", false)
  | 4 => ("DyeVats$Text", "valve", "[I", true)
  | 5 => ("DyeVats$Text", "part", "I", false)
  | _ => ("DyeVats$Text", "number", "I", false)
def tyX2 : Nat → FieldType := fun k => match k with
  | 0 => .array .int
  | 1 => .int
  | 2 => .array .int
  | 3 => .int
  | 4 => .array .int
  | 5 => .int
  | _ => .int
theorem nmX2 : ∀ a, a < 7 → ∀ b, b < 7 → a ≠ b → (TX2 a).2.1 ≠ (TX2 b).2.1 := by decide +kernel
theorem tyX2_ok : ∀ k, k < 7 → parseFieldDescriptor (TX2 k).2.2.1 = some (tyX2 k) := by decide +kernel
def RX3 : String := "DyeVats"
def TX3 : u_T := fun k => match k with
  | 0 => ("DyeVats", "now", "LDyeVats$State;", true)
  | 1 => ("DyeVats", "trial", "LDyeVats$State;", true)
  | 2 => ("DyeVats", "days", "LDyeVats$Days;", true)
  | 3 => ("DyeVats", "text", "LDyeVats$Text;", true)
  | 4 => ("DyeVats", "emptyHours", "[I", true)
  | 5 => ("DyeVats", "slots", "[I", true)
  | 6 => ("DyeVats", "slotTaken", "[Z", true)
  | 7 => ("DyeVats", "saved", "[I", true)
  | _ => ("DyeVats", "savedCount", "I", false)
def tyX3 : Nat → FieldType := fun k => match k with
  | 0 => .object "DyeVats$State"
  | 1 => .object "DyeVats$State"
  | 2 => .object "DyeVats$Days"
  | 3 => .object "DyeVats$Text"
  | 4 => .array .int
  | 5 => .array .int
  | 6 => .array .boolean
  | 7 => .array .int
  | _ => .int
theorem nmX3 : ∀ a, a < 9 → ∀ b, b < 9 → a ≠ b → (TX3 a).2.1 ≠ (TX3 b).2.1 := by decide +kernel
theorem tyX3_ok : ∀ k, k < 9 → parseFieldDescriptor (TX3 k).2.2.1 = some (tyX3 k) := by decide +kernel
def RX4 : String := "DyeVatsModel"
def TX4 : u_T := fun k => match k with
  | 0 => ("DyeVatsModel", "thrown", "I", false)
  | 1 => ("DyeVatsModel", "z", "[I", true)
  | 2 => ("DyeVatsModel", "aside", "[I", true)
  | 3 => ("DyeVatsModel", "saved", "[I", true)
  | 4 => ("DyeVatsModel", "saves", "I", false)
  | 5 => ("DyeVatsModel", "slots", "[I", true)
  | 6 => ("DyeVatsModel", "isKept", "[Z", true)
  | 7 => ("DyeVatsModel", "text", "[I", true)
  | 8 => ("DyeVatsModel", "length", "I", false)
  | 9 => ("DyeVatsModel", "looks", "[I", true)
  | 10 => ("DyeVatsModel", "round", "I", false)
  | 11 => ("DyeVatsModel", "lead", "I", false)
  | 12 => ("DyeVatsModel", "given", "[I", true)
  | 13 => ("DyeVatsModel", "reads", "I", false)
  | 14 => ("DyeVatsModel", "place", "I", false)
  | 15 => ("DyeVatsModel", "isWrong", "Z", false)
  | _ => ("DyeVatsModel", "number", "I", false)
def tyX4 : Nat → FieldType := fun k => match k with
  | 0 => .int
  | 1 => .array .int
  | 2 => .array .int
  | 3 => .array .int
  | 4 => .int
  | 5 => .array .int
  | 6 => .array .boolean
  | 7 => .array .int
  | 8 => .int
  | 9 => .array .int
  | 10 => .int
  | 11 => .int
  | 12 => .array .int
  | 13 => .int
  | 14 => .int
  | 15 => .boolean
  | _ => .int
theorem nmX4 : ∀ a, a < 17 → ∀ b, b < 17 → a ≠ b → (TX4 a).2.1 ≠ (TX4 b).2.1 := by decide +kernel
theorem tyX4_ok : ∀ k, k < 17 → parseFieldDescriptor (TX4 k).2.2.1 = some (tyX4 k) := by decide +kernel
def RJxe99ae : String := "java/lang/Double"
def RJ6 : String := "java/lang/Integer"
def RL : String := "DyeVatsLaw"
abbrev cJxe99ae_isNaN_b9ae7 : ByteArray := prog_7_method_6_code
def yJxe99ae_isNaN_b9ae7 : MethodName := ⟨RJxe99ae, "isNaN", "(D)Z"⟩
abbrev cJxe99ae_doubleToLongBits_ccdee : ByteArray := prog_7_method_23_code
def yJxe99ae_doubleToLongBits_ccdee : MethodName := ⟨RJxe99ae, "doubleToLongBits", "(D)J"⟩
abbrev cJ6_bitCount_0f7a4 : ByteArray := prog_12_method_49_code
def yJ6_bitCount_0f7a4 : MethodName := ⟨RJ6, "bitCount", "(I)I"⟩
abbrev cX1_takeFrom : ByteArray := prog_3_method_2_code
def yX1_takeFrom : MethodName := ⟨RX1, "takeFrom", "(LDyeVats$State;)V"⟩
abbrev cX1_hourOfDay : ByteArray := prog_3_method_3_code
def yX1_hourOfDay : MethodName := ⟨RX1, "hourOfDay", "()I"⟩
abbrev cX1_limitIn : ByteArray := prog_3_method_4_code
def yX1_limitIn : MethodName := ⟨RX1, "limitIn", "(I)I"⟩
abbrev cX1_pipesLaid : ByteArray := prog_3_method_5_code
def yX1_pipesLaid : MethodName := ⟨RX1, "pipesLaid", "()I"⟩
abbrev cX1_waterInAll : ByteArray := prog_3_method_6_code
def yX1_waterInAll : MethodName := ⟨RX1, "waterInAll", "()I"⟩
abbrev cX1_vatProperty : ByteArray := prog_3_method_7_code
def yX1_vatProperty : MethodName := ⟨RX1, "vatProperty", "(II)I"⟩
abbrev cX1_valveProperty : ByteArray := prog_3_method_8_code
def yX1_valveProperty : MethodName := ⟨RX1, "valveProperty", "(II)I"⟩
abbrev cX1_dyeProperty : ByteArray := prog_3_method_9_code
def yX1_dyeProperty : MethodName := ⟨RX1, "dyeProperty", "(II)I"⟩
abbrev cX1_removeValve : ByteArray := prog_3_method_10_code
def yX1_removeValve : MethodName := ⟨RX1, "removeValve", "(I)V"⟩
abbrev cX1_takeValves : ByteArray := prog_3_method_11_code
def yX1_takeValves : MethodName := ⟨RX1, "takeValves", "([II)V"⟩
abbrev cX1_dissolveSettled : ByteArray := prog_3_method_12_code
def yX1_dissolveSettled : MethodName := ⟨RX1, "dissolveSettled", "(I)I"⟩
abbrev cX1_runHours : ByteArray := prog_3_method_13_code
def yX1_runHours : MethodName := ⟨RX1, "runHours", "(I)V"⟩
abbrev cX1_runValves : ByteArray := prog_3_method_14_code
def yX1_runValves : MethodName := ⟨RX1, "runValves", "()V"⟩
abbrev cX1_levelPipes : ByteArray := prog_3_method_15_code
def yX1_levelPipes : MethodName := ⟨RX1, "levelPipes", "()V"⟩
abbrev cX1_settleGrains : ByteArray := prog_3_method_16_code
def yX1_settleGrains : MethodName := ⟨RX1, "settleGrains", "()V"⟩
abbrev cX1_moveWater : ByteArray := prog_3_method_17_code
def yX1_moveWater : MethodName := ⟨RX1, "moveWater", "(III)I"⟩
abbrev cX1_isOpen : ByteArray := prog_3_method_18_code
def yX1_isOpen : MethodName := ⟨RX1, "isOpen", "(II)Z"⟩
abbrev cX1_grainsInAll : ByteArray := prog_3_method_19_code
def yX1_grainsInAll : MethodName := ⟨RX1, "grainsInAll", "(I)I"⟩
abbrev cX1_strongestVat : ByteArray := prog_3_method_20_code
def yX1_strongestVat : MethodName := ⟨RX1, "strongestVat", "(I)I"⟩
abbrev cX1_isVat : ByteArray := prog_3_method_21_code
def yX1_isVat : MethodName := ⟨RX1, "isVat", "(I)Z"⟩
abbrev cX2_readCodes : ByteArray := prog_4_method_2_code
def yX2_readCodes : MethodName := ⟨RX2, "readCodes", "()I"⟩
abbrev cX2_endsWell : ByteArray := prog_4_method_3_code
def yX2_endsWell : MethodName := ⟨RX2, "endsWell", "()Z"⟩
abbrev cX2_takesCode : ByteArray := prog_4_method_4_code
def yX2_takesCode : MethodName := ⟨RX2, "takesCode", "(I)Z"⟩
abbrev cX2_takesDigit : ByteArray := prog_4_method_5_code
def yX2_takesDigit : MethodName := ⟨RX2, "takesDigit", "(I)Z"⟩
abbrev cX2_isWholeNumber : ByteArray := prog_4_method_6_code
def yX2_isWholeNumber : MethodName := ⟨RX2, "isWholeNumber", "()Z"⟩
abbrev cX2_canBecomeWhole : ByteArray := prog_4_method_7_code
def yX2_canBecomeWhole : MethodName := ⟨RX2, "canBecomeWhole", "(I)Z"⟩
abbrev cX2_leastOfPart : ByteArray := prog_4_method_8_code
def yX2_leastOfPart : MethodName := ⟨RX2, "leastOfPart", "()I"⟩
abbrev cX2_mostOfPart : ByteArray := prog_4_method_9_code
def yX2_mostOfPart : MethodName := ⟨RX2, "mostOfPart", "()I"⟩
abbrev cX0_beginWith : ByteArray := prog_2_method_2_code
def yX0_beginWith : MethodName := ⟨RX0, "beginWith", "(LDyeVats$State;)V"⟩
abbrev cX0_findByRunners : ByteArray := prog_2_method_3_code
def yX0_findByRunners : MethodName := ⟨RX0, "findByRunners", "()V"⟩
abbrev cX0_findByLookingBack : ByteArray := prog_2_method_4_code
def yX0_findByLookingBack : MethodName := ⟨RX0, "findByLookingBack", "()V"⟩
abbrev cX0_reachDay : ByteArray := prog_2_method_5_code
def yX0_reachDay : MethodName := ⟨RX0, "reachDay", "(I)V"⟩
abbrev cX0_isSameLook : ByteArray := prog_2_method_6_code
def yX0_isSameLook : MethodName := ⟨RX0, "isSameLook", "(II)Z"⟩
abbrev cX3_fill : ByteArray := prog_1_method_2_code
def yX3_fill : MethodName := ⟨RX3, "fill", "(II)I"⟩
abbrev cX3_dye : ByteArray := prog_1_method_3_code
def yX3_dye : MethodName := ⟨RX3, "dye", "(III)I"⟩
abbrev cX3_stir : ByteArray := prog_1_method_4_code
def yX3_stir : MethodName := ⟨RX3, "stir", "(I)I"⟩
abbrev cX3_capacity : ByteArray := prog_1_method_5_code
def yX3_capacity : MethodName := ⟨RX3, "capacity", "(II)I"⟩
abbrev cX3_valve : ByteArray := prog_1_method_6_code
def yX3_valve : MethodName := ⟨RX3, "valve", "(IIIII)I"⟩
abbrev cX3_close : ByteArray := prog_1_method_7_code
def yX3_close : MethodName := ⟨RX3, "close", "(I)I"⟩
abbrev cX3_pipe : ByteArray := prog_1_method_8_code
def yX3_pipe : MethodName := ⟨RX3, "pipe", "(II)I"⟩
abbrev cX3_set : ByteArray := prog_1_method_9_code
def yX3_set : MethodName := ⟨RX3, "set", "(I)I"⟩
abbrev cX3_pass : ByteArray := prog_1_method_10_code
def yX3_pass : MethodName := ⟨RX3, "pass", "(I)I"⟩
abbrev cX3_append : ByteArray := prog_1_method_11_code
def yX3_append : MethodName := ⟨RX3, "append", "(I)I"⟩
abbrev cX3_clearBuffer : ByteArray := prog_1_method_12_code
def yX3_clearBuffer : MethodName := ⟨RX3, "clearBuffer", "()I"⟩
abbrev cX3_firstError : ByteArray := prog_1_method_13_code
def yX3_firstError : MethodName := ⟨RX3, "firstError", "()I"⟩
abbrev cX3_load : ByteArray := prog_1_method_14_code
def yX3_load : MethodName := ⟨RX3, "load", "()I"⟩
abbrev cX3_keep : ByteArray := prog_1_method_15_code
def yX3_keep : MethodName := ⟨RX3, "keep", "(I)I"⟩
abbrev cX3_goBack : ByteArray := prog_1_method_16_code
def yX3_goBack : MethodName := ⟨RX3, "goBack", "(I)I"⟩
abbrev cX3_undo : ByteArray := prog_1_method_17_code
def yX3_undo : MethodName := ⟨RX3, "undo", "()I"⟩
abbrev cX3_vatOf : ByteArray := prog_1_method_18_code
def yX3_vatOf : MethodName := ⟨RX3, "vatOf", "(II)I"⟩
abbrev cX3_valveOf : ByteArray := prog_1_method_19_code
def yX3_valveOf : MethodName := ⟨RX3, "valveOf", "(II)I"⟩
abbrev cX3_dyeOf : ByteArray := prog_1_method_20_code
def yX3_dyeOf : MethodName := ⟨RX3, "dyeOf", "(II)I"⟩
abbrev cX3_count : ByteArray := prog_1_method_21_code
def yX3_count : MethodName := ⟨RX3, "count", "(I)I"⟩
abbrev cX3_ifPassed : ByteArray := prog_1_method_22_code
def yX3_ifPassed : MethodName := ⟨RX3, "ifPassed", "(III)I"⟩
abbrev cX3_emptyIn : ByteArray := prog_1_method_23_code
def yX3_emptyIn : MethodName := ⟨RX3, "emptyIn", "(I)I"⟩
abbrev cX3_round : ByteArray := prog_1_method_24_code
def yX3_round : MethodName := ⟨RX3, "round", "(I)I"⟩
abbrev cX3_mainValve : ByteArray := prog_1_method_25_code
def yX3_mainValve : MethodName := ⟨RX3, "mainValve", "()I"⟩
abbrev cX3_goneShare : ByteArray := prog_1_method_26_code
def yX3_goneShare : MethodName := ⟨RX3, "goneShare", "()D"⟩
abbrev cX3_digest : ByteArray := prog_1_method_27_code
def yX3_digest : MethodName := ⟨RX3, "digest", "()J"⟩
abbrev cX3_hashVats : ByteArray := prog_1_method_28_code
def yX3_hashVats : MethodName := ⟨RX3, "hashVats", "(J)J"⟩
abbrev cX3_hashValves : ByteArray := prog_1_method_29_code
def yX3_hashValves : MethodName := ⟨RX3, "hashValves", "(J)J"⟩
abbrev cX3_hashDyes : ByteArray := prog_1_method_30_code
def yX3_hashDyes : MethodName := ⟨RX3, "hashDyes", "(J)J"⟩
abbrev cX3_bitsOfShare : ByteArray := prog_1_method_31_code
def yX3_bitsOfShare : MethodName := ⟨RX3, "bitsOfShare", "(D)J"⟩
abbrev cX3_numberOf : ByteArray := prog_1_method_32_code
def yX3_numberOf : MethodName := ⟨RX3, "numberOf", "(I)I"⟩
abbrev cX3_findEmptyHours : ByteArray := prog_1_method_33_code
def yX3_findEmptyHours : MethodName := ⟨RX3, "findEmptyHours", "()V"⟩
abbrev cX3_saveState : ByteArray := prog_1_method_34_code
def yX3_saveState : MethodName := ⟨RX3, "saveState", "()V"⟩
abbrev cX3_refuse : ByteArray := prog_1_method_35_code
def yX3_refuse : MethodName := ⟨RX3, "refuse", "()I"⟩
abbrev cX3_requireVat : ByteArray := prog_1_method_36_code
def yX3_requireVat : MethodName := ⟨RX3, "requireVat", "(I)V"⟩
abbrev cX3_requireDye : ByteArray := prog_1_method_37_code
def yX3_requireDye : MethodName := ⟨RX3, "requireDye", "(I)V"⟩
abbrev cX3_requireValve : ByteArray := prog_1_method_38_code
def yX3_requireValve : MethodName := ⟨RX3, "requireValve", "(I)V"⟩
abbrev cX3_requireRange : ByteArray := prog_1_method_39_code
def yX3_requireRange : MethodName := ⟨RX3, "requireRange", "(III)V"⟩
abbrev cX4_thrown : ByteArray := prog_6_method_2_code
def yX4_thrown : MethodName := ⟨RX4, "thrown", "()I"⟩
abbrev cX4_in : ByteArray := prog_6_method_3_code
def yX4_in : MethodName := ⟨RX4, "in", "(III)Z"⟩
abbrev cX4_least : ByteArray := prog_6_method_4_code
def yX4_least : MethodName := ⟨RX4, "least", "(II)I"⟩
abbrev cX4_of : ByteArray := prog_6_method_5_code
def yX4_of : MethodName := ⟨RX4, "of", "(II)I"⟩
abbrev cX4_setVat : ByteArray := prog_6_method_6_code
def yX4_setVat : MethodName := ⟨RX4, "setVat", "(III)V"⟩
abbrev cX4_add : ByteArray := prog_6_method_7_code
def yX4_add : MethodName := ⟨RX4, "add", "(III)V"⟩
abbrev cX4_valveNow : ByteArray := prog_6_method_8_code
def yX4_valveNow : MethodName := ⟨RX4, "valveNow", "(II)I"⟩
abbrev cX4_isVat : ByteArray := prog_6_method_9_code
def yX4_isVat : MethodName := ⟨RX4, "isVat", "(I)Z"⟩
abbrev cX4_isDye : ByteArray := prog_6_method_10_code
def yX4_isDye : MethodName := ⟨RX4, "isDye", "(I)Z"⟩
abbrev cX4_isValve : ByteArray := prog_6_method_11_code
def yX4_isValve : MethodName := ⟨RX4, "isValve", "(I)Z"⟩
abbrev cX4_hourOfDay : ByteArray := prog_6_method_12_code
def yX4_hourOfDay : MethodName := ⟨RX4, "hourOfDay", "()I"⟩
abbrev cX4_holds : ByteArray := prog_6_method_13_code
def yX4_holds : MethodName := ⟨RX4, "holds", "(I)I"⟩
abbrev cX4_isOpen : ByteArray := prog_6_method_14_code
def yX4_isOpen : MethodName := ⟨RX4, "isOpen", "(I)Z"⟩
abbrev cX4_record : ByteArray := prog_6_method_15_code
def yX4_record : MethodName := ⟨RX4, "record", "()V"⟩
abbrev cX4_undo : ByteArray := prog_6_method_16_code
def yX4_undo : MethodName := ⟨RX4, "undo", "()I"⟩
abbrev cX4_keep : ByteArray := prog_6_method_17_code
def yX4_keep : MethodName := ⟨RX4, "keep", "(I)I"⟩
abbrev cX4_goBack : ByteArray := prog_6_method_18_code
def yX4_goBack : MethodName := ⟨RX4, "goBack", "(I)I"⟩
abbrev cX4_putAside : ByteArray := prog_6_method_19_code
def yX4_putAside : MethodName := ⟨RX4, "putAside", "()V"⟩
abbrev cX4_putBack : ByteArray := prog_6_method_20_code
def yX4_putBack : MethodName := ⟨RX4, "putBack", "()V"⟩
abbrev cX4_fill : ByteArray := prog_6_method_21_code
def yX4_fill : MethodName := ⟨RX4, "fill", "(II)I"⟩
abbrev cX4_dye : ByteArray := prog_6_method_22_code
def yX4_dye : MethodName := ⟨RX4, "dye", "(III)I"⟩
abbrev cX4_stir : ByteArray := prog_6_method_23_code
def yX4_stir : MethodName := ⟨RX4, "stir", "(I)I"⟩
abbrev cX4_capacity : ByteArray := prog_6_method_24_code
def yX4_capacity : MethodName := ⟨RX4, "capacity", "(II)I"⟩
abbrev cX4_putValve : ByteArray := prog_6_method_25_code
def yX4_putValve : MethodName := ⟨RX4, "putValve", "(IIIII)V"⟩
abbrev cX4_valve : ByteArray := prog_6_method_26_code
def yX4_valve : MethodName := ⟨RX4, "valve", "(IIIII)I"⟩
abbrev cX4_dropValve : ByteArray := prog_6_method_27_code
def yX4_dropValve : MethodName := ⟨RX4, "dropValve", "(I)V"⟩
abbrev cX4_close : ByteArray := prog_6_method_28_code
def yX4_close : MethodName := ⟨RX4, "close", "(I)I"⟩
abbrev cX4_isPipe : ByteArray := prog_6_method_29_code
def yX4_isPipe : MethodName := ⟨RX4, "isPipe", "(II)Z"⟩
abbrev cX4_pipe : ByteArray := prog_6_method_30_code
def yX4_pipe : MethodName := ⟨RX4, "pipe", "(II)I"⟩
abbrev cX4_set : ByteArray := prog_6_method_31_code
def yX4_set : MethodName := ⟨RX4, "set", "(I)I"⟩
abbrev cX4_move : ByteArray := prog_6_method_32_code
def yX4_move : MethodName := ⟨RX4, "move", "(III)I"⟩
abbrev cX4_level : ByteArray := prog_6_method_33_code
def yX4_level : MethodName := ⟨RX4, "level", "(II)V"⟩
abbrev cX4_settle : ByteArray := prog_6_method_34_code
def yX4_settle : MethodName := ⟨RX4, "settle", "(I)V"⟩
abbrev cX4_hour : ByteArray := prog_6_method_35_code
def yX4_hour : MethodName := ⟨RX4, "hour", "()V"⟩
abbrev cX4_hours : ByteArray := prog_6_method_36_code
def yX4_hours : MethodName := ⟨RX4, "hours", "(I)V"⟩
abbrev cX4_pass : ByteArray := prog_6_method_37_code
def yX4_pass : MethodName := ⟨RX4, "pass", "(I)I"⟩
abbrev cX4_append : ByteArray := prog_6_method_38_code
def yX4_append : MethodName := ⟨RX4, "append", "(I)I"⟩
abbrev cX4_clearBuffer : ByteArray := prog_6_method_39_code
def yX4_clearBuffer : MethodName := ⟨RX4, "clearBuffer", "()I"⟩
abbrev cX4_sign : ByteArray := prog_6_method_40_code
def yX4_sign : MethodName := ⟨RX4, "sign", "()I"⟩
abbrev cX4_take : ByteArray := prog_6_method_41_code
def yX4_take : MethodName := ⟨RX4, "take", "(Z)V"⟩
abbrev cX4_takeSign : ByteArray := prog_6_method_42_code
def yX4_takeSign : MethodName := ⟨RX4, "takeSign", "(I)V"⟩
abbrev cX4_takeVat : ByteArray := prog_6_method_43_code
def yX4_takeVat : MethodName := ⟨RX4, "takeVat", "(II)V"⟩
abbrev cX4_canGoOn : ByteArray := prog_6_method_44_code
def yX4_canGoOn : MethodName := ⟨RX4, "canGoOn", "(III)Z"⟩
abbrev cX4_takeRate : ByteArray := prog_6_method_45_code
def yX4_takeRate : MethodName := ⟨RX4, "takeRate", "()V"⟩
abbrev cX4_takeHour : ByteArray := prog_6_method_46_code
def yX4_takeHour : MethodName := ⟨RX4, "takeHour", "(I)V"⟩
abbrev cX4_readValve : ByteArray := prog_6_method_47_code
def yX4_readValve : MethodName := ⟨RX4, "readValve", "()V"⟩
abbrev cX4_readPlan : ByteArray := prog_6_method_48_code
def yX4_readPlan : MethodName := ⟨RX4, "readPlan", "()I"⟩
abbrev cX4_firstError : ByteArray := prog_6_method_49_code
def yX4_firstError : MethodName := ⟨RX4, "firstError", "()I"⟩
abbrev cX4_load : ByteArray := prog_6_method_50_code
def yX4_load : MethodName := ⟨RX4, "load", "()I"⟩
abbrev cX4_vatNow : ByteArray := prog_6_method_51_code
def yX4_vatNow : MethodName := ⟨RX4, "vatNow", "(II)I"⟩
abbrev cX4_vatOf : ByteArray := prog_6_method_52_code
def yX4_vatOf : MethodName := ⟨RX4, "vatOf", "(II)I"⟩
abbrev cX4_toldOfValve : ByteArray := prog_6_method_53_code
def yX4_toldOfValve : MethodName := ⟨RX4, "toldOfValve", "(II)I"⟩
abbrev cX4_valveOf : ByteArray := prog_6_method_54_code
def yX4_valveOf : MethodName := ⟨RX4, "valveOf", "(II)I"⟩
abbrev cX4_inVats : ByteArray := prog_6_method_55_code
def yX4_inVats : MethodName := ⟨RX4, "inVats", "(I)I"⟩
abbrev cX4_strongest : ByteArray := prog_6_method_56_code
def yX4_strongest : MethodName := ⟨RX4, "strongest", "(I)I"⟩
abbrev cX4_dyeNow : ByteArray := prog_6_method_57_code
def yX4_dyeNow : MethodName := ⟨RX4, "dyeNow", "(II)I"⟩
abbrev cX4_dyeOf : ByteArray := prog_6_method_58_code
def yX4_dyeOf : MethodName := ⟨RX4, "dyeOf", "(II)I"⟩
abbrev cX4_pipes : ByteArray := prog_6_method_59_code
def yX4_pipes : MethodName := ⟨RX4, "pipes", "()I"⟩
abbrev cX4_countNow : ByteArray := prog_6_method_60_code
def yX4_countNow : MethodName := ⟨RX4, "countNow", "(I)I"⟩
abbrev cX4_count : ByteArray := prog_6_method_61_code
def yX4_count : MethodName := ⟨RX4, "count", "(I)I"⟩
abbrev cX4_leftBehind : ByteArray := prog_6_method_62_code
def yX4_leftBehind : MethodName := ⟨RX4, "leftBehind", "(III)I"⟩
abbrev cX4_ifPassed : ByteArray := prog_6_method_63_code
def yX4_ifPassed : MethodName := ⟨RX4, "ifPassed", "(III)I"⟩
abbrev cX4_hoursToEmpty : ByteArray := prog_6_method_64_code
def yX4_hoursToEmpty : MethodName := ⟨RX4, "hoursToEmpty", "(I)I"⟩
abbrev cX4_emptyIn : ByteArray := prog_6_method_65_code
def yX4_emptyIn : MethodName := ⟨RX4, "emptyIn", "(I)I"⟩
abbrev cX4_isSameLook : ByteArray := prog_6_method_66_code
def yX4_isSameLook : MethodName := ⟨RX4, "isSameLook", "(II)Z"⟩
abbrev cX4_findRound : ByteArray := prog_6_method_67_code
def yX4_findRound : MethodName := ⟨RX4, "findRound", "()V"⟩
abbrev cX4_round : ByteArray := prog_6_method_68_code
def yX4_round : MethodName := ⟨RX4, "round", "(I)I"⟩
abbrev cX4_findMainValve : ByteArray := prog_6_method_69_code
def yX4_findMainValve : MethodName := ⟨RX4, "findMainValve", "()I"⟩
abbrev cX4_mainValve : ByteArray := prog_6_method_70_code
def yX4_mainValve : MethodName := ⟨RX4, "mainValve", "()I"⟩
abbrev cX4_shareGone : ByteArray := prog_6_method_71_code
def yX4_shareGone : MethodName := ⟨RX4, "shareGone", "()D"⟩
abbrev cX4_goneShare : ByteArray := prog_6_method_72_code
def yX4_goneShare : MethodName := ⟨RX4, "goneShare", "()D"⟩
abbrev cX4_digest : ByteArray := prog_6_method_73_code
def yX4_digest : MethodName := ⟨RX4, "digest", "()J"⟩
abbrev cL_fill : ByteArray := method_3_code
def yL_fill : MethodName := ⟨RL, "fill", "(LDyeVats;II[J)I"⟩
abbrev cL_dye : ByteArray := method_4_code
def yL_dye : MethodName := ⟨RL, "dye", "(LDyeVats;III[J)I"⟩
abbrev cL_stir : ByteArray := method_5_code
def yL_stir : MethodName := ⟨RL, "stir", "(LDyeVats;I[J)I"⟩
abbrev cL_capacity : ByteArray := method_6_code
def yL_capacity : MethodName := ⟨RL, "capacity", "(LDyeVats;II[J)I"⟩
abbrev cL_valve : ByteArray := method_7_code
def yL_valve : MethodName := ⟨RL, "valve", "(LDyeVats;IIIII[J)I"⟩
abbrev cL_close : ByteArray := method_8_code
def yL_close : MethodName := ⟨RL, "close", "(LDyeVats;I[J)I"⟩
abbrev cL_pipe : ByteArray := method_9_code
def yL_pipe : MethodName := ⟨RL, "pipe", "(LDyeVats;II[J)I"⟩
abbrev cL_set : ByteArray := method_10_code
def yL_set : MethodName := ⟨RL, "set", "(LDyeVats;I[J)I"⟩
abbrev cL_pass : ByteArray := method_11_code
def yL_pass : MethodName := ⟨RL, "pass", "(LDyeVats;I[J)I"⟩
abbrev cL_append : ByteArray := method_12_code
def yL_append : MethodName := ⟨RL, "append", "(LDyeVats;I[J)I"⟩
abbrev cL_load : ByteArray := method_13_code
def yL_load : MethodName := ⟨RL, "load", "(LDyeVats;[J)I"⟩
abbrev cL_keep : ByteArray := method_14_code
def yL_keep : MethodName := ⟨RL, "keep", "(LDyeVats;I[J)I"⟩
abbrev cL_goBack : ByteArray := method_15_code
def yL_goBack : MethodName := ⟨RL, "goBack", "(LDyeVats;I[J)I"⟩
abbrev cL_undo : ByteArray := method_16_code
def yL_undo : MethodName := ⟨RL, "undo", "(LDyeVats;[J)I"⟩
abbrev cL_vatOf : ByteArray := method_17_code
def yL_vatOf : MethodName := ⟨RL, "vatOf", "(LDyeVats;II[J)I"⟩
abbrev cL_valveOf : ByteArray := method_18_code
def yL_valveOf : MethodName := ⟨RL, "valveOf", "(LDyeVats;II[J)I"⟩
abbrev cL_dyeOf : ByteArray := method_19_code
def yL_dyeOf : MethodName := ⟨RL, "dyeOf", "(LDyeVats;II[J)I"⟩
abbrev cL_count : ByteArray := method_20_code
def yL_count : MethodName := ⟨RL, "count", "(LDyeVats;I[J)I"⟩
abbrev cL_ifPassed : ByteArray := method_21_code
def yL_ifPassed : MethodName := ⟨RL, "ifPassed", "(LDyeVats;III[J)I"⟩
abbrev cL_emptyIn : ByteArray := method_22_code
def yL_emptyIn : MethodName := ⟨RL, "emptyIn", "(LDyeVats;I[J)I"⟩
abbrev cL_round : ByteArray := method_23_code
def yL_round : MethodName := ⟨RL, "round", "(LDyeVats;I[J)I"⟩
abbrev cL_law : ByteArray := code
def yL_law : MethodName := ⟨RL, "law", "([I)Z"⟩
abbrev am_MT : Type := MethodName × ByteArray × Nat × Option FieldType × Nat × Nat × List (Nat × Nat × Nat × Nat) × Bool × Bool
def mt_y (t : am_MT) : MethodName := t.1
def mt_b (t : am_MT) : ByteArray := t.2.1
def mt_l (t : am_MT) : Nat := t.2.2.1
def mt_r (t : am_MT) : Option FieldType := t.2.2.2.1
def mt_rf (t : am_MT) : Nat := t.2.2.2.2.1
def mt_rl (t : am_MT) : Nat := t.2.2.2.2.2.1
def mt_h (t : am_MT) : List (Nat × Nat × Nat × Nat) := t.2.2.2.2.2.2.1
/-- may make cells and go on -/
def mt_g (t : am_MT) : Bool := t.2.2.2.2.2.2.2.1
/-- it is the law -/
def mt_w (t : am_MT) : Bool := t.2.2.2.2.2.2.2.2
def mt_J_isNaN : am_MT := (yJxe99ae_isNaN_b9ae7, cJxe99ae_isNaN_b9ae7, 2, (some .boolean), 0, 0, [], false, false)
def mt_J_doubleToLongBits : am_MT := (yJxe99ae_doubleToLongBits_ccdee, cJxe99ae_doubleToLongBits_ccdee, 2, (some .long), 1, 23, [], false, false)
def mt_J_bitCount : am_MT := (yJ6_bitCount_0f7a4, cJ6_bitCount_0f7a4, 1, (some .int), 0, 0, [], false, false)
def mt_S_takeFrom : am_MT := (yX1_takeFrom, cX1_takeFrom, 2, none, 1, 40, [], false, false)
def mt_S_hourOfDay : am_MT := (yX1_hourOfDay, cX1_hourOfDay, 1, (some .int), 0, 0, [], false, false)
def mt_S_limitIn : am_MT := (yX1_limitIn, cX1_limitIn, 2, (some .int), 1, 20, [], false, false)
def mt_S_pipesLaid : am_MT := (yX1_pipesLaid, cX1_pipesLaid, 3, (some .int), 1, 20, [], false, false)
def mt_S_waterInAll : am_MT := (yX1_waterInAll, cX1_waterInAll, 3, (some .int), 0, 0, [], false, false)
def mt_S_vatProperty : am_MT := (yX1_vatProperty, cX1_vatProperty, 3, (some .int), 2, 41, [], false, false)
def mt_S_valveProperty : am_MT := (yX1_valveProperty, cX1_valveProperty, 4, (some .int), 1, 22, [], false, false)
def mt_S_dyeProperty : am_MT := (yX1_dyeProperty, cX1_dyeProperty, 3, (some .int), 1, 27, [], false, false)
def mt_S_removeValve : am_MT := (yX1_removeValve, cX1_removeValve, 4, none, 1, 40, [], false, false)
def mt_S_takeValves : am_MT := (yX1_takeValves, cX1_takeValves, 5, none, 1, 40, [], false, false)
def mt_S_dissolveSettled : am_MT := (yX1_dissolveSettled, cX1_dissolveSettled, 7, (some .int), 2, 41, [], false, false)
def mt_S_runHours : am_MT := (yX1_runHours, cX1_runHours, 3, none, 3, 72, [], false, false)
def mt_S_runValves : am_MT := (yX1_runValves, cX1_runValves, 4, none, 2, 48, [], false, false)
def mt_S_levelPipes : am_MT := (yX1_levelPipes, cX1_levelPipes, 5, none, 2, 48, [], false, false)
def mt_S_settleGrains : am_MT := (yX1_settleGrains, cX1_settleGrains, 6, none, 2, 41, [], false, false)
def mt_S_moveWater : am_MT := (yX1_moveWater, cX1_moveWater, 8, (some .int), 1, 21, [], false, false)
def mt_S_isOpen : am_MT := (yX1_isOpen, cX1_isOpen, 3, (some .boolean), 0, 0, [], false, false)
def mt_S_grainsInAll : am_MT := (yX1_grainsInAll, cX1_grainsInAll, 5, (some .int), 0, 0, [], false, false)
def mt_S_strongestVat : am_MT := (yX1_strongestVat, cX1_strongestVat, 8, (some .int), 0, 0, [], false, false)
def mt_S_isVat : am_MT := (yX1_isVat, cX1_isVat, 1, (some .boolean), 0, 0, [], false, false)
def mt_T_readCodes : am_MT := (yX2_readCodes, cX2_readCodes, 2, (some .int), 5, 106, [], false, false)
def mt_T_endsWell : am_MT := (yX2_endsWell, cX2_endsWell, 1, (some .boolean), 2, 40, [], false, false)
def mt_T_takesCode : am_MT := (yX2_takesCode, cX2_takesCode, 2, (some .boolean), 4, 85, [], false, false)
def mt_T_takesDigit : am_MT := (yX2_takesDigit, cX2_takesDigit, 3, (some .boolean), 2, 42, [], false, false)
def mt_T_isWholeNumber : am_MT := (yX2_isWholeNumber, cX2_isWholeNumber, 1, (some .boolean), 1, 20, [], false, false)
def mt_T_canBecomeWhole : am_MT := (yX2_canBecomeWhole, cX2_canBecomeWhole, 3, (some .boolean), 1, 20, [], false, false)
def mt_T_leastOfPart : am_MT := (yX2_leastOfPart, cX2_leastOfPart, 1, (some .int), 0, 0, [], false, false)
def mt_T_mostOfPart : am_MT := (yX2_mostOfPart, cX2_mostOfPart, 1, (some .int), 0, 0, [], false, false)
def mt_D_beginWith : am_MT := (yX0_beginWith, cX0_beginWith, 2, none, 2, 61, [], false, false)
def mt_D_findByRunners : am_MT := (yX0_findByRunners, cX0_findByRunners, 4, none, 5, 115, [], false, false)
def mt_D_findByLookingBack : am_MT := (yX0_findByLookingBack, cX0_findByLookingBack, 3, none, 5, 115, [], false, false)
def mt_D_reachDay : am_MT := (yX0_reachDay, cX0_reachDay, 2, none, 4, 94, [], false, false)
def mt_D_isSameLook : am_MT := (yX0_isSameLook, cX0_isSameLook, 4, (some .boolean), 0, 0, [], false, false)
def mt_V_fill : am_MT := (yX3_fill, cX3_fill, 3, (some .int), 7, 112, [], false, false)
def mt_V_dye : am_MT := (yX3_dye, cX3_dye, 5, (some .int), 7, 112, [], false, false)
def mt_V_stir : am_MT := (yX3_stir, cX3_stir, 2, (some .int), 7, 110, [], false, false)
def mt_V_capacity : am_MT := (yX3_capacity, cX3_capacity, 4, (some .int), 7, 112, [], false, false)
def mt_V_valve : am_MT := (yX3_valve, cX3_valve, 8, (some .int), 7, 112, [], false, false)
def mt_V_close : am_MT := (yX3_close, cX3_close, 2, (some .int), 7, 111, [], false, false)
def mt_V_pipe : am_MT := (yX3_pipe, cX3_pipe, 3, (some .int), 7, 110, [], false, false)
def mt_V_set : am_MT := (yX3_set, cX3_set, 3, (some .int), 7, 112, [], false, false)
def mt_V_pass : am_MT := (yX3_pass, cX3_pass, 3, (some .int), 7, 112, [], false, false)
def mt_V_append : am_MT := (yX3_append, cX3_append, 2, (some .int), 7, 112, [], false, false)
def mt_V_clearBuffer : am_MT := (yX3_clearBuffer, cX3_clearBuffer, 2, (some .int), 0, 0, [], false, false)
def mt_V_firstError : am_MT := (yX3_firstError, cX3_firstError, 1, (some .int), 6, 127, [], false, false)
def mt_V_load : am_MT := (yX3_load, cX3_load, 2, (some .int), 6, 127, [], false, false)
def mt_V_keep : am_MT := (yX3_keep, cX3_keep, 2, (some .int), 7, 112, [], false, false)
def mt_V_goBack : am_MT := (yX3_goBack, cX3_goBack, 2, (some .int), 7, 112, [], false, false)
def mt_V_undo : am_MT := (yX3_undo, cX3_undo, 1, (some .int), 6, 90, [], false, false)
def mt_V_vatOf : am_MT := (yX3_vatOf, cX3_vatOf, 3, (some .int), 7, 112, [], false, false)
def mt_V_valveOf : am_MT := (yX3_valveOf, cX3_valveOf, 3, (some .int), 7, 112, [], false, false)
def mt_V_dyeOf : am_MT := (yX3_dyeOf, cX3_dyeOf, 3, (some .int), 7, 112, [], false, false)
def mt_V_count : am_MT := (yX3_count, cX3_count, 2, (some .int), 7, 112, [], false, false)
def mt_V_ifPassed : am_MT := (yX3_ifPassed, cX3_ifPassed, 4, (some .int), 7, 112, [], false, false)
def mt_V_emptyIn : am_MT := (yX3_emptyIn, cX3_emptyIn, 2, (some .int), 7, 116, [], false, false)
def mt_V_round : am_MT := (yX3_round, cX3_round, 2, (some .int), 7, 138, [], false, false)
def mt_V_mainValve : am_MT := (yX3_mainValve, cX3_mainValve, 5, (some .int), 4, 94, [], false, false)
def mt_V_goneShare : am_MT := (yX3_goneShare, cX3_goneShare, 4, (some .double), 0, 0, [], false, false)
def mt_V_digest : am_MT := (yX3_digest, cX3_digest, 4, (some .long), 6, 142, [], false, false)
def mt_V_hashVats : am_MT := (yX3_hashVats, cX3_hashVats, 7, (some .long), 5, 116, [], false, false)
def mt_V_hashValves : am_MT := (yX3_hashValves, cX3_hashValves, 7, (some .long), 2, 45, [], false, false)
def mt_V_hashDyes : am_MT := (yX3_hashDyes, cX3_hashDyes, 7, (some .long), 2, 49, [], false, false)
def mt_V_bitsOfShare : am_MT := (yX3_bitsOfShare, cX3_bitsOfShare, 6, (some .long), 0, 0, [], false, false)
def mt_V_numberOf : am_MT := (yX3_numberOf, cX3_numberOf, 2, (some .int), 2, 42, [], false, false)
def mt_V_findEmptyHours : am_MT := (yX3_findEmptyHours, cX3_findEmptyHours, 3, none, 4, 94, [], false, false)
def mt_V_saveState : am_MT := (yX3_saveState, cX3_saveState, 1, none, 1, 40, [], false, false)
def mt_V_refuse : am_MT := (yX3_refuse, cX3_refuse, 1, (some .int), 0, 0, [], false, false)
def mt_V_requireVat : am_MT := (yX3_requireVat, cX3_requireVat, 1, none, 6, 90, [], false, false)
def mt_V_requireDye : am_MT := (yX3_requireDye, cX3_requireDye, 1, none, 6, 90, [], false, false)
def mt_V_requireValve : am_MT := (yX3_requireValve, cX3_requireValve, 2, none, 6, 90, [], false, false)
def mt_V_requireRange : am_MT := (yX3_requireRange, cX3_requireRange, 3, none, 6, 90, [], false, false)
def mt_Z_thrown : am_MT := (yX4_thrown, cX4_thrown, 1, (some .int), 0, 0, [], false, false)
def mt_Z_in : am_MT := (yX4_in, cX4_in, 3, (some .boolean), 0, 0, [], false, false)
def mt_Z_least : am_MT := (yX4_least, cX4_least, 2, (some .int), 0, 0, [], false, false)
def mt_Z_of : am_MT := (yX4_of, cX4_of, 3, (some .int), 0, 0, [], false, false)
def mt_Z_setVat : am_MT := (yX4_setVat, cX4_setVat, 4, none, 0, 0, [], false, false)
def mt_Z_add : am_MT := (yX4_add, cX4_add, 4, none, 0, 0, [], false, false)
def mt_Z_valveNow : am_MT := (yX4_valveNow, cX4_valveNow, 3, (some .int), 0, 0, [], false, false)
def mt_Z_isVat : am_MT := (yX4_isVat, cX4_isVat, 1, (some .boolean), 1, 22, [], false, false)
def mt_Z_isDye : am_MT := (yX4_isDye, cX4_isDye, 1, (some .boolean), 1, 22, [], false, false)
def mt_Z_isValve : am_MT := (yX4_isValve, cX4_isValve, 2, (some .boolean), 1, 22, [], false, false)
def mt_Z_hourOfDay : am_MT := (yX4_hourOfDay, cX4_hourOfDay, 1, (some .int), 0, 0, [], false, false)
def mt_Z_holds : am_MT := (yX4_holds, cX4_holds, 2, (some .int), 1, 22, [], false, false)
def mt_Z_isOpen : am_MT := (yX4_isOpen, cX4_isOpen, 2, (some .boolean), 1, 22, [], false, false)
def mt_Z_record : am_MT := (yX4_record, cX4_record, 2, none, 0, 0, [], false, false)
def mt_Z_undo : am_MT := (yX4_undo, cX4_undo, 2, (some .int), 0, 0, [], false, false)
def mt_Z_keep : am_MT := (yX4_keep, cX4_keep, 3, (some .int), 1, 22, [], false, false)
def mt_Z_goBack : am_MT := (yX4_goBack, cX4_goBack, 3, (some .int), 1, 22, [], false, false)
def mt_Z_putAside : am_MT := (yX4_putAside, cX4_putAside, 2, none, 0, 0, [], false, false)
def mt_Z_putBack : am_MT := (yX4_putBack, cX4_putBack, 2, none, 0, 0, [], false, false)
def mt_Z_fill : am_MT := (yX4_fill, cX4_fill, 3, (some .int), 2, 42, [], false, false)
def mt_Z_dye : am_MT := (yX4_dye, cX4_dye, 4, (some .int), 2, 42, [], false, false)
def mt_Z_stir : am_MT := (yX4_stir, cX4_stir, 5, (some .int), 2, 43, [], false, false)
def mt_Z_capacity : am_MT := (yX4_capacity, cX4_capacity, 4, (some .int), 2, 42, [], false, false)
def mt_Z_putValve : am_MT := (yX4_putValve, cX4_putValve, 7, none, 0, 0, [], false, false)
def mt_Z_valve : am_MT := (yX4_valve, cX4_valve, 7, (some .int), 2, 42, [], false, false)
def mt_Z_dropValve : am_MT := (yX4_dropValve, cX4_dropValve, 3, none, 0, 0, [], false, false)
def mt_Z_close : am_MT := (yX4_close, cX4_close, 2, (some .int), 2, 43, [], false, false)
def mt_Z_isPipe : am_MT := (yX4_isPipe, cX4_isPipe, 3, (some .boolean), 0, 0, [], false, false)
def mt_Z_pipe : am_MT := (yX4_pipe, cX4_pipe, 3, (some .int), 2, 42, [], false, false)
def mt_Z_set : am_MT := (yX4_set, cX4_set, 3, (some .int), 1, 22, [], false, false)
def mt_Z_move : am_MT := (yX4_move, cX4_move, 8, (some .int), 1, 23, [], false, false)
def mt_Z_level : am_MT := (yX4_level, cX4_level, 4, none, 2, 50, [], false, false)
def mt_Z_settle : am_MT := (yX4_settle, cX4_settle, 4, none, 2, 43, [], false, false)
def mt_Z_hour : am_MT := (yX4_hour, cX4_hour, 3, none, 3, 73, [], false, false)
def mt_Z_hours : am_MT := (yX4_hours, cX4_hours, 3, none, 4, 95, [], false, false)
def mt_Z_pass : am_MT := (yX4_pass, cX4_pass, 3, (some .int), 5, 117, [], false, false)
def mt_Z_append : am_MT := (yX4_append, cX4_append, 2, (some .int), 1, 22, [], false, false)
def mt_Z_clearBuffer : am_MT := (yX4_clearBuffer, cX4_clearBuffer, 2, (some .int), 0, 0, [], false, false)
def mt_Z_sign : am_MT := (yX4_sign, cX4_sign, 1, (some .int), 0, 0, [], false, false)
def mt_Z_take : am_MT := (yX4_take, cX4_take, 2, none, 0, 0, [], false, false)
def mt_Z_takeSign : am_MT := (yX4_takeSign, cX4_takeSign, 2, none, 1, 21, [], false, false)
def mt_Z_takeVat : am_MT := (yX4_takeVat, cX4_takeVat, 3, none, 1, 22, [], false, false)
def mt_Z_canGoOn : am_MT := (yX4_canGoOn, cX4_canGoOn, 3, (some .boolean), 0, 0, [], false, false)
def mt_Z_takeRate : am_MT := (yX4_takeRate, cX4_takeRate, 1, none, 1, 22, [], false, false)
def mt_Z_takeHour : am_MT := (yX4_takeHour, cX4_takeHour, 6, none, 1, 22, [], false, false)
def mt_Z_readValve : am_MT := (yX4_readValve, cX4_readValve, 2, none, 2, 47, [], false, false)
def mt_Z_readPlan : am_MT := (yX4_readPlan, cX4_readPlan, 2, (some .int), 3, 68, [], false, false)
def mt_Z_firstError : am_MT := (yX4_firstError, cX4_firstError, 1, (some .int), 4, 89, [], false, false)
def mt_Z_load : am_MT := (yX4_load, cX4_load, 2, (some .int), 4, 89, [], false, false)
def mt_Z_vatNow : am_MT := (yX4_vatNow, cX4_vatNow, 3, (some .int), 2, 43, [], false, false)
def mt_Z_vatOf : am_MT := (yX4_vatOf, cX4_vatOf, 3, (some .int), 3, 65, [], false, false)
def mt_Z_toldOfValve : am_MT := (yX4_toldOfValve, cX4_toldOfValve, 3, (some .int), 2, 43, [], false, false)
def mt_Z_valveOf : am_MT := (yX4_valveOf, cX4_valveOf, 3, (some .int), 3, 65, [], false, false)
def mt_Z_inVats : am_MT := (yX4_inVats, cX4_inVats, 4, (some .int), 1, 22, [], false, false)
def mt_Z_strongest : am_MT := (yX4_strongest, cX4_strongest, 6, (some .int), 1, 22, [], false, false)
def mt_Z_dyeNow : am_MT := (yX4_dyeNow, cX4_dyeNow, 3, (some .int), 2, 47, [], false, false)
def mt_Z_dyeOf : am_MT := (yX4_dyeOf, cX4_dyeOf, 3, (some .int), 3, 69, [], false, false)
def mt_Z_pipes : am_MT := (yX4_pipes, cX4_pipes, 4, (some .int), 1, 22, [], false, false)
def mt_Z_countNow : am_MT := (yX4_countNow, cX4_countNow, 2, (some .int), 2, 45, [], false, false)
def mt_Z_count : am_MT := (yX4_count, cX4_count, 2, (some .int), 3, 66, [], false, false)
def mt_Z_leftBehind : am_MT := (yX4_leftBehind, cX4_leftBehind, 5, (some .int), 5, 117, [], false, false)
def mt_Z_ifPassed : am_MT := (yX4_ifPassed, cX4_ifPassed, 4, (some .int), 6, 141, [], false, false)
def mt_Z_hoursToEmpty : am_MT := (yX4_hoursToEmpty, cX4_hoursToEmpty, 3, (some .int), 4, 95, [], false, false)
def mt_Z_emptyIn : am_MT := (yX4_emptyIn, cX4_emptyIn, 2, (some .int), 5, 117, [], false, false)
def mt_Z_isSameLook : am_MT := (yX4_isSameLook, cX4_isSameLook, 5, (some .boolean), 0, 0, [], false, false)
def mt_Z_findRound : am_MT := (yX4_findRound, cX4_findRound, 3, none, 5, 117, [], false, false)
def mt_Z_round : am_MT := (yX4_round, cX4_round, 2, (some .int), 6, 139, [], false, false)
def mt_Z_findMainValve : am_MT := (yX4_findMainValve, cX4_findMainValve, 6, (some .int), 5, 117, [], false, false)
def mt_Z_mainValve : am_MT := (yX4_mainValve, cX4_mainValve, 1, (some .int), 6, 142, [], false, false)
def mt_Z_shareGone : am_MT := (yX4_shareGone, cX4_shareGone, 3, (some .double), 0, 0, [], false, false)
def mt_Z_goneShare : am_MT := (yX4_goneShare, cX4_goneShare, 1, (some .double), 1, 22, [], false, false)
def mt_Z_digest : am_MT := (yX4_digest, cX4_digest, 5, (some .long), 6, 142, [], false, false)
def mt_L_fill : am_MT := (yL_fill, cL_fill, 5, (some .int), 8, 134, [(0, 10, 13, 13), (0, 10, 17, 15)], true, false)
def mt_L_dye : am_MT := (yL_dye, cL_dye, 6, (some .int), 8, 136, [(0, 12, 15, 13), (0, 12, 19, 15), (0, 12, 23, 21)], true, false)
def mt_L_stir : am_MT := (yL_stir, cL_stir, 4, (some .int), 8, 131, [(0, 9, 12, 13)], true, false)
def mt_L_capacity : am_MT := (yL_capacity, cL_capacity, 5, (some .int), 8, 135, [(0, 10, 13, 13), (0, 10, 17, 15)], true, false)
def mt_L_valve : am_MT := (yL_valve, cL_valve, 8, (some .int), 8, 139, [(0, 16, 19, 13), (0, 16, 23, 15), (0, 16, 27, 21)], true, false)
def mt_L_close : am_MT := (yL_close, cL_close, 4, (some .int), 8, 132, [(0, 9, 12, 13)], true, false)
def mt_L_pipe : am_MT := (yL_pipe, cL_pipe, 5, (some .int), 8, 132, [(0, 10, 13, 13), (0, 10, 17, 15)], true, false)
def mt_L_set : am_MT := (yL_set, cL_set, 4, (some .int), 8, 134, [(0, 9, 12, 15)], true, false)
def mt_L_pass : am_MT := (yL_pass, cL_pass, 4, (some .int), 8, 134, [(0, 9, 12, 15), (0, 9, 15, 21)], true, false)
def mt_L_append : am_MT := (yL_append, cL_append, 4, (some .int), 8, 133, [(0, 9, 12, 15), (0, 9, 15, 21)], true, false)
def mt_L_load : am_MT := (yL_load, cL_load, 3, (some .int), 7, 148, [(0, 8, 11, 15), (0, 8, 14, 21)], true, false)
def mt_L_keep : am_MT := (yL_keep, cL_keep, 4, (some .int), 8, 133, [(0, 9, 12, 15)], true, false)
def mt_L_goBack : am_MT := (yL_goBack, cL_goBack, 4, (some .int), 8, 133, [(0, 9, 12, 15), (0, 9, 15, 21)], true, false)
def mt_L_undo : am_MT := (yL_undo, cL_undo, 3, (some .int), 7, 110, [(0, 8, 11, 21)], true, false)
def mt_L_vatOf : am_MT := (yL_vatOf, cL_vatOf, 5, (some .int), 8, 134, [(0, 10, 13, 13), (0, 10, 17, 15)], true, false)
def mt_L_valveOf : am_MT := (yL_valveOf, cL_valveOf, 5, (some .int), 8, 134, [(0, 10, 13, 13), (0, 10, 17, 15)], true, false)
def mt_L_dyeOf : am_MT := (yL_dyeOf, cL_dyeOf, 5, (some .int), 8, 134, [(0, 10, 13, 13), (0, 10, 17, 15)], true, false)
def mt_L_count : am_MT := (yL_count, cL_count, 4, (some .int), 8, 133, [(0, 9, 12, 15)], true, false)
def mt_L_ifPassed : am_MT := (yL_ifPassed, cL_ifPassed, 6, (some .int), 8, 135, [(0, 12, 15, 13), (0, 12, 19, 15)], true, false)
def mt_L_emptyIn : am_MT := (yL_emptyIn, cL_emptyIn, 4, (some .int), 8, 137, [(0, 9, 12, 13)], true, false)
def mt_L_round : am_MT := (yL_round, cL_round, 4, (some .int), 8, 159, [(0, 9, 12, 15)], true, false)
def mt_L_law : am_MT := (yL_law, cL_law, 9, (some .boolean), 11, 402, [], true, true)
def am_mts : List am_MT := [mt_J_isNaN, mt_J_doubleToLongBits, mt_J_bitCount, mt_S_takeFrom, mt_S_hourOfDay, mt_S_limitIn, mt_S_pipesLaid, mt_S_waterInAll, mt_S_vatProperty, mt_S_valveProperty, mt_S_dyeProperty, mt_S_removeValve, mt_S_takeValves, mt_S_dissolveSettled, mt_S_runHours, mt_S_runValves, mt_S_levelPipes, mt_S_settleGrains, mt_S_moveWater, mt_S_isOpen, mt_S_grainsInAll, mt_S_strongestVat, mt_S_isVat, mt_T_readCodes, mt_T_endsWell, mt_T_takesCode, mt_T_takesDigit, mt_T_isWholeNumber, mt_T_canBecomeWhole, mt_T_leastOfPart, mt_T_mostOfPart, mt_D_beginWith, mt_D_findByRunners, mt_D_findByLookingBack, mt_D_reachDay, mt_D_isSameLook, mt_V_fill, mt_V_dye, mt_V_stir, mt_V_capacity, mt_V_valve, mt_V_close, mt_V_pipe, mt_V_set, mt_V_pass, mt_V_append, mt_V_clearBuffer, mt_V_firstError, mt_V_load, mt_V_keep, mt_V_goBack, mt_V_undo, mt_V_vatOf, mt_V_valveOf, mt_V_dyeOf, mt_V_count, mt_V_ifPassed, mt_V_emptyIn, mt_V_round, mt_V_mainValve, mt_V_goneShare, mt_V_digest, mt_V_hashVats, mt_V_hashValves, mt_V_hashDyes, mt_V_bitsOfShare, mt_V_numberOf, mt_V_findEmptyHours, mt_V_saveState, mt_V_refuse, mt_V_requireVat, mt_V_requireDye, mt_V_requireValve, mt_V_requireRange, mt_Z_thrown, mt_Z_in, mt_Z_least, mt_Z_of, mt_Z_setVat, mt_Z_add, mt_Z_valveNow, mt_Z_isVat, mt_Z_isDye, mt_Z_isValve, mt_Z_hourOfDay, mt_Z_holds, mt_Z_isOpen, mt_Z_record, mt_Z_undo, mt_Z_keep, mt_Z_goBack, mt_Z_putAside, mt_Z_putBack, mt_Z_fill, mt_Z_dye, mt_Z_stir, mt_Z_capacity, mt_Z_putValve, mt_Z_valve, mt_Z_dropValve, mt_Z_close, mt_Z_isPipe, mt_Z_pipe, mt_Z_set, mt_Z_move, mt_Z_level, mt_Z_settle, mt_Z_hour, mt_Z_hours, mt_Z_pass, mt_Z_append, mt_Z_clearBuffer, mt_Z_sign, mt_Z_take, mt_Z_takeSign, mt_Z_takeVat, mt_Z_canGoOn, mt_Z_takeRate, mt_Z_takeHour, mt_Z_readValve, mt_Z_readPlan, mt_Z_firstError, mt_Z_load, mt_Z_vatNow, mt_Z_vatOf, mt_Z_toldOfValve, mt_Z_valveOf, mt_Z_inVats, mt_Z_strongest, mt_Z_dyeNow, mt_Z_dyeOf, mt_Z_pipes, mt_Z_countNow, mt_Z_count, mt_Z_leftBehind, mt_Z_ifPassed, mt_Z_hoursToEmpty, mt_Z_emptyIn, mt_Z_isSameLook, mt_Z_findRound, mt_Z_round, mt_Z_findMainValve, mt_Z_mainValve, mt_Z_shareGone, mt_Z_goneShare, mt_Z_digest, mt_L_fill, mt_L_dye, mt_L_stir, mt_L_capacity, mt_L_valve, mt_L_close, mt_L_pipe, mt_L_set, mt_L_pass, mt_L_append, mt_L_load, mt_L_keep, mt_L_goBack, mt_L_undo, mt_L_vatOf, mt_L_valveOf, mt_L_dyeOf, mt_L_count, mt_L_ifPassed, mt_L_emptyIn, mt_L_round]
def am_nth : List am_MT → Nat → am_MT
  | [], _ => mt_J_isNaN
  | t :: _, 0 => t
  | _ :: r, k + 1 => am_nth r k
def am_mt (k : Nat) : am_MT := am_nth am_mts k
end
section
/-! THE ABSTRACT MACHINE: a method's code over a world of 27 cells whose references never change; its memory is a number for each place of each cell.
References on the stack are the numbers of cells (27: the script, 28: the constant of signs, 29 + q: the address q). -/
abbrev am_M : Type := Nat → Nat → Int32
/-- the script: its length and its numbers -/
abbrev am_S : Type := Nat × (Nat → Int32)
def am_rv (L : am_S) (M : am_M) (k : Nat) : Nat → Int32
  | 27 => L.2 k
  | o => M o k
abbrev am_O : Type := Option Value ⊕ String
abbrev am_Q : Type := am_O → am_M → Prop
/-- an instruction, its length, and three numbers that say what it links -/
abbrev am_I : Type := Instr × Nat × Nat × Nat × Nat
def am_k : Int → Int32
  | .ofNat n => nI n
  | .negSucc n => -nI (n + 1)
def am_set (M : am_M) (o : Nat) (f : Nat → Int32) : am_M := fun q => if q = o then f else M q
abbrev am_cls : List vw_C := [(RX0, TX0, 5), (RX1, TX1, 1), (RX2, TX2, 7), (RX3, TX3, 9), (RX4, TX4, 17)]
/-- a cell's class -/
def am_ci : Nat → Nat
  | 0 => 3 | 1 => 1 | 3 => 1 | 5 => 0 | 6 => 1 | 9 => 2 | 17 => 4 | _ => 9
/-- fields of a class -/
def am_nf : Nat → Nat
  | 0 => 5 | 1 => 1 | 2 => 7 | 3 => 9 | 4 => 17 | _ => 0
/-- the cell that a field refers to; 0: a number -/
def am_fr : Nat → Nat → Nat
  | 0, 0 => 6 | 0, 1 => 8
  | 2, 0 => 10 | 2, 2 => 11 | 2, 4 => 12
  | 3, 0 => 1 | 3, 1 => 3 | 3, 2 => 5 | 3, 3 => 9 | 3, 4 => 13 | 3, 5 => 14 | 3, 6 => 15 | 3, 7 => 16
  | 4, 1 => 18 | 4, 2 => 19 | 4, 3 => 20 | 4, 5 => 21 | 4, 6 => 22 | 4, 7 => 23 | 4, 9 => 24 | 4, 12 => 25
  | _, _ => 0
def am_v0 (o k : Nat) (M : am_M) : Nat → Value
  | 0 => .int (M o k)
  | r + 1 => .ref (r + 1)
def am_val (ci o k : Nat) (M : am_M) : Value := match ci with
  | 1 => .ref (o + 1)
  | _ => am_v0 o k M (am_fr ci k)
/-- an array's length; L: the script's -/
def am_len (L : Nat) : Nat → Nat
  | 2 => 105 | 4 => 105 | 7 => 105 | 8 => 4235 | 10 => 60 | 11 => 40 | 12 => 5 | 13 => 5 | 14 => 210 | 15 => 2 | 16 => 630
  | 18 => 105 | 19 => 105 | 20 => 630 | 21 => 210 | 22 => 2 | 23 => 60 | 24 => 2135 | 25 => 40 | 26 => 1 | 27 => L | _ => 0
/-- 0: an array of ints, 1: of booleans, 2: of longs, 3: the script, 9: an object -/
def am_kd : Nat → Nat
  | 0 => 9 | 1 => 9 | 3 => 9 | 5 => 9 | 6 => 9 | 9 => 9 | 17 => 9 | 15 => 1 | 22 => 1 | 26 => 2 | 27 => 3 | 28 => 9
  | 2 => 0 | 4 => 0 | 7 => 0 | 8 => 0 | 10 => 0 | 11 => 0 | 12 => 0 | 13 => 0 | 14 => 0 | 16 => 0 | 18 => 0 | 19 => 0 | 20 => 0 | 21 => 0 | 23 => 0 | 24 => 0 | 25 => 0 | _ => 9
def am_tv (a : Nat → Nat) : Value → Value
  | .ref o => .ref (if o < 29 then a o else o - 29)
  | v => v
def am_e (a : Nat → Nat) (g : ClassId × ClassId × ClassId) (M : am_M) (o : Nat) : va_E := match am_kd o with
  | 0 => .inl (g.1, am_len 0 o, .inl (M o))
  | 1 => .inl (g.2.1, am_len 0 o, .inl (M o))
  | 2 => .inl (g.2.2, am_len 0 o, .inr (.inl (fun i => (M o i).toInt64)))
  | _ => .inr (am_ci o, (List.range (am_nf (am_ci o))).map (fun k => am_tv a (am_val (am_ci o) o k M)))
def am_w (a : Nat → Nat) (g : ClassId × ClassId × ClassId) (M : am_M) : va_W := (List.range 27).map (fun o => (a o, am_e a g M o))
def am_tys (g : ClassId × ClassId × ClassId) : List (ClassId × FieldType) := [(g.1, .int), (g.2.1, .boolean), (g.2.2, .long)]
-- locals
def am_s1 (ls : List Value) (k : Nat) (v : Value) : List Value := match k with
  | 0 => ls.set 0 v
  | j + 1 => match ls[j]? with
    | some (.long _) => (ls.set j .null).set (j + 1) v
    | some (.double _) => (ls.set j .null).set (j + 1) v
    | _ => ls.set (j + 1) v
def am_s2 (ls : List Value) (k : Nat) (v : Value) : List Value := (am_s1 ls k v).set (k + 1) .null
def am_li (ls st : List Value) (k : Nat) : Option (List Value) := match ls[k]? with
  | some (.int x) => some (.int x :: st)
  | _ => none
def am_la (ls st : List Value) (k : Nat) : Option (List Value) := match ls[k]? with
  | some (.ref x) => some (.ref x :: st)
  | _ => none
def am_ll (ls st : List Value) (k : Nat) : Option (List Value) := match ls[k]? with
  | some (.long x) => some (.long x :: st)
  | _ => none
def am_ld (ls st : List Value) (k : Nat) : Option (List Value) := match ls[k]? with
  | some (.double x) => some (.double x :: st)
  | _ => none
def am_i2 (f : Int32 → Int32 → Int32) (st : List Value) : Option (List Value) := match st with
  | .int y :: .int x :: r => some (.int (f x y) :: r)
  | _ => none
def am_l2 (f : Int64 → Int64 → Int64) (st : List Value) : Option (List Value) := match st with
  | .long y :: .long x :: r => some (.long (f x y) :: r)
  | _ => none
/-- what only moves the stack -/
def am_pu (i : Instr) (ls st : List Value) : Option (List Value) := match i with
  | .iconst k => some (.int (am_k k) :: st)
  | .bipush k => some (.int (am_k k) :: st)
  | .sipush k => some (.int (am_k k) :: st)
  | .lconst k => some (.long (lN k) :: st)
  | .dconst k => some (.double (if k = 0 then FP.dconst0 else FP.dconst1) :: st)
  | .iload_n k => am_li ls st k
  | .iload k => am_li ls st k
  | .aload_n k => am_la ls st k
  | .aload k => am_la ls st k
  | .lload_n k => am_ll ls st k
  | .lload k => am_ll ls st k
  | .dload_n k => am_ld ls st k
  | .dload k => am_ld ls st k
  | .iadd => am_i2 (fun x y => x + y) st
  | .isub => am_i2 (fun x y => x - y) st
  | .imul => am_i2 (fun x y => x * y) st
  | .iand => am_i2 (fun x y => x &&& y) st
  | .ixor => am_i2 (fun x y => x ^^^ y) st
  | .ishl => am_i2 (fun x y => x <<< (y &&& 31)) st
  | .ishr => am_i2 (fun x y => x >>> (y &&& 31)) st
  | .iushr => am_i2 (fun x y => (x.toUInt32 >>> (y.toUInt32 &&& Int32.toUInt32 31)).toInt32) st
  | .ladd => am_l2 (fun x y => x + y) st
  | .lsub => am_l2 (fun x y => x - y) st
  | .lmul => am_l2 (fun x y => x * y) st
  | .ineg => match st with
    | .int x :: r => some (.int (-x) :: r)
    | _ => none
  | .lshl => match st with
    | .int y :: .long x :: r => some (.long (x <<< (y.toInt64 &&& 63)) :: r)
    | _ => none
  | .lcmp => match st with
    | .long y :: .long x :: r => some (.int (lg_cmp x y) :: r)
    | _ => none
  | .dcmp op => match st with
    | .double y :: .double x :: r => some (.int (Op.cmpValue (FP.dcmp x y) op) :: r)
    | _ => none
  | .i2l => match st with
    | .int x :: r => some (.long x.toInt64 :: r)
    | _ => none
  | .i2d => match st with
    | .int x :: r => some (.double (FP.i2d x) :: r)
    | _ => none
  | .d2l => match st with
    | .double x :: r => some (.long (FP.d2l x) :: r)
    | _ => none
  | .dup => match st with
    | .int x :: r => some (.int x :: .int x :: r)
    | .ref x :: r => some (.ref x :: .ref x :: r)
    | _ => none
  | .dup2 => match st with
    | .int x :: .ref y :: r => some (.int x :: .ref y :: .int x :: .ref y :: r)
    | _ => none
  | .pop => match st with
    | .int _ :: r => some r
    | _ => none
  | _ => none
/-- what writes a local -/
def am_sto (i : Instr) (ls st : List Value) : Option (List Value × List Value) := match i with
  | .istore_n k => match st with
    | .int x :: r => some (am_s1 ls k (.int x), r)
    | _ => none
  | .istore k => match st with
    | .int x :: r => some (am_s1 ls k (.int x), r)
    | _ => none
  | .astore_n k => match st with
    | .ref x :: r => some (am_s1 ls k (.ref x), r)
    | _ => none
  | .astore k => match st with
    | .ref x :: r => some (am_s1 ls k (.ref x), r)
    | _ => none
  | .lstore_n k => match st with
    | .long x :: r => some (am_s2 ls k (.long x), r)
    | _ => none
  | .lstore k => match st with
    | .long x :: r => some (am_s2 ls k (.long x), r)
    | _ => none
  | .dstore_n k => match st with
    | .double x :: r => some (am_s2 ls k (.double x), r)
    | _ => none
  | .dstore k => match st with
    | .double x :: r => some (am_s2 ls k (.double x), r)
    | _ => none
  | .iinc k d => match ls[k]? with
    | some (.int x) => some (am_s1 ls k (.int (x + am_k d)), st)
    | _ => none
  | _ => none
def am_c1 : ClassFile.Cond → Int32 → Prop
  | .eq, x => x = 0
  | .ne, x => ¬ x = 0
  | .lt, x => x < 0
  | .ge, x => 0 ≤ x
  | .gt, x => 0 < x
  | .le, x => x ≤ 0
def am_c2 : ClassFile.Cond → Int32 → Int32 → Prop
  | .eq, x, y => x = y
  | .ne, x, y => ¬ x = y
  | .lt, x, y => x < y
  | .ge, x, y => y ≤ x
  | .gt, x, y => y < x
  | .le, x, y => x ≤ y
def am_args : Nat → List Value → List Value → Option (List Value × List Value)
  | 0, acc, st => some (acc, st)
  | n + 1, acc, v :: st => am_args n (v :: acc) st
  | _ + 1, _, [] => none
def am_cat : List Value → Nat
  | [] => 0
  | v :: r => v.category + am_cat r
def am_ex : Nat → String
  | 0 => "java/lang/IndexOutOfBoundsException"
  | 1 => "java/lang/IllegalArgumentException"
  | _ => "java/lang/IllegalStateException"
/-- the law's class links of the three -/
def am_xl : Nat → String
  | 13 => "java/lang/IndexOutOfBoundsException"
  | 15 => "java/lang/IllegalArgumentException"
  | _ => "java/lang/IllegalStateException"
/-- where a table catches -/
def am_hd (E : String) : List (Nat × Nat × Nat × Nat) → Option Nat
  | [] => none
  | h :: r => if am_xl h.2.2.2 = E then some h.2.2.1 else am_hd E r
def am_sg : Nat → Int32
  | 0 => nI 62 | 1 => nI 42 | 2 => nI 64 | 3 => nI 45 | _ => nI 59
/-- the texts of the system's exceptions: their places -/
abbrev am_tx : List (Nat × String) := [(218, "no such vat"), (225, "out of range"), (221, "no such dye"), (75, "too many grains of this dye"), (86, "a valve goes to another vat"), (89, "no more valves"), (223, "no such valve"), (97, "a pipe goes to another vat"), (99, "too many hours"), (107, "the buffer is full"), (119, "no plan as a text"), (124, "too many valves"), (142, "no snapshot in the slot"), (144, "nothing to undo")]
-- what of the launch is asked, beside the tables' words
def am_CH (q : Nat) (A : Nat → Prop) (s : State) (H : Heap) : Prop := vk_R RX2 45 ">*@-;" q s ∧ (∃ adV : Nat → Nat, vk_S 1 [5] [[62, 42, 64, 45, 59]] (fun _ => q) adV A s H) ∧ va_Z "java/lang/String" "COMPACT_STRINGS" "Z" (.int 1) A s H ∧ va_Zq "jdk/internal/util/Preconditions" "SIOOBE_FORMATTER" "Ljava/util/function/BiFunction;" A s H
abbrev am_dn : List MethodName := [⟨"java/lang/RuntimeException", "<init>", "(Ljava/lang/String;)V"⟩, ⟨"java/lang/Exception", "<init>", "(Ljava/lang/String;)V"⟩, ⟨"java/lang/Throwable", "<init>", "(Ljava/lang/String;)V"⟩]
def am_SF (q : Nat) (A : Nat → Prop) (s : State) (H : Heap) : Prop := vx_Zq Bundle.tN "UNASSIGNED_STACK" Bundle.steD A s H ∧ vx_Zq Bundle.tN "SUPPRESSED_SENTINEL" Bundle.listD A s H ∧ (∀ t ∈ am_tx, ∃ sa : Nat, vk_R RX3 t.1 t.2 sa s) ∧ am_CH q A s H ∧ (∀ i j : Nat, am_ex i ≠ am_ex j → va_Nc (am_ex i) (am_ex j) s) ∧ (∀ i : Nat, va_Nw (.castable (am_ex i) (am_ex i)) s) ∧ ∀ x ∈ am_dn, va_Nw (.declares x) s
abbrev am_good : List Jvm.Cond := lw_tbl.filter goodWord
def am_ws (t : am_MT) : List Jvm.Cond := (match mt_h t with
  | [] => Jvm.Cond.code (mt_y t) (mt_b t) (mt_l t) (mt_r t)
  | h => Jvm.Cond.codeWith (mt_y t) (mt_b t) (mt_l t) (mt_r t) h) :: am_good
def am_rm (t : am_MT) : Room := { frames := mt_rf t, cells := 1, slots := 6, locals := mt_rl t }
-- a method's contract
def am_Pre (a : Nat → Nat) (D : va_G) (g : ClassId × ClassId × ClassId) (M : am_M) (sz : Nat) (U : State) : Prop := U.heap.size = sz ∧ va_P D am_cls (am_w a g M) U.heap ∧ va_K D am_cls (am_tys g) U ∧ va_D (fun _ => True) (am_w a g M) ∧ am_SF (a 28) (va_A (am_w a g M) sz) U U.heap
def am_Qc (t : am_MT) (a : Nat → Nat) (D : va_G) (g : ClassId × ClassId × ClassId) (A : Nat → Prop) (K : am_Q) : Array Value → State → Outcome → State → Prop := fun _ st oc u =>
  (∃ (v : Option Value) (M : am_M), oc = .returned (v.map (am_tv a)) ∧ K (.inl v) M ∧ va_P D am_cls (am_w a g M) u.heap) ∧ va_F A st u ∧ (mt_g t = false → ∃ L, FrameEnd st oc u L 0 0)
def am_XC (a : Nat → Nat) (D : va_G) (g : ClassId × ClassId × ClassId) (A : Nat → Prop) (K : am_Q) : String → State → State → Prop := fun E st u =>
  (∃ M : am_M, K (.inr E) M ∧ va_P D am_cls (am_w a g M) u.heap) ∧ va_F A st u
/-- called with the arguments av in the memory M, the method comes to an outcome and a memory with K -/
def am_C (t : am_MT) (av : List Value) (M : am_M) (K : am_Q) : Prop := ∀ (l : Launch) (a : Nat → Nat) (D : va_G) (g : ClassId × ClassId × ClassId) (sz : Nat), l.stackTraces = false →
  vx_Met l (mt_y t) (am_ws t) (am_rm t) (va_Pc (av.map (am_tv a)) (am_Pre a D g M sz)) (am_Qc t a D g (va_A (am_w a g M) sz) K) (am_XC a D g (va_A (am_w a g M) sz) K) 1 6 (va_A (am_w a g M) sz)
-- inside a method
def am_Env (p : Program) (l : Launch) (R : Room) (s : State) (m : MethodId) (args : Array Value) (meth : Method) (c : Code) (t : am_MT) : Prop :=
  p.tables.exec = Jvm.exec ∧ c.code = mt_b t ∧ c.maxLocals = mt_l t ∧ s.vm.findClass (mt_y t).cls = some m.cls ∧ (∀ w ∈ am_good, w.before args s = true) ∧ meth.locks = false ∧ l.stackTraces = false ∧ c.exceptionTable.toList = tableOf (mt_h t) ∧ meth.sig.returnType = mt_r t ∧ mt_rf t ≤ R.frames ∧ mt_rl t ≤ R.locals
def am_Wl (L : am_S) (t : am_MT) (a : Nat → Nat) (D : va_G) (g : ClassId × ClassId × ClassId) (A : Nat → Prop) (s : State) (M : am_M) (H : Heap) (locs : List Loc) : Prop :=
  va_P D am_cls (am_w a g M) H ∧ va_S A s.heap H locs ∧ (mt_w t = true → va_X (a 27) L.1 L.2 s s.heap)
def am_Ct (L : am_S) (t : am_MT) (a : Nat → Nat) (D : va_G) (g : ClassId × ClassId × ClassId) (A : Nat → Prop) (s : State) : Prop :=
  va_K D am_cls (am_tys g) s ∧ (∀ M : am_M, va_D A (am_w a g M)) ∧ (∀ q : Nat, s.heap.size ≤ q → A q) ∧ am_SF (a 28) A s s.heap ∧ (mt_w t = true → a 27 < s.heap.size ∧ ¬ A (a 27))
def am_lv (a : Nat → Nat) (n : Nat) (ls : List Value) (la : Array Slot) : Prop := la.size = n ∧ lv_wf la ∧ ls.length = n ∧ ∀ (i : Nat) (v : Value), ls[i]? = some v → v ≠ .null → la[i]? = some (.val (am_tv a v))
/-- an instruction that returns v -/
def am_ri (t : am_MT) (v : Option Value) (i : Instr) : Prop := match v with
  | none => i = .return_ ∧ mt_r t = none
  | some (.int x) => i = .ireturn ∧ ∃ ty, mt_r t = some ty ∧ narrow ty (.int x) = .int x
  | some (.long _) => i = .lreturn ∧ mt_r t = some .long
  | some (.double _) => i = .dreturn ∧ mt_r t = some .double
  | _ => False
def am_End (p : Program) (l : Launch) (e : Env) (R : Room) (s : State) (m : MethodId) (args : Array Value) (below : List Frame) (meth : Method) (c : Code) (L : am_S) (t : am_MT) (a : Nat → Nat) (D : va_G) (g : ClassId × ClassId × ClassId) (A : Nat → Prop) (cells slots n : Nat) (QQ : State → Prop) (Q : am_Q) : Prop :=
  ∀ k : Nat, k ≤ n → (mt_g t = false → k = 0) →
    (∀ (v : Option Value) (M : am_M) (H : Heap) (locs : List Loc) (pc : Nat) (la : Array Slot) (i : Instr), Q (.inl v) M → am_Wl L t a D g A s M H locs → am_ri t v i → decode (mt_b t) pc = .ok (i, 1) → la.size = mt_l t →
      W p l e R s m args below meth c H locs (cells + k) (slots + 6 * k) QQ (F0 m pc la ((v.map (am_tv a)).toList))) ∧
    (∀ (E : String) (M : am_M) (H : Heap) (locs : List Loc) (pc : Nat) (la : Array Slot) (rest : List Value) (q : Addr) (ce : Cell), Q (.inr E) M → am_Wl L t a D g A s M H locs → H[q]? = some ce → ce.vm = .none → s.vm.findClass E = some ce.cls → mt_h t = [] → k + 1 ≤ n →
      vx_W p l e R s m args below meth c H locs (cells + k + 1) (slots + 6 * k + 6) QQ (F0 m pc la rest) q) ∧
    (∀ (x : Nat) (M : am_M) (H : Heap) (locs : List Loc) (pc : Nat) (la : Array Slot) (rest : List Value) (ik ii ic : Nat), Q (.inr (am_ex x)) M → am_Wl L t a D g A s M H locs → mt_h t = [] → x < 3 → k + 1 ≤ n → la.size = mt_l t → am_cat rest ≤ 8 → (mt_y t).cls = RX3 → 6 ≤ mt_rf t → 90 ≤ mt_rl t →
      ik = (match x with | 0 => 216 | 1 => 84 | _ => 73) → ic = (match x with | 0 => 220 | 1 => 88 | _ => 77) → (∃ tx, (ii, tx) ∈ am_tx) →
      decode (mt_b t) pc = .ok (.new ik, 3) → decode (mt_b t) (pc + 3) = .ok (.dup, 1) → decode (mt_b t) (pc + 4) = .ok (.ldc ii, 2) → decode (mt_b t) (pc + 6) = .ok (.invokespecial ic, 3) → decode (mt_b t) (pc + 9) = .ok (.athrow, 1) →
      W p l e R s m args below meth c H locs (cells + k) (slots + 6 * k) QQ (F0 m pc la rest))
/-- from the place pc of the method t, with locals ls, stack st and memory M, with n exceptions still free: the method comes to an end with Q -/
def am_R (L : am_S) (t : am_MT) (n pc : Nat) (ls st : List Value) (M : am_M) (Q : am_Q) : Prop :=
  ∀ (p : Program) (l : Launch) (e : Env) (R : Room) (s : State) (m : MethodId) (args : Array Value) (below : List Frame) (meth : Method) (c : Code) (a : Nat → Nat) (D : va_G) (g : ClassId × ClassId × ClassId) (A : Nat → Prop) (cells slots : Nat) (QQ : State → Prop),
    am_Env p l R s m args meth c t → am_Ct L t a D g A s → cells + n ≤ R.cells → slots + 6 * n ≤ R.slots → am_End p l e R s m args below meth c L t a D g A cells slots n QQ Q →
    ∀ (H : Heap) (locs : List Loc) (la : Array Slot), am_Wl L t a D g A s M H locs → am_lv a (mt_l t) ls la → W p l e R s m args below meth c H locs cells slots QQ (F0 m pc la (st.map (am_tv a)))
def am_rd (t : am_MT) (a : Nat) : Bool := Nat.beq (am_kd a) 0 || (Nat.beq a 27 && mt_w t)
/-- the class number of a method's own class -/
def am_cx (x : Nat) : Nat := if x < 3 then 8 else if x < 23 then 1 else if x < 31 then 2 else if x < 36 then 0 else if x < 74 then 3 else if x < 146 then 4 else 8
def am_sw (r : Nat → Prop) (x : Int32) (pc : Nat) : List Int → Int → Prop
  | [], _ => True
  | o :: os, k => (x.toInt = k → r ((pc : Int) + o).toNat) ∧ am_sw r x pc os (k + 1)
def am_ls (r : Nat → Prop) (x : Int32) (pc : Nat) (d : Int) : List (Int × Int) → Prop
  | [] => r ((pc : Int) + d).toNat
  | q :: os => (x.toInt = q.1 → r ((pc : Int) + q.2).toNat) ∧ (¬ x.toInt = q.1 → am_ls r x pc d os)
/-- what a straight stretch of code asks -/
def am_B (L : am_S) (t : am_MT) : List am_I → Nat → Nat → List Value → List Value → am_M → am_Q → Prop
  | [], n, pc, ls, st, M, Q => am_R L t n pc ls st M Q
  | (i, w, x, y, _) :: is, n, pc, ls, st, M, Q => match am_pu i ls st with
    | some st' => am_B L t is n (pc + w) ls st' M Q
    | none => match am_sto i ls st with
      | some q => am_B L t is n (pc + w) q.1 q.2 M Q
      | none => match i, st with
        | .ifCond cd o, .int v :: r => (am_c1 cd v → am_R L t n ((pc : Int) + o).toNat ls r M Q) ∧ (¬ am_c1 cd v → am_B L t is n (pc + w) ls r M Q)
        | .if_icmp cd o, .int v2 :: .int v1 :: r => (am_c2 cd v1 v2 → am_R L t n ((pc : Int) + o).toNat ls r M Q) ∧ (¬ am_c2 cd v1 v2 → am_B L t is n (pc + w) ls r M Q)
        | .goto o, r => am_R L t n ((pc : Int) + o).toNat ls r M Q
        | .tableswitch d lo hi os, .int v :: r => ((v.toInt < lo ∨ hi < v.toInt) → am_R L t n ((pc : Int) + d).toNat ls r M Q) ∧ am_sw (fun tg => am_R L t n tg ls r M Q) v pc os.toList lo
        | .lookupswitch d ps, .int v :: r => am_ls (fun tg => am_R L t n tg ls r M Q) v pc d ps.toList
        | .ldc _, r => match y with
          | 0 => am_B L t is n (pc + w) ls (.int (nI x) :: r) M Q
          | _ => am_B L t is n (pc + w) ls (.ref 28 :: r) M Q
        | .ldc_w _, r => am_B L t is n (pc + w) ls (.int (nI x) :: r) M Q
        | .ldc2_w _, r => match y with
          | 0 => am_B L t is n (pc + w) ls (.long (lN x) :: r) M Q
          | _ => am_B L t is n (pc + w) ls (.double (UInt64.ofNat x) :: r) M Q
        | .idiv, .int v2 :: .int v1 :: r => ¬ v2 = 0 ∧ am_B L t is n (pc + w) ls (.int (v1 / v2) :: r) M Q
        | .irem, .int v2 :: .int v1 :: r => ¬ v2 = 0 ∧ am_B L t is n (pc + w) ls (.int (v1 - v1 / v2 * v2) :: r) M Q
        | .ddiv, .double v2 :: .double v1 :: r => vf_n64 (FP.ddiv v1 v2) ∧ am_B L t is n (pc + w) ls (.double (FP.ddiv v1 v2) :: r) M Q
        | .dmul, .double v2 :: .double v1 :: r => vf_n64 (FP.dmul v1 v2) ∧ am_B L t is n (pc + w) ls (.double (FP.dmul v1 v2) :: r) M Q
        | .dsub, .double v2 :: .double v1 :: r => vf_n64 (FP.dsub v1 v2) ∧ am_B L t is n (pc + w) ls (.double (FP.dsub v1 v2) :: r) M Q
        | .getfield _, .ref o :: r => match Nat.beq (am_ci o) x with
          | true => am_B L t is n (pc + w) ls (am_val x o y M :: r) M Q
          | false => False
        | .putfield _, .int v :: .ref o :: r => match Nat.beq (am_ci o) x with
          | true => match Nat.beq (17 * x + y) 83 with
            | true => (v = 0 ∨ v = 1) ∧ am_B L t is n (pc + w) ls r (am_set M o (upd (M o) y v)) Q
            | false => am_B L t is n (pc + w) ls r (am_set M o (upd (M o) y v)) Q
          | false => False
        | .arraylength, .ref o :: r => match am_rd t o with
          | true => am_B L t is n (pc + w) ls (.int (nI (am_len L.1 o)) :: r) M Q
          | false => False
        | .iaload, .int v :: .ref o :: r => match am_rd t o with
          | true => ∃ k : Nat, v = nI k ∧ k < am_len L.1 o ∧ am_B L t is n (pc + w) ls (.int (am_rv L M k o) :: r) M Q
          | false => False
        | .baload, .int v :: .ref o :: r => match Nat.beq (am_kd o) 1 with
          | true => ∃ k : Nat, v = nI k ∧ k < am_len L.1 o ∧ am_B L t is n (pc + w) ls (.int (M o k) :: r) M Q
          | false => False
        | .laload, .int v :: .ref o :: r => match Nat.beq (am_kd o) 2 with
          | true => ∃ k : Nat, v = nI k ∧ k < am_len L.1 o ∧ am_B L t is n (pc + w) ls (.long (M o k).toInt64 :: r) M Q
          | false => False
        | .iastore, .int z :: .int v :: .ref o :: r => match Nat.beq (am_kd o) 0 with
          | true => ∃ k : Nat, v = nI k ∧ k < am_len L.1 o ∧ am_B L t is n (pc + w) ls r (am_set M o (upd (M o) k z)) Q
          | false => False
        | .bastore, .int z :: .int v :: .ref o :: r => match Nat.beq (am_kd o) 1 with
          | true => (z = 0 ∨ z = 1) ∧ ∃ k : Nat, v = nI k ∧ k < am_len L.1 o ∧ am_B L t is n (pc + w) ls r (am_set M o (upd (M o) k z)) Q
          | false => False
        | .lastore, .long z :: .int v :: .ref o :: r => match Nat.beq (am_kd o) 2 with
          | true => ∃ k : Nat, v = nI k ∧ k < am_len L.1 o ∧ ∃ z' : Int32, z = z'.toInt64 ∧ am_B L t is n (pc + w) ls r (am_set M o (upd (M o) k z')) Q
          | false => False
        | .ireturn, [.int v] => match mt_r t with
          | some .int => Q (.inl (some (.int v))) M
          | some .boolean => (v = 0 ∨ v = 1) ∧ Q (.inl (some (.int v))) M
          | _ => False
        | .lreturn, [.long v] => match mt_r t with
          | some .long => Q (.inl (some (.long v))) M
          | _ => False
        | .dreturn, [.double v] => match mt_r t with
          | some .double => Q (.inl (some (.double v))) M
          | _ => False
        | .return_, [] => match mt_r t with
          | none => Q (.inl none) M
          | _ => False
        | .new _, [] => match n with
          | 0 => False
          | _ + 1 => Q (.inr (am_ex x)) M
        | .invokestatic _, st => match x with
          | 200 => match st with
            | .int v2 :: .int v1 :: r => match Nat.ble (am_cat r) 8 with
              | true => am_B L t is n (pc + w) ls (.int (if v2 < v1 then v2 else v1) :: r) M Q
              | false => False
            | _ => False
          | 201 => match st with
            | .int v2 :: .int v1 :: r => match Nat.ble (am_cat r) 8 with
              | true => am_B L t is n (pc + w) ls (.int (if v1 < v2 then v2 else v1) :: r) M Q
              | false => False
            | _ => False
          | 202 => match st with
            | .int nn :: .int dp :: .ref d :: .int sp :: .ref o :: r => match Nat.ble (am_cat r) 8 && (Nat.beq (am_kd o) 0 && Nat.beq (am_kd d) 0) with
              | true => ∃ sk dk nk : Nat, sp = nI sk ∧ dp = nI dk ∧ nn = nI nk ∧ sk + nk ≤ am_len L.1 o ∧ dk + nk ≤ am_len L.1 d ∧ am_B L t is n (pc + w) ls r (am_set M d (va_cpy (M o) (M d) sk dk nk)) Q
              | false => False
            | _ => False
          | 203 => match st with
            | .double b :: r => match Nat.ble (am_cat r) 8 with
              | true => am_B L t is n (pc + w) ls (.long b.toInt64 :: r) M Q
              | false => False
            | _ => False
          | _ => match am_args y [] st with
            | some (av, r) => match n, Nat.ble (am_cat r) 8 with
              | n + 1, true => am_C (am_mt x) av M (fun oc M' => match oc with
                | .inl none => am_B L t is (if mt_g (am_mt x) then n else n + 1) (pc + w) ls r M' Q
                | .inl (some v) => am_B L t is (if mt_g (am_mt x) then n else n + 1) (pc + w) ls (v :: r) M' Q
                | .inr E => match mt_h t with
                  | [] => Q (.inr E) M'
                  | h => ∃ hp, am_hd E h = some hp ∧ ∀ q : Nat, am_R L t n hp ls [.ref (29 + q)] M' Q)
              | _, _ => False
            | none => False
        | .invokevirtual _, st => match x with
          | 204 => match st with
            | .int v :: .ref 28 :: r => match Nat.ble (am_cat r) 8 with
              | true => ∃ k : Nat, v = nI k ∧ k < 5 ∧ am_B L t is n (pc + w) ls (.int (am_sg k) :: r) M Q
              | false => False
            | _ => False
          | _ => match am_args y [] st with
            | some (.ref o :: av, r) => match n, Nat.ble (am_cat r) 8 && Nat.beq (am_ci o) (am_cx x) with
              | n + 1, true => am_C (am_mt x) (.ref o :: av) M (fun oc M' => match oc with
                | .inl none => am_B L t is (n + 1) (pc + w) ls r M' Q
                | .inl (some v) => am_B L t is (n + 1) (pc + w) ls (v :: r) M' Q
                | .inr E => match mt_h t with
                  | [] => Q (.inr E) M'
                  | h => ∃ hp, am_hd E h = some hp ∧ ∀ q : Nat, am_R L t n hp ls [.ref (29 + q)] M' Q)
              | _, _ => False
            | _ => False
        | _, _ => False
end
section
/-! what the abstract machine's words mean for the kit's: worlds and locals -/
theorem am_w_get (a : Nat → Nat) (g : ClassId × ClassId × ClassId) (M : am_M) {o : Nat} (h : o < 27) : (am_w a g M)[o]? = some (a o, am_e a g M o) := by
  simp [am_w, h]
theorem am_w_len (a : Nat → Nat) (g : ClassId × ClassId × ClassId) (M : am_M) : (am_w a g M).length = 27 := by simp [am_w]
theorem am_e_same {a : Nat → Nat} {g : ClassId × ClassId × ClassId} {M M' : am_M} {o : Nat} (h : M' o = M o) : am_e a g M' o = am_e a g M o := by
  have hv : ∀ ci k, am_val ci o k M' = am_val ci o k M := by
    intro ci k
    unfold am_val
    split
    · rfl
    · unfold am_v0
      split
      · rw [h]
      · rfl
  unfold am_e
  split <;> first | rw [h] | (congr 3; funext k; rw [hv])
theorem am_w_set {a : Nat → Nat} {g : ClassId × ClassId × ClassId} {M M' : am_M} {o : Nat} {x : va_E} (h : o < 27) (hM : ∀ q, q ≠ o → M' q = M q) (hx : x = am_e a g M' o) : (am_w a g M).set o (a o, x) = am_w a g M' := by
  subst hx
  apply List.ext_getElem?
  intro k
  by_cases hk : k < 27
  · rw [am_w_get a g M' hk]
    by_cases hko : k = o
    · subst hko
      rw [List.getElem?_set_self (by rw [am_w_len]; exact hk)]
    · rw [List.getElem?_set_ne (Ne.symm hko), am_w_get a g M hk, am_e_same (hM k hko)]
  · rw [List.getElem?_eq_none (by rw [List.length_set, am_w_len]; omega), List.getElem?_eq_none (by rw [am_w_len]; omega)]
theorem am_set_ne {M : am_M} {o q : Nat} {f : Nat → Int32} (h : q ≠ o) : am_set M o f q = M q := by simp [am_set, h]
theorem am_set_eq {M : am_M} {o : Nat} {f : Nat → Int32} : am_set M o f o = f := by simp [am_set]
theorem am_D_any {a : Nat → Nat} {g : ClassId × ClassId × ClassId} {A : Nat → Prop} {M : am_M} (h : va_D A (am_w a g M)) (M' : am_M) : va_D A (am_w a g M') := by
  have key : ∀ (k : Nat) (q : Nat × va_E), (am_w a g M')[k]? = some q → ∃ e, (am_w a g M)[k]? = some (q.1, e) := by
    intro k q hk
    by_cases h27 : k < 27
    · rw [am_w_get a g M' h27] at hk
      cases hk
      exact ⟨_, am_w_get a g M h27⟩
    · rw [List.getElem?_eq_none (by rw [am_w_len]; omega)] at hk
      cases hk
  refine ⟨fun i j p q hi hj hpq => ?_, fun k q hk => ?_⟩
  · obtain ⟨e1, h1⟩ := key i p hi
    obtain ⟨e2, h2⟩ := key j q hj
    exact h.1 i j _ _ h1 h2 hpq
  · obtain ⟨e1, h1⟩ := key k q hk
    exact h.2 k (q.1, e1) h1
theorem am_A_any {a : Nat → Nat} {g : ClassId × ClassId × ClassId} {M M' : am_M} {sz q : Nat} : va_A (am_w a g M) sz q → va_A (am_w a g M') sz q := by
  rintro (⟨k, e, h⟩ | h)
  · have h27 : k < 27 := by
      have := (List.getElem?_eq_some_iff.mp h).1
      rwa [am_w_len] at this
    rw [am_w_get a g M h27] at h
    have e1 : a k = q := by
      have := Option.some.inj h
      exact congrArg Prod.fst this
    exact Or.inl ⟨k, am_e a g M' k, by rw [am_w_get a g M' h27, e1]⟩
  · exact Or.inr h
theorem am_in_A {a : Nat → Nat} {g : ClassId × ClassId × ClassId} {A : Nat → Prop} {M : am_M} (h : va_D A (am_w a g M)) {o : Nat} (ho : o < 27) : A (a o) := h.2 o _ (am_w_get a g M ho)
/-- memories that agree on the world's places make one world -/
theorem am_w_congr {a : Nat → Nat} {g : ClassId × ClassId × ClassId} {M M' : am_M} (h : ∀ o, o < 27 → am_e a g M' o = am_e a g M o) : am_w a g M' = am_w a g M := by
  apply List.ext_getElem?
  intro k
  by_cases hk : k < 27
  · rw [am_w_get a g M' hk, am_w_get a g M hk, h k hk]
  · rw [List.getElem?_eq_none (by rw [am_w_len]; omega), List.getElem?_eq_none (by rw [am_w_len]; omega)]
-- values
theorem am_tv_cat (a : Nat → Nat) (v : Value) : (am_tv a v).category = v.category := by cases v <;> rfl
theorem am_cat_map (a : Nat → Nat) : ∀ st : List Value, ((st.map (am_tv a)).map fun v => v.category).sum = am_cat st
  | [] => rfl
  | v :: r => by
    show (am_tv a v).category + ((r.map (am_tv a)).map fun v => v.category).sum = v.category + am_cat r
    rw [am_tv_cat, am_cat_map a r]
theorem am_args_spec : ∀ (n : Nat) (acc st : List Value) {av r : List Value}, am_args n acc st = some (av, r) → ∃ p, av = p.reverse ++ acc ∧ st = p ++ r ∧ p.length = n
  | 0, acc, st, av, r, h => by
    cases h
    exact ⟨[], rfl, rfl, rfl⟩
  | n + 1, acc, [], av, r, h => by cases h
  | n + 1, acc, v :: st, av, r, h => by
    obtain ⟨p, h1, h2, h3⟩ := am_args_spec n (v :: acc) st h
    exact ⟨v :: p, by rw [h1]; simp, by rw [h2]; rfl, by rw [List.length_cons, h3]⟩
-- locals
theorem am_lv_ld {a : Nat → Nat} {n : Nat} {ls : List Value} {la : Array Slot} (h : am_lv a n ls la) {k : Nat} {v : Value} (hk : ls[k]? = some v) (hv : v ≠ .null) : la[k]? = some (.val (am_tv a v)) := h.2.2.2 k v hk hv
def am_lw (a : Nat → Nat) (ls : List Value) : List (Nat × Value) := (List.range ls.length).filterMap (fun i => match ls[i]? with
  | some v => if v = .null then none else some (i, am_tv a v)
  | none => none)
theorem am_lw_mem {a : Nat → Nat} {ls : List Value} {q : Nat × Value} : q ∈ am_lw a ls ↔ ∃ v, ls[q.1]? = some v ∧ v ≠ .null ∧ q.2 = am_tv a v := by
  unfold am_lw
  rw [List.mem_filterMap]
  constructor
  · rintro ⟨i, hi, h⟩
    split at h
    · rename_i v hv
      split at h
      · cases h
      · rename_i hn
        cases h
        exact ⟨v, hv, hn, rfl⟩
    · cases h
  · rintro ⟨v, h1, h2, h3⟩
    refine ⟨q.1, List.mem_range.mpr (List.getElem?_eq_some_iff.mp h1).1, ?_⟩
    rw [h1]
    simp only [h2, if_false]
    rw [← h3]
theorem am_lv_has {a : Nat → Nat} {n : Nat} {ls : List Value} {la : Array Slot} (h : am_lv a n ls la) : lv_has la n (am_lw a ls) := by
  refine ⟨h.1, h.2.1, fun q hq => ?_⟩
  obtain ⟨v, h1, h2, h3⟩ := am_lw_mem.mp hq
  rw [h3]
  exact h.2.2.2 _ v h1 h2
theorem am_s1_len (ls : List Value) (k : Nat) (v : Value) : (am_s1 ls k v).length = ls.length := by
  unfold am_s1
  split
  · simp
  · split <;> simp
/-- what a store of one place leaves -/
theorem am_s1_get {ls : List Value} {k : Nat} {v : Value} {i : Nat} {w : Value} (hk : k < ls.length) (h : (am_s1 ls k v)[i]? = some w) (hw : w ≠ .null) : (i = k ∧ w = v) ∨ (i ≠ k ∧ ls[i]? = some w ∧ ¬ (i + 1 = k ∧ w.category = 2)) := by
  unfold am_s1 at h
  split at h
  · by_cases hi : i = 0
    · subst hi
      rw [List.getElem?_set_self hk] at h
      cases h
      exact Or.inl ⟨rfl, rfl⟩
    · rw [List.getElem?_set_ne (Ne.symm hi)] at h
      exact Or.inr ⟨hi, h, by omega⟩
  · rename_i j
    have hj : j < ls.length := by omega
    have two : ∀ h : ((ls.set j .null).set (j + 1) v)[i]? = some w, (i = j + 1 ∧ w = v) ∨ (i ≠ j + 1 ∧ ls[i]? = some w ∧ ¬ (i + 1 = j + 1 ∧ w.category = 2)) := by
      intro h
      by_cases hi : i = j + 1
      · subst hi
        rw [List.getElem?_set_self (by rw [List.length_set]; exact hk)] at h
        cases h
        exact Or.inl ⟨rfl, rfl⟩
      · rw [List.getElem?_set_ne (Ne.symm hi)] at h
        by_cases hij : i = j
        · subst hij
          rw [List.getElem?_set_self hj] at h
          cases h
          exact absurd rfl hw
        · rw [List.getElem?_set_ne (Ne.symm hij)] at h
          exact Or.inr ⟨hi, h, by omega⟩
    split at h
    · exact two h
    · exact two h
    · rename_i h1 h2
      by_cases hi : i = j + 1
      · subst hi
        rw [List.getElem?_set_self hk] at h
        cases h
        exact Or.inl ⟨rfl, rfl⟩
      · rw [List.getElem?_set_ne (Ne.symm hi)] at h
        refine Or.inr ⟨hi, h, fun q => ?_⟩
        have hij : i = j := by omega
        subst hij
        cases w with
        | long z => exact h1 z h
        | double z => exact h2 z h
        | int z => exact absurd q.2 (by simp [Value.category])
        | float z => exact absurd q.2 (by simp [Value.category])
        | null => exact absurd q.2 (by simp [Value.category])
        | ref z => exact absurd q.2 (by simp [Value.category])
        | retAddr z => exact absurd q.2 (by simp [Value.category])
theorem am_lv_s1 {a : Nat → Nat} {n k : Nat} {ls : List Value} {la la' : Array Slot} {v : Value} (h : am_lv a n ls la) (hk : k < n) (h' : lv_has la' n ((k, am_tv a v) :: (am_lw a ls).filter (fun q => !(q.1 == k) && !(q.1 + 1 == k && q.2.category == 2)))) : am_lv a n (am_s1 ls k v) la' := by
  refine ⟨h'.1, h'.2.1, by rw [am_s1_len]; exact h.2.2.1, fun i w hi hw => ?_⟩
  rcases am_s1_get (by rw [h.2.2.1]; exact hk) hi hw with ⟨rfl, rfl⟩ | ⟨h1, h2, h3⟩
  · exact h'.2.2 _ List.mem_cons_self
  · refine h'.2.2 (i, am_tv a w) (List.mem_cons_of_mem _ (List.mem_filter.mpr ⟨am_lw_mem.mpr ⟨w, h2, hw, rfl⟩, ?_⟩))
    simp only [am_tv_cat, Bool.and_eq_true, Bool.not_eq_true', beq_eq_false_iff_ne, ne_eq, Bool.and_eq_false_iff]
    refine ⟨h1, ?_⟩
    by_cases e : i + 1 = k
    · exact Or.inr (fun q => h3 ⟨e, q⟩)
    · exact Or.inl e
theorem am_lv_s2 {a : Nat → Nat} {n k : Nat} {ls : List Value} {la la' : Array Slot} {v : Value} (h : am_lv a n ls la) (hk : k + 1 < n) (h' : lv_has la' n ((k, am_tv a v) :: (am_lw a ls).filter (fun q => !(q.1 == k) && (!(q.1 == k + 1) && !(q.1 + 1 == k && q.2.category == 2))))) : am_lv a n (am_s2 ls k v) la' := by
  refine ⟨h'.1, h'.2.1, by unfold am_s2; rw [List.length_set, am_s1_len]; exact h.2.2.1, fun i w hi hw => ?_⟩
  unfold am_s2 at hi
  by_cases e1 : i = k + 1
  · subst e1
    rw [List.getElem?_set_self (by rw [am_s1_len, h.2.2.1]; exact hk)] at hi
    cases hi
    exact absurd rfl hw
  · rw [List.getElem?_set_ne (Ne.symm e1)] at hi
    rcases am_s1_get (by rw [h.2.2.1]; omega) hi hw with ⟨rfl, rfl⟩ | ⟨h1, h2, h3⟩
    · exact h'.2.2 _ List.mem_cons_self
    · refine h'.2.2 (i, am_tv a w) (List.mem_cons_of_mem _ (List.mem_filter.mpr ⟨am_lw_mem.mpr ⟨w, h2, hw, rfl⟩, ?_⟩))
      simp only [am_tv_cat, Bool.and_eq_true, Bool.not_eq_true', beq_eq_false_iff_ne, ne_eq, Bool.and_eq_false_iff]
      refine ⟨h1, e1, ?_⟩
      by_cases e : i + 1 = k
      · exact Or.inr (fun q => h3 ⟨e, q⟩)
      · exact Or.inl e
/-- fewer locals known -/
def am_le : List Value → List Value → Prop
  | [], [] => True
  | x :: xs, y :: ys => (x = .null ∨ x = y) ∧ am_le xs ys
  | _, _ => False
theorem am_le_get : ∀ (xs ys : List Value), am_le xs ys → xs.length = ys.length ∧ ∀ (i : Nat) (v : Value), xs[i]? = some v → v ≠ .null → ys[i]? = some v
  | [], [], _ => ⟨rfl, fun i v h => by simp at h⟩
  | x :: xs, y :: ys, h => by
    obtain ⟨h1, h2⟩ := am_le_get xs ys h.2
    refine ⟨by simp [h1], fun i v hi hv => ?_⟩
    cases i with
    | zero =>
      rw [List.getElem?_cons_zero] at hi ⊢
      cases hi
      rcases h.1 with e | e
      · exact absurd e hv
      · rw [e]
    | succ i =>
      rw [List.getElem?_cons_succ] at hi ⊢
      exact h2 i v hi hv
  | [], _ :: _, h => h.elim
  | _ :: _, [], h => h.elim
theorem am_lv_le {a : Nat → Nat} {n : Nat} {xs ys : List Value} {la : Array Slot} (h : am_lv a n ys la) (hle : am_le xs ys) : am_lv a n xs la := by
  obtain ⟨h1, h2⟩ := am_le_get xs ys hle
  exact ⟨h.1, h.2.1, h1.trans h.2.2.1, fun i v hi hv => h.2.2.2 i v (h2 i v hi hv) hv⟩
end
section
/-! the abstract machine's steps are the machine's: stack, locals, branches -/
theorem am_li_spec {ls st st' : List Value} {k : Nat} (h : am_li ls st k = some st') : ∃ x, ls[k]? = some (.int x) ∧ st' = .int x :: st := by
  unfold am_li at h
  split at h
  · cases h; exact ⟨_, by assumption, rfl⟩
  · cases h
theorem am_la_spec {ls st st' : List Value} {k : Nat} (h : am_la ls st k = some st') : ∃ x, ls[k]? = some (.ref x) ∧ st' = .ref x :: st := by
  unfold am_la at h
  split at h
  · cases h; exact ⟨_, by assumption, rfl⟩
  · cases h
theorem am_ll_spec {ls st st' : List Value} {k : Nat} (h : am_ll ls st k = some st') : ∃ x, ls[k]? = some (.long x) ∧ st' = .long x :: st := by
  unfold am_ll at h
  split at h
  · cases h; exact ⟨_, by assumption, rfl⟩
  · cases h
theorem am_ld_spec {ls st st' : List Value} {k : Nat} (h : am_ld ls st k = some st') : ∃ x, ls[k]? = some (.double x) ∧ st' = .double x :: st := by
  unfold am_ld at h
  split at h
  · cases h; exact ⟨_, by assumption, rfl⟩
  · cases h
theorem am_i2_spec {f : Int32 → Int32 → Int32} {st st' : List Value} (h : am_i2 f st = some st') : ∃ x y r, st = .int y :: .int x :: r ∧ st' = .int (f x y) :: r := by
  unfold am_i2 at h
  split at h
  · cases h; exact ⟨_, _, _, rfl, rfl⟩
  · cases h
theorem am_l2_spec {f : Int64 → Int64 → Int64} {st st' : List Value} (h : am_l2 f st = some st') : ∃ x y r, st = .long y :: .long x :: r ∧ st' = .long (f x y) :: r := by
  unfold am_l2 at h
  split at h
  · cases h; exact ⟨_, _, _, rfl, rfl⟩
  · cases h
/-- what a program checks of an instruction that moves the stack alone -/
def am_ckp (i : Instr) (w : Nat) : Bool := match i with
  | .iconst k => decide (Int32.ofInt k = am_k k) && decide (w = 1)
  | .bipush k => decide ((Int8.ofInt k).toInt32 = am_k k) && decide (w = 2)
  | .sipush k => decide ((Int16.ofInt k).toInt32 = am_k k) && decide (w = 3)
  | .iload _ => decide (w = 2)
  | .aload _ => decide (w = 2)
  | .lload _ => decide (w = 2)
  | .dload _ => decide (w = 2)
  | _ => decide (w = 1)
def am_cks (nL : Nat) (i : Instr) (w : Nat) : Bool := match i with
  | .istore_n k => decide ((k : Nat) < nL) && decide (w = 1)
  | .astore_n k => decide ((k : Nat) < nL) && decide (w = 1)
  | .lstore_n k => decide ((k : Nat) + 1 < nL) && decide (w = 1)
  | .dstore_n k => decide ((k : Nat) + 1 < nL) && decide (w = 1)
  | .istore k => decide (k < nL) && decide (w = 2)
  | .astore k => decide (k < nL) && decide (w = 2)
  | .lstore k => decide (k + 1 < nL) && decide (w = 2)
  | .dstore k => decide (k + 1 < nL) && decide (w = 2)
  | .iinc k d => decide (Int32.ofInt d = am_k d) && (decide (k < nL) && decide (w = 3))
  | _ => false
section AMS
variable {p : Program} {l : Launch} {e : Env} {R : Room} {s : State} {m : MethodId} {args : Array Value} {below : List Frame} {meth : Method} {c : Code} {H : Heap} {locs : List Loc} {cells slots : Nat} {QQ : State → Prop} {cc : ByteArray} {pc : Nat} {la : Array Slot} {a : Nat → Nat} {nL : Nat} {ls : List Value}
set_option maxHeartbeats 2000000 in
theorem am_pu_W (hx : p.tables.exec = Jvm.exec) (hb : c.code = cc) (hl : am_lv a nL ls la) {i : Instr} {w : Nat} {st st' : List Value} (h : am_pu i ls st = some st') (hd : decode cc pc = .ok (i, w)) (hck : am_ckp i w = true)
    (k : W p l e R s m args below meth c H locs cells slots QQ (F0 m (pc + w) la (st'.map (am_tv a)))) : W p l e R s m args below meth c H locs cells slots QQ (F0 m pc la (st.map (am_tv a))) := by
  cases i
  case iconst z =>
    obtain ⟨h1, rfl⟩ : Int32.ofInt z = am_k z ∧ w = 1 := by simpa [am_ckp] using hck
    cases h
    exact lv_iconst hx hb hd h1 k
  case bipush z =>
    obtain ⟨h1, rfl⟩ : (Int8.ofInt z).toInt32 = am_k z ∧ w = 2 := by simpa [am_ckp] using hck
    cases h
    exact lv_bipush hx hb hd h1 k
  case sipush z =>
    obtain ⟨h1, rfl⟩ : (Int16.ofInt z).toInt32 = am_k z ∧ w = 3 := by simpa [am_ckp] using hck
    cases h
    exact lv_sipush hx hb hd h1 k
  case lconst z =>
    obtain rfl : w = 1 := by simpa [am_ckp] using hck
    cases h
    exact lv_lconst hx hb hd rfl k
  case dconst z =>
    obtain rfl : w = 1 := by simpa [am_ckp] using hck
    cases h
    match z, hd, k with
    | 0, hd, k => exact lv_dconst0 hx hb hd k
    | 1, hd, k => exact lv_dconst1 hx hb hd k
  case iload_n z =>
    obtain rfl : w = 1 := by simpa [am_ckp] using hck
    obtain ⟨x, h1, rfl⟩ := am_li_spec h
    exact lv_iload_n hx hb hd rfl (am_lv_ld hl h1 (fun q => by cases q)) k
  case iload z =>
    obtain rfl : w = 2 := by simpa [am_ckp] using hck
    obtain ⟨x, h1, rfl⟩ := am_li_spec h
    exact lv_iload hx hb hd (am_lv_ld hl h1 (fun q => by cases q)) k
  case aload_n z =>
    obtain rfl : w = 1 := by simpa [am_ckp] using hck
    obtain ⟨x, h1, rfl⟩ := am_la_spec h
    exact lv_aload_n hx hb hd rfl (am_lv_ld hl h1 (fun q => by cases q)) k
  case aload z =>
    obtain rfl : w = 2 := by simpa [am_ckp] using hck
    obtain ⟨x, h1, rfl⟩ := am_la_spec h
    exact lv_aload hx hb hd (am_lv_ld hl h1 (fun q => by cases q)) k
  case lload_n z =>
    obtain rfl : w = 1 := by simpa [am_ckp] using hck
    obtain ⟨x, h1, rfl⟩ := am_ll_spec h
    exact lv_lload_n hx hb hd rfl (am_lv_ld hl h1 (fun q => by cases q)) k
  case lload z =>
    obtain rfl : w = 2 := by simpa [am_ckp] using hck
    obtain ⟨x, h1, rfl⟩ := am_ll_spec h
    exact lv_lload hx hb hd (am_lv_ld hl h1 (fun q => by cases q)) k
  case dload_n z =>
    obtain rfl : w = 1 := by simpa [am_ckp] using hck
    obtain ⟨x, h1, rfl⟩ := am_ld_spec h
    exact lv_dload_n hx hb hd rfl (am_lv_ld hl h1 (fun q => by cases q)) k
  case dload z =>
    obtain rfl : w = 2 := by simpa [am_ckp] using hck
    obtain ⟨x, h1, rfl⟩ := am_ld_spec h
    exact lv_dload hx hb hd (am_lv_ld hl h1 (fun q => by cases q)) k
  case iadd =>
    obtain rfl : w = 1 := by simpa [am_ckp] using hck
    obtain ⟨x, y, r, rfl, rfl⟩ := am_i2_spec h
    exact lv_iadd hx hb hd k
  case isub =>
    obtain rfl : w = 1 := by simpa [am_ckp] using hck
    obtain ⟨x, y, r, rfl, rfl⟩ := am_i2_spec h
    exact lv_isub hx hb hd k
  case imul =>
    obtain rfl : w = 1 := by simpa [am_ckp] using hck
    obtain ⟨x, y, r, rfl, rfl⟩ := am_i2_spec h
    exact lv_imul hx hb hd k
  case iand =>
    obtain rfl : w = 1 := by simpa [am_ckp] using hck
    obtain ⟨x, y, r, rfl, rfl⟩ := am_i2_spec h
    exact lv_iand hx hb hd k
  case ixor =>
    obtain rfl : w = 1 := by simpa [am_ckp] using hck
    obtain ⟨x, y, r, rfl, rfl⟩ := am_i2_spec h
    exact lv_ixor hx hb hd k
  case ishl =>
    obtain rfl : w = 1 := by simpa [am_ckp] using hck
    obtain ⟨x, y, r, rfl, rfl⟩ := am_i2_spec h
    exact lv_ishl hx hb hd k
  case ishr =>
    obtain rfl : w = 1 := by simpa [am_ckp] using hck
    obtain ⟨x, y, r, rfl, rfl⟩ := am_i2_spec h
    exact lv_ishr hx hb hd k
  case iushr =>
    obtain rfl : w = 1 := by simpa [am_ckp] using hck
    obtain ⟨x, y, r, rfl, rfl⟩ := am_i2_spec h
    exact lv_iushr hx hb hd rfl k
  case ladd =>
    obtain rfl : w = 1 := by simpa [am_ckp] using hck
    obtain ⟨x, y, r, rfl, rfl⟩ := am_l2_spec h
    exact lv_ladd hx hb hd k
  case lsub =>
    obtain rfl : w = 1 := by simpa [am_ckp] using hck
    obtain ⟨x, y, r, rfl, rfl⟩ := am_l2_spec h
    exact lv_lsub hx hb hd k
  case lmul =>
    obtain rfl : w = 1 := by simpa [am_ckp] using hck
    obtain ⟨x, y, r, rfl, rfl⟩ := am_l2_spec h
    exact lv_lmul hx hb hd k
  case ineg =>
    obtain rfl : w = 1 := by simpa [am_ckp] using hck
    simp only [am_pu] at h
    split at h
    · cases h
      exact lv_ineg hx hb hd k
    · cases h
  case lshl =>
    obtain rfl : w = 1 := by simpa [am_ckp] using hck
    simp only [am_pu] at h
    split at h
    · cases h
      exact lv_lshl hx hb hd rfl k
    · cases h
  case lcmp =>
    obtain rfl : w = 1 := by simpa [am_ckp] using hck
    simp only [am_pu] at h
    split at h
    · cases h
      exact W.lcmp hx hb hd k
    · cases h
  case dcmp op =>
    obtain rfl : w = 1 := by simpa [am_ckp] using hck
    simp only [am_pu] at h
    split at h
    · cases h
      exact lv_dcmp hx hb hd k
    · cases h
  case i2l =>
    obtain rfl : w = 1 := by simpa [am_ckp] using hck
    simp only [am_pu] at h
    split at h
    · cases h
      exact lv_i2l hx hb hd rfl k
    · cases h
  case i2d =>
    obtain rfl : w = 1 := by simpa [am_ckp] using hck
    simp only [am_pu] at h
    split at h
    · cases h
      exact lv_i2d hx hb hd k
    · cases h
  case d2l =>
    obtain rfl : w = 1 := by simpa [am_ckp] using hck
    simp only [am_pu] at h
    split at h
    · cases h
      exact lv_d2l hx hb hd k
    · cases h
  case dup =>
    obtain rfl : w = 1 := by simpa [am_ckp] using hck
    simp only [am_pu] at h
    split at h
    · cases h
      exact lv_dup hx hb hd rfl k
    · cases h
      exact lv_dup hx hb hd rfl k
    · cases h
  case dup2 =>
    obtain rfl : w = 1 := by simpa [am_ckp] using hck
    simp only [am_pu] at h
    split at h
    · cases h
      exact lv_dup2_11 hx hb hd rfl rfl k
    · cases h
  case pop =>
    obtain rfl : w = 1 := by simpa [am_ckp] using hck
    simp only [am_pu] at h
    split at h
    · cases h
      exact lv_pop hx hb hd rfl k
    · cases h
  all_goals exact absurd h (by simp [am_pu])
set_option maxHeartbeats 2000000 in
theorem am_sto_W (hx : p.tables.exec = Jvm.exec) (hb : c.code = cc) (hl : am_lv a nL ls la) {i : Instr} {w : Nat} {st : List Value} {q : List Value × List Value} (h : am_sto i ls st = some q) (hd : decode cc pc = .ok (i, w)) (hck : am_cks nL i w = true)
    (k : ∀ la' : Array Slot, am_lv a nL q.1 la' → W p l e R s m args below meth c H locs cells slots QQ (F0 m (pc + w) la' (q.2.map (am_tv a)))) : W p l e R s m args below meth c H locs cells slots QQ (F0 m pc la (st.map (am_tv a))) := by
  cases i
  case istore_n z =>
    obtain ⟨hn, rfl⟩ : (z : Nat) < nL ∧ w = 1 := by simpa [am_cks] using hck
    simp only [am_sto] at h
    split at h
    · cases h
      exact lv_istore_n hx hb hd rfl (am_lv_has hl) hn rfl (fun la' h' => k la' (am_lv_s1 hl hn h'))
    · cases h
  case astore_n z =>
    obtain ⟨hn, rfl⟩ : (z : Nat) < nL ∧ w = 1 := by simpa [am_cks] using hck
    simp only [am_sto] at h
    split at h
    · cases h
      exact lv_astore_n hx hb hd rfl (am_lv_has hl) hn rfl (fun la' h' => k la' (am_lv_s1 hl hn h'))
    · cases h
  case lstore_n z =>
    obtain ⟨hn, rfl⟩ : (z : Nat) + 1 < nL ∧ w = 1 := by simpa [am_cks] using hck
    simp only [am_sto] at h
    split at h
    · cases h
      exact lv_lstore_n hx hb hd rfl (am_lv_has hl) hn rfl (fun la' h' => k la' (am_lv_s2 hl hn h'))
    · cases h
  case dstore_n z =>
    obtain ⟨hn, rfl⟩ : (z : Nat) + 1 < nL ∧ w = 1 := by simpa [am_cks] using hck
    simp only [am_sto] at h
    split at h
    · cases h
      exact lv_dstore_n hx hb hd rfl (am_lv_has hl) hn rfl (fun la' h' => k la' (am_lv_s2 hl hn h'))
    · cases h
  case istore z =>
    obtain ⟨hn, rfl⟩ : z < nL ∧ w = 2 := by simpa [am_cks] using hck
    simp only [am_sto] at h
    split at h
    · cases h
      exact lv_istore hx hb hd (am_lv_has hl) hn rfl (fun la' h' => k la' (am_lv_s1 hl hn h'))
    · cases h
  case astore z =>
    obtain ⟨hn, rfl⟩ : z < nL ∧ w = 2 := by simpa [am_cks] using hck
    simp only [am_sto] at h
    split at h
    · cases h
      exact lv_astore hx hb hd (am_lv_has hl) hn rfl (fun la' h' => k la' (am_lv_s1 hl hn h'))
    · cases h
  case lstore z =>
    obtain ⟨hn, rfl⟩ : z + 1 < nL ∧ w = 2 := by simpa [am_cks] using hck
    simp only [am_sto] at h
    split at h
    · cases h
      exact lv_lstore hx hb hd (am_lv_has hl) hn rfl (fun la' h' => k la' (am_lv_s2 hl hn h'))
    · cases h
  case dstore z =>
    obtain ⟨hn, rfl⟩ : z + 1 < nL ∧ w = 2 := by simpa [am_cks] using hck
    simp only [am_sto] at h
    split at h
    · cases h
      exact lv_dstore hx hb hd (am_lv_has hl) hn rfl (fun la' h' => k la' (am_lv_s2 hl hn h'))
    · cases h
  case iinc z d =>
    obtain ⟨hk, hn, rfl⟩ : Int32.ofInt d = am_k d ∧ z < nL ∧ w = 3 := by simpa [am_cks] using hck
    simp only [am_sto] at h
    split at h
    · rename_i x hx'
      cases h
      obtain ⟨j, hj⟩ := List.getElem?_of_mem (am_lw_mem.mpr ⟨.int x, hx', (fun q => by cases q), rfl⟩ : (z, Value.int x) ∈ am_lw a ls)
      exact lv_iinc hx hb hd (am_lv_has hl) hj (by rw [hk]) hn rfl (fun la' h' => k la' (am_lv_s1 hl hn h'))
    · cases h
  all_goals exact absurd h (by simp [am_sto])
theorem am_if1_W (hx : p.tables.exec = Jvm.exec) (hb : c.code = cc) {cd : ClassFile.Cond} {o : Int} {st : List Value} {v : Int32} (hd : decode cc pc = .ok (.ifCond cd o, 3)) (ho : 0 ≤ (pc : Int) + o)
    (kt : am_c1 cd v → W p l e R s m args below meth c H locs cells slots QQ (F0 m ((pc : Int) + o).toNat la st)) (kf : ¬ am_c1 cd v → W p l e R s m args below meth c H locs cells slots QQ (F0 m (pc + 3) la st)) : W p l e R s m args below meth c H locs cells slots QQ (F0 m pc la (.int v :: st)) := by
  have ht : (pc : Int) + o = ((((pc : Int) + o).toNat : Nat) : Int) := by omega
  cases cd
  · exact lv_if_eq hx hb hd ht kt kf
  · exact lv_if_ne hx hb hd ht kt (fun q => kf (fun z => z q))
  · exact lv_if_lt hx hb hd ht kt kf
  · exact lv_if_ge hx hb hd ht kt kf
  · exact lv_if_gt hx hb hd ht kt kf
  · exact lv_if_le hx hb hd ht kt kf
theorem am_if2_W (hx : p.tables.exec = Jvm.exec) (hb : c.code = cc) {cd : ClassFile.Cond} {o : Int} {st : List Value} {v1 v2 : Int32} (hd : decode cc pc = .ok (.if_icmp cd o, 3)) (ho : 0 ≤ (pc : Int) + o)
    (kt : am_c2 cd v1 v2 → W p l e R s m args below meth c H locs cells slots QQ (F0 m ((pc : Int) + o).toNat la st)) (kf : ¬ am_c2 cd v1 v2 → W p l e R s m args below meth c H locs cells slots QQ (F0 m (pc + 3) la st)) : W p l e R s m args below meth c H locs cells slots QQ (F0 m pc la (.int v2 :: .int v1 :: st)) := by
  have ht : (pc : Int) + o = ((((pc : Int) + o).toNat : Nat) : Int) := by omega
  cases cd
  · exact lv_icmp_eq hx hb hd ht kt kf
  · exact lv_icmp_ne hx hb hd ht kt (fun q => kf (fun z => z q))
  · exact lv_icmp_lt hx hb hd ht kt kf
  · exact lv_icmp_ge hx hb hd ht kt kf
  · exact lv_icmp_gt hx hb hd ht kt kf
  · exact lv_icmp_le hx hb hd ht kt kf
theorem am_sw_get {r : Nat → Prop} {x : Int32} {pc : Nat} : ∀ (os : List Int) (k : Int), am_sw r x pc os k → ∀ (j : Nat) (o : Int), os[j]? = some o → x.toInt = k + j → r ((pc : Int) + o).toNat
  | [], k, _, j, o, h, _ => by simp at h
  | o1 :: os, k, h, j, o, hj, hx => by
    cases j with
    | zero =>
      rw [List.getElem?_cons_zero] at hj
      cases hj
      exact h.1 (by omega)
    | succ j =>
      rw [List.getElem?_cons_succ] at hj
      exact am_sw_get os (k + 1) h.2 j o hj (by omega)
theorem am_tsw_W (hx : p.tables.exec = Jvm.exec) (hb : c.code = cc) {d lo hi : Int} {os : Array Int} {w : Nat} {st : List Value} {v : Int32} (hd : decode cc pc = .ok (.tableswitch d lo hi os, w)) (ho : 0 ≤ (pc : Int) + d) (hos : ∀ o ∈ os.toList, 0 ≤ (pc : Int) + o) (hsz : hi < lo + os.size)
    (kd : (v.toInt < lo ∨ hi < v.toInt) → W p l e R s m args below meth c H locs cells slots QQ (F0 m ((pc : Int) + d).toNat la st)) (ks : am_sw (fun tg => W p l e R s m args below meth c H locs cells slots QQ (F0 m tg la st)) v pc os.toList lo) : W p l e R s m args below meth c H locs cells slots QQ (F0 m pc la (.int v :: st)) := by
  by_cases h : v.toInt < lo ∨ hi < v.toInt
  · exact lv_tableOut hx hb hd h (show (pc : Int) + d = ((((pc : Int) + d).toNat : Nat) : Int) by omega) (kd h)
  · have h1 : ¬ v.toInt < lo := fun q => h (Or.inl q)
    have h2 : ¬ hi < v.toInt := fun q => h (Or.inr q)
    have hlt : (v.toInt - lo).toNat < os.size := by omega
    have hget : os[(v.toInt - lo).toNat]? = some os[(v.toInt - lo).toNat] := Array.getElem?_eq_getElem hlt
    have hgl : os.toList[(v.toInt - lo).toNat]? = some os[(v.toInt - lo).toNat] := by rw [Array.getElem?_toList]; exact hget
    have hm := hos _ (List.mem_of_getElem? hgl)
    exact lv_tableIn hx hb hd h1 h2 hget (show (pc : Int) + _ = ((((pc : Int) + _).toNat : Nat) : Int) by omega) (am_sw_get _ _ ks _ _ hgl (by omega))
theorem am_ls_get {r : Nat → Prop} {x : Int32} {pc : Nat} {d : Int} : ∀ (ps : List (Int × Int)), am_ls r x pc d ps → r ((pc : Int) + Op.lookupswitch.offset ps d x.toInt).toNat
  | [], h => h
  | q :: os, h => by
    by_cases e : x.toInt = q.1
    · have h1 : Op.lookupswitch.offset (q :: os) d x.toInt = q.2 := by simp [Op.lookupswitch.offset, e]
      rw [h1]
      exact h.1 e
    · have h1 : Op.lookupswitch.offset (q :: os) d x.toInt = Op.lookupswitch.offset os d x.toInt := by simp [Op.lookupswitch.offset, show ¬ q.1 = x.toInt from fun z => e z.symm]
      rw [h1]
      exact am_ls_get os (h.2 e)
theorem am_lso {x d : Int} {P : Int → Prop} : ∀ (ps : List (Int × Int)), P d → (∀ q ∈ ps, P q.2) → P (Op.lookupswitch.offset ps d x)
  | [], h, _ => h
  | q :: os, h, hq => by
    by_cases e : x = q.1
    · have h1 : Op.lookupswitch.offset (q :: os) d x = q.2 := by simp [Op.lookupswitch.offset, e]
      rw [h1]
      exact hq q List.mem_cons_self
    · have h1 : Op.lookupswitch.offset (q :: os) d x = Op.lookupswitch.offset os d x := by simp [Op.lookupswitch.offset, show ¬ q.1 = x from fun z => e z.symm]
      rw [h1]
      exact am_lso os h (fun q' h' => hq q' (List.mem_cons_of_mem _ h'))
theorem am_lsw_W (hx : p.tables.exec = Jvm.exec) (hb : c.code = cc) {d : Int} {ps : Array (Int × Int)} {w : Nat} {st : List Value} {v : Int32} (hd : decode cc pc = .ok (.lookupswitch d ps, w)) (ho : 0 ≤ (pc : Int) + d) (hos : ∀ q ∈ ps.toList, 0 ≤ (pc : Int) + q.2) (hp : (ps.toList.zip (ps.toList.drop 1)).all (fun (a, next) => a.1 < next.1) = true)
    (ks : am_ls (fun tg => W p l e R s m args below meth c H locs cells slots QQ (F0 m tg la st)) v pc d ps.toList) : W p l e R s m args below meth c H locs cells slots QQ (F0 m pc la (.int v :: st)) := by
  have h0 : 0 ≤ (pc : Int) + Op.lookupswitch.offset ps.toList d v.toInt := am_lso (P := fun o => 0 ≤ (pc : Int) + o) _ ho hos
  exact lv_lookup hx hb hd hp rfl (show (pc : Int) + _ = ((((pc : Int) + _).toNat : Nat) : Int) by omega) (am_ls_get _ ks)
end AMS
end
section
/-! rules of am_R, an instruction each: memory and constants -/
theorem am_good_of {w : Jvm.Cond} {k : Nat} (h : lw_tbl[k]? = some w) (g : goodWord w = true) : w ∈ am_good := List.mem_filter.mpr ⟨List.mem_of_getElem? h, g⟩
def am_Rn : Nat → String
  | 0 => RX0 | 1 => RX1 | 2 => RX2 | 3 => RX3 | _ => RX4
def am_T : Nat → u_T
  | 0 => TX0 | 1 => TX1 | 2 => TX2 | 3 => TX3 | _ => TX4
def am_ty : Nat → Nat → FieldType
  | 0 => tyX0 | 1 => tyX1 | 2 => tyX2 | 3 => tyX3 | _ => tyX4
theorem am_cls_get {x : Nat} (h : x < 5) : am_cls[x]? = some (am_Rn x, am_T x, am_nf x) := by
  match x, h with
  | 0, _ => rfl
  | 1, _ => rfl
  | 2, _ => rfl
  | 3, _ => rfl
  | 4, _ => rfl
theorem am_hinX0 : ∀ w ∈ u_ws RX0 TX0 5, w ∈ am_good := by decide +kernel
theorem am_hinX1 : ∀ w ∈ u_ws RX1 TX1 1, w ∈ am_good := by decide +kernel
theorem am_hinX2 : ∀ w ∈ u_ws RX2 TX2 7, w ∈ am_good := by decide +kernel
theorem am_hinX3 : ∀ w ∈ u_ws RX3 TX3 9, w ∈ am_good := by decide +kernel
theorem am_hinX4 : ∀ w ∈ u_ws RX4 TX4 17, w ∈ am_good := by decide +kernel
theorem am_hin {x : Nat} (h : x < 5) : ∀ w ∈ u_ws (am_Rn x) (am_T x) (am_nf x), w ∈ am_good := by
  match x, h with
  | 0, _ => exact am_hinX0
  | 1, _ => exact am_hinX1
  | 2, _ => exact am_hinX2
  | 3, _ => exact am_hinX3
  | 4, _ => exact am_hinX4
theorem am_tyok {x : Nat} (h : x < 5) : ∀ k, k < am_nf x → parseFieldDescriptor (am_T x k).2.2.1 = some (am_ty x k) := by
  match x, h with
  | 0, _ => exact tyX0_ok
  | 1, _ => exact tyX1_ok
  | 2, _ => exact tyX2_ok
  | 3, _ => exact tyX3_ok
  | 4, _ => exact tyX4_ok
theorem am_nmok {x : Nat} (h : x < 5) : ∀ a, a < am_nf x → ∀ b, b < am_nf x → a ≠ b → (am_T x a).2.1 ≠ (am_T x b).2.1 := by
  match x, h with
  | 0, _ => exact nmX0
  | 1, _ => exact nmX1
  | 2, _ => exact nmX2
  | 3, _ => exact nmX3
  | 4, _ => exact nmX4
theorem am_kd_lt {o : Nat} (h : am_kd o < 3) : o < 27 := by
  unfold am_kd at h
  split at h <;> omega
theorem am_ci_lt {o : Nat} (h : am_ci o < 5) : o < 27 ∧ am_kd o = 9 := by
  unfold am_ci at h
  split at h <;> first | exact ⟨by omega, rfl⟩ | omega
theorem am_kd9' : ∀ o, o < 27 → am_kd o = 9 → am_ci o < 5 := by decide
theorem am_kd9 {o : Nat} (h : am_kd o = 9) (ho : o < 27) : am_ci o < 5 := am_kd9' o ho h
theorem am_len_ne {L o : Nat} (h : o ≠ 27) : am_len 0 o = am_len L o := by
  unfold am_len
  split <;> first | rfl | omega
theorem am_len_lt {L o : Nat} (h : o ≠ 27) : am_len L o < 5000 := by
  unfold am_len
  split <;> omega
theorem am_tv_ref {a : Nat → Nat} {o : Nat} (h : o < 29) : am_tv a (.ref o) = .ref (a o) := by simp [am_tv, h]
theorem am_e0 {a : Nat → Nat} {g : ClassId × ClassId × ClassId} {M : am_M} {o : Nat} (h : am_kd o = 0) : am_e a g M o = .inl (g.1, am_len 0 o, .inl (M o)) := by simp [am_e, h]
theorem am_e1 {a : Nat → Nat} {g : ClassId × ClassId × ClassId} {M : am_M} {o : Nat} (h : am_kd o = 1) : am_e a g M o = .inl (g.2.1, am_len 0 o, .inl (M o)) := by simp [am_e, h]
theorem am_e2 {a : Nat → Nat} {g : ClassId × ClassId × ClassId} {M : am_M} {o : Nat} (h : am_kd o = 2) : am_e a g M o = .inl (g.2.2, am_len 0 o, .inr (.inl (fun i => (M o i).toInt64))) := by simp [am_e, h]
theorem am_e9 {a : Nat → Nat} {g : ClassId × ClassId × ClassId} {M : am_M} {o : Nat} (h : am_kd o = 9) : am_e a g M o = .inr (am_ci o, (List.range (am_nf (am_ci o))).map (fun k => am_tv a (am_val (am_ci o) o k M))) := by simp [am_e, h]
theorem am_rd_spec {t : am_MT} {o : Nat} (h : am_rd t o = true) : am_kd o = 0 ∨ (o = 27 ∧ mt_w t = true) := by
  simpa [am_rd, Nat.beq_eq] using h
theorem am_inL {k n : Nat} (h : k < n) (hn : n < 2 ^ 31) : vp_in (nI k) n := vp_in_nI h hn
section AMR
variable {L : am_S} {t : am_MT} {n pc : Nat} {ls st : List Value} {M : am_M} {Q : am_Q}
theorem am_R_pu {i : Instr} {w : Nat} {st' : List Value} (h : am_pu i ls st = some st') (hd : decode (mt_b t) pc = .ok (i, w)) (hck : am_ckp i w = true) (k : am_R L t n (pc + w) ls st' M Q) : am_R L t n pc ls st M Q := by
  intro p l e R s m args below meth c a D g A cells slots QQ hE hC h1 h2 hEnd H locs la hW hL
  exact am_pu_W hE.1 hE.2.1 hL h hd hck (k p l e R s m args below meth c a D g A cells slots QQ hE hC h1 h2 hEnd H locs la hW hL)
theorem am_R_sto {i : Instr} {w : Nat} {q : List Value × List Value} (h : am_sto i ls st = some q) (hd : decode (mt_b t) pc = .ok (i, w)) (hck : am_cks (mt_l t) i w = true) (k : am_R L t n (pc + w) q.1 q.2 M Q) : am_R L t n pc ls st M Q := by
  intro p l e R s m args below meth c a D g A cells slots QQ hE hC h1 h2 hEnd H locs la hW hL
  exact am_sto_W hE.1 hE.2.1 hL h hd hck (fun la' hL' => k p l e R s m args below meth c a D g A cells slots QQ hE hC h1 h2 hEnd H locs la' hW hL')
theorem am_R_if1 {cd : ClassFile.Cond} {o : Int} {v : Int32} (hd : decode (mt_b t) pc = .ok (.ifCond cd o, 3)) (ho : 0 ≤ (pc : Int) + o) (kt : am_c1 cd v → am_R L t n ((pc : Int) + o).toNat ls st M Q) (kf : ¬ am_c1 cd v → am_R L t n (pc + 3) ls st M Q) : am_R L t n pc ls (.int v :: st) M Q := by
  intro p l e R s m args below meth c a D g A cells slots QQ hE hC h1 h2 hEnd H locs la hW hL
  exact am_if1_W hE.1 hE.2.1 hd ho (fun q => kt q p l e R s m args below meth c a D g A cells slots QQ hE hC h1 h2 hEnd H locs la hW hL) (fun q => kf q p l e R s m args below meth c a D g A cells slots QQ hE hC h1 h2 hEnd H locs la hW hL)
theorem am_R_if2 {cd : ClassFile.Cond} {o : Int} {v1 v2 : Int32} (hd : decode (mt_b t) pc = .ok (.if_icmp cd o, 3)) (ho : 0 ≤ (pc : Int) + o) (kt : am_c2 cd v1 v2 → am_R L t n ((pc : Int) + o).toNat ls st M Q) (kf : ¬ am_c2 cd v1 v2 → am_R L t n (pc + 3) ls st M Q) : am_R L t n pc ls (.int v2 :: .int v1 :: st) M Q := by
  intro p l e R s m args below meth c a D g A cells slots QQ hE hC h1 h2 hEnd H locs la hW hL
  exact am_if2_W hE.1 hE.2.1 hd ho (fun q => kt q p l e R s m args below meth c a D g A cells slots QQ hE hC h1 h2 hEnd H locs la hW hL) (fun q => kf q p l e R s m args below meth c a D g A cells slots QQ hE hC h1 h2 hEnd H locs la hW hL)
theorem am_R_goto {o : Int} (hd : decode (mt_b t) pc = .ok (.goto o, 3)) (ho : 0 ≤ (pc : Int) + o) (k : am_R L t n ((pc : Int) + o).toNat ls st M Q) : am_R L t n pc ls st M Q := by
  intro p l e R s m args below meth c a D g A cells slots QQ hE hC h1 h2 hEnd H locs la hW hL
  exact lv_goto hE.1 hE.2.1 hd (show (pc : Int) + o = ((((pc : Int) + o).toNat : Nat) : Int) by omega) (k p l e R s m args below meth c a D g A cells slots QQ hE hC h1 h2 hEnd H locs la hW hL)
theorem am_sw_mono {r r' : Nat → Prop} {x : Int32} {pc : Nat} (h : ∀ q, r q → r' q) : ∀ (os : List Int) (k : Int), am_sw r x pc os k → am_sw r' x pc os k
  | [], _, _ => trivial
  | _ :: os, k, q => ⟨fun e => h _ (q.1 e), am_sw_mono h os (k + 1) q.2⟩
theorem am_ls_mono {r r' : Nat → Prop} {x : Int32} {pc : Nat} {d : Int} (h : ∀ q, r q → r' q) : ∀ (os : List (Int × Int)), am_ls r x pc d os → am_ls r' x pc d os
  | [], q => h _ q
  | _ :: os, q => ⟨fun e => h _ (q.1 e), fun e => am_ls_mono h os (q.2 e)⟩
theorem am_R_tsw {d lo hi : Int} {os : Array Int} {w : Nat} {v : Int32} (hd : decode (mt_b t) pc = .ok (.tableswitch d lo hi os, w)) (ho : 0 ≤ (pc : Int) + d) (hos : ∀ o ∈ os.toList, 0 ≤ (pc : Int) + o) (hsz : hi < lo + os.size)
    (kd : (v.toInt < lo ∨ hi < v.toInt) → am_R L t n ((pc : Int) + d).toNat ls st M Q) (ks : am_sw (fun tg => am_R L t n tg ls st M Q) v pc os.toList lo) : am_R L t n pc ls (.int v :: st) M Q := by
  intro p l e R s m args below meth c a D g A cells slots QQ hE hC h1 h2 hEnd H locs la hW hL
  exact am_tsw_W hE.1 hE.2.1 hd ho hos hsz (fun q => kd q p l e R s m args below meth c a D g A cells slots QQ hE hC h1 h2 hEnd H locs la hW hL) (am_sw_mono (fun q k => k p l e R s m args below meth c a D g A cells slots QQ hE hC h1 h2 hEnd H locs la hW hL) _ _ ks)
theorem am_R_lsw {d : Int} {ps : Array (Int × Int)} {w : Nat} {v : Int32} (hd : decode (mt_b t) pc = .ok (.lookupswitch d ps, w)) (ho : 0 ≤ (pc : Int) + d) (hos : ∀ q ∈ ps.toList, 0 ≤ (pc : Int) + q.2) (hp : (ps.toList.zip (ps.toList.drop 1)).all (fun (a, next) => a.1 < next.1) = true)
    (ks : am_ls (fun tg => am_R L t n tg ls st M Q) v pc d ps.toList) : am_R L t n pc ls (.int v :: st) M Q := by
  intro p l e R s m args below meth c a D g A cells slots QQ hE hC h1 h2 hEnd H locs la hW hL
  exact am_lsw_W hE.1 hE.2.1 hd ho hos hp (am_ls_mono (fun q k => k p l e R s m args below meth c a D g A cells slots QQ hE hC h1 h2 hEnd H locs la hW hL) _ ks)
theorem am_R_ldc {idx z : Nat} {v : Int32} (hd : decode (mt_b t) pc = .ok (.ldc idx, 2)) (hw : lw_tbl[z]? = some (.constant (mt_y t).cls idx v)) (k : am_R L t n (pc + 2) ls (.int v :: st) M Q) : am_R L t n pc ls st M Q := by
  intro p l e R s m args below meth c a D g A cells slots QQ hE hC h1 h2 hEnd H locs la hW hL
  exact lv_ldc hE.1 hE.2.1 hE.2.2.2.1 (hE.2.2.2.2.1 _ (am_good_of hw rfl)) hd (k p l e R s m args below meth c a D g A cells slots QQ hE hC h1 h2 hEnd H locs la hW hL)
theorem am_R_ldcw {idx z : Nat} {v : Int32} (hd : decode (mt_b t) pc = .ok (.ldc_w idx, 3)) (hw : lw_tbl[z]? = some (.constant (mt_y t).cls idx v)) (k : am_R L t n (pc + 3) ls (.int v :: st) M Q) : am_R L t n pc ls st M Q := by
  intro p l e R s m args below meth c a D g A cells slots QQ hE hC h1 h2 hEnd H locs la hW hL
  exact lv_ldcw hE.1 hE.2.1 hE.2.2.2.1 (hE.2.2.2.2.1 _ (am_good_of hw rfl)) hd (k p l e R s m args below meth c a D g A cells slots QQ hE hC h1 h2 hEnd H locs la hW hL)
theorem am_R_ldcs (hd : decode (mt_b t) pc = .ok (.ldc 45, 2)) (ho : (mt_y t).cls = RX2) (k : am_R L t n (pc + 2) ls (.ref 28 :: st) M Q) : am_R L t n pc ls st M Q := by
  intro p l e R s m args below meth c a D g A cells slots QQ hE hC h1 h2 hEnd H locs la hW hL
  have hZ := hC.2.2.2.1.2.2.2.1.1
  rw [← ho] at hZ
  exact va_ldcS hE.1 hE.2.1 hE.2.2.2.1 hZ hd (k p l e R s m args below meth c a D g A cells slots QQ hE hC h1 h2 hEnd H locs la hW hL)
theorem am_R_ldc2 {idx z : Nat} {v : Int64} (hd : decode (mt_b t) pc = .ok (.ldc2_w idx, 3)) (hw : lw_tbl[z]? = some (.constantLong (mt_y t).cls idx v)) (k : am_R L t n (pc + 3) ls (.long v :: st) M Q) : am_R L t n pc ls st M Q := by
  intro p l e R s m args below meth c a D g A cells slots QQ hE hC h1 h2 hEnd H locs la hW hL
  exact lv_ldc2 hE.1 hE.2.1 hE.2.2.2.1 (hE.2.2.2.2.1 _ (am_good_of hw rfl)) hd (k p l e R s m args below meth c a D g A cells slots QQ hE hC h1 h2 hEnd H locs la hW hL)
theorem am_R_ldc2d {idx z : Nat} {v : UInt64} (hd : decode (mt_b t) pc = .ok (.ldc2_w idx, 3)) (hw : lw_tbl[z]? = some (.constantDouble (mt_y t).cls idx v)) (k : am_R L t n (pc + 3) ls (.double v :: st) M Q) : am_R L t n pc ls st M Q := by
  intro p l e R s m args below meth c a D g A cells slots QQ hE hC h1 h2 hEnd H locs la hW hL
  exact lv_ldc2d hE.1 hE.2.1 hE.2.2.2.1 (hE.2.2.2.2.1 _ (am_good_of hw rfl)) hd (k p l e R s m args below meth c a D g A cells slots QQ hE hC h1 h2 hEnd H locs la hW hL)
theorem am_R_idiv {v1 v2 : Int32} (hd : decode (mt_b t) pc = .ok (.idiv, 1)) (hne : ¬ v2 = 0) (k : am_R L t n (pc + 1) ls (.int (v1 / v2) :: st) M Q) : am_R L t n pc ls (.int v2 :: .int v1 :: st) M Q := by
  intro p l e R s m args below meth c a D g A cells slots QQ hE hC h1 h2 hEnd H locs la hW hL
  exact lv_idiv hE.1 hE.2.1 hd hne (k p l e R s m args below meth c a D g A cells slots QQ hE hC h1 h2 hEnd H locs la hW hL)
theorem am_R_irem {v1 v2 : Int32} (hd : decode (mt_b t) pc = .ok (.irem, 1)) (hne : ¬ v2 = 0) (k : am_R L t n (pc + 1) ls (.int (v1 - v1 / v2 * v2) :: st) M Q) : am_R L t n pc ls (.int v2 :: .int v1 :: st) M Q := by
  intro p l e R s m args below meth c a D g A cells slots QQ hE hC h1 h2 hEnd H locs la hW hL
  exact lv_irem hE.1 hE.2.1 hd hne (k p l e R s m args below meth c a D g A cells slots QQ hE hC h1 h2 hEnd H locs la hW hL)
theorem am_R_ddiv {v1 v2 : UInt64} (hd : decode (mt_b t) pc = .ok (.ddiv, 1)) (hne : vf_n64 (FP.ddiv v1 v2)) (k : am_R L t n (pc + 1) ls (.double (FP.ddiv v1 v2) :: st) M Q) : am_R L t n pc ls (.double v2 :: .double v1 :: st) M Q := by
  intro p l e R s m args below meth c a D g A cells slots QQ hE hC h1 h2 hEnd H locs la hW hL
  exact lv_ddiv hE.1 hE.2.1 hd hne (k p l e R s m args below meth c a D g A cells slots QQ hE hC h1 h2 hEnd H locs la hW hL)
theorem am_R_dmul {v1 v2 : UInt64} (hd : decode (mt_b t) pc = .ok (.dmul, 1)) (hne : vf_n64 (FP.dmul v1 v2)) (k : am_R L t n (pc + 1) ls (.double (FP.dmul v1 v2) :: st) M Q) : am_R L t n pc ls (.double v2 :: .double v1 :: st) M Q := by
  intro p l e R s m args below meth c a D g A cells slots QQ hE hC h1 h2 hEnd H locs la hW hL
  exact lv_dmul hE.1 hE.2.1 hd hne (k p l e R s m args below meth c a D g A cells slots QQ hE hC h1 h2 hEnd H locs la hW hL)
theorem am_R_dsub {v1 v2 : UInt64} (hd : decode (mt_b t) pc = .ok (.dsub, 1)) (hne : vf_n64 (FP.dsub v1 v2)) (k : am_R L t n (pc + 1) ls (.double (FP.dsub v1 v2) :: st) M Q) : am_R L t n pc ls (.double v2 :: .double v1 :: st) M Q := by
  intro p l e R s m args below meth c a D g A cells slots QQ hE hC h1 h2 hEnd H locs la hW hL
  exact lv_dsub hE.1 hE.2.1 hd hne (k p l e R s m args below meth c a D g A cells slots QQ hE hC h1 h2 hEnd H locs la hW hL)
-- fields
theorem am_R_get {idx x y z o : Nat} (hd : decode (mt_b t) pc = .ok (.getfield idx, 3)) (hw : lw_tbl[z]? = some (.fieldLink (mt_y t).cls idx (am_T x y).1 (am_T x y).2.1 (am_T x y).2.2.1)) (hx : x < 5) (hy : y < am_nf x) (ho : am_ci o = x) (k : am_R L t n (pc + 3) ls (am_val x o y M :: st) M Q) : am_R L t n pc ls (.ref o :: st) M Q := by
  intro p l e R s m args below meth c a D g A cells slots QQ hE hC h1 h2 hEnd H locs la hW hL
  obtain ⟨h27, h9⟩ := am_ci_lt (o := o) (by omega)
  have hg := am_w_get a g M h27
  rw [am_e9 h9, ho] at hg
  have hv : ((List.range (am_nf x)).map (fun k => am_tv a (am_val x o k M)))[y]? = some (am_tv a (am_val x o y M)) := by simp [hy]
  show W p l e R s m args below meth c H locs cells slots QQ (F0 m pc la (am_tv a (.ref o) :: st.map (am_tv a)))
  rw [am_tv_ref (by omega)]
  exact va_get hE.1 hE.2.1 hE.2.2.2.2.1 (am_hin hx) hE.2.2.2.1 hC.1 hW.1 o hg (am_cls_get hx) y hy (hE.2.2.2.2.1 _ (am_good_of hw rfl)) (fun _ h => h) hv hd
    (k p l e R s m args below meth c a D g A cells slots QQ hE hC h1 h2 hEnd H locs la hW hL)
theorem am_val_set {M : am_M} {x o y j : Nat} {v : Int32} (h : j ≠ y) : am_val x o j (am_set M o (upd (M o) y v)) = am_val x o j M := by
  unfold am_val
  split
  · rfl
  · unfold am_v0
    split
    · rw [am_set_eq]
      simp [upd, h]
    · rfl
theorem am_R_put {idx x y z o : Nat} {v : Int32} {ty : FieldType} (hd : decode (mt_b t) pc = .ok (.putfield idx, 3)) (hw : lw_tbl[z]? = some (.fieldLink (mt_y t).cls idx (am_T x y).1 (am_T x y).2.1 (am_T x y).2.2.1)) (hx : x < 5) (hy : y < am_nf x) (hfin : (am_T x y).2.2.2 = false) (hty : parseFieldDescriptor (am_T x y).2.2.1 = some ty) (hfit : fits ty (.int v) = true) (hr : am_fr x y = 0) (hx1 : x ≠ 1) (ho : am_ci o = x) (hn : narrow ty (.int v) = .int v)
    (k : am_R L t n (pc + 3) ls st (am_set M o (upd (M o) y v)) Q) : am_R L t n pc ls (.int v :: .ref o :: st) M Q := by
  intro p l e R s m args below meth c a D g A cells slots QQ hE hC h1 h2 hEnd H locs la hW hL
  obtain ⟨h27, h9⟩ := am_ci_lt (o := o) (by omega)
  have hg := am_w_get a g M h27
  rw [am_e9 h9, ho] at hg
  show W p l e R s m args below meth c H locs cells slots QQ (F0 m pc la (.int v :: am_tv a (.ref o) :: st.map (am_tv a)))
  rw [am_tv_ref (by omega)]
  have he : ∀ (f : List Value), f = ((List.range (am_nf x)).map (fun k => am_tv a (am_val x o k M))).set y (.int v) → Sum.inr (x, f) = am_e a g (am_set M o (upd (M o) y v)) o := by
    rintro f rfl
    rw [am_e9 h9, ho]
    congr 2
    apply List.ext_getElem?
    intro j
    by_cases hj : j = y
    · subst hj
      rw [List.getElem?_set_self (by simpa using hy)]
      have h3 : am_val x o j (am_set M o (upd (M o) j v)) = .int v := by
        unfold am_val
        split
        · exact absurd rfl hx1
        · rw [hr]
          show Value.int _ = _
          rw [am_set_eq]
          simp [upd]
      simp [hy, h3, am_tv]
    · rw [List.getElem?_set_ne (Ne.symm hj)]
      by_cases hjn : j < am_nf x
      · simp [hjn, am_val_set hj]
      · rw [List.getElem?_eq_none (by simpa using Nat.not_lt.mp hjn), List.getElem?_eq_none (by simpa using Nat.not_lt.mp hjn)]
  refine va_put hE.1 hE.2.1 hE.2.2.2.2.1 (am_hin hx) (am_ty x) (am_tyok hx) (am_nmok hx) hE.2.2.2.1 hC.1 hW.1 (hC.2.1 M) hW.2.1 o hg (am_cls_get hx) y hy (hE.2.2.2.2.1 _ (am_good_of hw rfl)) (fun _ h => h) hfin hty hn hfit (by simpa using hy) hd (fun H1 locs1 hP hD hS => ?_)
  rw [am_w_set h27 (fun q hq => am_set_ne hq) (he _ rfl)] at hP
  exact k p l e R s m args below meth c a D g A cells slots QQ hE hC h1 h2 hEnd H1 locs1 la ⟨hP, hS, hW.2.2⟩ hL
-- arrays
theorem am_R_iald {o kk : Nat} {v : Int32} (hd : decode (mt_b t) pc = .ok (.iaload, 1)) (hL31 : mt_w t = true → L.1 < 2 ^ 31) (hr : am_rd t o = true) (hv : v = nI kk) (hk : kk < am_len L.1 o) (k : am_R L t n (pc + 1) ls (.int (am_rv L M kk o) :: st) M Q) : am_R L t n pc ls (.int v :: .ref o :: st) M Q := by
  intro p l e R s m args below meth c a D g A cells slots QQ hE hC h1 h2 hEnd H locs la hW hL
  subst hv
  have kk' := k p l e R s m args below meth c a D g A cells slots QQ hE hC h1 h2 hEnd H locs la hW hL
  show W p l e R s m args below meth c H locs cells slots QQ (F0 m pc la (.int (nI kk) :: am_tv a (.ref o) :: st.map (am_tv a)))
  rcases am_rd_spec hr with h0 | ⟨rfl, hw⟩
  · have h27 := am_kd_lt (o := o) (by omega)
    have hne : o ≠ 27 := by omega
    have hlt := am_len_lt (L := L.1) hne
    rw [am_tv_ref (by omega)]
    rw [show am_rv L M kk o = M o kk by unfold am_rv; split <;> first | rfl | omega] at kk'
    have hg := am_w_get a g M h27
    rw [am_e0 h0, am_len_ne (L := L.1) hne] at hg
    refine va_iald hE.1 hE.2.1 hC.1 hW.1 o 0 hg rfl (vp_in_nI hk (by omega)) hd ?_
    rw [nI_clamp (by omega)]
    exact kk'
  · rw [am_tv_ref (by omega)]
    have hk' : kk < L.1 := hk
    refine va_sld hE.1 hE.2.1 (hW.2.2 hw) (hC.2.2.2.2 hw).1 (hC.2.2.2.2 hw).2 hW.2.1 (vp_in_nI hk' (hL31 hw)) hd ?_
    rw [nI_clamp (by have := hL31 hw; omega)]
    exact kk'
theorem am_R_alen {o : Nat} (hd : decode (mt_b t) pc = .ok (.arraylength, 1)) (hr : am_rd t o = true) (k : am_R L t n (pc + 1) ls (.int (nI (am_len L.1 o)) :: st) M Q) : am_R L t n pc ls (.ref o :: st) M Q := by
  intro p l e R s m args below meth c a D g A cells slots QQ hE hC h1 h2 hEnd H locs la hW hL
  have kk' := k p l e R s m args below meth c a D g A cells slots QQ hE hC h1 h2 hEnd H locs la hW hL
  show W p l e R s m args below meth c H locs cells slots QQ (F0 m pc la (am_tv a (.ref o) :: st.map (am_tv a)))
  rcases am_rd_spec hr with h0 | ⟨rfl, hw⟩
  · have h27 := am_kd_lt (o := o) (by omega)
    have hne : o ≠ 27 := by omega
    rw [am_tv_ref (by omega)]
    have hg := am_w_get a g M h27
    rw [am_e0 h0, am_len_ne (L := L.1) hne] at hg
    exact va_alen hE.1 hE.2.1 hC.1 hW.1 o 0 hg (ty := .int) rfl rfl hd kk'
  · rw [am_tv_ref (by omega)]
    exact va_slen hE.1 hE.2.1 (hW.2.2 hw) (hC.2.2.2.2 hw).1 (hC.2.2.2.2 hw).2 hW.2.1 hd kk'
theorem am_R_zald {o kk : Nat} {v : Int32} (hd : decode (mt_b t) pc = .ok (.baload, 1)) (h0 : am_kd o = 1) (hv : v = nI kk) (hk : kk < am_len L.1 o) (k : am_R L t n (pc + 1) ls (.int (M o kk) :: st) M Q) : am_R L t n pc ls (.int v :: .ref o :: st) M Q := by
  intro p l e R s m args below meth c a D g A cells slots QQ hE hC h1 h2 hEnd H locs la hW hL
  subst hv
  have kk' := k p l e R s m args below meth c a D g A cells slots QQ hE hC h1 h2 hEnd H locs la hW hL
  show W p l e R s m args below meth c H locs cells slots QQ (F0 m pc la (.int (nI kk) :: am_tv a (.ref o) :: st.map (am_tv a)))
  have h27 := am_kd_lt (o := o) (by omega)
  have hne : o ≠ 27 := by omega
  have hlt := am_len_lt (L := L.1) hne
  rw [am_tv_ref (by omega)]
  have hg := am_w_get a g M h27
  rw [am_e1 h0, am_len_ne (L := L.1) hne] at hg
  refine va_zald hE.1 hE.2.1 hC.1 hW.1 o 1 hg rfl (vp_in_nI hk (by omega)) hd ?_
  rw [nI_clamp (by omega)]
  exact kk'
theorem am_R_lald {o kk : Nat} {v : Int32} (hd : decode (mt_b t) pc = .ok (.laload, 1)) (h0 : am_kd o = 2) (hv : v = nI kk) (hk : kk < am_len L.1 o) (k : am_R L t n (pc + 1) ls (.long (M o kk).toInt64 :: st) M Q) : am_R L t n pc ls (.int v :: .ref o :: st) M Q := by
  intro p l e R s m args below meth c a D g A cells slots QQ hE hC h1 h2 hEnd H locs la hW hL
  subst hv
  have kk' := k p l e R s m args below meth c a D g A cells slots QQ hE hC h1 h2 hEnd H locs la hW hL
  show W p l e R s m args below meth c H locs cells slots QQ (F0 m pc la (.int (nI kk) :: am_tv a (.ref o) :: st.map (am_tv a)))
  have h27 := am_kd_lt (o := o) (by omega)
  have hne : o ≠ 27 := by omega
  have hlt := am_len_lt (L := L.1) hne
  rw [am_tv_ref (by omega)]
  have hg := am_w_get a g M h27
  rw [am_e2 h0, am_len_ne (L := L.1) hne] at hg
  refine va_lald hE.1 hE.2.1 hC.1 hW.1 o 2 hg rfl (vp_in_nI hk (by omega)) hd ?_
  rw [nI_clamp (by omega)]
  exact kk'
theorem am_R_iast {o kk : Nat} {v z : Int32} (hd : decode (mt_b t) pc = .ok (.iastore, 1)) (h0 : am_kd o = 0) (hv : v = nI kk) (hk : kk < am_len L.1 o) (k : am_R L t n (pc + 1) ls st (am_set M o (upd (M o) kk z)) Q) : am_R L t n pc ls (.int z :: .int v :: .ref o :: st) M Q := by
  intro p l e R s m args below meth c a D g A cells slots QQ hE hC h1 h2 hEnd H locs la hW hL
  subst hv
  show W p l e R s m args below meth c H locs cells slots QQ (F0 m pc la (.int z :: .int (nI kk) :: am_tv a (.ref o) :: st.map (am_tv a)))
  have h27 := am_kd_lt (o := o) (by omega)
  have hne : o ≠ 27 := by omega
  have hlt := am_len_lt (L := L.1) hne
  rw [am_tv_ref (by omega)]
  have hg := am_w_get a g M h27
  rw [am_e0 h0, am_len_ne (L := L.1) hne] at hg
  refine va_iast hE.1 hE.2.1 hC.1 hW.1 (hC.2.1 M) hW.2.1 o 0 hg rfl (vp_in_nI hk (by omega)) hd (fun H1 locs1 hP hD hS => ?_)
  rw [nI_clamp (by omega), am_w_set (M' := am_set M o (upd (M o) kk z)) h27 (fun q hq => am_set_ne hq) (by rw [am_e0 h0, am_set_eq, am_len_ne (L := L.1) hne])] at hP
  exact k p l e R s m args below meth c a D g A cells slots QQ hE hC h1 h2 hEnd H1 locs1 la ⟨hP, hS, hW.2.2⟩ hL
theorem am_R_zast {o kk : Nat} {v z : Int32} (hd : decode (mt_b t) pc = .ok (.bastore, 1)) (h0 : am_kd o = 1) (hz : vp_nar .boolean z = z) (hv : v = nI kk) (hk : kk < am_len L.1 o) (k : am_R L t n (pc + 1) ls st (am_set M o (upd (M o) kk z)) Q) : am_R L t n pc ls (.int z :: .int v :: .ref o :: st) M Q := by
  intro p l e R s m args below meth c a D g A cells slots QQ hE hC h1 h2 hEnd H locs la hW hL
  subst hv
  show W p l e R s m args below meth c H locs cells slots QQ (F0 m pc la (.int z :: .int (nI kk) :: am_tv a (.ref o) :: st.map (am_tv a)))
  have h27 := am_kd_lt (o := o) (by omega)
  have hne : o ≠ 27 := by omega
  have hlt := am_len_lt (L := L.1) hne
  rw [am_tv_ref (by omega)]
  have hg := am_w_get a g M h27
  rw [am_e1 h0, am_len_ne (L := L.1) hne] at hg
  refine va_zast hE.1 hE.2.1 hC.1 hW.1 (hC.2.1 M) hW.2.1 o 1 hg rfl (vp_in_nI hk (by omega)) hd (fun H1 locs1 hP hD hS => ?_)
  rw [nI_clamp (by omega), hz, am_w_set (M' := am_set M o (upd (M o) kk z)) h27 (fun q hq => am_set_ne hq) (by rw [am_e1 h0, am_set_eq, am_len_ne (L := L.1) hne])] at hP
  exact k p l e R s m args below meth c a D g A cells slots QQ hE hC h1 h2 hEnd H1 locs1 la ⟨hP, hS, hW.2.2⟩ hL
theorem am_R_last {o kk : Nat} {v z : Int32} (hd : decode (mt_b t) pc = .ok (.lastore, 1)) (h0 : am_kd o = 2) (hv : v = nI kk) (hk : kk < am_len L.1 o) (k : am_R L t n (pc + 1) ls st (am_set M o (upd (M o) kk z)) Q) : am_R L t n pc ls (.long z.toInt64 :: .int v :: .ref o :: st) M Q := by
  intro p l e R s m args below meth c a D g A cells slots QQ hE hC h1 h2 hEnd H locs la hW hL
  subst hv
  show W p l e R s m args below meth c H locs cells slots QQ (F0 m pc la (.long z.toInt64 :: .int (nI kk) :: am_tv a (.ref o) :: st.map (am_tv a)))
  have h27 := am_kd_lt (o := o) (by omega)
  have hne : o ≠ 27 := by omega
  have hlt := am_len_lt (L := L.1) hne
  rw [am_tv_ref (by omega)]
  have hg := am_w_get a g M h27
  rw [am_e2 h0, am_len_ne (L := L.1) hne] at hg
  refine va_last hE.1 hE.2.1 hC.1 hW.1 (hC.2.1 M) hW.2.1 o 2 hg rfl (vp_in_nI hk (by omega)) hd (fun H1 locs1 hP hD hS => ?_)
  have hf : vp_updL (fun i => (M o i).toInt64) kk z.toInt64 = fun i => (upd (M o) kk z i).toInt64 := by
    funext i
    unfold vp_updL upd
    split <;> rfl
  rw [nI_clamp (by omega), hf, am_w_set (M' := am_set M o (upd (M o) kk z)) h27 (fun q hq => am_set_ne hq) (by rw [am_e2 h0, am_set_eq, am_len_ne (L := L.1) hne])] at hP
  exact k p l e R s m args below meth c a D g A cells slots QQ hE hC h1 h2 hEnd H1 locs1 la ⟨hP, hS, hW.2.2⟩ hL
end AMR
end
section
/-! rules of am_R: calls, returns, exceptions -/
theorem am_good_gi : GoodIn am_good am_good := fun _ h => ⟨h, good_of_word (List.mem_filter.mp h).2⟩
def am_hw (t : am_MT) : Jvm.Cond := match mt_h t with
  | [] => Jvm.Cond.code (mt_y t) (mt_b t) (mt_l t) (mt_r t)
  | h => Jvm.Cond.codeWith (mt_y t) (mt_b t) (mt_l t) (mt_r t) h
theorem am_ws_eq (t : am_MT) : am_ws t = am_hw t :: am_good := rfl
def am_okM (t : am_MT) : Prop := am_hw t ∈ am_good ∧ Jvm.Cond.initialized (mt_y t).cls ∈ am_good ∧ (mt_y t).cls ≠ "java/lang/invoke/MethodHandle" ∧ (mt_y t).cls ≠ "java/lang/invoke/VarHandle" ∧ plainName (mt_y t).cls = true
theorem am_ws_gi {t : am_MT} (h : am_okM t) : GoodIn am_good (am_ws t) := by
  intro w hw
  rcases List.mem_cons.mp hw with rfl | hw
  · exact am_good_gi _ h.1
  · exact am_good_gi _ hw
theorem am_Ca_moved {C T : String} {u U : State} (hvm : u.vm.Alike U.vm) (h : va_Nw (.castable C T) u) : va_Nw (.castable C T) U := by
  have e := Jvm.Cond.onTables_vm (A := #[]) (A' := #[]) (U := u) (U' := U) U.vm (.castable C T) rfl
  have hU : U.setVm U.vm = U := rfl
  rw [hU] at e
  show (Jvm.Cond.castable C T).before #[] U = true
  rw [← e, Jvm.Cond.castable_setVm hvm]
  exact h
theorem am_Dc_moved {x : MethodName} {u U : State} (hvm : u.vm.Alike U.vm) (h : va_Nw (.declares x) u) : va_Nw (.declares x) U := by
  have e := Jvm.Cond.onTables_vm (A := #[]) (A' := #[]) (U := u) (U' := U) U.vm (.declares x) rfl
  have hU : U.setVm U.vm = U := rfl
  rw [hU] at e
  show (Jvm.Cond.declares x).before #[] U = true
  rw [← e, Jvm.Cond.declares_setVm hvm]
  exact h
theorem am_SF_warm {q : Nat} {A B : Nat → Prop} {u U : State} {H0 H : Heap} (hW : u.WarmedH U.vm) (hk : ∀ a : Nat, a < H0.size → ¬ A a → H[a]? = H0[a]?) (hAB : ∀ z, B z → A z) (h : am_SF q A u H0) : am_SF q B U H := by
  obtain ⟨h1, h2, h3, ⟨h4, ⟨adV, h5⟩, h6, h7⟩, h8, h9, h10⟩ := h
  refine ⟨((h1.moved hW.alike).kept hk).narrow hAB, ((h2.moved hW.alike).kept hk).narrow hAB, fun t ht => ?_, ⟨vk_R.warm hW h4, ⟨adV, ((h5.moved hW.alike).kept hk).narrow hAB⟩, ((h6.moved hW.alike).kept hk).narrow hAB, ((h7.moved hW.alike).kept hk).narrow hAB⟩, fun i j hij => (h8 i j hij).moved hW.alike, fun i => am_Ca_moved hW.alike (h9 i), fun x hx => am_Dc_moved hW.alike (h10 x hx)⟩
  obtain ⟨sa, hs⟩ := h3 t ht
  exact ⟨sa, vk_R.warm hW hs⟩
theorem am_blind (av : List Value) (a : Nat → Nat) (D : va_G) (g : ClassId × ClassId × ClassId) (M : am_M) (sz : Nat) : FrameBlind (va_Pc av (am_Pre a D g M sz)) := by
  rintro v U g' mk ⟨h0, h1, h2, h3, h4, h5⟩
  exact ⟨h0, h1, h2, va_K.moved (u := U) (U := U.calling g' mk v) (Vm.Alike.refl U.vm) h3, h4, am_SF_warm (u := U) (U := U.calling g' mk v) (State.WarmedH.refl U) (fun _ _ _ => rfl) (fun _ h => h) h5⟩
section AMC
variable {p : Program} {l : Launch} {e : Env} {R : Room} {s : State} {m : MethodId} {args : Array Value} {below : List Frame} {meth : Method} {c : Code} {H : Heap} {locs : List Loc} {cells slots : Nat} {QQ : State → Prop}
theorem am_tight {T T' : State} {locs' : List Loc} {c' n' : Nat} (X : Stand p l e R s m args below meth c T locs cells slots) (X' : Stand p l e R s m args below meth c T' locs' c' n') (hsz : T'.heap.size = T.heap.size)
    (hsl : ∀ (a : Nat) (c0 : Cell), T.heap[a]? = some c0 → ∃ c1 : Cell, T'.heap[a]? = some c1 ∧ c1.slots.size = c0.slots.size) : Stand p l e R s m args below meth c T' locs' cells slots := by
  obtain ⟨e1, h1, h2, h3, h4, h5⟩ := X'.same
  obtain ⟨-, -, g2, -, g4, -⟩ := X.same
  have hm : T'.heap.toList.map (·.slots.size) = T.heap.toList.map (·.slots.size) := by
    apply List.ext_getElem?
    intro k
    rw [List.getElem?_map, List.getElem?_map, Array.getElem?_toList, Array.getElem?_toList]
    cases hk : T.heap[k]? with
    | none =>
      have : T'.heap[k]? = none := by
        rw [Array.getElem?_eq_none_iff] at hk ⊢
        omega
      rw [this]
    | some c0 =>
      obtain ⟨c1, q1, q2⟩ := hsl k c0 hk
      rw [q1]
      simp [q2]
  refine { X' with same := ⟨e1, h1, ?_, h3, ?_, h5⟩ }
  · show T'.heap.size ≤ s.heap.size + cells
    have g2' : T.heap.size ≤ s.heap.size + cells := g2
    omega
  · show ((T'.heap.toList.drop s.heap.size).map (·.slots.size)).sum ≤ slots
    have g4' : ((T.heap.toList.drop s.heap.size).map (·.slots.size)).sum ≤ slots := g4
    rw [List.map_drop, hm, ← List.map_drop]
    exact g4'
theorem am_run_W {L : am_S} {t u : am_MT} {a : Nat → Nat} {D : va_G} {g : ClassId × ClassId × ClassId} {A : Nat → Prop} {M : am_M} {K : am_Q} {pc : Nat} {la : Array Slot} {st0 rest : List Value} {av : Array Value}
    (hC : am_Ct L t a D g A s) (hW : am_Wl L t a D g A s M H locs)
    (hr : vx_Run p l e R s m args below meth c H locs cells slots 1 6 (F0 m pc la st0) rest (am_Qc u a D g (va_A (am_w a g M) H.size) K av) (am_XC a D g (va_A (am_w a g M) H.size) K) (va_A (am_w a g M) H.size))
    (kn : ∀ (v : Option Value) (M' : am_M) (H1 : Heap) (locs1 : List Loc), K (.inl v) M' → am_Wl L t a D g A s M' H1 locs1 → W p l e R s m args below meth c H1 locs1 (if mt_g u then cells + 1 else cells) (if mt_g u then slots + 6 else slots) QQ (F0 m (pc + 3) la ((v.map (am_tv a)).toList ++ rest)))
    (kx : ∀ (E : String) (M' : am_M) (H1 : Heap) (locs1 : List Loc) (q : Addr) (ce : Cell), K (.inr E) M' → am_Wl L t a D g A s M' H1 locs1 → H1[q]? = some ce → ce.vm = .none → s.vm.findClass E = some ce.cls → vx_W p l e R s m args below meth c H1 locs1 (cells + 1) (slots + 6) QQ (F0 m pc la rest) q) :
    W p l e R s m args below meth c H locs cells slots QQ (F0 m pc la st0) := by
  have hA1 : ∀ q, va_A (am_w a g M) H.size q → A q := va_free (hC.2.1 M) hW.2.1 hC.2.2.1 (List.range 27) (by
    apply List.ext_getElem?
    intro k
    by_cases hk : k < 27
    · simp [hk, am_w_get a g M hk]
    · rw [List.getElem?_eq_none (by simpa using Nat.not_lt.mp hk), List.getElem?_eq_none (by simpa [am_w_len] using Nat.not_lt.mp hk)])
  intro T hT X
  rcases hr T hT X with ⟨v, st₀, t1, T', L1, h0, X', hL, e1, e2, hQ, st⟩ | ⟨q, st₀, t1, T', L1, E, ce, h0, X', hL, e1, e2, hXC, hce, hcv, hcl, st⟩
  · obtain ⟨⟨v', M', hv, hK, hP'⟩, hF, htg⟩ := hQ
    obtain ⟨k1, k2, k3⟩ := vx_keep h0 e1 hW.2.1 (fun q _ h => hA1 q h) hA1 hL hF
    have hv' : v = v'.map (am_tv a) := by
      cases hv
      rfl
    subst hv'
    have hW' : am_Wl L t a D g A s M' T'.heap (locs ++ L1) := ⟨by rw [e1]; exact hP', k3, hW.2.2⟩
    have k := kn v' M' T'.heap (locs ++ L1) hK hW'
    cases hg : mt_g u with
    | true =>
      rw [hg] at k
      obtain ⟨t2, a1, b1⟩ := k T' rfl X'
      exact ⟨t2, st t2 a1, b1⟩
    | false =>
      rw [hg] at k
      obtain ⟨L0, -, -, hsm⟩ := htg hg
      obtain ⟨-, q1, q2, -, -, q5⟩ := hsm
      have hsz : T'.heap.size = T.heap.size := by
        have q1' : st₀.heap.size ≤ t1.heap.size := q1
        have q2' : t1.heap.size ≤ st₀.heap.size + 0 := q2
        rw [e1, hT, ← h0]
        omega
      have X2 := am_tight X X' hsz (fun b c0 hb => by
        rw [hT, ← h0] at hb
        obtain ⟨c1, r1, -, r3, -⟩ := q5 b c0 hb
        exact ⟨c1, by rw [e1]; exact r1, r3⟩)
      obtain ⟨t2, a1, b1⟩ := k T' rfl X2
      exact ⟨t2, st t2 a1, b1⟩
  · obtain ⟨⟨M', hK, hP'⟩, hF⟩ := hXC
    obtain ⟨k1, k2, k3⟩ := vx_keep h0 e1 hW.2.1 (fun q _ h => hA1 q h) hA1 hL hF
    have hW' : am_Wl L t a D g A s M' T'.heap (locs ++ L1) := ⟨by rw [e1]; exact hP', k3, hW.2.2⟩
    obtain ⟨t2, a1, b1⟩ := kx E M' T'.heap (locs ++ L1) q ce hK hW' (by rw [e1]; exact hce) hcv hcl T' rfl X'
    exact ⟨t2, st.trans a1, b1⟩
theorem am_End_shift {L : am_S} {t : am_MT} {a : Nat → Nat} {D : va_G} {g : ClassId × ClassId × ClassId} {A : Nat → Prop} {n : Nat} {Q : am_Q} (hg : mt_g t = true) (h : am_End p l e R s m args below meth c L t a D g A cells slots (n + 1) QQ Q) :
    am_End p l e R s m args below meth c L t a D g A (cells + 1) (slots + 6) n QQ Q := by
  intro k hk h0
  obtain ⟨e1, e2, e3⟩ := h (k + 1) (by omega) (fun h => by rw [hg] at h; cases h)
  have c1 : cells + (k + 1) = cells + 1 + k := by omega
  have c2 : slots + 6 * (k + 1) = slots + 6 + 6 * k := by omega
  rw [c1, c2] at e1 e2 e3
  refine ⟨e1, ?_, ?_⟩
  · intro E M H locs pc la rest q ce z1 z2 z3 z4 z5 z6 z7
    exact e2 E M H locs pc la rest q ce z1 z2 z3 z4 z5 z6 (by omega)
  · intro x M H locs pc la rest ik ii ic z1 z2 z3 z4 z5
    exact e3 x M H locs pc la rest ik ii ic z1 z2 z3 z4 (by omega)
end AMC
end
section
section AMD
variable {p : Program} {l : Launch} {e : Env} {R : Room} {s : State} {m : MethodId} {args : Array Value} {below : List Frame} {meth : Method} {c : Code} {H : Heap} {locs : List Loc} {cells slots : Nat} {QQ : State → Prop}
variable {Qc : Array Value → State → Outcome → State → Prop} {XC : String → State → State → Prop} {free : Addr → Prop} {cc : ByteArray} {pc : Nat} {la : Array Slot} {mc ms : Nat}
/-- returns that say what was made -/
theorem am_zret {v : Int32} {ty : FieldType} (hexec : p.tables.exec = Jvm.exec) (hb : c.code = cc) (hr : meth.sig.returnType = some ty) (hn : narrow ty (.int v) = .int v)
    (hq : ∀ t : State, t.heap = H → s.WarmedH t.vm → FrameEnd s (.returned (some (.int v))) t locs cells slots → Qc args s (.returned (some (.int v))) t) (hf : ∀ q ∈ locs, free q.base)
    (hdg : decode cc pc = .ok (.ireturn, 1)) (hlocks : meth.locks = false) (hc : cells ≤ mc) (hs : slots ≤ ms) : W p l e R s m args below meth c H locs cells slots (vx_MQ below Qc XC args s mc ms free) (F0 m pc la [.int v]) := by
  intro T hT X
  obtain ⟨fs, hret, hrun, hended, hW, hframe⟩ := X.leave (v := some (.int v)) (hlocks := hlocks) (fun h => by rw [hr] at h; cases h)
  have hmeth' : T.vm.method? m = some meth := X.method'
  refine ⟨T.setFrames fs, ?_, .returned (some (.int v)), hrun, hended, Or.inl ⟨hq _ hT hW ⟨⟨_, rfl⟩, hW, hframe⟩, locs, ⟨⟨_, rfl⟩, hW, hframe.mono hc hs⟩, hf⟩⟩
  jvm_step X.here [X.here.top, hexec, hb, hdg, hmeth', hr, hn]
  (try refine ⟨rfl, ?_⟩); (try refine ⟨rfl, ?_⟩)
  first | (intro acts; rw [hret _ acts rfl rfl rfl]) | rw [hret _ _ rfl rfl rfl]
  exact Steps.refl _
theorem am_lret {v : Int64} (hexec : p.tables.exec = Jvm.exec) (hb : c.code = cc) (hr : meth.sig.returnType = some .long)
    (hq : ∀ t : State, t.heap = H → s.WarmedH t.vm → FrameEnd s (.returned (some (.long v))) t locs cells slots → Qc args s (.returned (some (.long v))) t) (hf : ∀ q ∈ locs, free q.base)
    (hdg : decode cc pc = .ok (.lreturn, 1)) (hlocks : meth.locks = false) (hc : cells ≤ mc) (hs : slots ≤ ms) : W p l e R s m args below meth c H locs cells slots (vx_MQ below Qc XC args s mc ms free) (F0 m pc la [.long v]) := by
  intro T hT X
  obtain ⟨fs, hret, hrun, hended, hW, hframe⟩ := X.leave (v := some (.long v)) (hlocks := hlocks) (fun h => by rw [hr] at h; cases h)
  have hmeth' : T.vm.method? m = some meth := X.method'
  refine ⟨T.setFrames fs, ?_, .returned (some (.long v)), hrun, hended, Or.inl ⟨hq _ hT hW ⟨⟨_, rfl⟩, hW, hframe⟩, locs, ⟨⟨_, rfl⟩, hW, hframe.mono hc hs⟩, hf⟩⟩
  jvm_step X.here [X.here.top, hexec, hb, hdg, hmeth', hr, narrow]
  (try refine ⟨rfl, ?_⟩); (try refine ⟨rfl, ?_⟩)
  first | (intro acts; rw [hret _ acts rfl rfl rfl]) | rw [hret _ _ rfl rfl rfl]
  exact Steps.refl _
theorem am_dret {v : UInt64} (hexec : p.tables.exec = Jvm.exec) (hb : c.code = cc) (hr : meth.sig.returnType = some .double)
    (hq : ∀ t : State, t.heap = H → s.WarmedH t.vm → FrameEnd s (.returned (some (.double v))) t locs cells slots → Qc args s (.returned (some (.double v))) t) (hf : ∀ q ∈ locs, free q.base)
    (hdg : decode cc pc = .ok (.dreturn, 1)) (hlocks : meth.locks = false) (hc : cells ≤ mc) (hs : slots ≤ ms) : W p l e R s m args below meth c H locs cells slots (vx_MQ below Qc XC args s mc ms free) (F0 m pc la [.double v]) := by
  intro T hT X
  obtain ⟨fs, hret, hrun, hended, hW, hframe⟩ := X.leave (v := some (.double v)) (hlocks := hlocks) (fun h => by rw [hr] at h; cases h)
  have hmeth' : T.vm.method? m = some meth := X.method'
  refine ⟨T.setFrames fs, ?_, .returned (some (.double v)), hrun, hended, Or.inl ⟨hq _ hT hW ⟨⟨_, rfl⟩, hW, hframe⟩, locs, ⟨⟨_, rfl⟩, hW, hframe.mono hc hs⟩, hf⟩⟩
  jvm_step X.here [X.here.top, hexec, hb, hdg, hmeth', hr, narrow]
  (try refine ⟨rfl, ?_⟩); (try refine ⟨rfl, ?_⟩)
  first | (intro acts; rw [hret _ acts rfl rfl rfl]) | rw [hret _ _ rfl rfl rfl]
  exact Steps.refl _
theorem am_vret (hexec : p.tables.exec = Jvm.exec) (hb : c.code = cc) (hr : meth.sig.returnType = none)
    (hq : ∀ t : State, t.heap = H → s.WarmedH t.vm → FrameEnd s (.returned none) t locs cells slots → Qc args s (.returned none) t) (hf : ∀ q ∈ locs, free q.base)
    (hdg : decode cc pc = .ok (.return_, 1)) (hlocks : meth.locks = false) (hc : cells ≤ mc) (hs : slots ≤ ms) : W p l e R s m args below meth c H locs cells slots (vx_MQ below Qc XC args s mc ms free) (F0 m pc la []) := by
  intro T hT X
  obtain ⟨fs, hret, hrun, hended, hW, hframe⟩ := X.leave (v := none) (hlocks := hlocks) (fun _ => rfl)
  have hmeth' : T.vm.method? m = some meth := X.method'
  refine ⟨T.setFrames fs, ?_, .returned none, hrun, hended, Or.inl ⟨hq _ hT hW ⟨⟨_, rfl⟩, hW, hframe⟩, locs, ⟨⟨_, rfl⟩, hW, hframe.mono hc hs⟩, hf⟩⟩
  jvm_step X.here [X.here.top, hexec, hb, hdg, hmeth', hr]
  (try refine ⟨rfl, ?_⟩); (try refine ⟨rfl, ?_⟩)
  first | (intro acts; rw [hret _ acts rfl rfl rfl]) | rw [hret _ _ rfl rfl rfl]
  exact Steps.refl _
end AMD
theorem am_hd_split {E : String} {hp : Nat} : ∀ hs : List (Nat × Nat × Nat × Nat), am_hd E hs = some hp → ∃ pre x suf, hs = pre ++ x :: suf ∧ x.2.2.1 = hp ∧ am_xl x.2.2.2 = E ∧ ∀ z ∈ pre, am_xl z.2.2.2 ≠ E
  | [], h => by cases h
  | x :: hs, h => by
    unfold am_hd at h
    split at h
    · rename_i hx
      cases h
      exact ⟨[], x, hs, rfl, rfl, hx, fun z hz => by cases hz⟩
    · rename_i hx
      obtain ⟨pre, y, suf, h1, h2, h3, h4⟩ := am_hd_split hs h
      exact ⟨x :: pre, y, suf, by rw [h1]; rfl, h2, h3, fun z hz => by
        rcases List.mem_cons.mp hz with rfl | hz
        · exact hx
        · exact h4 z hz⟩
theorem am_cl13 : Jvm.Cond.classLink "DyeVatsLaw" 13 "java/lang/IndexOutOfBoundsException" ∈ am_good := by decide +kernel
theorem am_cl15 : Jvm.Cond.classLink "DyeVatsLaw" 15 "java/lang/IllegalArgumentException" ∈ am_good := by decide +kernel
theorem am_cl21 : Jvm.Cond.classLink "DyeVatsLaw" 21 "java/lang/IllegalStateException" ∈ am_good := by decide +kernel
/-- the rows of a table: they cover the place, they name the three classes -/
def am_cov (pc : Nat) (hs : List (Nat × Nat × Nat × Nat)) : Bool := hs.all fun h => decide (h.1 ≤ pc) && (decide (pc < h.2.1) && (decide (h.2.2.2 = 13) || (decide (h.2.2.2 = 15) || decide (h.2.2.2 = 21))))
theorem am_xl_ct {k : Nat} (h : k = 13 ∨ k = 15 ∨ k = 21) : Jvm.Cond.classLink "DyeVatsLaw" k (am_xl k) ∈ am_good ∧ k ≠ 0 ∧ ∃ i, am_xl k = am_ex i := by
  rcases h with rfl | rfl | rfl
  · exact ⟨am_cl13, by decide, 0, rfl⟩
  · exact ⟨am_cl15, by decide, 1, rfl⟩
  · exact ⟨am_cl21, by decide, 2, rfl⟩
theorem am_covers {z : ExceptionTableEntry} {pc : Nat} (h1 : z.startPc ≤ pc) (h2 : pc < z.endPc) : covers z pc = true := by
  simp [covers, h1, h2]
theorem am_catch_W {p : Program} {l : Launch} {e : Env} {R : Room} {s : State} {m : MethodId} {args : Array Value} {below : List Frame} {meth : Method} {c : Code} {H : Heap} {locs : List Loc} {cells slots : Nat} {QQ : State → Prop} {pc hp : Nat} {la : Array Slot} {rest : List Value} {E : String} {hs : List (Nat × Nat × Nat × Nat)} {q : Addr} {ce : Cell}
    (hown : s.vm.findClass "DyeVatsLaw" = some m.cls) (hts : ∀ w ∈ am_good, w.before args s = true) (htab : c.exceptionTable.toList = tableOf hs) (hcov : am_cov pc hs = true) (hh : am_hd E hs = some hp) (hNc : ∀ i j : Nat, am_ex i ≠ am_ex j → va_Nc (am_ex i) (am_ex j) s) (hCa : ∀ i : Nat, va_Nw (.castable (am_ex i) (am_ex i)) s)
    (hcell : H[q]? = some ce) (hv : ce.vm = .none) (hcl : s.vm.findClass E = some ce.cls) (kk : W p l e R s m args below meth c H locs cells slots QQ (F0 m hp la [.ref q])) : vx_W p l e R s m args below meth c H locs cells slots QQ (F0 m pc la rest) q := by
  obtain ⟨pre, x, suf, h1, h2, h3, h4⟩ := am_hd_split hs hh
  have hall : ∀ z ∈ hs, z.1 ≤ pc ∧ pc < z.2.1 ∧ (z.2.2.2 = 13 ∨ z.2.2.2 = 15 ∨ z.2.2.2 = 21) := by
    intro z hz
    have := List.all_eq_true.mp hcov z hz
    simpa using this
  have hxm : x ∈ hs := by rw [h1]; simp
  obtain ⟨x1, x2, x3⟩ := hall x hxm
  obtain ⟨w1, w3, i, hi⟩ := am_xl_ct x3
  have hsplit : c.exceptionTable.toList = tableOf pre ++ (⟨x.1, x.2.1, x.2.2.1, x.2.2.2⟩ : ExceptionTableEntry) :: tableOf suf := by
    rw [htab, h1]
    simp [tableOf]
  refine vx_catch (own := "DyeVatsLaw") (name := am_xl x.2.2.2) (E := E) hown (tableOf pre) _ (tableOf suf) hsplit ?_ (am_covers x1 x2) w3 (hts _ w1) (by rw [← h3, hi]; exact va_Nw.use rfl (hCa i)) hcell hv hcl (by rw [h2]; exact kk)
  intro z hz
  obtain ⟨y, hy, rfl⟩ := List.mem_map.mp hz
  have hym : y ∈ hs := by rw [h1]; exact List.mem_append_left _ hy
  obtain ⟨y1, y2, y3⟩ := hall y hym
  obtain ⟨v1, v3, j, hj⟩ := am_xl_ct y3
  refine Or.inr ⟨v3, am_xl y.2.2.2, hts _ v1, ?_⟩
  rw [← h3, hi, hj]
  exact hNc i j (by rw [← hi, ← hj, h3]; exact fun z => h4 y hy z.symm)
def am_nm : List String := ["java/lang/RuntimeException", "java/lang/Exception"]
def am_ix : Nat → Nat
  | 0 => 220 | 1 => 88 | _ => 77
def am_kx : Nat → Nat
  | 0 => 216 | 1 => 84 | _ => 73
theorem am_at0 : ∀ w ∈ (vx_atS RX3 220 "java/lang/IndexOutOfBoundsException" am_nm).filter goodWord, w ∈ am_good := by decide +kernel
theorem am_at1 : ∀ w ∈ (vx_atS RX3 88 "java/lang/IllegalArgumentException" am_nm).filter goodWord, w ∈ am_good := by decide +kernel
theorem am_at2 : ∀ w ∈ (vx_atS RX3 77 "java/lang/IllegalStateException" am_nm).filter goodWord, w ∈ am_good := by decide +kernel
theorem am_an0 : ∀ w ∈ (vx_atS RX3 220 "java/lang/IndexOutOfBoundsException" am_nm).filter (fun w => !goodWord w), w ∈ Jvm.Cond.castable "java/lang/IndexOutOfBoundsException" "java/lang/IndexOutOfBoundsException" :: am_dn.map Jvm.Cond.declares := by decide +kernel
theorem am_an1 : ∀ w ∈ (vx_atS RX3 88 "java/lang/IllegalArgumentException" am_nm).filter (fun w => !goodWord w), w ∈ Jvm.Cond.castable "java/lang/IllegalArgumentException" "java/lang/IllegalArgumentException" :: am_dn.map Jvm.Cond.declares := by decide +kernel
theorem am_an2 : ∀ w ∈ (vx_atS RX3 77 "java/lang/IllegalStateException" am_nm).filter (fun w => !goodWord w), w ∈ Jvm.Cond.castable "java/lang/IllegalStateException" "java/lang/IllegalStateException" :: am_dn.map Jvm.Cond.declares := by decide +kernel
theorem am_ck0 : Jvm.Cond.classLink RX3 216 "java/lang/IndexOutOfBoundsException" ∈ am_good ∧ Jvm.Cond.initialized "java/lang/IndexOutOfBoundsException" ∈ am_good ∧ Jvm.Cond.classLink RX3 84 "java/lang/IllegalArgumentException" ∈ am_good ∧ Jvm.Cond.initialized "java/lang/IllegalArgumentException" ∈ am_good ∧ Jvm.Cond.classLink RX3 73 "java/lang/IllegalStateException" ∈ am_good ∧ Jvm.Cond.initialized "java/lang/IllegalStateException" ∈ am_good := by decide +kernel
theorem am_ag : (∀ w ∈ Jvm.Cond.classLink RX3 216 "java/lang/IndexOutOfBoundsException" :: Jvm.Cond.initialized "java/lang/IndexOutOfBoundsException" :: vx_atS RX3 220 "java/lang/IndexOutOfBoundsException" am_nm, vx_ot w = true) ∧ (∀ w ∈ Jvm.Cond.classLink RX3 84 "java/lang/IllegalArgumentException" :: Jvm.Cond.initialized "java/lang/IllegalArgumentException" :: vx_atS RX3 88 "java/lang/IllegalArgumentException" am_nm, vx_ot w = true) ∧ (∀ w ∈ Jvm.Cond.classLink RX3 73 "java/lang/IllegalStateException" :: Jvm.Cond.initialized "java/lang/IllegalStateException" :: vx_atS RX3 77 "java/lang/IllegalStateException" am_nm, vx_ot w = true) := by decide +kernel
end
section
/-! the entry of a method: a walk of its body gives its contract -/
theorem am_cat_sum : ∀ st : List Value, (st.map fun v => v.category).sum = am_cat st
  | [] => rfl
  | v :: r => by
    show v.category + (r.map fun v => v.category).sum = v.category + am_cat r
    rw [am_cat_sum r]
def am_en0 : List Value → List Value
  | [] => []
  | v :: r => match v with
    | .long x => .long x :: .null :: am_en0 r
    | .double x => .double x :: .null :: am_en0 r
    | v => v :: am_en0 r
def am_en (n : Nat) (av : List Value) : List Value := am_en0 av ++ List.replicate (n - (am_en0 av).length) .null
theorem am_en0_cat (v : Value) (r : List Value) : am_en0 (v :: r) = v :: (if v.category = 2 then .null :: am_en0 r else am_en0 r) := by
  cases v <;> simp [am_en0, Value.category]
theorem am_en0_len (a : Nat → Nat) : ∀ av : List Value, (lg_sl (av.map (am_tv a))).length = (am_en0 av).length
  | [] => rfl
  | v :: r => by
    rw [am_en0_cat, List.map_cons]
    have ih := am_en0_len a r
    unfold lg_sl at ih ⊢
    rw [List.flatMap_cons, am_tv_cat]
    by_cases h : v.category = 2
    · simp only [h, if_true, List.length_append, List.length_cons, List.length_nil]
      omega
    · simp only [h, if_false, List.length_append, List.length_cons, List.length_nil]
      omega
theorem am_en0_get (a : Nat → Nat) : ∀ (av : List Value) (o i : Nat) (v : Value), (am_en0 av)[i]? = some v → v ≠ .null → (o + i, am_tv a v) ∈ lv_args o (av.map (am_tv a))
  | [], o, i, v, h, _ => by simp [am_en0] at h
  | w :: r, o, i, v, h, hv => by
    rw [am_en0_cat] at h
    rw [List.map_cons]
    unfold lv_args
    rw [am_tv_cat]
    cases i with
    | zero =>
      rw [List.getElem?_cons_zero] at h
      cases h
      exact List.mem_cons_self
    | succ i =>
      rw [List.getElem?_cons_succ] at h
      refine List.mem_cons_of_mem _ ?_
      by_cases hc : w.category = 2
      · simp only [hc, if_true] at h ⊢
        cases i with
        | zero =>
          rw [List.getElem?_cons_zero] at h
          cases h
          exact absurd rfl hv
        | succ i =>
          rw [List.getElem?_cons_succ] at h
          have := am_en0_get a r (o + 2) i v h hv
          rwa [show o + 2 + i = o + (i + 1 + 1) by omega] at this
      · simp only [hc, if_false] at h ⊢
        have := am_en0_get a r (o + 1) i v h hv
        rwa [show o + 1 + i = o + (i + 1) by omega] at this
theorem am_entry_lv (a : Nat → Nat) {n : Nat} {av : List Value} (h : (am_en0 av).length ≤ n) : am_lv a n (am_en n av) ((lg_sl (av.map (am_tv a)) ++ List.replicate (n - (lg_sl (av.map (am_tv a))).length) Slot.unset).toArray) := by
  obtain ⟨h1, h2, h3⟩ := lv_entry (av.map (am_tv a)) (n := n) (by rw [am_en0_len]; exact h)
  refine ⟨h1, h2, by simp [am_en]; omega, fun i v hi hv => ?_⟩
  have hi' : (am_en0 av)[i]? = some v := by
    unfold am_en at hi
    by_cases hl : i < (am_en0 av).length
    · rwa [List.getElem?_append_left hl] at hi
    · rw [List.getElem?_append_right (by omega)] at hi
      exact absurd (List.eq_of_mem_replicate (List.mem_of_getElem? hi)) hv
  have := h3 (0 + i, am_tv a v) (am_en0_get a av 0 i v hi' hv)
  simpa using this
set_option maxHeartbeats 1000000 in
theorem am_C_of_R {t : am_MT} {av : List Value} {M : am_M} {Q : am_Q} (L : am_S) (hk : am_okM t) (hw : mt_w t = false) (ls : List Value) (hls : am_en (mt_l t) av = ls) (hn : Nat.ble (am_en0 av).length (mt_l t) = true) (h : am_R L t 1 0 ls [] M Q) : am_C t av M Q := by
  subst hls
  have hn := Nat.le_of_ble_eq_true hn
  intro l a D g sz hst
  have key : ∀ (p : Program) (e : Env) (s : State) (m : MethodId) (args : Array Value) (below : List Frame) (meth : Method) (c : Code) (s₁ : State), BodyLoose p l (mt_y t) (headSpec (am_ws t) (am_rm t)) (mt_b t) (mt_l t) (mt_r t) e s m args below meth c s₁ → c.maxLocals = mt_l t → c.exceptionTable.toList = tableOf (mt_h t) → va_Pc (av.map (am_tv a)) (am_Pre a D g M sz) args s →
      W p l e (am_rm t) s m args below meth c s.heap [] 0 0 (vx_MQ below (am_Qc t a D g (va_A (am_w a g M) sz) Q) (am_XC a D g (va_A (am_w a g M) sz) Q) args s 1 6 (va_A (am_w a g M) sz)) (entryFrame m args (mt_l t)) := by
    intro p e s m args below meth c s₁ B hml htab hv
    obtain ⟨rfl, rfl, hP, hK, hD0, hSF⟩ := hv
    have hts0 := atoms_spec (ws := am_ws t) B.pre
    have hts : ∀ w ∈ am_good, w.before (av.map (am_tv a)).toArray s = true := fun w h => hts0 w (List.mem_cons_of_mem _ h)
    have hown : s.vm.findClass (mt_y t).cls = some m.cls := findClass_of_methodNamed B.named
    have hD := hD0.self (sz := s.heap.size)
    generalize hA : va_A (am_w a g M) s.heap.size = A at hD hSF ⊢
    have hAA : ∀ q : Nat, s.heap.size ≤ q → A q := fun q h => by rw [← hA]; exact Or.inr h
    rw [lg_entry_eq]
    refine h p l e (am_rm t) s m _ below meth c a D g A 0 0 _ ⟨B.exec, B.bytes, hml, hown, hts, B.notSynchronized, hst, htab, B.returns, Nat.le_refl _, Nat.le_refl _⟩ ⟨hK, fun M' => am_D_any hD M', hAA, hSF, fun h => by rw [hw] at h; cases h⟩ (Nat.le_refl _) (Nat.le_refl _) ?_ s.heap [] _ ⟨hP, va_S.rf, fun h => by rw [hw] at h; cases h⟩ (am_entry_lv a hn)
    intro k hk1 hk0
    refine ⟨?_, ?_, ?_⟩
    · intro v M' H locs pc la i hQ hW hri hd hla
      have hF : ∀ u : State, u.heap = H → va_F A s u := fun u hu => hW.2.1.F hu
      have hf : ∀ q ∈ locs, A q.base := hW.2.1.2.2
      have hc1 : 0 + k ≤ 1 := by omega
      have hs1 : 0 + 6 * k ≤ 6 := by omega
      have hq : ∀ u : State, u.heap = H → s.WarmedH u.vm → FrameEnd s (.returned (v.map (am_tv a))) u locs (0 + k) (0 + 6 * k) → am_Qc t a D g A Q (av.map (am_tv a)).toArray s (.returned (v.map (am_tv a))) u := by
        intro u hu _ hfe
        refine ⟨⟨v, M', rfl, hQ, by rw [hu]; exact hW.1⟩, hF u hu, fun hg => ⟨locs, ?_⟩⟩
        have hk : k = 0 := hk0 hg
        subst hk
        exact hfe
      match v, hri with
      | none, ⟨h1, h2⟩ =>
        subst h1
        exact am_vret B.exec B.bytes (B.returns.trans h2) hq hf hd B.notSynchronized hc1 hs1
      | some (.int x), ⟨h1, ty, h2, h3⟩ =>
        subst h1
        exact am_zret B.exec B.bytes (B.returns.trans h2) h3 hq hf hd B.notSynchronized hc1 hs1
      | some (.long x), ⟨h1, h2⟩ =>
        subst h1
        exact am_lret B.exec B.bytes (B.returns.trans h2) hq hf hd B.notSynchronized hc1 hs1
      | some (.double x), ⟨h1, h2⟩ =>
        subst h1
        exact am_dret B.exec B.bytes (B.returns.trans h2) hq hf hd B.notSynchronized hc1 hs1
    · intro E M' H locs pc la rest q ce hQ hW hce hcv hcl hh hk2
      have hk : k = 0 := by omega
      subst hk
      refine vx_out (fun x hx => ?_) B.notSynchronized hce hcv hcl (fun u hu _ => ⟨⟨M', hQ, by rw [hu]; exact hW.1⟩, hW.2.1.F hu⟩) hW.2.1.2.2 (by omega) (by omega)
      rw [htab, hh] at hx
      cases hx
    · intro x M' H locs pc la rest ik ii ic hQ hW hh hx3 hk2 hla hcat hRX h6 h90 hik hic htx d0 d3 d4 d6 d9
      have hk : k = 0 := by omega
      subst hk
      obtain ⟨tx, htx⟩ := htx
      obtain ⟨sa, hsa⟩ := hSF.2.2.1 (ii, tx) htx
      have hown3 : s.vm.findClass RX3 = some m.cls := by rw [← hRX]; exact hown
      have hout : ∀ x ∈ c.exceptionTable.toList, covers x (pc + 9) = false := fun x hx => by
        rw [htab, hh] at hx
        cases hx
      have hxc : ∀ u : State, s.vm.Alike u.vm → H.size ≤ u.heap.size → (∀ q : Nat, q < H.size → u.heap[q]? = H[q]?) → am_XC a D g A Q (am_ex x) s u := by
        intro u _ hz hq
        refine ⟨⟨M', hQ, hW.1.kept (fun k q hkq => hq q.1 (hW.1 k q hkq).lt)⟩, Nat.le_trans hW.2.1.1 hz, fun q h1 h2 => ?_⟩
        rw [hq q (Nat.lt_of_lt_of_le h1 hW.2.1.1)]
        exact hW.2.1.2.1 q h1 h2
      have hrl : (List.map (fun v => v.category) (rest)).sum + (13 * (am_nm.length + 1) + 43) ≤ (am_rm t).locals := by
        rw [am_cat_sum]
        show am_cat rest + 82 ≤ mt_rl t
        omega
      have hrf : am_nm.length + 3 < (am_rm t).frames := by
        show 5 < mt_rf t
        omega
      match x, hx3 with
      | 0, _ =>
        subst hik; subst hic
        exact vx_throwS (names := am_nm) (text := tx) (own := RX3) (cls := am_ex 0) B.exec B.bytes hst hown3 (by decide) (by decide) (hts _ am_ck0.1) (hts _ am_ck0.2.1) hsa
          (vx_hat (fun w hw => hts w (am_at0 w hw)) am_an0 (fun w hw => by
            rcases List.mem_cons.mp hw with rfl | hw
            · exact va_Nw.use rfl (hSF.2.2.2.2.2.1 0)
            · obtain ⟨y, hy, rfl⟩ := List.mem_map.mp hw
              exact va_Nw.use rfl (hSF.2.2.2.2.2.2 y hy))) am_ag.1 hSF.1 hSF.2.1 hW.2.1 (by rw [hla]; exact hml.symm) d0 d3 d4 d6 d9 hout hrf hrl (by show 0 + 1 ≤ 1; omega) (by show 0 + 6 ≤ 6; omega) B.notSynchronized hxc hW.2.1.2.2 (by omega) (by omega)
      | 1, _ =>
        subst hik; subst hic
        exact vx_throwS (names := am_nm) (text := tx) (own := RX3) (cls := am_ex 1) B.exec B.bytes hst hown3 (by decide) (by decide) (hts _ am_ck0.2.2.1) (hts _ am_ck0.2.2.2.1) hsa
          (vx_hat (fun w hw => hts w (am_at1 w hw)) am_an1 (fun w hw => by
            rcases List.mem_cons.mp hw with rfl | hw
            · exact va_Nw.use rfl (hSF.2.2.2.2.2.1 1)
            · obtain ⟨y, hy, rfl⟩ := List.mem_map.mp hw
              exact va_Nw.use rfl (hSF.2.2.2.2.2.2 y hy))) am_ag.2.1 hSF.1 hSF.2.1 hW.2.1 (by rw [hla]; exact hml.symm) d0 d3 d4 d6 d9 hout hrf hrl (by show 0 + 1 ≤ 1; omega) (by show 0 + 6 ≤ 6; omega) B.notSynchronized hxc hW.2.1.2.2 (by omega) (by omega)
      | 2, _ =>
        subst hik; subst hic
        exact vx_throwS (names := am_nm) (text := tx) (own := RX3) (cls := am_ex 2) B.exec B.bytes hst hown3 (by decide) (by decide) (hts _ am_ck0.2.2.2.2.1) (hts _ am_ck0.2.2.2.2.2) hsa
          (vx_hat (fun w hw => hts w (am_at2 w hw)) am_an2 (fun w hw => by
            rcases List.mem_cons.mp hw with rfl | hw
            · exact va_Nw.use rfl (hSF.2.2.2.2.2.1 2)
            · obtain ⟨y, hy, rfl⟩ := List.mem_map.mp hw
              exact va_Nw.use rfl (hSF.2.2.2.2.2.2 y hy))) am_ag.2.2 hSF.1 hSF.2.1 hW.2.1 (by rw [hla]; exact hml.symm) d0 d3 d4 d6 d9 hout hrf hrl (by show 0 + 1 ≤ 1; omega) (by show 0 + 6 ≤ 6; omega) B.notSynchronized hxc hW.2.1.2.2 (by omega) (by omega)
  cases hh : mt_h t with
  | nil =>
    refine vx_ofW (cc := mt_b t) (maxL := mt_l t) (ret := mt_r t) (ws' := am_good) hk.2.2.2.2 (by simp [am_ws, hh]) ?_
    intro p e s m args below meth c s₁ B hml ht hv
    exact key p e s m args below meth c s₁ B hml (by
      rw [hh]
      exact List.eq_nil_iff_forall_not_mem.mpr (fun x hx => ht x hx)) hv
  | cons x xs =>
    refine vx_ofWH (cc := mt_b t) (maxL := mt_l t) (ret := mt_r t) (hh := x :: xs) (ws' := am_good) hk.2.2.2.2 (by simp [am_ws, hh]) ?_
    intro p e s m args below meth c s₁ B hml hv
    refine key p e s m args below meth c s₁ B hml ?_ hv
    rw [hh]
    exact vx_table (l := l) (x := mt_y t) (bytes := mt_b t) (maxL' := mt_l t) (ret' := mt_r t) B (atoms_spec (ws := am_ws t) B.pre _ (by simp [am_ws, hh]))
end
section
/-! rules of am_R: returns, throws, calls -/
section AMF
variable {L : am_S} {t : am_MT} {n pc : Nat} {ls st : List Value} {M : am_M} {Q : am_Q}
theorem am_R_ret {v : Option Value} {i : Instr} (hd : decode (mt_b t) pc = .ok (i, 1)) (hri : am_ri t v i) (hq : Q (.inl v) M) : am_R L t n pc ls v.toList M Q := by
  intro p l e R s m args below meth c a D g A cells slots QQ hE hC h1 h2 hEnd H locs la hW hL
  have h := (hEnd 0 (Nat.zero_le _) (fun _ => rfl)).1 v M H locs pc la i hq hW hri hd hL.1
  have e : (v.toList.map (am_tv a)) = (v.map (am_tv a)).toList := by cases v <;> rfl
  rw [e]
  exact h
theorem am_R_new {x ii : Nat} (hn : n ≠ 0) (hx : x < 3) (hh : mt_h t = []) (hRX : (mt_y t).cls = RX3) (h6 : 6 ≤ mt_rf t) (h90 : 90 ≤ mt_rl t) (htx : ∃ tx, (ii, tx) ∈ am_tx)
    (d0 : decode (mt_b t) pc = .ok (.new (am_kx x), 3)) (d3 : decode (mt_b t) (pc + 3) = .ok (.dup, 1)) (d4 : decode (mt_b t) (pc + 4) = .ok (.ldc ii, 2)) (d6 : decode (mt_b t) (pc + 6) = .ok (.invokespecial (am_ix x), 3)) (d9 : decode (mt_b t) (pc + 9) = .ok (.athrow, 1))
    (hq : Q (.inr (am_ex x)) M) : am_R L t n pc ls [] M Q := by
  intro p l e R s m args below meth c a D g A cells slots QQ hE hC h1 h2 hEnd H locs la hW hL
  exact (hEnd 0 (Nat.zero_le _) (fun _ => rfl)).2.2 x M H locs pc la [] (am_kx x) ii (am_ix x) hq hW hh hx (by omega) hL.1 (Nat.zero_le _) hRX h6 h90 (by unfold am_kx; rfl) (by unfold am_ix; rfl) htx d0 d3 d4 d6 d9
theorem am_R_min {idx z : Nat} {v1 v2 : Int32} {w : Jvm.Cond → Prop} (hd : decode (mt_b t) pc = .ok (.invokestatic idx, 3)) (hw : lw_tbl[z]? = some (.methodLink (mt_y t).cls idx Lib.Math.min.name)) (hw2 : Jvm.Cond.static Lib.Math.min.name ∈ am_good ∧ Jvm.Cond.initialized "java/lang/Math" ∈ am_good ∧ Jvm.Cond.code Lib.Math.min.name Lib.Math.min.code 2 (some .int) ∈ am_good) (h1' : 1 ≤ mt_rf t) (h2' : 21 ≤ mt_rl t) (hcat : am_cat st ≤ 8)
    (k : am_R L t n (pc + 3) ls (.int (if v2 < v1 then v2 else v1) :: st) M Q) : am_R L t n pc ls (.int v2 :: .int v1 :: st) M Q := by
  intro p l e R s m args below meth c a D g A cells slots QQ hE hC h1 h2 hEnd H locs la hW hL
  obtain ⟨hx, hb, hml, hown, hts, hlk, hst, htab, hret, hrf, hrl⟩ := id hE
  exact va_mmin hx hb (by rw [hL.1]; exact hml) hown (hts _ (am_good_of hw rfl)) (hts _ hw2.1) (hts _ hw2.2.1) (hts _ hw2.2.2) (by omega) (by rw [am_cat_map]; omega) (by omega) (by omega) hd
    (k p l e R s m args below meth c a D g A cells slots QQ hE hC h1 h2 hEnd H locs la hW hL)
theorem am_R_max {idx z : Nat} {v1 v2 : Int32} (hd : decode (mt_b t) pc = .ok (.invokestatic idx, 3)) (hw : lw_tbl[z]? = some (.methodLink (mt_y t).cls idx Lib.Math.max.name)) (hw2 : Jvm.Cond.static Lib.Math.max.name ∈ am_good ∧ Jvm.Cond.initialized "java/lang/Math" ∈ am_good ∧ Jvm.Cond.code Lib.Math.max.name Lib.Math.max.code 2 (some .int) ∈ am_good) (h1' : 1 ≤ mt_rf t) (h2' : 21 ≤ mt_rl t) (hcat : am_cat st ≤ 8)
    (k : am_R L t n (pc + 3) ls (.int (if v1 < v2 then v2 else v1) :: st) M Q) : am_R L t n pc ls (.int v2 :: .int v1 :: st) M Q := by
  intro p l e R s m args below meth c a D g A cells slots QQ hE hC h1 h2 hEnd H locs la hW hL
  obtain ⟨hx, hb, hml, hown, hts, hlk, hst, htab, hret, hrf, hrl⟩ := id hE
  exact va_mmax hx hb (by rw [hL.1]; exact hml) hown (hts _ (am_good_of hw rfl)) (hts _ hw2.1) (hts _ hw2.2.1) (hts _ hw2.2.2) (by omega) (by rw [am_cat_map]; omega) (by omega) (by omega) hd
    (k p l e R s m args below meth c a D g A cells slots QQ hE hC h1 h2 hEnd H locs la hW hL)
theorem am_R_d2l {idx z : Nat} {b : UInt64} (hd : decode (mt_b t) pc = .ok (.invokestatic idx, 3)) (hw : lw_tbl[z]? = some (.methodLink (mt_y t).cls idx ⟨"java/lang/Double", "doubleToRawLongBits", "(D)J"⟩)) (hw2 : Jvm.Cond.native ⟨"java/lang/Double", "doubleToRawLongBits", "(D)J"⟩ ∈ am_good ∧ Jvm.Cond.static ⟨"java/lang/Double", "doubleToRawLongBits", "(D)J"⟩ ∈ am_good ∧ Jvm.Cond.initialized "java/lang/Double" ∈ am_good) (h1' : 1 ≤ mt_rf t) (h2' : 23 ≤ mt_rl t) (hcat : am_cat st ≤ 8)
    (k : am_R L t n (pc + 3) ls (.long b.toInt64 :: st) M Q) : am_R L t n pc ls (.double b :: st) M Q := by
  intro p l e R s m args below meth c a D g A cells slots QQ hE hC h1 h2 hEnd H locs la hW hL
  obtain ⟨hx, hb, hml, hown, hts, hlk, hst, htab, hret, hrf, hrl⟩ := id hE
  exact vn_d2l hx hb (by rw [hL.1]; exact hml) hown (hts _ (am_good_of hw rfl)) (hts _ hw2.1) (hts _ hw2.2.1) (hts _ hw2.2.2) (by omega) (by rw [am_cat_map]; omega) hd
    (k p l e R s m args below meth c a D g A cells slots QQ hE hC h1 h2 hEnd H locs la hW hL)
theorem am_R_copy {idx z o d sk dk nk : Nat} {sp dp nn : Int32} (hd : decode (mt_b t) pc = .ok (.invokestatic idx, 3)) (hw : lw_tbl[z]? = some (.methodLink (mt_y t).cls idx arraycopyName)) (hw2 : Jvm.Cond.native arraycopyName ∈ am_good ∧ Jvm.Cond.static arraycopyName ∈ am_good ∧ Jvm.Cond.initialized "java/lang/System" ∈ am_good) (h1' : 1 ≤ mt_rf t) (h2' : 40 ≤ mt_rl t) (hcat : am_cat st ≤ 8)
    (ho : am_kd o = 0) (hdd : am_kd d = 0) (e1 : sp = nI sk) (e2 : dp = nI dk) (e3 : nn = nI nk) (b1 : sk + nk ≤ am_len L.1 o) (b2 : dk + nk ≤ am_len L.1 d)
    (k : am_R L t n (pc + 3) ls st (am_set M d (va_cpy (M o) (M d) sk dk nk)) Q) : am_R L t n pc ls (.int nn :: .int dp :: .ref d :: .int sp :: .ref o :: st) M Q := by
  intro p l e R s m args below meth c a D g A cells slots QQ hE hC h1 h2 hEnd H locs la hW hL
  obtain ⟨hx, hb, hml, hown, hts, hlk, hst, htab, hret, hrf, hrl⟩ := id hE
  subst e1; subst e2; subst e3
  have h27 := am_kd_lt (o := o) (by omega)
  have h27d := am_kd_lt (o := d) (by omega)
  have hne : o ≠ 27 := by omega
  have hned : d ≠ 27 := by omega
  have hlt := am_len_lt (L := L.1) hne
  have hltd := am_len_lt (L := L.1) hned
  have hg := am_w_get a g M h27
  rw [am_e0 ho, am_len_ne (L := L.1) hne] at hg
  have hgd := am_w_get a g M h27d
  rw [am_e0 hdd, am_len_ne (L := L.1) hned] at hgd
  show W p l e R s m args below meth c H locs cells slots QQ (F0 m pc la (.int (nI nk) :: .int (nI dk) :: am_tv a (.ref d) :: .int (nI sk) :: am_tv a (.ref o) :: st.map (am_tv a)))
  rw [am_tv_ref (by omega), am_tv_ref (by omega)]
  have z1 := nI_clamp (n := sk) (by omega)
  have z2 := nI_clamp (n := dk) (by omega)
  have z3 := nI_clamp (n := nk) (by omega)
  refine va_copyi hx hb (by rw [hL.1]; exact hml) hown (hts _ (am_good_of hw rfl)) (hts _ hw2.1) (hts _ hw2.2.1) (hts _ hw2.2.2) hC.1 hW.1 (hC.2.1 M) hW.2.1 o d 0 0 hg hgd rfl rfl rfl (nI_pos (by omega)) (nI_pos (by omega)) (nI_pos (by omega)) (by rw [z1, z3]; exact b1) (by rw [z2, z3]; exact b2) (fun _ _ => rfl) (by omega) ?_ hd (fun H1 locs1 hP hD hS => ?_)
  · rw [am_cat_map]
    show am_cat st + (7 + 11) ≤ R.locals
    omega
  · rw [z1, z2, z3, am_w_set (M' := am_set M d (va_cpy (M o) (M d) sk dk nk)) h27d (fun q hq => am_set_ne hq) (by rw [am_e0 hdd, am_set_eq, am_len_ne (L := L.1) hned])] at hP
    exact k p l e R s m args below meth c a D g A cells slots QQ hE hC h1 h2 hEnd H1 locs1 la ⟨hP, hS, hW.2.2⟩ hL
/-- what a call hands on -/
def am_KK (L : am_S) (t u : am_MT) (n pc : Nat) (ls r : List Value) (Q : am_Q) : am_Q := fun oc M' => match oc with
  | .inl v => am_R L t (if mt_g u then n else n + 1) (pc + 3) ls (v.toList ++ r) M' Q
  | .inr E => (mt_h t = [] ∧ Q (.inr E) M') ∨ (∃ hp, am_hd E (mt_h t) = some hp ∧ ∀ q : Nat, am_R L t n hp ls [.ref (29 + q)] M' Q)
theorem am_call_end {u : am_MT} {r : List Value} {p : Program} {l : Launch} {e : Env} {R : Room} {s : State} {m : MethodId} {args : Array Value} {below : List Frame} {meth : Method} {c : Code} {a : Nat → Nat} {D : va_G} {g : ClassId × ClassId × ClassId} {A : Nat → Prop} {cells slots : Nat} {QQ : State → Prop} {H : Heap} {locs : List Loc} {la : Array Slot} {st0 : List Value} {aa : Array Value}
    (hE : am_Env p l R s m args meth c t) (hC : am_Ct L t a D g A s) (h1 : cells + (n + 1) ≤ R.cells) (h2 : slots + 6 * (n + 1) ≤ R.slots) (hEnd : am_End p l e R s m args below meth c L t a D g A cells slots (n + 1) QQ Q) (hW : am_Wl L t a D g A s M H locs) (hL : am_lv a (mt_l t) ls la)
    (hg : mt_g u = true → mt_g t = true) (hht : mt_h t ≠ [] → mt_g t = true ∧ (mt_y t).cls = "DyeVatsLaw" ∧ am_cov pc (mt_h t) = true)
    (hr : vx_Run p l e R s m args below meth c H locs cells slots 1 6 (F0 m pc la st0) (r.map (am_tv a)) (am_Qc u a D g (va_A (am_w a g M) H.size) (am_KK L t u n pc ls r Q) aa) (am_XC a D g (va_A (am_w a g M) H.size) (am_KK L t u n pc ls r Q)) (va_A (am_w a g M) H.size)) :
    W p l e R s m args below meth c H locs cells slots QQ (F0 m pc la st0) := by
  refine am_run_W hC hW hr ?_ ?_
  · intro v M' H1 locs1 hK hW1
    have e1 : (v.map (am_tv a)).toList ++ r.map (am_tv a) = (v.toList ++ r).map (am_tv a) := by cases v <;> simp
    rw [e1]
    have hK' : am_R L t (if mt_g u then n else n + 1) (pc + 3) ls (v.toList ++ r) M' Q := hK
    cases hgu : mt_g u with
    | true =>
      rw [hgu] at hK'
      exact hK' p l e R s m args below meth c a D g A (cells + 1) (slots + 6) QQ hE hC (by simp only [if_true]; omega) (by simp only [if_true]; omega) (am_End_shift (hg hgu) hEnd) H1 locs1 la hW1 hL
    | false =>
      rw [hgu] at hK'
      exact hK' p l e R s m args below meth c a D g A cells slots QQ hE hC h1 h2 hEnd H1 locs1 la hW1 hL
  · intro E M' H1 locs1 q ce hK hW1 hce hcv hcl
    rcases hK with ⟨hh, hQ⟩ | ⟨hp, hhp, hR⟩
    · exact (hEnd 0 (Nat.zero_le _) (fun _ => rfl)).2.1 E M' H1 locs1 pc la _ q ce hQ hW1 hce hcv hcl hh (by omega)
    · have hne : mt_h t ≠ [] := fun z => by rw [z] at hhp; cases hhp
      obtain ⟨z1, z2, z3⟩ := hht hne
      have k := hR q p l e R s m args below meth c a D g A (cells + 1) (slots + 6) QQ hE hC (by omega) (by omega) (am_End_shift z1 hEnd) H1 locs1 la hW1 hL
      have e2 : ([Value.ref (29 + q)].map (am_tv a)) = [.ref q] := by simp [am_tv, show ¬ (29 + q < 29) from Nat.not_lt.mpr (Nat.le_add_right 29 q)]
      rw [e2] at k
      exact am_catch_W (by rw [← z2]; exact hE.2.2.2.1) hE.2.2.2.2.1 hE.2.2.2.2.2.2.2.1 z3 hhp hC.2.2.2.1.2.2.2.2.1 hC.2.2.2.1.2.2.2.2.2.1 hce hcv hcl k
theorem am_pre_at {a : Nat → Nat} {D : va_G} {g : ClassId × ClassId × ClassId} {A : Nat → Prop} {s : State} {H : Heap} {locs : List Loc} (hC : am_Ct L t a D g A s) (hW : am_Wl L t a D g A s M H locs) : ∀ U : State, U.heap = H → s.WarmedH U.vm → am_Pre a D g M H.size U := by
  intro U hU hWm
  refine ⟨by rw [hU], by rw [hU]; exact hW.1, va_K.moved hWm.alike hC.1, (hC.2.1 M).weaken (fun _ _ _ _ => trivial), ?_⟩
  rw [hU]
  refine am_SF_warm hWm hW.2.1.2.1 ?_ hC.2.2.2.1
  intro z hz
  rcases hz with ⟨k, e, hk⟩ | hz
  · exact (hC.2.1 M).2 k _ hk
  · exact hC.2.2.1 z (Nat.le_trans hW.2.1.1 hz)
theorem am_R_callS {u : am_MT} {idx z z2 : Nat} {r av p0 : List Value} (hk : am_okM u) (hd : decode (mt_b t) pc = .ok (.invokestatic idx, 3)) (hl : lw_tbl[z]? = some (.methodLink (mt_y t).cls idx (mt_y u))) (hs : lw_tbl[z2]? = some (.static (mt_y u))) (hy : (parseMethodDescriptor (mt_y u).desc).map (fun d => d.parameters.length) = some av.length)
    (hrf : mt_rf u + 1 ≤ mt_rf t) (hrl : 8 + (mt_l u + 11) + mt_rl u ≤ mt_rl t) (hg : mt_g u = true → mt_g t = true) (hht : mt_h t ≠ [] → mt_g t = true ∧ (mt_y t).cls = "DyeVatsLaw" ∧ am_cov pc (mt_h t) = true) (hst : st = p0 ++ r) (hav : av = p0.reverse) (hcat : am_cat r ≤ 8)
    (C : am_C u av M (am_KK L t u n pc ls r Q)) : am_R L t (n + 1) pc ls st M Q := by
  intro p l e R s m args below meth c a D g A cells slots QQ hE hC h1 h2 hEnd H locs la hW hL
  obtain ⟨hx, hb, hml, hown, hts, hlk, hst9, htab, hret, hrfR, hrlR⟩ := id hE
  have hGI := am_ws_gi hk
  have hM := C l a D g H.size hst9
  have hp : PreS s H (va_Pc (av.map (am_tv a)) (am_Pre a D g M H.size)) (av.map (am_tv a)) := ⟨am_blind _ _ _ _ _ _, fun U hU hWm => ⟨rfl, am_pre_at hC hW U hU hWm⟩⟩
  have hstk : (F0 m pc la (st.map (am_tv a))).stack = (av.map (am_tv a)).reverse ++ r.map (am_tv a) := by
    show st.map (am_tv a) = _
    rw [hst, hav]
    simp
  have hWs : 2 * (F0 m pc la (st.map (am_tv a))).monitorRoom + ((r.map (am_tv a)).map fun v => v.category).sum ≤ 8 := lv_room (by rw [am_cat_map]; exact hcat)
  have hrfR' : mt_rf u + 1 ≤ R.frames := Nat.le_trans hrf hrfR
  have hrlR' : 8 + (mt_l u + 11) + mt_rl u ≤ R.locals := Nat.le_trans hrl hrlR
  refine am_call_end hE hC h1 h2 hEnd hW hL hg hht ?_ (aa := (av.map (am_tv a)).toArray) (r := r) (u := u)
  cases hh : mt_h u with
  | nil =>
    have hcw : am_ws u = Jvm.Cond.code (mt_y u) (mt_b u) (mt_l u) (mt_r u) :: am_good := by simp [am_ws, hh]
    exact vx_runS (cc := mt_b t) (nL := mt_l t) (n := av.length) (Ts := am_good) (own := (mt_y t).cls) (index := idx) ⟨hx, hb, hml, hown, hts⟩ hM
      ⟨callB_of (bytes := mt_b u) (maxL := mt_l u) (ret := mt_r u) av.length hts hGI hcw rfl rfl (hts _ hk.2.1) (hts _ (am_good_of hl rfl)) ⟨hk.2.2.1, hk.2.2.2.1, hy⟩ ⟨hrfR', hrlR'⟩, hts _ (am_good_of hs rfl)⟩ hp rfl (by simp) hL.1 hstk hWs hd ⟨by omega, by omega⟩
  | cons x xs =>
    have hcw : am_ws u = Jvm.Cond.codeWith (mt_y u) (mt_b u) (mt_l u) (mt_r u) (x :: xs) :: am_good := by simp [am_ws, hh]
    have hT : GoodIn am_good (va_wsS (mt_y t).cls idx (mt_y u) (am_ws u)) := by
      intro w hw
      simp only [va_wsS, List.cons_append, List.nil_append, List.mem_cons] at hw
      rcases hw with rfl | rfl | rfl | hw
      · exact am_good_gi _ (am_good_of hl rfl)
      · exact am_good_gi _ (am_good_of hs rfl)
      · exact am_good_gi _ hk.2.1
      · exact hGI _ hw
    exact vx_runSX (cc := mt_b t) (nL := mt_l t) (n := av.length) (Ts := am_good) (own := (mt_y t).cls) (index := idx) ⟨hx, hb, hml, hown, hts⟩ hM
      (vx_cwSW (bytes := mt_b u) (maxL := mt_l u) (ret := mt_r u) (hh := x :: xs) av.length hts hT hcw rfl rfl ⟨hk.2.2.1, hk.2.2.2.1, hy⟩ ⟨hrfR', hrlR'⟩) hp rfl (by simp) hL.1 hstk hWs hd ⟨by omega, by omega⟩
theorem am_R_callV {u : am_MT} {idx z z2 z3 o ci : Nat} {r av p0 : List Value} (hk : am_okM u) (hd : decode (mt_b t) pc = .ok (.invokevirtual idx, 3)) (hl : lw_tbl[z]? = some (.methodLink (mt_y t).cls idx (mt_y u))) (hi : lw_tbl[z2]? = some (.instanceMethod (mt_y u))) (hse : lw_tbl[z3]? = some (.selects (mt_y u).cls (mt_y u) (mt_y u))) (hy : (parseMethodDescriptor (mt_y u).desc).map (fun d => d.parameters.length) = some av.length)
    (hci : am_ci o = ci) (hci5 : ci < 5) (hcls : (mt_y u).cls = am_Rn ci) (hhu : mt_h u = [])
    (hrf : mt_rf u + 1 ≤ mt_rf t) (hrl : 8 + (mt_l u + 11) + mt_rl u ≤ mt_rl t) (hg : mt_g u = true → mt_g t = true) (hht : mt_h t ≠ [] → mt_g t = true ∧ (mt_y t).cls = "DyeVatsLaw" ∧ am_cov pc (mt_h t) = true) (hst : st = p0 ++ r) (hav : .ref o :: av = p0.reverse) (hcat : am_cat r ≤ 8)
    (C : am_C u (.ref o :: av) M (am_KK L t u n pc ls r Q)) : am_R L t (n + 1) pc ls st M Q := by
  intro p l e R s m args below meth c a D g A cells slots QQ hE hC h1 h2 hEnd H locs la hW hL
  obtain ⟨hx, hb, hml, hown, hts, hlk, hst9, htab, hret, hrfR, hrlR⟩ := id hE
  have hGI := am_ws_gi hk
  have hM := C l a D g H.size hst9
  obtain ⟨h27, h9⟩ := am_ci_lt (o := o) (by omega)
  have hget := am_w_get a g M h27
  rw [am_e9 h9, hci] at hget
  have hrecv := va_recv hC.1 hW.1 (am_cls_get hci5) hget
  rw [← hcls] at hrecv
  have hm : (Value.ref o :: av).map (am_tv a) = .ref (a o) :: av.map (am_tv a) := by
    rw [List.map_cons, am_tv_ref (by omega)]
  rw [hm] at hM
  have hp : PreV s H (mt_y u).cls (a o) (va_Pc (.ref (a o) :: av.map (am_tv a)) (am_Pre a D g M H.size)) (av.map (am_tv a)) := ⟨am_blind _ _ _ _ _ _, hrecv, fun U hU hWm => ⟨rfl, am_pre_at hC hW U hU hWm⟩⟩
  have hstk : (F0 m pc la (st.map (am_tv a))).stack = (av.map (am_tv a)).reverse ++ .ref (a o) :: r.map (am_tv a) := by
    show st.map (am_tv a) = _
    have hp0 : p0 = av.reverse ++ [.ref o] := by
      have := congrArg List.reverse hav
      rw [List.reverse_reverse] at this
      rw [← this]
      simp
    rw [hst, hp0]
    simp [am_tv_ref (a := a) (show o < 29 by omega)]
  have hWs : 2 * (F0 m pc la (st.map (am_tv a))).monitorRoom + ((r.map (am_tv a)).map fun v => v.category).sum ≤ 8 := lv_room (by rw [am_cat_map]; exact hcat)
  have hrfR' : mt_rf u + 1 ≤ R.frames := Nat.le_trans hrf hrfR
  have hrlR' : 8 + (mt_l u + 11) + mt_rl u ≤ R.locals := Nat.le_trans hrl hrlR
  refine am_call_end hE hC h1 h2 hEnd hW hL hg hht ?_ (aa := (Value.ref (a o) :: av.map (am_tv a)).toArray) (r := r) (u := u)
  have hcw : am_ws u = Jvm.Cond.code (mt_y u) (mt_b u) (mt_l u) (mt_r u) :: am_good := by simp [am_ws, hhu]
  exact vx_runV (cc := mt_b t) (nL := mt_l t) (n := av.length) (Ts := am_good) (own := (mt_y t).cls) (index := idx) (C := (mt_y u).cls) ⟨hx, hb, hml, hown, hts⟩ hM
    ⟨callB_of (bytes := mt_b u) (maxL := mt_l u) (ret := mt_r u) av.length hts hGI hcw rfl rfl (hts _ hk.2.1) (hts _ (am_good_of hl rfl)) ⟨hk.2.2.1, hk.2.2.2.1, hy⟩ ⟨hrfR', hrlR'⟩, hts _ (am_good_of hi rfl), hts _ (am_good_of hse rfl)⟩ hp rfl (by simp) hL.1 hstk hWs hd ⟨by omega, by omega⟩
end AMF
end
section
/-! charAt of the constant of signs; the check of a stretch of code; the rule of a stretch: written by wip/whole/mk12.py -/
theorem am_C_mono {t : am_MT} {av : List Value} {M : am_M} {K K' : am_Q} (h : am_C t av M K) (hK : ∀ (o : am_O) (M' : am_M), K o M' → K' o M') : am_C t av M K' := by
  intro l a D g sz hst
  have h1 := h l a D g sz hst
  intro p e ha hc hk s m args below hf happ hP hT
  obtain ⟨k, oc, q1, q2, q3, hQ⟩ := h1 p e ha hc hk s m args below hf happ hP hT
  refine ⟨k, oc, q1, q2, q3, ?_⟩
  rcases hQ with ⟨⟨⟨v, M', e1, e2, e3⟩, e4, e5⟩, e6⟩ | ⟨q, e1, E, ce, Lc, ⟨⟨M', f1, f2⟩, f3⟩, e3⟩
  · exact Or.inl ⟨⟨⟨v, M', e1, hK _ _ e2, e3⟩, e4, e5⟩, e6⟩
  · exact Or.inr ⟨q, e1, E, ce, Lc, ⟨⟨M', hK _ _ f1, f2⟩, f3⟩, e3⟩
def am_pls : List (Nat × Nat) := [(1065, 0), (1062, 0), (343, 0), (275, 276), (294, 295), (320, 321), (339, 340), (349, 350), (361, 362), (369, 370), (377, 378), (282, 283), (642, 643), (563, 564), (286, 287), (291, 6), (313, 9), (317, 10), (303, 8), (299, 7), (382, 16), (386, 17), (306, 0), (201, 202), (636, 637), (206, 0), (210, 1), (267, 5), (214, 2), (218, 3), (222, 4), (389, 390), (395, 396), (408, 409), (400, 18), (405, 19), (425, 426), (531, 532), (559, 560), (573, 574), (580, 581), (589, 590), (601, 602), (609, 610), (616, 617), (624, 625), (193, 194), (197, 198), (632, 633), (649, 650), (656, 657), (664, 665), (672, 673), (679, 680), (686, 687), (693, 694), (700, 701), (707, 708), (714, 715), (271, 272), (324, 325), (328, 329), (354, 12), (366, 14), (374, 15), (414, 0), (335, 11), (358, 13), (519, 21), (524, 22), (429, 0), (535, 0), (594, 23), (499, 0), (780, 781), (792, 0), (838, 0), (815, 27), (725, 24), (819, 28), (894, 37), (811, 0), (826, 0), (858, 31), (796, 25), (835, 29), (890, 36), (804, 26), (784, 785), (788, 789), (799, 800), (1013, 57), (1017, 58), (807, 808), (822, 823), (830, 831), (841, 842), (850, 30), (845, 846), (862, 32), (853, 854), (870, 33), (865, 866), (873, 874), (898, 38), (902, 39), (906, 40), (886, 35), (882, 34), (877, 878), (909, 910), (913, 914), (934, 44), (938, 45), (942, 46), (930, 43), (953, 0), (946, 47), (950, 48), (926, 42), (922, 41), (917, 918), (956, 957), (965, 49), (960, 961), (973, 50), (968, 969), (985, 52), (989, 53), (981, 51), (976, 977), (1001, 55), (997, 54), (992, 993), (1009, 56), (1004, 1005), (1025, 59), (1020, 1021), (1037, 61), (1033, 60), (1028, 1029), (1045, 62), (1040, 1041), (1053, 63), (1048, 1049), (1056, 1057), (420, 0), (527, 0), (556, 0), (570, 0), (577, 0), (586, 0), (598, 0), (606, 0), (613, 0), (621, 0), (629, 0), (646, 0), (653, 0), (661, 0), (669, 0), (676, 0), (683, 0), (690, 0), (697, 0), (704, 0), (711, 0), (0, 0)]
def am_pl (k : Nat) : Nat × Nat := am_pls.getD k (0, 0)
def am_isp : Instr → Bool
  | .iconst _ => true | .bipush _ => true | .sipush _ => true | .lconst _ => true | .dconst _ => true | .iload_n _ => true | .iload _ => true | .aload_n _ => true | .aload _ => true | .lload_n _ => true | .lload _ => true | .dload_n _ => true | .dload _ => true
  | .iadd => true | .isub => true | .imul => true | .iand => true | .ixor => true | .ishl => true | .ishr => true | .iushr => true | .ladd => true | .lsub => true | .lmul => true | .ineg => true | .lshl => true | .lcmp => true | .dcmp _ => true | .i2l => true | .i2d => true | .d2l => true | .dup => true | .dup2 => true | .pop => true
  | _ => false
def am_iss : Instr → Bool
  | .istore_n _ => true | .istore _ => true | .astore_n _ => true | .astore _ => true | .lstore_n _ => true | .lstore _ => true | .dstore_n _ => true | .dstore _ => true | .iinc _ _ => true
  | _ => false
theorem am_isp_of {i : Instr} {ls st st' : List Value} (h : am_pu i ls st = some st') : am_isp i = true := by
  cases i <;> first | rfl | (exact absurd h (by simp [am_pu]))
theorem am_iss_of {i : Instr} {ls st : List Value} {q : List Value × List Value} (h : am_sto i ls st = some q) : am_iss i = true := by
  cases i <;> first | rfl | (exact absurd h (by simp [am_sto]))
def am_fty (x y : Nat) : FieldType := match Nat.beq (17 * x + y) 83 with
  | true => .boolean
  | false => .int
/-- what a program checks of a call of a method of ours -/
def am_ckc (t u : am_MT) (pc na : Nat) : Bool := decide ((parseMethodDescriptor (mt_y u).desc).map (fun d => d.parameters.length) = some na) && (decide (mt_rf u + 1 ≤ mt_rf t) && (decide (8 + (mt_l u + 11) + mt_rl u ≤ mt_rl t) && ((!mt_g u || mt_g t) && (decide (mt_h t = []) || (mt_g t && (decide ((mt_y t).cls = "DyeVatsLaw") && am_cov pc (mt_h t)))))))
def am_ck (t : am_MT) (pc : Nat) (i : Instr) (w x y z : Nat) : Bool := match i with
  | .ifCond _ o => decide (w = 3) && decide (0 ≤ (pc : Int) + o)
  | .if_icmp _ o => decide (w = 3) && decide (0 ≤ (pc : Int) + o)
  | .goto o => decide (w = 3) && decide (0 ≤ (pc : Int) + o)
  | .tableswitch d lo hi os => decide (0 ≤ (pc : Int) + d) && (os.toList.all (fun o => decide (0 ≤ (pc : Int) + o)) && decide (hi < lo + os.size))
  | .lookupswitch d ps => decide (0 ≤ (pc : Int) + d) && (ps.toList.all (fun q => decide (0 ≤ (pc : Int) + q.2)) && (ps.toList.zip (ps.toList.drop 1)).all (fun (a, next) => a.1 < next.1))
  | .ldc idx => decide (w = 2) && (match y with
    | 0 => decide (lw_tbl[z]? = some (.constant (mt_y t).cls idx (nI x)))
    | _ => decide ((mt_y t).cls = RX2) && decide (idx = 45))
  | .ldc_w idx => decide (w = 3) && decide (lw_tbl[z]? = some (.constant (mt_y t).cls idx (nI x)))
  | .ldc2_w idx => decide (w = 3) && (match y with
    | 0 => decide (lw_tbl[z]? = some (.constantLong (mt_y t).cls idx (lN x)))
    | _ => decide (lw_tbl[z]? = some (.constantDouble (mt_y t).cls idx (UInt64.ofNat x))))
  | .getfield idx => decide (w = 3) && (decide (lw_tbl[z]? = some (.fieldLink (mt_y t).cls idx (am_T x y).1 (am_T x y).2.1 (am_T x y).2.2.1)) && (decide (x < 5) && decide (y < am_nf x)))
  | .putfield idx => decide (w = 3) && (decide (lw_tbl[z]? = some (.fieldLink (mt_y t).cls idx (am_T x y).1 (am_T x y).2.1 (am_T x y).2.2.1)) && (decide (x < 5) && (decide (y < am_nf x) && (decide ((am_T x y).2.2.2 = false) && (decide (parseFieldDescriptor (am_T x y).2.2.1 = some (am_fty x y)) && (decide (am_fr x y = 0) && decide (x ≠ 1)))))))
  | .invokestatic idx => decide (w = 3) && (match x with
    | 200 => decide (lw_tbl[z]? = some (.methodLink (mt_y t).cls idx Lib.Math.min.name)) && (decide (1 ≤ mt_rf t) && decide (21 ≤ mt_rl t))
    | 201 => decide (lw_tbl[z]? = some (.methodLink (mt_y t).cls idx Lib.Math.max.name)) && (decide (1 ≤ mt_rf t) && decide (21 ≤ mt_rl t))
    | 202 => decide (lw_tbl[z]? = some (.methodLink (mt_y t).cls idx arraycopyName)) && (decide (1 ≤ mt_rf t) && decide (40 ≤ mt_rl t))
    | 203 => decide (lw_tbl[z]? = some (.methodLink (mt_y t).cls idx ⟨"java/lang/Double", "doubleToRawLongBits", "(D)J"⟩)) && (decide (1 ≤ mt_rf t) && decide (23 ≤ mt_rl t))
    | _ => decide (x < 167) && (decide (lw_tbl[z]? = some (.methodLink (mt_y t).cls idx (mt_y (am_mt x)))) && (decide (lw_tbl[(am_pl x).1]? = some (.static (mt_y (am_mt x)))) && am_ckc t (am_mt x) pc y)))
  | .invokevirtual idx => decide (w = 3) && (match x with
    | 204 => decide (lw_tbl[z]? = some (.methodLink (mt_y t).cls idx ⟨"java/lang/String", "charAt", "(I)C"⟩)) && (decide (4 ≤ mt_rf t) && decide (85 ≤ mt_rl t))
    | _ => decide (x < 167) && (decide (1 ≤ y) && (decide (lw_tbl[z]? = some (.methodLink (mt_y t).cls idx (mt_y (am_mt x)))) && (decide (lw_tbl[(am_pl x).1]? = some (.instanceMethod (mt_y (am_mt x)))) && (decide (lw_tbl[(am_pl x).2]? = some (.selects (mt_y (am_mt x)).cls (mt_y (am_mt x)) (mt_y (am_mt x)))) && (decide (am_cx x < 5) && (decide ((mt_y (am_mt x)).cls = am_Rn (am_cx x)) && (decide (mt_h (am_mt x) = []) && (decide (mt_g (am_mt x) = false) && am_ckc t (am_mt x) pc (y - 1))))))))))
  | .new idx => decide (x < 3) && (decide (idx = am_kx x) && (decide (w = 3) && (decide (mt_h t = []) && (decide ((mt_y t).cls = RX3) && (decide (6 ≤ mt_rf t) && (decide (90 ≤ mt_rl t) && (am_tx.any (fun q => decide (q.1 = y)) && (decide (decode (mt_b t) (pc + 3) = .ok (.dup, 1)) && (decide (decode (mt_b t) (pc + 4) = .ok (.ldc y, 2)) && (decide (decode (mt_b t) (pc + 6) = .ok (.invokespecial (am_ix x), 3)) && decide (decode (mt_b t) (pc + 9) = .ok (.athrow, 1))))))))))))
  | i => decide (w = 1) || (am_isp i || am_iss i)
def am_okB (t : am_MT) : Nat → List am_I → Bool
  | _, [] => true
  | pc, (i, w, x, y, z) :: is => decide (decode (mt_b t) pc = .ok (i, w)) && ((!am_isp i || am_ckp i w) && ((!am_iss i || am_cks (mt_l t) i w) && (am_ck t pc i w x y z && am_okB t (pc + w) is)))
theorem am_wmin : Jvm.Cond.static Lib.Math.min.name ∈ am_good ∧ Jvm.Cond.initialized "java/lang/Math" ∈ am_good ∧ Jvm.Cond.code Lib.Math.min.name Lib.Math.min.code 2 (some .int) ∈ am_good := by decide +kernel
theorem am_wmax : Jvm.Cond.static Lib.Math.max.name ∈ am_good ∧ Jvm.Cond.initialized "java/lang/Math" ∈ am_good ∧ Jvm.Cond.code Lib.Math.max.name Lib.Math.max.code 2 (some .int) ∈ am_good := by decide +kernel
theorem am_wcpy : Jvm.Cond.native arraycopyName ∈ am_good ∧ Jvm.Cond.static arraycopyName ∈ am_good ∧ Jvm.Cond.initialized "java/lang/System" ∈ am_good := by decide +kernel
theorem am_wd2l : Jvm.Cond.native ⟨"java/lang/Double", "doubleToRawLongBits", "(D)J"⟩ ∈ am_good ∧ Jvm.Cond.static ⟨"java/lang/Double", "doubleToRawLongBits", "(D)J"⟩ ∈ am_good ∧ Jvm.Cond.initialized "java/lang/Double" ∈ am_good := by decide +kernel
set_option maxRecDepth 20000 in
theorem om_J_isNaN : am_okM mt_J_isNaN := ⟨am_good_of (k := 1066) rfl rfl, am_good_of (k := 83) rfl rfl, by decide, by decide, by decide⟩
set_option maxRecDepth 20000 in
theorem om_J_doubleToLongBits : am_okM mt_J_doubleToLongBits := ⟨am_good_of (k := 1063) rfl rfl, am_good_of (k := 83) rfl rfl, by decide, by decide, by decide⟩
set_option maxRecDepth 20000 in
theorem om_J_bitCount : am_okM mt_J_bitCount := ⟨am_good_of (k := 344) rfl rfl, am_good_of (k := 82) rfl rfl, by decide, by decide, by decide⟩
set_option maxRecDepth 20000 in
theorem om_S_takeFrom : am_okM mt_S_takeFrom := ⟨am_good_of (k := 277) rfl rfl, am_good_of (k := 66) rfl rfl, by decide, by decide, by decide⟩
set_option maxRecDepth 20000 in
theorem om_S_hourOfDay : am_okM mt_S_hourOfDay := ⟨am_good_of (k := 296) rfl rfl, am_good_of (k := 66) rfl rfl, by decide, by decide, by decide⟩
set_option maxRecDepth 20000 in
theorem om_S_limitIn : am_okM mt_S_limitIn := ⟨am_good_of (k := 322) rfl rfl, am_good_of (k := 66) rfl rfl, by decide, by decide, by decide⟩
set_option maxRecDepth 20000 in
theorem om_S_pipesLaid : am_okM mt_S_pipesLaid := ⟨am_good_of (k := 341) rfl rfl, am_good_of (k := 66) rfl rfl, by decide, by decide, by decide⟩
set_option maxRecDepth 20000 in
theorem om_S_waterInAll : am_okM mt_S_waterInAll := ⟨am_good_of (k := 351) rfl rfl, am_good_of (k := 66) rfl rfl, by decide, by decide, by decide⟩
set_option maxRecDepth 20000 in
theorem om_S_vatProperty : am_okM mt_S_vatProperty := ⟨am_good_of (k := 363) rfl rfl, am_good_of (k := 66) rfl rfl, by decide, by decide, by decide⟩
set_option maxRecDepth 20000 in
theorem om_S_valveProperty : am_okM mt_S_valveProperty := ⟨am_good_of (k := 371) rfl rfl, am_good_of (k := 66) rfl rfl, by decide, by decide, by decide⟩
set_option maxRecDepth 20000 in
theorem om_S_dyeProperty : am_okM mt_S_dyeProperty := ⟨am_good_of (k := 379) rfl rfl, am_good_of (k := 66) rfl rfl, by decide, by decide, by decide⟩
set_option maxRecDepth 20000 in
theorem om_S_removeValve : am_okM mt_S_removeValve := ⟨am_good_of (k := 284) rfl rfl, am_good_of (k := 66) rfl rfl, by decide, by decide, by decide⟩
set_option maxRecDepth 20000 in
theorem om_S_takeValves : am_okM mt_S_takeValves := ⟨am_good_of (k := 644) rfl rfl, am_good_of (k := 66) rfl rfl, by decide, by decide, by decide⟩
set_option maxRecDepth 20000 in
theorem om_S_dissolveSettled : am_okM mt_S_dissolveSettled := ⟨am_good_of (k := 565) rfl rfl, am_good_of (k := 66) rfl rfl, by decide, by decide, by decide⟩
set_option maxRecDepth 20000 in
theorem om_S_runHours : am_okM mt_S_runHours := ⟨am_good_of (k := 288) rfl rfl, am_good_of (k := 66) rfl rfl, by decide, by decide, by decide⟩
set_option maxRecDepth 20000 in
theorem om_S_runValves : am_okM mt_S_runValves := ⟨am_good_of (k := 292) rfl rfl, am_good_of (k := 66) rfl rfl, by decide, by decide, by decide⟩
set_option maxRecDepth 20000 in
theorem om_S_levelPipes : am_okM mt_S_levelPipes := ⟨am_good_of (k := 314) rfl rfl, am_good_of (k := 66) rfl rfl, by decide, by decide, by decide⟩
set_option maxRecDepth 20000 in
theorem om_S_settleGrains : am_okM mt_S_settleGrains := ⟨am_good_of (k := 318) rfl rfl, am_good_of (k := 66) rfl rfl, by decide, by decide, by decide⟩
set_option maxRecDepth 20000 in
theorem om_S_moveWater : am_okM mt_S_moveWater := ⟨am_good_of (k := 304) rfl rfl, am_good_of (k := 66) rfl rfl, by decide, by decide, by decide⟩
set_option maxRecDepth 20000 in
theorem om_S_isOpen : am_okM mt_S_isOpen := ⟨am_good_of (k := 300) rfl rfl, am_good_of (k := 66) rfl rfl, by decide, by decide, by decide⟩
set_option maxRecDepth 20000 in
theorem om_S_grainsInAll : am_okM mt_S_grainsInAll := ⟨am_good_of (k := 383) rfl rfl, am_good_of (k := 66) rfl rfl, by decide, by decide, by decide⟩
set_option maxRecDepth 20000 in
theorem om_S_strongestVat : am_okM mt_S_strongestVat := ⟨am_good_of (k := 387) rfl rfl, am_good_of (k := 66) rfl rfl, by decide, by decide, by decide⟩
set_option maxRecDepth 20000 in
theorem om_S_isVat : am_okM mt_S_isVat := ⟨am_good_of (k := 307) rfl rfl, am_good_of (k := 66) rfl rfl, by decide, by decide, by decide⟩
set_option maxRecDepth 20000 in
theorem om_T_readCodes : am_okM mt_T_readCodes := ⟨am_good_of (k := 203) rfl rfl, am_good_of (k := 68) rfl rfl, by decide, by decide, by decide⟩
set_option maxRecDepth 20000 in
theorem om_T_endsWell : am_okM mt_T_endsWell := ⟨am_good_of (k := 638) rfl rfl, am_good_of (k := 68) rfl rfl, by decide, by decide, by decide⟩
set_option maxRecDepth 20000 in
theorem om_T_takesCode : am_okM mt_T_takesCode := ⟨am_good_of (k := 207) rfl rfl, am_good_of (k := 68) rfl rfl, by decide, by decide, by decide⟩
set_option maxRecDepth 20000 in
theorem om_T_takesDigit : am_okM mt_T_takesDigit := ⟨am_good_of (k := 211) rfl rfl, am_good_of (k := 68) rfl rfl, by decide, by decide, by decide⟩
set_option maxRecDepth 20000 in
theorem om_T_isWholeNumber : am_okM mt_T_isWholeNumber := ⟨am_good_of (k := 268) rfl rfl, am_good_of (k := 68) rfl rfl, by decide, by decide, by decide⟩
set_option maxRecDepth 20000 in
theorem om_T_canBecomeWhole : am_okM mt_T_canBecomeWhole := ⟨am_good_of (k := 215) rfl rfl, am_good_of (k := 68) rfl rfl, by decide, by decide, by decide⟩
set_option maxRecDepth 20000 in
theorem om_T_leastOfPart : am_okM mt_T_leastOfPart := ⟨am_good_of (k := 219) rfl rfl, am_good_of (k := 68) rfl rfl, by decide, by decide, by decide⟩
set_option maxRecDepth 20000 in
theorem om_T_mostOfPart : am_okM mt_T_mostOfPart := ⟨am_good_of (k := 223) rfl rfl, am_good_of (k := 68) rfl rfl, by decide, by decide, by decide⟩
set_option maxRecDepth 20000 in
theorem om_D_beginWith : am_okM mt_D_beginWith := ⟨am_good_of (k := 391) rfl rfl, am_good_of (k := 67) rfl rfl, by decide, by decide, by decide⟩
set_option maxRecDepth 20000 in
theorem om_D_findByRunners : am_okM mt_D_findByRunners := ⟨am_good_of (k := 397) rfl rfl, am_good_of (k := 67) rfl rfl, by decide, by decide, by decide⟩
set_option maxRecDepth 20000 in
theorem om_D_findByLookingBack : am_okM mt_D_findByLookingBack := ⟨am_good_of (k := 410) rfl rfl, am_good_of (k := 67) rfl rfl, by decide, by decide, by decide⟩
set_option maxRecDepth 20000 in
theorem om_D_reachDay : am_okM mt_D_reachDay := ⟨am_good_of (k := 401) rfl rfl, am_good_of (k := 67) rfl rfl, by decide, by decide, by decide⟩
set_option maxRecDepth 20000 in
theorem om_D_isSameLook : am_okM mt_D_isSameLook := ⟨am_good_of (k := 406) rfl rfl, am_good_of (k := 67) rfl rfl, by decide, by decide, by decide⟩
set_option maxRecDepth 20000 in
theorem om_V_fill : am_okM mt_V_fill := ⟨am_good_of (k := 427) rfl rfl, am_good_of (k := 65) rfl rfl, by decide, by decide, by decide⟩
set_option maxRecDepth 20000 in
theorem om_V_dye : am_okM mt_V_dye := ⟨am_good_of (k := 533) rfl rfl, am_good_of (k := 65) rfl rfl, by decide, by decide, by decide⟩
set_option maxRecDepth 20000 in
theorem om_V_stir : am_okM mt_V_stir := ⟨am_good_of (k := 561) rfl rfl, am_good_of (k := 65) rfl rfl, by decide, by decide, by decide⟩
set_option maxRecDepth 20000 in
theorem om_V_capacity : am_okM mt_V_capacity := ⟨am_good_of (k := 575) rfl rfl, am_good_of (k := 65) rfl rfl, by decide, by decide, by decide⟩
set_option maxRecDepth 20000 in
theorem om_V_valve : am_okM mt_V_valve := ⟨am_good_of (k := 582) rfl rfl, am_good_of (k := 65) rfl rfl, by decide, by decide, by decide⟩
set_option maxRecDepth 20000 in
theorem om_V_close : am_okM mt_V_close := ⟨am_good_of (k := 591) rfl rfl, am_good_of (k := 65) rfl rfl, by decide, by decide, by decide⟩
set_option maxRecDepth 20000 in
theorem om_V_pipe : am_okM mt_V_pipe := ⟨am_good_of (k := 603) rfl rfl, am_good_of (k := 65) rfl rfl, by decide, by decide, by decide⟩
set_option maxRecDepth 20000 in
theorem om_V_set : am_okM mt_V_set := ⟨am_good_of (k := 611) rfl rfl, am_good_of (k := 65) rfl rfl, by decide, by decide, by decide⟩
set_option maxRecDepth 20000 in
theorem om_V_pass : am_okM mt_V_pass := ⟨am_good_of (k := 618) rfl rfl, am_good_of (k := 65) rfl rfl, by decide, by decide, by decide⟩
set_option maxRecDepth 20000 in
theorem om_V_append : am_okM mt_V_append := ⟨am_good_of (k := 626) rfl rfl, am_good_of (k := 65) rfl rfl, by decide, by decide, by decide⟩
set_option maxRecDepth 20000 in
theorem om_V_clearBuffer : am_okM mt_V_clearBuffer := ⟨am_good_of (k := 195) rfl rfl, am_good_of (k := 65) rfl rfl, by decide, by decide, by decide⟩
set_option maxRecDepth 20000 in
theorem om_V_firstError : am_okM mt_V_firstError := ⟨am_good_of (k := 199) rfl rfl, am_good_of (k := 65) rfl rfl, by decide, by decide, by decide⟩
set_option maxRecDepth 20000 in
theorem om_V_load : am_okM mt_V_load := ⟨am_good_of (k := 634) rfl rfl, am_good_of (k := 65) rfl rfl, by decide, by decide, by decide⟩
set_option maxRecDepth 20000 in
theorem om_V_keep : am_okM mt_V_keep := ⟨am_good_of (k := 651) rfl rfl, am_good_of (k := 65) rfl rfl, by decide, by decide, by decide⟩
set_option maxRecDepth 20000 in
theorem om_V_goBack : am_okM mt_V_goBack := ⟨am_good_of (k := 658) rfl rfl, am_good_of (k := 65) rfl rfl, by decide, by decide, by decide⟩
set_option maxRecDepth 20000 in
theorem om_V_undo : am_okM mt_V_undo := ⟨am_good_of (k := 666) rfl rfl, am_good_of (k := 65) rfl rfl, by decide, by decide, by decide⟩
set_option maxRecDepth 20000 in
theorem om_V_vatOf : am_okM mt_V_vatOf := ⟨am_good_of (k := 674) rfl rfl, am_good_of (k := 65) rfl rfl, by decide, by decide, by decide⟩
set_option maxRecDepth 20000 in
theorem om_V_valveOf : am_okM mt_V_valveOf := ⟨am_good_of (k := 681) rfl rfl, am_good_of (k := 65) rfl rfl, by decide, by decide, by decide⟩
set_option maxRecDepth 20000 in
theorem om_V_dyeOf : am_okM mt_V_dyeOf := ⟨am_good_of (k := 688) rfl rfl, am_good_of (k := 65) rfl rfl, by decide, by decide, by decide⟩
set_option maxRecDepth 20000 in
theorem om_V_count : am_okM mt_V_count := ⟨am_good_of (k := 695) rfl rfl, am_good_of (k := 65) rfl rfl, by decide, by decide, by decide⟩
set_option maxRecDepth 20000 in
theorem om_V_ifPassed : am_okM mt_V_ifPassed := ⟨am_good_of (k := 702) rfl rfl, am_good_of (k := 65) rfl rfl, by decide, by decide, by decide⟩
set_option maxRecDepth 20000 in
theorem om_V_emptyIn : am_okM mt_V_emptyIn := ⟨am_good_of (k := 709) rfl rfl, am_good_of (k := 65) rfl rfl, by decide, by decide, by decide⟩
set_option maxRecDepth 20000 in
theorem om_V_round : am_okM mt_V_round := ⟨am_good_of (k := 716) rfl rfl, am_good_of (k := 65) rfl rfl, by decide, by decide, by decide⟩
set_option maxRecDepth 20000 in
theorem om_V_mainValve : am_okM mt_V_mainValve := ⟨am_good_of (k := 273) rfl rfl, am_good_of (k := 65) rfl rfl, by decide, by decide, by decide⟩
set_option maxRecDepth 20000 in
theorem om_V_goneShare : am_okM mt_V_goneShare := ⟨am_good_of (k := 326) rfl rfl, am_good_of (k := 65) rfl rfl, by decide, by decide, by decide⟩
set_option maxRecDepth 20000 in
theorem om_V_digest : am_okM mt_V_digest := ⟨am_good_of (k := 330) rfl rfl, am_good_of (k := 65) rfl rfl, by decide, by decide, by decide⟩
set_option maxRecDepth 20000 in
theorem om_V_hashVats : am_okM mt_V_hashVats := ⟨am_good_of (k := 355) rfl rfl, am_good_of (k := 65) rfl rfl, by decide, by decide, by decide⟩
set_option maxRecDepth 20000 in
theorem om_V_hashValves : am_okM mt_V_hashValves := ⟨am_good_of (k := 367) rfl rfl, am_good_of (k := 65) rfl rfl, by decide, by decide, by decide⟩
set_option maxRecDepth 20000 in
theorem om_V_hashDyes : am_okM mt_V_hashDyes := ⟨am_good_of (k := 375) rfl rfl, am_good_of (k := 65) rfl rfl, by decide, by decide, by decide⟩
set_option maxRecDepth 20000 in
theorem om_V_bitsOfShare : am_okM mt_V_bitsOfShare := ⟨am_good_of (k := 415) rfl rfl, am_good_of (k := 65) rfl rfl, by decide, by decide, by decide⟩
set_option maxRecDepth 20000 in
theorem om_V_numberOf : am_okM mt_V_numberOf := ⟨am_good_of (k := 336) rfl rfl, am_good_of (k := 65) rfl rfl, by decide, by decide, by decide⟩
set_option maxRecDepth 20000 in
theorem om_V_findEmptyHours : am_okM mt_V_findEmptyHours := ⟨am_good_of (k := 359) rfl rfl, am_good_of (k := 65) rfl rfl, by decide, by decide, by decide⟩
set_option maxRecDepth 20000 in
theorem om_V_saveState : am_okM mt_V_saveState := ⟨am_good_of (k := 520) rfl rfl, am_good_of (k := 65) rfl rfl, by decide, by decide, by decide⟩
set_option maxRecDepth 20000 in
theorem om_V_refuse : am_okM mt_V_refuse := ⟨am_good_of (k := 525) rfl rfl, am_good_of (k := 65) rfl rfl, by decide, by decide, by decide⟩
set_option maxRecDepth 20000 in
theorem om_V_requireVat : am_okM mt_V_requireVat := ⟨am_good_of (k := 430) rfl rfl, am_good_of (k := 65) rfl rfl, by decide, by decide, by decide⟩
set_option maxRecDepth 20000 in
theorem om_V_requireDye : am_okM mt_V_requireDye := ⟨am_good_of (k := 536) rfl rfl, am_good_of (k := 65) rfl rfl, by decide, by decide, by decide⟩
set_option maxRecDepth 20000 in
theorem om_V_requireValve : am_okM mt_V_requireValve := ⟨am_good_of (k := 595) rfl rfl, am_good_of (k := 65) rfl rfl, by decide, by decide, by decide⟩
set_option maxRecDepth 20000 in
theorem om_V_requireRange : am_okM mt_V_requireRange := ⟨am_good_of (k := 500) rfl rfl, am_good_of (k := 65) rfl rfl, by decide, by decide, by decide⟩
set_option maxRecDepth 20000 in
theorem om_Z_thrown : am_okM mt_Z_thrown := ⟨am_good_of (k := 782) rfl rfl, am_good_of (k := 69) rfl rfl, by decide, by decide, by decide⟩
set_option maxRecDepth 20000 in
theorem om_Z_in : am_okM mt_Z_in := ⟨am_good_of (k := 793) rfl rfl, am_good_of (k := 69) rfl rfl, by decide, by decide, by decide⟩
set_option maxRecDepth 20000 in
theorem om_Z_least : am_okM mt_Z_least := ⟨am_good_of (k := 839) rfl rfl, am_good_of (k := 69) rfl rfl, by decide, by decide, by decide⟩
set_option maxRecDepth 20000 in
theorem om_Z_of : am_okM mt_Z_of := ⟨am_good_of (k := 816) rfl rfl, am_good_of (k := 69) rfl rfl, by decide, by decide, by decide⟩
set_option maxRecDepth 20000 in
theorem om_Z_setVat : am_okM mt_Z_setVat := ⟨am_good_of (k := 726) rfl rfl, am_good_of (k := 69) rfl rfl, by decide, by decide, by decide⟩
set_option maxRecDepth 20000 in
theorem om_Z_add : am_okM mt_Z_add := ⟨am_good_of (k := 820) rfl rfl, am_good_of (k := 69) rfl rfl, by decide, by decide, by decide⟩
set_option maxRecDepth 20000 in
theorem om_Z_valveNow : am_okM mt_Z_valveNow := ⟨am_good_of (k := 895) rfl rfl, am_good_of (k := 69) rfl rfl, by decide, by decide, by decide⟩
set_option maxRecDepth 20000 in
theorem om_Z_isVat : am_okM mt_Z_isVat := ⟨am_good_of (k := 812) rfl rfl, am_good_of (k := 69) rfl rfl, by decide, by decide, by decide⟩
set_option maxRecDepth 20000 in
theorem om_Z_isDye : am_okM mt_Z_isDye := ⟨am_good_of (k := 827) rfl rfl, am_good_of (k := 69) rfl rfl, by decide, by decide, by decide⟩
set_option maxRecDepth 20000 in
theorem om_Z_isValve : am_okM mt_Z_isValve := ⟨am_good_of (k := 859) rfl rfl, am_good_of (k := 69) rfl rfl, by decide, by decide, by decide⟩
set_option maxRecDepth 20000 in
theorem om_Z_hourOfDay : am_okM mt_Z_hourOfDay := ⟨am_good_of (k := 797) rfl rfl, am_good_of (k := 69) rfl rfl, by decide, by decide, by decide⟩
set_option maxRecDepth 20000 in
theorem om_Z_holds : am_okM mt_Z_holds := ⟨am_good_of (k := 836) rfl rfl, am_good_of (k := 69) rfl rfl, by decide, by decide, by decide⟩
set_option maxRecDepth 20000 in
theorem om_Z_isOpen : am_okM mt_Z_isOpen := ⟨am_good_of (k := 891) rfl rfl, am_good_of (k := 69) rfl rfl, by decide, by decide, by decide⟩
set_option maxRecDepth 20000 in
theorem om_Z_record : am_okM mt_Z_record := ⟨am_good_of (k := 805) rfl rfl, am_good_of (k := 69) rfl rfl, by decide, by decide, by decide⟩
set_option maxRecDepth 20000 in
theorem om_Z_undo : am_okM mt_Z_undo := ⟨am_good_of (k := 786) rfl rfl, am_good_of (k := 69) rfl rfl, by decide, by decide, by decide⟩
set_option maxRecDepth 20000 in
theorem om_Z_keep : am_okM mt_Z_keep := ⟨am_good_of (k := 790) rfl rfl, am_good_of (k := 69) rfl rfl, by decide, by decide, by decide⟩
set_option maxRecDepth 20000 in
theorem om_Z_goBack : am_okM mt_Z_goBack := ⟨am_good_of (k := 801) rfl rfl, am_good_of (k := 69) rfl rfl, by decide, by decide, by decide⟩
set_option maxRecDepth 20000 in
theorem om_Z_putAside : am_okM mt_Z_putAside := ⟨am_good_of (k := 1014) rfl rfl, am_good_of (k := 69) rfl rfl, by decide, by decide, by decide⟩
set_option maxRecDepth 20000 in
theorem om_Z_putBack : am_okM mt_Z_putBack := ⟨am_good_of (k := 1018) rfl rfl, am_good_of (k := 69) rfl rfl, by decide, by decide, by decide⟩
set_option maxRecDepth 20000 in
theorem om_Z_fill : am_okM mt_Z_fill := ⟨am_good_of (k := 809) rfl rfl, am_good_of (k := 69) rfl rfl, by decide, by decide, by decide⟩
set_option maxRecDepth 20000 in
theorem om_Z_dye : am_okM mt_Z_dye := ⟨am_good_of (k := 824) rfl rfl, am_good_of (k := 69) rfl rfl, by decide, by decide, by decide⟩
set_option maxRecDepth 20000 in
theorem om_Z_stir : am_okM mt_Z_stir := ⟨am_good_of (k := 832) rfl rfl, am_good_of (k := 69) rfl rfl, by decide, by decide, by decide⟩
set_option maxRecDepth 20000 in
theorem om_Z_capacity : am_okM mt_Z_capacity := ⟨am_good_of (k := 843) rfl rfl, am_good_of (k := 69) rfl rfl, by decide, by decide, by decide⟩
set_option maxRecDepth 20000 in
theorem om_Z_putValve : am_okM mt_Z_putValve := ⟨am_good_of (k := 851) rfl rfl, am_good_of (k := 69) rfl rfl, by decide, by decide, by decide⟩
set_option maxRecDepth 20000 in
theorem om_Z_valve : am_okM mt_Z_valve := ⟨am_good_of (k := 847) rfl rfl, am_good_of (k := 69) rfl rfl, by decide, by decide, by decide⟩
set_option maxRecDepth 20000 in
theorem om_Z_dropValve : am_okM mt_Z_dropValve := ⟨am_good_of (k := 863) rfl rfl, am_good_of (k := 69) rfl rfl, by decide, by decide, by decide⟩
set_option maxRecDepth 20000 in
theorem om_Z_close : am_okM mt_Z_close := ⟨am_good_of (k := 855) rfl rfl, am_good_of (k := 69) rfl rfl, by decide, by decide, by decide⟩
set_option maxRecDepth 20000 in
theorem om_Z_isPipe : am_okM mt_Z_isPipe := ⟨am_good_of (k := 871) rfl rfl, am_good_of (k := 69) rfl rfl, by decide, by decide, by decide⟩
set_option maxRecDepth 20000 in
theorem om_Z_pipe : am_okM mt_Z_pipe := ⟨am_good_of (k := 867) rfl rfl, am_good_of (k := 69) rfl rfl, by decide, by decide, by decide⟩
set_option maxRecDepth 20000 in
theorem om_Z_set : am_okM mt_Z_set := ⟨am_good_of (k := 875) rfl rfl, am_good_of (k := 69) rfl rfl, by decide, by decide, by decide⟩
set_option maxRecDepth 20000 in
theorem om_Z_move : am_okM mt_Z_move := ⟨am_good_of (k := 899) rfl rfl, am_good_of (k := 69) rfl rfl, by decide, by decide, by decide⟩
set_option maxRecDepth 20000 in
theorem om_Z_level : am_okM mt_Z_level := ⟨am_good_of (k := 903) rfl rfl, am_good_of (k := 69) rfl rfl, by decide, by decide, by decide⟩
set_option maxRecDepth 20000 in
theorem om_Z_settle : am_okM mt_Z_settle := ⟨am_good_of (k := 907) rfl rfl, am_good_of (k := 69) rfl rfl, by decide, by decide, by decide⟩
set_option maxRecDepth 20000 in
theorem om_Z_hour : am_okM mt_Z_hour := ⟨am_good_of (k := 887) rfl rfl, am_good_of (k := 69) rfl rfl, by decide, by decide, by decide⟩
set_option maxRecDepth 20000 in
theorem om_Z_hours : am_okM mt_Z_hours := ⟨am_good_of (k := 883) rfl rfl, am_good_of (k := 69) rfl rfl, by decide, by decide, by decide⟩
set_option maxRecDepth 20000 in
theorem om_Z_pass : am_okM mt_Z_pass := ⟨am_good_of (k := 879) rfl rfl, am_good_of (k := 69) rfl rfl, by decide, by decide, by decide⟩
set_option maxRecDepth 20000 in
theorem om_Z_append : am_okM mt_Z_append := ⟨am_good_of (k := 911) rfl rfl, am_good_of (k := 69) rfl rfl, by decide, by decide, by decide⟩
set_option maxRecDepth 20000 in
theorem om_Z_clearBuffer : am_okM mt_Z_clearBuffer := ⟨am_good_of (k := 915) rfl rfl, am_good_of (k := 69) rfl rfl, by decide, by decide, by decide⟩
set_option maxRecDepth 20000 in
theorem om_Z_sign : am_okM mt_Z_sign := ⟨am_good_of (k := 935) rfl rfl, am_good_of (k := 69) rfl rfl, by decide, by decide, by decide⟩
set_option maxRecDepth 20000 in
theorem om_Z_take : am_okM mt_Z_take := ⟨am_good_of (k := 939) rfl rfl, am_good_of (k := 69) rfl rfl, by decide, by decide, by decide⟩
set_option maxRecDepth 20000 in
theorem om_Z_takeSign : am_okM mt_Z_takeSign := ⟨am_good_of (k := 943) rfl rfl, am_good_of (k := 69) rfl rfl, by decide, by decide, by decide⟩
set_option maxRecDepth 20000 in
theorem om_Z_takeVat : am_okM mt_Z_takeVat := ⟨am_good_of (k := 931) rfl rfl, am_good_of (k := 69) rfl rfl, by decide, by decide, by decide⟩
set_option maxRecDepth 20000 in
theorem om_Z_canGoOn : am_okM mt_Z_canGoOn := ⟨am_good_of (k := 954) rfl rfl, am_good_of (k := 69) rfl rfl, by decide, by decide, by decide⟩
set_option maxRecDepth 20000 in
theorem om_Z_takeRate : am_okM mt_Z_takeRate := ⟨am_good_of (k := 947) rfl rfl, am_good_of (k := 69) rfl rfl, by decide, by decide, by decide⟩
set_option maxRecDepth 20000 in
theorem om_Z_takeHour : am_okM mt_Z_takeHour := ⟨am_good_of (k := 951) rfl rfl, am_good_of (k := 69) rfl rfl, by decide, by decide, by decide⟩
set_option maxRecDepth 20000 in
theorem om_Z_readValve : am_okM mt_Z_readValve := ⟨am_good_of (k := 927) rfl rfl, am_good_of (k := 69) rfl rfl, by decide, by decide, by decide⟩
set_option maxRecDepth 20000 in
theorem om_Z_readPlan : am_okM mt_Z_readPlan := ⟨am_good_of (k := 923) rfl rfl, am_good_of (k := 69) rfl rfl, by decide, by decide, by decide⟩
set_option maxRecDepth 20000 in
theorem om_Z_firstError : am_okM mt_Z_firstError := ⟨am_good_of (k := 919) rfl rfl, am_good_of (k := 69) rfl rfl, by decide, by decide, by decide⟩
set_option maxRecDepth 20000 in
theorem om_Z_load : am_okM mt_Z_load := ⟨am_good_of (k := 958) rfl rfl, am_good_of (k := 69) rfl rfl, by decide, by decide, by decide⟩
set_option maxRecDepth 20000 in
theorem om_Z_vatNow : am_okM mt_Z_vatNow := ⟨am_good_of (k := 966) rfl rfl, am_good_of (k := 69) rfl rfl, by decide, by decide, by decide⟩
set_option maxRecDepth 20000 in
theorem om_Z_vatOf : am_okM mt_Z_vatOf := ⟨am_good_of (k := 962) rfl rfl, am_good_of (k := 69) rfl rfl, by decide, by decide, by decide⟩
set_option maxRecDepth 20000 in
theorem om_Z_toldOfValve : am_okM mt_Z_toldOfValve := ⟨am_good_of (k := 974) rfl rfl, am_good_of (k := 69) rfl rfl, by decide, by decide, by decide⟩
set_option maxRecDepth 20000 in
theorem om_Z_valveOf : am_okM mt_Z_valveOf := ⟨am_good_of (k := 970) rfl rfl, am_good_of (k := 69) rfl rfl, by decide, by decide, by decide⟩
set_option maxRecDepth 20000 in
theorem om_Z_inVats : am_okM mt_Z_inVats := ⟨am_good_of (k := 986) rfl rfl, am_good_of (k := 69) rfl rfl, by decide, by decide, by decide⟩
set_option maxRecDepth 20000 in
theorem om_Z_strongest : am_okM mt_Z_strongest := ⟨am_good_of (k := 990) rfl rfl, am_good_of (k := 69) rfl rfl, by decide, by decide, by decide⟩
set_option maxRecDepth 20000 in
theorem om_Z_dyeNow : am_okM mt_Z_dyeNow := ⟨am_good_of (k := 982) rfl rfl, am_good_of (k := 69) rfl rfl, by decide, by decide, by decide⟩
set_option maxRecDepth 20000 in
theorem om_Z_dyeOf : am_okM mt_Z_dyeOf := ⟨am_good_of (k := 978) rfl rfl, am_good_of (k := 69) rfl rfl, by decide, by decide, by decide⟩
set_option maxRecDepth 20000 in
theorem om_Z_pipes : am_okM mt_Z_pipes := ⟨am_good_of (k := 1002) rfl rfl, am_good_of (k := 69) rfl rfl, by decide, by decide, by decide⟩
set_option maxRecDepth 20000 in
theorem om_Z_countNow : am_okM mt_Z_countNow := ⟨am_good_of (k := 998) rfl rfl, am_good_of (k := 69) rfl rfl, by decide, by decide, by decide⟩
set_option maxRecDepth 20000 in
theorem om_Z_count : am_okM mt_Z_count := ⟨am_good_of (k := 994) rfl rfl, am_good_of (k := 69) rfl rfl, by decide, by decide, by decide⟩
set_option maxRecDepth 20000 in
theorem om_Z_leftBehind : am_okM mt_Z_leftBehind := ⟨am_good_of (k := 1010) rfl rfl, am_good_of (k := 69) rfl rfl, by decide, by decide, by decide⟩
set_option maxRecDepth 20000 in
theorem om_Z_ifPassed : am_okM mt_Z_ifPassed := ⟨am_good_of (k := 1006) rfl rfl, am_good_of (k := 69) rfl rfl, by decide, by decide, by decide⟩
set_option maxRecDepth 20000 in
theorem om_Z_hoursToEmpty : am_okM mt_Z_hoursToEmpty := ⟨am_good_of (k := 1026) rfl rfl, am_good_of (k := 69) rfl rfl, by decide, by decide, by decide⟩
set_option maxRecDepth 20000 in
theorem om_Z_emptyIn : am_okM mt_Z_emptyIn := ⟨am_good_of (k := 1022) rfl rfl, am_good_of (k := 69) rfl rfl, by decide, by decide, by decide⟩
set_option maxRecDepth 20000 in
theorem om_Z_isSameLook : am_okM mt_Z_isSameLook := ⟨am_good_of (k := 1038) rfl rfl, am_good_of (k := 69) rfl rfl, by decide, by decide, by decide⟩
set_option maxRecDepth 20000 in
theorem om_Z_findRound : am_okM mt_Z_findRound := ⟨am_good_of (k := 1034) rfl rfl, am_good_of (k := 69) rfl rfl, by decide, by decide, by decide⟩
set_option maxRecDepth 20000 in
theorem om_Z_round : am_okM mt_Z_round := ⟨am_good_of (k := 1030) rfl rfl, am_good_of (k := 69) rfl rfl, by decide, by decide, by decide⟩
set_option maxRecDepth 20000 in
theorem om_Z_findMainValve : am_okM mt_Z_findMainValve := ⟨am_good_of (k := 1046) rfl rfl, am_good_of (k := 69) rfl rfl, by decide, by decide, by decide⟩
set_option maxRecDepth 20000 in
theorem om_Z_mainValve : am_okM mt_Z_mainValve := ⟨am_good_of (k := 1042) rfl rfl, am_good_of (k := 69) rfl rfl, by decide, by decide, by decide⟩
set_option maxRecDepth 20000 in
theorem om_Z_shareGone : am_okM mt_Z_shareGone := ⟨am_good_of (k := 1054) rfl rfl, am_good_of (k := 69) rfl rfl, by decide, by decide, by decide⟩
set_option maxRecDepth 20000 in
theorem om_Z_goneShare : am_okM mt_Z_goneShare := ⟨am_good_of (k := 1050) rfl rfl, am_good_of (k := 69) rfl rfl, by decide, by decide, by decide⟩
set_option maxRecDepth 20000 in
theorem om_Z_digest : am_okM mt_Z_digest := ⟨am_good_of (k := 1058) rfl rfl, am_good_of (k := 69) rfl rfl, by decide, by decide, by decide⟩
set_option maxRecDepth 20000 in
theorem om_L_fill : am_okM mt_L_fill := ⟨am_good_of (k := 421) rfl rfl, am_good_of (k := 64) rfl rfl, by decide, by decide, by decide⟩
set_option maxRecDepth 20000 in
theorem om_L_dye : am_okM mt_L_dye := ⟨am_good_of (k := 528) rfl rfl, am_good_of (k := 64) rfl rfl, by decide, by decide, by decide⟩
set_option maxRecDepth 20000 in
theorem om_L_stir : am_okM mt_L_stir := ⟨am_good_of (k := 557) rfl rfl, am_good_of (k := 64) rfl rfl, by decide, by decide, by decide⟩
set_option maxRecDepth 20000 in
theorem om_L_capacity : am_okM mt_L_capacity := ⟨am_good_of (k := 571) rfl rfl, am_good_of (k := 64) rfl rfl, by decide, by decide, by decide⟩
set_option maxRecDepth 20000 in
theorem om_L_valve : am_okM mt_L_valve := ⟨am_good_of (k := 578) rfl rfl, am_good_of (k := 64) rfl rfl, by decide, by decide, by decide⟩
set_option maxRecDepth 20000 in
theorem om_L_close : am_okM mt_L_close := ⟨am_good_of (k := 587) rfl rfl, am_good_of (k := 64) rfl rfl, by decide, by decide, by decide⟩
set_option maxRecDepth 20000 in
theorem om_L_pipe : am_okM mt_L_pipe := ⟨am_good_of (k := 599) rfl rfl, am_good_of (k := 64) rfl rfl, by decide, by decide, by decide⟩
set_option maxRecDepth 20000 in
theorem om_L_set : am_okM mt_L_set := ⟨am_good_of (k := 607) rfl rfl, am_good_of (k := 64) rfl rfl, by decide, by decide, by decide⟩
set_option maxRecDepth 20000 in
theorem om_L_pass : am_okM mt_L_pass := ⟨am_good_of (k := 614) rfl rfl, am_good_of (k := 64) rfl rfl, by decide, by decide, by decide⟩
set_option maxRecDepth 20000 in
theorem om_L_append : am_okM mt_L_append := ⟨am_good_of (k := 622) rfl rfl, am_good_of (k := 64) rfl rfl, by decide, by decide, by decide⟩
set_option maxRecDepth 20000 in
theorem om_L_load : am_okM mt_L_load := ⟨am_good_of (k := 630) rfl rfl, am_good_of (k := 64) rfl rfl, by decide, by decide, by decide⟩
set_option maxRecDepth 20000 in
theorem om_L_keep : am_okM mt_L_keep := ⟨am_good_of (k := 647) rfl rfl, am_good_of (k := 64) rfl rfl, by decide, by decide, by decide⟩
set_option maxRecDepth 20000 in
theorem om_L_goBack : am_okM mt_L_goBack := ⟨am_good_of (k := 654) rfl rfl, am_good_of (k := 64) rfl rfl, by decide, by decide, by decide⟩
set_option maxRecDepth 20000 in
theorem om_L_undo : am_okM mt_L_undo := ⟨am_good_of (k := 662) rfl rfl, am_good_of (k := 64) rfl rfl, by decide, by decide, by decide⟩
set_option maxRecDepth 20000 in
theorem om_L_vatOf : am_okM mt_L_vatOf := ⟨am_good_of (k := 670) rfl rfl, am_good_of (k := 64) rfl rfl, by decide, by decide, by decide⟩
set_option maxRecDepth 20000 in
theorem om_L_valveOf : am_okM mt_L_valveOf := ⟨am_good_of (k := 677) rfl rfl, am_good_of (k := 64) rfl rfl, by decide, by decide, by decide⟩
set_option maxRecDepth 20000 in
theorem om_L_dyeOf : am_okM mt_L_dyeOf := ⟨am_good_of (k := 684) rfl rfl, am_good_of (k := 64) rfl rfl, by decide, by decide, by decide⟩
set_option maxRecDepth 20000 in
theorem om_L_count : am_okM mt_L_count := ⟨am_good_of (k := 691) rfl rfl, am_good_of (k := 64) rfl rfl, by decide, by decide, by decide⟩
set_option maxRecDepth 20000 in
theorem om_L_ifPassed : am_okM mt_L_ifPassed := ⟨am_good_of (k := 698) rfl rfl, am_good_of (k := 64) rfl rfl, by decide, by decide, by decide⟩
set_option maxRecDepth 20000 in
theorem om_L_emptyIn : am_okM mt_L_emptyIn := ⟨am_good_of (k := 705) rfl rfl, am_good_of (k := 64) rfl rfl, by decide, by decide, by decide⟩
set_option maxRecDepth 20000 in
theorem om_L_round : am_okM mt_L_round := ⟨am_good_of (k := 712) rfl rfl, am_good_of (k := 64) rfl rfl, by decide, by decide, by decide⟩
def am_okL : List am_MT → Prop
  | [] => True
  | t :: r => am_okM t ∧ am_okL r
theorem am_okL_nth : ∀ (l : List am_MT) (k : Nat), am_okL l → am_okM (am_nth l k)
  | [], _, _ => om_J_isNaN
  | _ :: _, 0, h => h.1
  | _ :: r, k + 1, h => am_okL_nth r k h.2
theorem am_okL_all : am_okL am_mts := ⟨om_J_isNaN, om_J_doubleToLongBits, om_J_bitCount, om_S_takeFrom, om_S_hourOfDay, om_S_limitIn, om_S_pipesLaid, om_S_waterInAll, om_S_vatProperty, om_S_valveProperty, om_S_dyeProperty, om_S_removeValve, om_S_takeValves, om_S_dissolveSettled, om_S_runHours, om_S_runValves, om_S_levelPipes, om_S_settleGrains, om_S_moveWater, om_S_isOpen, om_S_grainsInAll, om_S_strongestVat, om_S_isVat, om_T_readCodes, om_T_endsWell, om_T_takesCode, om_T_takesDigit, om_T_isWholeNumber, om_T_canBecomeWhole, om_T_leastOfPart, om_T_mostOfPart, om_D_beginWith, om_D_findByRunners, om_D_findByLookingBack, om_D_reachDay, om_D_isSameLook, om_V_fill, om_V_dye, om_V_stir, om_V_capacity, om_V_valve, om_V_close, om_V_pipe, om_V_set, om_V_pass, om_V_append, om_V_clearBuffer, om_V_firstError, om_V_load, om_V_keep, om_V_goBack, om_V_undo, om_V_vatOf, om_V_valveOf, om_V_dyeOf, om_V_count, om_V_ifPassed, om_V_emptyIn, om_V_round, om_V_mainValve, om_V_goneShare, om_V_digest, om_V_hashVats, om_V_hashValves, om_V_hashDyes, om_V_bitsOfShare, om_V_numberOf, om_V_findEmptyHours, om_V_saveState, om_V_refuse, om_V_requireVat, om_V_requireDye, om_V_requireValve, om_V_requireRange, om_Z_thrown, om_Z_in, om_Z_least, om_Z_of, om_Z_setVat, om_Z_add, om_Z_valveNow, om_Z_isVat, om_Z_isDye, om_Z_isValve, om_Z_hourOfDay, om_Z_holds, om_Z_isOpen, om_Z_record, om_Z_undo, om_Z_keep, om_Z_goBack, om_Z_putAside, om_Z_putBack, om_Z_fill, om_Z_dye, om_Z_stir, om_Z_capacity, om_Z_putValve, om_Z_valve, om_Z_dropValve, om_Z_close, om_Z_isPipe, om_Z_pipe, om_Z_set, om_Z_move, om_Z_level, om_Z_settle, om_Z_hour, om_Z_hours, om_Z_pass, om_Z_append, om_Z_clearBuffer, om_Z_sign, om_Z_take, om_Z_takeSign, om_Z_takeVat, om_Z_canGoOn, om_Z_takeRate, om_Z_takeHour, om_Z_readValve, om_Z_readPlan, om_Z_firstError, om_Z_load, om_Z_vatNow, om_Z_vatOf, om_Z_toldOfValve, om_Z_valveOf, om_Z_inVats, om_Z_strongest, om_Z_dyeNow, om_Z_dyeOf, om_Z_pipes, om_Z_countNow, om_Z_count, om_Z_leftBehind, om_Z_ifPassed, om_Z_hoursToEmpty, om_Z_emptyIn, om_Z_isSameLook, om_Z_findRound, om_Z_round, om_Z_findMainValve, om_Z_mainValve, om_Z_shareGone, om_Z_goneShare, om_Z_digest, om_L_fill, om_L_dye, om_L_stir, om_L_capacity, om_L_valve, om_L_close, om_L_pipe, om_L_set, om_L_pass, om_L_append, om_L_load, om_L_keep, om_L_goBack, om_L_undo, om_L_vatOf, om_L_valveOf, om_L_dyeOf, om_L_count, om_L_ifPassed, om_L_emptyIn, om_L_round, trivial⟩
theorem am_okM_all : ∀ k, k < 167 → am_okM (am_mt k) := fun k _ => am_okL_nth am_mts k am_okL_all
end
section
theorem am_R_chr {L : am_S} {t : am_MT} {n pc : Nat} {ls st : List Value} {M : am_M} {Q : am_Q} {idx z k : Nat} {v : Int32} (hd : decode (mt_b t) pc = .ok (.invokevirtual idx, 3)) (hw : lw_tbl[z]? = some (.methodLink (mt_y t).cls idx ⟨"java/lang/String", "charAt", "(I)C"⟩)) (h1' : 4 ≤ mt_rf t) (h2' : 85 ≤ mt_rl t) (hcat : am_cat st ≤ 8) (hv : v = nI k) (hk : k < 5)
    (kk : am_R L t n (pc + 3) ls (.int (am_sg k) :: st) M Q) : am_R L t n pc ls (.int v :: .ref 28 :: st) M Q := by
  sorry
end
section
/-! the rule of a stretch of code: written by wip/whole/mk14.py -/
theorem am_fit_int : ∀ z : Int32, fits .int (.int z) = true := fun _ => rfl
theorem am_ckc_spec {t u : am_MT} {pc na : Nat} (h : am_ckc t u pc na = true) : (parseMethodDescriptor (mt_y u).desc).map (fun d => d.parameters.length) = some na ∧ mt_rf u + 1 ≤ mt_rf t ∧ 8 + (mt_l u + 11) + mt_rl u ≤ mt_rl t ∧ (mt_g u = true → mt_g t = true) ∧ (mt_h t ≠ [] → mt_g t = true ∧ (mt_y t).cls = "DyeVatsLaw" ∧ am_cov pc (mt_h t) = true) := by
  simp only [am_ckc, Bool.and_eq_true, decide_eq_true_eq, Bool.or_eq_true, Bool.not_eq_true'] at h
  obtain ⟨h1, h2, h3, h4, h5⟩ := h
  refine ⟨h1, h2, h3, fun hu => ?_, fun hne => ?_⟩
  · rcases h4 with h4 | h4
    · rw [hu] at h4; cases h4
    · exact h4
  · rcases h5 with h5 | h5
    · exact absurd h5 hne
    · exact h5
theorem am_okB_cons {t : am_MT} {pc w x y z : Nat} {i : Instr} {is : List am_I} (h : am_okB t pc ((i, w, x, y, z) :: is) = true) : decode (mt_b t) pc = .ok (i, w) ∧ (am_isp i = true → am_ckp i w = true) ∧ (am_iss i = true → am_cks (mt_l t) i w = true) ∧ am_ck t pc i w x y z = true ∧ am_okB t (pc + w) is = true := by
  simp only [am_okB, Bool.and_eq_true, decide_eq_true_eq, Bool.or_eq_true, Bool.not_eq_true'] at h
  obtain ⟨h1, h2, h3, h4, h5⟩ := h
  refine ⟨h1, fun hp => ?_, fun hp => ?_, h4, h5⟩
  · rcases h2 with h2 | h2
    · rw [hp] at h2; cases h2
    · exact h2
  · rcases h3 with h3 | h3
    · rw [hp] at h3; cases h3
    · exact h3
set_option maxHeartbeats 4000000 in
theorem am_go (L : am_S) (t : am_MT) (hL31 : mt_w t = true → L.1 < 2 ^ 31) : ∀ (is : List am_I) (n pc : Nat) (ls st : List Value) (M : am_M) (Q : am_Q), am_okB t pc is = true → am_B L t is n pc ls st M Q → am_R L t n pc ls st M Q := by
  intro is
  induction is with
  | nil => exact fun n pc ls st M Q _ h => h
  | cons q is ih =>
    obtain ⟨i, w, x, y, z⟩ := q
    intro n pc ls st M Q hok h
    obtain ⟨hd, hp1, hs1, hck, hok'⟩ := am_okB_cons hok
    unfold am_B at h
    cases hp : am_pu i ls st with
    | some st' =>
      simp only [hp] at h
      exact am_R_pu hp hd (hp1 (am_isp_of hp)) (ih _ _ _ _ _ _ hok' h)
    | none =>
      simp only [hp] at h
      cases hs : am_sto i ls st with
      | some q =>
        simp only [hs] at h
        exact am_R_sto hs hd (hs1 (am_iss_of hs)) (ih _ _ _ _ _ _ hok' h)
      | none =>
        simp only [hs] at h
        have hcov : ∀ {p : Prop}, False → p := fun h => False.elim h
        cases i
        case ifCond cd off =>
          rcases st with _ | ⟨v, st⟩
          · exact hcov h
          cases v
          case long _ => exact hcov h
          case float _ => exact hcov h
          case double _ => exact hcov h
          case null => exact hcov h
          case ref _ => exact hcov h
          case retAddr _ => exact hcov h
          rename_i v
          simp only [am_ck, Bool.and_eq_true, decide_eq_true_eq] at hck
          obtain ⟨rfl, ho⟩ := hck
          exact am_R_if1 hd ho h.1 (fun z => ih _ _ _ _ _ _ hok' (h.2 z))
        case if_icmp cd off =>
          rcases st with _ | ⟨v2, st⟩
          · exact hcov h
          cases v2
          case long _ => exact hcov h
          case float _ => exact hcov h
          case double _ => exact hcov h
          case null => exact hcov h
          case ref _ => exact hcov h
          case retAddr _ => exact hcov h
          rename_i v2
          rcases st with _ | ⟨v1, st⟩
          · exact hcov h
          cases v1
          case long _ => exact hcov h
          case float _ => exact hcov h
          case double _ => exact hcov h
          case null => exact hcov h
          case ref _ => exact hcov h
          case retAddr _ => exact hcov h
          rename_i v1
          simp only [am_ck, Bool.and_eq_true, decide_eq_true_eq] at hck
          obtain ⟨rfl, ho⟩ := hck
          exact am_R_if2 hd ho h.1 (fun z => ih _ _ _ _ _ _ hok' (h.2 z))
        case goto off =>
          simp only [am_ck, Bool.and_eq_true, decide_eq_true_eq] at hck
          obtain ⟨rfl, ho⟩ := hck
          exact am_R_goto hd ho h
        case tableswitch d lo hi os =>
          rcases st with _ | ⟨v, st⟩
          · exact hcov h
          cases v
          case long _ => exact hcov h
          case float _ => exact hcov h
          case double _ => exact hcov h
          case null => exact hcov h
          case ref _ => exact hcov h
          case retAddr _ => exact hcov h
          rename_i v
          simp only [am_ck, Bool.and_eq_true, decide_eq_true_eq, List.all_eq_true] at hck
          exact am_R_tsw hd hck.1 hck.2.1 hck.2.2 h.1 h.2
        case lookupswitch d ps =>
          rcases st with _ | ⟨v, st⟩
          · exact hcov h
          cases v
          case long _ => exact hcov h
          case float _ => exact hcov h
          case double _ => exact hcov h
          case null => exact hcov h
          case ref _ => exact hcov h
          case retAddr _ => exact hcov h
          rename_i v
          simp only [am_ck, Bool.and_eq_true, decide_eq_true_eq] at hck
          exact am_R_lsw hd hck.1 (fun q hq => by simpa using List.all_eq_true.mp hck.2.1 q hq) hck.2.2 h
        case ldc idx =>
          simp only [am_ck, Bool.and_eq_true, decide_eq_true_eq] at hck
          obtain ⟨rfl, hck⟩ := hck
          cases y with
          | zero => exact am_R_ldc hd (by simpa using hck) (ih _ _ _ _ _ _ hok' h)
          | succ y =>
            obtain ⟨h1, rfl⟩ : (mt_y t).cls = RX2 ∧ idx = 45 := by simpa using hck
            exact am_R_ldcs hd h1 (ih _ _ _ _ _ _ hok' h)
        case ldc_w idx =>
          simp only [am_ck, Bool.and_eq_true, decide_eq_true_eq] at hck
          obtain ⟨rfl, hck⟩ := hck
          exact am_R_ldcw hd hck (ih _ _ _ _ _ _ hok' h)
        case ldc2_w idx =>
          simp only [am_ck, Bool.and_eq_true, decide_eq_true_eq] at hck
          obtain ⟨rfl, hck⟩ := hck
          cases y with
          | zero => exact am_R_ldc2 hd (by simpa using hck) (ih _ _ _ _ _ _ hok' h)
          | succ y => exact am_R_ldc2d hd (by simpa using hck) (ih _ _ _ _ _ _ hok' h)
        case idiv =>
          rcases st with _ | ⟨v2, st⟩
          · exact hcov h
          cases v2
          case long _ => exact hcov h
          case float _ => exact hcov h
          case double _ => exact hcov h
          case null => exact hcov h
          case ref _ => exact hcov h
          case retAddr _ => exact hcov h
          rename_i v2
          rcases st with _ | ⟨v1, st⟩
          · exact hcov h
          cases v1
          case long _ => exact hcov h
          case float _ => exact hcov h
          case double _ => exact hcov h
          case null => exact hcov h
          case ref _ => exact hcov h
          case retAddr _ => exact hcov h
          rename_i v1
          obtain rfl : w = 1 := by simpa [am_ck, am_isp, am_iss] using hck
          exact am_R_idiv hd h.1 (ih _ _ _ _ _ _ hok' h.2)
        case irem =>
          rcases st with _ | ⟨v2, st⟩
          · exact hcov h
          cases v2
          case long _ => exact hcov h
          case float _ => exact hcov h
          case double _ => exact hcov h
          case null => exact hcov h
          case ref _ => exact hcov h
          case retAddr _ => exact hcov h
          rename_i v2
          rcases st with _ | ⟨v1, st⟩
          · exact hcov h
          cases v1
          case long _ => exact hcov h
          case float _ => exact hcov h
          case double _ => exact hcov h
          case null => exact hcov h
          case ref _ => exact hcov h
          case retAddr _ => exact hcov h
          rename_i v1
          obtain rfl : w = 1 := by simpa [am_ck, am_isp, am_iss] using hck
          exact am_R_irem hd h.1 (ih _ _ _ _ _ _ hok' h.2)
        case ddiv =>
          rcases st with _ | ⟨v2, st⟩
          · exact hcov h
          cases v2
          case int _ => exact hcov h
          case long _ => exact hcov h
          case float _ => exact hcov h
          case null => exact hcov h
          case ref _ => exact hcov h
          case retAddr _ => exact hcov h
          rename_i v2
          rcases st with _ | ⟨v1, st⟩
          · exact hcov h
          cases v1
          case int _ => exact hcov h
          case long _ => exact hcov h
          case float _ => exact hcov h
          case null => exact hcov h
          case ref _ => exact hcov h
          case retAddr _ => exact hcov h
          rename_i v1
          obtain rfl : w = 1 := by simpa [am_ck, am_isp, am_iss] using hck
          exact am_R_ddiv hd h.1 (ih _ _ _ _ _ _ hok' h.2)
        case dmul =>
          rcases st with _ | ⟨v2, st⟩
          · exact hcov h
          cases v2
          case int _ => exact hcov h
          case long _ => exact hcov h
          case float _ => exact hcov h
          case null => exact hcov h
          case ref _ => exact hcov h
          case retAddr _ => exact hcov h
          rename_i v2
          rcases st with _ | ⟨v1, st⟩
          · exact hcov h
          cases v1
          case int _ => exact hcov h
          case long _ => exact hcov h
          case float _ => exact hcov h
          case null => exact hcov h
          case ref _ => exact hcov h
          case retAddr _ => exact hcov h
          rename_i v1
          obtain rfl : w = 1 := by simpa [am_ck, am_isp, am_iss] using hck
          exact am_R_dmul hd h.1 (ih _ _ _ _ _ _ hok' h.2)
        case dsub =>
          rcases st with _ | ⟨v2, st⟩
          · exact hcov h
          cases v2
          case int _ => exact hcov h
          case long _ => exact hcov h
          case float _ => exact hcov h
          case null => exact hcov h
          case ref _ => exact hcov h
          case retAddr _ => exact hcov h
          rename_i v2
          rcases st with _ | ⟨v1, st⟩
          · exact hcov h
          cases v1
          case int _ => exact hcov h
          case long _ => exact hcov h
          case float _ => exact hcov h
          case null => exact hcov h
          case ref _ => exact hcov h
          case retAddr _ => exact hcov h
          rename_i v1
          obtain rfl : w = 1 := by simpa [am_ck, am_isp, am_iss] using hck
          exact am_R_dsub hd h.1 (ih _ _ _ _ _ _ hok' h.2)
        case getfield idx =>
          rcases st with _ | ⟨a, st⟩
          · exact hcov h
          cases a
          case int _ => exact hcov h
          case long _ => exact hcov h
          case float _ => exact hcov h
          case double _ => exact hcov h
          case null => exact hcov h
          case retAddr _ => exact hcov h
          rename_i a
          simp only [am_ck, Bool.and_eq_true, decide_eq_true_eq] at hck
          obtain ⟨rfl, hw, hx, hy⟩ := hck
          simp only at h
          split at h
          · rename_i hci
            exact am_R_get hd hw hx hy (Nat.eq_of_beq_eq_true hci) (ih _ _ _ _ _ _ hok' h)
          · exact hcov h
        case putfield idx =>
          rcases st with _ | ⟨v, st⟩
          · exact hcov h
          cases v
          case long _ => exact hcov h
          case float _ => exact hcov h
          case double _ => exact hcov h
          case null => exact hcov h
          case ref _ => exact hcov h
          case retAddr _ => exact hcov h
          rename_i v
          rcases st with _ | ⟨a, st⟩
          · exact hcov h
          cases a
          case int _ => exact hcov h
          case long _ => exact hcov h
          case float _ => exact hcov h
          case double _ => exact hcov h
          case null => exact hcov h
          case retAddr _ => exact hcov h
          rename_i a
          simp only [am_ck, Bool.and_eq_true, decide_eq_true_eq] at hck
          obtain ⟨rfl, hw, hx, hy, hf, hty, hr, hx1⟩ := hck
          simp only at h
          split at h
          · rename_i hci
            split at h
            · rename_i hb
              exact am_R_put hd hw hx hy hf hty (by unfold am_fty; rw [hb]; rcases h.1 with rfl | rfl <;> rfl) hr hx1 (Nat.eq_of_beq_eq_true hci) (by unfold am_fty; rw [hb]; rcases h.1 with rfl | rfl <;> rfl) (ih _ _ _ _ _ _ hok' h.2)
            · rename_i hb
              exact am_R_put hd hw hx hy hf hty (by unfold am_fty; rw [hb]; rfl) hr hx1 (Nat.eq_of_beq_eq_true hci) (by unfold am_fty; rw [hb]; rfl) (ih _ _ _ _ _ _ hok' h)
          · exact hcov h
        case arraylength =>
          rcases st with _ | ⟨a, st⟩
          · exact hcov h
          cases a
          case int _ => exact hcov h
          case long _ => exact hcov h
          case float _ => exact hcov h
          case double _ => exact hcov h
          case null => exact hcov h
          case retAddr _ => exact hcov h
          rename_i a
          obtain rfl : w = 1 := by simpa [am_ck, am_isp, am_iss] using hck
          simp only at h
          split at h
          · rename_i hr
            exact am_R_alen hd hr (ih _ _ _ _ _ _ hok' h)
          · exact hcov h
        case iaload =>
          rcases st with _ | ⟨v, st⟩
          · exact hcov h
          cases v
          case long _ => exact hcov h
          case float _ => exact hcov h
          case double _ => exact hcov h
          case null => exact hcov h
          case ref _ => exact hcov h
          case retAddr _ => exact hcov h
          rename_i v
          rcases st with _ | ⟨a, st⟩
          · exact hcov h
          cases a
          case int _ => exact hcov h
          case long _ => exact hcov h
          case float _ => exact hcov h
          case double _ => exact hcov h
          case null => exact hcov h
          case retAddr _ => exact hcov h
          rename_i a
          obtain rfl : w = 1 := by simpa [am_ck, am_isp, am_iss] using hck
          simp only at h
          split at h
          · rename_i hr
            obtain ⟨k, h1, h2, h3⟩ := h
            exact am_R_iald hd hL31 hr h1 h2 (ih _ _ _ _ _ _ hok' h3)
          · exact hcov h
        case baload =>
          rcases st with _ | ⟨v, st⟩
          · exact hcov h
          cases v
          case long _ => exact hcov h
          case float _ => exact hcov h
          case double _ => exact hcov h
          case null => exact hcov h
          case ref _ => exact hcov h
          case retAddr _ => exact hcov h
          rename_i v
          rcases st with _ | ⟨a, st⟩
          · exact hcov h
          cases a
          case int _ => exact hcov h
          case long _ => exact hcov h
          case float _ => exact hcov h
          case double _ => exact hcov h
          case null => exact hcov h
          case retAddr _ => exact hcov h
          rename_i a
          obtain rfl : w = 1 := by simpa [am_ck, am_isp, am_iss] using hck
          simp only at h
          split at h
          · rename_i hr
            obtain ⟨k, h1, h2, h3⟩ := h
            exact am_R_zald hd (Nat.eq_of_beq_eq_true hr) h1 h2 (ih _ _ _ _ _ _ hok' h3)
          · exact hcov h
        case laload =>
          rcases st with _ | ⟨v, st⟩
          · exact hcov h
          cases v
          case long _ => exact hcov h
          case float _ => exact hcov h
          case double _ => exact hcov h
          case null => exact hcov h
          case ref _ => exact hcov h
          case retAddr _ => exact hcov h
          rename_i v
          rcases st with _ | ⟨a, st⟩
          · exact hcov h
          cases a
          case int _ => exact hcov h
          case long _ => exact hcov h
          case float _ => exact hcov h
          case double _ => exact hcov h
          case null => exact hcov h
          case retAddr _ => exact hcov h
          rename_i a
          obtain rfl : w = 1 := by simpa [am_ck, am_isp, am_iss] using hck
          simp only at h
          split at h
          · rename_i hr
            obtain ⟨k, h1, h2, h3⟩ := h
            exact am_R_lald hd (Nat.eq_of_beq_eq_true hr) h1 h2 (ih _ _ _ _ _ _ hok' h3)
          · exact hcov h
        case iastore =>
          rcases st with _ | ⟨u, st⟩
          · exact hcov h
          cases u
          case long _ => exact hcov h
          case float _ => exact hcov h
          case double _ => exact hcov h
          case null => exact hcov h
          case ref _ => exact hcov h
          case retAddr _ => exact hcov h
          rename_i u
          rcases st with _ | ⟨v, st⟩
          · exact hcov h
          cases v
          case long _ => exact hcov h
          case float _ => exact hcov h
          case double _ => exact hcov h
          case null => exact hcov h
          case ref _ => exact hcov h
          case retAddr _ => exact hcov h
          rename_i v
          rcases st with _ | ⟨a, st⟩
          · exact hcov h
          cases a
          case int _ => exact hcov h
          case long _ => exact hcov h
          case float _ => exact hcov h
          case double _ => exact hcov h
          case null => exact hcov h
          case retAddr _ => exact hcov h
          rename_i a
          obtain rfl : w = 1 := by simpa [am_ck, am_isp, am_iss] using hck
          simp only at h
          split at h
          · rename_i hr
            obtain ⟨k, h1, h2, h3⟩ := h
            exact am_R_iast hd (Nat.eq_of_beq_eq_true hr) h1 h2 (ih _ _ _ _ _ _ hok' h3)
          · exact hcov h
        case bastore =>
          rcases st with _ | ⟨u, st⟩
          · exact hcov h
          cases u
          case long _ => exact hcov h
          case float _ => exact hcov h
          case double _ => exact hcov h
          case null => exact hcov h
          case ref _ => exact hcov h
          case retAddr _ => exact hcov h
          rename_i u
          rcases st with _ | ⟨v, st⟩
          · exact hcov h
          cases v
          case long _ => exact hcov h
          case float _ => exact hcov h
          case double _ => exact hcov h
          case null => exact hcov h
          case ref _ => exact hcov h
          case retAddr _ => exact hcov h
          rename_i v
          rcases st with _ | ⟨a, st⟩
          · exact hcov h
          cases a
          case int _ => exact hcov h
          case long _ => exact hcov h
          case float _ => exact hcov h
          case double _ => exact hcov h
          case null => exact hcov h
          case retAddr _ => exact hcov h
          rename_i a
          obtain rfl : w = 1 := by simpa [am_ck, am_isp, am_iss] using hck
          simp only at h
          split at h
          · rename_i hr
            obtain ⟨hz, k, h1, h2, h3⟩ := h
            exact am_R_zast hd (Nat.eq_of_beq_eq_true hr) (by rcases hz with rfl | rfl <;> rfl) h1 h2 (ih _ _ _ _ _ _ hok' h3)
          · exact hcov h
        case lastore =>
          rcases st with _ | ⟨u, st⟩
          · exact hcov h
          cases u
          case int _ => exact hcov h
          case float _ => exact hcov h
          case double _ => exact hcov h
          case null => exact hcov h
          case ref _ => exact hcov h
          case retAddr _ => exact hcov h
          rename_i u
          rcases st with _ | ⟨v, st⟩
          · exact hcov h
          cases v
          case long _ => exact hcov h
          case float _ => exact hcov h
          case double _ => exact hcov h
          case null => exact hcov h
          case ref _ => exact hcov h
          case retAddr _ => exact hcov h
          rename_i v
          rcases st with _ | ⟨a, st⟩
          · exact hcov h
          cases a
          case int _ => exact hcov h
          case long _ => exact hcov h
          case float _ => exact hcov h
          case double _ => exact hcov h
          case null => exact hcov h
          case retAddr _ => exact hcov h
          rename_i a
          obtain rfl : w = 1 := by simpa [am_ck, am_isp, am_iss] using hck
          simp only at h
          split at h
          · rename_i hr
            obtain ⟨k, h1, h2, z', rfl, h3⟩ := h
            exact am_R_last hd (Nat.eq_of_beq_eq_true hr) h1 h2 (ih _ _ _ _ _ _ hok' h3)
          · exact hcov h
        case ireturn =>
          rcases st with _ | ⟨v, st⟩
          · exact hcov h
          cases v
          case long _ => exact hcov h
          case float _ => exact hcov h
          case double _ => exact hcov h
          case null => exact hcov h
          case ref _ => exact hcov h
          case retAddr _ => exact hcov h
          rename_i v
          rcases st with _ | ⟨v9, st⟩
          rotate_left
          · exact hcov h
          obtain rfl : w = 1 := by simpa [am_ck, am_isp, am_iss] using hck
          simp only at h
          split at h
          · rename_i hr
            exact am_R_ret (v := some (.int v)) hd ⟨rfl, .int, hr, rfl⟩ h
          · rename_i hr
            exact am_R_ret (v := some (.int v)) hd ⟨rfl, .boolean, hr, by rcases h.1 with rfl | rfl <;> rfl⟩ h.2
          · exact hcov h
        case lreturn =>
          rcases st with _ | ⟨v, st⟩
          · exact hcov h
          cases v
          case int _ => exact hcov h
          case float _ => exact hcov h
          case double _ => exact hcov h
          case null => exact hcov h
          case ref _ => exact hcov h
          case retAddr _ => exact hcov h
          rename_i v
          rcases st with _ | ⟨v9, st⟩
          rotate_left
          · exact hcov h
          obtain rfl : w = 1 := by simpa [am_ck, am_isp, am_iss] using hck
          simp only at h
          split at h
          · rename_i hr
            exact am_R_ret (v := some (.long v)) hd ⟨rfl, hr⟩ h
          · exact hcov h
        case dreturn =>
          rcases st with _ | ⟨v, st⟩
          · exact hcov h
          cases v
          case int _ => exact hcov h
          case long _ => exact hcov h
          case float _ => exact hcov h
          case null => exact hcov h
          case ref _ => exact hcov h
          case retAddr _ => exact hcov h
          rename_i v
          rcases st with _ | ⟨v9, st⟩
          rotate_left
          · exact hcov h
          obtain rfl : w = 1 := by simpa [am_ck, am_isp, am_iss] using hck
          simp only at h
          split at h
          · rename_i hr
            exact am_R_ret (v := some (.double v)) hd ⟨rfl, hr⟩ h
          · exact hcov h
        case return_ =>
          rcases st with _ | ⟨v9, st⟩
          rotate_left
          · exact hcov h
          obtain rfl : w = 1 := by simpa [am_ck, am_isp, am_iss] using hck
          simp only at h
          split at h
          · rename_i hr
            exact am_R_ret (v := none) hd ⟨rfl, hr⟩ h
          · exact hcov h
        case new idx =>
          rcases st with _ | ⟨v9, st⟩
          rotate_left
          · exact hcov h
          simp only [am_ck, Bool.and_eq_true, decide_eq_true_eq, List.any_eq_true] at hck
          obtain ⟨hx, rfl, rfl, hh, hRX, h6, h90, ⟨q, hq1, hq2⟩, d3, d4, d6, d9⟩ := hck
          cases n with
          | zero => exact hcov h
          | succ n => exact am_R_new (by omega) hx hh hRX h6 h90 ⟨q.2, by rw [← hq2]; exact hq1⟩ hd d3 d4 d6 d9 h
        case invokestatic idx =>
          have hw3 : w = 3 := by
            unfold am_ck at hck
            simp only [Bool.and_eq_true, decide_eq_true_eq] at hck
            exact hck.1
          subst hw3
          have hck2 := hck
          unfold am_ck at hck2
          simp only [Bool.and_eq_true, decide_eq_true_eq] at hck2
          replace hck2 := hck2.2
          by_cases c0 : x = 200
          · subst c0
            rcases st with _ | ⟨v2, st⟩
            · exact hcov h
            cases v2
            case long _ => exact hcov h
            case float _ => exact hcov h
            case double _ => exact hcov h
            case null => exact hcov h
            case ref _ => exact hcov h
            case retAddr _ => exact hcov h
            rename_i v2
            rcases st with _ | ⟨v1, st⟩
            · exact hcov h
            cases v1
            case long _ => exact hcov h
            case float _ => exact hcov h
            case double _ => exact hcov h
            case null => exact hcov h
            case ref _ => exact hcov h
            case retAddr _ => exact hcov h
            rename_i v1
            simp only [Bool.and_eq_true, decide_eq_true_eq] at hck2
            simp only at h
            split at h
            · rename_i hc
              exact am_R_min (w := fun _ => True) hd hck2.1 am_wmin hck2.2.1 hck2.2.2 (Nat.le_of_ble_eq_true hc) (ih _ _ _ _ _ _ hok' h)
            · exact hcov h
          by_cases c1 : x = 201
          · subst c1
            rcases st with _ | ⟨v2, st⟩
            · exact hcov h
            cases v2
            case long _ => exact hcov h
            case float _ => exact hcov h
            case double _ => exact hcov h
            case null => exact hcov h
            case ref _ => exact hcov h
            case retAddr _ => exact hcov h
            rename_i v2
            rcases st with _ | ⟨v1, st⟩
            · exact hcov h
            cases v1
            case long _ => exact hcov h
            case float _ => exact hcov h
            case double _ => exact hcov h
            case null => exact hcov h
            case ref _ => exact hcov h
            case retAddr _ => exact hcov h
            rename_i v1
            simp only [Bool.and_eq_true, decide_eq_true_eq] at hck2
            simp only at h
            split at h
            · rename_i hc
              exact am_R_max hd hck2.1 am_wmax hck2.2.1 hck2.2.2 (Nat.le_of_ble_eq_true hc) (ih _ _ _ _ _ _ hok' h)
            · exact hcov h
          by_cases c2 : x = 202
          · subst c2
            rcases st with _ | ⟨nn, st⟩
            · exact hcov h
            cases nn
            case long _ => exact hcov h
            case float _ => exact hcov h
            case double _ => exact hcov h
            case null => exact hcov h
            case ref _ => exact hcov h
            case retAddr _ => exact hcov h
            rename_i nn
            rcases st with _ | ⟨dp, st⟩
            · exact hcov h
            cases dp
            case long _ => exact hcov h
            case float _ => exact hcov h
            case double _ => exact hcov h
            case null => exact hcov h
            case ref _ => exact hcov h
            case retAddr _ => exact hcov h
            rename_i dp
            rcases st with _ | ⟨dd, st⟩
            · exact hcov h
            cases dd
            case int _ => exact hcov h
            case long _ => exact hcov h
            case float _ => exact hcov h
            case double _ => exact hcov h
            case null => exact hcov h
            case retAddr _ => exact hcov h
            rename_i dd
            rcases st with _ | ⟨sp, st⟩
            · exact hcov h
            cases sp
            case long _ => exact hcov h
            case float _ => exact hcov h
            case double _ => exact hcov h
            case null => exact hcov h
            case ref _ => exact hcov h
            case retAddr _ => exact hcov h
            rename_i sp
            rcases st with _ | ⟨oo, st⟩
            · exact hcov h
            cases oo
            case int _ => exact hcov h
            case long _ => exact hcov h
            case float _ => exact hcov h
            case double _ => exact hcov h
            case null => exact hcov h
            case retAddr _ => exact hcov h
            rename_i oo
            simp only [Bool.and_eq_true, decide_eq_true_eq] at hck2
            simp only at h
            split at h
            · rename_i hc
              simp only [Bool.and_eq_true] at hc
              obtain ⟨sk, dk, nk, e1, e2, e3, b1, b2, h3⟩ := h
              exact am_R_copy hd hck2.1 am_wcpy hck2.2.1 hck2.2.2 (Nat.le_of_ble_eq_true hc.1) (Nat.eq_of_beq_eq_true hc.2.1) (Nat.eq_of_beq_eq_true hc.2.2) e1 e2 e3 b1 b2 (ih _ _ _ _ _ _ hok' h3)
            · exact hcov h
          by_cases c3 : x = 203
          · subst c3
            rcases st with _ | ⟨b, st⟩
            · exact hcov h
            cases b
            case int _ => exact hcov h
            case long _ => exact hcov h
            case float _ => exact hcov h
            case null => exact hcov h
            case ref _ => exact hcov h
            case retAddr _ => exact hcov h
            rename_i b
            simp only [Bool.and_eq_true, decide_eq_true_eq] at hck2
            simp only at h
            split at h
            · rename_i hc
              exact am_R_d2l hd hck2.1 am_wd2l hck2.2.1 hck2.2.2 (Nat.le_of_ble_eq_true hc) (ih _ _ _ _ _ _ hok' h)
            · exact hcov h
          split at hck2
          · exact absurd rfl c0
          · exact absurd rfl c1
          · exact absurd rfl c2
          · exact absurd rfl c3
          simp only [Bool.and_eq_true, decide_eq_true_eq] at hck2
          obtain ⟨hx, hl, hst, hcc⟩ := hck2
          simp only at h
          split at h
          rotate_left
          · exact hcov h
          rename_i av r hargs
          split at h
          rotate_left
          · exact hcov h
          rename_i n hcat
          obtain ⟨p0, e1, e2, e3⟩ := am_args_spec _ _ _ hargs
          rw [List.append_nil] at e1
          have hlen : av.length = y := by rw [e1, List.length_reverse, e3]
          rw [← hlen] at hcc
          obtain ⟨g1, g2, g3, g4, g5⟩ := am_ckc_spec hcc
          refine am_R_callS (am_okM_all x hx) hd hl hst g1 g2 g3 g4 g5 e2 e1 (Nat.le_of_ble_eq_true hcat) (am_C_mono h ?_)
          exact fun oc M' hK => by
            match oc, hK with
            | .inl none, hK => exact ih _ _ _ _ _ _ hok' hK
            | .inl (some v), hK => exact ih _ _ _ _ _ _ hok' hK
            | .inr E, hK =>
              cases hh : mt_h t with
              | nil =>
                simp only [hh] at hK
                exact Or.inl ⟨hh, hK⟩
              | cons hx hxs =>
                simp only [hh] at hK
                obtain ⟨hp, e1, e2⟩ := hK
                exact Or.inr ⟨hp, by rw [hh]; exact e1, e2⟩
        case invokevirtual idx =>
          have hw3 : w = 3 := by
            unfold am_ck at hck
            simp only [Bool.and_eq_true, decide_eq_true_eq] at hck
            exact hck.1
          subst hw3
          have hck2 := hck
          unfold am_ck at hck2
          simp only [Bool.and_eq_true, decide_eq_true_eq] at hck2
          replace hck2 := hck2.2
          by_cases c0 : x = 204
          · subst c0
            rcases st with _ | ⟨v, st⟩
            · exact hcov h
            cases v
            case long _ => exact hcov h
            case float _ => exact hcov h
            case double _ => exact hcov h
            case null => exact hcov h
            case ref _ => exact hcov h
            case retAddr _ => exact hcov h
            rename_i v
            rcases st with _ | ⟨a, st⟩
            · exact hcov h
            cases a
            case int _ => exact hcov h
            case long _ => exact hcov h
            case float _ => exact hcov h
            case double _ => exact hcov h
            case null => exact hcov h
            case retAddr _ => exact hcov h
            rename_i a
            simp only [Bool.and_eq_true, decide_eq_true_eq] at hck2
            simp only at h
            split at h
            · rename_i ha
              cases ha
              split at h
              · rename_i hc
                obtain ⟨k, e1, e2, e3⟩ := h
                exact am_R_chr hd hck2.1 hck2.2.1 hck2.2.2 (Nat.le_of_ble_eq_true hc) e1 e2 (ih _ _ _ _ _ _ hok' e3)
              · exact hcov h
            · exact hcov h
          split at hck2
          · exact absurd rfl c0
          simp only [Bool.and_eq_true, decide_eq_true_eq] at hck2
          obtain ⟨hx, hy1, hl, hi, hse, hc5, hcls, hhu, hgu, hcc⟩ := hck2
          simp only at h
          split at h
          rotate_left
          · exact hcov h
          rename_i oo av r hargs
          split at h
          rotate_left
          · exact hcov h
          rename_i n hcat
          simp only [Bool.and_eq_true] at hcat
          obtain ⟨p0, e1, e2, e3⟩ := am_args_spec _ _ _ hargs
          rw [List.append_nil] at e1
          have hlen : av.length = y - 1 := by
            have := congrArg List.length e1
            rw [List.length_reverse, e3, List.length_cons] at this
            omega
          rw [← hlen] at hcc
          obtain ⟨g1, g2, g3, g4, g5⟩ := am_ckc_spec hcc
          refine am_R_callV (am_okM_all x hx) hd hl hi hse g1 (Nat.eq_of_beq_eq_true hcat.2) hc5 hcls hhu g2 g3 g4 g5 e2 e1 (Nat.le_of_ble_eq_true hcat.1) (am_C_mono h ?_)
          have hgi : ∀ k : Nat, (if mt_g (am_mt x) = true then k else k + 1) = k + 1 := fun k => by rw [hgu]; rfl
          exact fun oc M' hK => by
            match oc, hK with
            | .inl none, hK => exact (by unfold am_KK; rw [hgi]; exact ih _ _ _ _ _ _ hok' hK)
            | .inl (some v), hK => exact (by unfold am_KK; rw [hgi]; exact ih _ _ _ _ _ _ hok' hK)
            | .inr E, hK =>
              cases hh : mt_h t with
              | nil =>
                simp only [hh] at hK
                exact Or.inl ⟨hh, hK⟩
              | cons hx hxs =>
                simp only [hh] at hK
                obtain ⟨hp, e1, e2⟩ := hK
                exact Or.inr ⟨hp, by rw [hh]; exact e1, e2⟩
        all_goals exact hcov h
end
section
/-! State, Text, Days and the JDK: blocks of code, written by wip/whole/mk15.py out of what TURN printed of the program -/
def k_J_isNaN_0 : List am_I := [(.dload_n 0, 1, 0, 0, 0), (.dload_n 0, 1, 0, 0, 0), (.dcmp .l, 1, 0, 0, 0), (.ifCond .eq 7, 3, 0, 0, 0), (.iconst 1, 1, 0, 0, 0), (.goto 4, 3, 0, 0, 0)]
set_option maxRecDepth 20000 in
theorem o_J_isNaN_0 : am_okB mt_J_isNaN 0 k_J_isNaN_0 = true := by decide +kernel
theorem g_J_isNaN_0 {L : am_S} {n : Nat} {ls st : List Value} {M : am_M} {Q : am_Q} (h : am_B L mt_J_isNaN k_J_isNaN_0 n 0 ls st M Q) : am_R L mt_J_isNaN n 0 ls st M Q := am_go L mt_J_isNaN (fun h => by cases h) k_J_isNaN_0 n 0 ls st M Q o_J_isNaN_0 h
def k_J_isNaN_10 : List am_I := [(.iconst 0, 1, 0, 0, 0)]
set_option maxRecDepth 20000 in
theorem o_J_isNaN_10 : am_okB mt_J_isNaN 10 k_J_isNaN_10 = true := by decide +kernel
theorem g_J_isNaN_10 {L : am_S} {n : Nat} {ls st : List Value} {M : am_M} {Q : am_Q} (h : am_B L mt_J_isNaN k_J_isNaN_10 n 10 ls st M Q) : am_R L mt_J_isNaN n 10 ls st M Q := am_go L mt_J_isNaN (fun h => by cases h) k_J_isNaN_10 n 10 ls st M Q o_J_isNaN_10 h
def k_J_isNaN_11 : List am_I := [(.ireturn, 1, 0, 0, 0)]
set_option maxRecDepth 20000 in
theorem o_J_isNaN_11 : am_okB mt_J_isNaN 11 k_J_isNaN_11 = true := by decide +kernel
theorem g_J_isNaN_11 {L : am_S} {n : Nat} {ls st : List Value} {M : am_M} {Q : am_Q} (h : am_B L mt_J_isNaN k_J_isNaN_11 n 11 ls st M Q) : am_R L mt_J_isNaN n 11 ls st M Q := am_go L mt_J_isNaN (fun h => by cases h) k_J_isNaN_11 n 11 ls st M Q o_J_isNaN_11 h
def k_J_doubleToLongBits_0 : List am_I := [(.dload_n 0, 1, 0, 0, 0), (.invokestatic 122, 3, 0, 1, 1064), (.ifCond .ne 8, 3, 0, 0, 0), (.dload_n 0, 1, 0, 0, 0), (.invokestatic 134, 3, 203, 1, 1067), (.lreturn, 1, 0, 0, 0)]
set_option maxRecDepth 20000 in
theorem o_J_doubleToLongBits_0 : am_okB mt_J_doubleToLongBits 0 k_J_doubleToLongBits_0 = true := by decide +kernel
theorem g_J_doubleToLongBits_0 {L : am_S} {n : Nat} {ls st : List Value} {M : am_M} {Q : am_Q} (h : am_B L mt_J_doubleToLongBits k_J_doubleToLongBits_0 n 0 ls st M Q) : am_R L mt_J_doubleToLongBits n 0 ls st M Q := am_go L mt_J_doubleToLongBits (fun h => by cases h) k_J_doubleToLongBits_0 n 0 ls st M Q o_J_doubleToLongBits_0 h
def k_J_doubleToLongBits_12 : List am_I := [(.ldc2_w 137, 3, 9221120237041090560, 0, 1070), (.lreturn, 1, 0, 0, 0)]
set_option maxRecDepth 20000 in
theorem o_J_doubleToLongBits_12 : am_okB mt_J_doubleToLongBits 12 k_J_doubleToLongBits_12 = true := by decide +kernel
theorem g_J_doubleToLongBits_12 {L : am_S} {n : Nat} {ls st : List Value} {M : am_M} {Q : am_Q} (h : am_B L mt_J_doubleToLongBits k_J_doubleToLongBits_12 n 12 ls st M Q) : am_R L mt_J_doubleToLongBits n 12 ls st M Q := am_go L mt_J_doubleToLongBits (fun h => by cases h) k_J_doubleToLongBits_12 n 12 ls st M Q o_J_doubleToLongBits_12 h
def k_J_bitCount_0 : List am_I := [(.iload_n 0, 1, 0, 0, 0), (.iload_n 0, 1, 0, 0, 0), (.iconst 1, 1, 0, 0, 0), (.iushr, 1, 0, 0, 0), (.ldc_w 265, 3, 1431655765, 0, 345), (.iand, 1, 0, 0, 0), (.isub, 1, 0, 0, 0), (.istore_n 0, 1, 0, 0, 0), (.iload_n 0, 1, 0, 0, 0), (.ldc_w 266, 3, 858993459, 0, 346), (.iand, 1, 0, 0, 0), (.iload_n 0, 1, 0, 0, 0), (.iconst 2, 1, 0, 0, 0), (.iushr, 1, 0, 0, 0), (.ldc_w 266, 3, 858993459, 0, 346), (.iand, 1, 0, 0, 0), (.iadd, 1, 0, 0, 0), (.istore_n 0, 1, 0, 0, 0), (.iload_n 0, 1, 0, 0, 0), (.iload_n 0, 1, 0, 0, 0), (.iconst 4, 1, 0, 0, 0), (.iushr, 1, 0, 0, 0), (.iadd, 1, 0, 0, 0), (.ldc_w 267, 3, 252645135, 0, 347), (.iand, 1, 0, 0, 0), (.istore_n 0, 1, 0, 0, 0), (.iload_n 0, 1, 0, 0, 0), (.iload_n 0, 1, 0, 0, 0), (.bipush 8, 2, 0, 0, 0), (.iushr, 1, 0, 0, 0), (.iadd, 1, 0, 0, 0), (.istore_n 0, 1, 0, 0, 0), (.iload_n 0, 1, 0, 0, 0), (.iload_n 0, 1, 0, 0, 0), (.bipush 16, 2, 0, 0, 0), (.iushr, 1, 0, 0, 0), (.iadd, 1, 0, 0, 0), (.istore_n 0, 1, 0, 0, 0), (.iload_n 0, 1, 0, 0, 0), (.bipush 63, 2, 0, 0, 0), (.iand, 1, 0, 0, 0), (.ireturn, 1, 0, 0, 0)]
set_option maxRecDepth 20000 in
theorem o_J_bitCount_0 : am_okB mt_J_bitCount 0 k_J_bitCount_0 = true := by decide +kernel
theorem g_J_bitCount_0 {L : am_S} {n : Nat} {ls st : List Value} {M : am_M} {Q : am_Q} (h : am_B L mt_J_bitCount k_J_bitCount_0 n 0 ls st M Q) : am_R L mt_J_bitCount n 0 ls st M Q := am_go L mt_J_bitCount (fun h => by cases h) k_J_bitCount_0 n 0 ls st M Q o_J_bitCount_0 h
def k_S_takeFrom_0 : List am_I := [(.aload_n 1, 1, 0, 0, 0), (.getfield 9, 3, 1, 0, 98), (.iconst 0, 1, 0, 0, 0), (.aload_n 0, 1, 0, 0, 0), (.getfield 9, 3, 1, 0, 98), (.iconst 0, 1, 0, 0, 0), (.bipush 105, 2, 0, 0, 0), (.invokestatic 15, 3, 202, 5, 278), (.return_, 1, 0, 0, 0)]
set_option maxRecDepth 20000 in
theorem o_S_takeFrom_0 : am_okB mt_S_takeFrom 0 k_S_takeFrom_0 = true := by decide +kernel
theorem g_S_takeFrom_0 {L : am_S} {n : Nat} {ls st : List Value} {M : am_M} {Q : am_Q} (h : am_B L mt_S_takeFrom k_S_takeFrom_0 n 0 ls st M Q) : am_R L mt_S_takeFrom n 0 ls st M Q := am_go L mt_S_takeFrom (fun h => by cases h) k_S_takeFrom_0 n 0 ls st M Q o_S_takeFrom_0 h
def k_S_hourOfDay_0 : List am_I := [(.aload_n 0, 1, 0, 0, 0), (.getfield 9, 3, 1, 0, 98), (.bipush 52, 2, 0, 0, 0), (.iaload, 1, 0, 0, 0), (.bipush 24, 2, 0, 0, 0), (.irem, 1, 0, 0, 0), (.ireturn, 1, 0, 0, 0)]
set_option maxRecDepth 20000 in
theorem o_S_hourOfDay_0 : am_okB mt_S_hourOfDay 0 k_S_hourOfDay_0 = true := by decide +kernel
theorem g_S_hourOfDay_0 {L : am_S} {n : Nat} {ls st : List Value} {M : am_M} {Q : am_Q} (h : am_B L mt_S_hourOfDay k_S_hourOfDay_0 n 0 ls st M Q) : am_R L mt_S_hourOfDay n 0 ls st M Q := am_go L mt_S_hourOfDay (fun h => by cases h) k_S_hourOfDay_0 n 0 ls st M Q o_S_hourOfDay_0 h
def k_S_limitIn_0 : List am_I := [(.iload_n 1, 1, 0, 0, 0), (.invokestatic 21, 3, 22, 1, 305), (.ifCond .eq 26, 3, 0, 0, 0), (.aload_n 0, 1, 0, 0, 0), (.getfield 9, 3, 1, 0, 98), (.bipush 10, 2, 0, 0, 0), (.iload_n 1, 1, 0, 0, 0), (.iadd, 1, 0, 0, 0), (.iaload, 1, 0, 0, 0), (.aload_n 0, 1, 0, 0, 0), (.getfield 9, 3, 1, 0, 98), (.bipush 51, 2, 0, 0, 0), (.iaload, 1, 0, 0, 0), (.imul, 1, 0, 0, 0), (.bipush 100, 2, 0, 0, 0), (.idiv, 1, 0, 0, 0), (.goto 4, 3, 0, 0, 0)]
set_option maxRecDepth 20000 in
theorem o_S_limitIn_0 : am_okB mt_S_limitIn 0 k_S_limitIn_0 = true := by decide +kernel
theorem g_S_limitIn_0 {L : am_S} {n : Nat} {ls st : List Value} {M : am_M} {Q : am_Q} (h : am_B L mt_S_limitIn k_S_limitIn_0 n 0 ls st M Q) : am_R L mt_S_limitIn n 0 ls st M Q := am_go L mt_S_limitIn (fun h => by cases h) k_S_limitIn_0 n 0 ls st M Q o_S_limitIn_0 h
def k_S_limitIn_30 : List am_I := [(.iconst 0, 1, 0, 0, 0)]
set_option maxRecDepth 20000 in
theorem o_S_limitIn_30 : am_okB mt_S_limitIn 30 k_S_limitIn_30 = true := by decide +kernel
theorem g_S_limitIn_30 {L : am_S} {n : Nat} {ls st : List Value} {M : am_M} {Q : am_Q} (h : am_B L mt_S_limitIn k_S_limitIn_30 n 30 ls st M Q) : am_R L mt_S_limitIn n 30 ls st M Q := am_go L mt_S_limitIn (fun h => by cases h) k_S_limitIn_30 n 30 ls st M Q o_S_limitIn_30 h
def k_S_limitIn_31 : List am_I := [(.ireturn, 1, 0, 0, 0)]
set_option maxRecDepth 20000 in
theorem o_S_limitIn_31 : am_okB mt_S_limitIn 31 k_S_limitIn_31 = true := by decide +kernel
theorem g_S_limitIn_31 {L : am_S} {n : Nat} {ls st : List Value} {M : am_M} {Q : am_Q} (h : am_B L mt_S_limitIn k_S_limitIn_31 n 31 ls st M Q) : am_R L mt_S_limitIn n 31 ls st M Q := am_go L mt_S_limitIn (fun h => by cases h) k_S_limitIn_31 n 31 ls st M Q o_S_limitIn_31 h
def k_S_pipesLaid_0 : List am_I := [(.iconst 0, 1, 0, 0, 0), (.istore_n 1, 1, 0, 0, 0), (.iconst 0, 1, 0, 0, 0), (.istore_n 2, 1, 0, 0, 0)]
set_option maxRecDepth 20000 in
theorem o_S_pipesLaid_0 : am_okB mt_S_pipesLaid 0 k_S_pipesLaid_0 = true := by decide +kernel
theorem g_S_pipesLaid_0 {L : am_S} {n : Nat} {ls st : List Value} {M : am_M} {Q : am_Q} (h : am_B L mt_S_pipesLaid k_S_pipesLaid_0 n 0 ls st M Q) : am_R L mt_S_pipesLaid n 0 ls st M Q := am_go L mt_S_pipesLaid (fun h => by cases h) k_S_pipesLaid_0 n 0 ls st M Q o_S_pipesLaid_0 h
def k_S_pipesLaid_4 : List am_I := [(.iload_n 2, 1, 0, 0, 0), (.iconst 5, 1, 0, 0, 0), (.if_icmp .ge 23, 3, 0, 0, 0), (.iload_n 1, 1, 0, 0, 0), (.aload_n 0, 1, 0, 0, 0), (.getfield 9, 3, 1, 0, 98), (.iconst 5, 1, 0, 0, 0), (.iload_n 2, 1, 0, 0, 0), (.iadd, 1, 0, 0, 0), (.iaload, 1, 0, 0, 0), (.invokestatic 25, 3, 2, 1, 342), (.iadd, 1, 0, 0, 0), (.istore_n 1, 1, 0, 0, 0), (.iinc 2 1, 3, 0, 0, 0), (.goto (-22), 3, 0, 0, 0)]
set_option maxRecDepth 20000 in
theorem o_S_pipesLaid_4 : am_okB mt_S_pipesLaid 4 k_S_pipesLaid_4 = true := by decide +kernel
theorem g_S_pipesLaid_4 {L : am_S} {n : Nat} {ls st : List Value} {M : am_M} {Q : am_Q} (h : am_B L mt_S_pipesLaid k_S_pipesLaid_4 n 4 ls st M Q) : am_R L mt_S_pipesLaid n 4 ls st M Q := am_go L mt_S_pipesLaid (fun h => by cases h) k_S_pipesLaid_4 n 4 ls st M Q o_S_pipesLaid_4 h
def k_S_pipesLaid_29 : List am_I := [(.iload_n 1, 1, 0, 0, 0), (.iconst 2, 1, 0, 0, 0), (.idiv, 1, 0, 0, 0), (.ireturn, 1, 0, 0, 0)]
set_option maxRecDepth 20000 in
theorem o_S_pipesLaid_29 : am_okB mt_S_pipesLaid 29 k_S_pipesLaid_29 = true := by decide +kernel
theorem g_S_pipesLaid_29 {L : am_S} {n : Nat} {ls st : List Value} {M : am_M} {Q : am_Q} (h : am_B L mt_S_pipesLaid k_S_pipesLaid_29 n 29 ls st M Q) : am_R L mt_S_pipesLaid n 29 ls st M Q := am_go L mt_S_pipesLaid (fun h => by cases h) k_S_pipesLaid_29 n 29 ls st M Q o_S_pipesLaid_29 h
def k_S_waterInAll_0 : List am_I := [(.iconst 0, 1, 0, 0, 0), (.istore_n 1, 1, 0, 0, 0), (.iconst 0, 1, 0, 0, 0), (.istore_n 2, 1, 0, 0, 0)]
set_option maxRecDepth 20000 in
theorem o_S_waterInAll_0 : am_okB mt_S_waterInAll 0 k_S_waterInAll_0 = true := by decide +kernel
theorem g_S_waterInAll_0 {L : am_S} {n : Nat} {ls st : List Value} {M : am_M} {Q : am_Q} (h : am_B L mt_S_waterInAll k_S_waterInAll_0 n 0 ls st M Q) : am_R L mt_S_waterInAll n 0 ls st M Q := am_go L mt_S_waterInAll (fun h => by cases h) k_S_waterInAll_0 n 0 ls st M Q o_S_waterInAll_0 h
def k_S_waterInAll_4 : List am_I := [(.iload_n 2, 1, 0, 0, 0), (.iconst 5, 1, 0, 0, 0), (.if_icmp .ge 21, 3, 0, 0, 0), (.iload_n 1, 1, 0, 0, 0), (.aload_n 0, 1, 0, 0, 0), (.getfield 9, 3, 1, 0, 98), (.bipush 10, 2, 0, 0, 0), (.iload_n 2, 1, 0, 0, 0), (.iadd, 1, 0, 0, 0), (.iaload, 1, 0, 0, 0), (.iadd, 1, 0, 0, 0), (.istore_n 1, 1, 0, 0, 0), (.iinc 2 1, 3, 0, 0, 0), (.goto (-20), 3, 0, 0, 0)]
set_option maxRecDepth 20000 in
theorem o_S_waterInAll_4 : am_okB mt_S_waterInAll 4 k_S_waterInAll_4 = true := by decide +kernel
theorem g_S_waterInAll_4 {L : am_S} {n : Nat} {ls st : List Value} {M : am_M} {Q : am_Q} (h : am_B L mt_S_waterInAll k_S_waterInAll_4 n 4 ls st M Q) : am_R L mt_S_waterInAll n 4 ls st M Q := am_go L mt_S_waterInAll (fun h => by cases h) k_S_waterInAll_4 n 4 ls st M Q o_S_waterInAll_4 h
def k_S_waterInAll_27 : List am_I := [(.iload_n 1, 1, 0, 0, 0), (.ireturn, 1, 0, 0, 0)]
set_option maxRecDepth 20000 in
theorem o_S_waterInAll_27 : am_okB mt_S_waterInAll 27 k_S_waterInAll_27 = true := by decide +kernel
theorem g_S_waterInAll_27 {L : am_S} {n : Nat} {ls st : List Value} {M : am_M} {Q : am_Q} (h : am_B L mt_S_waterInAll k_S_waterInAll_27 n 27 ls st M Q) : am_R L mt_S_waterInAll n 27 ls st M Q := am_go L mt_S_waterInAll (fun h => by cases h) k_S_waterInAll_27 n 27 ls st M Q o_S_waterInAll_27 h
def k_S_vatProperty_0 : List am_I := [(.iload_n 1, 1, 0, 0, 0), (.invokestatic 21, 3, 22, 1, 305), (.ifCond .ne 5, 3, 0, 0, 0), (.iconst 0, 1, 0, 0, 0), (.ireturn, 1, 0, 0, 0)]
set_option maxRecDepth 20000 in
theorem o_S_vatProperty_0 : am_okB mt_S_vatProperty 0 k_S_vatProperty_0 = true := by decide +kernel
theorem g_S_vatProperty_0 {L : am_S} {n : Nat} {ls st : List Value} {M : am_M} {Q : am_Q} (h : am_B L mt_S_vatProperty k_S_vatProperty_0 n 0 ls st M Q) : am_R L mt_S_vatProperty n 0 ls st M Q := am_go L mt_S_vatProperty (fun h => by cases h) k_S_vatProperty_0 n 0 ls st M Q o_S_vatProperty_0 h
def k_S_vatProperty_9 : List am_I := [(.iload_n 2, 1, 0, 0, 0), (.tableswitch 110 0 8 #[50, 59, 69, 69, 69, 85, 85, 85, 101], 50, 0, 0, 0)]
set_option maxRecDepth 20000 in
theorem o_S_vatProperty_9 : am_okB mt_S_vatProperty 9 k_S_vatProperty_9 = true := by decide +kernel
theorem g_S_vatProperty_9 {L : am_S} {n : Nat} {ls st : List Value} {M : am_M} {Q : am_Q} (h : am_B L mt_S_vatProperty k_S_vatProperty_9 n 9 ls st M Q) : am_R L mt_S_vatProperty n 9 ls st M Q := am_go L mt_S_vatProperty (fun h => by cases h) k_S_vatProperty_9 n 9 ls st M Q o_S_vatProperty_9 h
def k_S_vatProperty_60 : List am_I := [(.aload_n 0, 1, 0, 0, 0), (.getfield 9, 3, 1, 0, 98), (.iconst 0, 1, 0, 0, 0), (.iload_n 1, 1, 0, 0, 0), (.iadd, 1, 0, 0, 0), (.iaload, 1, 0, 0, 0), (.ireturn, 1, 0, 0, 0)]
set_option maxRecDepth 20000 in
theorem o_S_vatProperty_60 : am_okB mt_S_vatProperty 60 k_S_vatProperty_60 = true := by decide +kernel
theorem g_S_vatProperty_60 {L : am_S} {n : Nat} {ls st : List Value} {M : am_M} {Q : am_Q} (h : am_B L mt_S_vatProperty k_S_vatProperty_60 n 60 ls st M Q) : am_R L mt_S_vatProperty n 60 ls st M Q := am_go L mt_S_vatProperty (fun h => by cases h) k_S_vatProperty_60 n 60 ls st M Q o_S_vatProperty_60 h
def k_S_vatProperty_69 : List am_I := [(.aload_n 0, 1, 0, 0, 0), (.getfield 9, 3, 1, 0, 98), (.bipush 10, 2, 0, 0, 0), (.iload_n 1, 1, 0, 0, 0), (.iadd, 1, 0, 0, 0), (.iaload, 1, 0, 0, 0), (.ireturn, 1, 0, 0, 0)]
set_option maxRecDepth 20000 in
theorem o_S_vatProperty_69 : am_okB mt_S_vatProperty 69 k_S_vatProperty_69 = true := by decide +kernel
theorem g_S_vatProperty_69 {L : am_S} {n : Nat} {ls st : List Value} {M : am_M} {Q : am_Q} (h : am_B L mt_S_vatProperty k_S_vatProperty_69 n 69 ls st M Q) : am_R L mt_S_vatProperty n 69 ls st M Q := am_go L mt_S_vatProperty (fun h => by cases h) k_S_vatProperty_69 n 69 ls st M Q o_S_vatProperty_69 h
def k_S_vatProperty_79 : List am_I := [(.aload_n 0, 1, 0, 0, 0), (.getfield 9, 3, 1, 0, 98), (.bipush 15, 2, 0, 0, 0), (.iload_n 1, 1, 0, 0, 0), (.iconst 3, 1, 0, 0, 0), (.imul, 1, 0, 0, 0), (.iadd, 1, 0, 0, 0), (.iload_n 2, 1, 0, 0, 0), (.iadd, 1, 0, 0, 0), (.iconst 2, 1, 0, 0, 0), (.isub, 1, 0, 0, 0), (.iaload, 1, 0, 0, 0), (.ireturn, 1, 0, 0, 0)]
set_option maxRecDepth 20000 in
theorem o_S_vatProperty_79 : am_okB mt_S_vatProperty 79 k_S_vatProperty_79 = true := by decide +kernel
theorem g_S_vatProperty_79 {L : am_S} {n : Nat} {ls st : List Value} {M : am_M} {Q : am_Q} (h : am_B L mt_S_vatProperty k_S_vatProperty_79 n 79 ls st M Q) : am_R L mt_S_vatProperty n 79 ls st M Q := am_go L mt_S_vatProperty (fun h => by cases h) k_S_vatProperty_79 n 79 ls st M Q o_S_vatProperty_79 h
def k_S_vatProperty_95 : List am_I := [(.aload_n 0, 1, 0, 0, 0), (.getfield 9, 3, 1, 0, 98), (.bipush 30, 2, 0, 0, 0), (.iload_n 1, 1, 0, 0, 0), (.iconst 3, 1, 0, 0, 0), (.imul, 1, 0, 0, 0), (.iadd, 1, 0, 0, 0), (.iload_n 2, 1, 0, 0, 0), (.iadd, 1, 0, 0, 0), (.iconst 5, 1, 0, 0, 0), (.isub, 1, 0, 0, 0), (.iaload, 1, 0, 0, 0), (.ireturn, 1, 0, 0, 0)]
set_option maxRecDepth 20000 in
theorem o_S_vatProperty_95 : am_okB mt_S_vatProperty 95 k_S_vatProperty_95 = true := by decide +kernel
theorem g_S_vatProperty_95 {L : am_S} {n : Nat} {ls st : List Value} {M : am_M} {Q : am_Q} (h : am_B L mt_S_vatProperty k_S_vatProperty_95 n 95 ls st M Q) : am_R L mt_S_vatProperty n 95 ls st M Q := am_go L mt_S_vatProperty (fun h => by cases h) k_S_vatProperty_95 n 95 ls st M Q o_S_vatProperty_95 h
def k_S_vatProperty_111 : List am_I := [(.aload_n 0, 1, 0, 0, 0), (.getfield 9, 3, 1, 0, 98), (.iconst 5, 1, 0, 0, 0), (.iload_n 1, 1, 0, 0, 0), (.iadd, 1, 0, 0, 0), (.iaload, 1, 0, 0, 0), (.ireturn, 1, 0, 0, 0)]
set_option maxRecDepth 20000 in
theorem o_S_vatProperty_111 : am_okB mt_S_vatProperty 111 k_S_vatProperty_111 = true := by decide +kernel
theorem g_S_vatProperty_111 {L : am_S} {n : Nat} {ls st : List Value} {M : am_M} {Q : am_Q} (h : am_B L mt_S_vatProperty k_S_vatProperty_111 n 111 ls st M Q) : am_R L mt_S_vatProperty n 111 ls st M Q := am_go L mt_S_vatProperty (fun h => by cases h) k_S_vatProperty_111 n 111 ls st M Q o_S_vatProperty_111 h
def k_S_vatProperty_120 : List am_I := [(.aload_n 0, 1, 0, 0, 0), (.iload_n 1, 1, 0, 0, 0), (.invokevirtual 31, 3, 5, 2, 319), (.ireturn, 1, 0, 0, 0)]
set_option maxRecDepth 20000 in
theorem o_S_vatProperty_120 : am_okB mt_S_vatProperty 120 k_S_vatProperty_120 = true := by decide +kernel
theorem g_S_vatProperty_120 {L : am_S} {n : Nat} {ls st : List Value} {M : am_M} {Q : am_Q} (h : am_B L mt_S_vatProperty k_S_vatProperty_120 n 120 ls st M Q) : am_R L mt_S_vatProperty n 120 ls st M Q := am_go L mt_S_vatProperty (fun h => by cases h) k_S_vatProperty_120 n 120 ls st M Q o_S_vatProperty_120 h
def k_S_valveProperty_0 : List am_I := [(.iload_n 1, 1, 0, 0, 0), (.ifCond .lt 9, 3, 0, 0, 0), (.iload_n 1, 1, 0, 0, 0), (.bipush 8, 2, 0, 0, 0), (.if_icmp .lt 5, 3, 0, 0, 0)]
set_option maxRecDepth 20000 in
theorem o_S_valveProperty_0 : am_okB mt_S_valveProperty 0 k_S_valveProperty_0 = true := by decide +kernel
theorem g_S_valveProperty_0 {L : am_S} {n : Nat} {ls st : List Value} {M : am_M} {Q : am_Q} (h : am_B L mt_S_valveProperty k_S_valveProperty_0 n 0 ls st M Q) : am_R L mt_S_valveProperty n 0 ls st M Q := am_go L mt_S_valveProperty (fun h => by cases h) k_S_valveProperty_0 n 0 ls st M Q o_S_valveProperty_0 h
def k_S_valveProperty_10 : List am_I := [(.iconst 0, 1, 0, 0, 0), (.ireturn, 1, 0, 0, 0)]
set_option maxRecDepth 20000 in
theorem o_S_valveProperty_10 : am_okB mt_S_valveProperty 10 k_S_valveProperty_10 = true := by decide +kernel
theorem g_S_valveProperty_10 {L : am_S} {n : Nat} {ls st : List Value} {M : am_M} {Q : am_Q} (h : am_B L mt_S_valveProperty k_S_valveProperty_10 n 10 ls st M Q) : am_R L mt_S_valveProperty n 10 ls st M Q := am_go L mt_S_valveProperty (fun h => by cases h) k_S_valveProperty_10 n 10 ls st M Q o_S_valveProperty_10 h
def k_S_valveProperty_12 : List am_I := [(.bipush 57, 2, 0, 0, 0), (.iload_n 1, 1, 0, 0, 0), (.bipush 6, 2, 0, 0, 0), (.imul, 1, 0, 0, 0), (.iadd, 1, 0, 0, 0), (.istore_n 3, 1, 0, 0, 0), (.iload_n 2, 1, 0, 0, 0), (.tableswitch 102 0 5 #[39, 48, 57, 66, 75, 84], 39, 0, 0, 0)]
set_option maxRecDepth 20000 in
theorem o_S_valveProperty_12 : am_okB mt_S_valveProperty 12 k_S_valveProperty_12 = true := by decide +kernel
theorem g_S_valveProperty_12 {L : am_S} {n : Nat} {ls st : List Value} {M : am_M} {Q : am_Q} (h : am_B L mt_S_valveProperty k_S_valveProperty_12 n 12 ls st M Q) : am_R L mt_S_valveProperty n 12 ls st M Q := am_go L mt_S_valveProperty (fun h => by cases h) k_S_valveProperty_12 n 12 ls st M Q o_S_valveProperty_12 h
def k_S_valveProperty_60 : List am_I := [(.aload_n 0, 1, 0, 0, 0), (.getfield 9, 3, 1, 0, 98), (.iload_n 3, 1, 0, 0, 0), (.iconst 0, 1, 0, 0, 0), (.iadd, 1, 0, 0, 0), (.iaload, 1, 0, 0, 0), (.ireturn, 1, 0, 0, 0)]
set_option maxRecDepth 20000 in
theorem o_S_valveProperty_60 : am_okB mt_S_valveProperty 60 k_S_valveProperty_60 = true := by decide +kernel
theorem g_S_valveProperty_60 {L : am_S} {n : Nat} {ls st : List Value} {M : am_M} {Q : am_Q} (h : am_B L mt_S_valveProperty k_S_valveProperty_60 n 60 ls st M Q) : am_R L mt_S_valveProperty n 60 ls st M Q := am_go L mt_S_valveProperty (fun h => by cases h) k_S_valveProperty_60 n 60 ls st M Q o_S_valveProperty_60 h
def k_S_valveProperty_69 : List am_I := [(.aload_n 0, 1, 0, 0, 0), (.getfield 9, 3, 1, 0, 98), (.iload_n 3, 1, 0, 0, 0), (.iconst 1, 1, 0, 0, 0), (.iadd, 1, 0, 0, 0), (.iaload, 1, 0, 0, 0), (.ireturn, 1, 0, 0, 0)]
set_option maxRecDepth 20000 in
theorem o_S_valveProperty_69 : am_okB mt_S_valveProperty 69 k_S_valveProperty_69 = true := by decide +kernel
theorem g_S_valveProperty_69 {L : am_S} {n : Nat} {ls st : List Value} {M : am_M} {Q : am_Q} (h : am_B L mt_S_valveProperty k_S_valveProperty_69 n 69 ls st M Q) : am_R L mt_S_valveProperty n 69 ls st M Q := am_go L mt_S_valveProperty (fun h => by cases h) k_S_valveProperty_69 n 69 ls st M Q o_S_valveProperty_69 h
def k_S_valveProperty_78 : List am_I := [(.aload_n 0, 1, 0, 0, 0), (.getfield 9, 3, 1, 0, 98), (.iload_n 3, 1, 0, 0, 0), (.iconst 2, 1, 0, 0, 0), (.iadd, 1, 0, 0, 0), (.iaload, 1, 0, 0, 0), (.ireturn, 1, 0, 0, 0)]
set_option maxRecDepth 20000 in
theorem o_S_valveProperty_78 : am_okB mt_S_valveProperty 78 k_S_valveProperty_78 = true := by decide +kernel
theorem g_S_valveProperty_78 {L : am_S} {n : Nat} {ls st : List Value} {M : am_M} {Q : am_Q} (h : am_B L mt_S_valveProperty k_S_valveProperty_78 n 78 ls st M Q) : am_R L mt_S_valveProperty n 78 ls st M Q := am_go L mt_S_valveProperty (fun h => by cases h) k_S_valveProperty_78 n 78 ls st M Q o_S_valveProperty_78 h
def k_S_valveProperty_87 : List am_I := [(.aload_n 0, 1, 0, 0, 0), (.getfield 9, 3, 1, 0, 98), (.iload_n 3, 1, 0, 0, 0), (.iconst 3, 1, 0, 0, 0), (.iadd, 1, 0, 0, 0), (.iaload, 1, 0, 0, 0), (.ireturn, 1, 0, 0, 0)]
set_option maxRecDepth 20000 in
theorem o_S_valveProperty_87 : am_okB mt_S_valveProperty 87 k_S_valveProperty_87 = true := by decide +kernel
theorem g_S_valveProperty_87 {L : am_S} {n : Nat} {ls st : List Value} {M : am_M} {Q : am_Q} (h : am_B L mt_S_valveProperty k_S_valveProperty_87 n 87 ls st M Q) : am_R L mt_S_valveProperty n 87 ls st M Q := am_go L mt_S_valveProperty (fun h => by cases h) k_S_valveProperty_87 n 87 ls st M Q o_S_valveProperty_87 h
def k_S_valveProperty_96 : List am_I := [(.aload_n 0, 1, 0, 0, 0), (.getfield 9, 3, 1, 0, 98), (.iload_n 3, 1, 0, 0, 0), (.iconst 4, 1, 0, 0, 0), (.iadd, 1, 0, 0, 0), (.iaload, 1, 0, 0, 0), (.ireturn, 1, 0, 0, 0)]
set_option maxRecDepth 20000 in
theorem o_S_valveProperty_96 : am_okB mt_S_valveProperty 96 k_S_valveProperty_96 = true := by decide +kernel
theorem g_S_valveProperty_96 {L : am_S} {n : Nat} {ls st : List Value} {M : am_M} {Q : am_Q} (h : am_B L mt_S_valveProperty k_S_valveProperty_96 n 96 ls st M Q) : am_R L mt_S_valveProperty n 96 ls st M Q := am_go L mt_S_valveProperty (fun h => by cases h) k_S_valveProperty_96 n 96 ls st M Q o_S_valveProperty_96 h
def k_S_valveProperty_105 : List am_I := [(.aload_n 0, 1, 0, 0, 0), (.iload_n 3, 1, 0, 0, 0), (.aload_n 0, 1, 0, 0, 0), (.invokevirtual 34, 3, 4, 1, 293), (.invokevirtual 38, 3, 19, 3, 297), (.ifCond .eq 7, 3, 0, 0, 0), (.iconst 1, 1, 0, 0, 0), (.goto 4, 3, 0, 0, 0)]
set_option maxRecDepth 20000 in
theorem o_S_valveProperty_105 : am_okB mt_S_valveProperty 105 k_S_valveProperty_105 = true := by decide +kernel
theorem g_S_valveProperty_105 {L : am_S} {n : Nat} {ls st : List Value} {M : am_M} {Q : am_Q} (h : am_B L mt_S_valveProperty k_S_valveProperty_105 n 105 ls st M Q) : am_R L mt_S_valveProperty n 105 ls st M Q := am_go L mt_S_valveProperty (fun h => by cases h) k_S_valveProperty_105 n 105 ls st M Q o_S_valveProperty_105 h
def k_S_valveProperty_121 : List am_I := [(.iconst 0, 1, 0, 0, 0)]
set_option maxRecDepth 20000 in
theorem o_S_valveProperty_121 : am_okB mt_S_valveProperty 121 k_S_valveProperty_121 = true := by decide +kernel
theorem g_S_valveProperty_121 {L : am_S} {n : Nat} {ls st : List Value} {M : am_M} {Q : am_Q} (h : am_B L mt_S_valveProperty k_S_valveProperty_121 n 121 ls st M Q) : am_R L mt_S_valveProperty n 121 ls st M Q := am_go L mt_S_valveProperty (fun h => by cases h) k_S_valveProperty_121 n 121 ls st M Q o_S_valveProperty_121 h
def k_S_valveProperty_122 : List am_I := [(.ireturn, 1, 0, 0, 0)]
set_option maxRecDepth 20000 in
theorem o_S_valveProperty_122 : am_okB mt_S_valveProperty 122 k_S_valveProperty_122 = true := by decide +kernel
theorem g_S_valveProperty_122 {L : am_S} {n : Nat} {ls st : List Value} {M : am_M} {Q : am_Q} (h : am_B L mt_S_valveProperty k_S_valveProperty_122 n 122 ls st M Q) : am_R L mt_S_valveProperty n 122 ls st M Q := am_go L mt_S_valveProperty (fun h => by cases h) k_S_valveProperty_122 n 122 ls st M Q o_S_valveProperty_122 h
def k_S_valveProperty_123 : List am_I := [(.aload_n 0, 1, 0, 0, 0), (.getfield 9, 3, 1, 0, 98), (.iload_n 3, 1, 0, 0, 0), (.iconst 5, 1, 0, 0, 0), (.iadd, 1, 0, 0, 0), (.iaload, 1, 0, 0, 0), (.ireturn, 1, 0, 0, 0)]
set_option maxRecDepth 20000 in
theorem o_S_valveProperty_123 : am_okB mt_S_valveProperty 123 k_S_valveProperty_123 = true := by decide +kernel
theorem g_S_valveProperty_123 {L : am_S} {n : Nat} {ls st : List Value} {M : am_M} {Q : am_Q} (h : am_B L mt_S_valveProperty k_S_valveProperty_123 n 123 ls st M Q) : am_R L mt_S_valveProperty n 123 ls st M Q := am_go L mt_S_valveProperty (fun h => by cases h) k_S_valveProperty_123 n 123 ls st M Q o_S_valveProperty_123 h
def k_S_dyeProperty_0 : List am_I := [(.iload_n 1, 1, 0, 0, 0), (.ifCond .lt 8, 3, 0, 0, 0), (.iload_n 1, 1, 0, 0, 0), (.iconst 3, 1, 0, 0, 0), (.if_icmp .lt 5, 3, 0, 0, 0)]
set_option maxRecDepth 20000 in
theorem o_S_dyeProperty_0 : am_okB mt_S_dyeProperty 0 k_S_dyeProperty_0 = true := by decide +kernel
theorem g_S_dyeProperty_0 {L : am_S} {n : Nat} {ls st : List Value} {M : am_M} {Q : am_Q} (h : am_B L mt_S_dyeProperty k_S_dyeProperty_0 n 0 ls st M Q) : am_R L mt_S_dyeProperty n 0 ls st M Q := am_go L mt_S_dyeProperty (fun h => by cases h) k_S_dyeProperty_0 n 0 ls st M Q o_S_dyeProperty_0 h
def k_S_dyeProperty_9 : List am_I := [(.iconst 0, 1, 0, 0, 0), (.ireturn, 1, 0, 0, 0)]
set_option maxRecDepth 20000 in
theorem o_S_dyeProperty_9 : am_okB mt_S_dyeProperty 9 k_S_dyeProperty_9 = true := by decide +kernel
theorem g_S_dyeProperty_9 {L : am_S} {n : Nat} {ls st : List Value} {M : am_M} {Q : am_Q} (h : am_B L mt_S_dyeProperty k_S_dyeProperty_9 n 9 ls st M Q) : am_R L mt_S_dyeProperty n 9 ls st M Q := am_go L mt_S_dyeProperty (fun h => by cases h) k_S_dyeProperty_9 n 9 ls st M Q o_S_dyeProperty_9 h
def k_S_dyeProperty_11 : List am_I := [(.iload_n 2, 1, 0, 0, 0), (.tableswitch 70 0 3 #[32, 42, 51, 60], 32, 0, 0, 0)]
set_option maxRecDepth 20000 in
theorem o_S_dyeProperty_11 : am_okB mt_S_dyeProperty 11 k_S_dyeProperty_11 = true := by decide +kernel
theorem g_S_dyeProperty_11 {L : am_S} {n : Nat} {ls st : List Value} {M : am_M} {Q : am_Q} (h : am_B L mt_S_dyeProperty k_S_dyeProperty_11 n 11 ls st M Q) : am_R L mt_S_dyeProperty n 11 ls st M Q := am_go L mt_S_dyeProperty (fun h => by cases h) k_S_dyeProperty_11 n 11 ls st M Q o_S_dyeProperty_11 h
def k_S_dyeProperty_44 : List am_I := [(.aload_n 0, 1, 0, 0, 0), (.getfield 9, 3, 1, 0, 98), (.bipush 45, 2, 0, 0, 0), (.iload_n 1, 1, 0, 0, 0), (.iadd, 1, 0, 0, 0), (.iaload, 1, 0, 0, 0), (.ireturn, 1, 0, 0, 0)]
set_option maxRecDepth 20000 in
theorem o_S_dyeProperty_44 : am_okB mt_S_dyeProperty 44 k_S_dyeProperty_44 = true := by decide +kernel
theorem g_S_dyeProperty_44 {L : am_S} {n : Nat} {ls st : List Value} {M : am_M} {Q : am_Q} (h : am_B L mt_S_dyeProperty k_S_dyeProperty_44 n 44 ls st M Q) : am_R L mt_S_dyeProperty n 44 ls st M Q := am_go L mt_S_dyeProperty (fun h => by cases h) k_S_dyeProperty_44 n 44 ls st M Q o_S_dyeProperty_44 h
def k_S_dyeProperty_54 : List am_I := [(.aload_n 0, 1, 0, 0, 0), (.bipush 15, 2, 0, 0, 0), (.iload_n 1, 1, 0, 0, 0), (.iadd, 1, 0, 0, 0), (.invokevirtual 42, 3, 20, 2, 380), (.ireturn, 1, 0, 0, 0)]
set_option maxRecDepth 20000 in
theorem o_S_dyeProperty_54 : am_okB mt_S_dyeProperty 54 k_S_dyeProperty_54 = true := by decide +kernel
theorem g_S_dyeProperty_54 {L : am_S} {n : Nat} {ls st : List Value} {M : am_M} {Q : am_Q} (h : am_B L mt_S_dyeProperty k_S_dyeProperty_54 n 54 ls st M Q) : am_R L mt_S_dyeProperty n 54 ls st M Q := am_go L mt_S_dyeProperty (fun h => by cases h) k_S_dyeProperty_54 n 54 ls st M Q o_S_dyeProperty_54 h
def k_S_dyeProperty_63 : List am_I := [(.aload_n 0, 1, 0, 0, 0), (.bipush 30, 2, 0, 0, 0), (.iload_n 1, 1, 0, 0, 0), (.iadd, 1, 0, 0, 0), (.invokevirtual 42, 3, 20, 2, 380), (.ireturn, 1, 0, 0, 0)]
set_option maxRecDepth 20000 in
theorem o_S_dyeProperty_63 : am_okB mt_S_dyeProperty 63 k_S_dyeProperty_63 = true := by decide +kernel
theorem g_S_dyeProperty_63 {L : am_S} {n : Nat} {ls st : List Value} {M : am_M} {Q : am_Q} (h : am_B L mt_S_dyeProperty k_S_dyeProperty_63 n 63 ls st M Q) : am_R L mt_S_dyeProperty n 63 ls st M Q := am_go L mt_S_dyeProperty (fun h => by cases h) k_S_dyeProperty_63 n 63 ls st M Q o_S_dyeProperty_63 h
def k_S_dyeProperty_72 : List am_I := [(.aload_n 0, 1, 0, 0, 0), (.getfield 9, 3, 1, 0, 98), (.bipush 48, 2, 0, 0, 0), (.iload_n 1, 1, 0, 0, 0), (.iadd, 1, 0, 0, 0), (.iaload, 1, 0, 0, 0), (.ireturn, 1, 0, 0, 0)]
set_option maxRecDepth 20000 in
theorem o_S_dyeProperty_72 : am_okB mt_S_dyeProperty 72 k_S_dyeProperty_72 = true := by decide +kernel
theorem g_S_dyeProperty_72 {L : am_S} {n : Nat} {ls st : List Value} {M : am_M} {Q : am_Q} (h : am_B L mt_S_dyeProperty k_S_dyeProperty_72 n 72 ls st M Q) : am_R L mt_S_dyeProperty n 72 ls st M Q := am_go L mt_S_dyeProperty (fun h => by cases h) k_S_dyeProperty_72 n 72 ls st M Q o_S_dyeProperty_72 h
def k_S_dyeProperty_82 : List am_I := [(.aload_n 0, 1, 0, 0, 0), (.iload_n 1, 1, 0, 0, 0), (.invokevirtual 45, 3, 21, 2, 384), (.ireturn, 1, 0, 0, 0)]
set_option maxRecDepth 20000 in
theorem o_S_dyeProperty_82 : am_okB mt_S_dyeProperty 82 k_S_dyeProperty_82 = true := by decide +kernel
theorem g_S_dyeProperty_82 {L : am_S} {n : Nat} {ls st : List Value} {M : am_M} {Q : am_Q} (h : am_B L mt_S_dyeProperty k_S_dyeProperty_82 n 82 ls st M Q) : am_R L mt_S_dyeProperty n 82 ls st M Q := am_go L mt_S_dyeProperty (fun h => by cases h) k_S_dyeProperty_82 n 82 ls st M Q o_S_dyeProperty_82 h
def k_S_removeValve_0 : List am_I := [(.aload_n 0, 1, 0, 0, 0), (.getfield 9, 3, 1, 0, 98), (.bipush 56, 2, 0, 0, 0), (.iaload, 1, 0, 0, 0), (.iconst 1, 1, 0, 0, 0), (.isub, 1, 0, 0, 0), (.istore_n 2, 1, 0, 0, 0), (.iload_n 1, 1, 0, 0, 0), (.ifCond .lt 14, 3, 0, 0, 0), (.iload_n 1, 1, 0, 0, 0), (.iload_n 2, 1, 0, 0, 0), (.if_icmp .gt 9, 3, 0, 0, 0), (.iload_n 2, 1, 0, 0, 0), (.bipush 8, 2, 0, 0, 0), (.if_icmp .lt 4, 3, 0, 0, 0)]
set_option maxRecDepth 20000 in
theorem o_S_removeValve_0 : am_okB mt_S_removeValve 0 k_S_removeValve_0 = true := by decide +kernel
theorem g_S_removeValve_0 {L : am_S} {n : Nat} {ls st : List Value} {M : am_M} {Q : am_Q} (h : am_B L mt_S_removeValve k_S_removeValve_0 n 0 ls st M Q) : am_R L mt_S_removeValve n 0 ls st M Q := am_go L mt_S_removeValve (fun h => by cases h) k_S_removeValve_0 n 0 ls st M Q o_S_removeValve_0 h
def k_S_removeValve_25 : List am_I := [(.return_, 1, 0, 0, 0)]
set_option maxRecDepth 20000 in
theorem o_S_removeValve_25 : am_okB mt_S_removeValve 25 k_S_removeValve_25 = true := by decide +kernel
theorem g_S_removeValve_25 {L : am_S} {n : Nat} {ls st : List Value} {M : am_M} {Q : am_Q} (h : am_B L mt_S_removeValve k_S_removeValve_25 n 25 ls st M Q) : am_R L mt_S_removeValve n 25 ls st M Q := am_go L mt_S_removeValve (fun h => by cases h) k_S_removeValve_25 n 25 ls st M Q o_S_removeValve_25 h
def k_S_removeValve_26 : List am_I := [(.bipush 57, 2, 0, 0, 0), (.iload_n 1, 1, 0, 0, 0), (.bipush 6, 2, 0, 0, 0), (.imul, 1, 0, 0, 0), (.iadd, 1, 0, 0, 0), (.istore_n 3, 1, 0, 0, 0), (.aload_n 0, 1, 0, 0, 0), (.getfield 9, 3, 1, 0, 98), (.iload_n 3, 1, 0, 0, 0), (.bipush 6, 2, 0, 0, 0), (.iadd, 1, 0, 0, 0), (.aload_n 0, 1, 0, 0, 0), (.getfield 9, 3, 1, 0, 98), (.iload_n 3, 1, 0, 0, 0), (.iload_n 2, 1, 0, 0, 0), (.iload_n 1, 1, 0, 0, 0), (.isub, 1, 0, 0, 0), (.bipush 6, 2, 0, 0, 0), (.imul, 1, 0, 0, 0), (.invokestatic 15, 3, 202, 5, 278), (.aload_n 0, 1, 0, 0, 0), (.getfield 9, 3, 1, 0, 98), (.bipush 56, 2, 0, 0, 0), (.iload_n 2, 1, 0, 0, 0), (.iastore, 1, 0, 0, 0), (.return_, 1, 0, 0, 0)]
set_option maxRecDepth 20000 in
theorem o_S_removeValve_26 : am_okB mt_S_removeValve 26 k_S_removeValve_26 = true := by decide +kernel
theorem g_S_removeValve_26 {L : am_S} {n : Nat} {ls st : List Value} {M : am_M} {Q : am_Q} (h : am_B L mt_S_removeValve k_S_removeValve_26 n 26 ls st M Q) : am_R L mt_S_removeValve n 26 ls st M Q := am_go L mt_S_removeValve (fun h => by cases h) k_S_removeValve_26 n 26 ls st M Q o_S_removeValve_26 h
def k_S_takeValves_0 : List am_I := [(.iconst 0, 1, 0, 0, 0), (.istore_n 3, 1, 0, 0, 0)]
set_option maxRecDepth 20000 in
theorem o_S_takeValves_0 : am_okB mt_S_takeValves 0 k_S_takeValves_0 = true := by decide +kernel
theorem g_S_takeValves_0 {L : am_S} {n : Nat} {ls st : List Value} {M : am_M} {Q : am_Q} (h : am_B L mt_S_takeValves k_S_takeValves_0 n 0 ls st M Q) : am_R L mt_S_takeValves n 0 ls st M Q := am_go L mt_S_takeValves (fun h => by cases h) k_S_takeValves_0 n 0 ls st M Q o_S_takeValves_0 h
def k_S_takeValves_2 : List am_I := [(.iload_n 3, 1, 0, 0, 0), (.iload_n 2, 1, 0, 0, 0), (.if_icmp .ge 58, 3, 0, 0, 0), (.iload_n 3, 1, 0, 0, 0), (.bipush 8, 2, 0, 0, 0), (.if_icmp .ge 52, 3, 0, 0, 0), (.iload_n 3, 1, 0, 0, 0), (.iconst 1, 1, 0, 0, 0), (.iadd, 1, 0, 0, 0), (.iconst 5, 1, 0, 0, 0), (.imul, 1, 0, 0, 0), (.aload_n 1, 1, 0, 0, 0), (.arraylength, 1, 0, 0, 0), (.if_icmp .gt 42, 3, 0, 0, 0), (.bipush 57, 2, 0, 0, 0), (.iload_n 3, 1, 0, 0, 0), (.bipush 6, 2, 0, 0, 0), (.imul, 1, 0, 0, 0), (.iadd, 1, 0, 0, 0), (.istore 4, 2, 0, 0, 0), (.aload_n 1, 1, 0, 0, 0), (.iload_n 3, 1, 0, 0, 0), (.iconst 5, 1, 0, 0, 0), (.imul, 1, 0, 0, 0), (.aload_n 0, 1, 0, 0, 0), (.getfield 9, 3, 1, 0, 98), (.iload 4, 2, 0, 0, 0), (.iconst 5, 1, 0, 0, 0), (.invokestatic 15, 3, 202, 5, 278), (.aload_n 0, 1, 0, 0, 0), (.getfield 9, 3, 1, 0, 98), (.iload 4, 2, 0, 0, 0), (.iconst 5, 1, 0, 0, 0), (.iadd, 1, 0, 0, 0), (.iconst 0, 1, 0, 0, 0), (.iastore, 1, 0, 0, 0), (.iinc 3 1, 3, 0, 0, 0), (.goto (-57), 3, 0, 0, 0)]
set_option maxRecDepth 20000 in
theorem o_S_takeValves_2 : am_okB mt_S_takeValves 2 k_S_takeValves_2 = true := by decide +kernel
theorem g_S_takeValves_2 {L : am_S} {n : Nat} {ls st : List Value} {M : am_M} {Q : am_Q} (h : am_B L mt_S_takeValves k_S_takeValves_2 n 2 ls st M Q) : am_R L mt_S_takeValves n 2 ls st M Q := am_go L mt_S_takeValves (fun h => by cases h) k_S_takeValves_2 n 2 ls st M Q o_S_takeValves_2 h
def k_S_takeValves_62 : List am_I := [(.aload_n 0, 1, 0, 0, 0), (.getfield 9, 3, 1, 0, 98), (.bipush 56, 2, 0, 0, 0), (.iload_n 3, 1, 0, 0, 0), (.iastore, 1, 0, 0, 0), (.return_, 1, 0, 0, 0)]
set_option maxRecDepth 20000 in
theorem o_S_takeValves_62 : am_okB mt_S_takeValves 62 k_S_takeValves_62 = true := by decide +kernel
theorem g_S_takeValves_62 {L : am_S} {n : Nat} {ls st : List Value} {M : am_M} {Q : am_Q} (h : am_B L mt_S_takeValves k_S_takeValves_62 n 62 ls st M Q) : am_R L mt_S_takeValves n 62 ls st M Q := am_go L mt_S_takeValves (fun h => by cases h) k_S_takeValves_62 n 62 ls st M Q o_S_takeValves_62 h
def k_S_dissolveSettled_0 : List am_I := [(.iload_n 1, 1, 0, 0, 0), (.invokestatic 21, 3, 22, 1, 305), (.ifCond .ne 5, 3, 0, 0, 0), (.iconst 0, 1, 0, 0, 0), (.ireturn, 1, 0, 0, 0)]
set_option maxRecDepth 20000 in
theorem o_S_dissolveSettled_0 : am_okB mt_S_dissolveSettled 0 k_S_dissolveSettled_0 = true := by decide +kernel
theorem g_S_dissolveSettled_0 {L : am_S} {n : Nat} {ls st : List Value} {M : am_M} {Q : am_Q} (h : am_B L mt_S_dissolveSettled k_S_dissolveSettled_0 n 0 ls st M Q) : am_R L mt_S_dissolveSettled n 0 ls st M Q := am_go L mt_S_dissolveSettled (fun h => by cases h) k_S_dissolveSettled_0 n 0 ls st M Q o_S_dissolveSettled_0 h
def k_S_dissolveSettled_9 : List am_I := [(.iconst 0, 1, 0, 0, 0), (.istore_n 2, 1, 0, 0, 0), (.iconst 0, 1, 0, 0, 0), (.istore_n 3, 1, 0, 0, 0)]
set_option maxRecDepth 20000 in
theorem o_S_dissolveSettled_9 : am_okB mt_S_dissolveSettled 9 k_S_dissolveSettled_9 = true := by decide +kernel
theorem g_S_dissolveSettled_9 {L : am_S} {n : Nat} {ls st : List Value} {M : am_M} {Q : am_Q} (h : am_B L mt_S_dissolveSettled k_S_dissolveSettled_9 n 9 ls st M Q) : am_R L mt_S_dissolveSettled n 9 ls st M Q := am_go L mt_S_dissolveSettled (fun h => by cases h) k_S_dissolveSettled_9 n 9 ls st M Q o_S_dissolveSettled_9 h
def k_S_dissolveSettled_13 : List am_I := [(.iload_n 3, 1, 0, 0, 0), (.iconst 3, 1, 0, 0, 0), (.if_icmp .ge 87, 3, 0, 0, 0), (.bipush 15, 2, 0, 0, 0), (.iload_n 1, 1, 0, 0, 0), (.iconst 3, 1, 0, 0, 0), (.imul, 1, 0, 0, 0), (.iadd, 1, 0, 0, 0), (.iload_n 3, 1, 0, 0, 0), (.iadd, 1, 0, 0, 0), (.istore 4, 2, 0, 0, 0), (.bipush 30, 2, 0, 0, 0), (.iload_n 1, 1, 0, 0, 0), (.iconst 3, 1, 0, 0, 0), (.imul, 1, 0, 0, 0), (.iadd, 1, 0, 0, 0), (.iload_n 3, 1, 0, 0, 0), (.iadd, 1, 0, 0, 0), (.istore 5, 2, 0, 0, 0), (.aload_n 0, 1, 0, 0, 0), (.getfield 9, 3, 1, 0, 98), (.iload 5, 2, 0, 0, 0), (.iaload, 1, 0, 0, 0), (.iconst 0, 1, 0, 0, 0), (.aload_n 0, 1, 0, 0, 0), (.iload_n 1, 1, 0, 0, 0), (.invokevirtual 31, 3, 5, 2, 319), (.aload_n 0, 1, 0, 0, 0), (.getfield 9, 3, 1, 0, 98), (.iload 4, 2, 0, 0, 0), (.iaload, 1, 0, 0, 0), (.isub, 1, 0, 0, 0), (.invokestatic 48, 3, 201, 2, 566), (.invokestatic 54, 3, 200, 2, 308), (.istore 6, 2, 0, 0, 0), (.aload_n 0, 1, 0, 0, 0), (.getfield 9, 3, 1, 0, 98), (.iload 5, 2, 0, 0, 0), (.dup2, 1, 0, 0, 0), (.iaload, 1, 0, 0, 0), (.iload 6, 2, 0, 0, 0), (.isub, 1, 0, 0, 0), (.iastore, 1, 0, 0, 0), (.aload_n 0, 1, 0, 0, 0), (.getfield 9, 3, 1, 0, 98), (.iload 4, 2, 0, 0, 0), (.dup2, 1, 0, 0, 0), (.iaload, 1, 0, 0, 0), (.iload 6, 2, 0, 0, 0), (.iadd, 1, 0, 0, 0), (.iastore, 1, 0, 0, 0), (.iload_n 2, 1, 0, 0, 0), (.iload 6, 2, 0, 0, 0), (.iadd, 1, 0, 0, 0), (.istore_n 2, 1, 0, 0, 0), (.iinc 3 1, 3, 0, 0, 0), (.goto (-86), 3, 0, 0, 0)]
set_option maxRecDepth 20000 in
theorem o_S_dissolveSettled_13 : am_okB mt_S_dissolveSettled 13 k_S_dissolveSettled_13 = true := by decide +kernel
theorem g_S_dissolveSettled_13 {L : am_S} {n : Nat} {ls st : List Value} {M : am_M} {Q : am_Q} (h : am_B L mt_S_dissolveSettled k_S_dissolveSettled_13 n 13 ls st M Q) : am_R L mt_S_dissolveSettled n 13 ls st M Q := am_go L mt_S_dissolveSettled (fun h => by cases h) k_S_dissolveSettled_13 n 13 ls st M Q o_S_dissolveSettled_13 h
def k_S_dissolveSettled_102 : List am_I := [(.iload_n 2, 1, 0, 0, 0), (.ireturn, 1, 0, 0, 0)]
set_option maxRecDepth 20000 in
theorem o_S_dissolveSettled_102 : am_okB mt_S_dissolveSettled 102 k_S_dissolveSettled_102 = true := by decide +kernel
theorem g_S_dissolveSettled_102 {L : am_S} {n : Nat} {ls st : List Value} {M : am_M} {Q : am_Q} (h : am_B L mt_S_dissolveSettled k_S_dissolveSettled_102 n 102 ls st M Q) : am_R L mt_S_dissolveSettled n 102 ls st M Q := am_go L mt_S_dissolveSettled (fun h => by cases h) k_S_dissolveSettled_102 n 102 ls st M Q o_S_dissolveSettled_102 h
def k_S_runHours_0 : List am_I := [(.iconst 0, 1, 0, 0, 0), (.istore_n 2, 1, 0, 0, 0)]
set_option maxRecDepth 20000 in
theorem o_S_runHours_0 : am_okB mt_S_runHours 0 k_S_runHours_0 = true := by decide +kernel
theorem g_S_runHours_0 {L : am_S} {n : Nat} {ls st : List Value} {M : am_M} {Q : am_Q} (h : am_B L mt_S_runHours k_S_runHours_0 n 0 ls st M Q) : am_R L mt_S_runHours n 0 ls st M Q := am_go L mt_S_runHours (fun h => by cases h) k_S_runHours_0 n 0 ls st M Q o_S_runHours_0 h
def k_S_runHours_2 : List am_I := [(.iload_n 2, 1, 0, 0, 0), (.iload_n 1, 1, 0, 0, 0), (.if_icmp .ge 32, 3, 0, 0, 0), (.aload_n 0, 1, 0, 0, 0), (.invokevirtual 57, 3, 15, 1, 289), (.aload_n 0, 1, 0, 0, 0), (.invokevirtual 60, 3, 16, 1, 311), (.aload_n 0, 1, 0, 0, 0), (.invokevirtual 63, 3, 17, 1, 315), (.aload_n 0, 1, 0, 0, 0), (.getfield 9, 3, 1, 0, 98), (.bipush 52, 2, 0, 0, 0), (.dup2, 1, 0, 0, 0), (.iaload, 1, 0, 0, 0), (.iconst 1, 1, 0, 0, 0), (.iadd, 1, 0, 0, 0), (.iastore, 1, 0, 0, 0), (.iinc 2 1, 3, 0, 0, 0), (.goto (-31), 3, 0, 0, 0)]
set_option maxRecDepth 20000 in
theorem o_S_runHours_2 : am_okB mt_S_runHours 2 k_S_runHours_2 = true := by decide +kernel
theorem g_S_runHours_2 {L : am_S} {n : Nat} {ls st : List Value} {M : am_M} {Q : am_Q} (h : am_B L mt_S_runHours k_S_runHours_2 n 2 ls st M Q) : am_R L mt_S_runHours n 2 ls st M Q := am_go L mt_S_runHours (fun h => by cases h) k_S_runHours_2 n 2 ls st M Q o_S_runHours_2 h
def k_S_runHours_36 : List am_I := [(.return_, 1, 0, 0, 0)]
set_option maxRecDepth 20000 in
theorem o_S_runHours_36 : am_okB mt_S_runHours 36 k_S_runHours_36 = true := by decide +kernel
theorem g_S_runHours_36 {L : am_S} {n : Nat} {ls st : List Value} {M : am_M} {Q : am_Q} (h : am_B L mt_S_runHours k_S_runHours_36 n 36 ls st M Q) : am_R L mt_S_runHours n 36 ls st M Q := am_go L mt_S_runHours (fun h => by cases h) k_S_runHours_36 n 36 ls st M Q o_S_runHours_36 h
def k_S_runValves_0 : List am_I := [(.aload_n 0, 1, 0, 0, 0), (.invokevirtual 34, 3, 4, 1, 293), (.istore_n 1, 1, 0, 0, 0), (.iconst 0, 1, 0, 0, 0), (.istore_n 2, 1, 0, 0, 0)]
set_option maxRecDepth 20000 in
theorem o_S_runValves_0 : am_okB mt_S_runValves 0 k_S_runValves_0 = true := by decide +kernel
theorem g_S_runValves_0 {L : am_S} {n : Nat} {ls st : List Value} {M : am_M} {Q : am_Q} (h : am_B L mt_S_runValves k_S_runValves_0 n 0 ls st M Q) : am_R L mt_S_runValves n 0 ls st M Q := am_go L mt_S_runValves (fun h => by cases h) k_S_runValves_0 n 0 ls st M Q o_S_runValves_0 h
def k_S_runValves_7 : List am_I := [(.iload_n 2, 1, 0, 0, 0), (.aload_n 0, 1, 0, 0, 0), (.getfield 9, 3, 1, 0, 98), (.bipush 56, 2, 0, 0, 0), (.iaload, 1, 0, 0, 0), (.if_icmp .ge 71, 3, 0, 0, 0), (.iload_n 2, 1, 0, 0, 0), (.bipush 8, 2, 0, 0, 0), (.if_icmp .ge 65, 3, 0, 0, 0), (.bipush 57, 2, 0, 0, 0), (.iload_n 2, 1, 0, 0, 0), (.bipush 6, 2, 0, 0, 0), (.imul, 1, 0, 0, 0), (.iadd, 1, 0, 0, 0), (.istore_n 3, 1, 0, 0, 0), (.aload_n 0, 1, 0, 0, 0), (.iload_n 3, 1, 0, 0, 0), (.iload_n 1, 1, 0, 0, 0), (.invokevirtual 38, 3, 19, 3, 297), (.ifCond .eq 42, 3, 0, 0, 0), (.aload_n 0, 1, 0, 0, 0), (.getfield 9, 3, 1, 0, 98), (.iload_n 3, 1, 0, 0, 0), (.iconst 5, 1, 0, 0, 0), (.iadd, 1, 0, 0, 0), (.dup2, 1, 0, 0, 0), (.iaload, 1, 0, 0, 0), (.aload_n 0, 1, 0, 0, 0), (.aload_n 0, 1, 0, 0, 0), (.getfield 9, 3, 1, 0, 98), (.iload_n 3, 1, 0, 0, 0), (.iconst 0, 1, 0, 0, 0), (.iadd, 1, 0, 0, 0), (.iaload, 1, 0, 0, 0), (.aload_n 0, 1, 0, 0, 0), (.getfield 9, 3, 1, 0, 98), (.iload_n 3, 1, 0, 0, 0), (.iconst 1, 1, 0, 0, 0), (.iadd, 1, 0, 0, 0), (.iaload, 1, 0, 0, 0), (.aload_n 0, 1, 0, 0, 0), (.getfield 9, 3, 1, 0, 98), (.iload_n 3, 1, 0, 0, 0), (.iconst 2, 1, 0, 0, 0), (.iadd, 1, 0, 0, 0), (.iaload, 1, 0, 0, 0), (.invokevirtual 66, 3, 18, 4, 301), (.iadd, 1, 0, 0, 0), (.iastore, 1, 0, 0, 0)]
set_option maxRecDepth 20000 in
theorem o_S_runValves_7 : am_okB mt_S_runValves 7 k_S_runValves_7 = true := by decide +kernel
theorem g_S_runValves_7 {L : am_S} {n : Nat} {ls st : List Value} {M : am_M} {Q : am_Q} (h : am_B L mt_S_runValves k_S_runValves_7 n 7 ls st M Q) : am_R L mt_S_runValves n 7 ls st M Q := am_go L mt_S_runValves (fun h => by cases h) k_S_runValves_7 n 7 ls st M Q o_S_runValves_7 h
def k_S_runValves_80 : List am_I := [(.iinc 2 1, 3, 0, 0, 0), (.goto (-76), 3, 0, 0, 0)]
set_option maxRecDepth 20000 in
theorem o_S_runValves_80 : am_okB mt_S_runValves 80 k_S_runValves_80 = true := by decide +kernel
theorem g_S_runValves_80 {L : am_S} {n : Nat} {ls st : List Value} {M : am_M} {Q : am_Q} (h : am_B L mt_S_runValves k_S_runValves_80 n 80 ls st M Q) : am_R L mt_S_runValves n 80 ls st M Q := am_go L mt_S_runValves (fun h => by cases h) k_S_runValves_80 n 80 ls st M Q o_S_runValves_80 h
def k_S_runValves_86 : List am_I := [(.return_, 1, 0, 0, 0)]
set_option maxRecDepth 20000 in
theorem o_S_runValves_86 : am_okB mt_S_runValves 86 k_S_runValves_86 = true := by decide +kernel
theorem g_S_runValves_86 {L : am_S} {n : Nat} {ls st : List Value} {M : am_M} {Q : am_Q} (h : am_B L mt_S_runValves k_S_runValves_86 n 86 ls st M Q) : am_R L mt_S_runValves n 86 ls st M Q := am_go L mt_S_runValves (fun h => by cases h) k_S_runValves_86 n 86 ls st M Q o_S_runValves_86 h
def k_S_levelPipes_0 : List am_I := [(.iconst 0, 1, 0, 0, 0), (.istore_n 1, 1, 0, 0, 0)]
set_option maxRecDepth 20000 in
theorem o_S_levelPipes_0 : am_okB mt_S_levelPipes 0 k_S_levelPipes_0 = true := by decide +kernel
theorem g_S_levelPipes_0 {L : am_S} {n : Nat} {ls st : List Value} {M : am_M} {Q : am_Q} (h : am_B L mt_S_levelPipes k_S_levelPipes_0 n 0 ls st M Q) : am_R L mt_S_levelPipes n 0 ls st M Q := am_go L mt_S_levelPipes (fun h => by cases h) k_S_levelPipes_0 n 0 ls st M Q o_S_levelPipes_0 h
def k_S_levelPipes_2 : List am_I := [(.iload_n 1, 1, 0, 0, 0), (.iconst 5, 1, 0, 0, 0), (.if_icmp .ge 94, 3, 0, 0, 0), (.aload_n 0, 1, 0, 0, 0), (.getfield 9, 3, 1, 0, 98), (.iconst 5, 1, 0, 0, 0), (.iload_n 1, 1, 0, 0, 0), (.iadd, 1, 0, 0, 0), (.iaload, 1, 0, 0, 0), (.istore_n 2, 1, 0, 0, 0), (.iload_n 1, 1, 0, 0, 0), (.iconst 1, 1, 0, 0, 0), (.iadd, 1, 0, 0, 0), (.istore_n 3, 1, 0, 0, 0)]
set_option maxRecDepth 20000 in
theorem o_S_levelPipes_2 : am_okB mt_S_levelPipes 2 k_S_levelPipes_2 = true := by decide +kernel
theorem g_S_levelPipes_2 {L : am_S} {n : Nat} {ls st : List Value} {M : am_M} {Q : am_Q} (h : am_B L mt_S_levelPipes k_S_levelPipes_2 n 2 ls st M Q) : am_R L mt_S_levelPipes n 2 ls st M Q := am_go L mt_S_levelPipes (fun h => by cases h) k_S_levelPipes_2 n 2 ls st M Q o_S_levelPipes_2 h
def k_S_levelPipes_20 : List am_I := [(.iload_n 3, 1, 0, 0, 0), (.iconst 5, 1, 0, 0, 0), (.if_icmp .ge 70, 3, 0, 0, 0), (.iload_n 2, 1, 0, 0, 0), (.iload_n 3, 1, 0, 0, 0), (.ishr, 1, 0, 0, 0), (.iconst 1, 1, 0, 0, 0), (.iand, 1, 0, 0, 0), (.iconst 1, 1, 0, 0, 0), (.if_icmp .ne 55, 3, 0, 0, 0), (.aload_n 0, 1, 0, 0, 0), (.getfield 9, 3, 1, 0, 98), (.bipush 10, 2, 0, 0, 0), (.iload_n 1, 1, 0, 0, 0), (.iadd, 1, 0, 0, 0), (.iaload, 1, 0, 0, 0), (.aload_n 0, 1, 0, 0, 0), (.getfield 9, 3, 1, 0, 98), (.bipush 10, 2, 0, 0, 0), (.iload_n 3, 1, 0, 0, 0), (.iadd, 1, 0, 0, 0), (.iaload, 1, 0, 0, 0), (.isub, 1, 0, 0, 0), (.istore 4, 2, 0, 0, 0), (.iload 4, 2, 0, 0, 0), (.ifCond .lt 17, 3, 0, 0, 0), (.aload_n 0, 1, 0, 0, 0), (.iload_n 1, 1, 0, 0, 0), (.iload_n 3, 1, 0, 0, 0), (.iload 4, 2, 0, 0, 0), (.iconst 2, 1, 0, 0, 0), (.idiv, 1, 0, 0, 0), (.invokevirtual 66, 3, 18, 4, 301), (.pop, 1, 0, 0, 0), (.goto 15, 3, 0, 0, 0)]
set_option maxRecDepth 20000 in
theorem o_S_levelPipes_20 : am_okB mt_S_levelPipes 20 k_S_levelPipes_20 = true := by decide +kernel
theorem g_S_levelPipes_20 {L : am_S} {n : Nat} {ls st : List Value} {M : am_M} {Q : am_Q} (h : am_B L mt_S_levelPipes k_S_levelPipes_20 n 20 ls st M Q) : am_R L mt_S_levelPipes n 20 ls st M Q := am_go L mt_S_levelPipes (fun h => by cases h) k_S_levelPipes_20 n 20 ls st M Q o_S_levelPipes_20 h
def k_S_levelPipes_74 : List am_I := [(.aload_n 0, 1, 0, 0, 0), (.iload_n 3, 1, 0, 0, 0), (.iload_n 1, 1, 0, 0, 0), (.iload 4, 2, 0, 0, 0), (.ineg, 1, 0, 0, 0), (.iconst 2, 1, 0, 0, 0), (.idiv, 1, 0, 0, 0), (.invokevirtual 66, 3, 18, 4, 301), (.pop, 1, 0, 0, 0)]
set_option maxRecDepth 20000 in
theorem o_S_levelPipes_74 : am_okB mt_S_levelPipes 74 k_S_levelPipes_74 = true := by decide +kernel
theorem g_S_levelPipes_74 {L : am_S} {n : Nat} {ls st : List Value} {M : am_M} {Q : am_Q} (h : am_B L mt_S_levelPipes k_S_levelPipes_74 n 74 ls st M Q) : am_R L mt_S_levelPipes n 74 ls st M Q := am_go L mt_S_levelPipes (fun h => by cases h) k_S_levelPipes_74 n 74 ls st M Q o_S_levelPipes_74 h
def k_S_levelPipes_86 : List am_I := [(.iinc 3 1, 3, 0, 0, 0), (.goto (-69), 3, 0, 0, 0)]
set_option maxRecDepth 20000 in
theorem o_S_levelPipes_86 : am_okB mt_S_levelPipes 86 k_S_levelPipes_86 = true := by decide +kernel
theorem g_S_levelPipes_86 {L : am_S} {n : Nat} {ls st : List Value} {M : am_M} {Q : am_Q} (h : am_B L mt_S_levelPipes k_S_levelPipes_86 n 86 ls st M Q) : am_R L mt_S_levelPipes n 86 ls st M Q := am_go L mt_S_levelPipes (fun h => by cases h) k_S_levelPipes_86 n 86 ls st M Q o_S_levelPipes_86 h
def k_S_levelPipes_92 : List am_I := [(.iinc 1 1, 3, 0, 0, 0), (.goto (-93), 3, 0, 0, 0)]
set_option maxRecDepth 20000 in
theorem o_S_levelPipes_92 : am_okB mt_S_levelPipes 92 k_S_levelPipes_92 = true := by decide +kernel
theorem g_S_levelPipes_92 {L : am_S} {n : Nat} {ls st : List Value} {M : am_M} {Q : am_Q} (h : am_B L mt_S_levelPipes k_S_levelPipes_92 n 92 ls st M Q) : am_R L mt_S_levelPipes n 92 ls st M Q := am_go L mt_S_levelPipes (fun h => by cases h) k_S_levelPipes_92 n 92 ls st M Q o_S_levelPipes_92 h
def k_S_levelPipes_98 : List am_I := [(.return_, 1, 0, 0, 0)]
set_option maxRecDepth 20000 in
theorem o_S_levelPipes_98 : am_okB mt_S_levelPipes 98 k_S_levelPipes_98 = true := by decide +kernel
theorem g_S_levelPipes_98 {L : am_S} {n : Nat} {ls st : List Value} {M : am_M} {Q : am_Q} (h : am_B L mt_S_levelPipes k_S_levelPipes_98 n 98 ls st M Q) : am_R L mt_S_levelPipes n 98 ls st M Q := am_go L mt_S_levelPipes (fun h => by cases h) k_S_levelPipes_98 n 98 ls st M Q o_S_levelPipes_98 h
def k_S_settleGrains_0 : List am_I := [(.iconst 0, 1, 0, 0, 0), (.istore_n 1, 1, 0, 0, 0)]
set_option maxRecDepth 20000 in
theorem o_S_settleGrains_0 : am_okB mt_S_settleGrains 0 k_S_settleGrains_0 = true := by decide +kernel
theorem g_S_settleGrains_0 {L : am_S} {n : Nat} {ls st : List Value} {M : am_M} {Q : am_Q} (h : am_B L mt_S_settleGrains k_S_settleGrains_0 n 0 ls st M Q) : am_R L mt_S_settleGrains n 0 ls st M Q := am_go L mt_S_settleGrains (fun h => by cases h) k_S_settleGrains_0 n 0 ls st M Q o_S_settleGrains_0 h
def k_S_settleGrains_2 : List am_I := [(.iload_n 1, 1, 0, 0, 0), (.iconst 5, 1, 0, 0, 0), (.if_icmp .ge 84, 3, 0, 0, 0), (.aload_n 0, 1, 0, 0, 0), (.iload_n 1, 1, 0, 0, 0), (.invokevirtual 31, 3, 5, 2, 319), (.istore_n 2, 1, 0, 0, 0), (.iconst 0, 1, 0, 0, 0), (.istore_n 3, 1, 0, 0, 0)]
set_option maxRecDepth 20000 in
theorem o_S_settleGrains_2 : am_okB mt_S_settleGrains 2 k_S_settleGrains_2 = true := by decide +kernel
theorem g_S_settleGrains_2 {L : am_S} {n : Nat} {ls st : List Value} {M : am_M} {Q : am_Q} (h : am_B L mt_S_settleGrains k_S_settleGrains_2 n 2 ls st M Q) : am_R L mt_S_settleGrains n 2 ls st M Q := am_go L mt_S_settleGrains (fun h => by cases h) k_S_settleGrains_2 n 2 ls st M Q o_S_settleGrains_2 h
def k_S_settleGrains_15 : List am_I := [(.iload_n 3, 1, 0, 0, 0), (.iconst 3, 1, 0, 0, 0), (.if_icmp .ge 65, 3, 0, 0, 0), (.bipush 15, 2, 0, 0, 0), (.iload_n 1, 1, 0, 0, 0), (.iconst 3, 1, 0, 0, 0), (.imul, 1, 0, 0, 0), (.iadd, 1, 0, 0, 0), (.iload_n 3, 1, 0, 0, 0), (.iadd, 1, 0, 0, 0), (.istore 4, 2, 0, 0, 0), (.aload_n 0, 1, 0, 0, 0), (.getfield 9, 3, 1, 0, 98), (.iload 4, 2, 0, 0, 0), (.iaload, 1, 0, 0, 0), (.iload_n 2, 1, 0, 0, 0), (.isub, 1, 0, 0, 0), (.istore 5, 2, 0, 0, 0), (.iload 5, 2, 0, 0, 0), (.ifCond .le 33, 3, 0, 0, 0), (.aload_n 0, 1, 0, 0, 0), (.getfield 9, 3, 1, 0, 98), (.iload 4, 2, 0, 0, 0), (.dup2, 1, 0, 0, 0), (.iaload, 1, 0, 0, 0), (.iload 5, 2, 0, 0, 0), (.isub, 1, 0, 0, 0), (.iastore, 1, 0, 0, 0), (.aload_n 0, 1, 0, 0, 0), (.getfield 9, 3, 1, 0, 98), (.bipush 30, 2, 0, 0, 0), (.iload_n 1, 1, 0, 0, 0), (.iconst 3, 1, 0, 0, 0), (.imul, 1, 0, 0, 0), (.iadd, 1, 0, 0, 0), (.iload_n 3, 1, 0, 0, 0), (.iadd, 1, 0, 0, 0), (.dup2, 1, 0, 0, 0), (.iaload, 1, 0, 0, 0), (.iload 5, 2, 0, 0, 0), (.iadd, 1, 0, 0, 0), (.iastore, 1, 0, 0, 0)]
set_option maxRecDepth 20000 in
theorem o_S_settleGrains_15 : am_okB mt_S_settleGrains 15 k_S_settleGrains_15 = true := by decide +kernel
theorem g_S_settleGrains_15 {L : am_S} {n : Nat} {ls st : List Value} {M : am_M} {Q : am_Q} (h : am_B L mt_S_settleGrains k_S_settleGrains_15 n 15 ls st M Q) : am_R L mt_S_settleGrains n 15 ls st M Q := am_go L mt_S_settleGrains (fun h => by cases h) k_S_settleGrains_15 n 15 ls st M Q o_S_settleGrains_15 h
def k_S_settleGrains_76 : List am_I := [(.iinc 3 1, 3, 0, 0, 0), (.goto (-64), 3, 0, 0, 0)]
set_option maxRecDepth 20000 in
theorem o_S_settleGrains_76 : am_okB mt_S_settleGrains 76 k_S_settleGrains_76 = true := by decide +kernel
theorem g_S_settleGrains_76 {L : am_S} {n : Nat} {ls st : List Value} {M : am_M} {Q : am_Q} (h : am_B L mt_S_settleGrains k_S_settleGrains_76 n 76 ls st M Q) : am_R L mt_S_settleGrains n 76 ls st M Q := am_go L mt_S_settleGrains (fun h => by cases h) k_S_settleGrains_76 n 76 ls st M Q o_S_settleGrains_76 h
def k_S_settleGrains_82 : List am_I := [(.iinc 1 1, 3, 0, 0, 0), (.goto (-83), 3, 0, 0, 0)]
set_option maxRecDepth 20000 in
theorem o_S_settleGrains_82 : am_okB mt_S_settleGrains 82 k_S_settleGrains_82 = true := by decide +kernel
theorem g_S_settleGrains_82 {L : am_S} {n : Nat} {ls st : List Value} {M : am_M} {Q : am_Q} (h : am_B L mt_S_settleGrains k_S_settleGrains_82 n 82 ls st M Q) : am_R L mt_S_settleGrains n 82 ls st M Q := am_go L mt_S_settleGrains (fun h => by cases h) k_S_settleGrains_82 n 82 ls st M Q o_S_settleGrains_82 h
def k_S_settleGrains_88 : List am_I := [(.return_, 1, 0, 0, 0)]
set_option maxRecDepth 20000 in
theorem o_S_settleGrains_88 : am_okB mt_S_settleGrains 88 k_S_settleGrains_88 = true := by decide +kernel
theorem g_S_settleGrains_88 {L : am_S} {n : Nat} {ls st : List Value} {M : am_M} {Q : am_Q} (h : am_B L mt_S_settleGrains k_S_settleGrains_88 n 88 ls st M Q) : am_R L mt_S_settleGrains n 88 ls st M Q := am_go L mt_S_settleGrains (fun h => by cases h) k_S_settleGrains_88 n 88 ls st M Q o_S_settleGrains_88 h
def k_S_moveWater_0 : List am_I := [(.iload_n 1, 1, 0, 0, 0), (.invokestatic 21, 3, 22, 1, 305), (.ifCond .eq 15, 3, 0, 0, 0), (.iload_n 2, 1, 0, 0, 0), (.iconst 5, 1, 0, 0, 0), (.if_icmp .eq 12, 3, 0, 0, 0), (.iload_n 2, 1, 0, 0, 0), (.invokestatic 21, 3, 22, 1, 305), (.ifCond .ne 5, 3, 0, 0, 0)]
set_option maxRecDepth 20000 in
theorem o_S_moveWater_0 : am_okB mt_S_moveWater 0 k_S_moveWater_0 = true := by decide +kernel
theorem g_S_moveWater_0 {L : am_S} {n : Nat} {ls st : List Value} {M : am_M} {Q : am_Q} (h : am_B L mt_S_moveWater k_S_moveWater_0 n 0 ls st M Q) : am_R L mt_S_moveWater n 0 ls st M Q := am_go L mt_S_moveWater (fun h => by cases h) k_S_moveWater_0 n 0 ls st M Q o_S_moveWater_0 h
def k_S_moveWater_19 : List am_I := [(.iconst 0, 1, 0, 0, 0), (.ireturn, 1, 0, 0, 0)]
set_option maxRecDepth 20000 in
theorem o_S_moveWater_19 : am_okB mt_S_moveWater 19 k_S_moveWater_19 = true := by decide +kernel
theorem g_S_moveWater_19 {L : am_S} {n : Nat} {ls st : List Value} {M : am_M} {Q : am_Q} (h : am_B L mt_S_moveWater k_S_moveWater_19 n 19 ls st M Q) : am_R L mt_S_moveWater n 19 ls st M Q := am_go L mt_S_moveWater (fun h => by cases h) k_S_moveWater_19 n 19 ls st M Q o_S_moveWater_19 h
def k_S_moveWater_21 : List am_I := [(.aload_n 0, 1, 0, 0, 0), (.getfield 9, 3, 1, 0, 98), (.bipush 10, 2, 0, 0, 0), (.iload_n 1, 1, 0, 0, 0), (.iadd, 1, 0, 0, 0), (.iaload, 1, 0, 0, 0), (.istore 4, 2, 0, 0, 0), (.iload_n 3, 1, 0, 0, 0), (.iload 4, 2, 0, 0, 0), (.invokestatic 54, 3, 200, 2, 308), (.istore 5, 2, 0, 0, 0), (.iload_n 2, 1, 0, 0, 0), (.iconst 5, 1, 0, 0, 0), (.if_icmp .eq 28, 3, 0, 0, 0), (.iload 5, 2, 0, 0, 0), (.aload_n 0, 1, 0, 0, 0), (.getfield 9, 3, 1, 0, 98), (.iconst 0, 1, 0, 0, 0), (.iload_n 2, 1, 0, 0, 0), (.iadd, 1, 0, 0, 0), (.iaload, 1, 0, 0, 0), (.aload_n 0, 1, 0, 0, 0), (.getfield 9, 3, 1, 0, 98), (.bipush 10, 2, 0, 0, 0), (.iload_n 2, 1, 0, 0, 0), (.iadd, 1, 0, 0, 0), (.iaload, 1, 0, 0, 0), (.isub, 1, 0, 0, 0), (.invokestatic 54, 3, 200, 2, 308), (.istore 5, 2, 0, 0, 0)]
set_option maxRecDepth 20000 in
theorem o_S_moveWater_21 : am_okB mt_S_moveWater 21 k_S_moveWater_21 = true := by decide +kernel
theorem g_S_moveWater_21 {L : am_S} {n : Nat} {ls st : List Value} {M : am_M} {Q : am_Q} (h : am_B L mt_S_moveWater k_S_moveWater_21 n 21 ls st M Q) : am_R L mt_S_moveWater n 21 ls st M Q := am_go L mt_S_moveWater (fun h => by cases h) k_S_moveWater_21 n 21 ls st M Q o_S_moveWater_21 h
def k_S_moveWater_70 : List am_I := [(.iload 4, 2, 0, 0, 0), (.ifCond .le 8, 3, 0, 0, 0), (.iload 5, 2, 0, 0, 0), (.ifCond .gt 5, 3, 0, 0, 0)]
set_option maxRecDepth 20000 in
theorem o_S_moveWater_70 : am_okB mt_S_moveWater 70 k_S_moveWater_70 = true := by decide +kernel
theorem g_S_moveWater_70 {L : am_S} {n : Nat} {ls st : List Value} {M : am_M} {Q : am_Q} (h : am_B L mt_S_moveWater k_S_moveWater_70 n 70 ls st M Q) : am_R L mt_S_moveWater n 70 ls st M Q := am_go L mt_S_moveWater (fun h => by cases h) k_S_moveWater_70 n 70 ls st M Q o_S_moveWater_70 h
def k_S_moveWater_80 : List am_I := [(.iconst 0, 1, 0, 0, 0), (.ireturn, 1, 0, 0, 0)]
set_option maxRecDepth 20000 in
theorem o_S_moveWater_80 : am_okB mt_S_moveWater 80 k_S_moveWater_80 = true := by decide +kernel
theorem g_S_moveWater_80 {L : am_S} {n : Nat} {ls st : List Value} {M : am_M} {Q : am_Q} (h : am_B L mt_S_moveWater k_S_moveWater_80 n 80 ls st M Q) : am_R L mt_S_moveWater n 80 ls st M Q := am_go L mt_S_moveWater (fun h => by cases h) k_S_moveWater_80 n 80 ls st M Q o_S_moveWater_80 h
def k_S_moveWater_82 : List am_I := [(.iconst 0, 1, 0, 0, 0), (.istore 6, 2, 0, 0, 0)]
set_option maxRecDepth 20000 in
theorem o_S_moveWater_82 : am_okB mt_S_moveWater 82 k_S_moveWater_82 = true := by decide +kernel
theorem g_S_moveWater_82 {L : am_S} {n : Nat} {ls st : List Value} {M : am_M} {Q : am_Q} (h : am_B L mt_S_moveWater k_S_moveWater_82 n 82 ls st M Q) : am_R L mt_S_moveWater n 82 ls st M Q := am_go L mt_S_moveWater (fun h => by cases h) k_S_moveWater_82 n 82 ls st M Q o_S_moveWater_82 h
def k_S_moveWater_85 : List am_I := [(.iload 6, 2, 0, 0, 0), (.iconst 3, 1, 0, 0, 0), (.if_icmp .ge 82, 3, 0, 0, 0), (.aload_n 0, 1, 0, 0, 0), (.getfield 9, 3, 1, 0, 98), (.bipush 15, 2, 0, 0, 0), (.iload_n 1, 1, 0, 0, 0), (.iconst 3, 1, 0, 0, 0), (.imul, 1, 0, 0, 0), (.iadd, 1, 0, 0, 0), (.iload 6, 2, 0, 0, 0), (.iadd, 1, 0, 0, 0), (.iaload, 1, 0, 0, 0), (.iload 5, 2, 0, 0, 0), (.imul, 1, 0, 0, 0), (.iload 4, 2, 0, 0, 0), (.idiv, 1, 0, 0, 0), (.istore 7, 2, 0, 0, 0), (.aload_n 0, 1, 0, 0, 0), (.getfield 9, 3, 1, 0, 98), (.bipush 15, 2, 0, 0, 0), (.iload_n 1, 1, 0, 0, 0), (.iconst 3, 1, 0, 0, 0), (.imul, 1, 0, 0, 0), (.iadd, 1, 0, 0, 0), (.iload 6, 2, 0, 0, 0), (.iadd, 1, 0, 0, 0), (.dup2, 1, 0, 0, 0), (.iaload, 1, 0, 0, 0), (.iload 7, 2, 0, 0, 0), (.isub, 1, 0, 0, 0), (.iastore, 1, 0, 0, 0), (.aload_n 0, 1, 0, 0, 0), (.getfield 9, 3, 1, 0, 98), (.iload_n 2, 1, 0, 0, 0), (.iconst 5, 1, 0, 0, 0), (.if_icmp .ne 11, 3, 0, 0, 0), (.bipush 48, 2, 0, 0, 0), (.iload 6, 2, 0, 0, 0), (.iadd, 1, 0, 0, 0), (.goto 12, 3, 0, 0, 0)]
set_option maxRecDepth 20000 in
theorem o_S_moveWater_85 : am_okB mt_S_moveWater 85 k_S_moveWater_85 = true := by decide +kernel
theorem g_S_moveWater_85 {L : am_S} {n : Nat} {ls st : List Value} {M : am_M} {Q : am_Q} (h : am_B L mt_S_moveWater k_S_moveWater_85 n 85 ls st M Q) : am_R L mt_S_moveWater n 85 ls st M Q := am_go L mt_S_moveWater (fun h => by cases h) k_S_moveWater_85 n 85 ls st M Q o_S_moveWater_85 h
def k_S_moveWater_149 : List am_I := [(.bipush 15, 2, 0, 0, 0), (.iload_n 2, 1, 0, 0, 0), (.iconst 3, 1, 0, 0, 0), (.imul, 1, 0, 0, 0), (.iadd, 1, 0, 0, 0), (.iload 6, 2, 0, 0, 0), (.iadd, 1, 0, 0, 0)]
set_option maxRecDepth 20000 in
theorem o_S_moveWater_149 : am_okB mt_S_moveWater 149 k_S_moveWater_149 = true := by decide +kernel
theorem g_S_moveWater_149 {L : am_S} {n : Nat} {ls st : List Value} {M : am_M} {Q : am_Q} (h : am_B L mt_S_moveWater k_S_moveWater_149 n 149 ls st M Q) : am_R L mt_S_moveWater n 149 ls st M Q := am_go L mt_S_moveWater (fun h => by cases h) k_S_moveWater_149 n 149 ls st M Q o_S_moveWater_149 h
def k_S_moveWater_158 : List am_I := [(.dup2, 1, 0, 0, 0), (.iaload, 1, 0, 0, 0), (.iload 7, 2, 0, 0, 0), (.iadd, 1, 0, 0, 0), (.iastore, 1, 0, 0, 0), (.iinc 6 1, 3, 0, 0, 0), (.goto (-82), 3, 0, 0, 0)]
set_option maxRecDepth 20000 in
theorem o_S_moveWater_158 : am_okB mt_S_moveWater 158 k_S_moveWater_158 = true := by decide +kernel
theorem g_S_moveWater_158 {L : am_S} {n : Nat} {ls st : List Value} {M : am_M} {Q : am_Q} (h : am_B L mt_S_moveWater k_S_moveWater_158 n 158 ls st M Q) : am_R L mt_S_moveWater n 158 ls st M Q := am_go L mt_S_moveWater (fun h => by cases h) k_S_moveWater_158 n 158 ls st M Q o_S_moveWater_158 h
def k_S_moveWater_170 : List am_I := [(.aload_n 0, 1, 0, 0, 0), (.getfield 9, 3, 1, 0, 98), (.bipush 10, 2, 0, 0, 0), (.iload_n 1, 1, 0, 0, 0), (.iadd, 1, 0, 0, 0), (.dup2, 1, 0, 0, 0), (.iaload, 1, 0, 0, 0), (.iload 5, 2, 0, 0, 0), (.isub, 1, 0, 0, 0), (.iastore, 1, 0, 0, 0), (.aload_n 0, 1, 0, 0, 0), (.getfield 9, 3, 1, 0, 98), (.iload_n 2, 1, 0, 0, 0), (.iconst 5, 1, 0, 0, 0), (.if_icmp .ne 8, 3, 0, 0, 0), (.bipush 54, 2, 0, 0, 0), (.goto 7, 3, 0, 0, 0)]
set_option maxRecDepth 20000 in
theorem o_S_moveWater_170 : am_okB mt_S_moveWater 170 k_S_moveWater_170 = true := by decide +kernel
theorem g_S_moveWater_170 {L : am_S} {n : Nat} {ls st : List Value} {M : am_M} {Q : am_Q} (h : am_B L mt_S_moveWater k_S_moveWater_170 n 170 ls st M Q) : am_R L mt_S_moveWater n 170 ls st M Q := am_go L mt_S_moveWater (fun h => by cases h) k_S_moveWater_170 n 170 ls st M Q o_S_moveWater_170 h
def k_S_moveWater_198 : List am_I := [(.bipush 10, 2, 0, 0, 0), (.iload_n 2, 1, 0, 0, 0), (.iadd, 1, 0, 0, 0)]
set_option maxRecDepth 20000 in
theorem o_S_moveWater_198 : am_okB mt_S_moveWater 198 k_S_moveWater_198 = true := by decide +kernel
theorem g_S_moveWater_198 {L : am_S} {n : Nat} {ls st : List Value} {M : am_M} {Q : am_Q} (h : am_B L mt_S_moveWater k_S_moveWater_198 n 198 ls st M Q) : am_R L mt_S_moveWater n 198 ls st M Q := am_go L mt_S_moveWater (fun h => by cases h) k_S_moveWater_198 n 198 ls st M Q o_S_moveWater_198 h
def k_S_moveWater_202 : List am_I := [(.dup2, 1, 0, 0, 0), (.iaload, 1, 0, 0, 0), (.iload 5, 2, 0, 0, 0), (.iadd, 1, 0, 0, 0), (.iastore, 1, 0, 0, 0), (.iload 5, 2, 0, 0, 0), (.ireturn, 1, 0, 0, 0)]
set_option maxRecDepth 20000 in
theorem o_S_moveWater_202 : am_okB mt_S_moveWater 202 k_S_moveWater_202 = true := by decide +kernel
theorem g_S_moveWater_202 {L : am_S} {n : Nat} {ls st : List Value} {M : am_M} {Q : am_Q} (h : am_B L mt_S_moveWater k_S_moveWater_202 n 202 ls st M Q) : am_R L mt_S_moveWater n 202 ls st M Q := am_go L mt_S_moveWater (fun h => by cases h) k_S_moveWater_202 n 202 ls st M Q o_S_moveWater_202 h
def k_S_isOpen_0 : List am_I := [(.iload_n 1, 1, 0, 0, 0), (.bipush 57, 2, 0, 0, 0), (.if_icmp .lt 39, 3, 0, 0, 0), (.iload_n 1, 1, 0, 0, 0), (.iconst 4, 1, 0, 0, 0), (.iadd, 1, 0, 0, 0), (.bipush 105, 2, 0, 0, 0), (.if_icmp .ge 31, 3, 0, 0, 0), (.iload_n 2, 1, 0, 0, 0), (.aload_n 0, 1, 0, 0, 0), (.getfield 9, 3, 1, 0, 98), (.iload_n 1, 1, 0, 0, 0), (.iconst 3, 1, 0, 0, 0), (.iadd, 1, 0, 0, 0), (.iaload, 1, 0, 0, 0), (.if_icmp .lt 19, 3, 0, 0, 0), (.iload_n 2, 1, 0, 0, 0), (.aload_n 0, 1, 0, 0, 0), (.getfield 9, 3, 1, 0, 98), (.iload_n 1, 1, 0, 0, 0), (.iconst 4, 1, 0, 0, 0), (.iadd, 1, 0, 0, 0), (.iaload, 1, 0, 0, 0), (.if_icmp .gt 7, 3, 0, 0, 0), (.iconst 1, 1, 0, 0, 0), (.goto 4, 3, 0, 0, 0)]
set_option maxRecDepth 20000 in
theorem o_S_isOpen_0 : am_okB mt_S_isOpen 0 k_S_isOpen_0 = true := by decide +kernel
theorem g_S_isOpen_0 {L : am_S} {n : Nat} {ls st : List Value} {M : am_M} {Q : am_Q} (h : am_B L mt_S_isOpen k_S_isOpen_0 n 0 ls st M Q) : am_R L mt_S_isOpen n 0 ls st M Q := am_go L mt_S_isOpen (fun h => by cases h) k_S_isOpen_0 n 0 ls st M Q o_S_isOpen_0 h
def k_S_isOpen_42 : List am_I := [(.iconst 0, 1, 0, 0, 0)]
set_option maxRecDepth 20000 in
theorem o_S_isOpen_42 : am_okB mt_S_isOpen 42 k_S_isOpen_42 = true := by decide +kernel
theorem g_S_isOpen_42 {L : am_S} {n : Nat} {ls st : List Value} {M : am_M} {Q : am_Q} (h : am_B L mt_S_isOpen k_S_isOpen_42 n 42 ls st M Q) : am_R L mt_S_isOpen n 42 ls st M Q := am_go L mt_S_isOpen (fun h => by cases h) k_S_isOpen_42 n 42 ls st M Q o_S_isOpen_42 h
def k_S_isOpen_43 : List am_I := [(.ireturn, 1, 0, 0, 0)]
set_option maxRecDepth 20000 in
theorem o_S_isOpen_43 : am_okB mt_S_isOpen 43 k_S_isOpen_43 = true := by decide +kernel
theorem g_S_isOpen_43 {L : am_S} {n : Nat} {ls st : List Value} {M : am_M} {Q : am_Q} (h : am_B L mt_S_isOpen k_S_isOpen_43 n 43 ls st M Q) : am_R L mt_S_isOpen n 43 ls st M Q := am_go L mt_S_isOpen (fun h => by cases h) k_S_isOpen_43 n 43 ls st M Q o_S_isOpen_43 h
def k_S_grainsInAll_0 : List am_I := [(.iconst 0, 1, 0, 0, 0), (.istore_n 2, 1, 0, 0, 0), (.iconst 0, 1, 0, 0, 0), (.istore_n 3, 1, 0, 0, 0)]
set_option maxRecDepth 20000 in
theorem o_S_grainsInAll_0 : am_okB mt_S_grainsInAll 0 k_S_grainsInAll_0 = true := by decide +kernel
theorem g_S_grainsInAll_0 {L : am_S} {n : Nat} {ls st : List Value} {M : am_M} {Q : am_Q} (h : am_B L mt_S_grainsInAll k_S_grainsInAll_0 n 0 ls st M Q) : am_R L mt_S_grainsInAll n 0 ls st M Q := am_go L mt_S_grainsInAll (fun h => by cases h) k_S_grainsInAll_0 n 0 ls st M Q o_S_grainsInAll_0 h
def k_S_grainsInAll_4 : List am_I := [(.iload_n 3, 1, 0, 0, 0), (.iconst 5, 1, 0, 0, 0), (.if_icmp .ge 38, 3, 0, 0, 0), (.iload_n 1, 1, 0, 0, 0), (.iload_n 3, 1, 0, 0, 0), (.iconst 3, 1, 0, 0, 0), (.imul, 1, 0, 0, 0), (.iadd, 1, 0, 0, 0), (.istore 4, 2, 0, 0, 0), (.iload 4, 2, 0, 0, 0), (.ifCond .lt 20, 3, 0, 0, 0), (.iload 4, 2, 0, 0, 0), (.bipush 105, 2, 0, 0, 0), (.if_icmp .ge 13, 3, 0, 0, 0), (.iload_n 2, 1, 0, 0, 0), (.aload_n 0, 1, 0, 0, 0), (.getfield 9, 3, 1, 0, 98), (.iload 4, 2, 0, 0, 0), (.iaload, 1, 0, 0, 0), (.iadd, 1, 0, 0, 0), (.istore_n 2, 1, 0, 0, 0)]
set_option maxRecDepth 20000 in
theorem o_S_grainsInAll_4 : am_okB mt_S_grainsInAll 4 k_S_grainsInAll_4 = true := by decide +kernel
theorem g_S_grainsInAll_4 {L : am_S} {n : Nat} {ls st : List Value} {M : am_M} {Q : am_Q} (h : am_B L mt_S_grainsInAll k_S_grainsInAll_4 n 4 ls st M Q) : am_R L mt_S_grainsInAll n 4 ls st M Q := am_go L mt_S_grainsInAll (fun h => by cases h) k_S_grainsInAll_4 n 4 ls st M Q o_S_grainsInAll_4 h
def k_S_grainsInAll_38 : List am_I := [(.iinc 3 1, 3, 0, 0, 0), (.goto (-37), 3, 0, 0, 0)]
set_option maxRecDepth 20000 in
theorem o_S_grainsInAll_38 : am_okB mt_S_grainsInAll 38 k_S_grainsInAll_38 = true := by decide +kernel
theorem g_S_grainsInAll_38 {L : am_S} {n : Nat} {ls st : List Value} {M : am_M} {Q : am_Q} (h : am_B L mt_S_grainsInAll k_S_grainsInAll_38 n 38 ls st M Q) : am_R L mt_S_grainsInAll n 38 ls st M Q := am_go L mt_S_grainsInAll (fun h => by cases h) k_S_grainsInAll_38 n 38 ls st M Q o_S_grainsInAll_38 h
def k_S_grainsInAll_44 : List am_I := [(.iload_n 2, 1, 0, 0, 0), (.ireturn, 1, 0, 0, 0)]
set_option maxRecDepth 20000 in
theorem o_S_grainsInAll_44 : am_okB mt_S_grainsInAll 44 k_S_grainsInAll_44 = true := by decide +kernel
theorem g_S_grainsInAll_44 {L : am_S} {n : Nat} {ls st : List Value} {M : am_M} {Q : am_Q} (h : am_B L mt_S_grainsInAll k_S_grainsInAll_44 n 44 ls st M Q) : am_R L mt_S_grainsInAll n 44 ls st M Q := am_go L mt_S_grainsInAll (fun h => by cases h) k_S_grainsInAll_44 n 44 ls st M Q o_S_grainsInAll_44 h
def k_S_strongestVat_0 : List am_I := [(.iload_n 1, 1, 0, 0, 0), (.ifCond .lt 8, 3, 0, 0, 0), (.iload_n 1, 1, 0, 0, 0), (.iconst 3, 1, 0, 0, 0), (.if_icmp .lt 5, 3, 0, 0, 0)]
set_option maxRecDepth 20000 in
theorem o_S_strongestVat_0 : am_okB mt_S_strongestVat 0 k_S_strongestVat_0 = true := by decide +kernel
theorem g_S_strongestVat_0 {L : am_S} {n : Nat} {ls st : List Value} {M : am_M} {Q : am_Q} (h : am_B L mt_S_strongestVat k_S_strongestVat_0 n 0 ls st M Q) : am_R L mt_S_strongestVat n 0 ls st M Q := am_go L mt_S_strongestVat (fun h => by cases h) k_S_strongestVat_0 n 0 ls st M Q o_S_strongestVat_0 h
def k_S_strongestVat_9 : List am_I := [(.iconst (-1), 1, 0, 0, 0), (.ireturn, 1, 0, 0, 0)]
set_option maxRecDepth 20000 in
theorem o_S_strongestVat_9 : am_okB mt_S_strongestVat 9 k_S_strongestVat_9 = true := by decide +kernel
theorem g_S_strongestVat_9 {L : am_S} {n : Nat} {ls st : List Value} {M : am_M} {Q : am_Q} (h : am_B L mt_S_strongestVat k_S_strongestVat_9 n 9 ls st M Q) : am_R L mt_S_strongestVat n 9 ls st M Q := am_go L mt_S_strongestVat (fun h => by cases h) k_S_strongestVat_9 n 9 ls st M Q o_S_strongestVat_9 h
def k_S_strongestVat_11 : List am_I := [(.iconst (-1), 1, 0, 0, 0), (.istore_n 2, 1, 0, 0, 0), (.iconst 0, 1, 0, 0, 0), (.istore_n 3, 1, 0, 0, 0), (.iconst 1, 1, 0, 0, 0), (.istore 4, 2, 0, 0, 0), (.iconst 0, 1, 0, 0, 0), (.istore 5, 2, 0, 0, 0)]
set_option maxRecDepth 20000 in
theorem o_S_strongestVat_11 : am_okB mt_S_strongestVat 11 k_S_strongestVat_11 = true := by decide +kernel
theorem g_S_strongestVat_11 {L : am_S} {n : Nat} {ls st : List Value} {M : am_M} {Q : am_Q} (h : am_B L mt_S_strongestVat k_S_strongestVat_11 n 11 ls st M Q) : am_R L mt_S_strongestVat n 11 ls st M Q := am_go L mt_S_strongestVat (fun h => by cases h) k_S_strongestVat_11 n 11 ls st M Q o_S_strongestVat_11 h
def k_S_strongestVat_21 : List am_I := [(.iload 5, 2, 0, 0, 0), (.iconst 5, 1, 0, 0, 0), (.if_icmp .ge 69, 3, 0, 0, 0), (.aload_n 0, 1, 0, 0, 0), (.getfield 9, 3, 1, 0, 98), (.bipush 10, 2, 0, 0, 0), (.iload 5, 2, 0, 0, 0), (.iadd, 1, 0, 0, 0), (.iaload, 1, 0, 0, 0), (.istore 6, 2, 0, 0, 0), (.aload_n 0, 1, 0, 0, 0), (.getfield 9, 3, 1, 0, 98), (.bipush 15, 2, 0, 0, 0), (.iload 5, 2, 0, 0, 0), (.iconst 3, 1, 0, 0, 0), (.imul, 1, 0, 0, 0), (.iadd, 1, 0, 0, 0), (.iload_n 1, 1, 0, 0, 0), (.iadd, 1, 0, 0, 0), (.iaload, 1, 0, 0, 0), (.istore 7, 2, 0, 0, 0), (.iload 6, 2, 0, 0, 0), (.ifCond .le 30, 3, 0, 0, 0), (.iload_n 2, 1, 0, 0, 0), (.iconst (-1), 1, 0, 0, 0), (.if_icmp .eq 15, 3, 0, 0, 0), (.iload 7, 2, 0, 0, 0), (.iload 4, 2, 0, 0, 0), (.imul, 1, 0, 0, 0), (.iload_n 3, 1, 0, 0, 0), (.iload 6, 2, 0, 0, 0), (.imul, 1, 0, 0, 0), (.if_icmp .le 13, 3, 0, 0, 0)]
set_option maxRecDepth 20000 in
theorem o_S_strongestVat_21 : am_okB mt_S_strongestVat 21 k_S_strongestVat_21 = true := by decide +kernel
theorem g_S_strongestVat_21 {L : am_S} {n : Nat} {ls st : List Value} {M : am_M} {Q : am_Q} (h : am_B L mt_S_strongestVat k_S_strongestVat_21 n 21 ls st M Q) : am_R L mt_S_strongestVat n 21 ls st M Q := am_go L mt_S_strongestVat (fun h => by cases h) k_S_strongestVat_21 n 21 ls st M Q o_S_strongestVat_21 h
def k_S_strongestVat_77 : List am_I := [(.iload 5, 2, 0, 0, 0), (.istore_n 2, 1, 0, 0, 0), (.iload 7, 2, 0, 0, 0), (.istore_n 3, 1, 0, 0, 0), (.iload 6, 2, 0, 0, 0), (.istore 4, 2, 0, 0, 0)]
set_option maxRecDepth 20000 in
theorem o_S_strongestVat_77 : am_okB mt_S_strongestVat 77 k_S_strongestVat_77 = true := by decide +kernel
theorem g_S_strongestVat_77 {L : am_S} {n : Nat} {ls st : List Value} {M : am_M} {Q : am_Q} (h : am_B L mt_S_strongestVat k_S_strongestVat_77 n 77 ls st M Q) : am_R L mt_S_strongestVat n 77 ls st M Q := am_go L mt_S_strongestVat (fun h => by cases h) k_S_strongestVat_77 n 77 ls st M Q o_S_strongestVat_77 h
def k_S_strongestVat_87 : List am_I := [(.iinc 5 1, 3, 0, 0, 0), (.goto (-69), 3, 0, 0, 0)]
set_option maxRecDepth 20000 in
theorem o_S_strongestVat_87 : am_okB mt_S_strongestVat 87 k_S_strongestVat_87 = true := by decide +kernel
theorem g_S_strongestVat_87 {L : am_S} {n : Nat} {ls st : List Value} {M : am_M} {Q : am_Q} (h : am_B L mt_S_strongestVat k_S_strongestVat_87 n 87 ls st M Q) : am_R L mt_S_strongestVat n 87 ls st M Q := am_go L mt_S_strongestVat (fun h => by cases h) k_S_strongestVat_87 n 87 ls st M Q o_S_strongestVat_87 h
def k_S_strongestVat_93 : List am_I := [(.iload_n 2, 1, 0, 0, 0), (.ireturn, 1, 0, 0, 0)]
set_option maxRecDepth 20000 in
theorem o_S_strongestVat_93 : am_okB mt_S_strongestVat 93 k_S_strongestVat_93 = true := by decide +kernel
theorem g_S_strongestVat_93 {L : am_S} {n : Nat} {ls st : List Value} {M : am_M} {Q : am_Q} (h : am_B L mt_S_strongestVat k_S_strongestVat_93 n 93 ls st M Q) : am_R L mt_S_strongestVat n 93 ls st M Q := am_go L mt_S_strongestVat (fun h => by cases h) k_S_strongestVat_93 n 93 ls st M Q o_S_strongestVat_93 h
def k_S_isVat_0 : List am_I := [(.iload_n 0, 1, 0, 0, 0), (.ifCond .lt 12, 3, 0, 0, 0), (.iload_n 0, 1, 0, 0, 0), (.iconst 5, 1, 0, 0, 0), (.if_icmp .ge 7, 3, 0, 0, 0), (.iconst 1, 1, 0, 0, 0), (.goto 4, 3, 0, 0, 0)]
set_option maxRecDepth 20000 in
theorem o_S_isVat_0 : am_okB mt_S_isVat 0 k_S_isVat_0 = true := by decide +kernel
theorem g_S_isVat_0 {L : am_S} {n : Nat} {ls st : List Value} {M : am_M} {Q : am_Q} (h : am_B L mt_S_isVat k_S_isVat_0 n 0 ls st M Q) : am_R L mt_S_isVat n 0 ls st M Q := am_go L mt_S_isVat (fun h => by cases h) k_S_isVat_0 n 0 ls st M Q o_S_isVat_0 h
def k_S_isVat_13 : List am_I := [(.iconst 0, 1, 0, 0, 0)]
set_option maxRecDepth 20000 in
theorem o_S_isVat_13 : am_okB mt_S_isVat 13 k_S_isVat_13 = true := by decide +kernel
theorem g_S_isVat_13 {L : am_S} {n : Nat} {ls st : List Value} {M : am_M} {Q : am_Q} (h : am_B L mt_S_isVat k_S_isVat_13 n 13 ls st M Q) : am_R L mt_S_isVat n 13 ls st M Q := am_go L mt_S_isVat (fun h => by cases h) k_S_isVat_13 n 13 ls st M Q o_S_isVat_13 h
def k_S_isVat_14 : List am_I := [(.ireturn, 1, 0, 0, 0)]
set_option maxRecDepth 20000 in
theorem o_S_isVat_14 : am_okB mt_S_isVat 14 k_S_isVat_14 = true := by decide +kernel
theorem g_S_isVat_14 {L : am_S} {n : Nat} {ls st : List Value} {M : am_M} {Q : am_Q} (h : am_B L mt_S_isVat k_S_isVat_14 n 14 ls st M Q) : am_R L mt_S_isVat n 14 ls st M Q := am_go L mt_S_isVat (fun h => by cases h) k_S_isVat_14 n 14 ls st M Q o_S_isVat_14 h
def k_T_readCodes_0 : List am_I := [(.aload_n 0, 1, 0, 0, 0), (.iconst 0, 1, 0, 0, 0), (.putfield 22, 3, 2, 3, 143), (.aload_n 0, 1, 0, 0, 0), (.iconst 0, 1, 0, 0, 0), (.putfield 28, 3, 2, 5, 146), (.aload_n 0, 1, 0, 0, 0), (.iconst (-1), 1, 0, 0, 0), (.putfield 31, 3, 2, 6, 147), (.iconst 0, 1, 0, 0, 0), (.istore_n 1, 1, 0, 0, 0)]
set_option maxRecDepth 20000 in
theorem o_T_readCodes_0 : am_okB mt_T_readCodes 0 k_T_readCodes_0 = true := by decide +kernel
theorem g_T_readCodes_0 {L : am_S} {n : Nat} {ls st : List Value} {M : am_M} {Q : am_Q} (h : am_B L mt_T_readCodes k_T_readCodes_0 n 0 ls st M Q) : am_R L mt_T_readCodes n 0 ls st M Q := am_go L mt_T_readCodes (fun h => by cases h) k_T_readCodes_0 n 0 ls st M Q o_T_readCodes_0 h
def k_T_readCodes_17 : List am_I := [(.iload_n 1, 1, 0, 0, 0), (.aload_n 0, 1, 0, 0, 0), (.getfield 15, 3, 2, 1, 139), (.if_icmp .ge 30, 3, 0, 0, 0), (.iload_n 1, 1, 0, 0, 0), (.bipush 60, 2, 0, 0, 0), (.if_icmp .ge 24, 3, 0, 0, 0), (.aload_n 0, 1, 0, 0, 0), (.aload_n 0, 1, 0, 0, 0), (.getfield 9, 3, 2, 0, 137), (.iload_n 1, 1, 0, 0, 0), (.iaload, 1, 0, 0, 0), (.invokevirtual 34, 3, 25, 2, 204), (.ifCond .ne 5, 3, 0, 0, 0), (.iload_n 1, 1, 0, 0, 0), (.ireturn, 1, 0, 0, 0)]
set_option maxRecDepth 20000 in
theorem o_T_readCodes_17 : am_okB mt_T_readCodes 17 k_T_readCodes_17 = true := by decide +kernel
theorem g_T_readCodes_17 {L : am_S} {n : Nat} {ls st : List Value} {M : am_M} {Q : am_Q} (h : am_B L mt_T_readCodes k_T_readCodes_17 n 17 ls st M Q) : am_R L mt_T_readCodes n 17 ls st M Q := am_go L mt_T_readCodes (fun h => by cases h) k_T_readCodes_17 n 17 ls st M Q o_T_readCodes_17 h
def k_T_readCodes_46 : List am_I := [(.iinc 1 1, 3, 0, 0, 0), (.goto (-32), 3, 0, 0, 0)]
set_option maxRecDepth 20000 in
theorem o_T_readCodes_46 : am_okB mt_T_readCodes 46 k_T_readCodes_46 = true := by decide +kernel
theorem g_T_readCodes_46 {L : am_S} {n : Nat} {ls st : List Value} {M : am_M} {Q : am_Q} (h : am_B L mt_T_readCodes k_T_readCodes_46 n 46 ls st M Q) : am_R L mt_T_readCodes n 46 ls st M Q := am_go L mt_T_readCodes (fun h => by cases h) k_T_readCodes_46 n 46 ls st M Q o_T_readCodes_46 h
def k_T_readCodes_52 : List am_I := [(.aload_n 0, 1, 0, 0, 0), (.getfield 15, 3, 2, 1, 139), (.ireturn, 1, 0, 0, 0)]
set_option maxRecDepth 20000 in
theorem o_T_readCodes_52 : am_okB mt_T_readCodes 52 k_T_readCodes_52 = true := by decide +kernel
theorem g_T_readCodes_52 {L : am_S} {n : Nat} {ls st : List Value} {M : am_M} {Q : am_Q} (h : am_B L mt_T_readCodes k_T_readCodes_52 n 52 ls st M Q) : am_R L mt_T_readCodes n 52 ls st M Q := am_go L mt_T_readCodes (fun h => by cases h) k_T_readCodes_52 n 52 ls st M Q o_T_readCodes_52 h
def k_T_endsWell_0 : List am_I := [(.aload_n 0, 1, 0, 0, 0), (.getfield 28, 3, 2, 5, 146), (.iconst 4, 1, 0, 0, 0), (.if_icmp .ne 14, 3, 0, 0, 0), (.aload_n 0, 1, 0, 0, 0), (.invokevirtual 38, 3, 27, 1, 265), (.ifCond .eq 7, 3, 0, 0, 0), (.iconst 1, 1, 0, 0, 0), (.goto 4, 3, 0, 0, 0)]
set_option maxRecDepth 20000 in
theorem o_T_endsWell_0 : am_okB mt_T_endsWell 0 k_T_endsWell_0 = true := by decide +kernel
theorem g_T_endsWell_0 {L : am_S} {n : Nat} {ls st : List Value} {M : am_M} {Q : am_Q} (h : am_B L mt_T_endsWell k_T_endsWell_0 n 0 ls st M Q) : am_R L mt_T_endsWell n 0 ls st M Q := am_go L mt_T_endsWell (fun h => by cases h) k_T_endsWell_0 n 0 ls st M Q o_T_endsWell_0 h
def k_T_endsWell_19 : List am_I := [(.iconst 0, 1, 0, 0, 0)]
set_option maxRecDepth 20000 in
theorem o_T_endsWell_19 : am_okB mt_T_endsWell 19 k_T_endsWell_19 = true := by decide +kernel
theorem g_T_endsWell_19 {L : am_S} {n : Nat} {ls st : List Value} {M : am_M} {Q : am_Q} (h : am_B L mt_T_endsWell k_T_endsWell_19 n 19 ls st M Q) : am_R L mt_T_endsWell n 19 ls st M Q := am_go L mt_T_endsWell (fun h => by cases h) k_T_endsWell_19 n 19 ls st M Q o_T_endsWell_19 h
def k_T_endsWell_20 : List am_I := [(.ireturn, 1, 0, 0, 0)]
set_option maxRecDepth 20000 in
theorem o_T_endsWell_20 : am_okB mt_T_endsWell 20 k_T_endsWell_20 = true := by decide +kernel
theorem g_T_endsWell_20 {L : am_S} {n : Nat} {ls st : List Value} {M : am_M} {Q : am_Q} (h : am_B L mt_T_endsWell k_T_endsWell_20 n 20 ls st M Q) : am_R L mt_T_endsWell n 20 ls st M Q := am_go L mt_T_endsWell (fun h => by cases h) k_T_endsWell_20 n 20 ls st M Q o_T_endsWell_20 h
def k_T_takesCode_0 : List am_I := [(.aload_n 0, 1, 0, 0, 0), (.getfield 28, 3, 2, 5, 146), (.ifCond .lt 11, 3, 0, 0, 0), (.aload_n 0, 1, 0, 0, 0), (.getfield 28, 3, 2, 5, 146), (.iconst 5, 1, 0, 0, 0), (.if_icmp .lt 5, 3, 0, 0, 0)]
set_option maxRecDepth 20000 in
theorem o_T_takesCode_0 : am_okB mt_T_takesCode 0 k_T_takesCode_0 = true := by decide +kernel
theorem g_T_takesCode_0 {L : am_S} {n : Nat} {ls st : List Value} {M : am_M} {Q : am_Q} (h : am_B L mt_T_takesCode k_T_takesCode_0 n 0 ls st M Q) : am_R L mt_T_takesCode n 0 ls st M Q := am_go L mt_T_takesCode (fun h => by cases h) k_T_takesCode_0 n 0 ls st M Q o_T_takesCode_0 h
def k_T_takesCode_15 : List am_I := [(.iconst 0, 1, 0, 0, 0), (.ireturn, 1, 0, 0, 0)]
set_option maxRecDepth 20000 in
theorem o_T_takesCode_15 : am_okB mt_T_takesCode 15 k_T_takesCode_15 = true := by decide +kernel
theorem g_T_takesCode_15 {L : am_S} {n : Nat} {ls st : List Value} {M : am_M} {Q : am_Q} (h : am_B L mt_T_takesCode k_T_takesCode_15 n 15 ls st M Q) : am_R L mt_T_takesCode n 15 ls st M Q := am_go L mt_T_takesCode (fun h => by cases h) k_T_takesCode_15 n 15 ls st M Q o_T_takesCode_15 h
def k_T_takesCode_17 : List am_I := [(.iload_n 1, 1, 0, 0, 0), (.bipush 48, 2, 0, 0, 0), (.if_icmp .lt 18, 3, 0, 0, 0), (.iload_n 1, 1, 0, 0, 0), (.bipush 57, 2, 0, 0, 0), (.if_icmp .gt 12, 3, 0, 0, 0), (.aload_n 0, 1, 0, 0, 0), (.iload_n 1, 1, 0, 0, 0), (.bipush 48, 2, 0, 0, 0), (.isub, 1, 0, 0, 0), (.invokevirtual 42, 3, 26, 2, 208), (.ireturn, 1, 0, 0, 0)]
set_option maxRecDepth 20000 in
theorem o_T_takesCode_17 : am_okB mt_T_takesCode 17 k_T_takesCode_17 = true := by decide +kernel
theorem g_T_takesCode_17 {L : am_S} {n : Nat} {ls st : List Value} {M : am_M} {Q : am_Q} (h : am_B L mt_T_takesCode k_T_takesCode_17 n 17 ls st M Q) : am_R L mt_T_takesCode n 17 ls st M Q := am_go L mt_T_takesCode (fun h => by cases h) k_T_takesCode_17 n 17 ls st M Q o_T_takesCode_17 h
def k_T_takesCode_38 : List am_I := [(.iload_n 1, 1, 0, 0, 0), (.ldc 45, 2, 28, 1, 224), (.aload_n 0, 1, 0, 0, 0), (.getfield 28, 3, 2, 5, 146), (.invokevirtual 47, 3, 204, 2, 225), (.if_icmp .ne 10, 3, 0, 0, 0), (.aload_n 0, 1, 0, 0, 0), (.invokevirtual 38, 3, 27, 1, 265), (.ifCond .ne 5, 3, 0, 0, 0)]
set_option maxRecDepth 20000 in
theorem o_T_takesCode_38 : am_okB mt_T_takesCode 38 k_T_takesCode_38 = true := by decide +kernel
theorem g_T_takesCode_38 {L : am_S} {n : Nat} {ls st : List Value} {M : am_M} {Q : am_Q} (h : am_B L mt_T_takesCode k_T_takesCode_38 n 38 ls st M Q) : am_R L mt_T_takesCode n 38 ls st M Q := am_go L mt_T_takesCode (fun h => by cases h) k_T_takesCode_38 n 38 ls st M Q o_T_takesCode_38 h
def k_T_takesCode_58 : List am_I := [(.iconst 0, 1, 0, 0, 0), (.ireturn, 1, 0, 0, 0)]
set_option maxRecDepth 20000 in
theorem o_T_takesCode_58 : am_okB mt_T_takesCode 58 k_T_takesCode_58 = true := by decide +kernel
theorem g_T_takesCode_58 {L : am_S} {n : Nat} {ls st : List Value} {M : am_M} {Q : am_Q} (h : am_B L mt_T_takesCode k_T_takesCode_58 n 58 ls st M Q) : am_R L mt_T_takesCode n 58 ls st M Q := am_go L mt_T_takesCode (fun h => by cases h) k_T_takesCode_58 n 58 ls st M Q o_T_takesCode_58 h
def k_T_takesCode_60 : List am_I := [(.aload_n 0, 1, 0, 0, 0), (.iconst (-1), 1, 0, 0, 0), (.putfield 31, 3, 2, 6, 147), (.aload_n 0, 1, 0, 0, 0), (.getfield 28, 3, 2, 5, 146), (.iconst 4, 1, 0, 0, 0), (.if_icmp .ne 21, 3, 0, 0, 0), (.aload_n 0, 1, 0, 0, 0), (.dup, 1, 0, 0, 0), (.getfield 22, 3, 2, 3, 143), (.iconst 1, 1, 0, 0, 0), (.iadd, 1, 0, 0, 0), (.putfield 22, 3, 2, 3, 143), (.aload_n 0, 1, 0, 0, 0), (.iconst 0, 1, 0, 0, 0), (.putfield 28, 3, 2, 5, 146), (.goto 13, 3, 0, 0, 0)]
set_option maxRecDepth 20000 in
theorem o_T_takesCode_60 : am_okB mt_T_takesCode 60 k_T_takesCode_60 = true := by decide +kernel
theorem g_T_takesCode_60 {L : am_S} {n : Nat} {ls st : List Value} {M : am_M} {Q : am_Q} (h : am_B L mt_T_takesCode k_T_takesCode_60 n 60 ls st M Q) : am_R L mt_T_takesCode n 60 ls st M Q := am_go L mt_T_takesCode (fun h => by cases h) k_T_takesCode_60 n 60 ls st M Q o_T_takesCode_60 h
def k_T_takesCode_91 : List am_I := [(.aload_n 0, 1, 0, 0, 0), (.dup, 1, 0, 0, 0), (.getfield 28, 3, 2, 5, 146), (.iconst 1, 1, 0, 0, 0), (.iadd, 1, 0, 0, 0), (.putfield 28, 3, 2, 5, 146)]
set_option maxRecDepth 20000 in
theorem o_T_takesCode_91 : am_okB mt_T_takesCode 91 k_T_takesCode_91 = true := by decide +kernel
theorem g_T_takesCode_91 {L : am_S} {n : Nat} {ls st : List Value} {M : am_M} {Q : am_Q} (h : am_B L mt_T_takesCode k_T_takesCode_91 n 91 ls st M Q) : am_R L mt_T_takesCode n 91 ls st M Q := am_go L mt_T_takesCode (fun h => by cases h) k_T_takesCode_91 n 91 ls st M Q o_T_takesCode_91 h
def k_T_takesCode_101 : List am_I := [(.iconst 1, 1, 0, 0, 0), (.ireturn, 1, 0, 0, 0)]
set_option maxRecDepth 20000 in
theorem o_T_takesCode_101 : am_okB mt_T_takesCode 101 k_T_takesCode_101 = true := by decide +kernel
theorem g_T_takesCode_101 {L : am_S} {n : Nat} {ls st : List Value} {M : am_M} {Q : am_Q} (h : am_B L mt_T_takesCode k_T_takesCode_101 n 101 ls st M Q) : am_R L mt_T_takesCode n 101 ls st M Q := am_go L mt_T_takesCode (fun h => by cases h) k_T_takesCode_101 n 101 ls st M Q o_T_takesCode_101 h
def k_T_takesDigit_0 : List am_I := [(.aload_n 0, 1, 0, 0, 0), (.getfield 28, 3, 2, 5, 146), (.ifCond .lt 18, 3, 0, 0, 0), (.aload_n 0, 1, 0, 0, 0), (.getfield 28, 3, 2, 5, 146), (.iconst 5, 1, 0, 0, 0), (.if_icmp .ge 10, 3, 0, 0, 0), (.aload_n 0, 1, 0, 0, 0), (.getfield 31, 3, 2, 6, 147), (.ifCond .ne 5, 3, 0, 0, 0)]
set_option maxRecDepth 20000 in
theorem o_T_takesDigit_0 : am_okB mt_T_takesDigit 0 k_T_takesDigit_0 = true := by decide +kernel
theorem g_T_takesDigit_0 {L : am_S} {n : Nat} {ls st : List Value} {M : am_M} {Q : am_Q} (h : am_B L mt_T_takesDigit k_T_takesDigit_0 n 0 ls st M Q) : am_R L mt_T_takesDigit n 0 ls st M Q := am_go L mt_T_takesDigit (fun h => by cases h) k_T_takesDigit_0 n 0 ls st M Q o_T_takesDigit_0 h
def k_T_takesDigit_22 : List am_I := [(.iconst 0, 1, 0, 0, 0), (.ireturn, 1, 0, 0, 0)]
set_option maxRecDepth 20000 in
theorem o_T_takesDigit_22 : am_okB mt_T_takesDigit 22 k_T_takesDigit_22 = true := by decide +kernel
theorem g_T_takesDigit_22 {L : am_S} {n : Nat} {ls st : List Value} {M : am_M} {Q : am_Q} (h : am_B L mt_T_takesDigit k_T_takesDigit_22 n 22 ls st M Q) : am_R L mt_T_takesDigit n 22 ls st M Q := am_go L mt_T_takesDigit (fun h => by cases h) k_T_takesDigit_22 n 22 ls st M Q o_T_takesDigit_22 h
def k_T_takesDigit_24 : List am_I := [(.aload_n 0, 1, 0, 0, 0), (.getfield 31, 3, 2, 6, 147), (.iconst (-1), 1, 0, 0, 0), (.if_icmp .ne 7, 3, 0, 0, 0), (.iload_n 1, 1, 0, 0, 0), (.goto 12, 3, 0, 0, 0)]
set_option maxRecDepth 20000 in
theorem o_T_takesDigit_24 : am_okB mt_T_takesDigit 24 k_T_takesDigit_24 = true := by decide +kernel
theorem g_T_takesDigit_24 {L : am_S} {n : Nat} {ls st : List Value} {M : am_M} {Q : am_Q} (h : am_B L mt_T_takesDigit k_T_takesDigit_24 n 24 ls st M Q) : am_R L mt_T_takesDigit n 24 ls st M Q := am_go L mt_T_takesDigit (fun h => by cases h) k_T_takesDigit_24 n 24 ls st M Q o_T_takesDigit_24 h
def k_T_takesDigit_36 : List am_I := [(.aload_n 0, 1, 0, 0, 0), (.getfield 31, 3, 2, 6, 147), (.bipush 10, 2, 0, 0, 0), (.imul, 1, 0, 0, 0), (.iload_n 1, 1, 0, 0, 0), (.iadd, 1, 0, 0, 0)]
set_option maxRecDepth 20000 in
theorem o_T_takesDigit_36 : am_okB mt_T_takesDigit 36 k_T_takesDigit_36 = true := by decide +kernel
theorem g_T_takesDigit_36 {L : am_S} {n : Nat} {ls st : List Value} {M : am_M} {Q : am_Q} (h : am_B L mt_T_takesDigit k_T_takesDigit_36 n 36 ls st M Q) : am_R L mt_T_takesDigit n 36 ls st M Q := am_go L mt_T_takesDigit (fun h => by cases h) k_T_takesDigit_36 n 36 ls st M Q o_T_takesDigit_36 h
def k_T_takesDigit_45 : List am_I := [(.istore_n 2, 1, 0, 0, 0), (.aload_n 0, 1, 0, 0, 0), (.iload_n 2, 1, 0, 0, 0), (.invokevirtual 53, 3, 28, 2, 212), (.ifCond .ne 5, 3, 0, 0, 0), (.iconst 0, 1, 0, 0, 0), (.ireturn, 1, 0, 0, 0)]
set_option maxRecDepth 20000 in
theorem o_T_takesDigit_45 : am_okB mt_T_takesDigit 45 k_T_takesDigit_45 = true := by decide +kernel
theorem g_T_takesDigit_45 {L : am_S} {n : Nat} {ls st : List Value} {M : am_M} {Q : am_Q} (h : am_B L mt_T_takesDigit k_T_takesDigit_45 n 45 ls st M Q) : am_R L mt_T_takesDigit n 45 ls st M Q := am_go L mt_T_takesDigit (fun h => by cases h) k_T_takesDigit_45 n 45 ls st M Q o_T_takesDigit_45 h
def k_T_takesDigit_56 : List am_I := [(.aload_n 0, 1, 0, 0, 0), (.iload_n 2, 1, 0, 0, 0), (.putfield 31, 3, 2, 6, 147), (.aload_n 0, 1, 0, 0, 0), (.getfield 25, 3, 2, 4, 145), (.aload_n 0, 1, 0, 0, 0), (.getfield 28, 3, 2, 5, 146), (.iload_n 2, 1, 0, 0, 0), (.iastore, 1, 0, 0, 0), (.aload_n 0, 1, 0, 0, 0), (.getfield 22, 3, 2, 3, 143), (.ifCond .lt 29, 3, 0, 0, 0), (.aload_n 0, 1, 0, 0, 0), (.getfield 22, 3, 2, 3, 143), (.bipush 8, 2, 0, 0, 0), (.if_icmp .ge 20, 3, 0, 0, 0), (.aload_n 0, 1, 0, 0, 0), (.getfield 19, 3, 2, 2, 141), (.aload_n 0, 1, 0, 0, 0), (.getfield 22, 3, 2, 3, 143), (.iconst 5, 1, 0, 0, 0), (.imul, 1, 0, 0, 0), (.aload_n 0, 1, 0, 0, 0), (.getfield 28, 3, 2, 5, 146), (.iadd, 1, 0, 0, 0), (.iload_n 2, 1, 0, 0, 0), (.iastore, 1, 0, 0, 0)]
set_option maxRecDepth 20000 in
theorem o_T_takesDigit_56 : am_okB mt_T_takesDigit 56 k_T_takesDigit_56 = true := by decide +kernel
theorem g_T_takesDigit_56 {L : am_S} {n : Nat} {ls st : List Value} {M : am_M} {Q : am_Q} (h : am_B L mt_T_takesDigit k_T_takesDigit_56 n 56 ls st M Q) : am_R L mt_T_takesDigit n 56 ls st M Q := am_go L mt_T_takesDigit (fun h => by cases h) k_T_takesDigit_56 n 56 ls st M Q o_T_takesDigit_56 h
def k_T_takesDigit_104 : List am_I := [(.iconst 1, 1, 0, 0, 0), (.ireturn, 1, 0, 0, 0)]
set_option maxRecDepth 20000 in
theorem o_T_takesDigit_104 : am_okB mt_T_takesDigit 104 k_T_takesDigit_104 = true := by decide +kernel
theorem g_T_takesDigit_104 {L : am_S} {n : Nat} {ls st : List Value} {M : am_M} {Q : am_Q} (h : am_B L mt_T_takesDigit k_T_takesDigit_104 n 104 ls st M Q) : am_R L mt_T_takesDigit n 104 ls st M Q := am_go L mt_T_takesDigit (fun h => by cases h) k_T_takesDigit_104 n 104 ls st M Q o_T_takesDigit_104 h
def k_T_isWholeNumber_0 : List am_I := [(.aload_n 0, 1, 0, 0, 0), (.getfield 31, 3, 2, 6, 147), (.iconst (-1), 1, 0, 0, 0), (.if_icmp .eq 29, 3, 0, 0, 0), (.aload_n 0, 1, 0, 0, 0), (.getfield 31, 3, 2, 6, 147), (.aload_n 0, 1, 0, 0, 0), (.invokevirtual 56, 3, 29, 1, 216), (.if_icmp .lt 18, 3, 0, 0, 0), (.aload_n 0, 1, 0, 0, 0), (.getfield 31, 3, 2, 6, 147), (.aload_n 0, 1, 0, 0, 0), (.invokevirtual 60, 3, 30, 1, 220), (.if_icmp .gt 7, 3, 0, 0, 0), (.iconst 1, 1, 0, 0, 0), (.goto 4, 3, 0, 0, 0)]
set_option maxRecDepth 20000 in
theorem o_T_isWholeNumber_0 : am_okB mt_T_isWholeNumber 0 k_T_isWholeNumber_0 = true := by decide +kernel
theorem g_T_isWholeNumber_0 {L : am_S} {n : Nat} {ls st : List Value} {M : am_M} {Q : am_Q} (h : am_B L mt_T_isWholeNumber k_T_isWholeNumber_0 n 0 ls st M Q) : am_R L mt_T_isWholeNumber n 0 ls st M Q := am_go L mt_T_isWholeNumber (fun h => by cases h) k_T_isWholeNumber_0 n 0 ls st M Q o_T_isWholeNumber_0 h
def k_T_isWholeNumber_34 : List am_I := [(.iconst 0, 1, 0, 0, 0)]
set_option maxRecDepth 20000 in
theorem o_T_isWholeNumber_34 : am_okB mt_T_isWholeNumber 34 k_T_isWholeNumber_34 = true := by decide +kernel
theorem g_T_isWholeNumber_34 {L : am_S} {n : Nat} {ls st : List Value} {M : am_M} {Q : am_Q} (h : am_B L mt_T_isWholeNumber k_T_isWholeNumber_34 n 34 ls st M Q) : am_R L mt_T_isWholeNumber n 34 ls st M Q := am_go L mt_T_isWholeNumber (fun h => by cases h) k_T_isWholeNumber_34 n 34 ls st M Q o_T_isWholeNumber_34 h
def k_T_isWholeNumber_35 : List am_I := [(.ireturn, 1, 0, 0, 0)]
set_option maxRecDepth 20000 in
theorem o_T_isWholeNumber_35 : am_okB mt_T_isWholeNumber 35 k_T_isWholeNumber_35 = true := by decide +kernel
theorem g_T_isWholeNumber_35 {L : am_S} {n : Nat} {ls st : List Value} {M : am_M} {Q : am_Q} (h : am_B L mt_T_isWholeNumber k_T_isWholeNumber_35 n 35 ls st M Q) : am_R L mt_T_isWholeNumber n 35 ls st M Q := am_go L mt_T_isWholeNumber (fun h => by cases h) k_T_isWholeNumber_35 n 35 ls st M Q o_T_isWholeNumber_35 h
def k_T_canBecomeWhole_0 : List am_I := [(.aload_n 0, 1, 0, 0, 0), (.getfield 28, 3, 2, 5, 146), (.iconst 1, 1, 0, 0, 0), (.if_icmp .ne 15, 3, 0, 0, 0), (.iload_n 1, 1, 0, 0, 0), (.aload_n 0, 1, 0, 0, 0), (.getfield 25, 3, 2, 4, 145), (.iconst 0, 1, 0, 0, 0), (.iaload, 1, 0, 0, 0), (.if_icmp .ne 5, 3, 0, 0, 0), (.iconst 0, 1, 0, 0, 0), (.ireturn, 1, 0, 0, 0)]
set_option maxRecDepth 20000 in
theorem o_T_canBecomeWhole_0 : am_okB mt_T_canBecomeWhole 0 k_T_canBecomeWhole_0 = true := by decide +kernel
theorem g_T_canBecomeWhole_0 {L : am_S} {n : Nat} {ls st : List Value} {M : am_M} {Q : am_Q} (h : am_B L mt_T_canBecomeWhole k_T_canBecomeWhole_0 n 0 ls st M Q) : am_R L mt_T_canBecomeWhole n 0 ls st M Q := am_go L mt_T_canBecomeWhole (fun h => by cases h) k_T_canBecomeWhole_0 n 0 ls st M Q o_T_canBecomeWhole_0 h
def k_T_canBecomeWhole_20 : List am_I := [(.iload_n 1, 1, 0, 0, 0), (.ifCond .ne 16, 3, 0, 0, 0), (.aload_n 0, 1, 0, 0, 0), (.invokevirtual 56, 3, 29, 1, 216), (.ifCond .ne 7, 3, 0, 0, 0), (.iconst 1, 1, 0, 0, 0), (.goto 4, 3, 0, 0, 0)]
set_option maxRecDepth 20000 in
theorem o_T_canBecomeWhole_20 : am_okB mt_T_canBecomeWhole 20 k_T_canBecomeWhole_20 = true := by decide +kernel
theorem g_T_canBecomeWhole_20 {L : am_S} {n : Nat} {ls st : List Value} {M : am_M} {Q : am_Q} (h : am_B L mt_T_canBecomeWhole k_T_canBecomeWhole_20 n 20 ls st M Q) : am_R L mt_T_canBecomeWhole n 20 ls st M Q := am_go L mt_T_canBecomeWhole (fun h => by cases h) k_T_canBecomeWhole_20 n 20 ls st M Q o_T_canBecomeWhole_20 h
def k_T_canBecomeWhole_35 : List am_I := [(.iconst 0, 1, 0, 0, 0)]
set_option maxRecDepth 20000 in
theorem o_T_canBecomeWhole_35 : am_okB mt_T_canBecomeWhole 35 k_T_canBecomeWhole_35 = true := by decide +kernel
theorem g_T_canBecomeWhole_35 {L : am_S} {n : Nat} {ls st : List Value} {M : am_M} {Q : am_Q} (h : am_B L mt_T_canBecomeWhole k_T_canBecomeWhole_35 n 35 ls st M Q) : am_R L mt_T_canBecomeWhole n 35 ls st M Q := am_go L mt_T_canBecomeWhole (fun h => by cases h) k_T_canBecomeWhole_35 n 35 ls st M Q o_T_canBecomeWhole_35 h
def k_T_canBecomeWhole_36 : List am_I := [(.ireturn, 1, 0, 0, 0)]
set_option maxRecDepth 20000 in
theorem o_T_canBecomeWhole_36 : am_okB mt_T_canBecomeWhole 36 k_T_canBecomeWhole_36 = true := by decide +kernel
theorem g_T_canBecomeWhole_36 {L : am_S} {n : Nat} {ls st : List Value} {M : am_M} {Q : am_Q} (h : am_B L mt_T_canBecomeWhole k_T_canBecomeWhole_36 n 36 ls st M Q) : am_R L mt_T_canBecomeWhole n 36 ls st M Q := am_go L mt_T_canBecomeWhole (fun h => by cases h) k_T_canBecomeWhole_36 n 36 ls st M Q o_T_canBecomeWhole_36 h
def k_T_canBecomeWhole_37 : List am_I := [(.iconst 1, 1, 0, 0, 0), (.istore_n 2, 1, 0, 0, 0)]
set_option maxRecDepth 20000 in
theorem o_T_canBecomeWhole_37 : am_okB mt_T_canBecomeWhole 37 k_T_canBecomeWhole_37 = true := by decide +kernel
theorem g_T_canBecomeWhole_37 {L : am_S} {n : Nat} {ls st : List Value} {M : am_M} {Q : am_Q} (h : am_B L mt_T_canBecomeWhole k_T_canBecomeWhole_37 n 37 ls st M Q) : am_R L mt_T_canBecomeWhole n 37 ls st M Q := am_go L mt_T_canBecomeWhole (fun h => by cases h) k_T_canBecomeWhole_37 n 37 ls st M Q o_T_canBecomeWhole_37 h
def k_T_canBecomeWhole_39 : List am_I := [(.iload_n 2, 1, 0, 0, 0), (.bipush 100, 2, 0, 0, 0), (.if_icmp .gt 37, 3, 0, 0, 0), (.iload_n 1, 1, 0, 0, 0), (.iload_n 2, 1, 0, 0, 0), (.imul, 1, 0, 0, 0), (.aload_n 0, 1, 0, 0, 0), (.invokevirtual 60, 3, 30, 1, 220), (.if_icmp .gt 19, 3, 0, 0, 0), (.iload_n 1, 1, 0, 0, 0), (.iload_n 2, 1, 0, 0, 0), (.imul, 1, 0, 0, 0), (.iload_n 2, 1, 0, 0, 0), (.iadd, 1, 0, 0, 0), (.iconst 1, 1, 0, 0, 0), (.isub, 1, 0, 0, 0), (.aload_n 0, 1, 0, 0, 0), (.invokevirtual 56, 3, 29, 1, 216), (.if_icmp .lt 5, 3, 0, 0, 0), (.iconst 1, 1, 0, 0, 0), (.ireturn, 1, 0, 0, 0)]
set_option maxRecDepth 20000 in
theorem o_T_canBecomeWhole_39 : am_okB mt_T_canBecomeWhole 39 k_T_canBecomeWhole_39 = true := by decide +kernel
theorem g_T_canBecomeWhole_39 {L : am_S} {n : Nat} {ls st : List Value} {M : am_M} {Q : am_Q} (h : am_B L mt_T_canBecomeWhole k_T_canBecomeWhole_39 n 39 ls st M Q) : am_R L mt_T_canBecomeWhole n 39 ls st M Q := am_go L mt_T_canBecomeWhole (fun h => by cases h) k_T_canBecomeWhole_39 n 39 ls st M Q o_T_canBecomeWhole_39 h
def k_T_canBecomeWhole_71 : List am_I := [(.iload_n 2, 1, 0, 0, 0), (.bipush 10, 2, 0, 0, 0), (.imul, 1, 0, 0, 0), (.istore_n 2, 1, 0, 0, 0), (.goto (-37), 3, 0, 0, 0)]
set_option maxRecDepth 20000 in
theorem o_T_canBecomeWhole_71 : am_okB mt_T_canBecomeWhole 71 k_T_canBecomeWhole_71 = true := by decide +kernel
theorem g_T_canBecomeWhole_71 {L : am_S} {n : Nat} {ls st : List Value} {M : am_M} {Q : am_Q} (h : am_B L mt_T_canBecomeWhole k_T_canBecomeWhole_71 n 71 ls st M Q) : am_R L mt_T_canBecomeWhole n 71 ls st M Q := am_go L mt_T_canBecomeWhole (fun h => by cases h) k_T_canBecomeWhole_71 n 71 ls st M Q o_T_canBecomeWhole_71 h
def k_T_canBecomeWhole_79 : List am_I := [(.iconst 0, 1, 0, 0, 0), (.ireturn, 1, 0, 0, 0)]
set_option maxRecDepth 20000 in
theorem o_T_canBecomeWhole_79 : am_okB mt_T_canBecomeWhole 79 k_T_canBecomeWhole_79 = true := by decide +kernel
theorem g_T_canBecomeWhole_79 {L : am_S} {n : Nat} {ls st : List Value} {M : am_M} {Q : am_Q} (h : am_B L mt_T_canBecomeWhole k_T_canBecomeWhole_79 n 79 ls st M Q) : am_R L mt_T_canBecomeWhole n 79 ls st M Q := am_go L mt_T_canBecomeWhole (fun h => by cases h) k_T_canBecomeWhole_79 n 79 ls st M Q o_T_canBecomeWhole_79 h
def k_T_leastOfPart_0 : List am_I := [(.aload_n 0, 1, 0, 0, 0), (.getfield 28, 3, 2, 5, 146), (.lookupswitch 37 #[(2, 28), (4, 30)], 28, 0, 0, 0)]
set_option maxRecDepth 20000 in
theorem o_T_leastOfPart_0 : am_okB mt_T_leastOfPart 0 k_T_leastOfPart_0 = true := by decide +kernel
theorem g_T_leastOfPart_0 {L : am_S} {n : Nat} {ls st : List Value} {M : am_M} {Q : am_Q} (h : am_B L mt_T_leastOfPart k_T_leastOfPart_0 n 0 ls st M Q) : am_R L mt_T_leastOfPart n 0 ls st M Q := am_go L mt_T_leastOfPart (fun h => by cases h) k_T_leastOfPart_0 n 0 ls st M Q o_T_leastOfPart_0 h
def k_T_leastOfPart_32 : List am_I := [(.iconst 1, 1, 0, 0, 0), (.ireturn, 1, 0, 0, 0)]
set_option maxRecDepth 20000 in
theorem o_T_leastOfPart_32 : am_okB mt_T_leastOfPart 32 k_T_leastOfPart_32 = true := by decide +kernel
theorem g_T_leastOfPart_32 {L : am_S} {n : Nat} {ls st : List Value} {M : am_M} {Q : am_Q} (h : am_B L mt_T_leastOfPart k_T_leastOfPart_32 n 32 ls st M Q) : am_R L mt_T_leastOfPart n 32 ls st M Q := am_go L mt_T_leastOfPart (fun h => by cases h) k_T_leastOfPart_32 n 32 ls st M Q o_T_leastOfPart_32 h
def k_T_leastOfPart_34 : List am_I := [(.aload_n 0, 1, 0, 0, 0), (.getfield 25, 3, 2, 4, 145), (.iconst 3, 1, 0, 0, 0), (.iaload, 1, 0, 0, 0), (.ireturn, 1, 0, 0, 0)]
set_option maxRecDepth 20000 in
theorem o_T_leastOfPart_34 : am_okB mt_T_leastOfPart 34 k_T_leastOfPart_34 = true := by decide +kernel
theorem g_T_leastOfPart_34 {L : am_S} {n : Nat} {ls st : List Value} {M : am_M} {Q : am_Q} (h : am_B L mt_T_leastOfPart k_T_leastOfPart_34 n 34 ls st M Q) : am_R L mt_T_leastOfPart n 34 ls st M Q := am_go L mt_T_leastOfPart (fun h => by cases h) k_T_leastOfPart_34 n 34 ls st M Q o_T_leastOfPart_34 h
def k_T_leastOfPart_41 : List am_I := [(.iconst 0, 1, 0, 0, 0), (.ireturn, 1, 0, 0, 0)]
set_option maxRecDepth 20000 in
theorem o_T_leastOfPart_41 : am_okB mt_T_leastOfPart 41 k_T_leastOfPart_41 = true := by decide +kernel
theorem g_T_leastOfPart_41 {L : am_S} {n : Nat} {ls st : List Value} {M : am_M} {Q : am_Q} (h : am_B L mt_T_leastOfPart k_T_leastOfPart_41 n 41 ls st M Q) : am_R L mt_T_leastOfPart n 41 ls st M Q := am_go L mt_T_leastOfPart (fun h => by cases h) k_T_leastOfPart_41 n 41 ls st M Q o_T_leastOfPart_41 h
def k_T_mostOfPart_0 : List am_I := [(.aload_n 0, 1, 0, 0, 0), (.getfield 28, 3, 2, 5, 146), (.tableswitch 36 0 2 #[28, 30, 32], 28, 0, 0, 0)]
set_option maxRecDepth 20000 in
theorem o_T_mostOfPart_0 : am_okB mt_T_mostOfPart 0 k_T_mostOfPart_0 = true := by decide +kernel
theorem g_T_mostOfPart_0 {L : am_S} {n : Nat} {ls st : List Value} {M : am_M} {Q : am_Q} (h : am_B L mt_T_mostOfPart k_T_mostOfPart_0 n 0 ls st M Q) : am_R L mt_T_mostOfPart n 0 ls st M Q := am_go L mt_T_mostOfPart (fun h => by cases h) k_T_mostOfPart_0 n 0 ls st M Q o_T_mostOfPart_0 h
def k_T_mostOfPart_32 : List am_I := [(.iconst 4, 1, 0, 0, 0), (.ireturn, 1, 0, 0, 0)]
set_option maxRecDepth 20000 in
theorem o_T_mostOfPart_32 : am_okB mt_T_mostOfPart 32 k_T_mostOfPart_32 = true := by decide +kernel
theorem g_T_mostOfPart_32 {L : am_S} {n : Nat} {ls st : List Value} {M : am_M} {Q : am_Q} (h : am_B L mt_T_mostOfPart k_T_mostOfPart_32 n 32 ls st M Q) : am_R L mt_T_mostOfPart n 32 ls st M Q := am_go L mt_T_mostOfPart (fun h => by cases h) k_T_mostOfPart_32 n 32 ls st M Q o_T_mostOfPart_32 h
def k_T_mostOfPart_34 : List am_I := [(.iconst 5, 1, 0, 0, 0), (.ireturn, 1, 0, 0, 0)]
set_option maxRecDepth 20000 in
theorem o_T_mostOfPart_34 : am_okB mt_T_mostOfPart 34 k_T_mostOfPart_34 = true := by decide +kernel
theorem g_T_mostOfPart_34 {L : am_S} {n : Nat} {ls st : List Value} {M : am_M} {Q : am_Q} (h : am_B L mt_T_mostOfPart k_T_mostOfPart_34 n 34 ls st M Q) : am_R L mt_T_mostOfPart n 34 ls st M Q := am_go L mt_T_mostOfPart (fun h => by cases h) k_T_mostOfPart_34 n 34 ls st M Q o_T_mostOfPart_34 h
def k_T_mostOfPart_36 : List am_I := [(.sipush 500, 3, 0, 0, 0), (.ireturn, 1, 0, 0, 0)]
set_option maxRecDepth 20000 in
theorem o_T_mostOfPart_36 : am_okB mt_T_mostOfPart 36 k_T_mostOfPart_36 = true := by decide +kernel
theorem g_T_mostOfPart_36 {L : am_S} {n : Nat} {ls st : List Value} {M : am_M} {Q : am_Q} (h : am_B L mt_T_mostOfPart k_T_mostOfPart_36 n 36 ls st M Q) : am_R L mt_T_mostOfPart n 36 ls st M Q := am_go L mt_T_mostOfPart (fun h => by cases h) k_T_mostOfPart_36 n 36 ls st M Q o_T_mostOfPart_36 h
def k_T_mostOfPart_40 : List am_I := [(.bipush 23, 2, 0, 0, 0), (.ireturn, 1, 0, 0, 0)]
set_option maxRecDepth 20000 in
theorem o_T_mostOfPart_40 : am_okB mt_T_mostOfPart 40 k_T_mostOfPart_40 = true := by decide +kernel
theorem g_T_mostOfPart_40 {L : am_S} {n : Nat} {ls st : List Value} {M : am_M} {Q : am_Q} (h : am_B L mt_T_mostOfPart k_T_mostOfPart_40 n 40 ls st M Q) : am_R L mt_T_mostOfPart n 40 ls st M Q := am_go L mt_T_mostOfPart (fun h => by cases h) k_T_mostOfPart_40 n 40 ls st M Q o_T_mostOfPart_40 h
def k_D_beginWith_0 : List am_I := [(.aload_n 0, 1, 0, 0, 0), (.getfield 12, 3, 0, 0, 113), (.aload_n 1, 1, 0, 0, 0), (.invokevirtual 32, 3, 3, 2, 392), (.aload_n 0, 1, 0, 0, 0), (.iconst 0, 1, 0, 0, 0), (.putfield 22, 3, 0, 2, 115), (.aload_n 0, 1, 0, 0, 0), (.getfield 12, 3, 0, 0, 113), (.getfield 36, 3, 1, 0, 100), (.bipush 10, 2, 0, 0, 0), (.aload_n 0, 1, 0, 0, 0), (.getfield 18, 3, 0, 1, 114), (.iconst 0, 1, 0, 0, 0), (.bipush 35, 2, 0, 0, 0), (.invokestatic 39, 3, 202, 5, 393), (.return_, 1, 0, 0, 0)]
set_option maxRecDepth 20000 in
theorem o_D_beginWith_0 : am_okB mt_D_beginWith 0 k_D_beginWith_0 = true := by decide +kernel
theorem g_D_beginWith_0 {L : am_S} {n : Nat} {ls st : List Value} {M : am_M} {Q : am_Q} (h : am_B L mt_D_beginWith k_D_beginWith_0 n 0 ls st M Q) : am_R L mt_D_beginWith n 0 ls st M Q := am_go L mt_D_beginWith (fun h => by cases h) k_D_beginWith_0 n 0 ls st M Q o_D_beginWith_0 h
def k_D_findByRunners_0 : List am_I := [(.aload_n 0, 1, 0, 0, 0), (.iconst (-1), 1, 0, 0, 0), (.putfield 26, 3, 0, 3, 116), (.aload_n 0, 1, 0, 0, 0), (.iconst (-1), 1, 0, 0, 0), (.putfield 29, 3, 0, 4, 118), (.iconst 0, 1, 0, 0, 0), (.istore_n 1, 1, 0, 0, 0)]
set_option maxRecDepth 20000 in
theorem o_D_findByRunners_0 : am_okB mt_D_findByRunners 0 k_D_findByRunners_0 = true := by decide +kernel
theorem g_D_findByRunners_0 {L : am_S} {n : Nat} {ls st : List Value} {M : am_M} {Q : am_Q} (h : am_B L mt_D_findByRunners k_D_findByRunners_0 n 0 ls st M Q) : am_R L mt_D_findByRunners n 0 ls st M Q := am_go L mt_D_findByRunners (fun h => by cases h) k_D_findByRunners_0 n 0 ls st M Q o_D_findByRunners_0 h
def k_D_findByRunners_12 : List am_I := [(.iinc 1 1, 3, 0, 0, 0), (.aload_n 0, 1, 0, 0, 0), (.iconst 2, 1, 0, 0, 0), (.iload_n 1, 1, 0, 0, 0), (.imul, 1, 0, 0, 0), (.invokevirtual 45, 3, 34, 2, 398), (.iload_n 1, 1, 0, 0, 0), (.bipush 60, 2, 0, 0, 0), (.if_icmp .ge 14, 3, 0, 0, 0), (.aload_n 0, 1, 0, 0, 0), (.iload_n 1, 1, 0, 0, 0), (.iconst 2, 1, 0, 0, 0), (.iload_n 1, 1, 0, 0, 0), (.imul, 1, 0, 0, 0), (.invokevirtual 49, 3, 35, 3, 403), (.ifCond .eq (-24), 3, 0, 0, 0)]
set_option maxRecDepth 20000 in
theorem o_D_findByRunners_12 : am_okB mt_D_findByRunners 12 k_D_findByRunners_12 = true := by decide +kernel
theorem g_D_findByRunners_12 {L : am_S} {n : Nat} {ls st : List Value} {M : am_M} {Q : am_Q} (h : am_B L mt_D_findByRunners k_D_findByRunners_12 n 12 ls st M Q) : am_R L mt_D_findByRunners n 12 ls st M Q := am_go L mt_D_findByRunners (fun h => by cases h) k_D_findByRunners_12 n 12 ls st M Q o_D_findByRunners_12 h
def k_D_findByRunners_39 : List am_I := [(.aload_n 0, 1, 0, 0, 0), (.iload_n 1, 1, 0, 0, 0), (.iconst 2, 1, 0, 0, 0), (.iload_n 1, 1, 0, 0, 0), (.imul, 1, 0, 0, 0), (.invokevirtual 49, 3, 35, 3, 403), (.ifCond .ne 4, 3, 0, 0, 0), (.return_, 1, 0, 0, 0)]
set_option maxRecDepth 20000 in
theorem o_D_findByRunners_39 : am_okB mt_D_findByRunners 39 k_D_findByRunners_39 = true := by decide +kernel
theorem g_D_findByRunners_39 {L : am_S} {n : Nat} {ls st : List Value} {M : am_M} {Q : am_Q} (h : am_B L mt_D_findByRunners k_D_findByRunners_39 n 39 ls st M Q) : am_R L mt_D_findByRunners n 39 ls st M Q := am_go L mt_D_findByRunners (fun h => by cases h) k_D_findByRunners_39 n 39 ls st M Q o_D_findByRunners_39 h
def k_D_findByRunners_51 : List am_I := [(.iconst 0, 1, 0, 0, 0), (.istore_n 2, 1, 0, 0, 0)]
set_option maxRecDepth 20000 in
theorem o_D_findByRunners_51 : am_okB mt_D_findByRunners 51 k_D_findByRunners_51 = true := by decide +kernel
theorem g_D_findByRunners_51 {L : am_S} {n : Nat} {ls st : List Value} {M : am_M} {Q : am_Q} (h : am_B L mt_D_findByRunners k_D_findByRunners_51 n 51 ls st M Q) : am_R L mt_D_findByRunners n 51 ls st M Q := am_go L mt_D_findByRunners (fun h => by cases h) k_D_findByRunners_51 n 51 ls st M Q o_D_findByRunners_51 h
def k_D_findByRunners_53 : List am_I := [(.iload_n 2, 1, 0, 0, 0), (.iload_n 1, 1, 0, 0, 0), (.if_icmp .ge 20, 3, 0, 0, 0), (.aload_n 0, 1, 0, 0, 0), (.iload_n 2, 1, 0, 0, 0), (.iload_n 1, 1, 0, 0, 0), (.iload_n 2, 1, 0, 0, 0), (.iadd, 1, 0, 0, 0), (.invokevirtual 49, 3, 35, 3, 403), (.ifCond .ne 9, 3, 0, 0, 0), (.iinc 2 1, 3, 0, 0, 0), (.goto (-19), 3, 0, 0, 0)]
set_option maxRecDepth 20000 in
theorem o_D_findByRunners_53 : am_okB mt_D_findByRunners 53 k_D_findByRunners_53 = true := by decide +kernel
theorem g_D_findByRunners_53 {L : am_S} {n : Nat} {ls st : List Value} {M : am_M} {Q : am_Q} (h : am_B L mt_D_findByRunners k_D_findByRunners_53 n 53 ls st M Q) : am_R L mt_D_findByRunners n 53 ls st M Q := am_go L mt_D_findByRunners (fun h => by cases h) k_D_findByRunners_53 n 53 ls st M Q o_D_findByRunners_53 h
def k_D_findByRunners_75 : List am_I := [(.iconst 1, 1, 0, 0, 0), (.istore_n 3, 1, 0, 0, 0)]
set_option maxRecDepth 20000 in
theorem o_D_findByRunners_75 : am_okB mt_D_findByRunners 75 k_D_findByRunners_75 = true := by decide +kernel
theorem g_D_findByRunners_75 {L : am_S} {n : Nat} {ls st : List Value} {M : am_M} {Q : am_Q} (h : am_B L mt_D_findByRunners k_D_findByRunners_75 n 75 ls st M Q) : am_R L mt_D_findByRunners n 75 ls st M Q := am_go L mt_D_findByRunners (fun h => by cases h) k_D_findByRunners_75 n 75 ls st M Q o_D_findByRunners_75 h
def k_D_findByRunners_77 : List am_I := [(.iload_n 3, 1, 0, 0, 0), (.iload_n 1, 1, 0, 0, 0), (.if_icmp .ge 20, 3, 0, 0, 0), (.aload_n 0, 1, 0, 0, 0), (.iload_n 2, 1, 0, 0, 0), (.iload_n 2, 1, 0, 0, 0), (.iload_n 3, 1, 0, 0, 0), (.iadd, 1, 0, 0, 0), (.invokevirtual 49, 3, 35, 3, 403), (.ifCond .ne 9, 3, 0, 0, 0), (.iinc 3 1, 3, 0, 0, 0), (.goto (-19), 3, 0, 0, 0)]
set_option maxRecDepth 20000 in
theorem o_D_findByRunners_77 : am_okB mt_D_findByRunners 77 k_D_findByRunners_77 = true := by decide +kernel
theorem g_D_findByRunners_77 {L : am_S} {n : Nat} {ls st : List Value} {M : am_M} {Q : am_Q} (h : am_B L mt_D_findByRunners k_D_findByRunners_77 n 77 ls st M Q) : am_R L mt_D_findByRunners n 77 ls st M Q := am_go L mt_D_findByRunners (fun h => by cases h) k_D_findByRunners_77 n 77 ls st M Q o_D_findByRunners_77 h
def k_D_findByRunners_99 : List am_I := [(.iload_n 2, 1, 0, 0, 0), (.iload_n 3, 1, 0, 0, 0), (.iadd, 1, 0, 0, 0), (.bipush 60, 2, 0, 0, 0), (.if_icmp .gt 13, 3, 0, 0, 0), (.aload_n 0, 1, 0, 0, 0), (.iload_n 3, 1, 0, 0, 0), (.putfield 26, 3, 0, 3, 116), (.aload_n 0, 1, 0, 0, 0), (.iload_n 2, 1, 0, 0, 0), (.putfield 29, 3, 0, 4, 118)]
set_option maxRecDepth 20000 in
theorem o_D_findByRunners_99 : am_okB mt_D_findByRunners 99 k_D_findByRunners_99 = true := by decide +kernel
theorem g_D_findByRunners_99 {L : am_S} {n : Nat} {ls st : List Value} {M : am_M} {Q : am_Q} (h : am_B L mt_D_findByRunners k_D_findByRunners_99 n 99 ls st M Q) : am_R L mt_D_findByRunners n 99 ls st M Q := am_go L mt_D_findByRunners (fun h => by cases h) k_D_findByRunners_99 n 99 ls st M Q o_D_findByRunners_99 h
def k_D_findByRunners_117 : List am_I := [(.return_, 1, 0, 0, 0)]
set_option maxRecDepth 20000 in
theorem o_D_findByRunners_117 : am_okB mt_D_findByRunners 117 k_D_findByRunners_117 = true := by decide +kernel
theorem g_D_findByRunners_117 {L : am_S} {n : Nat} {ls st : List Value} {M : am_M} {Q : am_Q} (h : am_B L mt_D_findByRunners k_D_findByRunners_117 n 117 ls st M Q) : am_R L mt_D_findByRunners n 117 ls st M Q := am_go L mt_D_findByRunners (fun h => by cases h) k_D_findByRunners_117 n 117 ls st M Q o_D_findByRunners_117 h
def k_D_findByLookingBack_0 : List am_I := [(.aload_n 0, 1, 0, 0, 0), (.iconst (-1), 1, 0, 0, 0), (.putfield 26, 3, 0, 3, 116), (.aload_n 0, 1, 0, 0, 0), (.iconst (-1), 1, 0, 0, 0), (.putfield 29, 3, 0, 4, 118), (.iconst 1, 1, 0, 0, 0), (.istore_n 1, 1, 0, 0, 0)]
set_option maxRecDepth 20000 in
theorem o_D_findByLookingBack_0 : am_okB mt_D_findByLookingBack 0 k_D_findByLookingBack_0 = true := by decide +kernel
theorem g_D_findByLookingBack_0 {L : am_S} {n : Nat} {ls st : List Value} {M : am_M} {Q : am_Q} (h : am_B L mt_D_findByLookingBack k_D_findByLookingBack_0 n 0 ls st M Q) : am_R L mt_D_findByLookingBack n 0 ls st M Q := am_go L mt_D_findByLookingBack (fun h => by cases h) k_D_findByLookingBack_0 n 0 ls st M Q o_D_findByLookingBack_0 h
def k_D_findByLookingBack_12 : List am_I := [(.iload_n 1, 1, 0, 0, 0), (.bipush 60, 2, 0, 0, 0), (.if_icmp .gt 49, 3, 0, 0, 0), (.aload_n 0, 1, 0, 0, 0), (.iload_n 1, 1, 0, 0, 0), (.invokevirtual 45, 3, 34, 2, 398), (.iconst 0, 1, 0, 0, 0), (.istore_n 2, 1, 0, 0, 0)]
set_option maxRecDepth 20000 in
theorem o_D_findByLookingBack_12 : am_okB mt_D_findByLookingBack 12 k_D_findByLookingBack_12 = true := by decide +kernel
theorem g_D_findByLookingBack_12 {L : am_S} {n : Nat} {ls st : List Value} {M : am_M} {Q : am_Q} (h : am_B L mt_D_findByLookingBack k_D_findByLookingBack_12 n 12 ls st M Q) : am_R L mt_D_findByLookingBack n 12 ls st M Q := am_go L mt_D_findByLookingBack (fun h => by cases h) k_D_findByLookingBack_12 n 12 ls st M Q o_D_findByLookingBack_12 h
def k_D_findByLookingBack_25 : List am_I := [(.iload_n 2, 1, 0, 0, 0), (.iload_n 1, 1, 0, 0, 0), (.if_icmp .ge 31, 3, 0, 0, 0), (.aload_n 0, 1, 0, 0, 0), (.iload_n 2, 1, 0, 0, 0), (.iload_n 1, 1, 0, 0, 0), (.invokevirtual 49, 3, 35, 3, 403), (.ifCond .eq 16, 3, 0, 0, 0), (.aload_n 0, 1, 0, 0, 0), (.iload_n 1, 1, 0, 0, 0), (.iload_n 2, 1, 0, 0, 0), (.isub, 1, 0, 0, 0), (.putfield 26, 3, 0, 3, 116), (.aload_n 0, 1, 0, 0, 0), (.iload_n 2, 1, 0, 0, 0), (.putfield 29, 3, 0, 4, 118), (.return_, 1, 0, 0, 0)]
set_option maxRecDepth 20000 in
theorem o_D_findByLookingBack_25 : am_okB mt_D_findByLookingBack 25 k_D_findByLookingBack_25 = true := by decide +kernel
theorem g_D_findByLookingBack_25 {L : am_S} {n : Nat} {ls st : List Value} {M : am_M} {Q : am_Q} (h : am_B L mt_D_findByLookingBack k_D_findByLookingBack_25 n 25 ls st M Q) : am_R L mt_D_findByLookingBack n 25 ls st M Q := am_go L mt_D_findByLookingBack (fun h => by cases h) k_D_findByLookingBack_25 n 25 ls st M Q o_D_findByLookingBack_25 h
def k_D_findByLookingBack_52 : List am_I := [(.iinc 2 1, 3, 0, 0, 0), (.goto (-30), 3, 0, 0, 0)]
set_option maxRecDepth 20000 in
theorem o_D_findByLookingBack_52 : am_okB mt_D_findByLookingBack 52 k_D_findByLookingBack_52 = true := by decide +kernel
theorem g_D_findByLookingBack_52 {L : am_S} {n : Nat} {ls st : List Value} {M : am_M} {Q : am_Q} (h : am_B L mt_D_findByLookingBack k_D_findByLookingBack_52 n 52 ls st M Q) : am_R L mt_D_findByLookingBack n 52 ls st M Q := am_go L mt_D_findByLookingBack (fun h => by cases h) k_D_findByLookingBack_52 n 52 ls st M Q o_D_findByLookingBack_52 h
def k_D_findByLookingBack_58 : List am_I := [(.iinc 1 1, 3, 0, 0, 0), (.goto (-49), 3, 0, 0, 0)]
set_option maxRecDepth 20000 in
theorem o_D_findByLookingBack_58 : am_okB mt_D_findByLookingBack 58 k_D_findByLookingBack_58 = true := by decide +kernel
theorem g_D_findByLookingBack_58 {L : am_S} {n : Nat} {ls st : List Value} {M : am_M} {Q : am_Q} (h : am_B L mt_D_findByLookingBack k_D_findByLookingBack_58 n 58 ls st M Q) : am_R L mt_D_findByLookingBack n 58 ls st M Q := am_go L mt_D_findByLookingBack (fun h => by cases h) k_D_findByLookingBack_58 n 58 ls st M Q o_D_findByLookingBack_58 h
def k_D_findByLookingBack_64 : List am_I := [(.return_, 1, 0, 0, 0)]
set_option maxRecDepth 20000 in
theorem o_D_findByLookingBack_64 : am_okB mt_D_findByLookingBack 64 k_D_findByLookingBack_64 = true := by decide +kernel
theorem g_D_findByLookingBack_64 {L : am_S} {n : Nat} {ls st : List Value} {M : am_M} {Q : am_Q} (h : am_B L mt_D_findByLookingBack k_D_findByLookingBack_64 n 64 ls st M Q) : am_R L mt_D_findByLookingBack n 64 ls st M Q := am_go L mt_D_findByLookingBack (fun h => by cases h) k_D_findByLookingBack_64 n 64 ls st M Q o_D_findByLookingBack_64 h
def k_D_reachDay_0 : List am_I := [(.aload_n 0, 1, 0, 0, 0), (.getfield 22, 3, 0, 2, 115), (.iload_n 1, 1, 0, 0, 0), (.if_icmp .ge 59, 3, 0, 0, 0), (.aload_n 0, 1, 0, 0, 0), (.getfield 22, 3, 0, 2, 115), (.bipush 120, 2, 0, 0, 0), (.if_icmp .ge 50, 3, 0, 0, 0), (.aload_n 0, 1, 0, 0, 0), (.getfield 12, 3, 0, 0, 113), (.bipush 24, 2, 0, 0, 0), (.invokevirtual 53, 3, 14, 2, 402), (.aload_n 0, 1, 0, 0, 0), (.dup, 1, 0, 0, 0), (.getfield 22, 3, 0, 2, 115), (.iconst 1, 1, 0, 0, 0), (.iadd, 1, 0, 0, 0), (.putfield 22, 3, 0, 2, 115), (.aload_n 0, 1, 0, 0, 0), (.getfield 12, 3, 0, 0, 113), (.getfield 36, 3, 1, 0, 100), (.bipush 10, 2, 0, 0, 0), (.aload_n 0, 1, 0, 0, 0), (.getfield 18, 3, 0, 1, 114), (.aload_n 0, 1, 0, 0, 0), (.getfield 22, 3, 0, 2, 115), (.bipush 35, 2, 0, 0, 0), (.imul, 1, 0, 0, 0), (.bipush 35, 2, 0, 0, 0), (.invokestatic 39, 3, 202, 5, 393), (.goto (-61), 3, 0, 0, 0)]
set_option maxRecDepth 20000 in
theorem o_D_reachDay_0 : am_okB mt_D_reachDay 0 k_D_reachDay_0 = true := by decide +kernel
theorem g_D_reachDay_0 {L : am_S} {n : Nat} {ls st : List Value} {M : am_M} {Q : am_Q} (h : am_B L mt_D_reachDay k_D_reachDay_0 n 0 ls st M Q) : am_R L mt_D_reachDay n 0 ls st M Q := am_go L mt_D_reachDay (fun h => by cases h) k_D_reachDay_0 n 0 ls st M Q o_D_reachDay_0 h
def k_D_reachDay_64 : List am_I := [(.return_, 1, 0, 0, 0)]
set_option maxRecDepth 20000 in
theorem o_D_reachDay_64 : am_okB mt_D_reachDay 64 k_D_reachDay_64 = true := by decide +kernel
theorem g_D_reachDay_64 {L : am_S} {n : Nat} {ls st : List Value} {M : am_M} {Q : am_Q} (h : am_B L mt_D_reachDay k_D_reachDay_64 n 64 ls st M Q) : am_R L mt_D_reachDay n 64 ls st M Q := am_go L mt_D_reachDay (fun h => by cases h) k_D_reachDay_64 n 64 ls st M Q o_D_reachDay_64 h
def k_D_isSameLook_0 : List am_I := [(.iload_n 1, 1, 0, 0, 0), (.ifCond .lt 19, 3, 0, 0, 0), (.iload_n 2, 1, 0, 0, 0), (.ifCond .lt 15, 3, 0, 0, 0), (.iload_n 1, 1, 0, 0, 0), (.bipush 120, 2, 0, 0, 0), (.if_icmp .gt 9, 3, 0, 0, 0), (.iload_n 2, 1, 0, 0, 0), (.bipush 120, 2, 0, 0, 0), (.if_icmp .le 5, 3, 0, 0, 0)]
set_option maxRecDepth 20000 in
theorem o_D_isSameLook_0 : am_okB mt_D_isSameLook 0 k_D_isSameLook_0 = true := by decide +kernel
theorem g_D_isSameLook_0 {L : am_S} {n : Nat} {ls st : List Value} {M : am_M} {Q : am_Q} (h : am_B L mt_D_isSameLook k_D_isSameLook_0 n 0 ls st M Q) : am_R L mt_D_isSameLook n 0 ls st M Q := am_go L mt_D_isSameLook (fun h => by cases h) k_D_isSameLook_0 n 0 ls st M Q o_D_isSameLook_0 h
def k_D_isSameLook_20 : List am_I := [(.iconst 0, 1, 0, 0, 0), (.ireturn, 1, 0, 0, 0)]
set_option maxRecDepth 20000 in
theorem o_D_isSameLook_20 : am_okB mt_D_isSameLook 20 k_D_isSameLook_20 = true := by decide +kernel
theorem g_D_isSameLook_20 {L : am_S} {n : Nat} {ls st : List Value} {M : am_M} {Q : am_Q} (h : am_B L mt_D_isSameLook k_D_isSameLook_20 n 20 ls st M Q) : am_R L mt_D_isSameLook n 20 ls st M Q := am_go L mt_D_isSameLook (fun h => by cases h) k_D_isSameLook_20 n 20 ls st M Q o_D_isSameLook_20 h
def k_D_isSameLook_22 : List am_I := [(.iconst 0, 1, 0, 0, 0), (.istore_n 3, 1, 0, 0, 0)]
set_option maxRecDepth 20000 in
theorem o_D_isSameLook_22 : am_okB mt_D_isSameLook 22 k_D_isSameLook_22 = true := by decide +kernel
theorem g_D_isSameLook_22 {L : am_S} {n : Nat} {ls st : List Value} {M : am_M} {Q : am_Q} (h : am_B L mt_D_isSameLook k_D_isSameLook_22 n 22 ls st M Q) : am_R L mt_D_isSameLook n 22 ls st M Q := am_go L mt_D_isSameLook (fun h => by cases h) k_D_isSameLook_22 n 22 ls st M Q o_D_isSameLook_22 h
def k_D_isSameLook_24 : List am_I := [(.iload_n 3, 1, 0, 0, 0), (.bipush 35, 2, 0, 0, 0), (.if_icmp .ge 36, 3, 0, 0, 0), (.aload_n 0, 1, 0, 0, 0), (.getfield 18, 3, 0, 1, 114), (.iload_n 1, 1, 0, 0, 0), (.bipush 35, 2, 0, 0, 0), (.imul, 1, 0, 0, 0), (.iload_n 3, 1, 0, 0, 0), (.iadd, 1, 0, 0, 0), (.iaload, 1, 0, 0, 0), (.aload_n 0, 1, 0, 0, 0), (.getfield 18, 3, 0, 1, 114), (.iload_n 2, 1, 0, 0, 0), (.bipush 35, 2, 0, 0, 0), (.imul, 1, 0, 0, 0), (.iload_n 3, 1, 0, 0, 0), (.iadd, 1, 0, 0, 0), (.iaload, 1, 0, 0, 0), (.if_icmp .eq 5, 3, 0, 0, 0), (.iconst 0, 1, 0, 0, 0), (.ireturn, 1, 0, 0, 0)]
set_option maxRecDepth 20000 in
theorem o_D_isSameLook_24 : am_okB mt_D_isSameLook 24 k_D_isSameLook_24 = true := by decide +kernel
theorem g_D_isSameLook_24 {L : am_S} {n : Nat} {ls st : List Value} {M : am_M} {Q : am_Q} (h : am_B L mt_D_isSameLook k_D_isSameLook_24 n 24 ls st M Q) : am_R L mt_D_isSameLook n 24 ls st M Q := am_go L mt_D_isSameLook (fun h => by cases h) k_D_isSameLook_24 n 24 ls st M Q o_D_isSameLook_24 h
def k_D_isSameLook_57 : List am_I := [(.iinc 3 1, 3, 0, 0, 0), (.goto (-36), 3, 0, 0, 0)]
set_option maxRecDepth 20000 in
theorem o_D_isSameLook_57 : am_okB mt_D_isSameLook 57 k_D_isSameLook_57 = true := by decide +kernel
theorem g_D_isSameLook_57 {L : am_S} {n : Nat} {ls st : List Value} {M : am_M} {Q : am_Q} (h : am_B L mt_D_isSameLook k_D_isSameLook_57 n 57 ls st M Q) : am_R L mt_D_isSameLook n 57 ls st M Q := am_go L mt_D_isSameLook (fun h => by cases h) k_D_isSameLook_57 n 57 ls st M Q o_D_isSameLook_57 h
def k_D_isSameLook_63 : List am_I := [(.iconst 1, 1, 0, 0, 0), (.ireturn, 1, 0, 0, 0)]
set_option maxRecDepth 20000 in
theorem o_D_isSameLook_63 : am_okB mt_D_isSameLook 63 k_D_isSameLook_63 = true := by decide +kernel
theorem g_D_isSameLook_63 {L : am_S} {n : Nat} {ls st : List Value} {M : am_M} {Q : am_Q} (h : am_B L mt_D_isSameLook k_D_isSameLook_63 n 63 ls st M Q) : am_R L mt_D_isSameLook n 63 ls st M Q := am_go L mt_D_isSameLook (fun h => by cases h) k_D_isSameLook_63 n 63 ls st M Q o_D_isSameLook_63 h
end
section
/-! DyeVats: blocks of code, written by wip/whole/mk15.py out of what TURN printed of the program -/
def k_V_fill_0 : List am_I := [(.iload_n 1, 1, 0, 0, 0), (.invokestatic 54, 3, 70, 1, 428), (.iload_n 2, 1, 0, 0, 0), (.iconst 1, 1, 0, 0, 0), (.sipush 2000, 3, 0, 0, 0), (.invokestatic 58, 3, 73, 3, 498), (.aload_n 0, 1, 0, 0, 0), (.invokevirtual 62, 3, 68, 1, 517), (.iload_n 2, 1, 0, 0, 0), (.aload_n 0, 1, 0, 0, 0), (.getfield 12, 3, 3, 0, 163), (.getfield 51, 3, 1, 0, 99), (.iconst 0, 1, 0, 0, 0), (.iload_n 1, 1, 0, 0, 0), (.iadd, 1, 0, 0, 0), (.iaload, 1, 0, 0, 0), (.aload_n 0, 1, 0, 0, 0), (.getfield 12, 3, 3, 0, 163), (.getfield 51, 3, 1, 0, 99), (.bipush 10, 2, 0, 0, 0), (.iload_n 1, 1, 0, 0, 0), (.iadd, 1, 0, 0, 0), (.iaload, 1, 0, 0, 0), (.isub, 1, 0, 0, 0), (.if_icmp .le 8, 3, 0, 0, 0), (.aload_n 0, 1, 0, 0, 0), (.invokevirtual 65, 3, 69, 1, 522), (.ireturn, 1, 0, 0, 0)]
set_option maxRecDepth 20000 in
theorem o_V_fill_0 : am_okB mt_V_fill 0 k_V_fill_0 = true := by decide +kernel
theorem g_V_fill_0 {L : am_S} {n : Nat} {ls st : List Value} {M : am_M} {Q : am_Q} (h : am_B L mt_V_fill k_V_fill_0 n 0 ls st M Q) : am_R L mt_V_fill n 0 ls st M Q := am_go L mt_V_fill (fun h => by cases h) k_V_fill_0 n 0 ls st M Q o_V_fill_0 h
def k_V_fill_49 : List am_I := [(.aload_n 0, 1, 0, 0, 0), (.getfield 12, 3, 3, 0, 163), (.getfield 51, 3, 1, 0, 99), (.bipush 10, 2, 0, 0, 0), (.iload_n 1, 1, 0, 0, 0), (.iadd, 1, 0, 0, 0), (.dup2, 1, 0, 0, 0), (.iaload, 1, 0, 0, 0), (.iload_n 2, 1, 0, 0, 0), (.iadd, 1, 0, 0, 0), (.iastore, 1, 0, 0, 0), (.aload_n 0, 1, 0, 0, 0), (.getfield 12, 3, 3, 0, 163), (.getfield 51, 3, 1, 0, 99), (.bipush 53, 2, 0, 0, 0), (.dup2, 1, 0, 0, 0), (.iaload, 1, 0, 0, 0), (.iload_n 2, 1, 0, 0, 0), (.iadd, 1, 0, 0, 0), (.iastore, 1, 0, 0, 0), (.aload_n 0, 1, 0, 0, 0), (.getfield 12, 3, 3, 0, 163), (.getfield 51, 3, 1, 0, 99), (.bipush 10, 2, 0, 0, 0), (.iload_n 1, 1, 0, 0, 0), (.iadd, 1, 0, 0, 0), (.iaload, 1, 0, 0, 0), (.ireturn, 1, 0, 0, 0)]
set_option maxRecDepth 20000 in
theorem o_V_fill_49 : am_okB mt_V_fill 49 k_V_fill_49 = true := by decide +kernel
theorem g_V_fill_49 {L : am_S} {n : Nat} {ls st : List Value} {M : am_M} {Q : am_Q} (h : am_B L mt_V_fill k_V_fill_49 n 49 ls st M Q) : am_R L mt_V_fill n 49 ls st M Q := am_go L mt_V_fill (fun h => by cases h) k_V_fill_49 n 49 ls st M Q o_V_fill_49 h
def k_V_dye_0 : List am_I := [(.iload_n 1, 1, 0, 0, 0), (.invokestatic 54, 3, 70, 1, 428), (.iload_n 2, 1, 0, 0, 0), (.invokestatic 69, 3, 71, 1, 534), (.iload_n 3, 1, 0, 0, 0), (.iconst 1, 1, 0, 0, 0), (.sipush 999, 3, 0, 0, 0), (.invokestatic 58, 3, 73, 3, 498), (.aload_n 0, 1, 0, 0, 0), (.getfield 12, 3, 3, 0, 163), (.getfield 51, 3, 1, 0, 99), (.bipush 45, 2, 0, 0, 0), (.iload_n 2, 1, 0, 0, 0), (.iadd, 1, 0, 0, 0), (.iaload, 1, 0, 0, 0), (.iload_n 3, 1, 0, 0, 0), (.iadd, 1, 0, 0, 0), (.ldc 72, 2, 99999, 0, 538), (.if_icmp .le 13, 3, 0, 0, 0), (.new 73, 3, 2, 75, 77)]
set_option maxRecDepth 20000 in
theorem o_V_dye_0 : am_okB mt_V_dye 0 k_V_dye_0 = true := by decide +kernel
theorem g_V_dye_0 {L : am_S} {n : Nat} {ls st : List Value} {M : am_M} {Q : am_Q} (h : am_B L mt_V_dye k_V_dye_0 n 0 ls st M Q) : am_R L mt_V_dye n 0 ls st M Q := am_go L mt_V_dye (fun h => by cases h) k_V_dye_0 n 0 ls st M Q o_V_dye_0 h
def k_V_dye_45 : List am_I := [(.aload_n 0, 1, 0, 0, 0), (.invokevirtual 62, 3, 68, 1, 517), (.aload_n 0, 1, 0, 0, 0), (.getfield 12, 3, 3, 0, 163), (.getfield 51, 3, 1, 0, 99), (.bipush 10, 2, 0, 0, 0), (.iload_n 1, 1, 0, 0, 0), (.iadd, 1, 0, 0, 0), (.iaload, 1, 0, 0, 0), (.ifCond .ne 8, 3, 0, 0, 0), (.aload_n 0, 1, 0, 0, 0), (.invokevirtual 65, 3, 69, 1, 522), (.ireturn, 1, 0, 0, 0)]
set_option maxRecDepth 20000 in
theorem o_V_dye_45 : am_okB mt_V_dye 45 k_V_dye_45 = true := by decide +kernel
theorem g_V_dye_45 {L : am_S} {n : Nat} {ls st : List Value} {M : am_M} {Q : am_Q} (h : am_B L mt_V_dye k_V_dye_45 n 45 ls st M Q) : am_R L mt_V_dye n 45 ls st M Q := am_go L mt_V_dye (fun h => by cases h) k_V_dye_45 n 45 ls st M Q o_V_dye_45 h
def k_V_dye_69 : List am_I := [(.bipush 15, 2, 0, 0, 0), (.iload_n 1, 1, 0, 0, 0), (.iconst 3, 1, 0, 0, 0), (.imul, 1, 0, 0, 0), (.iadd, 1, 0, 0, 0), (.iload_n 2, 1, 0, 0, 0), (.iadd, 1, 0, 0, 0), (.istore 4, 2, 0, 0, 0), (.aload_n 0, 1, 0, 0, 0), (.getfield 12, 3, 3, 0, 163), (.getfield 51, 3, 1, 0, 99), (.iload 4, 2, 0, 0, 0), (.dup2, 1, 0, 0, 0), (.iaload, 1, 0, 0, 0), (.iload_n 3, 1, 0, 0, 0), (.iadd, 1, 0, 0, 0), (.iastore, 1, 0, 0, 0), (.aload_n 0, 1, 0, 0, 0), (.getfield 12, 3, 3, 0, 163), (.getfield 51, 3, 1, 0, 99), (.bipush 45, 2, 0, 0, 0), (.iload_n 2, 1, 0, 0, 0), (.iadd, 1, 0, 0, 0), (.dup2, 1, 0, 0, 0), (.iaload, 1, 0, 0, 0), (.iload_n 3, 1, 0, 0, 0), (.iadd, 1, 0, 0, 0), (.iastore, 1, 0, 0, 0), (.aload_n 0, 1, 0, 0, 0), (.getfield 12, 3, 3, 0, 163), (.getfield 51, 3, 1, 0, 99), (.iload 4, 2, 0, 0, 0), (.iaload, 1, 0, 0, 0), (.ireturn, 1, 0, 0, 0)]
set_option maxRecDepth 20000 in
theorem o_V_dye_69 : am_okB mt_V_dye 69 k_V_dye_69 = true := by decide +kernel
theorem g_V_dye_69 {L : am_S} {n : Nat} {ls st : List Value} {M : am_M} {Q : am_Q} (h : am_B L mt_V_dye k_V_dye_69 n 69 ls st M Q) : am_R L mt_V_dye n 69 ls st M Q := am_go L mt_V_dye (fun h => by cases h) k_V_dye_69 n 69 ls st M Q o_V_dye_69 h
def k_V_stir_0 : List am_I := [(.iload_n 1, 1, 0, 0, 0), (.invokestatic 54, 3, 70, 1, 428), (.aload_n 0, 1, 0, 0, 0), (.invokevirtual 62, 3, 68, 1, 517), (.aload_n 0, 1, 0, 0, 0), (.getfield 12, 3, 3, 0, 163), (.iload_n 1, 1, 0, 0, 0), (.invokevirtual 80, 3, 13, 2, 562), (.ireturn, 1, 0, 0, 0)]
set_option maxRecDepth 20000 in
theorem o_V_stir_0 : am_okB mt_V_stir 0 k_V_stir_0 = true := by decide +kernel
theorem g_V_stir_0 {L : am_S} {n : Nat} {ls st : List Value} {M : am_M} {Q : am_Q} (h : am_B L mt_V_stir k_V_stir_0 n 0 ls st M Q) : am_R L mt_V_stir n 0 ls st M Q := am_go L mt_V_stir (fun h => by cases h) k_V_stir_0 n 0 ls st M Q o_V_stir_0 h
def k_V_capacity_0 : List am_I := [(.iload_n 1, 1, 0, 0, 0), (.invokestatic 54, 3, 70, 1, 428), (.iload_n 2, 1, 0, 0, 0), (.iconst 1, 1, 0, 0, 0), (.sipush 2000, 3, 0, 0, 0), (.invokestatic 58, 3, 73, 3, 498), (.aload_n 0, 1, 0, 0, 0), (.invokevirtual 62, 3, 68, 1, 517), (.aload_n 0, 1, 0, 0, 0), (.getfield 12, 3, 3, 0, 163), (.getfield 51, 3, 1, 0, 99), (.bipush 10, 2, 0, 0, 0), (.iload_n 1, 1, 0, 0, 0), (.iadd, 1, 0, 0, 0), (.iaload, 1, 0, 0, 0), (.iload_n 2, 1, 0, 0, 0), (.if_icmp .le 8, 3, 0, 0, 0), (.aload_n 0, 1, 0, 0, 0), (.invokevirtual 65, 3, 69, 1, 522), (.ireturn, 1, 0, 0, 0)]
set_option maxRecDepth 20000 in
theorem o_V_capacity_0 : am_okB mt_V_capacity 0 k_V_capacity_0 = true := by decide +kernel
theorem g_V_capacity_0 {L : am_S} {n : Nat} {ls st : List Value} {M : am_M} {Q : am_Q} (h : am_B L mt_V_capacity k_V_capacity_0 n 0 ls st M Q) : am_R L mt_V_capacity n 0 ls st M Q := am_go L mt_V_capacity (fun h => by cases h) k_V_capacity_0 n 0 ls st M Q o_V_capacity_0 h
def k_V_capacity_37 : List am_I := [(.aload_n 0, 1, 0, 0, 0), (.getfield 12, 3, 3, 0, 163), (.getfield 51, 3, 1, 0, 99), (.iconst 0, 1, 0, 0, 0), (.iload_n 1, 1, 0, 0, 0), (.iadd, 1, 0, 0, 0), (.iaload, 1, 0, 0, 0), (.istore_n 3, 1, 0, 0, 0), (.aload_n 0, 1, 0, 0, 0), (.getfield 12, 3, 3, 0, 163), (.getfield 51, 3, 1, 0, 99), (.iconst 0, 1, 0, 0, 0), (.iload_n 1, 1, 0, 0, 0), (.iadd, 1, 0, 0, 0), (.iload_n 2, 1, 0, 0, 0), (.iastore, 1, 0, 0, 0), (.iload_n 3, 1, 0, 0, 0), (.ireturn, 1, 0, 0, 0)]
set_option maxRecDepth 20000 in
theorem o_V_capacity_37 : am_okB mt_V_capacity 37 k_V_capacity_37 = true := by decide +kernel
theorem g_V_capacity_37 {L : am_S} {n : Nat} {ls st : List Value} {M : am_M} {Q : am_Q} (h : am_B L mt_V_capacity k_V_capacity_37 n 37 ls st M Q) : am_R L mt_V_capacity n 37 ls st M Q := am_go L mt_V_capacity (fun h => by cases h) k_V_capacity_37 n 37 ls st M Q o_V_capacity_37 h
def k_V_valve_0 : List am_I := [(.iload_n 1, 1, 0, 0, 0), (.invokestatic 54, 3, 70, 1, 428), (.iload_n 2, 1, 0, 0, 0), (.iconst 5, 1, 0, 0, 0), (.if_icmp .eq 7, 3, 0, 0, 0), (.iload_n 2, 1, 0, 0, 0), (.invokestatic 54, 3, 70, 1, 428)]
set_option maxRecDepth 20000 in
theorem o_V_valve_0 : am_okB mt_V_valve 0 k_V_valve_0 = true := by decide +kernel
theorem g_V_valve_0 {L : am_S} {n : Nat} {ls st : List Value} {M : am_M} {Q : am_Q} (h : am_B L mt_V_valve k_V_valve_0 n 0 ls st M Q) : am_R L mt_V_valve n 0 ls st M Q := am_go L mt_V_valve (fun h => by cases h) k_V_valve_0 n 0 ls st M Q o_V_valve_0 h
def k_V_valve_13 : List am_I := [(.iload_n 1, 1, 0, 0, 0), (.iload_n 2, 1, 0, 0, 0), (.if_icmp .ne 13, 3, 0, 0, 0), (.new 84, 3, 1, 86, 88)]
set_option maxRecDepth 20000 in
theorem o_V_valve_13 : am_okB mt_V_valve 13 k_V_valve_13 = true := by decide +kernel
theorem g_V_valve_13 {L : am_S} {n : Nat} {ls st : List Value} {M : am_M} {Q : am_Q} (h : am_B L mt_V_valve k_V_valve_13 n 13 ls st M Q) : am_R L mt_V_valve n 13 ls st M Q := am_go L mt_V_valve (fun h => by cases h) k_V_valve_13 n 13 ls st M Q o_V_valve_13 h
def k_V_valve_28 : List am_I := [(.iload_n 3, 1, 0, 0, 0), (.iconst 1, 1, 0, 0, 0), (.sipush 500, 3, 0, 0, 0), (.invokestatic 58, 3, 73, 3, 498), (.iload 4, 2, 0, 0, 0), (.iconst 0, 1, 0, 0, 0), (.bipush 23, 2, 0, 0, 0), (.invokestatic 58, 3, 73, 3, 498), (.iload 5, 2, 0, 0, 0), (.iload 4, 2, 0, 0, 0), (.bipush 23, 2, 0, 0, 0), (.invokestatic 58, 3, 73, 3, 498), (.aload_n 0, 1, 0, 0, 0), (.getfield 12, 3, 3, 0, 163), (.getfield 51, 3, 1, 0, 99), (.bipush 56, 2, 0, 0, 0), (.iaload, 1, 0, 0, 0), (.istore 6, 2, 0, 0, 0), (.iload 6, 2, 0, 0, 0), (.ifCond .lt 10, 3, 0, 0, 0), (.iload 6, 2, 0, 0, 0), (.bipush 8, 2, 0, 0, 0), (.if_icmp .lt 13, 3, 0, 0, 0)]
set_option maxRecDepth 20000 in
theorem o_V_valve_28 : am_okB mt_V_valve 28 k_V_valve_28 = true := by decide +kernel
theorem g_V_valve_28 {L : am_S} {n : Nat} {ls st : List Value} {M : am_M} {Q : am_Q} (h : am_B L mt_V_valve k_V_valve_28 n 28 ls st M Q) : am_R L mt_V_valve n 28 ls st M Q := am_go L mt_V_valve (fun h => by cases h) k_V_valve_28 n 28 ls st M Q o_V_valve_28 h
def k_V_valve_77 : List am_I := [(.new 73, 3, 2, 89, 77)]
set_option maxRecDepth 20000 in
theorem o_V_valve_77 : am_okB mt_V_valve 77 k_V_valve_77 = true := by decide +kernel
theorem g_V_valve_77 {L : am_S} {n : Nat} {ls st : List Value} {M : am_M} {Q : am_Q} (h : am_B L mt_V_valve k_V_valve_77 n 77 ls st M Q) : am_R L mt_V_valve n 77 ls st M Q := am_go L mt_V_valve (fun h => by cases h) k_V_valve_77 n 77 ls st M Q o_V_valve_77 h
def k_V_valve_87 : List am_I := [(.aload_n 0, 1, 0, 0, 0), (.invokevirtual 62, 3, 68, 1, 517), (.bipush 57, 2, 0, 0, 0), (.iload 6, 2, 0, 0, 0), (.bipush 6, 2, 0, 0, 0), (.imul, 1, 0, 0, 0), (.iadd, 1, 0, 0, 0), (.istore 7, 2, 0, 0, 0), (.aload_n 0, 1, 0, 0, 0), (.getfield 12, 3, 3, 0, 163), (.getfield 51, 3, 1, 0, 99), (.iload 7, 2, 0, 0, 0), (.iconst 0, 1, 0, 0, 0), (.iadd, 1, 0, 0, 0), (.iload_n 1, 1, 0, 0, 0), (.iastore, 1, 0, 0, 0), (.aload_n 0, 1, 0, 0, 0), (.getfield 12, 3, 3, 0, 163), (.getfield 51, 3, 1, 0, 99), (.iload 7, 2, 0, 0, 0), (.iconst 1, 1, 0, 0, 0), (.iadd, 1, 0, 0, 0), (.iload_n 2, 1, 0, 0, 0), (.iastore, 1, 0, 0, 0), (.aload_n 0, 1, 0, 0, 0), (.getfield 12, 3, 3, 0, 163), (.getfield 51, 3, 1, 0, 99), (.iload 7, 2, 0, 0, 0), (.iconst 2, 1, 0, 0, 0), (.iadd, 1, 0, 0, 0), (.iload_n 3, 1, 0, 0, 0), (.iastore, 1, 0, 0, 0), (.aload_n 0, 1, 0, 0, 0), (.getfield 12, 3, 3, 0, 163), (.getfield 51, 3, 1, 0, 99), (.iload 7, 2, 0, 0, 0), (.iconst 3, 1, 0, 0, 0), (.iadd, 1, 0, 0, 0), (.iload 4, 2, 0, 0, 0), (.iastore, 1, 0, 0, 0), (.aload_n 0, 1, 0, 0, 0), (.getfield 12, 3, 3, 0, 163), (.getfield 51, 3, 1, 0, 99), (.iload 7, 2, 0, 0, 0), (.iconst 4, 1, 0, 0, 0), (.iadd, 1, 0, 0, 0), (.iload 5, 2, 0, 0, 0), (.iastore, 1, 0, 0, 0), (.aload_n 0, 1, 0, 0, 0), (.getfield 12, 3, 3, 0, 163), (.getfield 51, 3, 1, 0, 99), (.iload 7, 2, 0, 0, 0), (.iconst 5, 1, 0, 0, 0), (.iadd, 1, 0, 0, 0), (.iconst 0, 1, 0, 0, 0), (.iastore, 1, 0, 0, 0), (.aload_n 0, 1, 0, 0, 0), (.getfield 12, 3, 3, 0, 163), (.getfield 51, 3, 1, 0, 99), (.bipush 56, 2, 0, 0, 0), (.iload 6, 2, 0, 0, 0), (.iconst 1, 1, 0, 0, 0), (.iadd, 1, 0, 0, 0), (.iastore, 1, 0, 0, 0), (.iload 6, 2, 0, 0, 0), (.ireturn, 1, 0, 0, 0)]
set_option maxRecDepth 20000 in
theorem o_V_valve_87 : am_okB mt_V_valve 87 k_V_valve_87 = true := by decide +kernel
theorem g_V_valve_87 {L : am_S} {n : Nat} {ls st : List Value} {M : am_M} {Q : am_Q} (h : am_B L mt_V_valve k_V_valve_87 n 87 ls st M Q) : am_R L mt_V_valve n 87 ls st M Q := am_go L mt_V_valve (fun h => by cases h) k_V_valve_87 n 87 ls st M Q o_V_valve_87 h
def k_V_close_0 : List am_I := [(.aload_n 0, 1, 0, 0, 0), (.iload_n 1, 1, 0, 0, 0), (.invokevirtual 91, 3, 72, 2, 592), (.aload_n 0, 1, 0, 0, 0), (.invokevirtual 62, 3, 68, 1, 517), (.aload_n 0, 1, 0, 0, 0), (.getfield 12, 3, 3, 0, 163), (.iload_n 1, 1, 0, 0, 0), (.invokevirtual 94, 3, 11, 2, 281), (.aload_n 0, 1, 0, 0, 0), (.getfield 12, 3, 3, 0, 163), (.getfield 51, 3, 1, 0, 99), (.bipush 56, 2, 0, 0, 0), (.iaload, 1, 0, 0, 0), (.ireturn, 1, 0, 0, 0)]
set_option maxRecDepth 20000 in
theorem o_V_close_0 : am_okB mt_V_close 0 k_V_close_0 = true := by decide +kernel
theorem g_V_close_0 {L : am_S} {n : Nat} {ls st : List Value} {M : am_M} {Q : am_Q} (h : am_B L mt_V_close k_V_close_0 n 0 ls st M Q) : am_R L mt_V_close n 0 ls st M Q := am_go L mt_V_close (fun h => by cases h) k_V_close_0 n 0 ls st M Q o_V_close_0 h
def k_V_pipe_0 : List am_I := [(.iload_n 1, 1, 0, 0, 0), (.invokestatic 54, 3, 70, 1, 428), (.iload_n 2, 1, 0, 0, 0), (.invokestatic 54, 3, 70, 1, 428), (.iload_n 1, 1, 0, 0, 0), (.iload_n 2, 1, 0, 0, 0), (.if_icmp .ne 13, 3, 0, 0, 0), (.new 84, 3, 1, 97, 88)]
set_option maxRecDepth 20000 in
theorem o_V_pipe_0 : am_okB mt_V_pipe 0 k_V_pipe_0 = true := by decide +kernel
theorem g_V_pipe_0 {L : am_S} {n : Nat} {ls st : List Value} {M : am_M} {Q : am_Q} (h : am_B L mt_V_pipe k_V_pipe_0 n 0 ls st M Q) : am_R L mt_V_pipe n 0 ls st M Q := am_go L mt_V_pipe (fun h => by cases h) k_V_pipe_0 n 0 ls st M Q o_V_pipe_0 h
def k_V_pipe_23 : List am_I := [(.aload_n 0, 1, 0, 0, 0), (.invokevirtual 62, 3, 68, 1, 517), (.aload_n 0, 1, 0, 0, 0), (.getfield 12, 3, 3, 0, 163), (.getfield 51, 3, 1, 0, 99), (.iconst 5, 1, 0, 0, 0), (.iload_n 1, 1, 0, 0, 0), (.iadd, 1, 0, 0, 0), (.dup2, 1, 0, 0, 0), (.iaload, 1, 0, 0, 0), (.iconst 1, 1, 0, 0, 0), (.iload_n 2, 1, 0, 0, 0), (.ishl, 1, 0, 0, 0), (.ixor, 1, 0, 0, 0), (.iastore, 1, 0, 0, 0), (.aload_n 0, 1, 0, 0, 0), (.getfield 12, 3, 3, 0, 163), (.getfield 51, 3, 1, 0, 99), (.iconst 5, 1, 0, 0, 0), (.iload_n 2, 1, 0, 0, 0), (.iadd, 1, 0, 0, 0), (.dup2, 1, 0, 0, 0), (.iaload, 1, 0, 0, 0), (.iconst 1, 1, 0, 0, 0), (.iload_n 1, 1, 0, 0, 0), (.ishl, 1, 0, 0, 0), (.ixor, 1, 0, 0, 0), (.iastore, 1, 0, 0, 0), (.aload_n 0, 1, 0, 0, 0), (.getfield 12, 3, 3, 0, 163), (.getfield 51, 3, 1, 0, 99), (.iconst 5, 1, 0, 0, 0), (.iload_n 1, 1, 0, 0, 0), (.iadd, 1, 0, 0, 0), (.iaload, 1, 0, 0, 0), (.iload_n 2, 1, 0, 0, 0), (.ishr, 1, 0, 0, 0), (.iconst 1, 1, 0, 0, 0), (.iand, 1, 0, 0, 0), (.ireturn, 1, 0, 0, 0)]
set_option maxRecDepth 20000 in
theorem o_V_pipe_23 : am_okB mt_V_pipe 23 k_V_pipe_23 = true := by decide +kernel
theorem g_V_pipe_23 {L : am_S} {n : Nat} {ls st : List Value} {M : am_M} {Q : am_Q} (h : am_B L mt_V_pipe k_V_pipe_23 n 23 ls st M Q) : am_R L mt_V_pipe n 23 ls st M Q := am_go L mt_V_pipe (fun h => by cases h) k_V_pipe_23 n 23 ls st M Q o_V_pipe_23 h
def k_V_set_0 : List am_I := [(.iload_n 1, 1, 0, 0, 0), (.iconst 0, 1, 0, 0, 0), (.sipush 200, 3, 0, 0, 0), (.invokestatic 58, 3, 73, 3, 498), (.aload_n 0, 1, 0, 0, 0), (.invokevirtual 62, 3, 68, 1, 517), (.aload_n 0, 1, 0, 0, 0), (.getfield 12, 3, 3, 0, 163), (.getfield 51, 3, 1, 0, 99), (.bipush 51, 2, 0, 0, 0), (.iaload, 1, 0, 0, 0), (.istore_n 2, 1, 0, 0, 0), (.aload_n 0, 1, 0, 0, 0), (.getfield 12, 3, 3, 0, 163), (.getfield 51, 3, 1, 0, 99), (.bipush 51, 2, 0, 0, 0), (.iload_n 1, 1, 0, 0, 0), (.iastore, 1, 0, 0, 0), (.iload_n 2, 1, 0, 0, 0), (.ireturn, 1, 0, 0, 0)]
set_option maxRecDepth 20000 in
theorem o_V_set_0 : am_okB mt_V_set 0 k_V_set_0 = true := by decide +kernel
theorem g_V_set_0 {L : am_S} {n : Nat} {ls st : List Value} {M : am_M} {Q : am_Q} (h : am_B L mt_V_set k_V_set_0 n 0 ls st M Q) : am_R L mt_V_set n 0 ls st M Q := am_go L mt_V_set (fun h => by cases h) k_V_set_0 n 0 ls st M Q o_V_set_0 h
def k_V_pass_0 : List am_I := [(.iload_n 1, 1, 0, 0, 0), (.iconst 1, 1, 0, 0, 0), (.sipush 240, 3, 0, 0, 0), (.invokestatic 58, 3, 73, 3, 498), (.aload_n 0, 1, 0, 0, 0), (.getfield 12, 3, 3, 0, 163), (.getfield 51, 3, 1, 0, 99), (.bipush 52, 2, 0, 0, 0), (.iaload, 1, 0, 0, 0), (.iload_n 1, 1, 0, 0, 0), (.iadd, 1, 0, 0, 0), (.ldc 72, 2, 99999, 0, 538), (.if_icmp .le 13, 3, 0, 0, 0), (.new 73, 3, 2, 99, 77)]
set_option maxRecDepth 20000 in
theorem o_V_pass_0 : am_okB mt_V_pass 0 k_V_pass_0 = true := by decide +kernel
theorem g_V_pass_0 {L : am_S} {n : Nat} {ls st : List Value} {M : am_M} {Q : am_Q} (h : am_B L mt_V_pass k_V_pass_0 n 0 ls st M Q) : am_R L mt_V_pass n 0 ls st M Q := am_go L mt_V_pass (fun h => by cases h) k_V_pass_0 n 0 ls st M Q o_V_pass_0 h
def k_V_pass_35 : List am_I := [(.aload_n 0, 1, 0, 0, 0), (.invokevirtual 62, 3, 68, 1, 517), (.aload_n 0, 1, 0, 0, 0), (.getfield 12, 3, 3, 0, 163), (.getfield 51, 3, 1, 0, 99), (.bipush 54, 2, 0, 0, 0), (.iaload, 1, 0, 0, 0), (.istore_n 2, 1, 0, 0, 0), (.aload_n 0, 1, 0, 0, 0), (.getfield 12, 3, 3, 0, 163), (.iload_n 1, 1, 0, 0, 0), (.invokevirtual 101, 3, 14, 2, 285), (.aload_n 0, 1, 0, 0, 0), (.getfield 12, 3, 3, 0, 163), (.getfield 51, 3, 1, 0, 99), (.bipush 54, 2, 0, 0, 0), (.iaload, 1, 0, 0, 0), (.iload_n 2, 1, 0, 0, 0), (.isub, 1, 0, 0, 0), (.ireturn, 1, 0, 0, 0)]
set_option maxRecDepth 20000 in
theorem o_V_pass_35 : am_okB mt_V_pass 35 k_V_pass_35 = true := by decide +kernel
theorem g_V_pass_35 {L : am_S} {n : Nat} {ls st : List Value} {M : am_M} {Q : am_Q} (h : am_B L mt_V_pass k_V_pass_35 n 35 ls st M Q) : am_R L mt_V_pass n 35 ls st M Q := am_go L mt_V_pass (fun h => by cases h) k_V_pass_35 n 35 ls st M Q o_V_pass_35 h
def k_V_append_0 : List am_I := [(.iload_n 1, 1, 0, 0, 0), (.bipush 33, 2, 0, 0, 0), (.bipush 126, 2, 0, 0, 0), (.invokestatic 58, 3, 73, 3, 498), (.aload_n 0, 1, 0, 0, 0), (.getfield 29, 3, 3, 3, 166), (.getfield 104, 3, 2, 1, 140), (.ifCond .lt 15, 3, 0, 0, 0), (.aload_n 0, 1, 0, 0, 0), (.getfield 29, 3, 3, 3, 166), (.getfield 104, 3, 2, 1, 140), (.bipush 60, 2, 0, 0, 0), (.if_icmp .lt 13, 3, 0, 0, 0)]
set_option maxRecDepth 20000 in
theorem o_V_append_0 : am_okB mt_V_append 0 k_V_append_0 = true := by decide +kernel
theorem g_V_append_0 {L : am_S} {n : Nat} {ls st : List Value} {M : am_M} {Q : am_Q} (h : am_B L mt_V_append k_V_append_0 n 0 ls st M Q) : am_R L mt_V_append n 0 ls st M Q := am_go L mt_V_append (fun h => by cases h) k_V_append_0 n 0 ls st M Q o_V_append_0 h
def k_V_append_30 : List am_I := [(.new 73, 3, 2, 107, 77)]
set_option maxRecDepth 20000 in
theorem o_V_append_30 : am_okB mt_V_append 30 k_V_append_30 = true := by decide +kernel
theorem g_V_append_30 {L : am_S} {n : Nat} {ls st : List Value} {M : am_M} {Q : am_Q} (h : am_B L mt_V_append k_V_append_30 n 30 ls st M Q) : am_R L mt_V_append n 30 ls st M Q := am_go L mt_V_append (fun h => by cases h) k_V_append_30 n 30 ls st M Q o_V_append_30 h
def k_V_append_40 : List am_I := [(.aload_n 0, 1, 0, 0, 0), (.getfield 29, 3, 3, 3, 166), (.getfield 109, 3, 2, 0, 138), (.aload_n 0, 1, 0, 0, 0), (.getfield 29, 3, 3, 3, 166), (.getfield 104, 3, 2, 1, 140), (.iload_n 1, 1, 0, 0, 0), (.iastore, 1, 0, 0, 0), (.aload_n 0, 1, 0, 0, 0), (.getfield 29, 3, 3, 3, 166), (.dup, 1, 0, 0, 0), (.getfield 104, 3, 2, 1, 140), (.iconst 1, 1, 0, 0, 0), (.iadd, 1, 0, 0, 0), (.putfield 104, 3, 2, 1, 140), (.aload_n 0, 1, 0, 0, 0), (.getfield 29, 3, 3, 3, 166), (.getfield 104, 3, 2, 1, 140), (.ireturn, 1, 0, 0, 0)]
set_option maxRecDepth 20000 in
theorem o_V_append_40 : am_okB mt_V_append 40 k_V_append_40 = true := by decide +kernel
theorem g_V_append_40 {L : am_S} {n : Nat} {ls st : List Value} {M : am_M} {Q : am_Q} (h : am_B L mt_V_append k_V_append_40 n 40 ls st M Q) : am_R L mt_V_append n 40 ls st M Q := am_go L mt_V_append (fun h => by cases h) k_V_append_40 n 40 ls st M Q o_V_append_40 h
def k_V_clearBuffer_0 : List am_I := [(.aload_n 0, 1, 0, 0, 0), (.getfield 29, 3, 3, 3, 166), (.getfield 104, 3, 2, 1, 140), (.istore_n 1, 1, 0, 0, 0), (.aload_n 0, 1, 0, 0, 0), (.getfield 29, 3, 3, 3, 166), (.iconst 0, 1, 0, 0, 0), (.putfield 104, 3, 2, 1, 140), (.iload_n 1, 1, 0, 0, 0), (.ireturn, 1, 0, 0, 0)]
set_option maxRecDepth 20000 in
theorem o_V_clearBuffer_0 : am_okB mt_V_clearBuffer 0 k_V_clearBuffer_0 = true := by decide +kernel
theorem g_V_clearBuffer_0 {L : am_S} {n : Nat} {ls st : List Value} {M : am_M} {Q : am_Q} (h : am_B L mt_V_clearBuffer k_V_clearBuffer_0 n 0 ls st M Q) : am_R L mt_V_clearBuffer n 0 ls st M Q := am_go L mt_V_clearBuffer (fun h => by cases h) k_V_clearBuffer_0 n 0 ls st M Q o_V_clearBuffer_0 h
def k_V_firstError_0 : List am_I := [(.aload_n 0, 1, 0, 0, 0), (.getfield 29, 3, 3, 3, 166), (.invokevirtual 112, 3, 23, 1, 200), (.ireturn, 1, 0, 0, 0)]
set_option maxRecDepth 20000 in
theorem o_V_firstError_0 : am_okB mt_V_firstError 0 k_V_firstError_0 = true := by decide +kernel
theorem g_V_firstError_0 {L : am_S} {n : Nat} {ls st : List Value} {M : am_M} {Q : am_Q} (h : am_B L mt_V_firstError k_V_firstError_0 n 0 ls st M Q) : am_R L mt_V_firstError n 0 ls st M Q := am_go L mt_V_firstError (fun h => by cases h) k_V_firstError_0 n 0 ls st M Q o_V_firstError_0 h
def k_V_load_0 : List am_I := [(.aload_n 0, 1, 0, 0, 0), (.getfield 29, 3, 3, 3, 166), (.invokevirtual 112, 3, 23, 1, 200), (.aload_n 0, 1, 0, 0, 0), (.getfield 29, 3, 3, 3, 166), (.getfield 104, 3, 2, 1, 140), (.if_icmp .lt 13, 3, 0, 0, 0), (.aload_n 0, 1, 0, 0, 0), (.getfield 29, 3, 3, 3, 166), (.invokevirtual 115, 3, 24, 1, 635), (.ifCond .ne 13, 3, 0, 0, 0)]
set_option maxRecDepth 20000 in
theorem o_V_load_0 : am_okB mt_V_load 0 k_V_load_0 = true := by decide +kernel
theorem g_V_load_0 {L : am_S} {n : Nat} {ls st : List Value} {M : am_M} {Q : am_Q} (h : am_B L mt_V_load k_V_load_0 n 0 ls st M Q) : am_R L mt_V_load n 0 ls st M Q := am_go L mt_V_load (fun h => by cases h) k_V_load_0 n 0 ls st M Q o_V_load_0 h
def k_V_load_27 : List am_I := [(.new 84, 3, 1, 119, 88)]
set_option maxRecDepth 20000 in
theorem o_V_load_27 : am_okB mt_V_load 27 k_V_load_27 = true := by decide +kernel
theorem g_V_load_27 {L : am_S} {n : Nat} {ls st : List Value} {M : am_M} {Q : am_Q} (h : am_B L mt_V_load k_V_load_27 n 27 ls st M Q) : am_R L mt_V_load n 27 ls st M Q := am_go L mt_V_load (fun h => by cases h) k_V_load_27 n 27 ls st M Q o_V_load_27 h
def k_V_load_37 : List am_I := [(.aload_n 0, 1, 0, 0, 0), (.getfield 29, 3, 3, 3, 166), (.getfield 121, 3, 2, 3, 144), (.iconst 1, 1, 0, 0, 0), (.iadd, 1, 0, 0, 0), (.istore_n 1, 1, 0, 0, 0), (.iload_n 1, 1, 0, 0, 0), (.bipush 8, 2, 0, 0, 0), (.if_icmp .le 13, 3, 0, 0, 0), (.new 73, 3, 2, 124, 77)]
set_option maxRecDepth 20000 in
theorem o_V_load_37 : am_okB mt_V_load 37 k_V_load_37 = true := by decide +kernel
theorem g_V_load_37 {L : am_S} {n : Nat} {ls st : List Value} {M : am_M} {Q : am_Q} (h : am_B L mt_V_load k_V_load_37 n 37 ls st M Q) : am_R L mt_V_load n 37 ls st M Q := am_go L mt_V_load (fun h => by cases h) k_V_load_37 n 37 ls st M Q o_V_load_37 h
def k_V_load_63 : List am_I := [(.aload_n 0, 1, 0, 0, 0), (.invokevirtual 62, 3, 68, 1, 517), (.aload_n 0, 1, 0, 0, 0), (.getfield 12, 3, 3, 0, 163), (.aload_n 0, 1, 0, 0, 0), (.getfield 29, 3, 3, 3, 166), (.getfield 126, 3, 2, 2, 142), (.iload_n 1, 1, 0, 0, 0), (.invokevirtual 129, 3, 12, 3, 641), (.aload_n 0, 1, 0, 0, 0), (.getfield 29, 3, 3, 3, 166), (.iconst 0, 1, 0, 0, 0), (.putfield 104, 3, 2, 1, 140), (.iload_n 1, 1, 0, 0, 0), (.ireturn, 1, 0, 0, 0)]
set_option maxRecDepth 20000 in
theorem o_V_load_63 : am_okB mt_V_load 63 k_V_load_63 = true := by decide +kernel
theorem g_V_load_63 {L : am_S} {n : Nat} {ls st : List Value} {M : am_M} {Q : am_Q} (h : am_B L mt_V_load k_V_load_63 n 63 ls st M Q) : am_R L mt_V_load n 63 ls st M Q := am_go L mt_V_load (fun h => by cases h) k_V_load_63 n 63 ls st M Q o_V_load_63 h
def k_V_keep_0 : List am_I := [(.iload_n 1, 1, 0, 0, 0), (.iconst 0, 1, 0, 0, 0), (.iconst 1, 1, 0, 0, 0), (.invokestatic 58, 3, 73, 3, 498), (.aload_n 0, 1, 0, 0, 0), (.getfield 12, 3, 3, 0, 163), (.getfield 51, 3, 1, 0, 99), (.iconst 0, 1, 0, 0, 0), (.aload_n 0, 1, 0, 0, 0), (.getfield 37, 3, 3, 5, 168), (.iload_n 1, 1, 0, 0, 0), (.bipush 105, 2, 0, 0, 0), (.imul, 1, 0, 0, 0), (.bipush 105, 2, 0, 0, 0), (.invokestatic 133, 3, 202, 5, 521), (.aload_n 0, 1, 0, 0, 0), (.getfield 40, 3, 3, 6, 169), (.iload_n 1, 1, 0, 0, 0), (.iconst 1, 1, 0, 0, 0), (.bastore, 1, 0, 0, 0), (.aload_n 0, 1, 0, 0, 0), (.getfield 12, 3, 3, 0, 163), (.invokevirtual 139, 3, 4, 1, 337), (.ireturn, 1, 0, 0, 0)]
set_option maxRecDepth 20000 in
theorem o_V_keep_0 : am_okB mt_V_keep 0 k_V_keep_0 = true := by decide +kernel
theorem g_V_keep_0 {L : am_S} {n : Nat} {ls st : List Value} {M : am_M} {Q : am_Q} (h : am_B L mt_V_keep k_V_keep_0 n 0 ls st M Q) : am_R L mt_V_keep n 0 ls st M Q := am_go L mt_V_keep (fun h => by cases h) k_V_keep_0 n 0 ls st M Q o_V_keep_0 h
def k_V_goBack_0 : List am_I := [(.iload_n 1, 1, 0, 0, 0), (.iconst 0, 1, 0, 0, 0), (.iconst 1, 1, 0, 0, 0), (.invokestatic 58, 3, 73, 3, 498), (.aload_n 0, 1, 0, 0, 0), (.getfield 40, 3, 3, 6, 169), (.iload_n 1, 1, 0, 0, 0), (.baload, 1, 0, 0, 0), (.ifCond .ne 13, 3, 0, 0, 0), (.new 73, 3, 2, 142, 77)]
set_option maxRecDepth 20000 in
theorem o_V_goBack_0 : am_okB mt_V_goBack 0 k_V_goBack_0 = true := by decide +kernel
theorem g_V_goBack_0 {L : am_S} {n : Nat} {ls st : List Value} {M : am_M} {Q : am_Q} (h : am_B L mt_V_goBack k_V_goBack_0 n 0 ls st M Q) : am_R L mt_V_goBack n 0 ls st M Q := am_go L mt_V_goBack (fun h => by cases h) k_V_goBack_0 n 0 ls st M Q o_V_goBack_0 h
def k_V_goBack_25 : List am_I := [(.aload_n 0, 1, 0, 0, 0), (.invokevirtual 62, 3, 68, 1, 517), (.aload_n 0, 1, 0, 0, 0), (.getfield 37, 3, 3, 5, 168), (.iload_n 1, 1, 0, 0, 0), (.bipush 105, 2, 0, 0, 0), (.imul, 1, 0, 0, 0), (.aload_n 0, 1, 0, 0, 0), (.getfield 12, 3, 3, 0, 163), (.getfield 51, 3, 1, 0, 99), (.iconst 0, 1, 0, 0, 0), (.bipush 105, 2, 0, 0, 0), (.invokestatic 133, 3, 202, 5, 521), (.aload_n 0, 1, 0, 0, 0), (.getfield 12, 3, 3, 0, 163), (.invokevirtual 139, 3, 4, 1, 337), (.ireturn, 1, 0, 0, 0)]
set_option maxRecDepth 20000 in
theorem o_V_goBack_25 : am_okB mt_V_goBack 25 k_V_goBack_25 = true := by decide +kernel
theorem g_V_goBack_25 {L : am_S} {n : Nat} {ls st : List Value} {M : am_M} {Q : am_Q} (h : am_B L mt_V_goBack k_V_goBack_25 n 25 ls st M Q) : am_R L mt_V_goBack n 25 ls st M Q := am_go L mt_V_goBack (fun h => by cases h) k_V_goBack_25 n 25 ls st M Q o_V_goBack_25 h
def k_V_undo_0 : List am_I := [(.aload_n 0, 1, 0, 0, 0), (.getfield 47, 3, 3, 8, 171), (.ifCond .le 12, 3, 0, 0, 0), (.aload_n 0, 1, 0, 0, 0), (.getfield 47, 3, 3, 8, 171), (.bipush 6, 2, 0, 0, 0), (.if_icmp .le 13, 3, 0, 0, 0)]
set_option maxRecDepth 20000 in
theorem o_V_undo_0 : am_okB mt_V_undo 0 k_V_undo_0 = true := by decide +kernel
theorem g_V_undo_0 {L : am_S} {n : Nat} {ls st : List Value} {M : am_M} {Q : am_Q} (h : am_B L mt_V_undo k_V_undo_0 n 0 ls st M Q) : am_R L mt_V_undo n 0 ls st M Q := am_go L mt_V_undo (fun h => by cases h) k_V_undo_0 n 0 ls st M Q o_V_undo_0 h
def k_V_undo_16 : List am_I := [(.new 73, 3, 2, 144, 77)]
set_option maxRecDepth 20000 in
theorem o_V_undo_16 : am_okB mt_V_undo 16 k_V_undo_16 = true := by decide +kernel
theorem g_V_undo_16 {L : am_S} {n : Nat} {ls st : List Value} {M : am_M} {Q : am_Q} (h : am_B L mt_V_undo k_V_undo_16 n 16 ls st M Q) : am_R L mt_V_undo n 16 ls st M Q := am_go L mt_V_undo (fun h => by cases h) k_V_undo_16 n 16 ls st M Q o_V_undo_16 h
def k_V_undo_26 : List am_I := [(.aload_n 0, 1, 0, 0, 0), (.dup, 1, 0, 0, 0), (.getfield 47, 3, 3, 8, 171), (.iconst 1, 1, 0, 0, 0), (.isub, 1, 0, 0, 0), (.putfield 47, 3, 3, 8, 171), (.aload_n 0, 1, 0, 0, 0), (.getfield 44, 3, 3, 7, 170), (.aload_n 0, 1, 0, 0, 0), (.getfield 47, 3, 3, 8, 171), (.bipush 105, 2, 0, 0, 0), (.imul, 1, 0, 0, 0), (.aload_n 0, 1, 0, 0, 0), (.getfield 12, 3, 3, 0, 163), (.getfield 51, 3, 1, 0, 99), (.iconst 0, 1, 0, 0, 0), (.bipush 105, 2, 0, 0, 0), (.invokestatic 133, 3, 202, 5, 521), (.aload_n 0, 1, 0, 0, 0), (.getfield 47, 3, 3, 8, 171), (.ireturn, 1, 0, 0, 0)]
set_option maxRecDepth 20000 in
theorem o_V_undo_26 : am_okB mt_V_undo 26 k_V_undo_26 = true := by decide +kernel
theorem g_V_undo_26 {L : am_S} {n : Nat} {ls st : List Value} {M : am_M} {Q : am_Q} (h : am_B L mt_V_undo k_V_undo_26 n 26 ls st M Q) : am_R L mt_V_undo n 26 ls st M Q := am_go L mt_V_undo (fun h => by cases h) k_V_undo_26 n 26 ls st M Q o_V_undo_26 h
def k_V_vatOf_0 : List am_I := [(.iload_n 1, 1, 0, 0, 0), (.invokestatic 54, 3, 70, 1, 428), (.iload_n 2, 1, 0, 0, 0), (.iconst 0, 1, 0, 0, 0), (.bipush 9, 2, 0, 0, 0), (.invokestatic 58, 3, 73, 3, 498), (.aload_n 0, 1, 0, 0, 0), (.getfield 12, 3, 3, 0, 163), (.iload_n 1, 1, 0, 0, 0), (.iload_n 2, 1, 0, 0, 0), (.invokevirtual 146, 3, 8, 3, 360), (.ireturn, 1, 0, 0, 0)]
set_option maxRecDepth 20000 in
theorem o_V_vatOf_0 : am_okB mt_V_vatOf 0 k_V_vatOf_0 = true := by decide +kernel
theorem g_V_vatOf_0 {L : am_S} {n : Nat} {ls st : List Value} {M : am_M} {Q : am_Q} (h : am_B L mt_V_vatOf k_V_vatOf_0 n 0 ls st M Q) : am_R L mt_V_vatOf n 0 ls st M Q := am_go L mt_V_vatOf (fun h => by cases h) k_V_vatOf_0 n 0 ls st M Q o_V_vatOf_0 h
def k_V_valveOf_0 : List am_I := [(.aload_n 0, 1, 0, 0, 0), (.iload_n 1, 1, 0, 0, 0), (.invokevirtual 91, 3, 72, 2, 592), (.iload_n 2, 1, 0, 0, 0), (.iconst 0, 1, 0, 0, 0), (.bipush 6, 2, 0, 0, 0), (.invokestatic 58, 3, 73, 3, 498), (.aload_n 0, 1, 0, 0, 0), (.getfield 12, 3, 3, 0, 163), (.iload_n 1, 1, 0, 0, 0), (.iload_n 2, 1, 0, 0, 0), (.invokevirtual 150, 3, 9, 3, 368), (.ireturn, 1, 0, 0, 0)]
set_option maxRecDepth 20000 in
theorem o_V_valveOf_0 : am_okB mt_V_valveOf 0 k_V_valveOf_0 = true := by decide +kernel
theorem g_V_valveOf_0 {L : am_S} {n : Nat} {ls st : List Value} {M : am_M} {Q : am_Q} (h : am_B L mt_V_valveOf k_V_valveOf_0 n 0 ls st M Q) : am_R L mt_V_valveOf n 0 ls st M Q := am_go L mt_V_valveOf (fun h => by cases h) k_V_valveOf_0 n 0 ls st M Q o_V_valveOf_0 h
def k_V_dyeOf_0 : List am_I := [(.iload_n 1, 1, 0, 0, 0), (.invokestatic 69, 3, 71, 1, 534), (.iload_n 2, 1, 0, 0, 0), (.iconst 0, 1, 0, 0, 0), (.iconst 4, 1, 0, 0, 0), (.invokestatic 58, 3, 73, 3, 498), (.aload_n 0, 1, 0, 0, 0), (.getfield 12, 3, 3, 0, 163), (.iload_n 1, 1, 0, 0, 0), (.iload_n 2, 1, 0, 0, 0), (.invokevirtual 153, 3, 10, 3, 376), (.ireturn, 1, 0, 0, 0)]
set_option maxRecDepth 20000 in
theorem o_V_dyeOf_0 : am_okB mt_V_dyeOf 0 k_V_dyeOf_0 = true := by decide +kernel
theorem g_V_dyeOf_0 {L : am_S} {n : Nat} {ls st : List Value} {M : am_M} {Q : am_Q} (h : am_B L mt_V_dyeOf k_V_dyeOf_0 n 0 ls st M Q) : am_R L mt_V_dyeOf n 0 ls st M Q := am_go L mt_V_dyeOf (fun h => by cases h) k_V_dyeOf_0 n 0 ls st M Q o_V_dyeOf_0 h
def k_V_count_0 : List am_I := [(.iload_n 1, 1, 0, 0, 0), (.iconst 0, 1, 0, 0, 0), (.bipush 9, 2, 0, 0, 0), (.invokestatic 58, 3, 73, 3, 498), (.aload_n 0, 1, 0, 0, 0), (.iload_n 1, 1, 0, 0, 0), (.invokevirtual 156, 3, 66, 2, 333), (.ireturn, 1, 0, 0, 0)]
set_option maxRecDepth 20000 in
theorem o_V_count_0 : am_okB mt_V_count 0 k_V_count_0 = true := by decide +kernel
theorem g_V_count_0 {L : am_S} {n : Nat} {ls st : List Value} {M : am_M} {Q : am_Q} (h : am_B L mt_V_count k_V_count_0 n 0 ls st M Q) : am_R L mt_V_count n 0 ls st M Q := am_go L mt_V_count (fun h => by cases h) k_V_count_0 n 0 ls st M Q o_V_count_0 h
def k_V_ifPassed_0 : List am_I := [(.iload_n 2, 1, 0, 0, 0), (.invokestatic 54, 3, 70, 1, 428), (.iload_n 1, 1, 0, 0, 0), (.iconst 1, 1, 0, 0, 0), (.sipush 240, 3, 0, 0, 0), (.invokestatic 58, 3, 73, 3, 498), (.iload_n 3, 1, 0, 0, 0), (.iconst 1, 1, 0, 0, 0), (.bipush 7, 2, 0, 0, 0), (.invokestatic 58, 3, 73, 3, 498), (.aload_n 0, 1, 0, 0, 0), (.getfield 16, 3, 3, 1, 164), (.aload_n 0, 1, 0, 0, 0), (.getfield 12, 3, 3, 0, 163), (.invokevirtual 159, 3, 3, 2, 274), (.aload_n 0, 1, 0, 0, 0), (.getfield 16, 3, 3, 1, 164), (.iload_n 1, 1, 0, 0, 0), (.invokevirtual 101, 3, 14, 2, 285), (.aload_n 0, 1, 0, 0, 0), (.getfield 16, 3, 3, 1, 164), (.iload_n 2, 1, 0, 0, 0), (.iload_n 3, 1, 0, 0, 0), (.invokevirtual 146, 3, 8, 3, 360), (.ireturn, 1, 0, 0, 0)]
set_option maxRecDepth 20000 in
theorem o_V_ifPassed_0 : am_okB mt_V_ifPassed 0 k_V_ifPassed_0 = true := by decide +kernel
theorem g_V_ifPassed_0 {L : am_S} {n : Nat} {ls st : List Value} {M : am_M} {Q : am_Q} (h : am_B L mt_V_ifPassed k_V_ifPassed_0 n 0 ls st M Q) : am_R L mt_V_ifPassed n 0 ls st M Q := am_go L mt_V_ifPassed (fun h => by cases h) k_V_ifPassed_0 n 0 ls st M Q o_V_ifPassed_0 h
def k_V_emptyIn_0 : List am_I := [(.iload_n 1, 1, 0, 0, 0), (.invokestatic 54, 3, 70, 1, 428), (.aload_n 0, 1, 0, 0, 0), (.invokevirtual 163, 3, 67, 1, 356), (.aload_n 0, 1, 0, 0, 0), (.getfield 33, 3, 3, 4, 167), (.iload_n 1, 1, 0, 0, 0), (.iaload, 1, 0, 0, 0), (.ireturn, 1, 0, 0, 0)]
set_option maxRecDepth 20000 in
theorem o_V_emptyIn_0 : am_okB mt_V_emptyIn 0 k_V_emptyIn_0 = true := by decide +kernel
theorem g_V_emptyIn_0 {L : am_S} {n : Nat} {ls st : List Value} {M : am_M} {Q : am_Q} (h : am_B L mt_V_emptyIn k_V_emptyIn_0 n 0 ls st M Q) : am_R L mt_V_emptyIn n 0 ls st M Q := am_go L mt_V_emptyIn (fun h => by cases h) k_V_emptyIn_0 n 0 ls st M Q o_V_emptyIn_0 h
def k_V_round_0 : List am_I := [(.iload_n 1, 1, 0, 0, 0), (.iconst 0, 1, 0, 0, 0), (.iconst 3, 1, 0, 0, 0), (.invokestatic 58, 3, 73, 3, 498), (.aload_n 0, 1, 0, 0, 0), (.getfield 22, 3, 3, 2, 165), (.aload_n 0, 1, 0, 0, 0), (.getfield 12, 3, 3, 0, 163), (.invokevirtual 166, 3, 31, 2, 388), (.iload_n 1, 1, 0, 0, 0), (.iconst 2, 1, 0, 0, 0), (.if_icmp .ge 13, 3, 0, 0, 0), (.aload_n 0, 1, 0, 0, 0), (.getfield 22, 3, 3, 2, 165), (.invokevirtual 169, 3, 32, 1, 394), (.goto 10, 3, 0, 0, 0)]
set_option maxRecDepth 20000 in
theorem o_V_round_0 : am_okB mt_V_round 0 k_V_round_0 = true := by decide +kernel
theorem g_V_round_0 {L : am_S} {n : Nat} {ls st : List Value} {M : am_M} {Q : am_Q} (h : am_B L mt_V_round k_V_round_0 n 0 ls st M Q) : am_R L mt_V_round n 0 ls st M Q := am_go L mt_V_round (fun h => by cases h) k_V_round_0 n 0 ls st M Q o_V_round_0 h
def k_V_round_32 : List am_I := [(.aload_n 0, 1, 0, 0, 0), (.getfield 22, 3, 3, 2, 165), (.invokevirtual 172, 3, 33, 1, 407)]
set_option maxRecDepth 20000 in
theorem o_V_round_32 : am_okB mt_V_round 32 k_V_round_32 = true := by decide +kernel
theorem g_V_round_32 {L : am_S} {n : Nat} {ls st : List Value} {M : am_M} {Q : am_Q} (h : am_B L mt_V_round k_V_round_32 n 32 ls st M Q) : am_R L mt_V_round n 32 ls st M Q := am_go L mt_V_round (fun h => by cases h) k_V_round_32 n 32 ls st M Q o_V_round_32 h
def k_V_round_39 : List am_I := [(.iload_n 1, 1, 0, 0, 0), (.iconst 2, 1, 0, 0, 0), (.irem, 1, 0, 0, 0), (.ifCond .ne 13, 3, 0, 0, 0), (.aload_n 0, 1, 0, 0, 0), (.getfield 22, 3, 3, 2, 165), (.getfield 175, 3, 0, 3, 117), (.goto 10, 3, 0, 0, 0)]
set_option maxRecDepth 20000 in
theorem o_V_round_39 : am_okB mt_V_round 39 k_V_round_39 = true := by decide +kernel
theorem g_V_round_39 {L : am_S} {n : Nat} {ls st : List Value} {M : am_M} {Q : am_Q} (h : am_B L mt_V_round k_V_round_39 n 39 ls st M Q) : am_R L mt_V_round n 39 ls st M Q := am_go L mt_V_round (fun h => by cases h) k_V_round_39 n 39 ls st M Q o_V_round_39 h
def k_V_round_55 : List am_I := [(.aload_n 0, 1, 0, 0, 0), (.getfield 22, 3, 3, 2, 165), (.getfield 176, 3, 0, 4, 119)]
set_option maxRecDepth 20000 in
theorem o_V_round_55 : am_okB mt_V_round 55 k_V_round_55 = true := by decide +kernel
theorem g_V_round_55 {L : am_S} {n : Nat} {ls st : List Value} {M : am_M} {Q : am_Q} (h : am_B L mt_V_round k_V_round_55 n 55 ls st M Q) : am_R L mt_V_round n 55 ls st M Q := am_go L mt_V_round (fun h => by cases h) k_V_round_55 n 55 ls st M Q o_V_round_55 h
def k_V_round_62 : List am_I := [(.ireturn, 1, 0, 0, 0)]
set_option maxRecDepth 20000 in
theorem o_V_round_62 : am_okB mt_V_round 62 k_V_round_62 = true := by decide +kernel
theorem g_V_round_62 {L : am_S} {n : Nat} {ls st : List Value} {M : am_M} {Q : am_Q} (h : am_B L mt_V_round k_V_round_62 n 62 ls st M Q) : am_R L mt_V_round n 62 ls st M Q := am_go L mt_V_round (fun h => by cases h) k_V_round_62 n 62 ls st M Q o_V_round_62 h
def k_V_mainValve_0 : List am_I := [(.iconst (-1), 1, 0, 0, 0), (.istore_n 1, 1, 0, 0, 0), (.iconst 0, 1, 0, 0, 0), (.istore_n 2, 1, 0, 0, 0), (.iconst 0, 1, 0, 0, 0), (.istore_n 3, 1, 0, 0, 0)]
set_option maxRecDepth 20000 in
theorem o_V_mainValve_0 : am_okB mt_V_mainValve 0 k_V_mainValve_0 = true := by decide +kernel
theorem g_V_mainValve_0 {L : am_S} {n : Nat} {ls st : List Value} {M : am_M} {Q : am_Q} (h : am_B L mt_V_mainValve k_V_mainValve_0 n 0 ls st M Q) : am_R L mt_V_mainValve n 0 ls st M Q := am_go L mt_V_mainValve (fun h => by cases h) k_V_mainValve_0 n 0 ls st M Q o_V_mainValve_0 h
def k_V_mainValve_6 : List am_I := [(.iload_n 3, 1, 0, 0, 0), (.aload_n 0, 1, 0, 0, 0), (.getfield 12, 3, 3, 0, 163), (.getfield 51, 3, 1, 0, 99), (.bipush 56, 2, 0, 0, 0), (.iaload, 1, 0, 0, 0), (.if_icmp .ge 65, 3, 0, 0, 0), (.aload_n 0, 1, 0, 0, 0), (.getfield 16, 3, 3, 1, 164), (.aload_n 0, 1, 0, 0, 0), (.getfield 12, 3, 3, 0, 163), (.invokevirtual 159, 3, 3, 2, 274), (.aload_n 0, 1, 0, 0, 0), (.getfield 16, 3, 3, 1, 164), (.iload_n 3, 1, 0, 0, 0), (.invokevirtual 94, 3, 11, 2, 281), (.aload_n 0, 1, 0, 0, 0), (.getfield 16, 3, 3, 1, 164), (.bipush 24, 2, 0, 0, 0), (.invokevirtual 101, 3, 14, 2, 285), (.aload_n 0, 1, 0, 0, 0), (.getfield 16, 3, 3, 1, 164), (.getfield 51, 3, 1, 0, 99), (.bipush 54, 2, 0, 0, 0), (.iaload, 1, 0, 0, 0), (.istore 4, 2, 0, 0, 0), (.iload_n 1, 1, 0, 0, 0), (.iconst (-1), 1, 0, 0, 0), (.if_icmp .eq 9, 3, 0, 0, 0), (.iload 4, 2, 0, 0, 0), (.iload_n 2, 1, 0, 0, 0), (.if_icmp .ge 8, 3, 0, 0, 0)]
set_option maxRecDepth 20000 in
theorem o_V_mainValve_6 : am_okB mt_V_mainValve 6 k_V_mainValve_6 = true := by decide +kernel
theorem g_V_mainValve_6 {L : am_S} {n : Nat} {ls st : List Value} {M : am_M} {Q : am_Q} (h : am_B L mt_V_mainValve k_V_mainValve_6 n 6 ls st M Q) : am_R L mt_V_mainValve n 6 ls st M Q := am_go L mt_V_mainValve (fun h => by cases h) k_V_mainValve_6 n 6 ls st M Q o_V_mainValve_6 h
def k_V_mainValve_71 : List am_I := [(.iload_n 3, 1, 0, 0, 0), (.istore_n 1, 1, 0, 0, 0), (.iload 4, 2, 0, 0, 0), (.istore_n 2, 1, 0, 0, 0)]
set_option maxRecDepth 20000 in
theorem o_V_mainValve_71 : am_okB mt_V_mainValve 71 k_V_mainValve_71 = true := by decide +kernel
theorem g_V_mainValve_71 {L : am_S} {n : Nat} {ls st : List Value} {M : am_M} {Q : am_Q} (h : am_B L mt_V_mainValve k_V_mainValve_71 n 71 ls st M Q) : am_R L mt_V_mainValve n 71 ls st M Q := am_go L mt_V_mainValve (fun h => by cases h) k_V_mainValve_71 n 71 ls st M Q o_V_mainValve_71 h
def k_V_mainValve_76 : List am_I := [(.iinc 3 1, 3, 0, 0, 0), (.goto (-73), 3, 0, 0, 0)]
set_option maxRecDepth 20000 in
theorem o_V_mainValve_76 : am_okB mt_V_mainValve 76 k_V_mainValve_76 = true := by decide +kernel
theorem g_V_mainValve_76 {L : am_S} {n : Nat} {ls st : List Value} {M : am_M} {Q : am_Q} (h : am_B L mt_V_mainValve k_V_mainValve_76 n 76 ls st M Q) : am_R L mt_V_mainValve n 76 ls st M Q := am_go L mt_V_mainValve (fun h => by cases h) k_V_mainValve_76 n 76 ls st M Q o_V_mainValve_76 h
def k_V_mainValve_82 : List am_I := [(.iload_n 1, 1, 0, 0, 0), (.ireturn, 1, 0, 0, 0)]
set_option maxRecDepth 20000 in
theorem o_V_mainValve_82 : am_okB mt_V_mainValve 82 k_V_mainValve_82 = true := by decide +kernel
theorem g_V_mainValve_82 {L : am_S} {n : Nat} {ls st : List Value} {M : am_M} {Q : am_Q} (h : am_B L mt_V_mainValve k_V_mainValve_82 n 82 ls st M Q) : am_R L mt_V_mainValve n 82 ls st M Q := am_go L mt_V_mainValve (fun h => by cases h) k_V_mainValve_82 n 82 ls st M Q o_V_mainValve_82 h
def k_V_goneShare_0 : List am_I := [(.iconst 0, 1, 0, 0, 0), (.istore_n 1, 1, 0, 0, 0), (.iconst 0, 1, 0, 0, 0), (.istore_n 2, 1, 0, 0, 0), (.iconst 0, 1, 0, 0, 0), (.istore_n 3, 1, 0, 0, 0)]
set_option maxRecDepth 20000 in
theorem o_V_goneShare_0 : am_okB mt_V_goneShare 0 k_V_goneShare_0 = true := by decide +kernel
theorem g_V_goneShare_0 {L : am_S} {n : Nat} {ls st : List Value} {M : am_M} {Q : am_Q} (h : am_B L mt_V_goneShare k_V_goneShare_0 n 0 ls st M Q) : am_R L mt_V_goneShare n 0 ls st M Q := am_go L mt_V_goneShare (fun h => by cases h) k_V_goneShare_0 n 0 ls st M Q o_V_goneShare_0 h
def k_V_goneShare_6 : List am_I := [(.iload_n 3, 1, 0, 0, 0), (.iconst 3, 1, 0, 0, 0), (.if_icmp .ge 39, 3, 0, 0, 0), (.iload_n 1, 1, 0, 0, 0), (.aload_n 0, 1, 0, 0, 0), (.getfield 12, 3, 3, 0, 163), (.getfield 51, 3, 1, 0, 99), (.bipush 45, 2, 0, 0, 0), (.iload_n 3, 1, 0, 0, 0), (.iadd, 1, 0, 0, 0), (.iaload, 1, 0, 0, 0), (.iadd, 1, 0, 0, 0), (.istore_n 1, 1, 0, 0, 0), (.iload_n 2, 1, 0, 0, 0), (.aload_n 0, 1, 0, 0, 0), (.getfield 12, 3, 3, 0, 163), (.getfield 51, 3, 1, 0, 99), (.bipush 48, 2, 0, 0, 0), (.iload_n 3, 1, 0, 0, 0), (.iadd, 1, 0, 0, 0), (.iaload, 1, 0, 0, 0), (.iadd, 1, 0, 0, 0), (.istore_n 2, 1, 0, 0, 0), (.iinc 3 1, 3, 0, 0, 0), (.goto (-38), 3, 0, 0, 0)]
set_option maxRecDepth 20000 in
theorem o_V_goneShare_6 : am_okB mt_V_goneShare 6 k_V_goneShare_6 = true := by decide +kernel
theorem g_V_goneShare_6 {L : am_S} {n : Nat} {ls st : List Value} {M : am_M} {Q : am_Q} (h : am_B L mt_V_goneShare k_V_goneShare_6 n 6 ls st M Q) : am_R L mt_V_goneShare n 6 ls st M Q := am_go L mt_V_goneShare (fun h => by cases h) k_V_goneShare_6 n 6 ls st M Q o_V_goneShare_6 h
def k_V_goneShare_47 : List am_I := [(.iload_n 1, 1, 0, 0, 0), (.ifCond .le 11, 3, 0, 0, 0), (.iload_n 2, 1, 0, 0, 0), (.i2d, 1, 0, 0, 0), (.iload_n 1, 1, 0, 0, 0), (.i2d, 1, 0, 0, 0), (.ddiv, 1, 0, 0, 0), (.goto 4, 3, 0, 0, 0)]
set_option maxRecDepth 20000 in
theorem o_V_goneShare_47 : am_okB mt_V_goneShare 47 k_V_goneShare_47 = true := by decide +kernel
theorem g_V_goneShare_47 {L : am_S} {n : Nat} {ls st : List Value} {M : am_M} {Q : am_Q} (h : am_B L mt_V_goneShare k_V_goneShare_47 n 47 ls st M Q) : am_R L mt_V_goneShare n 47 ls st M Q := am_go L mt_V_goneShare (fun h => by cases h) k_V_goneShare_47 n 47 ls st M Q o_V_goneShare_47 h
def k_V_goneShare_59 : List am_I := [(.dconst 0, 1, 0, 0, 0)]
set_option maxRecDepth 20000 in
theorem o_V_goneShare_59 : am_okB mt_V_goneShare 59 k_V_goneShare_59 = true := by decide +kernel
theorem g_V_goneShare_59 {L : am_S} {n : Nat} {ls st : List Value} {M : am_M} {Q : am_Q} (h : am_B L mt_V_goneShare k_V_goneShare_59 n 59 ls st M Q) : am_R L mt_V_goneShare n 59 ls st M Q := am_go L mt_V_goneShare (fun h => by cases h) k_V_goneShare_59 n 59 ls st M Q o_V_goneShare_59 h
def k_V_goneShare_60 : List am_I := [(.dreturn, 1, 0, 0, 0)]
set_option maxRecDepth 20000 in
theorem o_V_goneShare_60 : am_okB mt_V_goneShare 60 k_V_goneShare_60 = true := by decide +kernel
theorem g_V_goneShare_60 {L : am_S} {n : Nat} {ls st : List Value} {M : am_M} {Q : am_Q} (h : am_B L mt_V_goneShare k_V_goneShare_60 n 60 ls st M Q) : am_R L mt_V_goneShare n 60 ls st M Q := am_go L mt_V_goneShare (fun h => by cases h) k_V_goneShare_60 n 60 ls st M Q o_V_goneShare_60 h
def k_V_digest_0 : List am_I := [(.ldc2_w 179, 3, 3461, 0, 331), (.lstore_n 1, 1, 0, 0, 0), (.iconst 0, 1, 0, 0, 0), (.istore_n 3, 1, 0, 0, 0)]
set_option maxRecDepth 20000 in
theorem o_V_digest_0 : am_okB mt_V_digest 0 k_V_digest_0 = true := by decide +kernel
theorem g_V_digest_0 {L : am_S} {n : Nat} {ls st : List Value} {M : am_M} {Q : am_Q} (h : am_B L mt_V_digest k_V_digest_0 n 0 ls st M Q) : am_R L mt_V_digest n 0 ls st M Q := am_go L mt_V_digest (fun h => by cases h) k_V_digest_0 n 0 ls st M Q o_V_digest_0 h
def k_V_digest_6 : List am_I := [(.iload_n 3, 1, 0, 0, 0), (.bipush 9, 2, 0, 0, 0), (.if_icmp .gt 22, 3, 0, 0, 0), (.ldc2_w 181, 3, 31, 0, 332), (.lload_n 1, 1, 0, 0, 0), (.lmul, 1, 0, 0, 0), (.aload_n 0, 1, 0, 0, 0), (.iload_n 3, 1, 0, 0, 0), (.invokevirtual 156, 3, 66, 2, 333), (.i2l, 1, 0, 0, 0), (.ladd, 1, 0, 0, 0), (.lstore_n 1, 1, 0, 0, 0), (.iinc 3 1, 3, 0, 0, 0), (.goto (-22), 3, 0, 0, 0)]
set_option maxRecDepth 20000 in
theorem o_V_digest_6 : am_okB mt_V_digest 6 k_V_digest_6 = true := by decide +kernel
theorem g_V_digest_6 {L : am_S} {n : Nat} {ls st : List Value} {M : am_M} {Q : am_Q} (h : am_B L mt_V_digest k_V_digest_6 n 6 ls st M Q) : am_R L mt_V_digest n 6 ls st M Q := am_go L mt_V_digest (fun h => by cases h) k_V_digest_6 n 6 ls st M Q o_V_digest_6 h
def k_V_digest_31 : List am_I := [(.aload_n 0, 1, 0, 0, 0), (.lload_n 1, 1, 0, 0, 0), (.invokevirtual 183, 3, 62, 2, 352), (.lstore_n 1, 1, 0, 0, 0), (.aload_n 0, 1, 0, 0, 0), (.lload_n 1, 1, 0, 0, 0), (.invokevirtual 187, 3, 63, 2, 364), (.lstore_n 1, 1, 0, 0, 0), (.aload_n 0, 1, 0, 0, 0), (.lload_n 1, 1, 0, 0, 0), (.invokevirtual 190, 3, 64, 2, 372), (.lstore_n 1, 1, 0, 0, 0), (.aload_n 0, 1, 0, 0, 0), (.getfield 22, 3, 3, 2, 165), (.aload_n 0, 1, 0, 0, 0), (.getfield 12, 3, 3, 0, 163), (.invokevirtual 166, 3, 31, 2, 388), (.aload_n 0, 1, 0, 0, 0), (.getfield 22, 3, 3, 2, 165), (.invokevirtual 169, 3, 32, 1, 394), (.ldc2_w 181, 3, 31, 0, 332), (.ldc2_w 181, 3, 31, 0, 332), (.lload_n 1, 1, 0, 0, 0), (.lmul, 1, 0, 0, 0), (.aload_n 0, 1, 0, 0, 0), (.getfield 22, 3, 3, 2, 165), (.getfield 175, 3, 0, 3, 117), (.i2l, 1, 0, 0, 0), (.ladd, 1, 0, 0, 0), (.lmul, 1, 0, 0, 0), (.aload_n 0, 1, 0, 0, 0), (.getfield 22, 3, 3, 2, 165), (.getfield 176, 3, 0, 4, 119), (.i2l, 1, 0, 0, 0), (.ladd, 1, 0, 0, 0), (.lstore_n 1, 1, 0, 0, 0), (.aload_n 0, 1, 0, 0, 0), (.getfield 22, 3, 3, 2, 165), (.invokevirtual 172, 3, 33, 1, 407), (.ldc2_w 181, 3, 31, 0, 332), (.ldc2_w 181, 3, 31, 0, 332), (.lload_n 1, 1, 0, 0, 0), (.lmul, 1, 0, 0, 0), (.aload_n 0, 1, 0, 0, 0), (.getfield 22, 3, 3, 2, 165), (.getfield 175, 3, 0, 3, 117), (.i2l, 1, 0, 0, 0), (.ladd, 1, 0, 0, 0), (.lmul, 1, 0, 0, 0), (.aload_n 0, 1, 0, 0, 0), (.getfield 22, 3, 3, 2, 165), (.getfield 176, 3, 0, 4, 119), (.i2l, 1, 0, 0, 0), (.ladd, 1, 0, 0, 0), (.lstore_n 1, 1, 0, 0, 0), (.ldc2_w 181, 3, 31, 0, 332), (.lload_n 1, 1, 0, 0, 0), (.lmul, 1, 0, 0, 0), (.aload_n 0, 1, 0, 0, 0), (.invokevirtual 193, 3, 59, 1, 411), (.i2l, 1, 0, 0, 0), (.ladd, 1, 0, 0, 0), (.lstore_n 1, 1, 0, 0, 0), (.ldc2_w 181, 3, 31, 0, 332), (.lload_n 1, 1, 0, 0, 0), (.lmul, 1, 0, 0, 0), (.aload_n 0, 1, 0, 0, 0), (.invokevirtual 196, 3, 60, 1, 412), (.invokestatic 200, 3, 65, 1, 413), (.ladd, 1, 0, 0, 0), (.lstore_n 1, 1, 0, 0, 0), (.iconst 0, 1, 0, 0, 0), (.istore_n 3, 1, 0, 0, 0)]
set_option maxRecDepth 20000 in
theorem o_V_digest_31 : am_okB mt_V_digest 31 k_V_digest_31 = true := by decide +kernel
theorem g_V_digest_31 {L : am_S} {n : Nat} {ls st : List Value} {M : am_M} {Q : am_Q} (h : am_B L mt_V_digest k_V_digest_31 n 31 ls st M Q) : am_R L mt_V_digest n 31 ls st M Q := am_go L mt_V_digest (fun h => by cases h) k_V_digest_31 n 31 ls st M Q o_V_digest_31 h
def k_V_digest_158 : List am_I := [(.iload_n 3, 1, 0, 0, 0), (.iconst 2, 1, 0, 0, 0), (.if_icmp .ge 31, 3, 0, 0, 0), (.ldc2_w 181, 3, 31, 0, 332), (.lload_n 1, 1, 0, 0, 0), (.lmul, 1, 0, 0, 0), (.aload_n 0, 1, 0, 0, 0), (.getfield 40, 3, 3, 6, 169), (.iload_n 3, 1, 0, 0, 0), (.baload, 1, 0, 0, 0), (.ifCond .eq 7, 3, 0, 0, 0), (.iconst 1, 1, 0, 0, 0), (.goto 4, 3, 0, 0, 0)]
set_option maxRecDepth 20000 in
theorem o_V_digest_158 : am_okB mt_V_digest 158 k_V_digest_158 = true := by decide +kernel
theorem g_V_digest_158 {L : am_S} {n : Nat} {ls st : List Value} {M : am_M} {Q : am_Q} (h : am_B L mt_V_digest k_V_digest_158 n 158 ls st M Q) : am_R L mt_V_digest n 158 ls st M Q := am_go L mt_V_digest (fun h => by cases h) k_V_digest_158 n 158 ls st M Q o_V_digest_158 h
def k_V_digest_181 : List am_I := [(.iconst 0, 1, 0, 0, 0)]
set_option maxRecDepth 20000 in
theorem o_V_digest_181 : am_okB mt_V_digest 181 k_V_digest_181 = true := by decide +kernel
theorem g_V_digest_181 {L : am_S} {n : Nat} {ls st : List Value} {M : am_M} {Q : am_Q} (h : am_B L mt_V_digest k_V_digest_181 n 181 ls st M Q) : am_R L mt_V_digest n 181 ls st M Q := am_go L mt_V_digest (fun h => by cases h) k_V_digest_181 n 181 ls st M Q o_V_digest_181 h
def k_V_digest_182 : List am_I := [(.i2l, 1, 0, 0, 0), (.ladd, 1, 0, 0, 0), (.lstore_n 1, 1, 0, 0, 0), (.iinc 3 1, 3, 0, 0, 0), (.goto (-30), 3, 0, 0, 0)]
set_option maxRecDepth 20000 in
theorem o_V_digest_182 : am_okB mt_V_digest 182 k_V_digest_182 = true := by decide +kernel
theorem g_V_digest_182 {L : am_S} {n : Nat} {ls st : List Value} {M : am_M} {Q : am_Q} (h : am_B L mt_V_digest k_V_digest_182 n 182 ls st M Q) : am_R L mt_V_digest n 182 ls st M Q := am_go L mt_V_digest (fun h => by cases h) k_V_digest_182 n 182 ls st M Q o_V_digest_182 h
def k_V_digest_191 : List am_I := [(.ldc2_w 181, 3, 31, 0, 332), (.lload_n 1, 1, 0, 0, 0), (.lmul, 1, 0, 0, 0), (.aload_n 0, 1, 0, 0, 0), (.getfield 29, 3, 3, 3, 166), (.getfield 104, 3, 2, 1, 140), (.i2l, 1, 0, 0, 0), (.ladd, 1, 0, 0, 0), (.lstore_n 1, 1, 0, 0, 0), (.iconst 0, 1, 0, 0, 0), (.istore_n 3, 1, 0, 0, 0)]
set_option maxRecDepth 20000 in
theorem o_V_digest_191 : am_okB mt_V_digest 191 k_V_digest_191 = true := by decide +kernel
theorem g_V_digest_191 {L : am_S} {n : Nat} {ls st : List Value} {M : am_M} {Q : am_Q} (h : am_B L mt_V_digest k_V_digest_191 n 191 ls st M Q) : am_R L mt_V_digest n 191 ls st M Q := am_go L mt_V_digest (fun h => by cases h) k_V_digest_191 n 191 ls st M Q o_V_digest_191 h
def k_V_digest_208 : List am_I := [(.iload_n 3, 1, 0, 0, 0), (.aload_n 0, 1, 0, 0, 0), (.getfield 29, 3, 3, 3, 166), (.getfield 104, 3, 2, 1, 140), (.if_icmp .ge 32, 3, 0, 0, 0), (.iload_n 3, 1, 0, 0, 0), (.bipush 60, 2, 0, 0, 0), (.if_icmp .ge 26, 3, 0, 0, 0), (.ldc2_w 181, 3, 31, 0, 332), (.lload_n 1, 1, 0, 0, 0), (.lmul, 1, 0, 0, 0), (.aload_n 0, 1, 0, 0, 0), (.getfield 29, 3, 3, 3, 166), (.getfield 109, 3, 2, 0, 138), (.iload_n 3, 1, 0, 0, 0), (.iaload, 1, 0, 0, 0), (.i2l, 1, 0, 0, 0), (.ladd, 1, 0, 0, 0), (.lstore_n 1, 1, 0, 0, 0), (.iinc 3 1, 3, 0, 0, 0), (.goto (-37), 3, 0, 0, 0)]
set_option maxRecDepth 20000 in
theorem o_V_digest_208 : am_okB mt_V_digest 208 k_V_digest_208 = true := by decide +kernel
theorem g_V_digest_208 {L : am_S} {n : Nat} {ls st : List Value} {M : am_M} {Q : am_Q} (h : am_B L mt_V_digest k_V_digest_208 n 208 ls st M Q) : am_R L mt_V_digest n 208 ls st M Q := am_go L mt_V_digest (fun h => by cases h) k_V_digest_208 n 208 ls st M Q o_V_digest_208 h
def k_V_digest_248 : List am_I := [(.lload_n 1, 1, 0, 0, 0), (.lreturn, 1, 0, 0, 0)]
set_option maxRecDepth 20000 in
theorem o_V_digest_248 : am_okB mt_V_digest 248 k_V_digest_248 = true := by decide +kernel
theorem g_V_digest_248 {L : am_S} {n : Nat} {ls st : List Value} {M : am_M} {Q : am_Q} (h : am_B L mt_V_digest k_V_digest_248 n 248 ls st M Q) : am_R L mt_V_digest n 248 ls st M Q := am_go L mt_V_digest (fun h => by cases h) k_V_digest_248 n 248 ls st M Q o_V_digest_248 h
def k_V_hashVats_0 : List am_I := [(.lload_n 1, 1, 0, 0, 0), (.lstore_n 3, 1, 0, 0, 0), (.aload_n 0, 1, 0, 0, 0), (.invokevirtual 163, 3, 67, 1, 356), (.aload_n 0, 1, 0, 0, 0), (.getfield 16, 3, 3, 1, 164), (.aload_n 0, 1, 0, 0, 0), (.getfield 12, 3, 3, 0, 163), (.invokevirtual 159, 3, 3, 2, 274), (.aload_n 0, 1, 0, 0, 0), (.getfield 16, 3, 3, 1, 164), (.bipush 24, 2, 0, 0, 0), (.invokevirtual 101, 3, 14, 2, 285), (.iconst 0, 1, 0, 0, 0), (.istore 5, 2, 0, 0, 0)]
set_option maxRecDepth 20000 in
theorem o_V_hashVats_0 : am_okB mt_V_hashVats 0 k_V_hashVats_0 = true := by decide +kernel
theorem g_V_hashVats_0 {L : am_S} {n : Nat} {ls st : List Value} {M : am_M} {Q : am_Q} (h : am_B L mt_V_hashVats k_V_hashVats_0 n 0 ls st M Q) : am_R L mt_V_hashVats n 0 ls st M Q := am_go L mt_V_hashVats (fun h => by cases h) k_V_hashVats_0 n 0 ls st M Q o_V_hashVats_0 h
def k_V_hashVats_29 : List am_I := [(.iload 5, 2, 0, 0, 0), (.iconst 5, 1, 0, 0, 0), (.if_icmp .ge 113, 3, 0, 0, 0), (.iconst 0, 1, 0, 0, 0), (.istore 6, 2, 0, 0, 0)]
set_option maxRecDepth 20000 in
theorem o_V_hashVats_29 : am_okB mt_V_hashVats 29 k_V_hashVats_29 = true := by decide +kernel
theorem g_V_hashVats_29 {L : am_S} {n : Nat} {ls st : List Value} {M : am_M} {Q : am_Q} (h : am_B L mt_V_hashVats k_V_hashVats_29 n 29 ls st M Q) : am_R L mt_V_hashVats n 29 ls st M Q := am_go L mt_V_hashVats (fun h => by cases h) k_V_hashVats_29 n 29 ls st M Q o_V_hashVats_29 h
def k_V_hashVats_38 : List am_I := [(.iload 6, 2, 0, 0, 0), (.bipush 9, 2, 0, 0, 0), (.if_icmp .gt 28, 3, 0, 0, 0), (.ldc2_w 181, 3, 31, 0, 332), (.lload_n 3, 1, 0, 0, 0), (.lmul, 1, 0, 0, 0), (.aload_n 0, 1, 0, 0, 0), (.getfield 12, 3, 3, 0, 163), (.iload 5, 2, 0, 0, 0), (.iload 6, 2, 0, 0, 0), (.invokevirtual 146, 3, 8, 3, 360), (.i2l, 1, 0, 0, 0), (.ladd, 1, 0, 0, 0), (.lstore_n 3, 1, 0, 0, 0), (.iinc 6 1, 3, 0, 0, 0), (.goto (-29), 3, 0, 0, 0)]
set_option maxRecDepth 20000 in
theorem o_V_hashVats_38 : am_okB mt_V_hashVats 38 k_V_hashVats_38 = true := by decide +kernel
theorem g_V_hashVats_38 {L : am_S} {n : Nat} {ls st : List Value} {M : am_M} {Q : am_Q} (h : am_B L mt_V_hashVats k_V_hashVats_38 n 38 ls st M Q) : am_R L mt_V_hashVats n 38 ls st M Q := am_go L mt_V_hashVats (fun h => by cases h) k_V_hashVats_38 n 38 ls st M Q o_V_hashVats_38 h
def k_V_hashVats_70 : List am_I := [(.ldc2_w 181, 3, 31, 0, 332), (.lload_n 3, 1, 0, 0, 0), (.lmul, 1, 0, 0, 0), (.aload_n 0, 1, 0, 0, 0), (.getfield 33, 3, 3, 4, 167), (.iload 5, 2, 0, 0, 0), (.iaload, 1, 0, 0, 0), (.i2l, 1, 0, 0, 0), (.ladd, 1, 0, 0, 0), (.lstore_n 3, 1, 0, 0, 0), (.ldc2_w 181, 3, 31, 0, 332), (.lload_n 3, 1, 0, 0, 0), (.lmul, 1, 0, 0, 0), (.aload_n 0, 1, 0, 0, 0), (.getfield 16, 3, 3, 1, 164), (.iload 5, 2, 0, 0, 0), (.iconst 1, 1, 0, 0, 0), (.invokevirtual 146, 3, 8, 3, 360), (.i2l, 1, 0, 0, 0), (.ladd, 1, 0, 0, 0), (.lstore_n 3, 1, 0, 0, 0), (.ldc2_w 181, 3, 31, 0, 332), (.lload_n 3, 1, 0, 0, 0), (.lmul, 1, 0, 0, 0), (.aload_n 0, 1, 0, 0, 0), (.getfield 16, 3, 3, 1, 164), (.iload 5, 2, 0, 0, 0), (.iconst 2, 1, 0, 0, 0), (.invokevirtual 146, 3, 8, 3, 360), (.i2l, 1, 0, 0, 0), (.ladd, 1, 0, 0, 0), (.lstore_n 3, 1, 0, 0, 0), (.ldc2_w 181, 3, 31, 0, 332), (.lload_n 3, 1, 0, 0, 0), (.lmul, 1, 0, 0, 0), (.aload_n 0, 1, 0, 0, 0), (.getfield 16, 3, 3, 1, 164), (.iload 5, 2, 0, 0, 0), (.iconst 5, 1, 0, 0, 0), (.invokevirtual 146, 3, 8, 3, 360), (.i2l, 1, 0, 0, 0), (.ladd, 1, 0, 0, 0), (.lstore_n 3, 1, 0, 0, 0), (.iinc 5 1, 3, 0, 0, 0), (.goto (-113), 3, 0, 0, 0)]
set_option maxRecDepth 20000 in
theorem o_V_hashVats_70 : am_okB mt_V_hashVats 70 k_V_hashVats_70 = true := by decide +kernel
theorem g_V_hashVats_70 {L : am_S} {n : Nat} {ls st : List Value} {M : am_M} {Q : am_Q} (h : am_B L mt_V_hashVats k_V_hashVats_70 n 70 ls st M Q) : am_R L mt_V_hashVats n 70 ls st M Q := am_go L mt_V_hashVats (fun h => by cases h) k_V_hashVats_70 n 70 ls st M Q o_V_hashVats_70 h
def k_V_hashVats_145 : List am_I := [(.lload_n 3, 1, 0, 0, 0), (.lreturn, 1, 0, 0, 0)]
set_option maxRecDepth 20000 in
theorem o_V_hashVats_145 : am_okB mt_V_hashVats 145 k_V_hashVats_145 = true := by decide +kernel
theorem g_V_hashVats_145 {L : am_S} {n : Nat} {ls st : List Value} {M : am_M} {Q : am_Q} (h : am_B L mt_V_hashVats k_V_hashVats_145 n 145 ls st M Q) : am_R L mt_V_hashVats n 145 ls st M Q := am_go L mt_V_hashVats (fun h => by cases h) k_V_hashVats_145 n 145 ls st M Q o_V_hashVats_145 h
def k_V_hashValves_0 : List am_I := [(.lload_n 1, 1, 0, 0, 0), (.lstore_n 3, 1, 0, 0, 0), (.iconst 0, 1, 0, 0, 0), (.istore 5, 2, 0, 0, 0)]
set_option maxRecDepth 20000 in
theorem o_V_hashValves_0 : am_okB mt_V_hashValves 0 k_V_hashValves_0 = true := by decide +kernel
theorem g_V_hashValves_0 {L : am_S} {n : Nat} {ls st : List Value} {M : am_M} {Q : am_Q} (h : am_B L mt_V_hashValves k_V_hashValves_0 n 0 ls st M Q) : am_R L mt_V_hashValves n 0 ls st M Q := am_go L mt_V_hashValves (fun h => by cases h) k_V_hashValves_0 n 0 ls st M Q o_V_hashValves_0 h
def k_V_hashValves_5 : List am_I := [(.iload 5, 2, 0, 0, 0), (.aload_n 0, 1, 0, 0, 0), (.getfield 12, 3, 3, 0, 163), (.getfield 51, 3, 1, 0, 99), (.bipush 56, 2, 0, 0, 0), (.iaload, 1, 0, 0, 0), (.if_icmp .ge 44, 3, 0, 0, 0), (.iconst 0, 1, 0, 0, 0), (.istore 6, 2, 0, 0, 0)]
set_option maxRecDepth 20000 in
theorem o_V_hashValves_5 : am_okB mt_V_hashValves 5 k_V_hashValves_5 = true := by decide +kernel
theorem g_V_hashValves_5 {L : am_S} {n : Nat} {ls st : List Value} {M : am_M} {Q : am_Q} (h : am_B L mt_V_hashValves k_V_hashValves_5 n 5 ls st M Q) : am_R L mt_V_hashValves n 5 ls st M Q := am_go L mt_V_hashValves (fun h => by cases h) k_V_hashValves_5 n 5 ls st M Q o_V_hashValves_5 h
def k_V_hashValves_23 : List am_I := [(.iload 6, 2, 0, 0, 0), (.bipush 6, 2, 0, 0, 0), (.if_icmp .gt 28, 3, 0, 0, 0), (.ldc2_w 181, 3, 31, 0, 332), (.lload_n 3, 1, 0, 0, 0), (.lmul, 1, 0, 0, 0), (.aload_n 0, 1, 0, 0, 0), (.getfield 12, 3, 3, 0, 163), (.iload 5, 2, 0, 0, 0), (.iload 6, 2, 0, 0, 0), (.invokevirtual 150, 3, 9, 3, 368), (.i2l, 1, 0, 0, 0), (.ladd, 1, 0, 0, 0), (.lstore_n 3, 1, 0, 0, 0), (.iinc 6 1, 3, 0, 0, 0), (.goto (-29), 3, 0, 0, 0)]
set_option maxRecDepth 20000 in
theorem o_V_hashValves_23 : am_okB mt_V_hashValves 23 k_V_hashValves_23 = true := by decide +kernel
theorem g_V_hashValves_23 {L : am_S} {n : Nat} {ls st : List Value} {M : am_M} {Q : am_Q} (h : am_B L mt_V_hashValves k_V_hashValves_23 n 23 ls st M Q) : am_R L mt_V_hashValves n 23 ls st M Q := am_go L mt_V_hashValves (fun h => by cases h) k_V_hashValves_23 n 23 ls st M Q o_V_hashValves_23 h
def k_V_hashValves_55 : List am_I := [(.iinc 5 1, 3, 0, 0, 0), (.goto (-53), 3, 0, 0, 0)]
set_option maxRecDepth 20000 in
theorem o_V_hashValves_55 : am_okB mt_V_hashValves 55 k_V_hashValves_55 = true := by decide +kernel
theorem g_V_hashValves_55 {L : am_S} {n : Nat} {ls st : List Value} {M : am_M} {Q : am_Q} (h : am_B L mt_V_hashValves k_V_hashValves_55 n 55 ls st M Q) : am_R L mt_V_hashValves n 55 ls st M Q := am_go L mt_V_hashValves (fun h => by cases h) k_V_hashValves_55 n 55 ls st M Q o_V_hashValves_55 h
def k_V_hashValves_61 : List am_I := [(.lload_n 3, 1, 0, 0, 0), (.lreturn, 1, 0, 0, 0)]
set_option maxRecDepth 20000 in
theorem o_V_hashValves_61 : am_okB mt_V_hashValves 61 k_V_hashValves_61 = true := by decide +kernel
theorem g_V_hashValves_61 {L : am_S} {n : Nat} {ls st : List Value} {M : am_M} {Q : am_Q} (h : am_B L mt_V_hashValves k_V_hashValves_61 n 61 ls st M Q) : am_R L mt_V_hashValves n 61 ls st M Q := am_go L mt_V_hashValves (fun h => by cases h) k_V_hashValves_61 n 61 ls st M Q o_V_hashValves_61 h
def k_V_hashDyes_0 : List am_I := [(.lload_n 1, 1, 0, 0, 0), (.lstore_n 3, 1, 0, 0, 0), (.iconst 0, 1, 0, 0, 0), (.istore 5, 2, 0, 0, 0)]
set_option maxRecDepth 20000 in
theorem o_V_hashDyes_0 : am_okB mt_V_hashDyes 0 k_V_hashDyes_0 = true := by decide +kernel
theorem g_V_hashDyes_0 {L : am_S} {n : Nat} {ls st : List Value} {M : am_M} {Q : am_Q} (h : am_B L mt_V_hashDyes k_V_hashDyes_0 n 0 ls st M Q) : am_R L mt_V_hashDyes n 0 ls st M Q := am_go L mt_V_hashDyes (fun h => by cases h) k_V_hashDyes_0 n 0 ls st M Q o_V_hashDyes_0 h
def k_V_hashDyes_5 : List am_I := [(.iload 5, 2, 0, 0, 0), (.iconst 3, 1, 0, 0, 0), (.if_icmp .ge 43, 3, 0, 0, 0), (.iconst 0, 1, 0, 0, 0), (.istore 6, 2, 0, 0, 0)]
set_option maxRecDepth 20000 in
theorem o_V_hashDyes_5 : am_okB mt_V_hashDyes 5 k_V_hashDyes_5 = true := by decide +kernel
theorem g_V_hashDyes_5 {L : am_S} {n : Nat} {ls st : List Value} {M : am_M} {Q : am_Q} (h : am_B L mt_V_hashDyes k_V_hashDyes_5 n 5 ls st M Q) : am_R L mt_V_hashDyes n 5 ls st M Q := am_go L mt_V_hashDyes (fun h => by cases h) k_V_hashDyes_5 n 5 ls st M Q o_V_hashDyes_5 h
def k_V_hashDyes_14 : List am_I := [(.iload 6, 2, 0, 0, 0), (.iconst 4, 1, 0, 0, 0), (.if_icmp .gt 28, 3, 0, 0, 0), (.ldc2_w 181, 3, 31, 0, 332), (.lload_n 3, 1, 0, 0, 0), (.lmul, 1, 0, 0, 0), (.aload_n 0, 1, 0, 0, 0), (.getfield 12, 3, 3, 0, 163), (.iload 5, 2, 0, 0, 0), (.iload 6, 2, 0, 0, 0), (.invokevirtual 153, 3, 10, 3, 376), (.i2l, 1, 0, 0, 0), (.ladd, 1, 0, 0, 0), (.lstore_n 3, 1, 0, 0, 0), (.iinc 6 1, 3, 0, 0, 0), (.goto (-28), 3, 0, 0, 0)]
set_option maxRecDepth 20000 in
theorem o_V_hashDyes_14 : am_okB mt_V_hashDyes 14 k_V_hashDyes_14 = true := by decide +kernel
theorem g_V_hashDyes_14 {L : am_S} {n : Nat} {ls st : List Value} {M : am_M} {Q : am_Q} (h : am_B L mt_V_hashDyes k_V_hashDyes_14 n 14 ls st M Q) : am_R L mt_V_hashDyes n 14 ls st M Q := am_go L mt_V_hashDyes (fun h => by cases h) k_V_hashDyes_14 n 14 ls st M Q o_V_hashDyes_14 h
def k_V_hashDyes_45 : List am_I := [(.iinc 5 1, 3, 0, 0, 0), (.goto (-43), 3, 0, 0, 0)]
set_option maxRecDepth 20000 in
theorem o_V_hashDyes_45 : am_okB mt_V_hashDyes 45 k_V_hashDyes_45 = true := by decide +kernel
theorem g_V_hashDyes_45 {L : am_S} {n : Nat} {ls st : List Value} {M : am_M} {Q : am_Q} (h : am_B L mt_V_hashDyes k_V_hashDyes_45 n 45 ls st M Q) : am_R L mt_V_hashDyes n 45 ls st M Q := am_go L mt_V_hashDyes (fun h => by cases h) k_V_hashDyes_45 n 45 ls st M Q o_V_hashDyes_45 h
def k_V_hashDyes_51 : List am_I := [(.lload_n 3, 1, 0, 0, 0), (.lreturn, 1, 0, 0, 0)]
set_option maxRecDepth 20000 in
theorem o_V_hashDyes_51 : am_okB mt_V_hashDyes 51 k_V_hashDyes_51 = true := by decide +kernel
theorem g_V_hashDyes_51 {L : am_S} {n : Nat} {ls st : List Value} {M : am_M} {Q : am_Q} (h : am_B L mt_V_hashDyes k_V_hashDyes_51 n 51 ls st M Q) : am_R L mt_V_hashDyes n 51 ls st M Q := am_go L mt_V_hashDyes (fun h => by cases h) k_V_hashDyes_51 n 51 ls st M Q o_V_hashDyes_51 h
def k_V_bitsOfShare_0 : List am_I := [(.dload_n 0, 1, 0, 0, 0), (.dconst 0, 1, 0, 0, 0), (.dcmp .g, 1, 0, 0, 0), (.ifCond .gt 5, 3, 0, 0, 0), (.lconst 0, 1, 0, 0, 0), (.lreturn, 1, 0, 0, 0)]
set_option maxRecDepth 20000 in
theorem o_V_bitsOfShare_0 : am_okB mt_V_bitsOfShare 0 k_V_bitsOfShare_0 = true := by decide +kernel
theorem g_V_bitsOfShare_0 {L : am_S} {n : Nat} {ls st : List Value} {M : am_M} {Q : am_Q} (h : am_B L mt_V_bitsOfShare k_V_bitsOfShare_0 n 0 ls st M Q) : am_R L mt_V_bitsOfShare n 0 ls st M Q := am_go L mt_V_bitsOfShare (fun h => by cases h) k_V_bitsOfShare_0 n 0 ls st M Q o_V_bitsOfShare_0 h
def k_V_bitsOfShare_8 : List am_I := [(.dload_n 0, 1, 0, 0, 0), (.dstore_n 2, 1, 0, 0, 0), (.ldc2_w 204, 3, 1023, 0, 416), (.lstore 4, 2, 0, 0, 0)]
set_option maxRecDepth 20000 in
theorem o_V_bitsOfShare_8 : am_okB mt_V_bitsOfShare 8 k_V_bitsOfShare_8 = true := by decide +kernel
theorem g_V_bitsOfShare_8 {L : am_S} {n : Nat} {ls st : List Value} {M : am_M} {Q : am_Q} (h : am_B L mt_V_bitsOfShare k_V_bitsOfShare_8 n 8 ls st M Q) : am_R L mt_V_bitsOfShare n 8 ls st M Q := am_go L mt_V_bitsOfShare (fun h => by cases h) k_V_bitsOfShare_8 n 8 ls st M Q o_V_bitsOfShare_8 h
def k_V_bitsOfShare_15 : List am_I := [(.dload_n 2, 1, 0, 0, 0), (.dconst 1, 1, 0, 0, 0), (.dcmp .g, 1, 0, 0, 0), (.ifCond .ge 25, 3, 0, 0, 0), (.lload 4, 2, 0, 0, 0), (.lconst 1, 1, 0, 0, 0), (.lcmp, 1, 0, 0, 0), (.ifCond .le 18, 3, 0, 0, 0), (.dload_n 2, 1, 0, 0, 0), (.ldc2_w 206, 3, 4611686018427387904, 1, 417), (.dmul, 1, 0, 0, 0), (.dstore_n 2, 1, 0, 0, 0), (.lload 4, 2, 0, 0, 0), (.lconst 1, 1, 0, 0, 0), (.lsub, 1, 0, 0, 0), (.lstore 4, 2, 0, 0, 0), (.goto (-25), 3, 0, 0, 0)]
set_option maxRecDepth 20000 in
theorem o_V_bitsOfShare_15 : am_okB mt_V_bitsOfShare 15 k_V_bitsOfShare_15 = true := by decide +kernel
theorem g_V_bitsOfShare_15 {L : am_S} {n : Nat} {ls st : List Value} {M : am_M} {Q : am_Q} (h : am_B L mt_V_bitsOfShare k_V_bitsOfShare_15 n 15 ls st M Q) : am_R L mt_V_bitsOfShare n 15 ls st M Q := am_go L mt_V_bitsOfShare (fun h => by cases h) k_V_bitsOfShare_15 n 15 ls st M Q o_V_bitsOfShare_15 h
def k_V_bitsOfShare_43 : List am_I := [(.lload 4, 2, 0, 0, 0), (.bipush 52, 2, 0, 0, 0), (.lshl, 1, 0, 0, 0), (.dload_n 2, 1, 0, 0, 0), (.dconst 1, 1, 0, 0, 0), (.dsub, 1, 0, 0, 0), (.ldc2_w 208, 3, 4841369599423283200, 1, 418), (.dmul, 1, 0, 0, 0), (.d2l, 1, 0, 0, 0), (.ladd, 1, 0, 0, 0), (.lreturn, 1, 0, 0, 0)]
set_option maxRecDepth 20000 in
theorem o_V_bitsOfShare_43 : am_okB mt_V_bitsOfShare 43 k_V_bitsOfShare_43 = true := by decide +kernel
theorem g_V_bitsOfShare_43 {L : am_S} {n : Nat} {ls st : List Value} {M : am_M} {Q : am_Q} (h : am_B L mt_V_bitsOfShare k_V_bitsOfShare_43 n 43 ls st M Q) : am_R L mt_V_bitsOfShare n 43 ls st M Q := am_go L mt_V_bitsOfShare (fun h => by cases h) k_V_bitsOfShare_43 n 43 ls st M Q o_V_bitsOfShare_43 h
def k_V_numberOf_0 : List am_I := [(.iload_n 1, 1, 0, 0, 0), (.tableswitch 141 0 8 #[51, 59, 70, 81, 89, 97, 108, 119, 130], 51, 0, 0, 0)]
set_option maxRecDepth 20000 in
theorem o_V_numberOf_0 : am_okB mt_V_numberOf 0 k_V_numberOf_0 = true := by decide +kernel
theorem g_V_numberOf_0 {L : am_S} {n : Nat} {ls st : List Value} {M : am_M} {Q : am_Q} (h : am_B L mt_V_numberOf k_V_numberOf_0 n 0 ls st M Q) : am_R L mt_V_numberOf n 0 ls st M Q := am_go L mt_V_numberOf (fun h => by cases h) k_V_numberOf_0 n 0 ls st M Q o_V_numberOf_0 h
def k_V_numberOf_52 : List am_I := [(.aload_n 0, 1, 0, 0, 0), (.getfield 12, 3, 3, 0, 163), (.invokevirtual 139, 3, 4, 1, 337), (.ireturn, 1, 0, 0, 0)]
set_option maxRecDepth 20000 in
theorem o_V_numberOf_52 : am_okB mt_V_numberOf 52 k_V_numberOf_52 = true := by decide +kernel
theorem g_V_numberOf_52 {L : am_S} {n : Nat} {ls st : List Value} {M : am_M} {Q : am_Q} (h : am_B L mt_V_numberOf k_V_numberOf_52 n 52 ls st M Q) : am_R L mt_V_numberOf n 52 ls st M Q := am_go L mt_V_numberOf (fun h => by cases h) k_V_numberOf_52 n 52 ls st M Q o_V_numberOf_52 h
def k_V_numberOf_60 : List am_I := [(.aload_n 0, 1, 0, 0, 0), (.getfield 12, 3, 3, 0, 163), (.getfield 51, 3, 1, 0, 99), (.bipush 52, 2, 0, 0, 0), (.iaload, 1, 0, 0, 0), (.ireturn, 1, 0, 0, 0)]
set_option maxRecDepth 20000 in
theorem o_V_numberOf_60 : am_okB mt_V_numberOf 60 k_V_numberOf_60 = true := by decide +kernel
theorem g_V_numberOf_60 {L : am_S} {n : Nat} {ls st : List Value} {M : am_M} {Q : am_Q} (h : am_B L mt_V_numberOf k_V_numberOf_60 n 60 ls st M Q) : am_R L mt_V_numberOf n 60 ls st M Q := am_go L mt_V_numberOf (fun h => by cases h) k_V_numberOf_60 n 60 ls st M Q o_V_numberOf_60 h
def k_V_numberOf_71 : List am_I := [(.aload_n 0, 1, 0, 0, 0), (.getfield 12, 3, 3, 0, 163), (.getfield 51, 3, 1, 0, 99), (.bipush 56, 2, 0, 0, 0), (.iaload, 1, 0, 0, 0), (.ireturn, 1, 0, 0, 0)]
set_option maxRecDepth 20000 in
theorem o_V_numberOf_71 : am_okB mt_V_numberOf 71 k_V_numberOf_71 = true := by decide +kernel
theorem g_V_numberOf_71 {L : am_S} {n : Nat} {ls st : List Value} {M : am_M} {Q : am_Q} (h : am_B L mt_V_numberOf k_V_numberOf_71 n 71 ls st M Q) : am_R L mt_V_numberOf n 71 ls st M Q := am_go L mt_V_numberOf (fun h => by cases h) k_V_numberOf_71 n 71 ls st M Q o_V_numberOf_71 h
def k_V_numberOf_82 : List am_I := [(.aload_n 0, 1, 0, 0, 0), (.getfield 12, 3, 3, 0, 163), (.invokevirtual 210, 3, 6, 1, 338), (.ireturn, 1, 0, 0, 0)]
set_option maxRecDepth 20000 in
theorem o_V_numberOf_82 : am_okB mt_V_numberOf 82 k_V_numberOf_82 = true := by decide +kernel
theorem g_V_numberOf_82 {L : am_S} {n : Nat} {ls st : List Value} {M : am_M} {Q : am_Q} (h : am_B L mt_V_numberOf k_V_numberOf_82 n 82 ls st M Q) : am_R L mt_V_numberOf n 82 ls st M Q := am_go L mt_V_numberOf (fun h => by cases h) k_V_numberOf_82 n 82 ls st M Q o_V_numberOf_82 h
def k_V_numberOf_90 : List am_I := [(.aload_n 0, 1, 0, 0, 0), (.getfield 12, 3, 3, 0, 163), (.invokevirtual 213, 3, 7, 1, 348), (.ireturn, 1, 0, 0, 0)]
set_option maxRecDepth 20000 in
theorem o_V_numberOf_90 : am_okB mt_V_numberOf 90 k_V_numberOf_90 = true := by decide +kernel
theorem g_V_numberOf_90 {L : am_S} {n : Nat} {ls st : List Value} {M : am_M} {Q : am_Q} (h : am_B L mt_V_numberOf k_V_numberOf_90 n 90 ls st M Q) : am_R L mt_V_numberOf n 90 ls st M Q := am_go L mt_V_numberOf (fun h => by cases h) k_V_numberOf_90 n 90 ls st M Q o_V_numberOf_90 h
def k_V_numberOf_98 : List am_I := [(.aload_n 0, 1, 0, 0, 0), (.getfield 12, 3, 3, 0, 163), (.getfield 51, 3, 1, 0, 99), (.bipush 54, 2, 0, 0, 0), (.iaload, 1, 0, 0, 0), (.ireturn, 1, 0, 0, 0)]
set_option maxRecDepth 20000 in
theorem o_V_numberOf_98 : am_okB mt_V_numberOf 98 k_V_numberOf_98 = true := by decide +kernel
theorem g_V_numberOf_98 {L : am_S} {n : Nat} {ls st : List Value} {M : am_M} {Q : am_Q} (h : am_B L mt_V_numberOf k_V_numberOf_98 n 98 ls st M Q) : am_R L mt_V_numberOf n 98 ls st M Q := am_go L mt_V_numberOf (fun h => by cases h) k_V_numberOf_98 n 98 ls st M Q o_V_numberOf_98 h
def k_V_numberOf_109 : List am_I := [(.aload_n 0, 1, 0, 0, 0), (.getfield 12, 3, 3, 0, 163), (.getfield 51, 3, 1, 0, 99), (.bipush 53, 2, 0, 0, 0), (.iaload, 1, 0, 0, 0), (.ireturn, 1, 0, 0, 0)]
set_option maxRecDepth 20000 in
theorem o_V_numberOf_109 : am_okB mt_V_numberOf 109 k_V_numberOf_109 = true := by decide +kernel
theorem g_V_numberOf_109 {L : am_S} {n : Nat} {ls st : List Value} {M : am_M} {Q : am_Q} (h : am_B L mt_V_numberOf k_V_numberOf_109 n 109 ls st M Q) : am_R L mt_V_numberOf n 109 ls st M Q := am_go L mt_V_numberOf (fun h => by cases h) k_V_numberOf_109 n 109 ls st M Q o_V_numberOf_109 h
def k_V_numberOf_120 : List am_I := [(.aload_n 0, 1, 0, 0, 0), (.getfield 12, 3, 3, 0, 163), (.getfield 51, 3, 1, 0, 99), (.bipush 55, 2, 0, 0, 0), (.iaload, 1, 0, 0, 0), (.ireturn, 1, 0, 0, 0)]
set_option maxRecDepth 20000 in
theorem o_V_numberOf_120 : am_okB mt_V_numberOf 120 k_V_numberOf_120 = true := by decide +kernel
theorem g_V_numberOf_120 {L : am_S} {n : Nat} {ls st : List Value} {M : am_M} {Q : am_Q} (h : am_B L mt_V_numberOf k_V_numberOf_120 n 120 ls st M Q) : am_R L mt_V_numberOf n 120 ls st M Q := am_go L mt_V_numberOf (fun h => by cases h) k_V_numberOf_120 n 120 ls st M Q o_V_numberOf_120 h
def k_V_numberOf_131 : List am_I := [(.aload_n 0, 1, 0, 0, 0), (.getfield 12, 3, 3, 0, 163), (.getfield 51, 3, 1, 0, 99), (.bipush 51, 2, 0, 0, 0), (.iaload, 1, 0, 0, 0), (.ireturn, 1, 0, 0, 0)]
set_option maxRecDepth 20000 in
theorem o_V_numberOf_131 : am_okB mt_V_numberOf 131 k_V_numberOf_131 = true := by decide +kernel
theorem g_V_numberOf_131 {L : am_S} {n : Nat} {ls st : List Value} {M : am_M} {Q : am_Q} (h : am_B L mt_V_numberOf k_V_numberOf_131 n 131 ls st M Q) : am_R L mt_V_numberOf n 131 ls st M Q := am_go L mt_V_numberOf (fun h => by cases h) k_V_numberOf_131 n 131 ls st M Q o_V_numberOf_131 h
def k_V_numberOf_142 : List am_I := [(.aload_n 0, 1, 0, 0, 0), (.getfield 47, 3, 3, 8, 171), (.ireturn, 1, 0, 0, 0)]
set_option maxRecDepth 20000 in
theorem o_V_numberOf_142 : am_okB mt_V_numberOf 142 k_V_numberOf_142 = true := by decide +kernel
theorem g_V_numberOf_142 {L : am_S} {n : Nat} {ls st : List Value} {M : am_M} {Q : am_Q} (h : am_B L mt_V_numberOf k_V_numberOf_142 n 142 ls st M Q) : am_R L mt_V_numberOf n 142 ls st M Q := am_go L mt_V_numberOf (fun h => by cases h) k_V_numberOf_142 n 142 ls st M Q o_V_numberOf_142 h
def k_V_findEmptyHours_0 : List am_I := [(.aload_n 0, 1, 0, 0, 0), (.getfield 16, 3, 3, 1, 164), (.aload_n 0, 1, 0, 0, 0), (.getfield 12, 3, 3, 0, 163), (.invokevirtual 159, 3, 3, 2, 274), (.iconst 0, 1, 0, 0, 0), (.istore_n 1, 1, 0, 0, 0)]
set_option maxRecDepth 20000 in
theorem o_V_findEmptyHours_0 : am_okB mt_V_findEmptyHours 0 k_V_findEmptyHours_0 = true := by decide +kernel
theorem g_V_findEmptyHours_0 {L : am_S} {n : Nat} {ls st : List Value} {M : am_M} {Q : am_Q} (h : am_B L mt_V_findEmptyHours k_V_findEmptyHours_0 n 0 ls st M Q) : am_R L mt_V_findEmptyHours n 0 ls st M Q := am_go L mt_V_findEmptyHours (fun h => by cases h) k_V_findEmptyHours_0 n 0 ls st M Q o_V_findEmptyHours_0 h
def k_V_findEmptyHours_13 : List am_I := [(.iload_n 1, 1, 0, 0, 0), (.iconst 5, 1, 0, 0, 0), (.if_icmp .ge 16, 3, 0, 0, 0), (.aload_n 0, 1, 0, 0, 0), (.getfield 33, 3, 3, 4, 167), (.iload_n 1, 1, 0, 0, 0), (.iconst (-1), 1, 0, 0, 0), (.iastore, 1, 0, 0, 0), (.iinc 1 1, 3, 0, 0, 0), (.goto (-15), 3, 0, 0, 0)]
set_option maxRecDepth 20000 in
theorem o_V_findEmptyHours_13 : am_okB mt_V_findEmptyHours 13 k_V_findEmptyHours_13 = true := by decide +kernel
theorem g_V_findEmptyHours_13 {L : am_S} {n : Nat} {ls st : List Value} {M : am_M} {Q : am_Q} (h : am_B L mt_V_findEmptyHours k_V_findEmptyHours_13 n 13 ls st M Q) : am_R L mt_V_findEmptyHours n 13 ls st M Q := am_go L mt_V_findEmptyHours (fun h => by cases h) k_V_findEmptyHours_13 n 13 ls st M Q o_V_findEmptyHours_13 h
def k_V_findEmptyHours_31 : List am_I := [(.iconst 0, 1, 0, 0, 0), (.istore_n 1, 1, 0, 0, 0)]
set_option maxRecDepth 20000 in
theorem o_V_findEmptyHours_31 : am_okB mt_V_findEmptyHours 31 k_V_findEmptyHours_31 = true := by decide +kernel
theorem g_V_findEmptyHours_31 {L : am_S} {n : Nat} {ls st : List Value} {M : am_M} {Q : am_Q} (h : am_B L mt_V_findEmptyHours k_V_findEmptyHours_31 n 31 ls st M Q) : am_R L mt_V_findEmptyHours n 31 ls st M Q := am_go L mt_V_findEmptyHours (fun h => by cases h) k_V_findEmptyHours_31 n 31 ls st M Q o_V_findEmptyHours_31 h
def k_V_findEmptyHours_33 : List am_I := [(.iload_n 1, 1, 0, 0, 0), (.sipush 240, 3, 0, 0, 0), (.if_icmp .gt 66, 3, 0, 0, 0), (.iload_n 1, 1, 0, 0, 0), (.ifCond .le 11, 3, 0, 0, 0), (.aload_n 0, 1, 0, 0, 0), (.getfield 16, 3, 3, 1, 164), (.iconst 1, 1, 0, 0, 0), (.invokevirtual 101, 3, 14, 2, 285)]
set_option maxRecDepth 20000 in
theorem o_V_findEmptyHours_33 : am_okB mt_V_findEmptyHours 33 k_V_findEmptyHours_33 = true := by decide +kernel
theorem g_V_findEmptyHours_33 {L : am_S} {n : Nat} {ls st : List Value} {M : am_M} {Q : am_Q} (h : am_B L mt_V_findEmptyHours k_V_findEmptyHours_33 n 33 ls st M Q) : am_R L mt_V_findEmptyHours n 33 ls st M Q := am_go L mt_V_findEmptyHours (fun h => by cases h) k_V_findEmptyHours_33 n 33 ls st M Q o_V_findEmptyHours_33 h
def k_V_findEmptyHours_52 : List am_I := [(.iconst 0, 1, 0, 0, 0), (.istore_n 2, 1, 0, 0, 0)]
set_option maxRecDepth 20000 in
theorem o_V_findEmptyHours_52 : am_okB mt_V_findEmptyHours 52 k_V_findEmptyHours_52 = true := by decide +kernel
theorem g_V_findEmptyHours_52 {L : am_S} {n : Nat} {ls st : List Value} {M : am_M} {Q : am_Q} (h : am_B L mt_V_findEmptyHours k_V_findEmptyHours_52 n 52 ls st M Q) : am_R L mt_V_findEmptyHours n 52 ls st M Q := am_go L mt_V_findEmptyHours (fun h => by cases h) k_V_findEmptyHours_52 n 52 ls st M Q o_V_findEmptyHours_52 h
def k_V_findEmptyHours_54 : List am_I := [(.iload_n 2, 1, 0, 0, 0), (.iconst 5, 1, 0, 0, 0), (.if_icmp .ge 41, 3, 0, 0, 0), (.aload_n 0, 1, 0, 0, 0), (.getfield 33, 3, 3, 4, 167), (.iload_n 2, 1, 0, 0, 0), (.iaload, 1, 0, 0, 0), (.iconst (-1), 1, 0, 0, 0), (.if_icmp .ne 25, 3, 0, 0, 0), (.aload_n 0, 1, 0, 0, 0), (.getfield 16, 3, 3, 1, 164), (.getfield 51, 3, 1, 0, 99), (.bipush 10, 2, 0, 0, 0), (.iload_n 2, 1, 0, 0, 0), (.iadd, 1, 0, 0, 0), (.iaload, 1, 0, 0, 0), (.ifCond .ne 10, 3, 0, 0, 0), (.aload_n 0, 1, 0, 0, 0), (.getfield 33, 3, 3, 4, 167), (.iload_n 2, 1, 0, 0, 0), (.iload_n 1, 1, 0, 0, 0), (.iastore, 1, 0, 0, 0)]
set_option maxRecDepth 20000 in
theorem o_V_findEmptyHours_54 : am_okB mt_V_findEmptyHours 54 k_V_findEmptyHours_54 = true := by decide +kernel
theorem g_V_findEmptyHours_54 {L : am_S} {n : Nat} {ls st : List Value} {M : am_M} {Q : am_Q} (h : am_B L mt_V_findEmptyHours k_V_findEmptyHours_54 n 54 ls st M Q) : am_R L mt_V_findEmptyHours n 54 ls st M Q := am_go L mt_V_findEmptyHours (fun h => by cases h) k_V_findEmptyHours_54 n 54 ls st M Q o_V_findEmptyHours_54 h
def k_V_findEmptyHours_91 : List am_I := [(.iinc 2 1, 3, 0, 0, 0), (.goto (-40), 3, 0, 0, 0)]
set_option maxRecDepth 20000 in
theorem o_V_findEmptyHours_91 : am_okB mt_V_findEmptyHours 91 k_V_findEmptyHours_91 = true := by decide +kernel
theorem g_V_findEmptyHours_91 {L : am_S} {n : Nat} {ls st : List Value} {M : am_M} {Q : am_Q} (h : am_B L mt_V_findEmptyHours k_V_findEmptyHours_91 n 91 ls st M Q) : am_R L mt_V_findEmptyHours n 91 ls st M Q := am_go L mt_V_findEmptyHours (fun h => by cases h) k_V_findEmptyHours_91 n 91 ls st M Q o_V_findEmptyHours_91 h
def k_V_findEmptyHours_97 : List am_I := [(.iinc 1 1, 3, 0, 0, 0), (.goto (-67), 3, 0, 0, 0)]
set_option maxRecDepth 20000 in
theorem o_V_findEmptyHours_97 : am_okB mt_V_findEmptyHours 97 k_V_findEmptyHours_97 = true := by decide +kernel
theorem g_V_findEmptyHours_97 {L : am_S} {n : Nat} {ls st : List Value} {M : am_M} {Q : am_Q} (h : am_B L mt_V_findEmptyHours k_V_findEmptyHours_97 n 97 ls st M Q) : am_R L mt_V_findEmptyHours n 97 ls st M Q := am_go L mt_V_findEmptyHours (fun h => by cases h) k_V_findEmptyHours_97 n 97 ls st M Q o_V_findEmptyHours_97 h
def k_V_findEmptyHours_103 : List am_I := [(.return_, 1, 0, 0, 0)]
set_option maxRecDepth 20000 in
theorem o_V_findEmptyHours_103 : am_okB mt_V_findEmptyHours 103 k_V_findEmptyHours_103 = true := by decide +kernel
theorem g_V_findEmptyHours_103 {L : am_S} {n : Nat} {ls st : List Value} {M : am_M} {Q : am_Q} (h : am_B L mt_V_findEmptyHours k_V_findEmptyHours_103 n 103 ls st M Q) : am_R L mt_V_findEmptyHours n 103 ls st M Q := am_go L mt_V_findEmptyHours (fun h => by cases h) k_V_findEmptyHours_103 n 103 ls st M Q o_V_findEmptyHours_103 h
def k_V_saveState_0 : List am_I := [(.aload_n 0, 1, 0, 0, 0), (.getfield 47, 3, 3, 8, 171), (.ifCond .lt 12, 3, 0, 0, 0), (.aload_n 0, 1, 0, 0, 0), (.getfield 47, 3, 3, 8, 171), (.bipush 6, 2, 0, 0, 0), (.if_icmp .lt 29, 3, 0, 0, 0)]
set_option maxRecDepth 20000 in
theorem o_V_saveState_0 : am_okB mt_V_saveState 0 k_V_saveState_0 = true := by decide +kernel
theorem g_V_saveState_0 {L : am_S} {n : Nat} {ls st : List Value} {M : am_M} {Q : am_Q} (h : am_B L mt_V_saveState k_V_saveState_0 n 0 ls st M Q) : am_R L mt_V_saveState n 0 ls st M Q := am_go L mt_V_saveState (fun h => by cases h) k_V_saveState_0 n 0 ls st M Q o_V_saveState_0 h
def k_V_saveState_16 : List am_I := [(.aload_n 0, 1, 0, 0, 0), (.iconst 5, 1, 0, 0, 0), (.putfield 47, 3, 3, 8, 171), (.aload_n 0, 1, 0, 0, 0), (.getfield 44, 3, 3, 7, 170), (.bipush 105, 2, 0, 0, 0), (.aload_n 0, 1, 0, 0, 0), (.getfield 44, 3, 3, 7, 170), (.iconst 0, 1, 0, 0, 0), (.aload_n 0, 1, 0, 0, 0), (.getfield 47, 3, 3, 8, 171), (.bipush 105, 2, 0, 0, 0), (.imul, 1, 0, 0, 0), (.invokestatic 133, 3, 202, 5, 521)]
set_option maxRecDepth 20000 in
theorem o_V_saveState_16 : am_okB mt_V_saveState 16 k_V_saveState_16 = true := by decide +kernel
theorem g_V_saveState_16 {L : am_S} {n : Nat} {ls st : List Value} {M : am_M} {Q : am_Q} (h : am_B L mt_V_saveState k_V_saveState_16 n 16 ls st M Q) : am_R L mt_V_saveState n 16 ls st M Q := am_go L mt_V_saveState (fun h => by cases h) k_V_saveState_16 n 16 ls st M Q o_V_saveState_16 h
def k_V_saveState_42 : List am_I := [(.aload_n 0, 1, 0, 0, 0), (.getfield 12, 3, 3, 0, 163), (.getfield 51, 3, 1, 0, 99), (.iconst 0, 1, 0, 0, 0), (.aload_n 0, 1, 0, 0, 0), (.getfield 44, 3, 3, 7, 170), (.aload_n 0, 1, 0, 0, 0), (.getfield 47, 3, 3, 8, 171), (.bipush 105, 2, 0, 0, 0), (.imul, 1, 0, 0, 0), (.bipush 105, 2, 0, 0, 0), (.invokestatic 133, 3, 202, 5, 521), (.aload_n 0, 1, 0, 0, 0), (.dup, 1, 0, 0, 0), (.getfield 47, 3, 3, 8, 171), (.iconst 1, 1, 0, 0, 0), (.iadd, 1, 0, 0, 0), (.putfield 47, 3, 3, 8, 171), (.return_, 1, 0, 0, 0)]
set_option maxRecDepth 20000 in
theorem o_V_saveState_42 : am_okB mt_V_saveState 42 k_V_saveState_42 = true := by decide +kernel
theorem g_V_saveState_42 {L : am_S} {n : Nat} {ls st : List Value} {M : am_M} {Q : am_Q} (h : am_B L mt_V_saveState k_V_saveState_42 n 42 ls st M Q) : am_R L mt_V_saveState n 42 ls st M Q := am_go L mt_V_saveState (fun h => by cases h) k_V_saveState_42 n 42 ls st M Q o_V_saveState_42 h
def k_V_refuse_0 : List am_I := [(.aload_n 0, 1, 0, 0, 0), (.getfield 12, 3, 3, 0, 163), (.getfield 51, 3, 1, 0, 99), (.bipush 55, 2, 0, 0, 0), (.dup2, 1, 0, 0, 0), (.iaload, 1, 0, 0, 0), (.iconst 1, 1, 0, 0, 0), (.iadd, 1, 0, 0, 0), (.iastore, 1, 0, 0, 0), (.iconst (-1), 1, 0, 0, 0), (.ireturn, 1, 0, 0, 0)]
set_option maxRecDepth 20000 in
theorem o_V_refuse_0 : am_okB mt_V_refuse 0 k_V_refuse_0 = true := by decide +kernel
theorem g_V_refuse_0 {L : am_S} {n : Nat} {ls st : List Value} {M : am_M} {Q : am_Q} (h : am_B L mt_V_refuse k_V_refuse_0 n 0 ls st M Q) : am_R L mt_V_refuse n 0 ls st M Q := am_go L mt_V_refuse (fun h => by cases h) k_V_refuse_0 n 0 ls st M Q o_V_refuse_0 h
def k_V_requireVat_0 : List am_I := [(.iload_n 0, 1, 0, 0, 0), (.ifCond .lt 8, 3, 0, 0, 0), (.iload_n 0, 1, 0, 0, 0), (.iconst 5, 1, 0, 0, 0), (.if_icmp .lt 13, 3, 0, 0, 0)]
set_option maxRecDepth 20000 in
theorem o_V_requireVat_0 : am_okB mt_V_requireVat 0 k_V_requireVat_0 = true := by decide +kernel
theorem g_V_requireVat_0 {L : am_S} {n : Nat} {ls st : List Value} {M : am_M} {Q : am_Q} (h : am_B L mt_V_requireVat k_V_requireVat_0 n 0 ls st M Q) : am_R L mt_V_requireVat n 0 ls st M Q := am_go L mt_V_requireVat (fun h => by cases h) k_V_requireVat_0 n 0 ls st M Q o_V_requireVat_0 h
def k_V_requireVat_9 : List am_I := [(.new 216, 3, 0, 218, 220)]
set_option maxRecDepth 20000 in
theorem o_V_requireVat_9 : am_okB mt_V_requireVat 9 k_V_requireVat_9 = true := by decide +kernel
theorem g_V_requireVat_9 {L : am_S} {n : Nat} {ls st : List Value} {M : am_M} {Q : am_Q} (h : am_B L mt_V_requireVat k_V_requireVat_9 n 9 ls st M Q) : am_R L mt_V_requireVat n 9 ls st M Q := am_go L mt_V_requireVat (fun h => by cases h) k_V_requireVat_9 n 9 ls st M Q o_V_requireVat_9 h
def k_V_requireVat_19 : List am_I := [(.return_, 1, 0, 0, 0)]
set_option maxRecDepth 20000 in
theorem o_V_requireVat_19 : am_okB mt_V_requireVat 19 k_V_requireVat_19 = true := by decide +kernel
theorem g_V_requireVat_19 {L : am_S} {n : Nat} {ls st : List Value} {M : am_M} {Q : am_Q} (h : am_B L mt_V_requireVat k_V_requireVat_19 n 19 ls st M Q) : am_R L mt_V_requireVat n 19 ls st M Q := am_go L mt_V_requireVat (fun h => by cases h) k_V_requireVat_19 n 19 ls st M Q o_V_requireVat_19 h
def k_V_requireDye_0 : List am_I := [(.iload_n 0, 1, 0, 0, 0), (.ifCond .lt 8, 3, 0, 0, 0), (.iload_n 0, 1, 0, 0, 0), (.iconst 3, 1, 0, 0, 0), (.if_icmp .lt 13, 3, 0, 0, 0)]
set_option maxRecDepth 20000 in
theorem o_V_requireDye_0 : am_okB mt_V_requireDye 0 k_V_requireDye_0 = true := by decide +kernel
theorem g_V_requireDye_0 {L : am_S} {n : Nat} {ls st : List Value} {M : am_M} {Q : am_Q} (h : am_B L mt_V_requireDye k_V_requireDye_0 n 0 ls st M Q) : am_R L mt_V_requireDye n 0 ls st M Q := am_go L mt_V_requireDye (fun h => by cases h) k_V_requireDye_0 n 0 ls st M Q o_V_requireDye_0 h
def k_V_requireDye_9 : List am_I := [(.new 216, 3, 0, 221, 220)]
set_option maxRecDepth 20000 in
theorem o_V_requireDye_9 : am_okB mt_V_requireDye 9 k_V_requireDye_9 = true := by decide +kernel
theorem g_V_requireDye_9 {L : am_S} {n : Nat} {ls st : List Value} {M : am_M} {Q : am_Q} (h : am_B L mt_V_requireDye k_V_requireDye_9 n 9 ls st M Q) : am_R L mt_V_requireDye n 9 ls st M Q := am_go L mt_V_requireDye (fun h => by cases h) k_V_requireDye_9 n 9 ls st M Q o_V_requireDye_9 h
def k_V_requireDye_19 : List am_I := [(.return_, 1, 0, 0, 0)]
set_option maxRecDepth 20000 in
theorem o_V_requireDye_19 : am_okB mt_V_requireDye 19 k_V_requireDye_19 = true := by decide +kernel
theorem g_V_requireDye_19 {L : am_S} {n : Nat} {ls st : List Value} {M : am_M} {Q : am_Q} (h : am_B L mt_V_requireDye k_V_requireDye_19 n 19 ls st M Q) : am_R L mt_V_requireDye n 19 ls st M Q := am_go L mt_V_requireDye (fun h => by cases h) k_V_requireDye_19 n 19 ls st M Q o_V_requireDye_19 h
def k_V_requireValve_0 : List am_I := [(.iload_n 1, 1, 0, 0, 0), (.ifCond .lt 23, 3, 0, 0, 0), (.iload_n 1, 1, 0, 0, 0), (.aload_n 0, 1, 0, 0, 0), (.getfield 12, 3, 3, 0, 163), (.getfield 51, 3, 1, 0, 99), (.bipush 56, 2, 0, 0, 0), (.iaload, 1, 0, 0, 0), (.if_icmp .ge 9, 3, 0, 0, 0), (.iload_n 1, 1, 0, 0, 0), (.bipush 8, 2, 0, 0, 0), (.if_icmp .lt 13, 3, 0, 0, 0)]
set_option maxRecDepth 20000 in
theorem o_V_requireValve_0 : am_okB mt_V_requireValve 0 k_V_requireValve_0 = true := by decide +kernel
theorem g_V_requireValve_0 {L : am_S} {n : Nat} {ls st : List Value} {M : am_M} {Q : am_Q} (h : am_B L mt_V_requireValve k_V_requireValve_0 n 0 ls st M Q) : am_R L mt_V_requireValve n 0 ls st M Q := am_go L mt_V_requireValve (fun h => by cases h) k_V_requireValve_0 n 0 ls st M Q o_V_requireValve_0 h
def k_V_requireValve_24 : List am_I := [(.new 216, 3, 0, 223, 220)]
set_option maxRecDepth 20000 in
theorem o_V_requireValve_24 : am_okB mt_V_requireValve 24 k_V_requireValve_24 = true := by decide +kernel
theorem g_V_requireValve_24 {L : am_S} {n : Nat} {ls st : List Value} {M : am_M} {Q : am_Q} (h : am_B L mt_V_requireValve k_V_requireValve_24 n 24 ls st M Q) : am_R L mt_V_requireValve n 24 ls st M Q := am_go L mt_V_requireValve (fun h => by cases h) k_V_requireValve_24 n 24 ls st M Q o_V_requireValve_24 h
def k_V_requireValve_34 : List am_I := [(.return_, 1, 0, 0, 0)]
set_option maxRecDepth 20000 in
theorem o_V_requireValve_34 : am_okB mt_V_requireValve 34 k_V_requireValve_34 = true := by decide +kernel
theorem g_V_requireValve_34 {L : am_S} {n : Nat} {ls st : List Value} {M : am_M} {Q : am_Q} (h : am_B L mt_V_requireValve k_V_requireValve_34 n 34 ls st M Q) : am_R L mt_V_requireValve n 34 ls st M Q := am_go L mt_V_requireValve (fun h => by cases h) k_V_requireValve_34 n 34 ls st M Q o_V_requireValve_34 h
def k_V_requireRange_0 : List am_I := [(.iload_n 0, 1, 0, 0, 0), (.iload_n 1, 1, 0, 0, 0), (.if_icmp .lt 8, 3, 0, 0, 0), (.iload_n 0, 1, 0, 0, 0), (.iload_n 2, 1, 0, 0, 0), (.if_icmp .le 13, 3, 0, 0, 0)]
set_option maxRecDepth 20000 in
theorem o_V_requireRange_0 : am_okB mt_V_requireRange 0 k_V_requireRange_0 = true := by decide +kernel
theorem g_V_requireRange_0 {L : am_S} {n : Nat} {ls st : List Value} {M : am_M} {Q : am_Q} (h : am_B L mt_V_requireRange k_V_requireRange_0 n 0 ls st M Q) : am_R L mt_V_requireRange n 0 ls st M Q := am_go L mt_V_requireRange (fun h => by cases h) k_V_requireRange_0 n 0 ls st M Q o_V_requireRange_0 h
def k_V_requireRange_10 : List am_I := [(.new 84, 3, 1, 225, 88)]
set_option maxRecDepth 20000 in
theorem o_V_requireRange_10 : am_okB mt_V_requireRange 10 k_V_requireRange_10 = true := by decide +kernel
theorem g_V_requireRange_10 {L : am_S} {n : Nat} {ls st : List Value} {M : am_M} {Q : am_Q} (h : am_B L mt_V_requireRange k_V_requireRange_10 n 10 ls st M Q) : am_R L mt_V_requireRange n 10 ls st M Q := am_go L mt_V_requireRange (fun h => by cases h) k_V_requireRange_10 n 10 ls st M Q o_V_requireRange_10 h
def k_V_requireRange_20 : List am_I := [(.return_, 1, 0, 0, 0)]
set_option maxRecDepth 20000 in
theorem o_V_requireRange_20 : am_okB mt_V_requireRange 20 k_V_requireRange_20 = true := by decide +kernel
theorem g_V_requireRange_20 {L : am_S} {n : Nat} {ls st : List Value} {M : am_M} {Q : am_Q} (h : am_B L mt_V_requireRange k_V_requireRange_20 n 20 ls st M Q) : am_R L mt_V_requireRange n 20 ls st M Q := am_go L mt_V_requireRange (fun h => by cases h) k_V_requireRange_20 n 20 ls st M Q o_V_requireRange_20 h
end
section
/-! DyeVatsModel: blocks of code, written by wip/whole/mk15.py out of what TURN printed of the program -/
def k_Z_thrown_0 : List am_I := [(.aload_n 0, 1, 0, 0, 0), (.getfield 39, 3, 4, 0, 727), (.ireturn, 1, 0, 0, 0)]
set_option maxRecDepth 20000 in
theorem o_Z_thrown_0 : am_okB mt_Z_thrown 0 k_Z_thrown_0 = true := by decide +kernel
theorem g_Z_thrown_0 {L : am_S} {n : Nat} {ls st : List Value} {M : am_M} {Q : am_Q} (h : am_B L mt_Z_thrown k_Z_thrown_0 n 0 ls st M Q) : am_R L mt_Z_thrown n 0 ls st M Q := am_go L mt_Z_thrown (fun h => by cases h) k_Z_thrown_0 n 0 ls st M Q o_Z_thrown_0 h
def k_Z_in_0 : List am_I := [(.iload_n 0, 1, 0, 0, 0), (.iload_n 1, 1, 0, 0, 0), (.if_icmp .lt 12, 3, 0, 0, 0), (.iload_n 0, 1, 0, 0, 0), (.iload_n 2, 1, 0, 0, 0), (.if_icmp .gt 7, 3, 0, 0, 0), (.iconst 1, 1, 0, 0, 0), (.goto 4, 3, 0, 0, 0)]
set_option maxRecDepth 20000 in
theorem o_Z_in_0 : am_okB mt_Z_in 0 k_Z_in_0 = true := by decide +kernel
theorem g_Z_in_0 {L : am_S} {n : Nat} {ls st : List Value} {M : am_M} {Q : am_Q} (h : am_B L mt_Z_in k_Z_in_0 n 0 ls st M Q) : am_R L mt_Z_in n 0 ls st M Q := am_go L mt_Z_in (fun h => by cases h) k_Z_in_0 n 0 ls st M Q o_Z_in_0 h
def k_Z_in_14 : List am_I := [(.iconst 0, 1, 0, 0, 0)]
set_option maxRecDepth 20000 in
theorem o_Z_in_14 : am_okB mt_Z_in 14 k_Z_in_14 = true := by decide +kernel
theorem g_Z_in_14 {L : am_S} {n : Nat} {ls st : List Value} {M : am_M} {Q : am_Q} (h : am_B L mt_Z_in k_Z_in_14 n 14 ls st M Q) : am_R L mt_Z_in n 14 ls st M Q := am_go L mt_Z_in (fun h => by cases h) k_Z_in_14 n 14 ls st M Q o_Z_in_14 h
def k_Z_in_15 : List am_I := [(.ireturn, 1, 0, 0, 0)]
set_option maxRecDepth 20000 in
theorem o_Z_in_15 : am_okB mt_Z_in 15 k_Z_in_15 = true := by decide +kernel
theorem g_Z_in_15 {L : am_S} {n : Nat} {ls st : List Value} {M : am_M} {Q : am_Q} (h : am_B L mt_Z_in k_Z_in_15 n 15 ls st M Q) : am_R L mt_Z_in n 15 ls st M Q := am_go L mt_Z_in (fun h => by cases h) k_Z_in_15 n 15 ls st M Q o_Z_in_15 h
def k_Z_least_0 : List am_I := [(.iload_n 0, 1, 0, 0, 0), (.iload_n 1, 1, 0, 0, 0), (.if_icmp .ge 7, 3, 0, 0, 0), (.iload_n 0, 1, 0, 0, 0), (.goto 4, 3, 0, 0, 0)]
set_option maxRecDepth 20000 in
theorem o_Z_least_0 : am_okB mt_Z_least 0 k_Z_least_0 = true := by decide +kernel
theorem g_Z_least_0 {L : am_S} {n : Nat} {ls st : List Value} {M : am_M} {Q : am_Q} (h : am_B L mt_Z_least k_Z_least_0 n 0 ls st M Q) : am_R L mt_Z_least n 0 ls st M Q := am_go L mt_Z_least (fun h => by cases h) k_Z_least_0 n 0 ls st M Q o_Z_least_0 h
def k_Z_least_9 : List am_I := [(.iload_n 1, 1, 0, 0, 0)]
set_option maxRecDepth 20000 in
theorem o_Z_least_9 : am_okB mt_Z_least 9 k_Z_least_9 = true := by decide +kernel
theorem g_Z_least_9 {L : am_S} {n : Nat} {ls st : List Value} {M : am_M} {Q : am_Q} (h : am_B L mt_Z_least k_Z_least_9 n 9 ls st M Q) : am_R L mt_Z_least n 9 ls st M Q := am_go L mt_Z_least (fun h => by cases h) k_Z_least_9 n 9 ls st M Q o_Z_least_9 h
def k_Z_least_10 : List am_I := [(.ireturn, 1, 0, 0, 0)]
set_option maxRecDepth 20000 in
theorem o_Z_least_10 : am_okB mt_Z_least 10 k_Z_least_10 = true := by decide +kernel
theorem g_Z_least_10 {L : am_S} {n : Nat} {ls st : List Value} {M : am_M} {Q : am_Q} (h : am_B L mt_Z_least k_Z_least_10 n 10 ls st M Q) : am_R L mt_Z_least n 10 ls st M Q := am_go L mt_Z_least (fun h => by cases h) k_Z_least_10 n 10 ls st M Q o_Z_least_10 h
def k_Z_of_0 : List am_I := [(.aload_n 0, 1, 0, 0, 0), (.getfield 7, 3, 4, 1, 728), (.bipush 17, 2, 0, 0, 0), (.bipush 8, 2, 0, 0, 0), (.iload_n 1, 1, 0, 0, 0), (.imul, 1, 0, 0, 0), (.iadd, 1, 0, 0, 0), (.iload_n 2, 1, 0, 0, 0), (.iadd, 1, 0, 0, 0), (.iaload, 1, 0, 0, 0), (.ireturn, 1, 0, 0, 0)]
set_option maxRecDepth 20000 in
theorem o_Z_of_0 : am_okB mt_Z_of 0 k_Z_of_0 = true := by decide +kernel
theorem g_Z_of_0 {L : am_S} {n : Nat} {ls st : List Value} {M : am_M} {Q : am_Q} (h : am_B L mt_Z_of k_Z_of_0 n 0 ls st M Q) : am_R L mt_Z_of n 0 ls st M Q := am_go L mt_Z_of (fun h => by cases h) k_Z_of_0 n 0 ls st M Q o_Z_of_0 h
def k_Z_setVat_0 : List am_I := [(.aload_n 0, 1, 0, 0, 0), (.getfield 7, 3, 4, 1, 728), (.bipush 17, 2, 0, 0, 0), (.bipush 8, 2, 0, 0, 0), (.iload_n 1, 1, 0, 0, 0), (.imul, 1, 0, 0, 0), (.iadd, 1, 0, 0, 0), (.iload_n 2, 1, 0, 0, 0), (.iadd, 1, 0, 0, 0), (.iload_n 3, 1, 0, 0, 0), (.iastore, 1, 0, 0, 0), (.return_, 1, 0, 0, 0)]
set_option maxRecDepth 20000 in
theorem o_Z_setVat_0 : am_okB mt_Z_setVat 0 k_Z_setVat_0 = true := by decide +kernel
theorem g_Z_setVat_0 {L : am_S} {n : Nat} {ls st : List Value} {M : am_M} {Q : am_Q} (h : am_B L mt_Z_setVat k_Z_setVat_0 n 0 ls st M Q) : am_R L mt_Z_setVat n 0 ls st M Q := am_go L mt_Z_setVat (fun h => by cases h) k_Z_setVat_0 n 0 ls st M Q o_Z_setVat_0 h
def k_Z_add_0 : List am_I := [(.aload_n 0, 1, 0, 0, 0), (.getfield 7, 3, 4, 1, 728), (.bipush 17, 2, 0, 0, 0), (.bipush 8, 2, 0, 0, 0), (.iload_n 1, 1, 0, 0, 0), (.imul, 1, 0, 0, 0), (.iadd, 1, 0, 0, 0), (.iload_n 2, 1, 0, 0, 0), (.iadd, 1, 0, 0, 0), (.dup2, 1, 0, 0, 0), (.iaload, 1, 0, 0, 0), (.iload_n 3, 1, 0, 0, 0), (.iadd, 1, 0, 0, 0), (.iastore, 1, 0, 0, 0), (.return_, 1, 0, 0, 0)]
set_option maxRecDepth 20000 in
theorem o_Z_add_0 : am_okB mt_Z_add 0 k_Z_add_0 = true := by decide +kernel
theorem g_Z_add_0 {L : am_S} {n : Nat} {ls st : List Value} {M : am_M} {Q : am_Q} (h : am_B L mt_Z_add k_Z_add_0 n 0 ls st M Q) : am_R L mt_Z_add n 0 ls st M Q := am_go L mt_Z_add (fun h => by cases h) k_Z_add_0 n 0 ls st M Q o_Z_add_0 h
def k_Z_valveNow_0 : List am_I := [(.aload_n 0, 1, 0, 0, 0), (.getfield 7, 3, 4, 1, 728), (.bipush 57, 2, 0, 0, 0), (.bipush 6, 2, 0, 0, 0), (.iload_n 1, 1, 0, 0, 0), (.imul, 1, 0, 0, 0), (.iadd, 1, 0, 0, 0), (.iload_n 2, 1, 0, 0, 0), (.iadd, 1, 0, 0, 0), (.iaload, 1, 0, 0, 0), (.ireturn, 1, 0, 0, 0)]
set_option maxRecDepth 20000 in
theorem o_Z_valveNow_0 : am_okB mt_Z_valveNow 0 k_Z_valveNow_0 = true := by decide +kernel
theorem g_Z_valveNow_0 {L : am_S} {n : Nat} {ls st : List Value} {M : am_M} {Q : am_Q} (h : am_B L mt_Z_valveNow k_Z_valveNow_0 n 0 ls st M Q) : am_R L mt_Z_valveNow n 0 ls st M Q := am_go L mt_Z_valveNow (fun h => by cases h) k_Z_valveNow_0 n 0 ls st M Q o_Z_valveNow_0 h
def k_Z_isVat_0 : List am_I := [(.iload_n 0, 1, 0, 0, 0), (.iconst 0, 1, 0, 0, 0), (.iconst 4, 1, 0, 0, 0), (.invokestatic 43, 3, 75, 3, 791), (.ireturn, 1, 0, 0, 0)]
set_option maxRecDepth 20000 in
theorem o_Z_isVat_0 : am_okB mt_Z_isVat 0 k_Z_isVat_0 = true := by decide +kernel
theorem g_Z_isVat_0 {L : am_S} {n : Nat} {ls st : List Value} {M : am_M} {Q : am_Q} (h : am_B L mt_Z_isVat k_Z_isVat_0 n 0 ls st M Q) : am_R L mt_Z_isVat n 0 ls st M Q := am_go L mt_Z_isVat (fun h => by cases h) k_Z_isVat_0 n 0 ls st M Q o_Z_isVat_0 h
def k_Z_isDye_0 : List am_I := [(.iload_n 0, 1, 0, 0, 0), (.iconst 0, 1, 0, 0, 0), (.iconst 2, 1, 0, 0, 0), (.invokestatic 43, 3, 75, 3, 791), (.ireturn, 1, 0, 0, 0)]
set_option maxRecDepth 20000 in
theorem o_Z_isDye_0 : am_okB mt_Z_isDye 0 k_Z_isDye_0 = true := by decide +kernel
theorem g_Z_isDye_0 {L : am_S} {n : Nat} {ls st : List Value} {M : am_M} {Q : am_Q} (h : am_B L mt_Z_isDye k_Z_isDye_0 n 0 ls st M Q) : am_R L mt_Z_isDye n 0 ls st M Q := am_go L mt_Z_isDye (fun h => by cases h) k_Z_isDye_0 n 0 ls st M Q o_Z_isDye_0 h
def k_Z_isValve_0 : List am_I := [(.iload_n 1, 1, 0, 0, 0), (.iconst 0, 1, 0, 0, 0), (.aload_n 0, 1, 0, 0, 0), (.getfield 7, 3, 4, 1, 728), (.iconst 5, 1, 0, 0, 0), (.iaload, 1, 0, 0, 0), (.iconst 1, 1, 0, 0, 0), (.isub, 1, 0, 0, 0), (.invokestatic 43, 3, 75, 3, 791), (.ireturn, 1, 0, 0, 0)]
set_option maxRecDepth 20000 in
theorem o_Z_isValve_0 : am_okB mt_Z_isValve 0 k_Z_isValve_0 = true := by decide +kernel
theorem g_Z_isValve_0 {L : am_S} {n : Nat} {ls st : List Value} {M : am_M} {Q : am_Q} (h : am_B L mt_Z_isValve k_Z_isValve_0 n 0 ls st M Q) : am_R L mt_Z_isValve n 0 ls st M Q := am_go L mt_Z_isValve (fun h => by cases h) k_Z_isValve_0 n 0 ls st M Q o_Z_isValve_0 h
def k_Z_hourOfDay_0 : List am_I := [(.aload_n 0, 1, 0, 0, 0), (.getfield 7, 3, 4, 1, 728), (.iconst 0, 1, 0, 0, 0), (.iaload, 1, 0, 0, 0), (.bipush 24, 2, 0, 0, 0), (.irem, 1, 0, 0, 0), (.ireturn, 1, 0, 0, 0)]
set_option maxRecDepth 20000 in
theorem o_Z_hourOfDay_0 : am_okB mt_Z_hourOfDay 0 k_Z_hourOfDay_0 = true := by decide +kernel
theorem g_Z_hourOfDay_0 {L : am_S} {n : Nat} {ls st : List Value} {M : am_M} {Q : am_Q} (h : am_B L mt_Z_hourOfDay k_Z_hourOfDay_0 n 0 ls st M Q) : am_R L mt_Z_hourOfDay n 0 ls st M Q := am_go L mt_Z_hourOfDay (fun h => by cases h) k_Z_hourOfDay_0 n 0 ls st M Q o_Z_hourOfDay_0 h
def k_Z_holds_0 : List am_I := [(.aload_n 0, 1, 0, 0, 0), (.iload_n 1, 1, 0, 0, 0), (.iconst 1, 1, 0, 0, 0), (.invokevirtual 47, 3, 77, 3, 813), (.aload_n 0, 1, 0, 0, 0), (.getfield 7, 3, 4, 1, 728), (.iconst 1, 1, 0, 0, 0), (.iaload, 1, 0, 0, 0), (.imul, 1, 0, 0, 0), (.bipush 100, 2, 0, 0, 0), (.idiv, 1, 0, 0, 0), (.ireturn, 1, 0, 0, 0)]
set_option maxRecDepth 20000 in
theorem o_Z_holds_0 : am_okB mt_Z_holds 0 k_Z_holds_0 = true := by decide +kernel
theorem g_Z_holds_0 {L : am_S} {n : Nat} {ls st : List Value} {M : am_M} {Q : am_Q} (h : am_B L mt_Z_holds k_Z_holds_0 n 0 ls st M Q) : am_R L mt_Z_holds n 0 ls st M Q := am_go L mt_Z_holds (fun h => by cases h) k_Z_holds_0 n 0 ls st M Q o_Z_holds_0 h
def k_Z_isOpen_0 : List am_I := [(.aload_n 0, 1, 0, 0, 0), (.invokevirtual 51, 3, 84, 1, 794), (.aload_n 0, 1, 0, 0, 0), (.iload_n 1, 1, 0, 0, 0), (.iconst 3, 1, 0, 0, 0), (.invokevirtual 55, 3, 80, 3, 892), (.aload_n 0, 1, 0, 0, 0), (.iload_n 1, 1, 0, 0, 0), (.iconst 4, 1, 0, 0, 0), (.invokevirtual 55, 3, 80, 3, 892), (.invokestatic 43, 3, 75, 3, 791), (.ireturn, 1, 0, 0, 0)]
set_option maxRecDepth 20000 in
theorem o_Z_isOpen_0 : am_okB mt_Z_isOpen 0 k_Z_isOpen_0 = true := by decide +kernel
theorem g_Z_isOpen_0 {L : am_S} {n : Nat} {ls st : List Value} {M : am_M} {Q : am_Q} (h : am_B L mt_Z_isOpen k_Z_isOpen_0 n 0 ls st M Q) : am_R L mt_Z_isOpen n 0 ls st M Q := am_go L mt_Z_isOpen (fun h => by cases h) k_Z_isOpen_0 n 0 ls st M Q o_Z_isOpen_0 h
def k_Z_record_0 : List am_I := [(.aload_n 0, 1, 0, 0, 0), (.getfield 58, 3, 4, 4, 731), (.bipush 6, 2, 0, 0, 0), (.if_icmp .ne 43, 3, 0, 0, 0), (.iconst 0, 1, 0, 0, 0), (.istore_n 1, 1, 0, 0, 0)]
set_option maxRecDepth 20000 in
theorem o_Z_record_0 : am_okB mt_Z_record 0 k_Z_record_0 = true := by decide +kernel
theorem g_Z_record_0 {L : am_S} {n : Nat} {ls st : List Value} {M : am_M} {Q : am_Q} (h : am_B L mt_Z_record k_Z_record_0 n 0 ls st M Q) : am_R L mt_Z_record n 0 ls st M Q := am_go L mt_Z_record (fun h => by cases h) k_Z_record_0 n 0 ls st M Q o_Z_record_0 h
def k_Z_record_11 : List am_I := [(.iload_n 1, 1, 0, 0, 0), (.sipush 525, 3, 0, 0, 0), (.if_icmp .ge 24, 3, 0, 0, 0), (.aload_n 0, 1, 0, 0, 0), (.getfield 16, 3, 4, 3, 730), (.iload_n 1, 1, 0, 0, 0), (.aload_n 0, 1, 0, 0, 0), (.getfield 16, 3, 4, 3, 730), (.bipush 105, 2, 0, 0, 0), (.iload_n 1, 1, 0, 0, 0), (.iadd, 1, 0, 0, 0), (.iaload, 1, 0, 0, 0), (.iastore, 1, 0, 0, 0), (.iinc 1 1, 3, 0, 0, 0), (.goto (-25), 3, 0, 0, 0)]
set_option maxRecDepth 20000 in
theorem o_Z_record_11 : am_okB mt_Z_record 11 k_Z_record_11 = true := by decide +kernel
theorem g_Z_record_11 {L : am_S} {n : Nat} {ls st : List Value} {M : am_M} {Q : am_Q} (h : am_B L mt_Z_record k_Z_record_11 n 11 ls st M Q) : am_R L mt_Z_record n 11 ls st M Q := am_go L mt_Z_record (fun h => by cases h) k_Z_record_11 n 11 ls st M Q o_Z_record_11 h
def k_Z_record_39 : List am_I := [(.aload_n 0, 1, 0, 0, 0), (.dup, 1, 0, 0, 0), (.getfield 58, 3, 4, 4, 731), (.iconst 1, 1, 0, 0, 0), (.isub, 1, 0, 0, 0), (.putfield 58, 3, 4, 4, 731)]
set_option maxRecDepth 20000 in
theorem o_Z_record_39 : am_okB mt_Z_record 39 k_Z_record_39 = true := by decide +kernel
theorem g_Z_record_39 {L : am_S} {n : Nat} {ls st : List Value} {M : am_M} {Q : am_Q} (h : am_B L mt_Z_record k_Z_record_39 n 39 ls st M Q) : am_R L mt_Z_record n 39 ls st M Q := am_go L mt_Z_record (fun h => by cases h) k_Z_record_39 n 39 ls st M Q o_Z_record_39 h
def k_Z_record_49 : List am_I := [(.iconst 0, 1, 0, 0, 0), (.istore_n 1, 1, 0, 0, 0)]
set_option maxRecDepth 20000 in
theorem o_Z_record_49 : am_okB mt_Z_record 49 k_Z_record_49 = true := by decide +kernel
theorem g_Z_record_49 {L : am_S} {n : Nat} {ls st : List Value} {M : am_M} {Q : am_Q} (h : am_B L mt_Z_record k_Z_record_49 n 49 ls st M Q) : am_R L mt_Z_record n 49 ls st M Q := am_go L mt_Z_record (fun h => by cases h) k_Z_record_49 n 49 ls st M Q o_Z_record_49 h
def k_Z_record_51 : List am_I := [(.iload_n 1, 1, 0, 0, 0), (.bipush 105, 2, 0, 0, 0), (.if_icmp .ge 29, 3, 0, 0, 0), (.aload_n 0, 1, 0, 0, 0), (.getfield 16, 3, 4, 3, 730), (.bipush 105, 2, 0, 0, 0), (.aload_n 0, 1, 0, 0, 0), (.getfield 58, 3, 4, 4, 731), (.imul, 1, 0, 0, 0), (.iload_n 1, 1, 0, 0, 0), (.iadd, 1, 0, 0, 0), (.aload_n 0, 1, 0, 0, 0), (.getfield 7, 3, 4, 1, 728), (.iload_n 1, 1, 0, 0, 0), (.iaload, 1, 0, 0, 0), (.iastore, 1, 0, 0, 0), (.iinc 1 1, 3, 0, 0, 0), (.goto (-29), 3, 0, 0, 0)]
set_option maxRecDepth 20000 in
theorem o_Z_record_51 : am_okB mt_Z_record 51 k_Z_record_51 = true := by decide +kernel
theorem g_Z_record_51 {L : am_S} {n : Nat} {ls st : List Value} {M : am_M} {Q : am_Q} (h : am_B L mt_Z_record k_Z_record_51 n 51 ls st M Q) : am_R L mt_Z_record n 51 ls st M Q := am_go L mt_Z_record (fun h => by cases h) k_Z_record_51 n 51 ls st M Q o_Z_record_51 h
def k_Z_record_83 : List am_I := [(.aload_n 0, 1, 0, 0, 0), (.dup, 1, 0, 0, 0), (.getfield 58, 3, 4, 4, 731), (.iconst 1, 1, 0, 0, 0), (.iadd, 1, 0, 0, 0), (.putfield 58, 3, 4, 4, 731), (.return_, 1, 0, 0, 0)]
set_option maxRecDepth 20000 in
theorem o_Z_record_83 : am_okB mt_Z_record 83 k_Z_record_83 = true := by decide +kernel
theorem g_Z_record_83 {L : am_S} {n : Nat} {ls st : List Value} {M : am_M} {Q : am_Q} (h : am_B L mt_Z_record k_Z_record_83 n 83 ls st M Q) : am_R L mt_Z_record n 83 ls st M Q := am_go L mt_Z_record (fun h => by cases h) k_Z_record_83 n 83 ls st M Q o_Z_record_83 h
def k_Z_undo_0 : List am_I := [(.aload_n 0, 1, 0, 0, 0), (.aload_n 0, 1, 0, 0, 0), (.getfield 58, 3, 4, 4, 731), (.ifCond .ne 7, 3, 0, 0, 0), (.iconst 1, 1, 0, 0, 0), (.goto 4, 3, 0, 0, 0)]
set_option maxRecDepth 20000 in
theorem o_Z_undo_0 : am_okB mt_Z_undo 0 k_Z_undo_0 = true := by decide +kernel
theorem g_Z_undo_0 {L : am_S} {n : Nat} {ls st : List Value} {M : am_M} {Q : am_Q} (h : am_B L mt_Z_undo k_Z_undo_0 n 0 ls st M Q) : am_R L mt_Z_undo n 0 ls st M Q := am_go L mt_Z_undo (fun h => by cases h) k_Z_undo_0 n 0 ls st M Q o_Z_undo_0 h
def k_Z_undo_12 : List am_I := [(.iconst 0, 1, 0, 0, 0)]
set_option maxRecDepth 20000 in
theorem o_Z_undo_12 : am_okB mt_Z_undo 12 k_Z_undo_12 = true := by decide +kernel
theorem g_Z_undo_12 {L : am_S} {n : Nat} {ls st : List Value} {M : am_M} {Q : am_Q} (h : am_B L mt_Z_undo k_Z_undo_12 n 12 ls st M Q) : am_R L mt_Z_undo n 12 ls st M Q := am_go L mt_Z_undo (fun h => by cases h) k_Z_undo_12 n 12 ls st M Q o_Z_undo_12 h
def k_Z_undo_13 : List am_I := [(.putfield 39, 3, 4, 0, 727), (.aload_n 0, 1, 0, 0, 0), (.getfield 39, 3, 4, 0, 727), (.ifCond .le 5, 3, 0, 0, 0), (.iconst 0, 1, 0, 0, 0), (.ireturn, 1, 0, 0, 0)]
set_option maxRecDepth 20000 in
theorem o_Z_undo_13 : am_okB mt_Z_undo 13 k_Z_undo_13 = true := by decide +kernel
theorem g_Z_undo_13 {L : am_S} {n : Nat} {ls st : List Value} {M : am_M} {Q : am_Q} (h : am_B L mt_Z_undo k_Z_undo_13 n 13 ls st M Q) : am_R L mt_Z_undo n 13 ls st M Q := am_go L mt_Z_undo (fun h => by cases h) k_Z_undo_13 n 13 ls st M Q o_Z_undo_13 h
def k_Z_undo_25 : List am_I := [(.aload_n 0, 1, 0, 0, 0), (.dup, 1, 0, 0, 0), (.getfield 58, 3, 4, 4, 731), (.iconst 1, 1, 0, 0, 0), (.isub, 1, 0, 0, 0), (.putfield 58, 3, 4, 4, 731), (.iconst 0, 1, 0, 0, 0), (.istore_n 1, 1, 0, 0, 0)]
set_option maxRecDepth 20000 in
theorem o_Z_undo_25 : am_okB mt_Z_undo 25 k_Z_undo_25 = true := by decide +kernel
theorem g_Z_undo_25 {L : am_S} {n : Nat} {ls st : List Value} {M : am_M} {Q : am_Q} (h : am_B L mt_Z_undo k_Z_undo_25 n 25 ls st M Q) : am_R L mt_Z_undo n 25 ls st M Q := am_go L mt_Z_undo (fun h => by cases h) k_Z_undo_25 n 25 ls st M Q o_Z_undo_25 h
def k_Z_undo_37 : List am_I := [(.iload_n 1, 1, 0, 0, 0), (.bipush 105, 2, 0, 0, 0), (.if_icmp .ge 29, 3, 0, 0, 0), (.aload_n 0, 1, 0, 0, 0), (.getfield 7, 3, 4, 1, 728), (.iload_n 1, 1, 0, 0, 0), (.aload_n 0, 1, 0, 0, 0), (.getfield 16, 3, 4, 3, 730), (.bipush 105, 2, 0, 0, 0), (.aload_n 0, 1, 0, 0, 0), (.getfield 58, 3, 4, 4, 731), (.imul, 1, 0, 0, 0), (.iload_n 1, 1, 0, 0, 0), (.iadd, 1, 0, 0, 0), (.iaload, 1, 0, 0, 0), (.iastore, 1, 0, 0, 0), (.iinc 1 1, 3, 0, 0, 0), (.goto (-29), 3, 0, 0, 0)]
set_option maxRecDepth 20000 in
theorem o_Z_undo_37 : am_okB mt_Z_undo 37 k_Z_undo_37 = true := by decide +kernel
theorem g_Z_undo_37 {L : am_S} {n : Nat} {ls st : List Value} {M : am_M} {Q : am_Q} (h : am_B L mt_Z_undo k_Z_undo_37 n 37 ls st M Q) : am_R L mt_Z_undo n 37 ls st M Q := am_go L mt_Z_undo (fun h => by cases h) k_Z_undo_37 n 37 ls st M Q o_Z_undo_37 h
def k_Z_undo_69 : List am_I := [(.aload_n 0, 1, 0, 0, 0), (.getfield 58, 3, 4, 4, 731), (.ireturn, 1, 0, 0, 0)]
set_option maxRecDepth 20000 in
theorem o_Z_undo_69 : am_okB mt_Z_undo 69 k_Z_undo_69 = true := by decide +kernel
theorem g_Z_undo_69 {L : am_S} {n : Nat} {ls st : List Value} {M : am_M} {Q : am_Q} (h : am_B L mt_Z_undo k_Z_undo_69 n 69 ls st M Q) : am_R L mt_Z_undo n 69 ls st M Q := am_go L mt_Z_undo (fun h => by cases h) k_Z_undo_69 n 69 ls st M Q o_Z_undo_69 h
def k_Z_keep_0 : List am_I := [(.aload_n 0, 1, 0, 0, 0), (.iload_n 1, 1, 0, 0, 0), (.iconst 0, 1, 0, 0, 0), (.iconst 1, 1, 0, 0, 0), (.invokestatic 43, 3, 75, 3, 791), (.ifCond .eq 7, 3, 0, 0, 0), (.iconst 0, 1, 0, 0, 0), (.goto 4, 3, 0, 0, 0)]
set_option maxRecDepth 20000 in
theorem o_Z_keep_0 : am_okB mt_Z_keep 0 k_Z_keep_0 = true := by decide +kernel
theorem g_Z_keep_0 {L : am_S} {n : Nat} {ls st : List Value} {M : am_M} {Q : am_Q} (h : am_B L mt_Z_keep k_Z_keep_0 n 0 ls st M Q) : am_R L mt_Z_keep n 0 ls st M Q := am_go L mt_Z_keep (fun h => by cases h) k_Z_keep_0 n 0 ls st M Q o_Z_keep_0 h
def k_Z_keep_14 : List am_I := [(.iconst 1, 1, 0, 0, 0)]
set_option maxRecDepth 20000 in
theorem o_Z_keep_14 : am_okB mt_Z_keep 14 k_Z_keep_14 = true := by decide +kernel
theorem g_Z_keep_14 {L : am_S} {n : Nat} {ls st : List Value} {M : am_M} {Q : am_Q} (h : am_B L mt_Z_keep k_Z_keep_14 n 14 ls st M Q) : am_R L mt_Z_keep n 14 ls st M Q := am_go L mt_Z_keep (fun h => by cases h) k_Z_keep_14 n 14 ls st M Q o_Z_keep_14 h
def k_Z_keep_15 : List am_I := [(.putfield 39, 3, 4, 0, 727), (.aload_n 0, 1, 0, 0, 0), (.getfield 39, 3, 4, 0, 727), (.ifCond .le 5, 3, 0, 0, 0), (.iconst 0, 1, 0, 0, 0), (.ireturn, 1, 0, 0, 0)]
set_option maxRecDepth 20000 in
theorem o_Z_keep_15 : am_okB mt_Z_keep 15 k_Z_keep_15 = true := by decide +kernel
theorem g_Z_keep_15 {L : am_S} {n : Nat} {ls st : List Value} {M : am_M} {Q : am_Q} (h : am_B L mt_Z_keep k_Z_keep_15 n 15 ls st M Q) : am_R L mt_Z_keep n 15 ls st M Q := am_go L mt_Z_keep (fun h => by cases h) k_Z_keep_15 n 15 ls st M Q o_Z_keep_15 h
def k_Z_keep_27 : List am_I := [(.iconst 0, 1, 0, 0, 0), (.istore_n 2, 1, 0, 0, 0)]
set_option maxRecDepth 20000 in
theorem o_Z_keep_27 : am_okB mt_Z_keep 27 k_Z_keep_27 = true := by decide +kernel
theorem g_Z_keep_27 {L : am_S} {n : Nat} {ls st : List Value} {M : am_M} {Q : am_Q} (h : am_B L mt_Z_keep k_Z_keep_27 n 27 ls st M Q) : am_R L mt_Z_keep n 27 ls st M Q := am_go L mt_Z_keep (fun h => by cases h) k_Z_keep_27 n 27 ls st M Q o_Z_keep_27 h
def k_Z_keep_29 : List am_I := [(.iload_n 2, 1, 0, 0, 0), (.bipush 105, 2, 0, 0, 0), (.if_icmp .ge 26, 3, 0, 0, 0), (.aload_n 0, 1, 0, 0, 0), (.getfield 19, 3, 4, 5, 732), (.bipush 105, 2, 0, 0, 0), (.iload_n 1, 1, 0, 0, 0), (.imul, 1, 0, 0, 0), (.iload_n 2, 1, 0, 0, 0), (.iadd, 1, 0, 0, 0), (.aload_n 0, 1, 0, 0, 0), (.getfield 7, 3, 4, 1, 728), (.iload_n 2, 1, 0, 0, 0), (.iaload, 1, 0, 0, 0), (.iastore, 1, 0, 0, 0), (.iinc 2 1, 3, 0, 0, 0), (.goto (-26), 3, 0, 0, 0)]
set_option maxRecDepth 20000 in
theorem o_Z_keep_29 : am_okB mt_Z_keep 29 k_Z_keep_29 = true := by decide +kernel
theorem g_Z_keep_29 {L : am_S} {n : Nat} {ls st : List Value} {M : am_M} {Q : am_Q} (h : am_B L mt_Z_keep k_Z_keep_29 n 29 ls st M Q) : am_R L mt_Z_keep n 29 ls st M Q := am_go L mt_Z_keep (fun h => by cases h) k_Z_keep_29 n 29 ls st M Q o_Z_keep_29 h
def k_Z_keep_58 : List am_I := [(.aload_n 0, 1, 0, 0, 0), (.getfield 22, 3, 4, 6, 733), (.iload_n 1, 1, 0, 0, 0), (.iconst 1, 1, 0, 0, 0), (.bastore, 1, 0, 0, 0), (.aload_n 0, 1, 0, 0, 0), (.invokevirtual 51, 3, 84, 1, 794), (.ireturn, 1, 0, 0, 0)]
set_option maxRecDepth 20000 in
theorem o_Z_keep_58 : am_okB mt_Z_keep 58 k_Z_keep_58 = true := by decide +kernel
theorem g_Z_keep_58 {L : am_S} {n : Nat} {ls st : List Value} {M : am_M} {Q : am_Q} (h : am_B L mt_Z_keep k_Z_keep_58 n 58 ls st M Q) : am_R L mt_Z_keep n 58 ls st M Q := am_go L mt_Z_keep (fun h => by cases h) k_Z_keep_58 n 58 ls st M Q o_Z_keep_58 h
def k_Z_goBack_0 : List am_I := [(.aload_n 0, 1, 0, 0, 0), (.iload_n 1, 1, 0, 0, 0), (.iconst 0, 1, 0, 0, 0), (.iconst 1, 1, 0, 0, 0), (.invokestatic 43, 3, 75, 3, 791), (.ifCond .ne 7, 3, 0, 0, 0), (.iconst 1, 1, 0, 0, 0), (.goto 17, 3, 0, 0, 0)]
set_option maxRecDepth 20000 in
theorem o_Z_goBack_0 : am_okB mt_Z_goBack 0 k_Z_goBack_0 = true := by decide +kernel
theorem g_Z_goBack_0 {L : am_S} {n : Nat} {ls st : List Value} {M : am_M} {Q : am_Q} (h : am_B L mt_Z_goBack k_Z_goBack_0 n 0 ls st M Q) : am_R L mt_Z_goBack n 0 ls st M Q := am_go L mt_Z_goBack (fun h => by cases h) k_Z_goBack_0 n 0 ls st M Q o_Z_goBack_0 h
def k_Z_goBack_14 : List am_I := [(.aload_n 0, 1, 0, 0, 0), (.getfield 22, 3, 4, 6, 733), (.iload_n 1, 1, 0, 0, 0), (.baload, 1, 0, 0, 0), (.ifCond .eq 7, 3, 0, 0, 0), (.iconst 0, 1, 0, 0, 0), (.goto 4, 3, 0, 0, 0)]
set_option maxRecDepth 20000 in
theorem o_Z_goBack_14 : am_okB mt_Z_goBack 14 k_Z_goBack_14 = true := by decide +kernel
theorem g_Z_goBack_14 {L : am_S} {n : Nat} {ls st : List Value} {M : am_M} {Q : am_Q} (h : am_B L mt_Z_goBack k_Z_goBack_14 n 14 ls st M Q) : am_R L mt_Z_goBack n 14 ls st M Q := am_go L mt_Z_goBack (fun h => by cases h) k_Z_goBack_14 n 14 ls st M Q o_Z_goBack_14 h
def k_Z_goBack_27 : List am_I := [(.iconst 2, 1, 0, 0, 0)]
set_option maxRecDepth 20000 in
theorem o_Z_goBack_27 : am_okB mt_Z_goBack 27 k_Z_goBack_27 = true := by decide +kernel
theorem g_Z_goBack_27 {L : am_S} {n : Nat} {ls st : List Value} {M : am_M} {Q : am_Q} (h : am_B L mt_Z_goBack k_Z_goBack_27 n 27 ls st M Q) : am_R L mt_Z_goBack n 27 ls st M Q := am_go L mt_Z_goBack (fun h => by cases h) k_Z_goBack_27 n 27 ls st M Q o_Z_goBack_27 h
def k_Z_goBack_28 : List am_I := [(.putfield 39, 3, 4, 0, 727), (.aload_n 0, 1, 0, 0, 0), (.getfield 39, 3, 4, 0, 727), (.ifCond .le 5, 3, 0, 0, 0), (.iconst 0, 1, 0, 0, 0), (.ireturn, 1, 0, 0, 0)]
set_option maxRecDepth 20000 in
theorem o_Z_goBack_28 : am_okB mt_Z_goBack 28 k_Z_goBack_28 = true := by decide +kernel
theorem g_Z_goBack_28 {L : am_S} {n : Nat} {ls st : List Value} {M : am_M} {Q : am_Q} (h : am_B L mt_Z_goBack k_Z_goBack_28 n 28 ls st M Q) : am_R L mt_Z_goBack n 28 ls st M Q := am_go L mt_Z_goBack (fun h => by cases h) k_Z_goBack_28 n 28 ls st M Q o_Z_goBack_28 h
def k_Z_goBack_40 : List am_I := [(.aload_n 0, 1, 0, 0, 0), (.invokevirtual 61, 3, 87, 1, 802), (.iconst 0, 1, 0, 0, 0), (.istore_n 2, 1, 0, 0, 0)]
set_option maxRecDepth 20000 in
theorem o_Z_goBack_40 : am_okB mt_Z_goBack 40 k_Z_goBack_40 = true := by decide +kernel
theorem g_Z_goBack_40 {L : am_S} {n : Nat} {ls st : List Value} {M : am_M} {Q : am_Q} (h : am_B L mt_Z_goBack k_Z_goBack_40 n 40 ls st M Q) : am_R L mt_Z_goBack n 40 ls st M Q := am_go L mt_Z_goBack (fun h => by cases h) k_Z_goBack_40 n 40 ls st M Q o_Z_goBack_40 h
def k_Z_goBack_46 : List am_I := [(.iload_n 2, 1, 0, 0, 0), (.bipush 105, 2, 0, 0, 0), (.if_icmp .ge 26, 3, 0, 0, 0), (.aload_n 0, 1, 0, 0, 0), (.getfield 7, 3, 4, 1, 728), (.iload_n 2, 1, 0, 0, 0), (.aload_n 0, 1, 0, 0, 0), (.getfield 19, 3, 4, 5, 732), (.bipush 105, 2, 0, 0, 0), (.iload_n 1, 1, 0, 0, 0), (.imul, 1, 0, 0, 0), (.iload_n 2, 1, 0, 0, 0), (.iadd, 1, 0, 0, 0), (.iaload, 1, 0, 0, 0), (.iastore, 1, 0, 0, 0), (.iinc 2 1, 3, 0, 0, 0), (.goto (-26), 3, 0, 0, 0)]
set_option maxRecDepth 20000 in
theorem o_Z_goBack_46 : am_okB mt_Z_goBack 46 k_Z_goBack_46 = true := by decide +kernel
theorem g_Z_goBack_46 {L : am_S} {n : Nat} {ls st : List Value} {M : am_M} {Q : am_Q} (h : am_B L mt_Z_goBack k_Z_goBack_46 n 46 ls st M Q) : am_R L mt_Z_goBack n 46 ls st M Q := am_go L mt_Z_goBack (fun h => by cases h) k_Z_goBack_46 n 46 ls st M Q o_Z_goBack_46 h
def k_Z_goBack_75 : List am_I := [(.aload_n 0, 1, 0, 0, 0), (.invokevirtual 51, 3, 84, 1, 794), (.ireturn, 1, 0, 0, 0)]
set_option maxRecDepth 20000 in
theorem o_Z_goBack_75 : am_okB mt_Z_goBack 75 k_Z_goBack_75 = true := by decide +kernel
theorem g_Z_goBack_75 {L : am_S} {n : Nat} {ls st : List Value} {M : am_M} {Q : am_Q} (h : am_B L mt_Z_goBack k_Z_goBack_75 n 75 ls st M Q) : am_R L mt_Z_goBack n 75 ls st M Q := am_go L mt_Z_goBack (fun h => by cases h) k_Z_goBack_75 n 75 ls st M Q o_Z_goBack_75 h
def k_Z_putAside_0 : List am_I := [(.iconst 0, 1, 0, 0, 0), (.istore_n 1, 1, 0, 0, 0)]
set_option maxRecDepth 20000 in
theorem o_Z_putAside_0 : am_okB mt_Z_putAside 0 k_Z_putAside_0 = true := by decide +kernel
theorem g_Z_putAside_0 {L : am_S} {n : Nat} {ls st : List Value} {M : am_M} {Q : am_Q} (h : am_B L mt_Z_putAside k_Z_putAside_0 n 0 ls st M Q) : am_R L mt_Z_putAside n 0 ls st M Q := am_go L mt_Z_putAside (fun h => by cases h) k_Z_putAside_0 n 0 ls st M Q o_Z_putAside_0 h
def k_Z_putAside_2 : List am_I := [(.iload_n 1, 1, 0, 0, 0), (.bipush 105, 2, 0, 0, 0), (.if_icmp .ge 21, 3, 0, 0, 0), (.aload_n 0, 1, 0, 0, 0), (.getfield 13, 3, 4, 2, 729), (.iload_n 1, 1, 0, 0, 0), (.aload_n 0, 1, 0, 0, 0), (.getfield 7, 3, 4, 1, 728), (.iload_n 1, 1, 0, 0, 0), (.iaload, 1, 0, 0, 0), (.iastore, 1, 0, 0, 0), (.iinc 1 1, 3, 0, 0, 0), (.goto (-21), 3, 0, 0, 0)]
set_option maxRecDepth 20000 in
theorem o_Z_putAside_2 : am_okB mt_Z_putAside 2 k_Z_putAside_2 = true := by decide +kernel
theorem g_Z_putAside_2 {L : am_S} {n : Nat} {ls st : List Value} {M : am_M} {Q : am_Q} (h : am_B L mt_Z_putAside k_Z_putAside_2 n 2 ls st M Q) : am_R L mt_Z_putAside n 2 ls st M Q := am_go L mt_Z_putAside (fun h => by cases h) k_Z_putAside_2 n 2 ls st M Q o_Z_putAside_2 h
def k_Z_putAside_26 : List am_I := [(.return_, 1, 0, 0, 0)]
set_option maxRecDepth 20000 in
theorem o_Z_putAside_26 : am_okB mt_Z_putAside 26 k_Z_putAside_26 = true := by decide +kernel
theorem g_Z_putAside_26 {L : am_S} {n : Nat} {ls st : List Value} {M : am_M} {Q : am_Q} (h : am_B L mt_Z_putAside k_Z_putAside_26 n 26 ls st M Q) : am_R L mt_Z_putAside n 26 ls st M Q := am_go L mt_Z_putAside (fun h => by cases h) k_Z_putAside_26 n 26 ls st M Q o_Z_putAside_26 h
def k_Z_putBack_0 : List am_I := [(.iconst 0, 1, 0, 0, 0), (.istore_n 1, 1, 0, 0, 0)]
set_option maxRecDepth 20000 in
theorem o_Z_putBack_0 : am_okB mt_Z_putBack 0 k_Z_putBack_0 = true := by decide +kernel
theorem g_Z_putBack_0 {L : am_S} {n : Nat} {ls st : List Value} {M : am_M} {Q : am_Q} (h : am_B L mt_Z_putBack k_Z_putBack_0 n 0 ls st M Q) : am_R L mt_Z_putBack n 0 ls st M Q := am_go L mt_Z_putBack (fun h => by cases h) k_Z_putBack_0 n 0 ls st M Q o_Z_putBack_0 h
def k_Z_putBack_2 : List am_I := [(.iload_n 1, 1, 0, 0, 0), (.bipush 105, 2, 0, 0, 0), (.if_icmp .ge 21, 3, 0, 0, 0), (.aload_n 0, 1, 0, 0, 0), (.getfield 7, 3, 4, 1, 728), (.iload_n 1, 1, 0, 0, 0), (.aload_n 0, 1, 0, 0, 0), (.getfield 13, 3, 4, 2, 729), (.iload_n 1, 1, 0, 0, 0), (.iaload, 1, 0, 0, 0), (.iastore, 1, 0, 0, 0), (.iinc 1 1, 3, 0, 0, 0), (.goto (-21), 3, 0, 0, 0)]
set_option maxRecDepth 20000 in
theorem o_Z_putBack_2 : am_okB mt_Z_putBack 2 k_Z_putBack_2 = true := by decide +kernel
theorem g_Z_putBack_2 {L : am_S} {n : Nat} {ls st : List Value} {M : am_M} {Q : am_Q} (h : am_B L mt_Z_putBack k_Z_putBack_2 n 2 ls st M Q) : am_R L mt_Z_putBack n 2 ls st M Q := am_go L mt_Z_putBack (fun h => by cases h) k_Z_putBack_2 n 2 ls st M Q o_Z_putBack_2 h
def k_Z_putBack_26 : List am_I := [(.return_, 1, 0, 0, 0)]
set_option maxRecDepth 20000 in
theorem o_Z_putBack_26 : am_okB mt_Z_putBack 26 k_Z_putBack_26 = true := by decide +kernel
theorem g_Z_putBack_26 {L : am_S} {n : Nat} {ls st : List Value} {M : am_M} {Q : am_Q} (h : am_B L mt_Z_putBack k_Z_putBack_26 n 26 ls st M Q) : am_R L mt_Z_putBack n 26 ls st M Q := am_go L mt_Z_putBack (fun h => by cases h) k_Z_putBack_26 n 26 ls st M Q o_Z_putBack_26 h
def k_Z_fill_0 : List am_I := [(.aload_n 0, 1, 0, 0, 0), (.iload_n 1, 1, 0, 0, 0), (.invokestatic 64, 3, 81, 1, 810), (.ifCond .ne 7, 3, 0, 0, 0), (.iconst 1, 1, 0, 0, 0), (.goto 19, 3, 0, 0, 0)]
set_option maxRecDepth 20000 in
theorem o_Z_fill_0 : am_okB mt_Z_fill 0 k_Z_fill_0 = true := by decide +kernel
theorem g_Z_fill_0 {L : am_S} {n : Nat} {ls st : List Value} {M : am_M} {Q : am_Q} (h : am_B L mt_Z_fill k_Z_fill_0 n 0 ls st M Q) : am_R L mt_Z_fill n 0 ls st M Q := am_go L mt_Z_fill (fun h => by cases h) k_Z_fill_0 n 0 ls st M Q o_Z_fill_0 h
def k_Z_fill_12 : List am_I := [(.iload_n 2, 1, 0, 0, 0), (.iconst 1, 1, 0, 0, 0), (.sipush 2000, 3, 0, 0, 0), (.invokestatic 43, 3, 75, 3, 791), (.ifCond .eq 7, 3, 0, 0, 0), (.iconst 0, 1, 0, 0, 0), (.goto 4, 3, 0, 0, 0)]
set_option maxRecDepth 20000 in
theorem o_Z_fill_12 : am_okB mt_Z_fill 12 k_Z_fill_12 = true := by decide +kernel
theorem g_Z_fill_12 {L : am_S} {n : Nat} {ls st : List Value} {M : am_M} {Q : am_Q} (h : am_B L mt_Z_fill k_Z_fill_12 n 12 ls st M Q) : am_R L mt_Z_fill n 12 ls st M Q := am_go L mt_Z_fill (fun h => by cases h) k_Z_fill_12 n 12 ls st M Q o_Z_fill_12 h
def k_Z_fill_27 : List am_I := [(.iconst 2, 1, 0, 0, 0)]
set_option maxRecDepth 20000 in
theorem o_Z_fill_27 : am_okB mt_Z_fill 27 k_Z_fill_27 = true := by decide +kernel
theorem g_Z_fill_27 {L : am_S} {n : Nat} {ls st : List Value} {M : am_M} {Q : am_Q} (h : am_B L mt_Z_fill k_Z_fill_27 n 27 ls st M Q) : am_R L mt_Z_fill n 27 ls st M Q := am_go L mt_Z_fill (fun h => by cases h) k_Z_fill_27 n 27 ls st M Q o_Z_fill_27 h
def k_Z_fill_28 : List am_I := [(.putfield 39, 3, 4, 0, 727), (.aload_n 0, 1, 0, 0, 0), (.getfield 39, 3, 4, 0, 727), (.ifCond .le 5, 3, 0, 0, 0), (.iconst 0, 1, 0, 0, 0), (.ireturn, 1, 0, 0, 0)]
set_option maxRecDepth 20000 in
theorem o_Z_fill_28 : am_okB mt_Z_fill 28 k_Z_fill_28 = true := by decide +kernel
theorem g_Z_fill_28 {L : am_S} {n : Nat} {ls st : List Value} {M : am_M} {Q : am_Q} (h : am_B L mt_Z_fill k_Z_fill_28 n 28 ls st M Q) : am_R L mt_Z_fill n 28 ls st M Q := am_go L mt_Z_fill (fun h => by cases h) k_Z_fill_28 n 28 ls st M Q o_Z_fill_28 h
def k_Z_fill_40 : List am_I := [(.aload_n 0, 1, 0, 0, 0), (.invokevirtual 61, 3, 87, 1, 802), (.aload_n 0, 1, 0, 0, 0), (.iload_n 1, 1, 0, 0, 0), (.iconst 1, 1, 0, 0, 0), (.invokevirtual 47, 3, 77, 3, 813), (.iload_n 2, 1, 0, 0, 0), (.iadd, 1, 0, 0, 0), (.aload_n 0, 1, 0, 0, 0), (.iload_n 1, 1, 0, 0, 0), (.iconst 0, 1, 0, 0, 0), (.invokevirtual 47, 3, 77, 3, 813), (.if_icmp .le 15, 3, 0, 0, 0), (.aload_n 0, 1, 0, 0, 0), (.getfield 7, 3, 4, 1, 728), (.iconst 4, 1, 0, 0, 0), (.dup2, 1, 0, 0, 0), (.iaload, 1, 0, 0, 0), (.iconst 1, 1, 0, 0, 0), (.iadd, 1, 0, 0, 0), (.iastore, 1, 0, 0, 0), (.iconst (-1), 1, 0, 0, 0), (.ireturn, 1, 0, 0, 0)]
set_option maxRecDepth 20000 in
theorem o_Z_fill_40 : am_okB mt_Z_fill 40 k_Z_fill_40 = true := by decide +kernel
theorem g_Z_fill_40 {L : am_S} {n : Nat} {ls st : List Value} {M : am_M} {Q : am_Q} (h : am_B L mt_Z_fill k_Z_fill_40 n 40 ls st M Q) : am_R L mt_Z_fill n 40 ls st M Q := am_go L mt_Z_fill (fun h => by cases h) k_Z_fill_40 n 40 ls st M Q o_Z_fill_40 h
def k_Z_fill_73 : List am_I := [(.aload_n 0, 1, 0, 0, 0), (.iload_n 1, 1, 0, 0, 0), (.iconst 1, 1, 0, 0, 0), (.iload_n 2, 1, 0, 0, 0), (.invokevirtual 68, 3, 79, 4, 817), (.aload_n 0, 1, 0, 0, 0), (.getfield 7, 3, 4, 1, 728), (.iconst 3, 1, 0, 0, 0), (.dup2, 1, 0, 0, 0), (.iaload, 1, 0, 0, 0), (.iload_n 2, 1, 0, 0, 0), (.iadd, 1, 0, 0, 0), (.iastore, 1, 0, 0, 0), (.aload_n 0, 1, 0, 0, 0), (.iload_n 1, 1, 0, 0, 0), (.iconst 1, 1, 0, 0, 0), (.invokevirtual 47, 3, 77, 3, 813), (.ireturn, 1, 0, 0, 0)]
set_option maxRecDepth 20000 in
theorem o_Z_fill_73 : am_okB mt_Z_fill 73 k_Z_fill_73 = true := by decide +kernel
theorem g_Z_fill_73 {L : am_S} {n : Nat} {ls st : List Value} {M : am_M} {Q : am_Q} (h : am_B L mt_Z_fill k_Z_fill_73 n 73 ls st M Q) : am_R L mt_Z_fill n 73 ls st M Q := am_go L mt_Z_fill (fun h => by cases h) k_Z_fill_73 n 73 ls st M Q o_Z_fill_73 h
def k_Z_dye_0 : List am_I := [(.aload_n 0, 1, 0, 0, 0), (.iload_n 1, 1, 0, 0, 0), (.invokestatic 64, 3, 81, 1, 810), (.ifCond .eq 10, 3, 0, 0, 0), (.iload_n 2, 1, 0, 0, 0), (.invokestatic 71, 3, 82, 1, 825), (.ifCond .ne 7, 3, 0, 0, 0)]
set_option maxRecDepth 20000 in
theorem o_Z_dye_0 : am_okB mt_Z_dye 0 k_Z_dye_0 = true := by decide +kernel
theorem g_Z_dye_0 {L : am_S} {n : Nat} {ls st : List Value} {M : am_M} {Q : am_Q} (h : am_B L mt_Z_dye k_Z_dye_0 n 0 ls st M Q) : am_R L mt_Z_dye n 0 ls st M Q := am_go L mt_Z_dye (fun h => by cases h) k_Z_dye_0 n 0 ls st M Q o_Z_dye_0 h
def k_Z_dye_15 : List am_I := [(.iconst 1, 1, 0, 0, 0), (.goto 39, 3, 0, 0, 0)]
set_option maxRecDepth 20000 in
theorem o_Z_dye_15 : am_okB mt_Z_dye 15 k_Z_dye_15 = true := by decide +kernel
theorem g_Z_dye_15 {L : am_S} {n : Nat} {ls st : List Value} {M : am_M} {Q : am_Q} (h : am_B L mt_Z_dye k_Z_dye_15 n 15 ls st M Q) : am_R L mt_Z_dye n 15 ls st M Q := am_go L mt_Z_dye (fun h => by cases h) k_Z_dye_15 n 15 ls st M Q o_Z_dye_15 h
def k_Z_dye_19 : List am_I := [(.iload_n 3, 1, 0, 0, 0), (.iconst 1, 1, 0, 0, 0), (.sipush 999, 3, 0, 0, 0), (.invokestatic 43, 3, 75, 3, 791), (.ifCond .ne 7, 3, 0, 0, 0), (.iconst 2, 1, 0, 0, 0), (.goto 24, 3, 0, 0, 0)]
set_option maxRecDepth 20000 in
theorem o_Z_dye_19 : am_okB mt_Z_dye 19 k_Z_dye_19 = true := by decide +kernel
theorem g_Z_dye_19 {L : am_S} {n : Nat} {ls st : List Value} {M : am_M} {Q : am_Q} (h : am_B L mt_Z_dye k_Z_dye_19 n 19 ls st M Q) : am_R L mt_Z_dye n 19 ls st M Q := am_go L mt_Z_dye (fun h => by cases h) k_Z_dye_19 n 19 ls st M Q o_Z_dye_19 h
def k_Z_dye_34 : List am_I := [(.aload_n 0, 1, 0, 0, 0), (.getfield 7, 3, 4, 1, 728), (.bipush 11, 2, 0, 0, 0), (.iload_n 2, 1, 0, 0, 0), (.iadd, 1, 0, 0, 0), (.iaload, 1, 0, 0, 0), (.iload_n 3, 1, 0, 0, 0), (.iadd, 1, 0, 0, 0), (.ldc 74, 2, 99999, 0, 828), (.if_icmp .le 7, 3, 0, 0, 0), (.iconst 3, 1, 0, 0, 0), (.goto 4, 3, 0, 0, 0)]
set_option maxRecDepth 20000 in
theorem o_Z_dye_34 : am_okB mt_Z_dye 34 k_Z_dye_34 = true := by decide +kernel
theorem g_Z_dye_34 {L : am_S} {n : Nat} {ls st : List Value} {M : am_M} {Q : am_Q} (h : am_B L mt_Z_dye k_Z_dye_34 n 34 ls st M Q) : am_R L mt_Z_dye n 34 ls st M Q := am_go L mt_Z_dye (fun h => by cases h) k_Z_dye_34 n 34 ls st M Q o_Z_dye_34 h
def k_Z_dye_54 : List am_I := [(.iconst 0, 1, 0, 0, 0)]
set_option maxRecDepth 20000 in
theorem o_Z_dye_54 : am_okB mt_Z_dye 54 k_Z_dye_54 = true := by decide +kernel
theorem g_Z_dye_54 {L : am_S} {n : Nat} {ls st : List Value} {M : am_M} {Q : am_Q} (h : am_B L mt_Z_dye k_Z_dye_54 n 54 ls st M Q) : am_R L mt_Z_dye n 54 ls st M Q := am_go L mt_Z_dye (fun h => by cases h) k_Z_dye_54 n 54 ls st M Q o_Z_dye_54 h
def k_Z_dye_55 : List am_I := [(.putfield 39, 3, 4, 0, 727), (.aload_n 0, 1, 0, 0, 0), (.getfield 39, 3, 4, 0, 727), (.ifCond .le 5, 3, 0, 0, 0), (.iconst 0, 1, 0, 0, 0), (.ireturn, 1, 0, 0, 0)]
set_option maxRecDepth 20000 in
theorem o_Z_dye_55 : am_okB mt_Z_dye 55 k_Z_dye_55 = true := by decide +kernel
theorem g_Z_dye_55 {L : am_S} {n : Nat} {ls st : List Value} {M : am_M} {Q : am_Q} (h : am_B L mt_Z_dye k_Z_dye_55 n 55 ls st M Q) : am_R L mt_Z_dye n 55 ls st M Q := am_go L mt_Z_dye (fun h => by cases h) k_Z_dye_55 n 55 ls st M Q o_Z_dye_55 h
def k_Z_dye_67 : List am_I := [(.aload_n 0, 1, 0, 0, 0), (.invokevirtual 61, 3, 87, 1, 802), (.aload_n 0, 1, 0, 0, 0), (.iload_n 1, 1, 0, 0, 0), (.iconst 1, 1, 0, 0, 0), (.invokevirtual 47, 3, 77, 3, 813), (.ifCond .ne 15, 3, 0, 0, 0), (.aload_n 0, 1, 0, 0, 0), (.getfield 7, 3, 4, 1, 728), (.iconst 4, 1, 0, 0, 0), (.dup2, 1, 0, 0, 0), (.iaload, 1, 0, 0, 0), (.iconst 1, 1, 0, 0, 0), (.iadd, 1, 0, 0, 0), (.iastore, 1, 0, 0, 0), (.iconst (-1), 1, 0, 0, 0), (.ireturn, 1, 0, 0, 0)]
set_option maxRecDepth 20000 in
theorem o_Z_dye_67 : am_okB mt_Z_dye 67 k_Z_dye_67 = true := by decide +kernel
theorem g_Z_dye_67 {L : am_S} {n : Nat} {ls st : List Value} {M : am_M} {Q : am_Q} (h : am_B L mt_Z_dye k_Z_dye_67 n 67 ls st M Q) : am_R L mt_Z_dye n 67 ls st M Q := am_go L mt_Z_dye (fun h => by cases h) k_Z_dye_67 n 67 ls st M Q o_Z_dye_67 h
def k_Z_dye_92 : List am_I := [(.aload_n 0, 1, 0, 0, 0), (.iload_n 1, 1, 0, 0, 0), (.iconst 2, 1, 0, 0, 0), (.iload_n 2, 1, 0, 0, 0), (.iadd, 1, 0, 0, 0), (.iload_n 3, 1, 0, 0, 0), (.invokevirtual 68, 3, 79, 4, 817), (.aload_n 0, 1, 0, 0, 0), (.getfield 7, 3, 4, 1, 728), (.bipush 11, 2, 0, 0, 0), (.iload_n 2, 1, 0, 0, 0), (.iadd, 1, 0, 0, 0), (.dup2, 1, 0, 0, 0), (.iaload, 1, 0, 0, 0), (.iload_n 3, 1, 0, 0, 0), (.iadd, 1, 0, 0, 0), (.iastore, 1, 0, 0, 0), (.aload_n 0, 1, 0, 0, 0), (.iload_n 1, 1, 0, 0, 0), (.iconst 2, 1, 0, 0, 0), (.iload_n 2, 1, 0, 0, 0), (.iadd, 1, 0, 0, 0), (.invokevirtual 47, 3, 77, 3, 813), (.ireturn, 1, 0, 0, 0)]
set_option maxRecDepth 20000 in
theorem o_Z_dye_92 : am_okB mt_Z_dye 92 k_Z_dye_92 = true := by decide +kernel
theorem g_Z_dye_92 {L : am_S} {n : Nat} {ls st : List Value} {M : am_M} {Q : am_Q} (h : am_B L mt_Z_dye k_Z_dye_92 n 92 ls st M Q) : am_R L mt_Z_dye n 92 ls st M Q := am_go L mt_Z_dye (fun h => by cases h) k_Z_dye_92 n 92 ls st M Q o_Z_dye_92 h
def k_Z_stir_0 : List am_I := [(.aload_n 0, 1, 0, 0, 0), (.iload_n 1, 1, 0, 0, 0), (.invokestatic 64, 3, 81, 1, 810), (.ifCond .eq 7, 3, 0, 0, 0), (.iconst 0, 1, 0, 0, 0), (.goto 4, 3, 0, 0, 0)]
set_option maxRecDepth 20000 in
theorem o_Z_stir_0 : am_okB mt_Z_stir 0 k_Z_stir_0 = true := by decide +kernel
theorem g_Z_stir_0 {L : am_S} {n : Nat} {ls st : List Value} {M : am_M} {Q : am_Q} (h : am_B L mt_Z_stir k_Z_stir_0 n 0 ls st M Q) : am_R L mt_Z_stir n 0 ls st M Q := am_go L mt_Z_stir (fun h => by cases h) k_Z_stir_0 n 0 ls st M Q o_Z_stir_0 h
def k_Z_stir_12 : List am_I := [(.iconst 1, 1, 0, 0, 0)]
set_option maxRecDepth 20000 in
theorem o_Z_stir_12 : am_okB mt_Z_stir 12 k_Z_stir_12 = true := by decide +kernel
theorem g_Z_stir_12 {L : am_S} {n : Nat} {ls st : List Value} {M : am_M} {Q : am_Q} (h : am_B L mt_Z_stir k_Z_stir_12 n 12 ls st M Q) : am_R L mt_Z_stir n 12 ls st M Q := am_go L mt_Z_stir (fun h => by cases h) k_Z_stir_12 n 12 ls st M Q o_Z_stir_12 h
def k_Z_stir_13 : List am_I := [(.putfield 39, 3, 4, 0, 727), (.aload_n 0, 1, 0, 0, 0), (.getfield 39, 3, 4, 0, 727), (.ifCond .le 5, 3, 0, 0, 0), (.iconst 0, 1, 0, 0, 0), (.ireturn, 1, 0, 0, 0)]
set_option maxRecDepth 20000 in
theorem o_Z_stir_13 : am_okB mt_Z_stir 13 k_Z_stir_13 = true := by decide +kernel
theorem g_Z_stir_13 {L : am_S} {n : Nat} {ls st : List Value} {M : am_M} {Q : am_Q} (h : am_B L mt_Z_stir k_Z_stir_13 n 13 ls st M Q) : am_R L mt_Z_stir n 13 ls st M Q := am_go L mt_Z_stir (fun h => by cases h) k_Z_stir_13 n 13 ls st M Q o_Z_stir_13 h
def k_Z_stir_25 : List am_I := [(.aload_n 0, 1, 0, 0, 0), (.invokevirtual 61, 3, 87, 1, 802), (.iconst 0, 1, 0, 0, 0), (.istore_n 2, 1, 0, 0, 0), (.iconst 0, 1, 0, 0, 0), (.istore_n 3, 1, 0, 0, 0)]
set_option maxRecDepth 20000 in
theorem o_Z_stir_25 : am_okB mt_Z_stir 25 k_Z_stir_25 = true := by decide +kernel
theorem g_Z_stir_25 {L : am_S} {n : Nat} {ls st : List Value} {M : am_M} {Q : am_Q} (h : am_B L mt_Z_stir k_Z_stir_25 n 25 ls st M Q) : am_R L mt_Z_stir n 25 ls st M Q := am_go L mt_Z_stir (fun h => by cases h) k_Z_stir_25 n 25 ls st M Q o_Z_stir_25 h
def k_Z_stir_33 : List am_I := [(.iload_n 3, 1, 0, 0, 0), (.iconst 3, 1, 0, 0, 0), (.if_icmp .ge 67, 3, 0, 0, 0), (.aload_n 0, 1, 0, 0, 0), (.iload_n 1, 1, 0, 0, 0), (.iconst 5, 1, 0, 0, 0), (.iload_n 3, 1, 0, 0, 0), (.iadd, 1, 0, 0, 0), (.invokevirtual 47, 3, 77, 3, 813), (.aload_n 0, 1, 0, 0, 0), (.iload_n 1, 1, 0, 0, 0), (.invokevirtual 75, 3, 85, 2, 833), (.aload_n 0, 1, 0, 0, 0), (.iload_n 1, 1, 0, 0, 0), (.iconst 2, 1, 0, 0, 0), (.iload_n 3, 1, 0, 0, 0), (.iadd, 1, 0, 0, 0), (.invokevirtual 47, 3, 77, 3, 813), (.isub, 1, 0, 0, 0), (.invokestatic 79, 3, 76, 2, 837), (.istore 4, 2, 0, 0, 0), (.iload 4, 2, 0, 0, 0), (.ifCond .le 29, 3, 0, 0, 0), (.aload_n 0, 1, 0, 0, 0), (.iload_n 1, 1, 0, 0, 0), (.iconst 5, 1, 0, 0, 0), (.iload_n 3, 1, 0, 0, 0), (.iadd, 1, 0, 0, 0), (.iload 4, 2, 0, 0, 0), (.ineg, 1, 0, 0, 0), (.invokevirtual 68, 3, 79, 4, 817), (.aload_n 0, 1, 0, 0, 0), (.iload_n 1, 1, 0, 0, 0), (.iconst 2, 1, 0, 0, 0), (.iload_n 3, 1, 0, 0, 0), (.iadd, 1, 0, 0, 0), (.iload 4, 2, 0, 0, 0), (.invokevirtual 68, 3, 79, 4, 817), (.iload_n 2, 1, 0, 0, 0), (.iload 4, 2, 0, 0, 0), (.iadd, 1, 0, 0, 0), (.istore_n 2, 1, 0, 0, 0)]
set_option maxRecDepth 20000 in
theorem o_Z_stir_33 : am_okB mt_Z_stir 33 k_Z_stir_33 = true := by decide +kernel
theorem g_Z_stir_33 {L : am_S} {n : Nat} {ls st : List Value} {M : am_M} {Q : am_Q} (h : am_B L mt_Z_stir k_Z_stir_33 n 33 ls st M Q) : am_R L mt_Z_stir n 33 ls st M Q := am_go L mt_Z_stir (fun h => by cases h) k_Z_stir_33 n 33 ls st M Q o_Z_stir_33 h
def k_Z_stir_96 : List am_I := [(.iinc 3 1, 3, 0, 0, 0), (.goto (-66), 3, 0, 0, 0)]
set_option maxRecDepth 20000 in
theorem o_Z_stir_96 : am_okB mt_Z_stir 96 k_Z_stir_96 = true := by decide +kernel
theorem g_Z_stir_96 {L : am_S} {n : Nat} {ls st : List Value} {M : am_M} {Q : am_Q} (h : am_B L mt_Z_stir k_Z_stir_96 n 96 ls st M Q) : am_R L mt_Z_stir n 96 ls st M Q := am_go L mt_Z_stir (fun h => by cases h) k_Z_stir_96 n 96 ls st M Q o_Z_stir_96 h
def k_Z_stir_102 : List am_I := [(.iload_n 2, 1, 0, 0, 0), (.ireturn, 1, 0, 0, 0)]
set_option maxRecDepth 20000 in
theorem o_Z_stir_102 : am_okB mt_Z_stir 102 k_Z_stir_102 = true := by decide +kernel
theorem g_Z_stir_102 {L : am_S} {n : Nat} {ls st : List Value} {M : am_M} {Q : am_Q} (h : am_B L mt_Z_stir k_Z_stir_102 n 102 ls st M Q) : am_R L mt_Z_stir n 102 ls st M Q := am_go L mt_Z_stir (fun h => by cases h) k_Z_stir_102 n 102 ls st M Q o_Z_stir_102 h
def k_Z_capacity_0 : List am_I := [(.aload_n 0, 1, 0, 0, 0), (.iload_n 1, 1, 0, 0, 0), (.invokestatic 64, 3, 81, 1, 810), (.ifCond .ne 7, 3, 0, 0, 0), (.iconst 1, 1, 0, 0, 0), (.goto 19, 3, 0, 0, 0)]
set_option maxRecDepth 20000 in
theorem o_Z_capacity_0 : am_okB mt_Z_capacity 0 k_Z_capacity_0 = true := by decide +kernel
theorem g_Z_capacity_0 {L : am_S} {n : Nat} {ls st : List Value} {M : am_M} {Q : am_Q} (h : am_B L mt_Z_capacity k_Z_capacity_0 n 0 ls st M Q) : am_R L mt_Z_capacity n 0 ls st M Q := am_go L mt_Z_capacity (fun h => by cases h) k_Z_capacity_0 n 0 ls st M Q o_Z_capacity_0 h
def k_Z_capacity_12 : List am_I := [(.iload_n 2, 1, 0, 0, 0), (.iconst 1, 1, 0, 0, 0), (.sipush 2000, 3, 0, 0, 0), (.invokestatic 43, 3, 75, 3, 791), (.ifCond .eq 7, 3, 0, 0, 0), (.iconst 0, 1, 0, 0, 0), (.goto 4, 3, 0, 0, 0)]
set_option maxRecDepth 20000 in
theorem o_Z_capacity_12 : am_okB mt_Z_capacity 12 k_Z_capacity_12 = true := by decide +kernel
theorem g_Z_capacity_12 {L : am_S} {n : Nat} {ls st : List Value} {M : am_M} {Q : am_Q} (h : am_B L mt_Z_capacity k_Z_capacity_12 n 12 ls st M Q) : am_R L mt_Z_capacity n 12 ls st M Q := am_go L mt_Z_capacity (fun h => by cases h) k_Z_capacity_12 n 12 ls st M Q o_Z_capacity_12 h
def k_Z_capacity_27 : List am_I := [(.iconst 2, 1, 0, 0, 0)]
set_option maxRecDepth 20000 in
theorem o_Z_capacity_27 : am_okB mt_Z_capacity 27 k_Z_capacity_27 = true := by decide +kernel
theorem g_Z_capacity_27 {L : am_S} {n : Nat} {ls st : List Value} {M : am_M} {Q : am_Q} (h : am_B L mt_Z_capacity k_Z_capacity_27 n 27 ls st M Q) : am_R L mt_Z_capacity n 27 ls st M Q := am_go L mt_Z_capacity (fun h => by cases h) k_Z_capacity_27 n 27 ls st M Q o_Z_capacity_27 h
def k_Z_capacity_28 : List am_I := [(.putfield 39, 3, 4, 0, 727), (.aload_n 0, 1, 0, 0, 0), (.getfield 39, 3, 4, 0, 727), (.ifCond .le 5, 3, 0, 0, 0), (.iconst 0, 1, 0, 0, 0), (.ireturn, 1, 0, 0, 0)]
set_option maxRecDepth 20000 in
theorem o_Z_capacity_28 : am_okB mt_Z_capacity 28 k_Z_capacity_28 = true := by decide +kernel
theorem g_Z_capacity_28 {L : am_S} {n : Nat} {ls st : List Value} {M : am_M} {Q : am_Q} (h : am_B L mt_Z_capacity k_Z_capacity_28 n 28 ls st M Q) : am_R L mt_Z_capacity n 28 ls st M Q := am_go L mt_Z_capacity (fun h => by cases h) k_Z_capacity_28 n 28 ls st M Q o_Z_capacity_28 h
def k_Z_capacity_40 : List am_I := [(.aload_n 0, 1, 0, 0, 0), (.invokevirtual 61, 3, 87, 1, 802), (.aload_n 0, 1, 0, 0, 0), (.iload_n 1, 1, 0, 0, 0), (.iconst 1, 1, 0, 0, 0), (.invokevirtual 47, 3, 77, 3, 813), (.iload_n 2, 1, 0, 0, 0), (.if_icmp .le 15, 3, 0, 0, 0), (.aload_n 0, 1, 0, 0, 0), (.getfield 7, 3, 4, 1, 728), (.iconst 4, 1, 0, 0, 0), (.dup2, 1, 0, 0, 0), (.iaload, 1, 0, 0, 0), (.iconst 1, 1, 0, 0, 0), (.iadd, 1, 0, 0, 0), (.iastore, 1, 0, 0, 0), (.iconst (-1), 1, 0, 0, 0), (.ireturn, 1, 0, 0, 0)]
set_option maxRecDepth 20000 in
theorem o_Z_capacity_40 : am_okB mt_Z_capacity 40 k_Z_capacity_40 = true := by decide +kernel
theorem g_Z_capacity_40 {L : am_S} {n : Nat} {ls st : List Value} {M : am_M} {Q : am_Q} (h : am_B L mt_Z_capacity k_Z_capacity_40 n 40 ls st M Q) : am_R L mt_Z_capacity n 40 ls st M Q := am_go L mt_Z_capacity (fun h => by cases h) k_Z_capacity_40 n 40 ls st M Q o_Z_capacity_40 h
def k_Z_capacity_66 : List am_I := [(.aload_n 0, 1, 0, 0, 0), (.iload_n 1, 1, 0, 0, 0), (.iconst 0, 1, 0, 0, 0), (.invokevirtual 47, 3, 77, 3, 813), (.istore_n 3, 1, 0, 0, 0), (.aload_n 0, 1, 0, 0, 0), (.iload_n 1, 1, 0, 0, 0), (.iconst 0, 1, 0, 0, 0), (.iload_n 2, 1, 0, 0, 0), (.invokevirtual 35, 3, 78, 4, 723), (.iload_n 3, 1, 0, 0, 0), (.ireturn, 1, 0, 0, 0)]
set_option maxRecDepth 20000 in
theorem o_Z_capacity_66 : am_okB mt_Z_capacity 66 k_Z_capacity_66 = true := by decide +kernel
theorem g_Z_capacity_66 {L : am_S} {n : Nat} {ls st : List Value} {M : am_M} {Q : am_Q} (h : am_B L mt_Z_capacity k_Z_capacity_66 n 66 ls st M Q) : am_R L mt_Z_capacity n 66 ls st M Q := am_go L mt_Z_capacity (fun h => by cases h) k_Z_capacity_66 n 66 ls st M Q o_Z_capacity_66 h
def k_Z_putValve_0 : List am_I := [(.bipush 57, 2, 0, 0, 0), (.bipush 6, 2, 0, 0, 0), (.aload_n 0, 1, 0, 0, 0), (.getfield 7, 3, 4, 1, 728), (.iconst 5, 1, 0, 0, 0), (.iaload, 1, 0, 0, 0), (.imul, 1, 0, 0, 0), (.iadd, 1, 0, 0, 0), (.istore 6, 2, 0, 0, 0), (.aload_n 0, 1, 0, 0, 0), (.getfield 7, 3, 4, 1, 728), (.iload 6, 2, 0, 0, 0), (.iconst 0, 1, 0, 0, 0), (.iadd, 1, 0, 0, 0), (.iload_n 1, 1, 0, 0, 0), (.iastore, 1, 0, 0, 0), (.aload_n 0, 1, 0, 0, 0), (.getfield 7, 3, 4, 1, 728), (.iload 6, 2, 0, 0, 0), (.iconst 1, 1, 0, 0, 0), (.iadd, 1, 0, 0, 0), (.iload_n 2, 1, 0, 0, 0), (.iastore, 1, 0, 0, 0), (.aload_n 0, 1, 0, 0, 0), (.getfield 7, 3, 4, 1, 728), (.iload 6, 2, 0, 0, 0), (.iconst 2, 1, 0, 0, 0), (.iadd, 1, 0, 0, 0), (.iload_n 3, 1, 0, 0, 0), (.iastore, 1, 0, 0, 0), (.aload_n 0, 1, 0, 0, 0), (.getfield 7, 3, 4, 1, 728), (.iload 6, 2, 0, 0, 0), (.iconst 3, 1, 0, 0, 0), (.iadd, 1, 0, 0, 0), (.iload 4, 2, 0, 0, 0), (.iastore, 1, 0, 0, 0), (.aload_n 0, 1, 0, 0, 0), (.getfield 7, 3, 4, 1, 728), (.iload 6, 2, 0, 0, 0), (.iconst 4, 1, 0, 0, 0), (.iadd, 1, 0, 0, 0), (.iload 5, 2, 0, 0, 0), (.iastore, 1, 0, 0, 0), (.aload_n 0, 1, 0, 0, 0), (.getfield 7, 3, 4, 1, 728), (.iload 6, 2, 0, 0, 0), (.iconst 5, 1, 0, 0, 0), (.iadd, 1, 0, 0, 0), (.iconst 0, 1, 0, 0, 0), (.iastore, 1, 0, 0, 0), (.aload_n 0, 1, 0, 0, 0), (.getfield 7, 3, 4, 1, 728), (.iconst 5, 1, 0, 0, 0), (.dup2, 1, 0, 0, 0), (.iaload, 1, 0, 0, 0), (.iconst 1, 1, 0, 0, 0), (.iadd, 1, 0, 0, 0), (.iastore, 1, 0, 0, 0), (.return_, 1, 0, 0, 0)]
set_option maxRecDepth 20000 in
theorem o_Z_putValve_0 : am_okB mt_Z_putValve 0 k_Z_putValve_0 = true := by decide +kernel
theorem g_Z_putValve_0 {L : am_S} {n : Nat} {ls st : List Value} {M : am_M} {Q : am_Q} (h : am_B L mt_Z_putValve k_Z_putValve_0 n 0 ls st M Q) : am_R L mt_Z_putValve n 0 ls st M Q := am_go L mt_Z_putValve (fun h => by cases h) k_Z_putValve_0 n 0 ls st M Q o_Z_putValve_0 h
def k_Z_valve_0 : List am_I := [(.iload_n 1, 1, 0, 0, 0), (.iload_n 2, 1, 0, 0, 0), (.if_icmp .eq 41, 3, 0, 0, 0), (.iload_n 3, 1, 0, 0, 0), (.iconst 1, 1, 0, 0, 0), (.sipush 500, 3, 0, 0, 0), (.invokestatic 43, 3, 75, 3, 791), (.ifCond .eq 30, 3, 0, 0, 0), (.iload 4, 2, 0, 0, 0), (.iconst 0, 1, 0, 0, 0), (.bipush 23, 2, 0, 0, 0), (.invokestatic 43, 3, 75, 3, 791), (.ifCond .eq 19, 3, 0, 0, 0), (.iload 5, 2, 0, 0, 0), (.iload 4, 2, 0, 0, 0), (.bipush 23, 2, 0, 0, 0), (.invokestatic 43, 3, 75, 3, 791), (.ifCond .eq 7, 3, 0, 0, 0), (.iconst 1, 1, 0, 0, 0), (.goto 4, 3, 0, 0, 0)]
set_option maxRecDepth 20000 in
theorem o_Z_valve_0 : am_okB mt_Z_valve 0 k_Z_valve_0 = true := by decide +kernel
theorem g_Z_valve_0 {L : am_S} {n : Nat} {ls st : List Value} {M : am_M} {Q : am_Q} (h : am_B L mt_Z_valve k_Z_valve_0 n 0 ls st M Q) : am_R L mt_Z_valve n 0 ls st M Q := am_go L mt_Z_valve (fun h => by cases h) k_Z_valve_0 n 0 ls st M Q o_Z_valve_0 h
def k_Z_valve_43 : List am_I := [(.iconst 0, 1, 0, 0, 0)]
set_option maxRecDepth 20000 in
theorem o_Z_valve_43 : am_okB mt_Z_valve 43 k_Z_valve_43 = true := by decide +kernel
theorem g_Z_valve_43 {L : am_S} {n : Nat} {ls st : List Value} {M : am_M} {Q : am_Q} (h : am_B L mt_Z_valve k_Z_valve_43 n 43 ls st M Q) : am_R L mt_Z_valve n 43 ls st M Q := am_go L mt_Z_valve (fun h => by cases h) k_Z_valve_43 n 43 ls st M Q o_Z_valve_43 h
def k_Z_valve_44 : List am_I := [(.istore 6, 2, 0, 0, 0), (.aload_n 0, 1, 0, 0, 0), (.iload_n 1, 1, 0, 0, 0), (.invokestatic 64, 3, 81, 1, 810), (.ifCond .eq 12, 3, 0, 0, 0), (.iload_n 2, 1, 0, 0, 0), (.iconst 0, 1, 0, 0, 0), (.iconst 5, 1, 0, 0, 0), (.invokestatic 43, 3, 75, 3, 791), (.ifCond .ne 7, 3, 0, 0, 0)]
set_option maxRecDepth 20000 in
theorem o_Z_valve_44 : am_okB mt_Z_valve 44 k_Z_valve_44 = true := by decide +kernel
theorem g_Z_valve_44 {L : am_S} {n : Nat} {ls st : List Value} {M : am_M} {Q : am_Q} (h : am_B L mt_Z_valve k_Z_valve_44 n 44 ls st M Q) : am_R L mt_Z_valve n 44 ls st M Q := am_go L mt_Z_valve (fun h => by cases h) k_Z_valve_44 n 44 ls st M Q o_Z_valve_44 h
def k_Z_valve_63 : List am_I := [(.iconst 1, 1, 0, 0, 0), (.goto 28, 3, 0, 0, 0)]
set_option maxRecDepth 20000 in
theorem o_Z_valve_63 : am_okB mt_Z_valve 63 k_Z_valve_63 = true := by decide +kernel
theorem g_Z_valve_63 {L : am_S} {n : Nat} {ls st : List Value} {M : am_M} {Q : am_Q} (h : am_B L mt_Z_valve k_Z_valve_63 n 63 ls st M Q) : am_R L mt_Z_valve n 63 ls st M Q := am_go L mt_Z_valve (fun h => by cases h) k_Z_valve_63 n 63 ls st M Q o_Z_valve_63 h
def k_Z_valve_67 : List am_I := [(.iload 6, 2, 0, 0, 0), (.ifCond .ne 7, 3, 0, 0, 0), (.iconst 2, 1, 0, 0, 0), (.goto 19, 3, 0, 0, 0)]
set_option maxRecDepth 20000 in
theorem o_Z_valve_67 : am_okB mt_Z_valve 67 k_Z_valve_67 = true := by decide +kernel
theorem g_Z_valve_67 {L : am_S} {n : Nat} {ls st : List Value} {M : am_M} {Q : am_Q} (h : am_B L mt_Z_valve k_Z_valve_67 n 67 ls st M Q) : am_R L mt_Z_valve n 67 ls st M Q := am_go L mt_Z_valve (fun h => by cases h) k_Z_valve_67 n 67 ls st M Q o_Z_valve_67 h
def k_Z_valve_76 : List am_I := [(.aload_n 0, 1, 0, 0, 0), (.getfield 7, 3, 4, 1, 728), (.iconst 5, 1, 0, 0, 0), (.iaload, 1, 0, 0, 0), (.bipush 8, 2, 0, 0, 0), (.if_icmp .ne 7, 3, 0, 0, 0), (.iconst 3, 1, 0, 0, 0), (.goto 4, 3, 0, 0, 0)]
set_option maxRecDepth 20000 in
theorem o_Z_valve_76 : am_okB mt_Z_valve 76 k_Z_valve_76 = true := by decide +kernel
theorem g_Z_valve_76 {L : am_S} {n : Nat} {ls st : List Value} {M : am_M} {Q : am_Q} (h : am_B L mt_Z_valve k_Z_valve_76 n 76 ls st M Q) : am_R L mt_Z_valve n 76 ls st M Q := am_go L mt_Z_valve (fun h => by cases h) k_Z_valve_76 n 76 ls st M Q o_Z_valve_76 h
def k_Z_valve_91 : List am_I := [(.iconst 0, 1, 0, 0, 0)]
set_option maxRecDepth 20000 in
theorem o_Z_valve_91 : am_okB mt_Z_valve 91 k_Z_valve_91 = true := by decide +kernel
theorem g_Z_valve_91 {L : am_S} {n : Nat} {ls st : List Value} {M : am_M} {Q : am_Q} (h : am_B L mt_Z_valve k_Z_valve_91 n 91 ls st M Q) : am_R L mt_Z_valve n 91 ls st M Q := am_go L mt_Z_valve (fun h => by cases h) k_Z_valve_91 n 91 ls st M Q o_Z_valve_91 h
def k_Z_valve_92 : List am_I := [(.putfield 39, 3, 4, 0, 727), (.aload_n 0, 1, 0, 0, 0), (.getfield 39, 3, 4, 0, 727), (.ifCond .le 5, 3, 0, 0, 0), (.iconst 0, 1, 0, 0, 0), (.ireturn, 1, 0, 0, 0)]
set_option maxRecDepth 20000 in
theorem o_Z_valve_92 : am_okB mt_Z_valve 92 k_Z_valve_92 = true := by decide +kernel
theorem g_Z_valve_92 {L : am_S} {n : Nat} {ls st : List Value} {M : am_M} {Q : am_Q} (h : am_B L mt_Z_valve k_Z_valve_92 n 92 ls st M Q) : am_R L mt_Z_valve n 92 ls st M Q := am_go L mt_Z_valve (fun h => by cases h) k_Z_valve_92 n 92 ls st M Q o_Z_valve_92 h
def k_Z_valve_104 : List am_I := [(.aload_n 0, 1, 0, 0, 0), (.invokevirtual 61, 3, 87, 1, 802), (.aload_n 0, 1, 0, 0, 0), (.iload_n 1, 1, 0, 0, 0), (.iload_n 2, 1, 0, 0, 0), (.iload_n 3, 1, 0, 0, 0), (.iload 4, 2, 0, 0, 0), (.iload 5, 2, 0, 0, 0), (.invokevirtual 82, 3, 97, 6, 848), (.aload_n 0, 1, 0, 0, 0), (.getfield 7, 3, 4, 1, 728), (.iconst 5, 1, 0, 0, 0), (.iaload, 1, 0, 0, 0), (.iconst 1, 1, 0, 0, 0), (.isub, 1, 0, 0, 0), (.ireturn, 1, 0, 0, 0)]
set_option maxRecDepth 20000 in
theorem o_Z_valve_104 : am_okB mt_Z_valve 104 k_Z_valve_104 = true := by decide +kernel
theorem g_Z_valve_104 {L : am_S} {n : Nat} {ls st : List Value} {M : am_M} {Q : am_Q} (h : am_B L mt_Z_valve k_Z_valve_104 n 104 ls st M Q) : am_R L mt_Z_valve n 104 ls st M Q := am_go L mt_Z_valve (fun h => by cases h) k_Z_valve_104 n 104 ls st M Q o_Z_valve_104 h
def k_Z_dropValve_0 : List am_I := [(.aload_n 0, 1, 0, 0, 0), (.getfield 7, 3, 4, 1, 728), (.iconst 5, 1, 0, 0, 0), (.dup2, 1, 0, 0, 0), (.iaload, 1, 0, 0, 0), (.iconst 1, 1, 0, 0, 0), (.isub, 1, 0, 0, 0), (.iastore, 1, 0, 0, 0), (.bipush 57, 2, 0, 0, 0), (.bipush 6, 2, 0, 0, 0), (.iload_n 1, 1, 0, 0, 0), (.imul, 1, 0, 0, 0), (.iadd, 1, 0, 0, 0), (.istore_n 2, 1, 0, 0, 0)]
set_option maxRecDepth 20000 in
theorem o_Z_dropValve_0 : am_okB mt_Z_dropValve 0 k_Z_dropValve_0 = true := by decide +kernel
theorem g_Z_dropValve_0 {L : am_S} {n : Nat} {ls st : List Value} {M : am_M} {Q : am_Q} (h : am_B L mt_Z_dropValve k_Z_dropValve_0 n 0 ls st M Q) : am_R L mt_Z_dropValve n 0 ls st M Q := am_go L mt_Z_dropValve (fun h => by cases h) k_Z_dropValve_0 n 0 ls st M Q o_Z_dropValve_0 h
def k_Z_dropValve_18 : List am_I := [(.iload_n 2, 1, 0, 0, 0), (.bipush 57, 2, 0, 0, 0), (.bipush 6, 2, 0, 0, 0), (.aload_n 0, 1, 0, 0, 0), (.getfield 7, 3, 4, 1, 728), (.iconst 5, 1, 0, 0, 0), (.iaload, 1, 0, 0, 0), (.imul, 1, 0, 0, 0), (.iadd, 1, 0, 0, 0), (.if_icmp .ge 24, 3, 0, 0, 0), (.aload_n 0, 1, 0, 0, 0), (.getfield 7, 3, 4, 1, 728), (.iload_n 2, 1, 0, 0, 0), (.aload_n 0, 1, 0, 0, 0), (.getfield 7, 3, 4, 1, 728), (.iload_n 2, 1, 0, 0, 0), (.bipush 6, 2, 0, 0, 0), (.iadd, 1, 0, 0, 0), (.iaload, 1, 0, 0, 0), (.iastore, 1, 0, 0, 0), (.iinc 2 1, 3, 0, 0, 0), (.goto (-34), 3, 0, 0, 0)]
set_option maxRecDepth 20000 in
theorem o_Z_dropValve_18 : am_okB mt_Z_dropValve 18 k_Z_dropValve_18 = true := by decide +kernel
theorem g_Z_dropValve_18 {L : am_S} {n : Nat} {ls st : List Value} {M : am_M} {Q : am_Q} (h : am_B L mt_Z_dropValve k_Z_dropValve_18 n 18 ls st M Q) : am_R L mt_Z_dropValve n 18 ls st M Q := am_go L mt_Z_dropValve (fun h => by cases h) k_Z_dropValve_18 n 18 ls st M Q o_Z_dropValve_18 h
def k_Z_dropValve_55 : List am_I := [(.return_, 1, 0, 0, 0)]
set_option maxRecDepth 20000 in
theorem o_Z_dropValve_55 : am_okB mt_Z_dropValve 55 k_Z_dropValve_55 = true := by decide +kernel
theorem g_Z_dropValve_55 {L : am_S} {n : Nat} {ls st : List Value} {M : am_M} {Q : am_Q} (h : am_B L mt_Z_dropValve k_Z_dropValve_55 n 55 ls st M Q) : am_R L mt_Z_dropValve n 55 ls st M Q := am_go L mt_Z_dropValve (fun h => by cases h) k_Z_dropValve_55 n 55 ls st M Q o_Z_dropValve_55 h
def k_Z_close_0 : List am_I := [(.aload_n 0, 1, 0, 0, 0), (.aload_n 0, 1, 0, 0, 0), (.iload_n 1, 1, 0, 0, 0), (.invokevirtual 86, 3, 83, 2, 856), (.ifCond .eq 7, 3, 0, 0, 0), (.iconst 0, 1, 0, 0, 0), (.goto 4, 3, 0, 0, 0)]
set_option maxRecDepth 20000 in
theorem o_Z_close_0 : am_okB mt_Z_close 0 k_Z_close_0 = true := by decide +kernel
theorem g_Z_close_0 {L : am_S} {n : Nat} {ls st : List Value} {M : am_M} {Q : am_Q} (h : am_B L mt_Z_close k_Z_close_0 n 0 ls st M Q) : am_R L mt_Z_close n 0 ls st M Q := am_go L mt_Z_close (fun h => by cases h) k_Z_close_0 n 0 ls st M Q o_Z_close_0 h
def k_Z_close_13 : List am_I := [(.iconst 1, 1, 0, 0, 0)]
set_option maxRecDepth 20000 in
theorem o_Z_close_13 : am_okB mt_Z_close 13 k_Z_close_13 = true := by decide +kernel
theorem g_Z_close_13 {L : am_S} {n : Nat} {ls st : List Value} {M : am_M} {Q : am_Q} (h : am_B L mt_Z_close k_Z_close_13 n 13 ls st M Q) : am_R L mt_Z_close n 13 ls st M Q := am_go L mt_Z_close (fun h => by cases h) k_Z_close_13 n 13 ls st M Q o_Z_close_13 h
def k_Z_close_14 : List am_I := [(.putfield 39, 3, 4, 0, 727), (.aload_n 0, 1, 0, 0, 0), (.getfield 39, 3, 4, 0, 727), (.ifCond .le 5, 3, 0, 0, 0), (.iconst 0, 1, 0, 0, 0), (.ireturn, 1, 0, 0, 0)]
set_option maxRecDepth 20000 in
theorem o_Z_close_14 : am_okB mt_Z_close 14 k_Z_close_14 = true := by decide +kernel
theorem g_Z_close_14 {L : am_S} {n : Nat} {ls st : List Value} {M : am_M} {Q : am_Q} (h : am_B L mt_Z_close k_Z_close_14 n 14 ls st M Q) : am_R L mt_Z_close n 14 ls st M Q := am_go L mt_Z_close (fun h => by cases h) k_Z_close_14 n 14 ls st M Q o_Z_close_14 h
def k_Z_close_26 : List am_I := [(.aload_n 0, 1, 0, 0, 0), (.invokevirtual 61, 3, 87, 1, 802), (.aload_n 0, 1, 0, 0, 0), (.iload_n 1, 1, 0, 0, 0), (.invokevirtual 89, 3, 99, 2, 860), (.aload_n 0, 1, 0, 0, 0), (.getfield 7, 3, 4, 1, 728), (.iconst 5, 1, 0, 0, 0), (.iaload, 1, 0, 0, 0), (.ireturn, 1, 0, 0, 0)]
set_option maxRecDepth 20000 in
theorem o_Z_close_26 : am_okB mt_Z_close 26 k_Z_close_26 = true := by decide +kernel
theorem g_Z_close_26 {L : am_S} {n : Nat} {ls st : List Value} {M : am_M} {Q : am_Q} (h : am_B L mt_Z_close k_Z_close_26 n 26 ls st M Q) : am_R L mt_Z_close n 26 ls st M Q := am_go L mt_Z_close (fun h => by cases h) k_Z_close_26 n 26 ls st M Q o_Z_close_26 h
def k_Z_isPipe_0 : List am_I := [(.aload_n 0, 1, 0, 0, 0), (.getfield 7, 3, 4, 1, 728), (.bipush 6, 2, 0, 0, 0), (.iload_n 1, 1, 0, 0, 0), (.iadd, 1, 0, 0, 0), (.iaload, 1, 0, 0, 0), (.iload_n 2, 1, 0, 0, 0), (.ishr, 1, 0, 0, 0), (.iconst 1, 1, 0, 0, 0), (.iand, 1, 0, 0, 0), (.iconst 1, 1, 0, 0, 0), (.if_icmp .ne 7, 3, 0, 0, 0), (.iconst 1, 1, 0, 0, 0), (.goto 4, 3, 0, 0, 0)]
set_option maxRecDepth 20000 in
theorem o_Z_isPipe_0 : am_okB mt_Z_isPipe 0 k_Z_isPipe_0 = true := by decide +kernel
theorem g_Z_isPipe_0 {L : am_S} {n : Nat} {ls st : List Value} {M : am_M} {Q : am_Q} (h : am_B L mt_Z_isPipe k_Z_isPipe_0 n 0 ls st M Q) : am_R L mt_Z_isPipe n 0 ls st M Q := am_go L mt_Z_isPipe (fun h => by cases h) k_Z_isPipe_0 n 0 ls st M Q o_Z_isPipe_0 h
def k_Z_isPipe_21 : List am_I := [(.iconst 0, 1, 0, 0, 0)]
set_option maxRecDepth 20000 in
theorem o_Z_isPipe_21 : am_okB mt_Z_isPipe 21 k_Z_isPipe_21 = true := by decide +kernel
theorem g_Z_isPipe_21 {L : am_S} {n : Nat} {ls st : List Value} {M : am_M} {Q : am_Q} (h : am_B L mt_Z_isPipe k_Z_isPipe_21 n 21 ls st M Q) : am_R L mt_Z_isPipe n 21 ls st M Q := am_go L mt_Z_isPipe (fun h => by cases h) k_Z_isPipe_21 n 21 ls st M Q o_Z_isPipe_21 h
def k_Z_isPipe_22 : List am_I := [(.ireturn, 1, 0, 0, 0)]
set_option maxRecDepth 20000 in
theorem o_Z_isPipe_22 : am_okB mt_Z_isPipe 22 k_Z_isPipe_22 = true := by decide +kernel
theorem g_Z_isPipe_22 {L : am_S} {n : Nat} {ls st : List Value} {M : am_M} {Q : am_Q} (h : am_B L mt_Z_isPipe k_Z_isPipe_22 n 22 ls st M Q) : am_R L mt_Z_isPipe n 22 ls st M Q := am_go L mt_Z_isPipe (fun h => by cases h) k_Z_isPipe_22 n 22 ls st M Q o_Z_isPipe_22 h
def k_Z_pipe_0 : List am_I := [(.aload_n 0, 1, 0, 0, 0), (.iload_n 1, 1, 0, 0, 0), (.invokestatic 64, 3, 81, 1, 810), (.ifCond .eq 10, 3, 0, 0, 0), (.iload_n 2, 1, 0, 0, 0), (.invokestatic 64, 3, 81, 1, 810), (.ifCond .ne 7, 3, 0, 0, 0)]
set_option maxRecDepth 20000 in
theorem o_Z_pipe_0 : am_okB mt_Z_pipe 0 k_Z_pipe_0 = true := by decide +kernel
theorem g_Z_pipe_0 {L : am_S} {n : Nat} {ls st : List Value} {M : am_M} {Q : am_Q} (h : am_B L mt_Z_pipe k_Z_pipe_0 n 0 ls st M Q) : am_R L mt_Z_pipe n 0 ls st M Q := am_go L mt_Z_pipe (fun h => by cases h) k_Z_pipe_0 n 0 ls st M Q o_Z_pipe_0 h
def k_Z_pipe_15 : List am_I := [(.iconst 1, 1, 0, 0, 0), (.goto 13, 3, 0, 0, 0)]
set_option maxRecDepth 20000 in
theorem o_Z_pipe_15 : am_okB mt_Z_pipe 15 k_Z_pipe_15 = true := by decide +kernel
theorem g_Z_pipe_15 {L : am_S} {n : Nat} {ls st : List Value} {M : am_M} {Q : am_Q} (h : am_B L mt_Z_pipe k_Z_pipe_15 n 15 ls st M Q) : am_R L mt_Z_pipe n 15 ls st M Q := am_go L mt_Z_pipe (fun h => by cases h) k_Z_pipe_15 n 15 ls st M Q o_Z_pipe_15 h
def k_Z_pipe_19 : List am_I := [(.iload_n 1, 1, 0, 0, 0), (.iload_n 2, 1, 0, 0, 0), (.if_icmp .ne 7, 3, 0, 0, 0), (.iconst 2, 1, 0, 0, 0), (.goto 4, 3, 0, 0, 0)]
set_option maxRecDepth 20000 in
theorem o_Z_pipe_19 : am_okB mt_Z_pipe 19 k_Z_pipe_19 = true := by decide +kernel
theorem g_Z_pipe_19 {L : am_S} {n : Nat} {ls st : List Value} {M : am_M} {Q : am_Q} (h : am_B L mt_Z_pipe k_Z_pipe_19 n 19 ls st M Q) : am_R L mt_Z_pipe n 19 ls st M Q := am_go L mt_Z_pipe (fun h => by cases h) k_Z_pipe_19 n 19 ls st M Q o_Z_pipe_19 h
def k_Z_pipe_28 : List am_I := [(.iconst 0, 1, 0, 0, 0)]
set_option maxRecDepth 20000 in
theorem o_Z_pipe_28 : am_okB mt_Z_pipe 28 k_Z_pipe_28 = true := by decide +kernel
theorem g_Z_pipe_28 {L : am_S} {n : Nat} {ls st : List Value} {M : am_M} {Q : am_Q} (h : am_B L mt_Z_pipe k_Z_pipe_28 n 28 ls st M Q) : am_R L mt_Z_pipe n 28 ls st M Q := am_go L mt_Z_pipe (fun h => by cases h) k_Z_pipe_28 n 28 ls st M Q o_Z_pipe_28 h
def k_Z_pipe_29 : List am_I := [(.putfield 39, 3, 4, 0, 727), (.aload_n 0, 1, 0, 0, 0), (.getfield 39, 3, 4, 0, 727), (.ifCond .le 5, 3, 0, 0, 0), (.iconst 0, 1, 0, 0, 0), (.ireturn, 1, 0, 0, 0)]
set_option maxRecDepth 20000 in
theorem o_Z_pipe_29 : am_okB mt_Z_pipe 29 k_Z_pipe_29 = true := by decide +kernel
theorem g_Z_pipe_29 {L : am_S} {n : Nat} {ls st : List Value} {M : am_M} {Q : am_Q} (h : am_B L mt_Z_pipe k_Z_pipe_29 n 29 ls st M Q) : am_R L mt_Z_pipe n 29 ls st M Q := am_go L mt_Z_pipe (fun h => by cases h) k_Z_pipe_29 n 29 ls st M Q o_Z_pipe_29 h
def k_Z_pipe_41 : List am_I := [(.aload_n 0, 1, 0, 0, 0), (.invokevirtual 61, 3, 87, 1, 802), (.aload_n 0, 1, 0, 0, 0), (.getfield 7, 3, 4, 1, 728), (.bipush 6, 2, 0, 0, 0), (.iload_n 1, 1, 0, 0, 0), (.iadd, 1, 0, 0, 0), (.dup2, 1, 0, 0, 0), (.iaload, 1, 0, 0, 0), (.iconst 1, 1, 0, 0, 0), (.iload_n 2, 1, 0, 0, 0), (.ishl, 1, 0, 0, 0), (.ixor, 1, 0, 0, 0), (.iastore, 1, 0, 0, 0), (.aload_n 0, 1, 0, 0, 0), (.getfield 7, 3, 4, 1, 728), (.bipush 6, 2, 0, 0, 0), (.iload_n 2, 1, 0, 0, 0), (.iadd, 1, 0, 0, 0), (.dup2, 1, 0, 0, 0), (.iaload, 1, 0, 0, 0), (.iconst 1, 1, 0, 0, 0), (.iload_n 1, 1, 0, 0, 0), (.ishl, 1, 0, 0, 0), (.ixor, 1, 0, 0, 0), (.iastore, 1, 0, 0, 0), (.aload_n 0, 1, 0, 0, 0), (.iload_n 1, 1, 0, 0, 0), (.iload_n 2, 1, 0, 0, 0), (.invokevirtual 93, 3, 101, 3, 868), (.ifCond .eq 7, 3, 0, 0, 0), (.iconst 1, 1, 0, 0, 0), (.goto 4, 3, 0, 0, 0)]
set_option maxRecDepth 20000 in
theorem o_Z_pipe_41 : am_okB mt_Z_pipe 41 k_Z_pipe_41 = true := by decide +kernel
theorem g_Z_pipe_41 {L : am_S} {n : Nat} {ls st : List Value} {M : am_M} {Q : am_Q} (h : am_B L mt_Z_pipe k_Z_pipe_41 n 41 ls st M Q) : am_R L mt_Z_pipe n 41 ls st M Q := am_go L mt_Z_pipe (fun h => by cases h) k_Z_pipe_41 n 41 ls st M Q o_Z_pipe_41 h
def k_Z_pipe_88 : List am_I := [(.iconst 0, 1, 0, 0, 0)]
set_option maxRecDepth 20000 in
theorem o_Z_pipe_88 : am_okB mt_Z_pipe 88 k_Z_pipe_88 = true := by decide +kernel
theorem g_Z_pipe_88 {L : am_S} {n : Nat} {ls st : List Value} {M : am_M} {Q : am_Q} (h : am_B L mt_Z_pipe k_Z_pipe_88 n 88 ls st M Q) : am_R L mt_Z_pipe n 88 ls st M Q := am_go L mt_Z_pipe (fun h => by cases h) k_Z_pipe_88 n 88 ls st M Q o_Z_pipe_88 h
def k_Z_pipe_89 : List am_I := [(.ireturn, 1, 0, 0, 0)]
set_option maxRecDepth 20000 in
theorem o_Z_pipe_89 : am_okB mt_Z_pipe 89 k_Z_pipe_89 = true := by decide +kernel
theorem g_Z_pipe_89 {L : am_S} {n : Nat} {ls st : List Value} {M : am_M} {Q : am_Q} (h : am_B L mt_Z_pipe k_Z_pipe_89 n 89 ls st M Q) : am_R L mt_Z_pipe n 89 ls st M Q := am_go L mt_Z_pipe (fun h => by cases h) k_Z_pipe_89 n 89 ls st M Q o_Z_pipe_89 h
def k_Z_set_0 : List am_I := [(.aload_n 0, 1, 0, 0, 0), (.iload_n 1, 1, 0, 0, 0), (.iconst 0, 1, 0, 0, 0), (.sipush 200, 3, 0, 0, 0), (.invokestatic 43, 3, 75, 3, 791), (.ifCond .eq 7, 3, 0, 0, 0), (.iconst 0, 1, 0, 0, 0), (.goto 4, 3, 0, 0, 0)]
set_option maxRecDepth 20000 in
theorem o_Z_set_0 : am_okB mt_Z_set 0 k_Z_set_0 = true := by decide +kernel
theorem g_Z_set_0 {L : am_S} {n : Nat} {ls st : List Value} {M : am_M} {Q : am_Q} (h : am_B L mt_Z_set k_Z_set_0 n 0 ls st M Q) : am_R L mt_Z_set n 0 ls st M Q := am_go L mt_Z_set (fun h => by cases h) k_Z_set_0 n 0 ls st M Q o_Z_set_0 h
def k_Z_set_16 : List am_I := [(.iconst 1, 1, 0, 0, 0)]
set_option maxRecDepth 20000 in
theorem o_Z_set_16 : am_okB mt_Z_set 16 k_Z_set_16 = true := by decide +kernel
theorem g_Z_set_16 {L : am_S} {n : Nat} {ls st : List Value} {M : am_M} {Q : am_Q} (h : am_B L mt_Z_set k_Z_set_16 n 16 ls st M Q) : am_R L mt_Z_set n 16 ls st M Q := am_go L mt_Z_set (fun h => by cases h) k_Z_set_16 n 16 ls st M Q o_Z_set_16 h
def k_Z_set_17 : List am_I := [(.putfield 39, 3, 4, 0, 727), (.aload_n 0, 1, 0, 0, 0), (.getfield 39, 3, 4, 0, 727), (.ifCond .le 5, 3, 0, 0, 0), (.iconst 0, 1, 0, 0, 0), (.ireturn, 1, 0, 0, 0)]
set_option maxRecDepth 20000 in
theorem o_Z_set_17 : am_okB mt_Z_set 17 k_Z_set_17 = true := by decide +kernel
theorem g_Z_set_17 {L : am_S} {n : Nat} {ls st : List Value} {M : am_M} {Q : am_Q} (h : am_B L mt_Z_set k_Z_set_17 n 17 ls st M Q) : am_R L mt_Z_set n 17 ls st M Q := am_go L mt_Z_set (fun h => by cases h) k_Z_set_17 n 17 ls st M Q o_Z_set_17 h
def k_Z_set_29 : List am_I := [(.aload_n 0, 1, 0, 0, 0), (.invokevirtual 61, 3, 87, 1, 802), (.aload_n 0, 1, 0, 0, 0), (.getfield 7, 3, 4, 1, 728), (.iconst 1, 1, 0, 0, 0), (.iaload, 1, 0, 0, 0), (.istore_n 2, 1, 0, 0, 0), (.aload_n 0, 1, 0, 0, 0), (.getfield 7, 3, 4, 1, 728), (.iconst 1, 1, 0, 0, 0), (.iload_n 1, 1, 0, 0, 0), (.iastore, 1, 0, 0, 0), (.iload_n 2, 1, 0, 0, 0), (.ireturn, 1, 0, 0, 0)]
set_option maxRecDepth 20000 in
theorem o_Z_set_29 : am_okB mt_Z_set 29 k_Z_set_29 = true := by decide +kernel
theorem g_Z_set_29 {L : am_S} {n : Nat} {ls st : List Value} {M : am_M} {Q : am_Q} (h : am_B L mt_Z_set k_Z_set_29 n 29 ls st M Q) : am_R L mt_Z_set n 29 ls st M Q := am_go L mt_Z_set (fun h => by cases h) k_Z_set_29 n 29 ls st M Q o_Z_set_29 h
def k_Z_move_0 : List am_I := [(.aload_n 0, 1, 0, 0, 0), (.iload_n 1, 1, 0, 0, 0), (.iconst 1, 1, 0, 0, 0), (.invokevirtual 47, 3, 77, 3, 813), (.istore 4, 2, 0, 0, 0), (.iload_n 3, 1, 0, 0, 0), (.iload 4, 2, 0, 0, 0), (.invokestatic 79, 3, 76, 2, 837), (.istore 5, 2, 0, 0, 0), (.iload_n 2, 1, 0, 0, 0), (.iconst 5, 1, 0, 0, 0), (.if_icmp .ne 8, 3, 0, 0, 0), (.iload 5, 2, 0, 0, 0), (.goto 21, 3, 0, 0, 0)]
set_option maxRecDepth 20000 in
theorem o_Z_move_0 : am_okB mt_Z_move 0 k_Z_move_0 = true := by decide +kernel
theorem g_Z_move_0 {L : am_S} {n : Nat} {ls st : List Value} {M : am_M} {Q : am_Q} (h : am_B L mt_Z_move k_Z_move_0 n 0 ls st M Q) : am_R L mt_Z_move n 0 ls st M Q := am_go L mt_Z_move (fun h => by cases h) k_Z_move_0 n 0 ls st M Q o_Z_move_0 h
def k_Z_move_26 : List am_I := [(.iload 5, 2, 0, 0, 0), (.aload_n 0, 1, 0, 0, 0), (.iload_n 2, 1, 0, 0, 0), (.iconst 0, 1, 0, 0, 0), (.invokevirtual 47, 3, 77, 3, 813), (.aload_n 0, 1, 0, 0, 0), (.iload_n 2, 1, 0, 0, 0), (.iconst 1, 1, 0, 0, 0), (.invokevirtual 47, 3, 77, 3, 813), (.isub, 1, 0, 0, 0), (.invokestatic 79, 3, 76, 2, 837)]
set_option maxRecDepth 20000 in
theorem o_Z_move_26 : am_okB mt_Z_move 26 k_Z_move_26 = true := by decide +kernel
theorem g_Z_move_26 {L : am_S} {n : Nat} {ls st : List Value} {M : am_M} {Q : am_Q} (h : am_B L mt_Z_move k_Z_move_26 n 26 ls st M Q) : am_R L mt_Z_move n 26 ls st M Q := am_go L mt_Z_move (fun h => by cases h) k_Z_move_26 n 26 ls st M Q o_Z_move_26 h
def k_Z_move_44 : List am_I := [(.istore 5, 2, 0, 0, 0), (.iload 5, 2, 0, 0, 0), (.ifCond .ne 5, 3, 0, 0, 0), (.iconst 0, 1, 0, 0, 0), (.ireturn, 1, 0, 0, 0)]
set_option maxRecDepth 20000 in
theorem o_Z_move_44 : am_okB mt_Z_move 44 k_Z_move_44 = true := by decide +kernel
theorem g_Z_move_44 {L : am_S} {n : Nat} {ls st : List Value} {M : am_M} {Q : am_Q} (h : am_B L mt_Z_move k_Z_move_44 n 44 ls st M Q) : am_R L mt_Z_move n 44 ls st M Q := am_go L mt_Z_move (fun h => by cases h) k_Z_move_44 n 44 ls st M Q o_Z_move_44 h
def k_Z_move_53 : List am_I := [(.iconst 0, 1, 0, 0, 0), (.istore 6, 2, 0, 0, 0)]
set_option maxRecDepth 20000 in
theorem o_Z_move_53 : am_okB mt_Z_move 53 k_Z_move_53 = true := by decide +kernel
theorem g_Z_move_53 {L : am_S} {n : Nat} {ls st : List Value} {M : am_M} {Q : am_Q} (h : am_B L mt_Z_move k_Z_move_53 n 53 ls st M Q) : am_R L mt_Z_move n 53 ls st M Q := am_go L mt_Z_move (fun h => by cases h) k_Z_move_53 n 53 ls st M Q o_Z_move_53 h
def k_Z_move_56 : List am_I := [(.iload 6, 2, 0, 0, 0), (.iconst 3, 1, 0, 0, 0), (.if_icmp .ge 72, 3, 0, 0, 0), (.aload_n 0, 1, 0, 0, 0), (.iload_n 1, 1, 0, 0, 0), (.iconst 2, 1, 0, 0, 0), (.iload 6, 2, 0, 0, 0), (.iadd, 1, 0, 0, 0), (.invokevirtual 47, 3, 77, 3, 813), (.iload 5, 2, 0, 0, 0), (.imul, 1, 0, 0, 0), (.iload 4, 2, 0, 0, 0), (.idiv, 1, 0, 0, 0), (.istore 7, 2, 0, 0, 0), (.aload_n 0, 1, 0, 0, 0), (.iload_n 1, 1, 0, 0, 0), (.iconst 2, 1, 0, 0, 0), (.iload 6, 2, 0, 0, 0), (.iadd, 1, 0, 0, 0), (.iload 7, 2, 0, 0, 0), (.ineg, 1, 0, 0, 0), (.invokevirtual 68, 3, 79, 4, 817), (.iload_n 2, 1, 0, 0, 0), (.iconst 5, 1, 0, 0, 0), (.if_icmp .ne 21, 3, 0, 0, 0), (.aload_n 0, 1, 0, 0, 0), (.getfield 7, 3, 4, 1, 728), (.bipush 14, 2, 0, 0, 0), (.iload 6, 2, 0, 0, 0), (.iadd, 1, 0, 0, 0), (.dup2, 1, 0, 0, 0), (.iaload, 1, 0, 0, 0), (.iload 7, 2, 0, 0, 0), (.iadd, 1, 0, 0, 0), (.iastore, 1, 0, 0, 0), (.goto 14, 3, 0, 0, 0)]
set_option maxRecDepth 20000 in
theorem o_Z_move_56 : am_okB mt_Z_move 56 k_Z_move_56 = true := by decide +kernel
theorem g_Z_move_56 {L : am_S} {n : Nat} {ls st : List Value} {M : am_M} {Q : am_Q} (h : am_B L mt_Z_move k_Z_move_56 n 56 ls st M Q) : am_R L mt_Z_move n 56 ls st M Q := am_go L mt_Z_move (fun h => by cases h) k_Z_move_56 n 56 ls st M Q o_Z_move_56 h
def k_Z_move_114 : List am_I := [(.aload_n 0, 1, 0, 0, 0), (.iload_n 2, 1, 0, 0, 0), (.iconst 2, 1, 0, 0, 0), (.iload 6, 2, 0, 0, 0), (.iadd, 1, 0, 0, 0), (.iload 7, 2, 0, 0, 0), (.invokevirtual 68, 3, 79, 4, 817)]
set_option maxRecDepth 20000 in
theorem o_Z_move_114 : am_okB mt_Z_move 114 k_Z_move_114 = true := by decide +kernel
theorem g_Z_move_114 {L : am_S} {n : Nat} {ls st : List Value} {M : am_M} {Q : am_Q} (h : am_B L mt_Z_move k_Z_move_114 n 114 ls st M Q) : am_R L mt_Z_move n 114 ls st M Q := am_go L mt_Z_move (fun h => by cases h) k_Z_move_114 n 114 ls st M Q o_Z_move_114 h
def k_Z_move_125 : List am_I := [(.iinc 6 1, 3, 0, 0, 0), (.goto (-72), 3, 0, 0, 0)]
set_option maxRecDepth 20000 in
theorem o_Z_move_125 : am_okB mt_Z_move 125 k_Z_move_125 = true := by decide +kernel
theorem g_Z_move_125 {L : am_S} {n : Nat} {ls st : List Value} {M : am_M} {Q : am_Q} (h : am_B L mt_Z_move k_Z_move_125 n 125 ls st M Q) : am_R L mt_Z_move n 125 ls st M Q := am_go L mt_Z_move (fun h => by cases h) k_Z_move_125 n 125 ls st M Q o_Z_move_125 h
def k_Z_move_131 : List am_I := [(.aload_n 0, 1, 0, 0, 0), (.iload_n 1, 1, 0, 0, 0), (.iconst 1, 1, 0, 0, 0), (.iload 5, 2, 0, 0, 0), (.ineg, 1, 0, 0, 0), (.invokevirtual 68, 3, 79, 4, 817), (.iload_n 2, 1, 0, 0, 0), (.iconst 5, 1, 0, 0, 0), (.if_icmp .ne 17, 3, 0, 0, 0), (.aload_n 0, 1, 0, 0, 0), (.getfield 7, 3, 4, 1, 728), (.iconst 2, 1, 0, 0, 0), (.dup2, 1, 0, 0, 0), (.iaload, 1, 0, 0, 0), (.iload 5, 2, 0, 0, 0), (.iadd, 1, 0, 0, 0), (.iastore, 1, 0, 0, 0), (.goto 11, 3, 0, 0, 0)]
set_option maxRecDepth 20000 in
theorem o_Z_move_131 : am_okB mt_Z_move 131 k_Z_move_131 = true := by decide +kernel
theorem g_Z_move_131 {L : am_S} {n : Nat} {ls st : List Value} {M : am_M} {Q : am_Q} (h : am_B L mt_Z_move k_Z_move_131 n 131 ls st M Q) : am_R L mt_Z_move n 131 ls st M Q := am_go L mt_Z_move (fun h => by cases h) k_Z_move_131 n 131 ls st M Q o_Z_move_131 h
def k_Z_move_159 : List am_I := [(.aload_n 0, 1, 0, 0, 0), (.iload_n 2, 1, 0, 0, 0), (.iconst 1, 1, 0, 0, 0), (.iload 5, 2, 0, 0, 0), (.invokevirtual 68, 3, 79, 4, 817)]
set_option maxRecDepth 20000 in
theorem o_Z_move_159 : am_okB mt_Z_move 159 k_Z_move_159 = true := by decide +kernel
theorem g_Z_move_159 {L : am_S} {n : Nat} {ls st : List Value} {M : am_M} {Q : am_Q} (h : am_B L mt_Z_move k_Z_move_159 n 159 ls st M Q) : am_R L mt_Z_move n 159 ls st M Q := am_go L mt_Z_move (fun h => by cases h) k_Z_move_159 n 159 ls st M Q o_Z_move_159 h
def k_Z_move_167 : List am_I := [(.iload 5, 2, 0, 0, 0), (.ireturn, 1, 0, 0, 0)]
set_option maxRecDepth 20000 in
theorem o_Z_move_167 : am_okB mt_Z_move 167 k_Z_move_167 = true := by decide +kernel
theorem g_Z_move_167 {L : am_S} {n : Nat} {ls st : List Value} {M : am_M} {Q : am_Q} (h : am_B L mt_Z_move k_Z_move_167 n 167 ls st M Q) : am_R L mt_Z_move n 167 ls st M Q := am_go L mt_Z_move (fun h => by cases h) k_Z_move_167 n 167 ls st M Q o_Z_move_167 h
def k_Z_level_0 : List am_I := [(.aload_n 0, 1, 0, 0, 0), (.iload_n 1, 1, 0, 0, 0), (.iconst 1, 1, 0, 0, 0), (.invokevirtual 47, 3, 77, 3, 813), (.aload_n 0, 1, 0, 0, 0), (.iload_n 2, 1, 0, 0, 0), (.iconst 1, 1, 0, 0, 0), (.invokevirtual 47, 3, 77, 3, 813), (.isub, 1, 0, 0, 0), (.istore_n 3, 1, 0, 0, 0), (.iload_n 3, 1, 0, 0, 0), (.ifCond .le 16, 3, 0, 0, 0), (.aload_n 0, 1, 0, 0, 0), (.iload_n 1, 1, 0, 0, 0), (.iload_n 2, 1, 0, 0, 0), (.iload_n 3, 1, 0, 0, 0), (.iconst 2, 1, 0, 0, 0), (.idiv, 1, 0, 0, 0), (.invokevirtual 97, 3, 104, 4, 896), (.pop, 1, 0, 0, 0), (.goto 14, 3, 0, 0, 0)]
set_option maxRecDepth 20000 in
theorem o_Z_level_0 : am_okB mt_Z_level 0 k_Z_level_0 = true := by decide +kernel
theorem g_Z_level_0 {L : am_S} {n : Nat} {ls st : List Value} {M : am_M} {Q : am_Q} (h : am_B L mt_Z_level k_Z_level_0 n 0 ls st M Q) : am_R L mt_Z_level n 0 ls st M Q := am_go L mt_Z_level (fun h => by cases h) k_Z_level_0 n 0 ls st M Q o_Z_level_0 h
def k_Z_level_31 : List am_I := [(.aload_n 0, 1, 0, 0, 0), (.iload_n 2, 1, 0, 0, 0), (.iload_n 1, 1, 0, 0, 0), (.iload_n 3, 1, 0, 0, 0), (.ineg, 1, 0, 0, 0), (.iconst 2, 1, 0, 0, 0), (.idiv, 1, 0, 0, 0), (.invokevirtual 97, 3, 104, 4, 896), (.pop, 1, 0, 0, 0)]
set_option maxRecDepth 20000 in
theorem o_Z_level_31 : am_okB mt_Z_level 31 k_Z_level_31 = true := by decide +kernel
theorem g_Z_level_31 {L : am_S} {n : Nat} {ls st : List Value} {M : am_M} {Q : am_Q} (h : am_B L mt_Z_level k_Z_level_31 n 31 ls st M Q) : am_R L mt_Z_level n 31 ls st M Q := am_go L mt_Z_level (fun h => by cases h) k_Z_level_31 n 31 ls st M Q o_Z_level_31 h
def k_Z_level_42 : List am_I := [(.return_, 1, 0, 0, 0)]
set_option maxRecDepth 20000 in
theorem o_Z_level_42 : am_okB mt_Z_level 42 k_Z_level_42 = true := by decide +kernel
theorem g_Z_level_42 {L : am_S} {n : Nat} {ls st : List Value} {M : am_M} {Q : am_Q} (h : am_B L mt_Z_level k_Z_level_42 n 42 ls st M Q) : am_R L mt_Z_level n 42 ls st M Q := am_go L mt_Z_level (fun h => by cases h) k_Z_level_42 n 42 ls st M Q o_Z_level_42 h
def k_Z_settle_0 : List am_I := [(.iconst 0, 1, 0, 0, 0), (.istore_n 2, 1, 0, 0, 0)]
set_option maxRecDepth 20000 in
theorem o_Z_settle_0 : am_okB mt_Z_settle 0 k_Z_settle_0 = true := by decide +kernel
theorem g_Z_settle_0 {L : am_S} {n : Nat} {ls st : List Value} {M : am_M} {Q : am_Q} (h : am_B L mt_Z_settle k_Z_settle_0 n 0 ls st M Q) : am_R L mt_Z_settle n 0 ls st M Q := am_go L mt_Z_settle (fun h => by cases h) k_Z_settle_0 n 0 ls st M Q o_Z_settle_0 h
def k_Z_settle_2 : List am_I := [(.iload_n 2, 1, 0, 0, 0), (.iconst 3, 1, 0, 0, 0), (.if_icmp .ge 47, 3, 0, 0, 0), (.aload_n 0, 1, 0, 0, 0), (.iload_n 1, 1, 0, 0, 0), (.iconst 2, 1, 0, 0, 0), (.iload_n 2, 1, 0, 0, 0), (.iadd, 1, 0, 0, 0), (.invokevirtual 47, 3, 77, 3, 813), (.aload_n 0, 1, 0, 0, 0), (.iload_n 1, 1, 0, 0, 0), (.invokevirtual 75, 3, 85, 2, 833), (.isub, 1, 0, 0, 0), (.istore_n 3, 1, 0, 0, 0), (.iload_n 3, 1, 0, 0, 0), (.ifCond .le 22, 3, 0, 0, 0), (.aload_n 0, 1, 0, 0, 0), (.iload_n 1, 1, 0, 0, 0), (.iconst 2, 1, 0, 0, 0), (.iload_n 2, 1, 0, 0, 0), (.iadd, 1, 0, 0, 0), (.iload_n 3, 1, 0, 0, 0), (.ineg, 1, 0, 0, 0), (.invokevirtual 68, 3, 79, 4, 817), (.aload_n 0, 1, 0, 0, 0), (.iload_n 1, 1, 0, 0, 0), (.iconst 5, 1, 0, 0, 0), (.iload_n 2, 1, 0, 0, 0), (.iadd, 1, 0, 0, 0), (.iload_n 3, 1, 0, 0, 0), (.invokevirtual 68, 3, 79, 4, 817)]
set_option maxRecDepth 20000 in
theorem o_Z_settle_2 : am_okB mt_Z_settle 2 k_Z_settle_2 = true := by decide +kernel
theorem g_Z_settle_2 {L : am_S} {n : Nat} {ls st : List Value} {M : am_M} {Q : am_Q} (h : am_B L mt_Z_settle k_Z_settle_2 n 2 ls st M Q) : am_R L mt_Z_settle n 2 ls st M Q := am_go L mt_Z_settle (fun h => by cases h) k_Z_settle_2 n 2 ls st M Q o_Z_settle_2 h
def k_Z_settle_45 : List am_I := [(.iinc 2 1, 3, 0, 0, 0), (.goto (-46), 3, 0, 0, 0)]
set_option maxRecDepth 20000 in
theorem o_Z_settle_45 : am_okB mt_Z_settle 45 k_Z_settle_45 = true := by decide +kernel
theorem g_Z_settle_45 {L : am_S} {n : Nat} {ls st : List Value} {M : am_M} {Q : am_Q} (h : am_B L mt_Z_settle k_Z_settle_45 n 45 ls st M Q) : am_R L mt_Z_settle n 45 ls st M Q := am_go L mt_Z_settle (fun h => by cases h) k_Z_settle_45 n 45 ls st M Q o_Z_settle_45 h
def k_Z_settle_51 : List am_I := [(.return_, 1, 0, 0, 0)]
set_option maxRecDepth 20000 in
theorem o_Z_settle_51 : am_okB mt_Z_settle 51 k_Z_settle_51 = true := by decide +kernel
theorem g_Z_settle_51 {L : am_S} {n : Nat} {ls st : List Value} {M : am_M} {Q : am_Q} (h : am_B L mt_Z_settle k_Z_settle_51 n 51 ls st M Q) : am_R L mt_Z_settle n 51 ls st M Q := am_go L mt_Z_settle (fun h => by cases h) k_Z_settle_51 n 51 ls st M Q o_Z_settle_51 h
def k_Z_hour_0 : List am_I := [(.iconst 0, 1, 0, 0, 0), (.istore_n 1, 1, 0, 0, 0)]
set_option maxRecDepth 20000 in
theorem o_Z_hour_0 : am_okB mt_Z_hour 0 k_Z_hour_0 = true := by decide +kernel
theorem g_Z_hour_0 {L : am_S} {n : Nat} {ls st : List Value} {M : am_M} {Q : am_Q} (h : am_B L mt_Z_hour k_Z_hour_0 n 0 ls st M Q) : am_R L mt_Z_hour n 0 ls st M Q := am_go L mt_Z_hour (fun h => by cases h) k_Z_hour_0 n 0 ls st M Q o_Z_hour_0 h
def k_Z_hour_2 : List am_I := [(.iload_n 1, 1, 0, 0, 0), (.aload_n 0, 1, 0, 0, 0), (.getfield 7, 3, 4, 1, 728), (.iconst 5, 1, 0, 0, 0), (.iaload, 1, 0, 0, 0), (.if_icmp .ge 56, 3, 0, 0, 0), (.aload_n 0, 1, 0, 0, 0), (.iload_n 1, 1, 0, 0, 0), (.invokevirtual 101, 3, 86, 2, 888), (.ifCond .eq 42, 3, 0, 0, 0), (.aload_n 0, 1, 0, 0, 0), (.getfield 7, 3, 4, 1, 728), (.bipush 57, 2, 0, 0, 0), (.bipush 6, 2, 0, 0, 0), (.iload_n 1, 1, 0, 0, 0), (.imul, 1, 0, 0, 0), (.iadd, 1, 0, 0, 0), (.iconst 5, 1, 0, 0, 0), (.iadd, 1, 0, 0, 0), (.dup2, 1, 0, 0, 0), (.iaload, 1, 0, 0, 0), (.aload_n 0, 1, 0, 0, 0), (.aload_n 0, 1, 0, 0, 0), (.iload_n 1, 1, 0, 0, 0), (.iconst 0, 1, 0, 0, 0), (.invokevirtual 55, 3, 80, 3, 892), (.aload_n 0, 1, 0, 0, 0), (.iload_n 1, 1, 0, 0, 0), (.iconst 1, 1, 0, 0, 0), (.invokevirtual 55, 3, 80, 3, 892), (.aload_n 0, 1, 0, 0, 0), (.iload_n 1, 1, 0, 0, 0), (.iconst 2, 1, 0, 0, 0), (.invokevirtual 55, 3, 80, 3, 892), (.invokevirtual 97, 3, 104, 4, 896), (.iadd, 1, 0, 0, 0), (.iastore, 1, 0, 0, 0)]
set_option maxRecDepth 20000 in
theorem o_Z_hour_2 : am_okB mt_Z_hour 2 k_Z_hour_2 = true := by decide +kernel
theorem g_Z_hour_2 {L : am_S} {n : Nat} {ls st : List Value} {M : am_M} {Q : am_Q} (h : am_B L mt_Z_hour k_Z_hour_2 n 2 ls st M Q) : am_R L mt_Z_hour n 2 ls st M Q := am_go L mt_Z_hour (fun h => by cases h) k_Z_hour_2 n 2 ls st M Q o_Z_hour_2 h
def k_Z_hour_59 : List am_I := [(.iinc 1 1, 3, 0, 0, 0), (.goto (-60), 3, 0, 0, 0)]
set_option maxRecDepth 20000 in
theorem o_Z_hour_59 : am_okB mt_Z_hour 59 k_Z_hour_59 = true := by decide +kernel
theorem g_Z_hour_59 {L : am_S} {n : Nat} {ls st : List Value} {M : am_M} {Q : am_Q} (h : am_B L mt_Z_hour k_Z_hour_59 n 59 ls st M Q) : am_R L mt_Z_hour n 59 ls st M Q := am_go L mt_Z_hour (fun h => by cases h) k_Z_hour_59 n 59 ls st M Q o_Z_hour_59 h
def k_Z_hour_65 : List am_I := [(.iconst 0, 1, 0, 0, 0), (.istore_n 1, 1, 0, 0, 0)]
set_option maxRecDepth 20000 in
theorem o_Z_hour_65 : am_okB mt_Z_hour 65 k_Z_hour_65 = true := by decide +kernel
theorem g_Z_hour_65 {L : am_S} {n : Nat} {ls st : List Value} {M : am_M} {Q : am_Q} (h : am_B L mt_Z_hour k_Z_hour_65 n 65 ls st M Q) : am_R L mt_Z_hour n 65 ls st M Q := am_go L mt_Z_hour (fun h => by cases h) k_Z_hour_65 n 65 ls st M Q o_Z_hour_65 h
def k_Z_hour_67 : List am_I := [(.iload_n 1, 1, 0, 0, 0), (.iconst 5, 1, 0, 0, 0), (.if_icmp .ge 39, 3, 0, 0, 0), (.iload_n 1, 1, 0, 0, 0), (.iconst 1, 1, 0, 0, 0), (.iadd, 1, 0, 0, 0), (.istore_n 2, 1, 0, 0, 0)]
set_option maxRecDepth 20000 in
theorem o_Z_hour_67 : am_okB mt_Z_hour 67 k_Z_hour_67 = true := by decide +kernel
theorem g_Z_hour_67 {L : am_S} {n : Nat} {ls st : List Value} {M : am_M} {Q : am_Q} (h : am_B L mt_Z_hour k_Z_hour_67 n 67 ls st M Q) : am_R L mt_Z_hour n 67 ls st M Q := am_go L mt_Z_hour (fun h => by cases h) k_Z_hour_67 n 67 ls st M Q o_Z_hour_67 h
def k_Z_hour_76 : List am_I := [(.iload_n 2, 1, 0, 0, 0), (.iconst 5, 1, 0, 0, 0), (.if_icmp .ge 24, 3, 0, 0, 0), (.aload_n 0, 1, 0, 0, 0), (.iload_n 1, 1, 0, 0, 0), (.iload_n 2, 1, 0, 0, 0), (.invokevirtual 93, 3, 101, 3, 868), (.ifCond .eq 9, 3, 0, 0, 0), (.aload_n 0, 1, 0, 0, 0), (.iload_n 1, 1, 0, 0, 0), (.iload_n 2, 1, 0, 0, 0), (.invokevirtual 104, 3, 105, 3, 900)]
set_option maxRecDepth 20000 in
theorem o_Z_hour_76 : am_okB mt_Z_hour 76 k_Z_hour_76 = true := by decide +kernel
theorem g_Z_hour_76 {L : am_S} {n : Nat} {ls st : List Value} {M : am_M} {Q : am_Q} (h : am_B L mt_Z_hour k_Z_hour_76 n 76 ls st M Q) : am_R L mt_Z_hour n 76 ls st M Q := am_go L mt_Z_hour (fun h => by cases h) k_Z_hour_76 n 76 ls st M Q o_Z_hour_76 h
def k_Z_hour_96 : List am_I := [(.iinc 2 1, 3, 0, 0, 0), (.goto (-23), 3, 0, 0, 0)]
set_option maxRecDepth 20000 in
theorem o_Z_hour_96 : am_okB mt_Z_hour 96 k_Z_hour_96 = true := by decide +kernel
theorem g_Z_hour_96 {L : am_S} {n : Nat} {ls st : List Value} {M : am_M} {Q : am_Q} (h : am_B L mt_Z_hour k_Z_hour_96 n 96 ls st M Q) : am_R L mt_Z_hour n 96 ls st M Q := am_go L mt_Z_hour (fun h => by cases h) k_Z_hour_96 n 96 ls st M Q o_Z_hour_96 h
def k_Z_hour_102 : List am_I := [(.iinc 1 1, 3, 0, 0, 0), (.goto (-38), 3, 0, 0, 0)]
set_option maxRecDepth 20000 in
theorem o_Z_hour_102 : am_okB mt_Z_hour 102 k_Z_hour_102 = true := by decide +kernel
theorem g_Z_hour_102 {L : am_S} {n : Nat} {ls st : List Value} {M : am_M} {Q : am_Q} (h : am_B L mt_Z_hour k_Z_hour_102 n 102 ls st M Q) : am_R L mt_Z_hour n 102 ls st M Q := am_go L mt_Z_hour (fun h => by cases h) k_Z_hour_102 n 102 ls st M Q o_Z_hour_102 h
def k_Z_hour_108 : List am_I := [(.iconst 0, 1, 0, 0, 0), (.istore_n 1, 1, 0, 0, 0)]
set_option maxRecDepth 20000 in
theorem o_Z_hour_108 : am_okB mt_Z_hour 108 k_Z_hour_108 = true := by decide +kernel
theorem g_Z_hour_108 {L : am_S} {n : Nat} {ls st : List Value} {M : am_M} {Q : am_Q} (h : am_B L mt_Z_hour k_Z_hour_108 n 108 ls st M Q) : am_R L mt_Z_hour n 108 ls st M Q := am_go L mt_Z_hour (fun h => by cases h) k_Z_hour_108 n 108 ls st M Q o_Z_hour_108 h
def k_Z_hour_110 : List am_I := [(.iload_n 1, 1, 0, 0, 0), (.iconst 5, 1, 0, 0, 0), (.if_icmp .ge 14, 3, 0, 0, 0), (.aload_n 0, 1, 0, 0, 0), (.iload_n 1, 1, 0, 0, 0), (.invokevirtual 108, 3, 106, 2, 904), (.iinc 1 1, 3, 0, 0, 0), (.goto (-13), 3, 0, 0, 0)]
set_option maxRecDepth 20000 in
theorem o_Z_hour_110 : am_okB mt_Z_hour 110 k_Z_hour_110 = true := by decide +kernel
theorem g_Z_hour_110 {L : am_S} {n : Nat} {ls st : List Value} {M : am_M} {Q : am_Q} (h : am_B L mt_Z_hour k_Z_hour_110 n 110 ls st M Q) : am_R L mt_Z_hour n 110 ls st M Q := am_go L mt_Z_hour (fun h => by cases h) k_Z_hour_110 n 110 ls st M Q o_Z_hour_110 h
def k_Z_hour_126 : List am_I := [(.aload_n 0, 1, 0, 0, 0), (.getfield 7, 3, 4, 1, 728), (.iconst 0, 1, 0, 0, 0), (.dup2, 1, 0, 0, 0), (.iaload, 1, 0, 0, 0), (.iconst 1, 1, 0, 0, 0), (.iadd, 1, 0, 0, 0), (.iastore, 1, 0, 0, 0), (.return_, 1, 0, 0, 0)]
set_option maxRecDepth 20000 in
theorem o_Z_hour_126 : am_okB mt_Z_hour 126 k_Z_hour_126 = true := by decide +kernel
theorem g_Z_hour_126 {L : am_S} {n : Nat} {ls st : List Value} {M : am_M} {Q : am_Q} (h : am_B L mt_Z_hour k_Z_hour_126 n 126 ls st M Q) : am_R L mt_Z_hour n 126 ls st M Q := am_go L mt_Z_hour (fun h => by cases h) k_Z_hour_126 n 126 ls st M Q o_Z_hour_126 h
def k_Z_hours_0 : List am_I := [(.iconst 0, 1, 0, 0, 0), (.istore_n 2, 1, 0, 0, 0)]
set_option maxRecDepth 20000 in
theorem o_Z_hours_0 : am_okB mt_Z_hours 0 k_Z_hours_0 = true := by decide +kernel
theorem g_Z_hours_0 {L : am_S} {n : Nat} {ls st : List Value} {M : am_M} {Q : am_Q} (h : am_B L mt_Z_hours k_Z_hours_0 n 0 ls st M Q) : am_R L mt_Z_hours n 0 ls st M Q := am_go L mt_Z_hours (fun h => by cases h) k_Z_hours_0 n 0 ls st M Q o_Z_hours_0 h
def k_Z_hours_2 : List am_I := [(.iload_n 2, 1, 0, 0, 0), (.iload_n 1, 1, 0, 0, 0), (.if_icmp .ge 13, 3, 0, 0, 0), (.aload_n 0, 1, 0, 0, 0), (.invokevirtual 111, 3, 107, 1, 884), (.iinc 2 1, 3, 0, 0, 0), (.goto (-12), 3, 0, 0, 0)]
set_option maxRecDepth 20000 in
theorem o_Z_hours_2 : am_okB mt_Z_hours 2 k_Z_hours_2 = true := by decide +kernel
theorem g_Z_hours_2 {L : am_S} {n : Nat} {ls st : List Value} {M : am_M} {Q : am_Q} (h : am_B L mt_Z_hours k_Z_hours_2 n 2 ls st M Q) : am_R L mt_Z_hours n 2 ls st M Q := am_go L mt_Z_hours (fun h => by cases h) k_Z_hours_2 n 2 ls st M Q o_Z_hours_2 h
def k_Z_hours_17 : List am_I := [(.return_, 1, 0, 0, 0)]
set_option maxRecDepth 20000 in
theorem o_Z_hours_17 : am_okB mt_Z_hours 17 k_Z_hours_17 = true := by decide +kernel
theorem g_Z_hours_17 {L : am_S} {n : Nat} {ls st : List Value} {M : am_M} {Q : am_Q} (h : am_B L mt_Z_hours k_Z_hours_17 n 17 ls st M Q) : am_R L mt_Z_hours n 17 ls st M Q := am_go L mt_Z_hours (fun h => by cases h) k_Z_hours_17 n 17 ls st M Q o_Z_hours_17 h
def k_Z_pass_0 : List am_I := [(.aload_n 0, 1, 0, 0, 0), (.iload_n 1, 1, 0, 0, 0), (.iconst 1, 1, 0, 0, 0), (.sipush 240, 3, 0, 0, 0), (.invokestatic 43, 3, 75, 3, 791), (.ifCond .ne 7, 3, 0, 0, 0), (.iconst 1, 1, 0, 0, 0), (.goto 21, 3, 0, 0, 0)]
set_option maxRecDepth 20000 in
theorem o_Z_pass_0 : am_okB mt_Z_pass 0 k_Z_pass_0 = true := by decide +kernel
theorem g_Z_pass_0 {L : am_S} {n : Nat} {ls st : List Value} {M : am_M} {Q : am_Q} (h : am_B L mt_Z_pass k_Z_pass_0 n 0 ls st M Q) : am_R L mt_Z_pass n 0 ls st M Q := am_go L mt_Z_pass (fun h => by cases h) k_Z_pass_0 n 0 ls st M Q o_Z_pass_0 h
def k_Z_pass_16 : List am_I := [(.aload_n 0, 1, 0, 0, 0), (.getfield 7, 3, 4, 1, 728), (.iconst 0, 1, 0, 0, 0), (.iaload, 1, 0, 0, 0), (.iload_n 1, 1, 0, 0, 0), (.iadd, 1, 0, 0, 0), (.ldc 74, 2, 99999, 0, 828), (.if_icmp .le 7, 3, 0, 0, 0), (.iconst 2, 1, 0, 0, 0), (.goto 4, 3, 0, 0, 0)]
set_option maxRecDepth 20000 in
theorem o_Z_pass_16 : am_okB mt_Z_pass 16 k_Z_pass_16 = true := by decide +kernel
theorem g_Z_pass_16 {L : am_S} {n : Nat} {ls st : List Value} {M : am_M} {Q : am_Q} (h : am_B L mt_Z_pass k_Z_pass_16 n 16 ls st M Q) : am_R L mt_Z_pass n 16 ls st M Q := am_go L mt_Z_pass (fun h => by cases h) k_Z_pass_16 n 16 ls st M Q o_Z_pass_16 h
def k_Z_pass_33 : List am_I := [(.iconst 0, 1, 0, 0, 0)]
set_option maxRecDepth 20000 in
theorem o_Z_pass_33 : am_okB mt_Z_pass 33 k_Z_pass_33 = true := by decide +kernel
theorem g_Z_pass_33 {L : am_S} {n : Nat} {ls st : List Value} {M : am_M} {Q : am_Q} (h : am_B L mt_Z_pass k_Z_pass_33 n 33 ls st M Q) : am_R L mt_Z_pass n 33 ls st M Q := am_go L mt_Z_pass (fun h => by cases h) k_Z_pass_33 n 33 ls st M Q o_Z_pass_33 h
def k_Z_pass_34 : List am_I := [(.putfield 39, 3, 4, 0, 727), (.aload_n 0, 1, 0, 0, 0), (.getfield 39, 3, 4, 0, 727), (.ifCond .le 5, 3, 0, 0, 0), (.iconst 0, 1, 0, 0, 0), (.ireturn, 1, 0, 0, 0)]
set_option maxRecDepth 20000 in
theorem o_Z_pass_34 : am_okB mt_Z_pass 34 k_Z_pass_34 = true := by decide +kernel
theorem g_Z_pass_34 {L : am_S} {n : Nat} {ls st : List Value} {M : am_M} {Q : am_Q} (h : am_B L mt_Z_pass k_Z_pass_34 n 34 ls st M Q) : am_R L mt_Z_pass n 34 ls st M Q := am_go L mt_Z_pass (fun h => by cases h) k_Z_pass_34 n 34 ls st M Q o_Z_pass_34 h
def k_Z_pass_46 : List am_I := [(.aload_n 0, 1, 0, 0, 0), (.invokevirtual 61, 3, 87, 1, 802), (.aload_n 0, 1, 0, 0, 0), (.getfield 7, 3, 4, 1, 728), (.iconst 2, 1, 0, 0, 0), (.iaload, 1, 0, 0, 0), (.istore_n 2, 1, 0, 0, 0), (.aload_n 0, 1, 0, 0, 0), (.iload_n 1, 1, 0, 0, 0), (.invokevirtual 114, 3, 108, 2, 880), (.aload_n 0, 1, 0, 0, 0), (.getfield 7, 3, 4, 1, 728), (.iconst 2, 1, 0, 0, 0), (.iaload, 1, 0, 0, 0), (.iload_n 2, 1, 0, 0, 0), (.isub, 1, 0, 0, 0), (.ireturn, 1, 0, 0, 0)]
set_option maxRecDepth 20000 in
theorem o_Z_pass_46 : am_okB mt_Z_pass 46 k_Z_pass_46 = true := by decide +kernel
theorem g_Z_pass_46 {L : am_S} {n : Nat} {ls st : List Value} {M : am_M} {Q : am_Q} (h : am_B L mt_Z_pass k_Z_pass_46 n 46 ls st M Q) : am_R L mt_Z_pass n 46 ls st M Q := am_go L mt_Z_pass (fun h => by cases h) k_Z_pass_46 n 46 ls st M Q o_Z_pass_46 h
def k_Z_append_0 : List am_I := [(.aload_n 0, 1, 0, 0, 0), (.iload_n 1, 1, 0, 0, 0), (.bipush 33, 2, 0, 0, 0), (.bipush 126, 2, 0, 0, 0), (.invokestatic 43, 3, 75, 3, 791), (.ifCond .ne 7, 3, 0, 0, 0), (.iconst 1, 1, 0, 0, 0), (.goto 17, 3, 0, 0, 0)]
set_option maxRecDepth 20000 in
theorem o_Z_append_0 : am_okB mt_Z_append 0 k_Z_append_0 = true := by decide +kernel
theorem g_Z_append_0 {L : am_S} {n : Nat} {ls st : List Value} {M : am_M} {Q : am_Q} (h : am_B L mt_Z_append k_Z_append_0 n 0 ls st M Q) : am_R L mt_Z_append n 0 ls st M Q := am_go L mt_Z_append (fun h => by cases h) k_Z_append_0 n 0 ls st M Q o_Z_append_0 h
def k_Z_append_16 : List am_I := [(.aload_n 0, 1, 0, 0, 0), (.getfield 117, 3, 4, 8, 735), (.bipush 60, 2, 0, 0, 0), (.if_icmp .ne 7, 3, 0, 0, 0), (.iconst 2, 1, 0, 0, 0), (.goto 4, 3, 0, 0, 0)]
set_option maxRecDepth 20000 in
theorem o_Z_append_16 : am_okB mt_Z_append 16 k_Z_append_16 = true := by decide +kernel
theorem g_Z_append_16 {L : am_S} {n : Nat} {ls st : List Value} {M : am_M} {Q : am_Q} (h : am_B L mt_Z_append k_Z_append_16 n 16 ls st M Q) : am_R L mt_Z_append n 16 ls st M Q := am_go L mt_Z_append (fun h => by cases h) k_Z_append_16 n 16 ls st M Q o_Z_append_16 h
def k_Z_append_29 : List am_I := [(.iconst 0, 1, 0, 0, 0)]
set_option maxRecDepth 20000 in
theorem o_Z_append_29 : am_okB mt_Z_append 29 k_Z_append_29 = true := by decide +kernel
theorem g_Z_append_29 {L : am_S} {n : Nat} {ls st : List Value} {M : am_M} {Q : am_Q} (h : am_B L mt_Z_append k_Z_append_29 n 29 ls st M Q) : am_R L mt_Z_append n 29 ls st M Q := am_go L mt_Z_append (fun h => by cases h) k_Z_append_29 n 29 ls st M Q o_Z_append_29 h
def k_Z_append_30 : List am_I := [(.putfield 39, 3, 4, 0, 727), (.aload_n 0, 1, 0, 0, 0), (.getfield 39, 3, 4, 0, 727), (.ifCond .le 5, 3, 0, 0, 0), (.iconst 0, 1, 0, 0, 0), (.ireturn, 1, 0, 0, 0)]
set_option maxRecDepth 20000 in
theorem o_Z_append_30 : am_okB mt_Z_append 30 k_Z_append_30 = true := by decide +kernel
theorem g_Z_append_30 {L : am_S} {n : Nat} {ls st : List Value} {M : am_M} {Q : am_Q} (h : am_B L mt_Z_append k_Z_append_30 n 30 ls st M Q) : am_R L mt_Z_append n 30 ls st M Q := am_go L mt_Z_append (fun h => by cases h) k_Z_append_30 n 30 ls st M Q o_Z_append_30 h
def k_Z_append_42 : List am_I := [(.aload_n 0, 1, 0, 0, 0), (.getfield 26, 3, 4, 7, 734), (.aload_n 0, 1, 0, 0, 0), (.getfield 117, 3, 4, 8, 735), (.iload_n 1, 1, 0, 0, 0), (.iastore, 1, 0, 0, 0), (.aload_n 0, 1, 0, 0, 0), (.dup, 1, 0, 0, 0), (.getfield 117, 3, 4, 8, 735), (.iconst 1, 1, 0, 0, 0), (.iadd, 1, 0, 0, 0), (.putfield 117, 3, 4, 8, 735), (.aload_n 0, 1, 0, 0, 0), (.getfield 117, 3, 4, 8, 735), (.ireturn, 1, 0, 0, 0)]
set_option maxRecDepth 20000 in
theorem o_Z_append_42 : am_okB mt_Z_append 42 k_Z_append_42 = true := by decide +kernel
theorem g_Z_append_42 {L : am_S} {n : Nat} {ls st : List Value} {M : am_M} {Q : am_Q} (h : am_B L mt_Z_append k_Z_append_42 n 42 ls st M Q) : am_R L mt_Z_append n 42 ls st M Q := am_go L mt_Z_append (fun h => by cases h) k_Z_append_42 n 42 ls st M Q o_Z_append_42 h
def k_Z_clearBuffer_0 : List am_I := [(.aload_n 0, 1, 0, 0, 0), (.iconst 0, 1, 0, 0, 0), (.putfield 39, 3, 4, 0, 727), (.aload_n 0, 1, 0, 0, 0), (.getfield 117, 3, 4, 8, 735), (.istore_n 1, 1, 0, 0, 0), (.aload_n 0, 1, 0, 0, 0), (.iconst 0, 1, 0, 0, 0), (.putfield 117, 3, 4, 8, 735), (.iload_n 1, 1, 0, 0, 0), (.ireturn, 1, 0, 0, 0)]
set_option maxRecDepth 20000 in
theorem o_Z_clearBuffer_0 : am_okB mt_Z_clearBuffer 0 k_Z_clearBuffer_0 = true := by decide +kernel
theorem g_Z_clearBuffer_0 {L : am_S} {n : Nat} {ls st : List Value} {M : am_M} {Q : am_Q} (h : am_B L mt_Z_clearBuffer k_Z_clearBuffer_0 n 0 ls st M Q) : am_R L mt_Z_clearBuffer n 0 ls st M Q := am_go L mt_Z_clearBuffer (fun h => by cases h) k_Z_clearBuffer_0 n 0 ls st M Q o_Z_clearBuffer_0 h
def k_Z_sign_0 : List am_I := [(.aload_n 0, 1, 0, 0, 0), (.getfield 120, 3, 4, 14, 741), (.aload_n 0, 1, 0, 0, 0), (.getfield 117, 3, 4, 8, 735), (.if_icmp .ge 15, 3, 0, 0, 0), (.aload_n 0, 1, 0, 0, 0), (.getfield 26, 3, 4, 7, 734), (.aload_n 0, 1, 0, 0, 0), (.getfield 120, 3, 4, 14, 741), (.iaload, 1, 0, 0, 0), (.goto 4, 3, 0, 0, 0)]
set_option maxRecDepth 20000 in
theorem o_Z_sign_0 : am_okB mt_Z_sign 0 k_Z_sign_0 = true := by decide +kernel
theorem g_Z_sign_0 {L : am_S} {n : Nat} {ls st : List Value} {M : am_M} {Q : am_Q} (h : am_B L mt_Z_sign k_Z_sign_0 n 0 ls st M Q) : am_R L mt_Z_sign n 0 ls st M Q := am_go L mt_Z_sign (fun h => by cases h) k_Z_sign_0 n 0 ls st M Q o_Z_sign_0 h
def k_Z_sign_23 : List am_I := [(.iconst 0, 1, 0, 0, 0)]
set_option maxRecDepth 20000 in
theorem o_Z_sign_23 : am_okB mt_Z_sign 23 k_Z_sign_23 = true := by decide +kernel
theorem g_Z_sign_23 {L : am_S} {n : Nat} {ls st : List Value} {M : am_M} {Q : am_Q} (h : am_B L mt_Z_sign k_Z_sign_23 n 23 ls st M Q) : am_R L mt_Z_sign n 23 ls st M Q := am_go L mt_Z_sign (fun h => by cases h) k_Z_sign_23 n 23 ls st M Q o_Z_sign_23 h
def k_Z_sign_24 : List am_I := [(.ireturn, 1, 0, 0, 0)]
set_option maxRecDepth 20000 in
theorem o_Z_sign_24 : am_okB mt_Z_sign 24 k_Z_sign_24 = true := by decide +kernel
theorem g_Z_sign_24 {L : am_S} {n : Nat} {ls st : List Value} {M : am_M} {Q : am_Q} (h : am_B L mt_Z_sign k_Z_sign_24 n 24 ls st M Q) : am_R L mt_Z_sign n 24 ls st M Q := am_go L mt_Z_sign (fun h => by cases h) k_Z_sign_24 n 24 ls st M Q o_Z_sign_24 h
def k_Z_take_0 : List am_I := [(.aload_n 0, 1, 0, 0, 0), (.aload_n 0, 1, 0, 0, 0), (.getfield 123, 3, 4, 15, 742), (.ifCond .ne 7, 3, 0, 0, 0), (.iload_n 1, 1, 0, 0, 0), (.ifCond .ne 7, 3, 0, 0, 0)]
set_option maxRecDepth 20000 in
theorem o_Z_take_0 : am_okB mt_Z_take 0 k_Z_take_0 = true := by decide +kernel
theorem g_Z_take_0 {L : am_S} {n : Nat} {ls st : List Value} {M : am_M} {Q : am_Q} (h : am_B L mt_Z_take k_Z_take_0 n 0 ls st M Q) : am_R L mt_Z_take n 0 ls st M Q := am_go L mt_Z_take (fun h => by cases h) k_Z_take_0 n 0 ls st M Q o_Z_take_0 h
def k_Z_take_12 : List am_I := [(.iconst 1, 1, 0, 0, 0), (.goto 4, 3, 0, 0, 0)]
set_option maxRecDepth 20000 in
theorem o_Z_take_12 : am_okB mt_Z_take 12 k_Z_take_12 = true := by decide +kernel
theorem g_Z_take_12 {L : am_S} {n : Nat} {ls st : List Value} {M : am_M} {Q : am_Q} (h : am_B L mt_Z_take k_Z_take_12 n 12 ls st M Q) : am_R L mt_Z_take n 12 ls st M Q := am_go L mt_Z_take (fun h => by cases h) k_Z_take_12 n 12 ls st M Q o_Z_take_12 h
def k_Z_take_16 : List am_I := [(.iconst 0, 1, 0, 0, 0)]
set_option maxRecDepth 20000 in
theorem o_Z_take_16 : am_okB mt_Z_take 16 k_Z_take_16 = true := by decide +kernel
theorem g_Z_take_16 {L : am_S} {n : Nat} {ls st : List Value} {M : am_M} {Q : am_Q} (h : am_B L mt_Z_take k_Z_take_16 n 16 ls st M Q) : am_R L mt_Z_take n 16 ls st M Q := am_go L mt_Z_take (fun h => by cases h) k_Z_take_16 n 16 ls st M Q o_Z_take_16 h
def k_Z_take_17 : List am_I := [(.putfield 123, 3, 4, 15, 742), (.aload_n 0, 1, 0, 0, 0), (.dup, 1, 0, 0, 0), (.getfield 120, 3, 4, 14, 741), (.aload_n 0, 1, 0, 0, 0), (.getfield 123, 3, 4, 15, 742), (.ifCond .eq 7, 3, 0, 0, 0), (.iconst 0, 1, 0, 0, 0), (.goto 4, 3, 0, 0, 0)]
set_option maxRecDepth 20000 in
theorem o_Z_take_17 : am_okB mt_Z_take 17 k_Z_take_17 = true := by decide +kernel
theorem g_Z_take_17 {L : am_S} {n : Nat} {ls st : List Value} {M : am_M} {Q : am_Q} (h : am_B L mt_Z_take k_Z_take_17 n 17 ls st M Q) : am_R L mt_Z_take n 17 ls st M Q := am_go L mt_Z_take (fun h => by cases h) k_Z_take_17 n 17 ls st M Q o_Z_take_17 h
def k_Z_take_36 : List am_I := [(.iconst 1, 1, 0, 0, 0)]
set_option maxRecDepth 20000 in
theorem o_Z_take_36 : am_okB mt_Z_take 36 k_Z_take_36 = true := by decide +kernel
theorem g_Z_take_36 {L : am_S} {n : Nat} {ls st : List Value} {M : am_M} {Q : am_Q} (h : am_B L mt_Z_take k_Z_take_36 n 36 ls st M Q) : am_R L mt_Z_take n 36 ls st M Q := am_go L mt_Z_take (fun h => by cases h) k_Z_take_36 n 36 ls st M Q o_Z_take_36 h
def k_Z_take_37 : List am_I := [(.iadd, 1, 0, 0, 0), (.putfield 120, 3, 4, 14, 741), (.return_, 1, 0, 0, 0)]
set_option maxRecDepth 20000 in
theorem o_Z_take_37 : am_okB mt_Z_take 37 k_Z_take_37 = true := by decide +kernel
theorem g_Z_take_37 {L : am_S} {n : Nat} {ls st : List Value} {M : am_M} {Q : am_Q} (h : am_B L mt_Z_take k_Z_take_37 n 37 ls st M Q) : am_R L mt_Z_take n 37 ls st M Q := am_go L mt_Z_take (fun h => by cases h) k_Z_take_37 n 37 ls st M Q o_Z_take_37 h
def k_Z_takeSign_0 : List am_I := [(.aload_n 0, 1, 0, 0, 0), (.aload_n 0, 1, 0, 0, 0), (.invokevirtual 127, 3, 112, 1, 932), (.iload_n 1, 1, 0, 0, 0), (.if_icmp .ne 7, 3, 0, 0, 0), (.iconst 1, 1, 0, 0, 0), (.goto 4, 3, 0, 0, 0)]
set_option maxRecDepth 20000 in
theorem o_Z_takeSign_0 : am_okB mt_Z_takeSign 0 k_Z_takeSign_0 = true := by decide +kernel
theorem g_Z_takeSign_0 {L : am_S} {n : Nat} {ls st : List Value} {M : am_M} {Q : am_Q} (h : am_B L mt_Z_takeSign k_Z_takeSign_0 n 0 ls st M Q) : am_R L mt_Z_takeSign n 0 ls st M Q := am_go L mt_Z_takeSign (fun h => by cases h) k_Z_takeSign_0 n 0 ls st M Q o_Z_takeSign_0 h
def k_Z_takeSign_13 : List am_I := [(.iconst 0, 1, 0, 0, 0)]
set_option maxRecDepth 20000 in
theorem o_Z_takeSign_13 : am_okB mt_Z_takeSign 13 k_Z_takeSign_13 = true := by decide +kernel
theorem g_Z_takeSign_13 {L : am_S} {n : Nat} {ls st : List Value} {M : am_M} {Q : am_Q} (h : am_B L mt_Z_takeSign k_Z_takeSign_13 n 13 ls st M Q) : am_R L mt_Z_takeSign n 13 ls st M Q := am_go L mt_Z_takeSign (fun h => by cases h) k_Z_takeSign_13 n 13 ls st M Q o_Z_takeSign_13 h
def k_Z_takeSign_14 : List am_I := [(.invokevirtual 130, 3, 113, 2, 936), (.return_, 1, 0, 0, 0)]
set_option maxRecDepth 20000 in
theorem o_Z_takeSign_14 : am_okB mt_Z_takeSign 14 k_Z_takeSign_14 = true := by decide +kernel
theorem g_Z_takeSign_14 {L : am_S} {n : Nat} {ls st : List Value} {M : am_M} {Q : am_Q} (h : am_B L mt_Z_takeSign k_Z_takeSign_14 n 14 ls st M Q) : am_R L mt_Z_takeSign n 14 ls st M Q := am_go L mt_Z_takeSign (fun h => by cases h) k_Z_takeSign_14 n 14 ls st M Q o_Z_takeSign_14 h
def k_Z_takeVat_0 : List am_I := [(.aload_n 0, 1, 0, 0, 0), (.aload_n 0, 1, 0, 0, 0), (.invokevirtual 127, 3, 112, 1, 932), (.bipush 48, 2, 0, 0, 0), (.isub, 1, 0, 0, 0), (.putfield 134, 3, 4, 16, 743), (.aload_n 0, 1, 0, 0, 0), (.aload_n 0, 1, 0, 0, 0), (.getfield 134, 3, 4, 16, 743), (.iconst 0, 1, 0, 0, 0), (.iload_n 1, 1, 0, 0, 0), (.invokestatic 43, 3, 75, 3, 791), (.ifCond .eq 15, 3, 0, 0, 0), (.aload_n 0, 1, 0, 0, 0), (.getfield 134, 3, 4, 16, 743), (.iload_n 2, 1, 0, 0, 0), (.if_icmp .eq 7, 3, 0, 0, 0), (.iconst 1, 1, 0, 0, 0), (.goto 4, 3, 0, 0, 0)]
set_option maxRecDepth 20000 in
theorem o_Z_takeVat_0 : am_okB mt_Z_takeVat 0 k_Z_takeVat_0 = true := by decide +kernel
theorem g_Z_takeVat_0 {L : am_S} {n : Nat} {ls st : List Value} {M : am_M} {Q : am_Q} (h : am_B L mt_Z_takeVat k_Z_takeVat_0 n 0 ls st M Q) : am_R L mt_Z_takeVat n 0 ls st M Q := am_go L mt_Z_takeVat (fun h => by cases h) k_Z_takeVat_0 n 0 ls st M Q o_Z_takeVat_0 h
def k_Z_takeVat_36 : List am_I := [(.iconst 0, 1, 0, 0, 0)]
set_option maxRecDepth 20000 in
theorem o_Z_takeVat_36 : am_okB mt_Z_takeVat 36 k_Z_takeVat_36 = true := by decide +kernel
theorem g_Z_takeVat_36 {L : am_S} {n : Nat} {ls st : List Value} {M : am_M} {Q : am_Q} (h : am_B L mt_Z_takeVat k_Z_takeVat_36 n 36 ls st M Q) : am_R L mt_Z_takeVat n 36 ls st M Q := am_go L mt_Z_takeVat (fun h => by cases h) k_Z_takeVat_36 n 36 ls st M Q o_Z_takeVat_36 h
def k_Z_takeVat_37 : List am_I := [(.invokevirtual 130, 3, 113, 2, 936), (.return_, 1, 0, 0, 0)]
set_option maxRecDepth 20000 in
theorem o_Z_takeVat_37 : am_okB mt_Z_takeVat 37 k_Z_takeVat_37 = true := by decide +kernel
theorem g_Z_takeVat_37 {L : am_S} {n : Nat} {ls st : List Value} {M : am_M} {Q : am_Q} (h : am_B L mt_Z_takeVat k_Z_takeVat_37 n 37 ls st M Q) : am_R L mt_Z_takeVat n 37 ls st M Q := am_go L mt_Z_takeVat (fun h => by cases h) k_Z_takeVat_37 n 37 ls st M Q o_Z_takeVat_37 h
def k_Z_canGoOn_0 : List am_I := [(.iload_n 0, 1, 0, 0, 0), (.ifCond .le 26, 3, 0, 0, 0), (.bipush 10, 2, 0, 0, 0), (.iload_n 0, 1, 0, 0, 0), (.imul, 1, 0, 0, 0), (.iload_n 2, 1, 0, 0, 0), (.if_icmp .gt 18, 3, 0, 0, 0), (.bipush 10, 2, 0, 0, 0), (.iload_n 0, 1, 0, 0, 0), (.imul, 1, 0, 0, 0), (.bipush 9, 2, 0, 0, 0), (.iadd, 1, 0, 0, 0), (.iload_n 1, 1, 0, 0, 0), (.if_icmp .lt 7, 3, 0, 0, 0), (.iconst 1, 1, 0, 0, 0), (.goto 4, 3, 0, 0, 0)]
set_option maxRecDepth 20000 in
theorem o_Z_canGoOn_0 : am_okB mt_Z_canGoOn 0 k_Z_canGoOn_0 = true := by decide +kernel
theorem g_Z_canGoOn_0 {L : am_S} {n : Nat} {ls st : List Value} {M : am_M} {Q : am_Q} (h : am_B L mt_Z_canGoOn k_Z_canGoOn_0 n 0 ls st M Q) : am_R L mt_Z_canGoOn n 0 ls st M Q := am_go L mt_Z_canGoOn (fun h => by cases h) k_Z_canGoOn_0 n 0 ls st M Q o_Z_canGoOn_0 h
def k_Z_canGoOn_27 : List am_I := [(.iconst 0, 1, 0, 0, 0)]
set_option maxRecDepth 20000 in
theorem o_Z_canGoOn_27 : am_okB mt_Z_canGoOn 27 k_Z_canGoOn_27 = true := by decide +kernel
theorem g_Z_canGoOn_27 {L : am_S} {n : Nat} {ls st : List Value} {M : am_M} {Q : am_Q} (h : am_B L mt_Z_canGoOn k_Z_canGoOn_27 n 27 ls st M Q) : am_R L mt_Z_canGoOn n 27 ls st M Q := am_go L mt_Z_canGoOn (fun h => by cases h) k_Z_canGoOn_27 n 27 ls st M Q o_Z_canGoOn_27 h
def k_Z_canGoOn_28 : List am_I := [(.ireturn, 1, 0, 0, 0)]
set_option maxRecDepth 20000 in
theorem o_Z_canGoOn_28 : am_okB mt_Z_canGoOn 28 k_Z_canGoOn_28 = true := by decide +kernel
theorem g_Z_canGoOn_28 {L : am_S} {n : Nat} {ls st : List Value} {M : am_M} {Q : am_Q} (h : am_B L mt_Z_canGoOn k_Z_canGoOn_28 n 28 ls st M Q) : am_R L mt_Z_canGoOn n 28 ls st M Q := am_go L mt_Z_canGoOn (fun h => by cases h) k_Z_canGoOn_28 n 28 ls st M Q o_Z_canGoOn_28 h
def k_Z_takeRate_0 : List am_I := [(.aload_n 0, 1, 0, 0, 0), (.aload_n 0, 1, 0, 0, 0), (.invokevirtual 127, 3, 112, 1, 932), (.bipush 48, 2, 0, 0, 0), (.isub, 1, 0, 0, 0), (.putfield 134, 3, 4, 16, 743), (.aload_n 0, 1, 0, 0, 0), (.aload_n 0, 1, 0, 0, 0), (.getfield 134, 3, 4, 16, 743), (.iconst 1, 1, 0, 0, 0), (.bipush 9, 2, 0, 0, 0), (.invokestatic 43, 3, 75, 3, 791), (.invokevirtual 130, 3, 113, 2, 936)]
set_option maxRecDepth 20000 in
theorem o_Z_takeRate_0 : am_okB mt_Z_takeRate 0 k_Z_takeRate_0 = true := by decide +kernel
theorem g_Z_takeRate_0 {L : am_S} {n : Nat} {ls st : List Value} {M : am_M} {Q : am_Q} (h : am_B L mt_Z_takeRate k_Z_takeRate_0 n 0 ls st M Q) : am_R L mt_Z_takeRate n 0 ls st M Q := am_go L mt_Z_takeRate (fun h => by cases h) k_Z_takeRate_0 n 0 ls st M Q o_Z_takeRate_0 h
def k_Z_takeRate_25 : List am_I := [(.aload_n 0, 1, 0, 0, 0), (.getfield 123, 3, 4, 15, 742), (.ifCond .ne 70, 3, 0, 0, 0), (.aload_n 0, 1, 0, 0, 0), (.invokevirtual 127, 3, 112, 1, 932), (.bipush 48, 2, 0, 0, 0), (.bipush 57, 2, 0, 0, 0), (.invokestatic 43, 3, 75, 3, 791), (.ifCond .eq 56, 3, 0, 0, 0), (.bipush 10, 2, 0, 0, 0), (.aload_n 0, 1, 0, 0, 0), (.getfield 134, 3, 4, 16, 743), (.imul, 1, 0, 0, 0), (.aload_n 0, 1, 0, 0, 0), (.invokevirtual 127, 3, 112, 1, 932), (.iadd, 1, 0, 0, 0), (.bipush 48, 2, 0, 0, 0), (.isub, 1, 0, 0, 0), (.sipush 500, 3, 0, 0, 0), (.if_icmp .gt 35, 3, 0, 0, 0), (.aload_n 0, 1, 0, 0, 0), (.bipush 10, 2, 0, 0, 0), (.aload_n 0, 1, 0, 0, 0), (.getfield 134, 3, 4, 16, 743), (.imul, 1, 0, 0, 0), (.aload_n 0, 1, 0, 0, 0), (.invokevirtual 127, 3, 112, 1, 932), (.iadd, 1, 0, 0, 0), (.bipush 48, 2, 0, 0, 0), (.isub, 1, 0, 0, 0), (.putfield 134, 3, 4, 16, 743), (.aload_n 0, 1, 0, 0, 0), (.dup, 1, 0, 0, 0), (.getfield 120, 3, 4, 14, 741), (.iconst 1, 1, 0, 0, 0), (.iadd, 1, 0, 0, 0), (.putfield 120, 3, 4, 14, 741), (.goto (-71), 3, 0, 0, 0)]
set_option maxRecDepth 20000 in
theorem o_Z_takeRate_25 : am_okB mt_Z_takeRate 25 k_Z_takeRate_25 = true := by decide +kernel
theorem g_Z_takeRate_25 {L : am_S} {n : Nat} {ls st : List Value} {M : am_M} {Q : am_Q} (h : am_B L mt_Z_takeRate k_Z_takeRate_25 n 25 ls st M Q) : am_R L mt_Z_takeRate n 25 ls st M Q := am_go L mt_Z_takeRate (fun h => by cases h) k_Z_takeRate_25 n 25 ls st M Q o_Z_takeRate_25 h
def k_Z_takeRate_99 : List am_I := [(.return_, 1, 0, 0, 0)]
set_option maxRecDepth 20000 in
theorem o_Z_takeRate_99 : am_okB mt_Z_takeRate 99 k_Z_takeRate_99 = true := by decide +kernel
theorem g_Z_takeRate_99 {L : am_S} {n : Nat} {ls st : List Value} {M : am_M} {Q : am_Q} (h : am_B L mt_Z_takeRate k_Z_takeRate_99 n 99 ls st M Q) : am_R L mt_Z_takeRate n 99 ls st M Q := am_go L mt_Z_takeRate (fun h => by cases h) k_Z_takeRate_99 n 99 ls st M Q o_Z_takeRate_99 h
def k_Z_takeHour_0 : List am_I := [(.bipush 23, 2, 0, 0, 0), (.istore_n 2, 1, 0, 0, 0), (.aload_n 0, 1, 0, 0, 0), (.invokevirtual 127, 3, 112, 1, 932), (.bipush 48, 2, 0, 0, 0), (.isub, 1, 0, 0, 0), (.istore_n 3, 1, 0, 0, 0), (.iload_n 3, 1, 0, 0, 0), (.iload_n 1, 1, 0, 0, 0), (.iload_n 2, 1, 0, 0, 0), (.invokestatic 43, 3, 75, 3, 791), (.ifCond .eq 13, 3, 0, 0, 0), (.iload_n 3, 1, 0, 0, 0), (.bipush 10, 2, 0, 0, 0), (.if_icmp .ge 7, 3, 0, 0, 0), (.iconst 1, 1, 0, 0, 0), (.goto 4, 3, 0, 0, 0)]
set_option maxRecDepth 20000 in
theorem o_Z_takeHour_0 : am_okB mt_Z_takeHour 0 k_Z_takeHour_0 = true := by decide +kernel
theorem g_Z_takeHour_0 {L : am_S} {n : Nat} {ls st : List Value} {M : am_M} {Q : am_Q} (h : am_B L mt_Z_takeHour k_Z_takeHour_0 n 0 ls st M Q) : am_R L mt_Z_takeHour n 0 ls st M Q := am_go L mt_Z_takeHour (fun h => by cases h) k_Z_takeHour_0 n 0 ls st M Q o_Z_takeHour_0 h
def k_Z_takeHour_30 : List am_I := [(.iconst 0, 1, 0, 0, 0)]
set_option maxRecDepth 20000 in
theorem o_Z_takeHour_30 : am_okB mt_Z_takeHour 30 k_Z_takeHour_30 = true := by decide +kernel
theorem g_Z_takeHour_30 {L : am_S} {n : Nat} {ls st : List Value} {M : am_M} {Q : am_Q} (h : am_B L mt_Z_takeHour k_Z_takeHour_30 n 30 ls st M Q) : am_R L mt_Z_takeHour n 30 ls st M Q := am_go L mt_Z_takeHour (fun h => by cases h) k_Z_takeHour_30 n 30 ls st M Q o_Z_takeHour_30 h
def k_Z_takeHour_31 : List am_I := [(.istore 4, 2, 0, 0, 0), (.aload_n 0, 1, 0, 0, 0), (.iload_n 3, 1, 0, 0, 0), (.putfield 134, 3, 4, 16, 743), (.aload_n 0, 1, 0, 0, 0), (.iload_n 3, 1, 0, 0, 0), (.iconst 0, 1, 0, 0, 0), (.bipush 9, 2, 0, 0, 0), (.invokestatic 43, 3, 75, 3, 791), (.ifCond .eq 21, 3, 0, 0, 0), (.iload 4, 2, 0, 0, 0), (.ifCond .ne 12, 3, 0, 0, 0), (.iload_n 3, 1, 0, 0, 0), (.iload_n 1, 1, 0, 0, 0), (.iload_n 2, 1, 0, 0, 0), (.invokestatic 137, 3, 116, 3, 952), (.ifCond .eq 7, 3, 0, 0, 0)]
set_option maxRecDepth 20000 in
theorem o_Z_takeHour_31 : am_okB mt_Z_takeHour 31 k_Z_takeHour_31 = true := by decide +kernel
theorem g_Z_takeHour_31 {L : am_S} {n : Nat} {ls st : List Value} {M : am_M} {Q : am_Q} (h : am_B L mt_Z_takeHour k_Z_takeHour_31 n 31 ls st M Q) : am_R L mt_Z_takeHour n 31 ls st M Q := am_go L mt_Z_takeHour (fun h => by cases h) k_Z_takeHour_31 n 31 ls st M Q o_Z_takeHour_31 h
def k_Z_takeHour_63 : List am_I := [(.iconst 1, 1, 0, 0, 0), (.goto 4, 3, 0, 0, 0)]
set_option maxRecDepth 20000 in
theorem o_Z_takeHour_63 : am_okB mt_Z_takeHour 63 k_Z_takeHour_63 = true := by decide +kernel
theorem g_Z_takeHour_63 {L : am_S} {n : Nat} {ls st : List Value} {M : am_M} {Q : am_Q} (h : am_B L mt_Z_takeHour k_Z_takeHour_63 n 63 ls st M Q) : am_R L mt_Z_takeHour n 63 ls st M Q := am_go L mt_Z_takeHour (fun h => by cases h) k_Z_takeHour_63 n 63 ls st M Q o_Z_takeHour_63 h
def k_Z_takeHour_67 : List am_I := [(.iconst 0, 1, 0, 0, 0)]
set_option maxRecDepth 20000 in
theorem o_Z_takeHour_67 : am_okB mt_Z_takeHour 67 k_Z_takeHour_67 = true := by decide +kernel
theorem g_Z_takeHour_67 {L : am_S} {n : Nat} {ls st : List Value} {M : am_M} {Q : am_Q} (h : am_B L mt_Z_takeHour k_Z_takeHour_67 n 67 ls st M Q) : am_R L mt_Z_takeHour n 67 ls st M Q := am_go L mt_Z_takeHour (fun h => by cases h) k_Z_takeHour_67 n 67 ls st M Q o_Z_takeHour_67 h
def k_Z_takeHour_68 : List am_I := [(.invokevirtual 130, 3, 113, 2, 936), (.aload_n 0, 1, 0, 0, 0), (.invokevirtual 127, 3, 112, 1, 932), (.bipush 48, 2, 0, 0, 0), (.isub, 1, 0, 0, 0), (.istore 5, 2, 0, 0, 0), (.aload_n 0, 1, 0, 0, 0), (.getfield 123, 3, 4, 15, 742), (.ifCond .ne 57, 3, 0, 0, 0), (.iload_n 3, 1, 0, 0, 0), (.ifCond .le 53, 3, 0, 0, 0), (.iload 5, 2, 0, 0, 0), (.iconst 0, 1, 0, 0, 0), (.bipush 9, 2, 0, 0, 0), (.invokestatic 43, 3, 75, 3, 791), (.ifCond .eq 42, 3, 0, 0, 0), (.bipush 10, 2, 0, 0, 0), (.iload_n 3, 1, 0, 0, 0), (.imul, 1, 0, 0, 0), (.iload 5, 2, 0, 0, 0), (.iadd, 1, 0, 0, 0), (.iload_n 1, 1, 0, 0, 0), (.iload_n 2, 1, 0, 0, 0), (.invokestatic 43, 3, 75, 3, 791), (.ifCond .eq 27, 3, 0, 0, 0), (.aload_n 0, 1, 0, 0, 0), (.bipush 10, 2, 0, 0, 0), (.iload_n 3, 1, 0, 0, 0), (.imul, 1, 0, 0, 0), (.iload 5, 2, 0, 0, 0), (.iadd, 1, 0, 0, 0), (.putfield 134, 3, 4, 16, 743), (.aload_n 0, 1, 0, 0, 0), (.dup, 1, 0, 0, 0), (.getfield 120, 3, 4, 14, 741), (.iconst 1, 1, 0, 0, 0), (.iadd, 1, 0, 0, 0), (.putfield 120, 3, 4, 14, 741), (.goto 24, 3, 0, 0, 0)]
set_option maxRecDepth 20000 in
theorem o_Z_takeHour_68 : am_okB mt_Z_takeHour 68 k_Z_takeHour_68 = true := by decide +kernel
theorem g_Z_takeHour_68 {L : am_S} {n : Nat} {ls st : List Value} {M : am_M} {Q : am_Q} (h : am_B L mt_Z_takeHour k_Z_takeHour_68 n 68 ls st M Q) : am_R L mt_Z_takeHour n 68 ls st M Q := am_go L mt_Z_takeHour (fun h => by cases h) k_Z_takeHour_68 n 68 ls st M Q o_Z_takeHour_68 h
def k_Z_takeHour_141 : List am_I := [(.aload_n 0, 1, 0, 0, 0), (.aload_n 0, 1, 0, 0, 0), (.getfield 123, 3, 4, 15, 742), (.ifCond .ne 8, 3, 0, 0, 0), (.iload 4, 2, 0, 0, 0), (.ifCond .ne 7, 3, 0, 0, 0)]
set_option maxRecDepth 20000 in
theorem o_Z_takeHour_141 : am_okB mt_Z_takeHour 141 k_Z_takeHour_141 = true := by decide +kernel
theorem g_Z_takeHour_141 {L : am_S} {n : Nat} {ls st : List Value} {M : am_M} {Q : am_Q} (h : am_B L mt_Z_takeHour k_Z_takeHour_141 n 141 ls st M Q) : am_R L mt_Z_takeHour n 141 ls st M Q := am_go L mt_Z_takeHour (fun h => by cases h) k_Z_takeHour_141 n 141 ls st M Q o_Z_takeHour_141 h
def k_Z_takeHour_154 : List am_I := [(.iconst 1, 1, 0, 0, 0), (.goto 4, 3, 0, 0, 0)]
set_option maxRecDepth 20000 in
theorem o_Z_takeHour_154 : am_okB mt_Z_takeHour 154 k_Z_takeHour_154 = true := by decide +kernel
theorem g_Z_takeHour_154 {L : am_S} {n : Nat} {ls st : List Value} {M : am_M} {Q : am_Q} (h : am_B L mt_Z_takeHour k_Z_takeHour_154 n 154 ls st M Q) : am_R L mt_Z_takeHour n 154 ls st M Q := am_go L mt_Z_takeHour (fun h => by cases h) k_Z_takeHour_154 n 154 ls st M Q o_Z_takeHour_154 h
def k_Z_takeHour_158 : List am_I := [(.iconst 0, 1, 0, 0, 0)]
set_option maxRecDepth 20000 in
theorem o_Z_takeHour_158 : am_okB mt_Z_takeHour 158 k_Z_takeHour_158 = true := by decide +kernel
theorem g_Z_takeHour_158 {L : am_S} {n : Nat} {ls st : List Value} {M : am_M} {Q : am_Q} (h : am_B L mt_Z_takeHour k_Z_takeHour_158 n 158 ls st M Q) : am_R L mt_Z_takeHour n 158 ls st M Q := am_go L mt_Z_takeHour (fun h => by cases h) k_Z_takeHour_158 n 158 ls st M Q o_Z_takeHour_158 h
def k_Z_takeHour_159 : List am_I := [(.putfield 123, 3, 4, 15, 742)]
set_option maxRecDepth 20000 in
theorem o_Z_takeHour_159 : am_okB mt_Z_takeHour 159 k_Z_takeHour_159 = true := by decide +kernel
theorem g_Z_takeHour_159 {L : am_S} {n : Nat} {ls st : List Value} {M : am_M} {Q : am_Q} (h : am_B L mt_Z_takeHour k_Z_takeHour_159 n 159 ls st M Q) : am_R L mt_Z_takeHour n 159 ls st M Q := am_go L mt_Z_takeHour (fun h => by cases h) k_Z_takeHour_159 n 159 ls st M Q o_Z_takeHour_159 h
def k_Z_takeHour_162 : List am_I := [(.return_, 1, 0, 0, 0)]
set_option maxRecDepth 20000 in
theorem o_Z_takeHour_162 : am_okB mt_Z_takeHour 162 k_Z_takeHour_162 = true := by decide +kernel
theorem g_Z_takeHour_162 {L : am_S} {n : Nat} {ls st : List Value} {M : am_M} {Q : am_Q} (h : am_B L mt_Z_takeHour k_Z_takeHour_162 n 162 ls st M Q) : am_R L mt_Z_takeHour n 162 ls st M Q := am_go L mt_Z_takeHour (fun h => by cases h) k_Z_takeHour_162 n 162 ls st M Q o_Z_takeHour_162 h
def k_Z_readValve_0 : List am_I := [(.iconst 5, 1, 0, 0, 0), (.aload_n 0, 1, 0, 0, 0), (.getfield 140, 3, 4, 13, 740), (.bipush 7, 2, 0, 0, 0), (.invokestatic 79, 3, 76, 2, 837), (.imul, 1, 0, 0, 0), (.istore_n 1, 1, 0, 0, 0), (.aload_n 0, 1, 0, 0, 0), (.iconst 4, 1, 0, 0, 0), (.iconst (-1), 1, 0, 0, 0), (.invokevirtual 143, 3, 115, 3, 928), (.aload_n 0, 1, 0, 0, 0), (.getfield 32, 3, 4, 12, 739), (.iload_n 1, 1, 0, 0, 0), (.aload_n 0, 1, 0, 0, 0), (.getfield 134, 3, 4, 16, 743), (.iastore, 1, 0, 0, 0), (.aload_n 0, 1, 0, 0, 0), (.bipush 62, 2, 0, 0, 0), (.invokevirtual 146, 3, 114, 2, 940), (.aload_n 0, 1, 0, 0, 0), (.getfield 123, 3, 4, 15, 742), (.ifCond .ne 26, 3, 0, 0, 0), (.aload_n 0, 1, 0, 0, 0), (.iconst 5, 1, 0, 0, 0), (.aload_n 0, 1, 0, 0, 0), (.getfield 32, 3, 4, 12, 739), (.iload_n 1, 1, 0, 0, 0), (.iaload, 1, 0, 0, 0), (.invokevirtual 143, 3, 115, 3, 928), (.aload_n 0, 1, 0, 0, 0), (.getfield 32, 3, 4, 12, 739), (.iload_n 1, 1, 0, 0, 0), (.iconst 1, 1, 0, 0, 0), (.iadd, 1, 0, 0, 0), (.aload_n 0, 1, 0, 0, 0), (.getfield 134, 3, 4, 16, 743), (.iastore, 1, 0, 0, 0)]
set_option maxRecDepth 20000 in
theorem o_Z_readValve_0 : am_okB mt_Z_readValve 0 k_Z_readValve_0 = true := by decide +kernel
theorem g_Z_readValve_0 {L : am_S} {n : Nat} {ls st : List Value} {M : am_M} {Q : am_Q} (h : am_B L mt_Z_readValve k_Z_readValve_0 n 0 ls st M Q) : am_R L mt_Z_readValve n 0 ls st M Q := am_go L mt_Z_readValve (fun h => by cases h) k_Z_readValve_0 n 0 ls st M Q o_Z_readValve_0 h
def k_Z_readValve_64 : List am_I := [(.aload_n 0, 1, 0, 0, 0), (.bipush 42, 2, 0, 0, 0), (.invokevirtual 146, 3, 114, 2, 940), (.aload_n 0, 1, 0, 0, 0), (.getfield 123, 3, 4, 15, 742), (.ifCond .ne 19, 3, 0, 0, 0), (.aload_n 0, 1, 0, 0, 0), (.invokevirtual 149, 3, 117, 1, 944), (.aload_n 0, 1, 0, 0, 0), (.getfield 32, 3, 4, 12, 739), (.iload_n 1, 1, 0, 0, 0), (.iconst 2, 1, 0, 0, 0), (.iadd, 1, 0, 0, 0), (.aload_n 0, 1, 0, 0, 0), (.getfield 134, 3, 4, 16, 743), (.iastore, 1, 0, 0, 0)]
set_option maxRecDepth 20000 in
theorem o_Z_readValve_64 : am_okB mt_Z_readValve 64 k_Z_readValve_64 = true := by decide +kernel
theorem g_Z_readValve_64 {L : am_S} {n : Nat} {ls st : List Value} {M : am_M} {Q : am_Q} (h : am_B L mt_Z_readValve k_Z_readValve_64 n 64 ls st M Q) : am_R L mt_Z_readValve n 64 ls st M Q := am_go L mt_Z_readValve (fun h => by cases h) k_Z_readValve_64 n 64 ls st M Q o_Z_readValve_64 h
def k_Z_readValve_93 : List am_I := [(.aload_n 0, 1, 0, 0, 0), (.bipush 64, 2, 0, 0, 0), (.invokevirtual 146, 3, 114, 2, 940), (.aload_n 0, 1, 0, 0, 0), (.getfield 123, 3, 4, 15, 742), (.ifCond .ne 20, 3, 0, 0, 0), (.aload_n 0, 1, 0, 0, 0), (.iconst 0, 1, 0, 0, 0), (.invokevirtual 152, 3, 118, 2, 948), (.aload_n 0, 1, 0, 0, 0), (.getfield 32, 3, 4, 12, 739), (.iload_n 1, 1, 0, 0, 0), (.iconst 3, 1, 0, 0, 0), (.iadd, 1, 0, 0, 0), (.aload_n 0, 1, 0, 0, 0), (.getfield 134, 3, 4, 16, 743), (.iastore, 1, 0, 0, 0)]
set_option maxRecDepth 20000 in
theorem o_Z_readValve_93 : am_okB mt_Z_readValve 93 k_Z_readValve_93 = true := by decide +kernel
theorem g_Z_readValve_93 {L : am_S} {n : Nat} {ls st : List Value} {M : am_M} {Q : am_Q} (h : am_B L mt_Z_readValve k_Z_readValve_93 n 93 ls st M Q) : am_R L mt_Z_readValve n 93 ls st M Q := am_go L mt_Z_readValve (fun h => by cases h) k_Z_readValve_93 n 93 ls st M Q o_Z_readValve_93 h
def k_Z_readValve_123 : List am_I := [(.aload_n 0, 1, 0, 0, 0), (.bipush 45, 2, 0, 0, 0), (.invokevirtual 146, 3, 114, 2, 940), (.aload_n 0, 1, 0, 0, 0), (.getfield 123, 3, 4, 15, 742), (.ifCond .ne 27, 3, 0, 0, 0), (.aload_n 0, 1, 0, 0, 0), (.aload_n 0, 1, 0, 0, 0), (.getfield 32, 3, 4, 12, 739), (.iload_n 1, 1, 0, 0, 0), (.iconst 3, 1, 0, 0, 0), (.iadd, 1, 0, 0, 0), (.iaload, 1, 0, 0, 0), (.invokevirtual 152, 3, 118, 2, 948), (.aload_n 0, 1, 0, 0, 0), (.getfield 32, 3, 4, 12, 739), (.iload_n 1, 1, 0, 0, 0), (.iconst 4, 1, 0, 0, 0), (.iadd, 1, 0, 0, 0), (.aload_n 0, 1, 0, 0, 0), (.getfield 134, 3, 4, 16, 743), (.iastore, 1, 0, 0, 0)]
set_option maxRecDepth 20000 in
theorem o_Z_readValve_123 : am_okB mt_Z_readValve 123 k_Z_readValve_123 = true := by decide +kernel
theorem g_Z_readValve_123 {L : am_S} {n : Nat} {ls st : List Value} {M : am_M} {Q : am_Q} (h : am_B L mt_Z_readValve k_Z_readValve_123 n 123 ls st M Q) : am_R L mt_Z_readValve n 123 ls st M Q := am_go L mt_Z_readValve (fun h => by cases h) k_Z_readValve_123 n 123 ls st M Q o_Z_readValve_123 h
def k_Z_readValve_160 : List am_I := [(.aload_n 0, 1, 0, 0, 0), (.dup, 1, 0, 0, 0), (.getfield 140, 3, 4, 13, 740), (.iconst 1, 1, 0, 0, 0), (.iadd, 1, 0, 0, 0), (.putfield 140, 3, 4, 13, 740), (.return_, 1, 0, 0, 0)]
set_option maxRecDepth 20000 in
theorem o_Z_readValve_160 : am_okB mt_Z_readValve 160 k_Z_readValve_160 = true := by decide +kernel
theorem g_Z_readValve_160 {L : am_S} {n : Nat} {ls st : List Value} {M : am_M} {Q : am_Q} (h : am_B L mt_Z_readValve k_Z_readValve_160 n 160 ls st M Q) : am_R L mt_Z_readValve n 160 ls st M Q := am_go L mt_Z_readValve (fun h => by cases h) k_Z_readValve_160 n 160 ls st M Q o_Z_readValve_160 h
def k_Z_readPlan_0 : List am_I := [(.aload_n 0, 1, 0, 0, 0), (.iconst 0, 1, 0, 0, 0), (.putfield 120, 3, 4, 14, 741), (.aload_n 0, 1, 0, 0, 0), (.iconst 0, 1, 0, 0, 0), (.putfield 123, 3, 4, 15, 742), (.aload_n 0, 1, 0, 0, 0), (.iconst 0, 1, 0, 0, 0), (.putfield 140, 3, 4, 13, 740), (.iconst 1, 1, 0, 0, 0), (.istore_n 1, 1, 0, 0, 0)]
set_option maxRecDepth 20000 in
theorem o_Z_readPlan_0 : am_okB mt_Z_readPlan 0 k_Z_readPlan_0 = true := by decide +kernel
theorem g_Z_readPlan_0 {L : am_S} {n : Nat} {ls st : List Value} {M : am_M} {Q : am_Q} (h : am_B L mt_Z_readPlan k_Z_readPlan_0 n 0 ls st M Q) : am_R L mt_Z_readPlan n 0 ls st M Q := am_go L mt_Z_readPlan (fun h => by cases h) k_Z_readPlan_0 n 0 ls st M Q o_Z_readPlan_0 h
def k_Z_readPlan_17 : List am_I := [(.iload_n 1, 1, 0, 0, 0), (.ifCond .eq 57, 3, 0, 0, 0), (.aload_n 0, 1, 0, 0, 0), (.invokevirtual 155, 3, 119, 1, 924), (.aload_n 0, 1, 0, 0, 0), (.getfield 123, 3, 4, 15, 742), (.ifCond .ne 18, 3, 0, 0, 0), (.aload_n 0, 1, 0, 0, 0), (.getfield 120, 3, 4, 14, 741), (.aload_n 0, 1, 0, 0, 0), (.getfield 117, 3, 4, 8, 735), (.if_icmp .ge 7, 3, 0, 0, 0), (.iconst 1, 1, 0, 0, 0), (.goto 4, 3, 0, 0, 0)]
set_option maxRecDepth 20000 in
theorem o_Z_readPlan_17 : am_okB mt_Z_readPlan 17 k_Z_readPlan_17 = true := by decide +kernel
theorem g_Z_readPlan_17 {L : am_S} {n : Nat} {ls st : List Value} {M : am_M} {Q : am_Q} (h : am_B L mt_Z_readPlan k_Z_readPlan_17 n 17 ls st M Q) : am_R L mt_Z_readPlan n 17 ls st M Q := am_go L mt_Z_readPlan (fun h => by cases h) k_Z_readPlan_17 n 17 ls st M Q o_Z_readPlan_17 h
def k_Z_readPlan_47 : List am_I := [(.iconst 0, 1, 0, 0, 0)]
set_option maxRecDepth 20000 in
theorem o_Z_readPlan_47 : am_okB mt_Z_readPlan 47 k_Z_readPlan_47 = true := by decide +kernel
theorem g_Z_readPlan_47 {L : am_S} {n : Nat} {ls st : List Value} {M : am_M} {Q : am_Q} (h : am_B L mt_Z_readPlan k_Z_readPlan_47 n 47 ls st M Q) : am_R L mt_Z_readPlan n 47 ls st M Q := am_go L mt_Z_readPlan (fun h => by cases h) k_Z_readPlan_47 n 47 ls st M Q o_Z_readPlan_47 h
def k_Z_readPlan_48 : List am_I := [(.istore_n 1, 1, 0, 0, 0), (.iload_n 1, 1, 0, 0, 0), (.ifCond .eq (-33), 3, 0, 0, 0), (.aload_n 0, 1, 0, 0, 0), (.bipush 59, 2, 0, 0, 0), (.invokevirtual 146, 3, 114, 2, 940), (.aload_n 0, 1, 0, 0, 0), (.getfield 123, 3, 4, 15, 742), (.ifCond .ne 7, 3, 0, 0, 0), (.iconst 1, 1, 0, 0, 0), (.goto 4, 3, 0, 0, 0)]
set_option maxRecDepth 20000 in
theorem o_Z_readPlan_48 : am_okB mt_Z_readPlan 48 k_Z_readPlan_48 = true := by decide +kernel
theorem g_Z_readPlan_48 {L : am_S} {n : Nat} {ls st : List Value} {M : am_M} {Q : am_Q} (h : am_B L mt_Z_readPlan k_Z_readPlan_48 n 48 ls st M Q) : am_R L mt_Z_readPlan n 48 ls st M Q := am_go L mt_Z_readPlan (fun h => by cases h) k_Z_readPlan_48 n 48 ls st M Q o_Z_readPlan_48 h
def k_Z_readPlan_70 : List am_I := [(.iconst 0, 1, 0, 0, 0)]
set_option maxRecDepth 20000 in
theorem o_Z_readPlan_70 : am_okB mt_Z_readPlan 70 k_Z_readPlan_70 = true := by decide +kernel
theorem g_Z_readPlan_70 {L : am_S} {n : Nat} {ls st : List Value} {M : am_M} {Q : am_Q} (h : am_B L mt_Z_readPlan k_Z_readPlan_70 n 70 ls st M Q) : am_R L mt_Z_readPlan n 70 ls st M Q := am_go L mt_Z_readPlan (fun h => by cases h) k_Z_readPlan_70 n 70 ls st M Q o_Z_readPlan_70 h
def k_Z_readPlan_71 : List am_I := [(.istore_n 1, 1, 0, 0, 0), (.goto (-55), 3, 0, 0, 0)]
set_option maxRecDepth 20000 in
theorem o_Z_readPlan_71 : am_okB mt_Z_readPlan 71 k_Z_readPlan_71 = true := by decide +kernel
theorem g_Z_readPlan_71 {L : am_S} {n : Nat} {ls st : List Value} {M : am_M} {Q : am_Q} (h : am_B L mt_Z_readPlan k_Z_readPlan_71 n 71 ls st M Q) : am_R L mt_Z_readPlan n 71 ls st M Q := am_go L mt_Z_readPlan (fun h => by cases h) k_Z_readPlan_71 n 71 ls st M Q o_Z_readPlan_71 h
def k_Z_readPlan_75 : List am_I := [(.aload_n 0, 1, 0, 0, 0), (.getfield 120, 3, 4, 14, 741), (.ireturn, 1, 0, 0, 0)]
set_option maxRecDepth 20000 in
theorem o_Z_readPlan_75 : am_okB mt_Z_readPlan 75 k_Z_readPlan_75 = true := by decide +kernel
theorem g_Z_readPlan_75 {L : am_S} {n : Nat} {ls st : List Value} {M : am_M} {Q : am_Q} (h : am_B L mt_Z_readPlan k_Z_readPlan_75 n 75 ls st M Q) : am_R L mt_Z_readPlan n 75 ls st M Q := am_go L mt_Z_readPlan (fun h => by cases h) k_Z_readPlan_75 n 75 ls st M Q o_Z_readPlan_75 h
def k_Z_firstError_0 : List am_I := [(.aload_n 0, 1, 0, 0, 0), (.iconst 0, 1, 0, 0, 0), (.putfield 39, 3, 4, 0, 727), (.aload_n 0, 1, 0, 0, 0), (.invokevirtual 158, 3, 120, 1, 920), (.ireturn, 1, 0, 0, 0)]
set_option maxRecDepth 20000 in
theorem o_Z_firstError_0 : am_okB mt_Z_firstError 0 k_Z_firstError_0 = true := by decide +kernel
theorem g_Z_firstError_0 {L : am_S} {n : Nat} {ls st : List Value} {M : am_M} {Q : am_Q} (h : am_B L mt_Z_firstError k_Z_firstError_0 n 0 ls st M Q) : am_R L mt_Z_firstError n 0 ls st M Q := am_go L mt_Z_firstError (fun h => by cases h) k_Z_firstError_0 n 0 ls st M Q o_Z_firstError_0 h
def k_Z_load_0 : List am_I := [(.aload_n 0, 1, 0, 0, 0), (.invokevirtual 158, 3, 120, 1, 920), (.pop, 1, 0, 0, 0), (.aload_n 0, 1, 0, 0, 0), (.aload_n 0, 1, 0, 0, 0), (.getfield 123, 3, 4, 15, 742), (.ifCond .eq 7, 3, 0, 0, 0), (.iconst 1, 1, 0, 0, 0), (.goto 17, 3, 0, 0, 0)]
set_option maxRecDepth 20000 in
theorem o_Z_load_0 : am_okB mt_Z_load 0 k_Z_load_0 = true := by decide +kernel
theorem g_Z_load_0 {L : am_S} {n : Nat} {ls st : List Value} {M : am_M} {Q : am_Q} (h : am_B L mt_Z_load k_Z_load_0 n 0 ls st M Q) : am_R L mt_Z_load n 0 ls st M Q := am_go L mt_Z_load (fun h => by cases h) k_Z_load_0 n 0 ls st M Q o_Z_load_0 h
def k_Z_load_17 : List am_I := [(.aload_n 0, 1, 0, 0, 0), (.getfield 140, 3, 4, 13, 740), (.bipush 8, 2, 0, 0, 0), (.if_icmp .le 7, 3, 0, 0, 0), (.iconst 2, 1, 0, 0, 0), (.goto 4, 3, 0, 0, 0)]
set_option maxRecDepth 20000 in
theorem o_Z_load_17 : am_okB mt_Z_load 17 k_Z_load_17 = true := by decide +kernel
theorem g_Z_load_17 {L : am_S} {n : Nat} {ls st : List Value} {M : am_M} {Q : am_Q} (h : am_B L mt_Z_load k_Z_load_17 n 17 ls st M Q) : am_R L mt_Z_load n 17 ls st M Q := am_go L mt_Z_load (fun h => by cases h) k_Z_load_17 n 17 ls st M Q o_Z_load_17 h
def k_Z_load_30 : List am_I := [(.iconst 0, 1, 0, 0, 0)]
set_option maxRecDepth 20000 in
theorem o_Z_load_30 : am_okB mt_Z_load 30 k_Z_load_30 = true := by decide +kernel
theorem g_Z_load_30 {L : am_S} {n : Nat} {ls st : List Value} {M : am_M} {Q : am_Q} (h : am_B L mt_Z_load k_Z_load_30 n 30 ls st M Q) : am_R L mt_Z_load n 30 ls st M Q := am_go L mt_Z_load (fun h => by cases h) k_Z_load_30 n 30 ls st M Q o_Z_load_30 h
def k_Z_load_31 : List am_I := [(.putfield 39, 3, 4, 0, 727), (.aload_n 0, 1, 0, 0, 0), (.getfield 39, 3, 4, 0, 727), (.ifCond .le 5, 3, 0, 0, 0), (.iconst 0, 1, 0, 0, 0), (.ireturn, 1, 0, 0, 0)]
set_option maxRecDepth 20000 in
theorem o_Z_load_31 : am_okB mt_Z_load 31 k_Z_load_31 = true := by decide +kernel
theorem g_Z_load_31 {L : am_S} {n : Nat} {ls st : List Value} {M : am_M} {Q : am_Q} (h : am_B L mt_Z_load k_Z_load_31 n 31 ls st M Q) : am_R L mt_Z_load n 31 ls st M Q := am_go L mt_Z_load (fun h => by cases h) k_Z_load_31 n 31 ls st M Q o_Z_load_31 h
def k_Z_load_43 : List am_I := [(.aload_n 0, 1, 0, 0, 0), (.invokevirtual 61, 3, 87, 1, 802), (.aload_n 0, 1, 0, 0, 0), (.getfield 7, 3, 4, 1, 728), (.iconst 5, 1, 0, 0, 0), (.iconst 0, 1, 0, 0, 0), (.iastore, 1, 0, 0, 0), (.iconst 0, 1, 0, 0, 0), (.istore_n 1, 1, 0, 0, 0)]
set_option maxRecDepth 20000 in
theorem o_Z_load_43 : am_okB mt_Z_load 43 k_Z_load_43 = true := by decide +kernel
theorem g_Z_load_43 {L : am_S} {n : Nat} {ls st : List Value} {M : am_M} {Q : am_Q} (h : am_B L mt_Z_load k_Z_load_43 n 43 ls st M Q) : am_R L mt_Z_load n 43 ls st M Q := am_go L mt_Z_load (fun h => by cases h) k_Z_load_43 n 43 ls st M Q o_Z_load_43 h
def k_Z_load_56 : List am_I := [(.iload_n 1, 1, 0, 0, 0), (.aload_n 0, 1, 0, 0, 0), (.getfield 140, 3, 4, 13, 740), (.if_icmp .ge 61, 3, 0, 0, 0), (.aload_n 0, 1, 0, 0, 0), (.aload_n 0, 1, 0, 0, 0), (.getfield 32, 3, 4, 12, 739), (.iconst 5, 1, 0, 0, 0), (.iload_n 1, 1, 0, 0, 0), (.imul, 1, 0, 0, 0), (.iaload, 1, 0, 0, 0), (.aload_n 0, 1, 0, 0, 0), (.getfield 32, 3, 4, 12, 739), (.iconst 5, 1, 0, 0, 0), (.iload_n 1, 1, 0, 0, 0), (.imul, 1, 0, 0, 0), (.iconst 1, 1, 0, 0, 0), (.iadd, 1, 0, 0, 0), (.iaload, 1, 0, 0, 0), (.aload_n 0, 1, 0, 0, 0), (.getfield 32, 3, 4, 12, 739), (.iconst 5, 1, 0, 0, 0), (.iload_n 1, 1, 0, 0, 0), (.imul, 1, 0, 0, 0), (.iconst 2, 1, 0, 0, 0), (.iadd, 1, 0, 0, 0), (.iaload, 1, 0, 0, 0), (.aload_n 0, 1, 0, 0, 0), (.getfield 32, 3, 4, 12, 739), (.iconst 5, 1, 0, 0, 0), (.iload_n 1, 1, 0, 0, 0), (.imul, 1, 0, 0, 0), (.iconst 3, 1, 0, 0, 0), (.iadd, 1, 0, 0, 0), (.iaload, 1, 0, 0, 0), (.aload_n 0, 1, 0, 0, 0), (.getfield 32, 3, 4, 12, 739), (.iconst 5, 1, 0, 0, 0), (.iload_n 1, 1, 0, 0, 0), (.imul, 1, 0, 0, 0), (.iconst 4, 1, 0, 0, 0), (.iadd, 1, 0, 0, 0), (.iaload, 1, 0, 0, 0), (.invokevirtual 82, 3, 97, 6, 848), (.iinc 1 1, 3, 0, 0, 0), (.goto (-63), 3, 0, 0, 0)]
set_option maxRecDepth 20000 in
theorem o_Z_load_56 : am_okB mt_Z_load 56 k_Z_load_56 = true := by decide +kernel
theorem g_Z_load_56 {L : am_S} {n : Nat} {ls st : List Value} {M : am_M} {Q : am_Q} (h : am_B L mt_Z_load k_Z_load_56 n 56 ls st M Q) : am_R L mt_Z_load n 56 ls st M Q := am_go L mt_Z_load (fun h => by cases h) k_Z_load_56 n 56 ls st M Q o_Z_load_56 h
def k_Z_load_122 : List am_I := [(.aload_n 0, 1, 0, 0, 0), (.iconst 0, 1, 0, 0, 0), (.putfield 117, 3, 4, 8, 735), (.aload_n 0, 1, 0, 0, 0), (.getfield 7, 3, 4, 1, 728), (.iconst 5, 1, 0, 0, 0), (.iaload, 1, 0, 0, 0), (.ireturn, 1, 0, 0, 0)]
set_option maxRecDepth 20000 in
theorem o_Z_load_122 : am_okB mt_Z_load 122 k_Z_load_122 = true := by decide +kernel
theorem g_Z_load_122 {L : am_S} {n : Nat} {ls st : List Value} {M : am_M} {Q : am_Q} (h : am_B L mt_Z_load k_Z_load_122 n 122 ls st M Q) : am_R L mt_Z_load n 122 ls st M Q := am_go L mt_Z_load (fun h => by cases h) k_Z_load_122 n 122 ls st M Q o_Z_load_122 h
def k_Z_vatNow_0 : List am_I := [(.iload_n 2, 1, 0, 0, 0), (.bipush 8, 2, 0, 0, 0), (.if_icmp .ne 13, 3, 0, 0, 0), (.aload_n 0, 1, 0, 0, 0), (.getfield 7, 3, 4, 1, 728), (.bipush 6, 2, 0, 0, 0), (.iload_n 1, 1, 0, 0, 0), (.iadd, 1, 0, 0, 0), (.iaload, 1, 0, 0, 0), (.ireturn, 1, 0, 0, 0)]
set_option maxRecDepth 20000 in
theorem o_Z_vatNow_0 : am_okB mt_Z_vatNow 0 k_Z_vatNow_0 = true := by decide +kernel
theorem g_Z_vatNow_0 {L : am_S} {n : Nat} {ls st : List Value} {M : am_M} {Q : am_Q} (h : am_B L mt_Z_vatNow k_Z_vatNow_0 n 0 ls st M Q) : am_R L mt_Z_vatNow n 0 ls st M Q := am_go L mt_Z_vatNow (fun h => by cases h) k_Z_vatNow_0 n 0 ls st M Q o_Z_vatNow_0 h
def k_Z_vatNow_16 : List am_I := [(.iload_n 2, 1, 0, 0, 0), (.bipush 9, 2, 0, 0, 0), (.if_icmp .ne 11, 3, 0, 0, 0), (.aload_n 0, 1, 0, 0, 0), (.iload_n 1, 1, 0, 0, 0), (.invokevirtual 75, 3, 85, 2, 833), (.goto 9, 3, 0, 0, 0)]
set_option maxRecDepth 20000 in
theorem o_Z_vatNow_16 : am_okB mt_Z_vatNow 16 k_Z_vatNow_16 = true := by decide +kernel
theorem g_Z_vatNow_16 {L : am_S} {n : Nat} {ls st : List Value} {M : am_M} {Q : am_Q} (h : am_B L mt_Z_vatNow k_Z_vatNow_16 n 16 ls st M Q) : am_R L mt_Z_vatNow n 16 ls st M Q := am_go L mt_Z_vatNow (fun h => by cases h) k_Z_vatNow_16 n 16 ls st M Q o_Z_vatNow_16 h
def k_Z_vatNow_30 : List am_I := [(.aload_n 0, 1, 0, 0, 0), (.iload_n 1, 1, 0, 0, 0), (.iload_n 2, 1, 0, 0, 0), (.invokevirtual 47, 3, 77, 3, 813)]
set_option maxRecDepth 20000 in
theorem o_Z_vatNow_30 : am_okB mt_Z_vatNow 30 k_Z_vatNow_30 = true := by decide +kernel
theorem g_Z_vatNow_30 {L : am_S} {n : Nat} {ls st : List Value} {M : am_M} {Q : am_Q} (h : am_B L mt_Z_vatNow k_Z_vatNow_30 n 30 ls st M Q) : am_R L mt_Z_vatNow n 30 ls st M Q := am_go L mt_Z_vatNow (fun h => by cases h) k_Z_vatNow_30 n 30 ls st M Q o_Z_vatNow_30 h
def k_Z_vatNow_36 : List am_I := [(.ireturn, 1, 0, 0, 0)]
set_option maxRecDepth 20000 in
theorem o_Z_vatNow_36 : am_okB mt_Z_vatNow 36 k_Z_vatNow_36 = true := by decide +kernel
theorem g_Z_vatNow_36 {L : am_S} {n : Nat} {ls st : List Value} {M : am_M} {Q : am_Q} (h : am_B L mt_Z_vatNow k_Z_vatNow_36 n 36 ls st M Q) : am_R L mt_Z_vatNow n 36 ls st M Q := am_go L mt_Z_vatNow (fun h => by cases h) k_Z_vatNow_36 n 36 ls st M Q o_Z_vatNow_36 h
def k_Z_vatOf_0 : List am_I := [(.aload_n 0, 1, 0, 0, 0), (.iload_n 1, 1, 0, 0, 0), (.invokestatic 64, 3, 81, 1, 810), (.ifCond .ne 7, 3, 0, 0, 0), (.iconst 1, 1, 0, 0, 0), (.goto 18, 3, 0, 0, 0)]
set_option maxRecDepth 20000 in
theorem o_Z_vatOf_0 : am_okB mt_Z_vatOf 0 k_Z_vatOf_0 = true := by decide +kernel
theorem g_Z_vatOf_0 {L : am_S} {n : Nat} {ls st : List Value} {M : am_M} {Q : am_Q} (h : am_B L mt_Z_vatOf k_Z_vatOf_0 n 0 ls st M Q) : am_R L mt_Z_vatOf n 0 ls st M Q := am_go L mt_Z_vatOf (fun h => by cases h) k_Z_vatOf_0 n 0 ls st M Q o_Z_vatOf_0 h
def k_Z_vatOf_12 : List am_I := [(.iload_n 2, 1, 0, 0, 0), (.iconst 0, 1, 0, 0, 0), (.bipush 9, 2, 0, 0, 0), (.invokestatic 43, 3, 75, 3, 791), (.ifCond .eq 7, 3, 0, 0, 0), (.iconst 0, 1, 0, 0, 0), (.goto 4, 3, 0, 0, 0)]
set_option maxRecDepth 20000 in
theorem o_Z_vatOf_12 : am_okB mt_Z_vatOf 12 k_Z_vatOf_12 = true := by decide +kernel
theorem g_Z_vatOf_12 {L : am_S} {n : Nat} {ls st : List Value} {M : am_M} {Q : am_Q} (h : am_B L mt_Z_vatOf k_Z_vatOf_12 n 12 ls st M Q) : am_R L mt_Z_vatOf n 12 ls st M Q := am_go L mt_Z_vatOf (fun h => by cases h) k_Z_vatOf_12 n 12 ls st M Q o_Z_vatOf_12 h
def k_Z_vatOf_26 : List am_I := [(.iconst 2, 1, 0, 0, 0)]
set_option maxRecDepth 20000 in
theorem o_Z_vatOf_26 : am_okB mt_Z_vatOf 26 k_Z_vatOf_26 = true := by decide +kernel
theorem g_Z_vatOf_26 {L : am_S} {n : Nat} {ls st : List Value} {M : am_M} {Q : am_Q} (h : am_B L mt_Z_vatOf k_Z_vatOf_26 n 26 ls st M Q) : am_R L mt_Z_vatOf n 26 ls st M Q := am_go L mt_Z_vatOf (fun h => by cases h) k_Z_vatOf_26 n 26 ls st M Q o_Z_vatOf_26 h
def k_Z_vatOf_27 : List am_I := [(.putfield 39, 3, 4, 0, 727), (.aload_n 0, 1, 0, 0, 0), (.getfield 39, 3, 4, 0, 727), (.ifCond .le 7, 3, 0, 0, 0), (.iconst 0, 1, 0, 0, 0), (.goto 9, 3, 0, 0, 0)]
set_option maxRecDepth 20000 in
theorem o_Z_vatOf_27 : am_okB mt_Z_vatOf 27 k_Z_vatOf_27 = true := by decide +kernel
theorem g_Z_vatOf_27 {L : am_S} {n : Nat} {ls st : List Value} {M : am_M} {Q : am_Q} (h : am_B L mt_Z_vatOf k_Z_vatOf_27 n 27 ls st M Q) : am_R L mt_Z_vatOf n 27 ls st M Q := am_go L mt_Z_vatOf (fun h => by cases h) k_Z_vatOf_27 n 27 ls st M Q o_Z_vatOf_27 h
def k_Z_vatOf_41 : List am_I := [(.aload_n 0, 1, 0, 0, 0), (.iload_n 1, 1, 0, 0, 0), (.iload_n 2, 1, 0, 0, 0), (.invokevirtual 161, 3, 123, 3, 963)]
set_option maxRecDepth 20000 in
theorem o_Z_vatOf_41 : am_okB mt_Z_vatOf 41 k_Z_vatOf_41 = true := by decide +kernel
theorem g_Z_vatOf_41 {L : am_S} {n : Nat} {ls st : List Value} {M : am_M} {Q : am_Q} (h : am_B L mt_Z_vatOf k_Z_vatOf_41 n 41 ls st M Q) : am_R L mt_Z_vatOf n 41 ls st M Q := am_go L mt_Z_vatOf (fun h => by cases h) k_Z_vatOf_41 n 41 ls st M Q o_Z_vatOf_41 h
def k_Z_vatOf_47 : List am_I := [(.ireturn, 1, 0, 0, 0)]
set_option maxRecDepth 20000 in
theorem o_Z_vatOf_47 : am_okB mt_Z_vatOf 47 k_Z_vatOf_47 = true := by decide +kernel
theorem g_Z_vatOf_47 {L : am_S} {n : Nat} {ls st : List Value} {M : am_M} {Q : am_Q} (h : am_B L mt_Z_vatOf k_Z_vatOf_47 n 47 ls st M Q) : am_R L mt_Z_vatOf n 47 ls st M Q := am_go L mt_Z_vatOf (fun h => by cases h) k_Z_vatOf_47 n 47 ls st M Q o_Z_vatOf_47 h
def k_Z_toldOfValve_0 : List am_I := [(.iload_n 2, 1, 0, 0, 0), (.iconst 5, 1, 0, 0, 0), (.if_icmp .ge 12, 3, 0, 0, 0), (.aload_n 0, 1, 0, 0, 0), (.iload_n 1, 1, 0, 0, 0), (.iload_n 2, 1, 0, 0, 0), (.invokevirtual 55, 3, 80, 3, 892), (.goto 31, 3, 0, 0, 0)]
set_option maxRecDepth 20000 in
theorem o_Z_toldOfValve_0 : am_okB mt_Z_toldOfValve 0 k_Z_toldOfValve_0 = true := by decide +kernel
theorem g_Z_toldOfValve_0 {L : am_S} {n : Nat} {ls st : List Value} {M : am_M} {Q : am_Q} (h : am_B L mt_Z_toldOfValve k_Z_toldOfValve_0 n 0 ls st M Q) : am_R L mt_Z_toldOfValve n 0 ls st M Q := am_go L mt_Z_toldOfValve (fun h => by cases h) k_Z_toldOfValve_0 n 0 ls st M Q o_Z_toldOfValve_0 h
def k_Z_toldOfValve_14 : List am_I := [(.iload_n 2, 1, 0, 0, 0), (.bipush 6, 2, 0, 0, 0), (.if_icmp .ne 12, 3, 0, 0, 0), (.aload_n 0, 1, 0, 0, 0), (.iload_n 1, 1, 0, 0, 0), (.iconst 5, 1, 0, 0, 0), (.invokevirtual 55, 3, 80, 3, 892), (.goto 16, 3, 0, 0, 0)]
set_option maxRecDepth 20000 in
theorem o_Z_toldOfValve_14 : am_okB mt_Z_toldOfValve 14 k_Z_toldOfValve_14 = true := by decide +kernel
theorem g_Z_toldOfValve_14 {L : am_S} {n : Nat} {ls st : List Value} {M : am_M} {Q : am_Q} (h : am_B L mt_Z_toldOfValve k_Z_toldOfValve_14 n 14 ls st M Q) : am_R L mt_Z_toldOfValve n 14 ls st M Q := am_go L mt_Z_toldOfValve (fun h => by cases h) k_Z_toldOfValve_14 n 14 ls st M Q o_Z_toldOfValve_14 h
def k_Z_toldOfValve_29 : List am_I := [(.aload_n 0, 1, 0, 0, 0), (.iload_n 1, 1, 0, 0, 0), (.invokevirtual 101, 3, 86, 2, 888), (.ifCond .eq 7, 3, 0, 0, 0), (.iconst 1, 1, 0, 0, 0), (.goto 4, 3, 0, 0, 0)]
set_option maxRecDepth 20000 in
theorem o_Z_toldOfValve_29 : am_okB mt_Z_toldOfValve 29 k_Z_toldOfValve_29 = true := by decide +kernel
theorem g_Z_toldOfValve_29 {L : am_S} {n : Nat} {ls st : List Value} {M : am_M} {Q : am_Q} (h : am_B L mt_Z_toldOfValve k_Z_toldOfValve_29 n 29 ls st M Q) : am_R L mt_Z_toldOfValve n 29 ls st M Q := am_go L mt_Z_toldOfValve (fun h => by cases h) k_Z_toldOfValve_29 n 29 ls st M Q o_Z_toldOfValve_29 h
def k_Z_toldOfValve_41 : List am_I := [(.iconst 0, 1, 0, 0, 0)]
set_option maxRecDepth 20000 in
theorem o_Z_toldOfValve_41 : am_okB mt_Z_toldOfValve 41 k_Z_toldOfValve_41 = true := by decide +kernel
theorem g_Z_toldOfValve_41 {L : am_S} {n : Nat} {ls st : List Value} {M : am_M} {Q : am_Q} (h : am_B L mt_Z_toldOfValve k_Z_toldOfValve_41 n 41 ls st M Q) : am_R L mt_Z_toldOfValve n 41 ls st M Q := am_go L mt_Z_toldOfValve (fun h => by cases h) k_Z_toldOfValve_41 n 41 ls st M Q o_Z_toldOfValve_41 h
def k_Z_toldOfValve_42 : List am_I := [(.ireturn, 1, 0, 0, 0)]
set_option maxRecDepth 20000 in
theorem o_Z_toldOfValve_42 : am_okB mt_Z_toldOfValve 42 k_Z_toldOfValve_42 = true := by decide +kernel
theorem g_Z_toldOfValve_42 {L : am_S} {n : Nat} {ls st : List Value} {M : am_M} {Q : am_Q} (h : am_B L mt_Z_toldOfValve k_Z_toldOfValve_42 n 42 ls st M Q) : am_R L mt_Z_toldOfValve n 42 ls st M Q := am_go L mt_Z_toldOfValve (fun h => by cases h) k_Z_toldOfValve_42 n 42 ls st M Q o_Z_toldOfValve_42 h
def k_Z_valveOf_0 : List am_I := [(.aload_n 0, 1, 0, 0, 0), (.aload_n 0, 1, 0, 0, 0), (.iload_n 1, 1, 0, 0, 0), (.invokevirtual 86, 3, 83, 2, 856), (.ifCond .ne 7, 3, 0, 0, 0), (.iconst 1, 1, 0, 0, 0), (.goto 18, 3, 0, 0, 0)]
set_option maxRecDepth 20000 in
theorem o_Z_valveOf_0 : am_okB mt_Z_valveOf 0 k_Z_valveOf_0 = true := by decide +kernel
theorem g_Z_valveOf_0 {L : am_S} {n : Nat} {ls st : List Value} {M : am_M} {Q : am_Q} (h : am_B L mt_Z_valveOf k_Z_valveOf_0 n 0 ls st M Q) : am_R L mt_Z_valveOf n 0 ls st M Q := am_go L mt_Z_valveOf (fun h => by cases h) k_Z_valveOf_0 n 0 ls st M Q o_Z_valveOf_0 h
def k_Z_valveOf_13 : List am_I := [(.iload_n 2, 1, 0, 0, 0), (.iconst 0, 1, 0, 0, 0), (.bipush 6, 2, 0, 0, 0), (.invokestatic 43, 3, 75, 3, 791), (.ifCond .eq 7, 3, 0, 0, 0), (.iconst 0, 1, 0, 0, 0), (.goto 4, 3, 0, 0, 0)]
set_option maxRecDepth 20000 in
theorem o_Z_valveOf_13 : am_okB mt_Z_valveOf 13 k_Z_valveOf_13 = true := by decide +kernel
theorem g_Z_valveOf_13 {L : am_S} {n : Nat} {ls st : List Value} {M : am_M} {Q : am_Q} (h : am_B L mt_Z_valveOf k_Z_valveOf_13 n 13 ls st M Q) : am_R L mt_Z_valveOf n 13 ls st M Q := am_go L mt_Z_valveOf (fun h => by cases h) k_Z_valveOf_13 n 13 ls st M Q o_Z_valveOf_13 h
def k_Z_valveOf_27 : List am_I := [(.iconst 2, 1, 0, 0, 0)]
set_option maxRecDepth 20000 in
theorem o_Z_valveOf_27 : am_okB mt_Z_valveOf 27 k_Z_valveOf_27 = true := by decide +kernel
theorem g_Z_valveOf_27 {L : am_S} {n : Nat} {ls st : List Value} {M : am_M} {Q : am_Q} (h : am_B L mt_Z_valveOf k_Z_valveOf_27 n 27 ls st M Q) : am_R L mt_Z_valveOf n 27 ls st M Q := am_go L mt_Z_valveOf (fun h => by cases h) k_Z_valveOf_27 n 27 ls st M Q o_Z_valveOf_27 h
def k_Z_valveOf_28 : List am_I := [(.putfield 39, 3, 4, 0, 727), (.aload_n 0, 1, 0, 0, 0), (.getfield 39, 3, 4, 0, 727), (.ifCond .le 7, 3, 0, 0, 0), (.iconst 0, 1, 0, 0, 0), (.goto 9, 3, 0, 0, 0)]
set_option maxRecDepth 20000 in
theorem o_Z_valveOf_28 : am_okB mt_Z_valveOf 28 k_Z_valveOf_28 = true := by decide +kernel
theorem g_Z_valveOf_28 {L : am_S} {n : Nat} {ls st : List Value} {M : am_M} {Q : am_Q} (h : am_B L mt_Z_valveOf k_Z_valveOf_28 n 28 ls st M Q) : am_R L mt_Z_valveOf n 28 ls st M Q := am_go L mt_Z_valveOf (fun h => by cases h) k_Z_valveOf_28 n 28 ls st M Q o_Z_valveOf_28 h
def k_Z_valveOf_42 : List am_I := [(.aload_n 0, 1, 0, 0, 0), (.iload_n 1, 1, 0, 0, 0), (.iload_n 2, 1, 0, 0, 0), (.invokevirtual 164, 3, 125, 3, 971)]
set_option maxRecDepth 20000 in
theorem o_Z_valveOf_42 : am_okB mt_Z_valveOf 42 k_Z_valveOf_42 = true := by decide +kernel
theorem g_Z_valveOf_42 {L : am_S} {n : Nat} {ls st : List Value} {M : am_M} {Q : am_Q} (h : am_B L mt_Z_valveOf k_Z_valveOf_42 n 42 ls st M Q) : am_R L mt_Z_valveOf n 42 ls st M Q := am_go L mt_Z_valveOf (fun h => by cases h) k_Z_valveOf_42 n 42 ls st M Q o_Z_valveOf_42 h
def k_Z_valveOf_48 : List am_I := [(.ireturn, 1, 0, 0, 0)]
set_option maxRecDepth 20000 in
theorem o_Z_valveOf_48 : am_okB mt_Z_valveOf 48 k_Z_valveOf_48 = true := by decide +kernel
theorem g_Z_valveOf_48 {L : am_S} {n : Nat} {ls st : List Value} {M : am_M} {Q : am_Q} (h : am_B L mt_Z_valveOf k_Z_valveOf_48 n 48 ls st M Q) : am_R L mt_Z_valveOf n 48 ls st M Q := am_go L mt_Z_valveOf (fun h => by cases h) k_Z_valveOf_48 n 48 ls st M Q o_Z_valveOf_48 h
def k_Z_inVats_0 : List am_I := [(.iconst 0, 1, 0, 0, 0), (.istore_n 2, 1, 0, 0, 0), (.iconst 0, 1, 0, 0, 0), (.istore_n 3, 1, 0, 0, 0)]
set_option maxRecDepth 20000 in
theorem o_Z_inVats_0 : am_okB mt_Z_inVats 0 k_Z_inVats_0 = true := by decide +kernel
theorem g_Z_inVats_0 {L : am_S} {n : Nat} {ls st : List Value} {M : am_M} {Q : am_Q} (h : am_B L mt_Z_inVats k_Z_inVats_0 n 0 ls st M Q) : am_R L mt_Z_inVats n 0 ls st M Q := am_go L mt_Z_inVats (fun h => by cases h) k_Z_inVats_0 n 0 ls st M Q o_Z_inVats_0 h
def k_Z_inVats_4 : List am_I := [(.iload_n 3, 1, 0, 0, 0), (.iconst 5, 1, 0, 0, 0), (.if_icmp .ge 18, 3, 0, 0, 0), (.iload_n 2, 1, 0, 0, 0), (.aload_n 0, 1, 0, 0, 0), (.iload_n 3, 1, 0, 0, 0), (.iload_n 1, 1, 0, 0, 0), (.invokevirtual 47, 3, 77, 3, 813), (.iadd, 1, 0, 0, 0), (.istore_n 2, 1, 0, 0, 0), (.iinc 3 1, 3, 0, 0, 0), (.goto (-17), 3, 0, 0, 0)]
set_option maxRecDepth 20000 in
theorem o_Z_inVats_4 : am_okB mt_Z_inVats 4 k_Z_inVats_4 = true := by decide +kernel
theorem g_Z_inVats_4 {L : am_S} {n : Nat} {ls st : List Value} {M : am_M} {Q : am_Q} (h : am_B L mt_Z_inVats k_Z_inVats_4 n 4 ls st M Q) : am_R L mt_Z_inVats n 4 ls st M Q := am_go L mt_Z_inVats (fun h => by cases h) k_Z_inVats_4 n 4 ls st M Q o_Z_inVats_4 h
def k_Z_inVats_24 : List am_I := [(.iload_n 2, 1, 0, 0, 0), (.ireturn, 1, 0, 0, 0)]
set_option maxRecDepth 20000 in
theorem o_Z_inVats_24 : am_okB mt_Z_inVats 24 k_Z_inVats_24 = true := by decide +kernel
theorem g_Z_inVats_24 {L : am_S} {n : Nat} {ls st : List Value} {M : am_M} {Q : am_Q} (h : am_B L mt_Z_inVats k_Z_inVats_24 n 24 ls st M Q) : am_R L mt_Z_inVats n 24 ls st M Q := am_go L mt_Z_inVats (fun h => by cases h) k_Z_inVats_24 n 24 ls st M Q o_Z_inVats_24 h
def k_Z_strongest_0 : List am_I := [(.iconst (-1), 1, 0, 0, 0), (.istore_n 2, 1, 0, 0, 0), (.iconst 0, 1, 0, 0, 0), (.istore_n 3, 1, 0, 0, 0)]
set_option maxRecDepth 20000 in
theorem o_Z_strongest_0 : am_okB mt_Z_strongest 0 k_Z_strongest_0 = true := by decide +kernel
theorem g_Z_strongest_0 {L : am_S} {n : Nat} {ls st : List Value} {M : am_M} {Q : am_Q} (h : am_B L mt_Z_strongest k_Z_strongest_0 n 0 ls st M Q) : am_R L mt_Z_strongest n 0 ls st M Q := am_go L mt_Z_strongest (fun h => by cases h) k_Z_strongest_0 n 0 ls st M Q o_Z_strongest_0 h
def k_Z_strongest_4 : List am_I := [(.iload_n 3, 1, 0, 0, 0), (.iconst 5, 1, 0, 0, 0), (.if_icmp .ge 85, 3, 0, 0, 0), (.aload_n 0, 1, 0, 0, 0), (.iload_n 3, 1, 0, 0, 0), (.iconst 1, 1, 0, 0, 0), (.invokevirtual 47, 3, 77, 3, 813), (.ifCond .le 7, 3, 0, 0, 0), (.iconst 1, 1, 0, 0, 0), (.goto 4, 3, 0, 0, 0)]
set_option maxRecDepth 20000 in
theorem o_Z_strongest_4 : am_okB mt_Z_strongest 4 k_Z_strongest_4 = true := by decide +kernel
theorem g_Z_strongest_4 {L : am_S} {n : Nat} {ls st : List Value} {M : am_M} {Q : am_Q} (h : am_B L mt_Z_strongest k_Z_strongest_4 n 4 ls st M Q) : am_R L mt_Z_strongest n 4 ls st M Q := am_go L mt_Z_strongest (fun h => by cases h) k_Z_strongest_4 n 4 ls st M Q o_Z_strongest_4 h
def k_Z_strongest_22 : List am_I := [(.iconst 0, 1, 0, 0, 0)]
set_option maxRecDepth 20000 in
theorem o_Z_strongest_22 : am_okB mt_Z_strongest 22 k_Z_strongest_22 = true := by decide +kernel
theorem g_Z_strongest_22 {L : am_S} {n : Nat} {ls st : List Value} {M : am_M} {Q : am_Q} (h : am_B L mt_Z_strongest k_Z_strongest_22 n 22 ls st M Q) : am_R L mt_Z_strongest n 22 ls st M Q := am_go L mt_Z_strongest (fun h => by cases h) k_Z_strongest_22 n 22 ls st M Q o_Z_strongest_22 h
def k_Z_strongest_23 : List am_I := [(.istore 4, 2, 0, 0, 0), (.iload 4, 2, 0, 0, 0), (.ifCond .eq 44, 3, 0, 0, 0), (.iload_n 2, 1, 0, 0, 0), (.ifCond .lt 36, 3, 0, 0, 0), (.aload_n 0, 1, 0, 0, 0), (.iload_n 3, 1, 0, 0, 0), (.iconst 2, 1, 0, 0, 0), (.iload_n 1, 1, 0, 0, 0), (.iadd, 1, 0, 0, 0), (.invokevirtual 47, 3, 77, 3, 813), (.aload_n 0, 1, 0, 0, 0), (.iload_n 2, 1, 0, 0, 0), (.iconst 1, 1, 0, 0, 0), (.invokevirtual 47, 3, 77, 3, 813), (.imul, 1, 0, 0, 0), (.aload_n 0, 1, 0, 0, 0), (.iload_n 2, 1, 0, 0, 0), (.iconst 2, 1, 0, 0, 0), (.iload_n 1, 1, 0, 0, 0), (.iadd, 1, 0, 0, 0), (.invokevirtual 47, 3, 77, 3, 813), (.aload_n 0, 1, 0, 0, 0), (.iload_n 3, 1, 0, 0, 0), (.iconst 1, 1, 0, 0, 0), (.invokevirtual 47, 3, 77, 3, 813), (.imul, 1, 0, 0, 0), (.if_icmp .le 7, 3, 0, 0, 0)]
set_option maxRecDepth 20000 in
theorem o_Z_strongest_23 : am_okB mt_Z_strongest 23 k_Z_strongest_23 = true := by decide +kernel
theorem g_Z_strongest_23 {L : am_S} {n : Nat} {ls st : List Value} {M : am_M} {Q : am_Q} (h : am_B L mt_Z_strongest k_Z_strongest_23 n 23 ls st M Q) : am_R L mt_Z_strongest n 23 ls st M Q := am_go L mt_Z_strongest (fun h => by cases h) k_Z_strongest_23 n 23 ls st M Q o_Z_strongest_23 h
def k_Z_strongest_67 : List am_I := [(.iconst 1, 1, 0, 0, 0), (.goto 4, 3, 0, 0, 0)]
set_option maxRecDepth 20000 in
theorem o_Z_strongest_67 : am_okB mt_Z_strongest 67 k_Z_strongest_67 = true := by decide +kernel
theorem g_Z_strongest_67 {L : am_S} {n : Nat} {ls st : List Value} {M : am_M} {Q : am_Q} (h : am_B L mt_Z_strongest k_Z_strongest_67 n 67 ls st M Q) : am_R L mt_Z_strongest n 67 ls st M Q := am_go L mt_Z_strongest (fun h => by cases h) k_Z_strongest_67 n 67 ls st M Q o_Z_strongest_67 h
def k_Z_strongest_71 : List am_I := [(.iconst 0, 1, 0, 0, 0)]
set_option maxRecDepth 20000 in
theorem o_Z_strongest_71 : am_okB mt_Z_strongest 71 k_Z_strongest_71 = true := by decide +kernel
theorem g_Z_strongest_71 {L : am_S} {n : Nat} {ls st : List Value} {M : am_M} {Q : am_Q} (h : am_B L mt_Z_strongest k_Z_strongest_71 n 71 ls st M Q) : am_R L mt_Z_strongest n 71 ls st M Q := am_go L mt_Z_strongest (fun h => by cases h) k_Z_strongest_71 n 71 ls st M Q o_Z_strongest_71 h
def k_Z_strongest_72 : List am_I := [(.istore 5, 2, 0, 0, 0), (.iload 5, 2, 0, 0, 0), (.ifCond .eq 7, 3, 0, 0, 0), (.iload_n 3, 1, 0, 0, 0), (.goto 4, 3, 0, 0, 0)]
set_option maxRecDepth 20000 in
theorem o_Z_strongest_72 : am_okB mt_Z_strongest 72 k_Z_strongest_72 = true := by decide +kernel
theorem g_Z_strongest_72 {L : am_S} {n : Nat} {ls st : List Value} {M : am_M} {Q : am_Q} (h : am_B L mt_Z_strongest k_Z_strongest_72 n 72 ls st M Q) : am_R L mt_Z_strongest n 72 ls st M Q := am_go L mt_Z_strongest (fun h => by cases h) k_Z_strongest_72 n 72 ls st M Q o_Z_strongest_72 h
def k_Z_strongest_83 : List am_I := [(.iload_n 2, 1, 0, 0, 0)]
set_option maxRecDepth 20000 in
theorem o_Z_strongest_83 : am_okB mt_Z_strongest 83 k_Z_strongest_83 = true := by decide +kernel
theorem g_Z_strongest_83 {L : am_S} {n : Nat} {ls st : List Value} {M : am_M} {Q : am_Q} (h : am_B L mt_Z_strongest k_Z_strongest_83 n 83 ls st M Q) : am_R L mt_Z_strongest n 83 ls st M Q := am_go L mt_Z_strongest (fun h => by cases h) k_Z_strongest_83 n 83 ls st M Q o_Z_strongest_83 h
def k_Z_strongest_84 : List am_I := [(.istore_n 2, 1, 0, 0, 0), (.iinc 3 1, 3, 0, 0, 0), (.goto (-84), 3, 0, 0, 0)]
set_option maxRecDepth 20000 in
theorem o_Z_strongest_84 : am_okB mt_Z_strongest 84 k_Z_strongest_84 = true := by decide +kernel
theorem g_Z_strongest_84 {L : am_S} {n : Nat} {ls st : List Value} {M : am_M} {Q : am_Q} (h : am_B L mt_Z_strongest k_Z_strongest_84 n 84 ls st M Q) : am_R L mt_Z_strongest n 84 ls st M Q := am_go L mt_Z_strongest (fun h => by cases h) k_Z_strongest_84 n 84 ls st M Q o_Z_strongest_84 h
def k_Z_strongest_91 : List am_I := [(.iload_n 2, 1, 0, 0, 0), (.ireturn, 1, 0, 0, 0)]
set_option maxRecDepth 20000 in
theorem o_Z_strongest_91 : am_okB mt_Z_strongest 91 k_Z_strongest_91 = true := by decide +kernel
theorem g_Z_strongest_91 {L : am_S} {n : Nat} {ls st : List Value} {M : am_M} {Q : am_Q} (h : am_B L mt_Z_strongest k_Z_strongest_91 n 91 ls st M Q) : am_R L mt_Z_strongest n 91 ls st M Q := am_go L mt_Z_strongest (fun h => by cases h) k_Z_strongest_91 n 91 ls st M Q o_Z_strongest_91 h
def k_Z_dyeNow_0 : List am_I := [(.iload_n 2, 1, 0, 0, 0), (.tableswitch 67 0 3 #[31, 41, 49, 57], 31, 0, 0, 0)]
set_option maxRecDepth 20000 in
theorem o_Z_dyeNow_0 : am_okB mt_Z_dyeNow 0 k_Z_dyeNow_0 = true := by decide +kernel
theorem g_Z_dyeNow_0 {L : am_S} {n : Nat} {ls st : List Value} {M : am_M} {Q : am_Q} (h : am_B L mt_Z_dyeNow k_Z_dyeNow_0 n 0 ls st M Q) : am_R L mt_Z_dyeNow n 0 ls st M Q := am_go L mt_Z_dyeNow (fun h => by cases h) k_Z_dyeNow_0 n 0 ls st M Q o_Z_dyeNow_0 h
def k_Z_dyeNow_32 : List am_I := [(.aload_n 0, 1, 0, 0, 0), (.getfield 7, 3, 4, 1, 728), (.bipush 11, 2, 0, 0, 0), (.iload_n 1, 1, 0, 0, 0), (.iadd, 1, 0, 0, 0), (.iaload, 1, 0, 0, 0), (.ireturn, 1, 0, 0, 0)]
set_option maxRecDepth 20000 in
theorem o_Z_dyeNow_32 : am_okB mt_Z_dyeNow 32 k_Z_dyeNow_32 = true := by decide +kernel
theorem g_Z_dyeNow_32 {L : am_S} {n : Nat} {ls st : List Value} {M : am_M} {Q : am_Q} (h : am_B L mt_Z_dyeNow k_Z_dyeNow_32 n 32 ls st M Q) : am_R L mt_Z_dyeNow n 32 ls st M Q := am_go L mt_Z_dyeNow (fun h => by cases h) k_Z_dyeNow_32 n 32 ls st M Q o_Z_dyeNow_32 h
def k_Z_dyeNow_42 : List am_I := [(.aload_n 0, 1, 0, 0, 0), (.iconst 2, 1, 0, 0, 0), (.iload_n 1, 1, 0, 0, 0), (.iadd, 1, 0, 0, 0), (.invokevirtual 167, 3, 127, 2, 983), (.ireturn, 1, 0, 0, 0)]
set_option maxRecDepth 20000 in
theorem o_Z_dyeNow_42 : am_okB mt_Z_dyeNow 42 k_Z_dyeNow_42 = true := by decide +kernel
theorem g_Z_dyeNow_42 {L : am_S} {n : Nat} {ls st : List Value} {M : am_M} {Q : am_Q} (h : am_B L mt_Z_dyeNow k_Z_dyeNow_42 n 42 ls st M Q) : am_R L mt_Z_dyeNow n 42 ls st M Q := am_go L mt_Z_dyeNow (fun h => by cases h) k_Z_dyeNow_42 n 42 ls st M Q o_Z_dyeNow_42 h
def k_Z_dyeNow_50 : List am_I := [(.aload_n 0, 1, 0, 0, 0), (.iconst 5, 1, 0, 0, 0), (.iload_n 1, 1, 0, 0, 0), (.iadd, 1, 0, 0, 0), (.invokevirtual 167, 3, 127, 2, 983), (.ireturn, 1, 0, 0, 0)]
set_option maxRecDepth 20000 in
theorem o_Z_dyeNow_50 : am_okB mt_Z_dyeNow 50 k_Z_dyeNow_50 = true := by decide +kernel
theorem g_Z_dyeNow_50 {L : am_S} {n : Nat} {ls st : List Value} {M : am_M} {Q : am_Q} (h : am_B L mt_Z_dyeNow k_Z_dyeNow_50 n 50 ls st M Q) : am_R L mt_Z_dyeNow n 50 ls st M Q := am_go L mt_Z_dyeNow (fun h => by cases h) k_Z_dyeNow_50 n 50 ls st M Q o_Z_dyeNow_50 h
def k_Z_dyeNow_58 : List am_I := [(.aload_n 0, 1, 0, 0, 0), (.getfield 7, 3, 4, 1, 728), (.bipush 14, 2, 0, 0, 0), (.iload_n 1, 1, 0, 0, 0), (.iadd, 1, 0, 0, 0), (.iaload, 1, 0, 0, 0), (.ireturn, 1, 0, 0, 0)]
set_option maxRecDepth 20000 in
theorem o_Z_dyeNow_58 : am_okB mt_Z_dyeNow 58 k_Z_dyeNow_58 = true := by decide +kernel
theorem g_Z_dyeNow_58 {L : am_S} {n : Nat} {ls st : List Value} {M : am_M} {Q : am_Q} (h : am_B L mt_Z_dyeNow k_Z_dyeNow_58 n 58 ls st M Q) : am_R L mt_Z_dyeNow n 58 ls st M Q := am_go L mt_Z_dyeNow (fun h => by cases h) k_Z_dyeNow_58 n 58 ls st M Q o_Z_dyeNow_58 h
def k_Z_dyeNow_68 : List am_I := [(.aload_n 0, 1, 0, 0, 0), (.iload_n 1, 1, 0, 0, 0), (.invokevirtual 170, 3, 128, 2, 987), (.ireturn, 1, 0, 0, 0)]
set_option maxRecDepth 20000 in
theorem o_Z_dyeNow_68 : am_okB mt_Z_dyeNow 68 k_Z_dyeNow_68 = true := by decide +kernel
theorem g_Z_dyeNow_68 {L : am_S} {n : Nat} {ls st : List Value} {M : am_M} {Q : am_Q} (h : am_B L mt_Z_dyeNow k_Z_dyeNow_68 n 68 ls st M Q) : am_R L mt_Z_dyeNow n 68 ls st M Q := am_go L mt_Z_dyeNow (fun h => by cases h) k_Z_dyeNow_68 n 68 ls st M Q o_Z_dyeNow_68 h
def k_Z_dyeOf_0 : List am_I := [(.aload_n 0, 1, 0, 0, 0), (.iload_n 1, 1, 0, 0, 0), (.invokestatic 71, 3, 82, 1, 825), (.ifCond .ne 7, 3, 0, 0, 0), (.iconst 1, 1, 0, 0, 0), (.goto 17, 3, 0, 0, 0)]
set_option maxRecDepth 20000 in
theorem o_Z_dyeOf_0 : am_okB mt_Z_dyeOf 0 k_Z_dyeOf_0 = true := by decide +kernel
theorem g_Z_dyeOf_0 {L : am_S} {n : Nat} {ls st : List Value} {M : am_M} {Q : am_Q} (h : am_B L mt_Z_dyeOf k_Z_dyeOf_0 n 0 ls st M Q) : am_R L mt_Z_dyeOf n 0 ls st M Q := am_go L mt_Z_dyeOf (fun h => by cases h) k_Z_dyeOf_0 n 0 ls st M Q o_Z_dyeOf_0 h
def k_Z_dyeOf_12 : List am_I := [(.iload_n 2, 1, 0, 0, 0), (.iconst 0, 1, 0, 0, 0), (.iconst 4, 1, 0, 0, 0), (.invokestatic 43, 3, 75, 3, 791), (.ifCond .eq 7, 3, 0, 0, 0), (.iconst 0, 1, 0, 0, 0), (.goto 4, 3, 0, 0, 0)]
set_option maxRecDepth 20000 in
theorem o_Z_dyeOf_12 : am_okB mt_Z_dyeOf 12 k_Z_dyeOf_12 = true := by decide +kernel
theorem g_Z_dyeOf_12 {L : am_S} {n : Nat} {ls st : List Value} {M : am_M} {Q : am_Q} (h : am_B L mt_Z_dyeOf k_Z_dyeOf_12 n 12 ls st M Q) : am_R L mt_Z_dyeOf n 12 ls st M Q := am_go L mt_Z_dyeOf (fun h => by cases h) k_Z_dyeOf_12 n 12 ls st M Q o_Z_dyeOf_12 h
def k_Z_dyeOf_25 : List am_I := [(.iconst 2, 1, 0, 0, 0)]
set_option maxRecDepth 20000 in
theorem o_Z_dyeOf_25 : am_okB mt_Z_dyeOf 25 k_Z_dyeOf_25 = true := by decide +kernel
theorem g_Z_dyeOf_25 {L : am_S} {n : Nat} {ls st : List Value} {M : am_M} {Q : am_Q} (h : am_B L mt_Z_dyeOf k_Z_dyeOf_25 n 25 ls st M Q) : am_R L mt_Z_dyeOf n 25 ls st M Q := am_go L mt_Z_dyeOf (fun h => by cases h) k_Z_dyeOf_25 n 25 ls st M Q o_Z_dyeOf_25 h
def k_Z_dyeOf_26 : List am_I := [(.putfield 39, 3, 4, 0, 727), (.aload_n 0, 1, 0, 0, 0), (.getfield 39, 3, 4, 0, 727), (.ifCond .le 7, 3, 0, 0, 0), (.iconst 0, 1, 0, 0, 0), (.goto 9, 3, 0, 0, 0)]
set_option maxRecDepth 20000 in
theorem o_Z_dyeOf_26 : am_okB mt_Z_dyeOf 26 k_Z_dyeOf_26 = true := by decide +kernel
theorem g_Z_dyeOf_26 {L : am_S} {n : Nat} {ls st : List Value} {M : am_M} {Q : am_Q} (h : am_B L mt_Z_dyeOf k_Z_dyeOf_26 n 26 ls st M Q) : am_R L mt_Z_dyeOf n 26 ls st M Q := am_go L mt_Z_dyeOf (fun h => by cases h) k_Z_dyeOf_26 n 26 ls st M Q o_Z_dyeOf_26 h
def k_Z_dyeOf_40 : List am_I := [(.aload_n 0, 1, 0, 0, 0), (.iload_n 1, 1, 0, 0, 0), (.iload_n 2, 1, 0, 0, 0), (.invokevirtual 173, 3, 129, 3, 979)]
set_option maxRecDepth 20000 in
theorem o_Z_dyeOf_40 : am_okB mt_Z_dyeOf 40 k_Z_dyeOf_40 = true := by decide +kernel
theorem g_Z_dyeOf_40 {L : am_S} {n : Nat} {ls st : List Value} {M : am_M} {Q : am_Q} (h : am_B L mt_Z_dyeOf k_Z_dyeOf_40 n 40 ls st M Q) : am_R L mt_Z_dyeOf n 40 ls st M Q := am_go L mt_Z_dyeOf (fun h => by cases h) k_Z_dyeOf_40 n 40 ls st M Q o_Z_dyeOf_40 h
def k_Z_dyeOf_46 : List am_I := [(.ireturn, 1, 0, 0, 0)]
set_option maxRecDepth 20000 in
theorem o_Z_dyeOf_46 : am_okB mt_Z_dyeOf 46 k_Z_dyeOf_46 = true := by decide +kernel
theorem g_Z_dyeOf_46 {L : am_S} {n : Nat} {ls st : List Value} {M : am_M} {Q : am_Q} (h : am_B L mt_Z_dyeOf k_Z_dyeOf_46 n 46 ls st M Q) : am_R L mt_Z_dyeOf n 46 ls st M Q := am_go L mt_Z_dyeOf (fun h => by cases h) k_Z_dyeOf_46 n 46 ls st M Q o_Z_dyeOf_46 h
def k_Z_pipes_0 : List am_I := [(.iconst 0, 1, 0, 0, 0), (.istore_n 1, 1, 0, 0, 0), (.iconst 0, 1, 0, 0, 0), (.istore_n 2, 1, 0, 0, 0)]
set_option maxRecDepth 20000 in
theorem o_Z_pipes_0 : am_okB mt_Z_pipes 0 k_Z_pipes_0 = true := by decide +kernel
theorem g_Z_pipes_0 {L : am_S} {n : Nat} {ls st : List Value} {M : am_M} {Q : am_Q} (h : am_B L mt_Z_pipes k_Z_pipes_0 n 0 ls st M Q) : am_R L mt_Z_pipes n 0 ls st M Q := am_go L mt_Z_pipes (fun h => by cases h) k_Z_pipes_0 n 0 ls st M Q o_Z_pipes_0 h
def k_Z_pipes_4 : List am_I := [(.iload_n 2, 1, 0, 0, 0), (.iconst 5, 1, 0, 0, 0), (.if_icmp .ge 41, 3, 0, 0, 0), (.iload_n 2, 1, 0, 0, 0), (.iconst 1, 1, 0, 0, 0), (.iadd, 1, 0, 0, 0), (.istore_n 3, 1, 0, 0, 0)]
set_option maxRecDepth 20000 in
theorem o_Z_pipes_4 : am_okB mt_Z_pipes 4 k_Z_pipes_4 = true := by decide +kernel
theorem g_Z_pipes_4 {L : am_S} {n : Nat} {ls st : List Value} {M : am_M} {Q : am_Q} (h : am_B L mt_Z_pipes k_Z_pipes_4 n 4 ls st M Q) : am_R L mt_Z_pipes n 4 ls st M Q := am_go L mt_Z_pipes (fun h => by cases h) k_Z_pipes_4 n 4 ls st M Q o_Z_pipes_4 h
def k_Z_pipes_13 : List am_I := [(.iload_n 3, 1, 0, 0, 0), (.iconst 5, 1, 0, 0, 0), (.if_icmp .ge 26, 3, 0, 0, 0), (.iload_n 1, 1, 0, 0, 0), (.aload_n 0, 1, 0, 0, 0), (.iload_n 2, 1, 0, 0, 0), (.iload_n 3, 1, 0, 0, 0), (.invokevirtual 93, 3, 101, 3, 868), (.ifCond .eq 7, 3, 0, 0, 0), (.iconst 1, 1, 0, 0, 0), (.goto 4, 3, 0, 0, 0)]
set_option maxRecDepth 20000 in
theorem o_Z_pipes_13 : am_okB mt_Z_pipes 13 k_Z_pipes_13 = true := by decide +kernel
theorem g_Z_pipes_13 {L : am_S} {n : Nat} {ls st : List Value} {M : am_M} {Q : am_Q} (h : am_B L mt_Z_pipes k_Z_pipes_13 n 13 ls st M Q) : am_R L mt_Z_pipes n 13 ls st M Q := am_go L mt_Z_pipes (fun h => by cases h) k_Z_pipes_13 n 13 ls st M Q o_Z_pipes_13 h
def k_Z_pipes_32 : List am_I := [(.iconst 0, 1, 0, 0, 0)]
set_option maxRecDepth 20000 in
theorem o_Z_pipes_32 : am_okB mt_Z_pipes 32 k_Z_pipes_32 = true := by decide +kernel
theorem g_Z_pipes_32 {L : am_S} {n : Nat} {ls st : List Value} {M : am_M} {Q : am_Q} (h : am_B L mt_Z_pipes k_Z_pipes_32 n 32 ls st M Q) : am_R L mt_Z_pipes n 32 ls st M Q := am_go L mt_Z_pipes (fun h => by cases h) k_Z_pipes_32 n 32 ls st M Q o_Z_pipes_32 h
def k_Z_pipes_33 : List am_I := [(.iadd, 1, 0, 0, 0), (.istore_n 1, 1, 0, 0, 0), (.iinc 3 1, 3, 0, 0, 0), (.goto (-25), 3, 0, 0, 0)]
set_option maxRecDepth 20000 in
theorem o_Z_pipes_33 : am_okB mt_Z_pipes 33 k_Z_pipes_33 = true := by decide +kernel
theorem g_Z_pipes_33 {L : am_S} {n : Nat} {ls st : List Value} {M : am_M} {Q : am_Q} (h : am_B L mt_Z_pipes k_Z_pipes_33 n 33 ls st M Q) : am_R L mt_Z_pipes n 33 ls st M Q := am_go L mt_Z_pipes (fun h => by cases h) k_Z_pipes_33 n 33 ls st M Q o_Z_pipes_33 h
def k_Z_pipes_41 : List am_I := [(.iinc 2 1, 3, 0, 0, 0), (.goto (-40), 3, 0, 0, 0)]
set_option maxRecDepth 20000 in
theorem o_Z_pipes_41 : am_okB mt_Z_pipes 41 k_Z_pipes_41 = true := by decide +kernel
theorem g_Z_pipes_41 {L : am_S} {n : Nat} {ls st : List Value} {M : am_M} {Q : am_Q} (h : am_B L mt_Z_pipes k_Z_pipes_41 n 41 ls st M Q) : am_R L mt_Z_pipes n 41 ls st M Q := am_go L mt_Z_pipes (fun h => by cases h) k_Z_pipes_41 n 41 ls st M Q o_Z_pipes_41 h
def k_Z_pipes_47 : List am_I := [(.iload_n 1, 1, 0, 0, 0), (.ireturn, 1, 0, 0, 0)]
set_option maxRecDepth 20000 in
theorem o_Z_pipes_47 : am_okB mt_Z_pipes 47 k_Z_pipes_47 = true := by decide +kernel
theorem g_Z_pipes_47 {L : am_S} {n : Nat} {ls st : List Value} {M : am_M} {Q : am_Q} (h : am_B L mt_Z_pipes k_Z_pipes_47 n 47 ls st M Q) : am_R L mt_Z_pipes n 47 ls st M Q := am_go L mt_Z_pipes (fun h => by cases h) k_Z_pipes_47 n 47 ls st M Q o_Z_pipes_47 h
def k_Z_countNow_0 : List am_I := [(.iload_n 1, 1, 0, 0, 0), (.tableswitch 109 0 8 #[51, 56, 63, 70, 75, 81, 88, 95, 102], 51, 0, 0, 0)]
set_option maxRecDepth 20000 in
theorem o_Z_countNow_0 : am_okB mt_Z_countNow 0 k_Z_countNow_0 = true := by decide +kernel
theorem g_Z_countNow_0 {L : am_S} {n : Nat} {ls st : List Value} {M : am_M} {Q : am_Q} (h : am_B L mt_Z_countNow k_Z_countNow_0 n 0 ls st M Q) : am_R L mt_Z_countNow n 0 ls st M Q := am_go L mt_Z_countNow (fun h => by cases h) k_Z_countNow_0 n 0 ls st M Q o_Z_countNow_0 h
def k_Z_countNow_52 : List am_I := [(.aload_n 0, 1, 0, 0, 0), (.invokevirtual 51, 3, 84, 1, 794), (.ireturn, 1, 0, 0, 0)]
set_option maxRecDepth 20000 in
theorem o_Z_countNow_52 : am_okB mt_Z_countNow 52 k_Z_countNow_52 = true := by decide +kernel
theorem g_Z_countNow_52 {L : am_S} {n : Nat} {ls st : List Value} {M : am_M} {Q : am_Q} (h : am_B L mt_Z_countNow k_Z_countNow_52 n 52 ls st M Q) : am_R L mt_Z_countNow n 52 ls st M Q := am_go L mt_Z_countNow (fun h => by cases h) k_Z_countNow_52 n 52 ls st M Q o_Z_countNow_52 h
def k_Z_countNow_57 : List am_I := [(.aload_n 0, 1, 0, 0, 0), (.getfield 7, 3, 4, 1, 728), (.iconst 0, 1, 0, 0, 0), (.iaload, 1, 0, 0, 0), (.ireturn, 1, 0, 0, 0)]
set_option maxRecDepth 20000 in
theorem o_Z_countNow_57 : am_okB mt_Z_countNow 57 k_Z_countNow_57 = true := by decide +kernel
theorem g_Z_countNow_57 {L : am_S} {n : Nat} {ls st : List Value} {M : am_M} {Q : am_Q} (h : am_B L mt_Z_countNow k_Z_countNow_57 n 57 ls st M Q) : am_R L mt_Z_countNow n 57 ls st M Q := am_go L mt_Z_countNow (fun h => by cases h) k_Z_countNow_57 n 57 ls st M Q o_Z_countNow_57 h
def k_Z_countNow_64 : List am_I := [(.aload_n 0, 1, 0, 0, 0), (.getfield 7, 3, 4, 1, 728), (.iconst 5, 1, 0, 0, 0), (.iaload, 1, 0, 0, 0), (.ireturn, 1, 0, 0, 0)]
set_option maxRecDepth 20000 in
theorem o_Z_countNow_64 : am_okB mt_Z_countNow 64 k_Z_countNow_64 = true := by decide +kernel
theorem g_Z_countNow_64 {L : am_S} {n : Nat} {ls st : List Value} {M : am_M} {Q : am_Q} (h : am_B L mt_Z_countNow k_Z_countNow_64 n 64 ls st M Q) : am_R L mt_Z_countNow n 64 ls st M Q := am_go L mt_Z_countNow (fun h => by cases h) k_Z_countNow_64 n 64 ls st M Q o_Z_countNow_64 h
def k_Z_countNow_71 : List am_I := [(.aload_n 0, 1, 0, 0, 0), (.invokevirtual 176, 3, 131, 1, 999), (.ireturn, 1, 0, 0, 0)]
set_option maxRecDepth 20000 in
theorem o_Z_countNow_71 : am_okB mt_Z_countNow 71 k_Z_countNow_71 = true := by decide +kernel
theorem g_Z_countNow_71 {L : am_S} {n : Nat} {ls st : List Value} {M : am_M} {Q : am_Q} (h : am_B L mt_Z_countNow k_Z_countNow_71 n 71 ls st M Q) : am_R L mt_Z_countNow n 71 ls st M Q := am_go L mt_Z_countNow (fun h => by cases h) k_Z_countNow_71 n 71 ls st M Q o_Z_countNow_71 h
def k_Z_countNow_76 : List am_I := [(.aload_n 0, 1, 0, 0, 0), (.iconst 1, 1, 0, 0, 0), (.invokevirtual 167, 3, 127, 2, 983), (.ireturn, 1, 0, 0, 0)]
set_option maxRecDepth 20000 in
theorem o_Z_countNow_76 : am_okB mt_Z_countNow 76 k_Z_countNow_76 = true := by decide +kernel
theorem g_Z_countNow_76 {L : am_S} {n : Nat} {ls st : List Value} {M : am_M} {Q : am_Q} (h : am_B L mt_Z_countNow k_Z_countNow_76 n 76 ls st M Q) : am_R L mt_Z_countNow n 76 ls st M Q := am_go L mt_Z_countNow (fun h => by cases h) k_Z_countNow_76 n 76 ls st M Q o_Z_countNow_76 h
def k_Z_countNow_82 : List am_I := [(.aload_n 0, 1, 0, 0, 0), (.getfield 7, 3, 4, 1, 728), (.iconst 2, 1, 0, 0, 0), (.iaload, 1, 0, 0, 0), (.ireturn, 1, 0, 0, 0)]
set_option maxRecDepth 20000 in
theorem o_Z_countNow_82 : am_okB mt_Z_countNow 82 k_Z_countNow_82 = true := by decide +kernel
theorem g_Z_countNow_82 {L : am_S} {n : Nat} {ls st : List Value} {M : am_M} {Q : am_Q} (h : am_B L mt_Z_countNow k_Z_countNow_82 n 82 ls st M Q) : am_R L mt_Z_countNow n 82 ls st M Q := am_go L mt_Z_countNow (fun h => by cases h) k_Z_countNow_82 n 82 ls st M Q o_Z_countNow_82 h
def k_Z_countNow_89 : List am_I := [(.aload_n 0, 1, 0, 0, 0), (.getfield 7, 3, 4, 1, 728), (.iconst 3, 1, 0, 0, 0), (.iaload, 1, 0, 0, 0), (.ireturn, 1, 0, 0, 0)]
set_option maxRecDepth 20000 in
theorem o_Z_countNow_89 : am_okB mt_Z_countNow 89 k_Z_countNow_89 = true := by decide +kernel
theorem g_Z_countNow_89 {L : am_S} {n : Nat} {ls st : List Value} {M : am_M} {Q : am_Q} (h : am_B L mt_Z_countNow k_Z_countNow_89 n 89 ls st M Q) : am_R L mt_Z_countNow n 89 ls st M Q := am_go L mt_Z_countNow (fun h => by cases h) k_Z_countNow_89 n 89 ls st M Q o_Z_countNow_89 h
def k_Z_countNow_96 : List am_I := [(.aload_n 0, 1, 0, 0, 0), (.getfield 7, 3, 4, 1, 728), (.iconst 4, 1, 0, 0, 0), (.iaload, 1, 0, 0, 0), (.ireturn, 1, 0, 0, 0)]
set_option maxRecDepth 20000 in
theorem o_Z_countNow_96 : am_okB mt_Z_countNow 96 k_Z_countNow_96 = true := by decide +kernel
theorem g_Z_countNow_96 {L : am_S} {n : Nat} {ls st : List Value} {M : am_M} {Q : am_Q} (h : am_B L mt_Z_countNow k_Z_countNow_96 n 96 ls st M Q) : am_R L mt_Z_countNow n 96 ls st M Q := am_go L mt_Z_countNow (fun h => by cases h) k_Z_countNow_96 n 96 ls st M Q o_Z_countNow_96 h
def k_Z_countNow_103 : List am_I := [(.aload_n 0, 1, 0, 0, 0), (.getfield 7, 3, 4, 1, 728), (.iconst 1, 1, 0, 0, 0), (.iaload, 1, 0, 0, 0), (.ireturn, 1, 0, 0, 0)]
set_option maxRecDepth 20000 in
theorem o_Z_countNow_103 : am_okB mt_Z_countNow 103 k_Z_countNow_103 = true := by decide +kernel
theorem g_Z_countNow_103 {L : am_S} {n : Nat} {ls st : List Value} {M : am_M} {Q : am_Q} (h : am_B L mt_Z_countNow k_Z_countNow_103 n 103 ls st M Q) : am_R L mt_Z_countNow n 103 ls st M Q := am_go L mt_Z_countNow (fun h => by cases h) k_Z_countNow_103 n 103 ls st M Q o_Z_countNow_103 h
def k_Z_countNow_110 : List am_I := [(.aload_n 0, 1, 0, 0, 0), (.getfield 58, 3, 4, 4, 731), (.ireturn, 1, 0, 0, 0)]
set_option maxRecDepth 20000 in
theorem o_Z_countNow_110 : am_okB mt_Z_countNow 110 k_Z_countNow_110 = true := by decide +kernel
theorem g_Z_countNow_110 {L : am_S} {n : Nat} {ls st : List Value} {M : am_M} {Q : am_Q} (h : am_B L mt_Z_countNow k_Z_countNow_110 n 110 ls st M Q) : am_R L mt_Z_countNow n 110 ls st M Q := am_go L mt_Z_countNow (fun h => by cases h) k_Z_countNow_110 n 110 ls st M Q o_Z_countNow_110 h
def k_Z_count_0 : List am_I := [(.aload_n 0, 1, 0, 0, 0), (.iload_n 1, 1, 0, 0, 0), (.iconst 0, 1, 0, 0, 0), (.bipush 9, 2, 0, 0, 0), (.invokestatic 43, 3, 75, 3, 791), (.ifCond .eq 7, 3, 0, 0, 0), (.iconst 0, 1, 0, 0, 0), (.goto 4, 3, 0, 0, 0)]
set_option maxRecDepth 20000 in
theorem o_Z_count_0 : am_okB mt_Z_count 0 k_Z_count_0 = true := by decide +kernel
theorem g_Z_count_0 {L : am_S} {n : Nat} {ls st : List Value} {M : am_M} {Q : am_Q} (h : am_B L mt_Z_count k_Z_count_0 n 0 ls st M Q) : am_R L mt_Z_count n 0 ls st M Q := am_go L mt_Z_count (fun h => by cases h) k_Z_count_0 n 0 ls st M Q o_Z_count_0 h
def k_Z_count_15 : List am_I := [(.iconst 1, 1, 0, 0, 0)]
set_option maxRecDepth 20000 in
theorem o_Z_count_15 : am_okB mt_Z_count 15 k_Z_count_15 = true := by decide +kernel
theorem g_Z_count_15 {L : am_S} {n : Nat} {ls st : List Value} {M : am_M} {Q : am_Q} (h : am_B L mt_Z_count k_Z_count_15 n 15 ls st M Q) : am_R L mt_Z_count n 15 ls st M Q := am_go L mt_Z_count (fun h => by cases h) k_Z_count_15 n 15 ls st M Q o_Z_count_15 h
def k_Z_count_16 : List am_I := [(.putfield 39, 3, 4, 0, 727), (.aload_n 0, 1, 0, 0, 0), (.getfield 39, 3, 4, 0, 727), (.ifCond .le 7, 3, 0, 0, 0), (.iconst 0, 1, 0, 0, 0), (.goto 8, 3, 0, 0, 0)]
set_option maxRecDepth 20000 in
theorem o_Z_count_16 : am_okB mt_Z_count 16 k_Z_count_16 = true := by decide +kernel
theorem g_Z_count_16 {L : am_S} {n : Nat} {ls st : List Value} {M : am_M} {Q : am_Q} (h : am_B L mt_Z_count k_Z_count_16 n 16 ls st M Q) : am_R L mt_Z_count n 16 ls st M Q := am_go L mt_Z_count (fun h => by cases h) k_Z_count_16 n 16 ls st M Q o_Z_count_16 h
def k_Z_count_30 : List am_I := [(.aload_n 0, 1, 0, 0, 0), (.iload_n 1, 1, 0, 0, 0), (.invokevirtual 179, 3, 132, 2, 995)]
set_option maxRecDepth 20000 in
theorem o_Z_count_30 : am_okB mt_Z_count 30 k_Z_count_30 = true := by decide +kernel
theorem g_Z_count_30 {L : am_S} {n : Nat} {ls st : List Value} {M : am_M} {Q : am_Q} (h : am_B L mt_Z_count k_Z_count_30 n 30 ls st M Q) : am_R L mt_Z_count n 30 ls st M Q := am_go L mt_Z_count (fun h => by cases h) k_Z_count_30 n 30 ls st M Q o_Z_count_30 h
def k_Z_count_35 : List am_I := [(.ireturn, 1, 0, 0, 0)]
set_option maxRecDepth 20000 in
theorem o_Z_count_35 : am_okB mt_Z_count 35 k_Z_count_35 = true := by decide +kernel
theorem g_Z_count_35 {L : am_S} {n : Nat} {ls st : List Value} {M : am_M} {Q : am_Q} (h : am_B L mt_Z_count k_Z_count_35 n 35 ls st M Q) : am_R L mt_Z_count n 35 ls st M Q := am_go L mt_Z_count (fun h => by cases h) k_Z_count_35 n 35 ls st M Q o_Z_count_35 h
def k_Z_leftBehind_0 : List am_I := [(.aload_n 0, 1, 0, 0, 0), (.invokevirtual 182, 3, 91, 1, 1011), (.aload_n 0, 1, 0, 0, 0), (.iload_n 1, 1, 0, 0, 0), (.invokevirtual 114, 3, 108, 2, 880), (.aload_n 0, 1, 0, 0, 0), (.iload_n 2, 1, 0, 0, 0), (.iload_n 3, 1, 0, 0, 0), (.invokevirtual 47, 3, 77, 3, 813), (.istore 4, 2, 0, 0, 0), (.aload_n 0, 1, 0, 0, 0), (.invokevirtual 185, 3, 92, 1, 1015), (.iload 4, 2, 0, 0, 0), (.ireturn, 1, 0, 0, 0)]
set_option maxRecDepth 20000 in
theorem o_Z_leftBehind_0 : am_okB mt_Z_leftBehind 0 k_Z_leftBehind_0 = true := by decide +kernel
theorem g_Z_leftBehind_0 {L : am_S} {n : Nat} {ls st : List Value} {M : am_M} {Q : am_Q} (h : am_B L mt_Z_leftBehind k_Z_leftBehind_0 n 0 ls st M Q) : am_R L mt_Z_leftBehind n 0 ls st M Q := am_go L mt_Z_leftBehind (fun h => by cases h) k_Z_leftBehind_0 n 0 ls st M Q o_Z_leftBehind_0 h
def k_Z_ifPassed_0 : List am_I := [(.aload_n 0, 1, 0, 0, 0), (.iload_n 2, 1, 0, 0, 0), (.invokestatic 64, 3, 81, 1, 810), (.ifCond .ne 7, 3, 0, 0, 0), (.iconst 1, 1, 0, 0, 0), (.goto 29, 3, 0, 0, 0)]
set_option maxRecDepth 20000 in
theorem o_Z_ifPassed_0 : am_okB mt_Z_ifPassed 0 k_Z_ifPassed_0 = true := by decide +kernel
theorem g_Z_ifPassed_0 {L : am_S} {n : Nat} {ls st : List Value} {M : am_M} {Q : am_Q} (h : am_B L mt_Z_ifPassed k_Z_ifPassed_0 n 0 ls st M Q) : am_R L mt_Z_ifPassed n 0 ls st M Q := am_go L mt_Z_ifPassed (fun h => by cases h) k_Z_ifPassed_0 n 0 ls st M Q o_Z_ifPassed_0 h
def k_Z_ifPassed_12 : List am_I := [(.iload_n 1, 1, 0, 0, 0), (.iconst 1, 1, 0, 0, 0), (.sipush 240, 3, 0, 0, 0), (.invokestatic 43, 3, 75, 3, 791), (.ifCond .eq 17, 3, 0, 0, 0), (.iload_n 3, 1, 0, 0, 0), (.iconst 1, 1, 0, 0, 0), (.bipush 7, 2, 0, 0, 0), (.invokestatic 43, 3, 75, 3, 791), (.ifCond .eq 7, 3, 0, 0, 0), (.iconst 0, 1, 0, 0, 0), (.goto 4, 3, 0, 0, 0)]
set_option maxRecDepth 20000 in
theorem o_Z_ifPassed_12 : am_okB mt_Z_ifPassed 12 k_Z_ifPassed_12 = true := by decide +kernel
theorem g_Z_ifPassed_12 {L : am_S} {n : Nat} {ls st : List Value} {M : am_M} {Q : am_Q} (h : am_B L mt_Z_ifPassed k_Z_ifPassed_12 n 12 ls st M Q) : am_R L mt_Z_ifPassed n 12 ls st M Q := am_go L mt_Z_ifPassed (fun h => by cases h) k_Z_ifPassed_12 n 12 ls st M Q o_Z_ifPassed_12 h
def k_Z_ifPassed_37 : List am_I := [(.iconst 2, 1, 0, 0, 0)]
set_option maxRecDepth 20000 in
theorem o_Z_ifPassed_37 : am_okB mt_Z_ifPassed 37 k_Z_ifPassed_37 = true := by decide +kernel
theorem g_Z_ifPassed_37 {L : am_S} {n : Nat} {ls st : List Value} {M : am_M} {Q : am_Q} (h : am_B L mt_Z_ifPassed k_Z_ifPassed_37 n 37 ls st M Q) : am_R L mt_Z_ifPassed n 37 ls st M Q := am_go L mt_Z_ifPassed (fun h => by cases h) k_Z_ifPassed_37 n 37 ls st M Q o_Z_ifPassed_37 h
def k_Z_ifPassed_38 : List am_I := [(.putfield 39, 3, 4, 0, 727), (.aload_n 0, 1, 0, 0, 0), (.getfield 39, 3, 4, 0, 727), (.ifCond .le 7, 3, 0, 0, 0), (.iconst 0, 1, 0, 0, 0), (.goto 10, 3, 0, 0, 0)]
set_option maxRecDepth 20000 in
theorem o_Z_ifPassed_38 : am_okB mt_Z_ifPassed 38 k_Z_ifPassed_38 = true := by decide +kernel
theorem g_Z_ifPassed_38 {L : am_S} {n : Nat} {ls st : List Value} {M : am_M} {Q : am_Q} (h : am_B L mt_Z_ifPassed k_Z_ifPassed_38 n 38 ls st M Q) : am_R L mt_Z_ifPassed n 38 ls st M Q := am_go L mt_Z_ifPassed (fun h => by cases h) k_Z_ifPassed_38 n 38 ls st M Q o_Z_ifPassed_38 h
def k_Z_ifPassed_52 : List am_I := [(.aload_n 0, 1, 0, 0, 0), (.iload_n 1, 1, 0, 0, 0), (.iload_n 2, 1, 0, 0, 0), (.iload_n 3, 1, 0, 0, 0), (.invokevirtual 188, 3, 134, 4, 1007)]
set_option maxRecDepth 20000 in
theorem o_Z_ifPassed_52 : am_okB mt_Z_ifPassed 52 k_Z_ifPassed_52 = true := by decide +kernel
theorem g_Z_ifPassed_52 {L : am_S} {n : Nat} {ls st : List Value} {M : am_M} {Q : am_Q} (h : am_B L mt_Z_ifPassed k_Z_ifPassed_52 n 52 ls st M Q) : am_R L mt_Z_ifPassed n 52 ls st M Q := am_go L mt_Z_ifPassed (fun h => by cases h) k_Z_ifPassed_52 n 52 ls st M Q o_Z_ifPassed_52 h
def k_Z_ifPassed_59 : List am_I := [(.ireturn, 1, 0, 0, 0)]
set_option maxRecDepth 20000 in
theorem o_Z_ifPassed_59 : am_okB mt_Z_ifPassed 59 k_Z_ifPassed_59 = true := by decide +kernel
theorem g_Z_ifPassed_59 {L : am_S} {n : Nat} {ls st : List Value} {M : am_M} {Q : am_Q} (h : am_B L mt_Z_ifPassed k_Z_ifPassed_59 n 59 ls st M Q) : am_R L mt_Z_ifPassed n 59 ls st M Q := am_go L mt_Z_ifPassed (fun h => by cases h) k_Z_ifPassed_59 n 59 ls st M Q o_Z_ifPassed_59 h
def k_Z_hoursToEmpty_0 : List am_I := [(.aload_n 0, 1, 0, 0, 0), (.invokevirtual 182, 3, 91, 1, 1011), (.iconst 0, 1, 0, 0, 0), (.istore_n 2, 1, 0, 0, 0)]
set_option maxRecDepth 20000 in
theorem o_Z_hoursToEmpty_0 : am_okB mt_Z_hoursToEmpty 0 k_Z_hoursToEmpty_0 = true := by decide +kernel
theorem g_Z_hoursToEmpty_0 {L : am_S} {n : Nat} {ls st : List Value} {M : am_M} {Q : am_Q} (h : am_B L mt_Z_hoursToEmpty k_Z_hoursToEmpty_0 n 0 ls st M Q) : am_R L mt_Z_hoursToEmpty n 0 ls st M Q := am_go L mt_Z_hoursToEmpty (fun h => by cases h) k_Z_hoursToEmpty_0 n 0 ls st M Q o_Z_hoursToEmpty_0 h
def k_Z_hoursToEmpty_6 : List am_I := [(.aload_n 0, 1, 0, 0, 0), (.iload_n 1, 1, 0, 0, 0), (.iconst 1, 1, 0, 0, 0), (.invokevirtual 47, 3, 77, 3, 813), (.ifCond .le 20, 3, 0, 0, 0), (.iload_n 2, 1, 0, 0, 0), (.sipush 240, 3, 0, 0, 0), (.if_icmp .gt 13, 3, 0, 0, 0), (.aload_n 0, 1, 0, 0, 0), (.invokevirtual 111, 3, 107, 1, 884), (.iinc 2 1, 3, 0, 0, 0), (.goto (-23), 3, 0, 0, 0)]
set_option maxRecDepth 20000 in
theorem o_Z_hoursToEmpty_6 : am_okB mt_Z_hoursToEmpty 6 k_Z_hoursToEmpty_6 = true := by decide +kernel
theorem g_Z_hoursToEmpty_6 {L : am_S} {n : Nat} {ls st : List Value} {M : am_M} {Q : am_Q} (h : am_B L mt_Z_hoursToEmpty k_Z_hoursToEmpty_6 n 6 ls st M Q) : am_R L mt_Z_hoursToEmpty n 6 ls st M Q := am_go L mt_Z_hoursToEmpty (fun h => by cases h) k_Z_hoursToEmpty_6 n 6 ls st M Q o_Z_hoursToEmpty_6 h
def k_Z_hoursToEmpty_32 : List am_I := [(.aload_n 0, 1, 0, 0, 0), (.invokevirtual 185, 3, 92, 1, 1015), (.iload_n 2, 1, 0, 0, 0), (.sipush 240, 3, 0, 0, 0), (.if_icmp .gt 7, 3, 0, 0, 0), (.iload_n 2, 1, 0, 0, 0), (.goto 4, 3, 0, 0, 0)]
set_option maxRecDepth 20000 in
theorem o_Z_hoursToEmpty_32 : am_okB mt_Z_hoursToEmpty 32 k_Z_hoursToEmpty_32 = true := by decide +kernel
theorem g_Z_hoursToEmpty_32 {L : am_S} {n : Nat} {ls st : List Value} {M : am_M} {Q : am_Q} (h : am_B L mt_Z_hoursToEmpty k_Z_hoursToEmpty_32 n 32 ls st M Q) : am_R L mt_Z_hoursToEmpty n 32 ls st M Q := am_go L mt_Z_hoursToEmpty (fun h => by cases h) k_Z_hoursToEmpty_32 n 32 ls st M Q o_Z_hoursToEmpty_32 h
def k_Z_hoursToEmpty_47 : List am_I := [(.iconst (-1), 1, 0, 0, 0)]
set_option maxRecDepth 20000 in
theorem o_Z_hoursToEmpty_47 : am_okB mt_Z_hoursToEmpty 47 k_Z_hoursToEmpty_47 = true := by decide +kernel
theorem g_Z_hoursToEmpty_47 {L : am_S} {n : Nat} {ls st : List Value} {M : am_M} {Q : am_Q} (h : am_B L mt_Z_hoursToEmpty k_Z_hoursToEmpty_47 n 47 ls st M Q) : am_R L mt_Z_hoursToEmpty n 47 ls st M Q := am_go L mt_Z_hoursToEmpty (fun h => by cases h) k_Z_hoursToEmpty_47 n 47 ls st M Q o_Z_hoursToEmpty_47 h
def k_Z_hoursToEmpty_48 : List am_I := [(.ireturn, 1, 0, 0, 0)]
set_option maxRecDepth 20000 in
theorem o_Z_hoursToEmpty_48 : am_okB mt_Z_hoursToEmpty 48 k_Z_hoursToEmpty_48 = true := by decide +kernel
theorem g_Z_hoursToEmpty_48 {L : am_S} {n : Nat} {ls st : List Value} {M : am_M} {Q : am_Q} (h : am_B L mt_Z_hoursToEmpty k_Z_hoursToEmpty_48 n 48 ls st M Q) : am_R L mt_Z_hoursToEmpty n 48 ls st M Q := am_go L mt_Z_hoursToEmpty (fun h => by cases h) k_Z_hoursToEmpty_48 n 48 ls st M Q o_Z_hoursToEmpty_48 h
def k_Z_emptyIn_0 : List am_I := [(.aload_n 0, 1, 0, 0, 0), (.iload_n 1, 1, 0, 0, 0), (.invokestatic 64, 3, 81, 1, 810), (.ifCond .eq 7, 3, 0, 0, 0), (.iconst 0, 1, 0, 0, 0), (.goto 4, 3, 0, 0, 0)]
set_option maxRecDepth 20000 in
theorem o_Z_emptyIn_0 : am_okB mt_Z_emptyIn 0 k_Z_emptyIn_0 = true := by decide +kernel
theorem g_Z_emptyIn_0 {L : am_S} {n : Nat} {ls st : List Value} {M : am_M} {Q : am_Q} (h : am_B L mt_Z_emptyIn k_Z_emptyIn_0 n 0 ls st M Q) : am_R L mt_Z_emptyIn n 0 ls st M Q := am_go L mt_Z_emptyIn (fun h => by cases h) k_Z_emptyIn_0 n 0 ls st M Q o_Z_emptyIn_0 h
def k_Z_emptyIn_12 : List am_I := [(.iconst 1, 1, 0, 0, 0)]
set_option maxRecDepth 20000 in
theorem o_Z_emptyIn_12 : am_okB mt_Z_emptyIn 12 k_Z_emptyIn_12 = true := by decide +kernel
theorem g_Z_emptyIn_12 {L : am_S} {n : Nat} {ls st : List Value} {M : am_M} {Q : am_Q} (h : am_B L mt_Z_emptyIn k_Z_emptyIn_12 n 12 ls st M Q) : am_R L mt_Z_emptyIn n 12 ls st M Q := am_go L mt_Z_emptyIn (fun h => by cases h) k_Z_emptyIn_12 n 12 ls st M Q o_Z_emptyIn_12 h
def k_Z_emptyIn_13 : List am_I := [(.putfield 39, 3, 4, 0, 727), (.aload_n 0, 1, 0, 0, 0), (.getfield 39, 3, 4, 0, 727), (.ifCond .le 7, 3, 0, 0, 0), (.iconst 0, 1, 0, 0, 0), (.goto 8, 3, 0, 0, 0)]
set_option maxRecDepth 20000 in
theorem o_Z_emptyIn_13 : am_okB mt_Z_emptyIn 13 k_Z_emptyIn_13 = true := by decide +kernel
theorem g_Z_emptyIn_13 {L : am_S} {n : Nat} {ls st : List Value} {M : am_M} {Q : am_Q} (h : am_B L mt_Z_emptyIn k_Z_emptyIn_13 n 13 ls st M Q) : am_R L mt_Z_emptyIn n 13 ls st M Q := am_go L mt_Z_emptyIn (fun h => by cases h) k_Z_emptyIn_13 n 13 ls st M Q o_Z_emptyIn_13 h
def k_Z_emptyIn_27 : List am_I := [(.aload_n 0, 1, 0, 0, 0), (.iload_n 1, 1, 0, 0, 0), (.invokevirtual 191, 3, 136, 2, 1023)]
set_option maxRecDepth 20000 in
theorem o_Z_emptyIn_27 : am_okB mt_Z_emptyIn 27 k_Z_emptyIn_27 = true := by decide +kernel
theorem g_Z_emptyIn_27 {L : am_S} {n : Nat} {ls st : List Value} {M : am_M} {Q : am_Q} (h : am_B L mt_Z_emptyIn k_Z_emptyIn_27 n 27 ls st M Q) : am_R L mt_Z_emptyIn n 27 ls st M Q := am_go L mt_Z_emptyIn (fun h => by cases h) k_Z_emptyIn_27 n 27 ls st M Q o_Z_emptyIn_27 h
def k_Z_emptyIn_32 : List am_I := [(.ireturn, 1, 0, 0, 0)]
set_option maxRecDepth 20000 in
theorem o_Z_emptyIn_32 : am_okB mt_Z_emptyIn 32 k_Z_emptyIn_32 = true := by decide +kernel
theorem g_Z_emptyIn_32 {L : am_S} {n : Nat} {ls st : List Value} {M : am_M} {Q : am_Q} (h : am_B L mt_Z_emptyIn k_Z_emptyIn_32 n 32 ls st M Q) : am_R L mt_Z_emptyIn n 32 ls st M Q := am_go L mt_Z_emptyIn (fun h => by cases h) k_Z_emptyIn_32 n 32 ls st M Q o_Z_emptyIn_32 h
def k_Z_isSameLook_0 : List am_I := [(.iconst 1, 1, 0, 0, 0), (.istore_n 3, 1, 0, 0, 0), (.iconst 0, 1, 0, 0, 0), (.istore 4, 2, 0, 0, 0)]
set_option maxRecDepth 20000 in
theorem o_Z_isSameLook_0 : am_okB mt_Z_isSameLook 0 k_Z_isSameLook_0 = true := by decide +kernel
theorem g_Z_isSameLook_0 {L : am_S} {n : Nat} {ls st : List Value} {M : am_M} {Q : am_Q} (h : am_B L mt_Z_isSameLook k_Z_isSameLook_0 n 0 ls st M Q) : am_R L mt_Z_isSameLook n 0 ls st M Q := am_go L mt_Z_isSameLook (fun h => by cases h) k_Z_isSameLook_0 n 0 ls st M Q o_Z_isSameLook_0 h
def k_Z_isSameLook_5 : List am_I := [(.iload 4, 2, 0, 0, 0), (.bipush 35, 2, 0, 0, 0), (.if_icmp .ge 46, 3, 0, 0, 0), (.iload_n 3, 1, 0, 0, 0), (.ifCond .eq 42, 3, 0, 0, 0), (.aload_n 0, 1, 0, 0, 0), (.getfield 29, 3, 4, 9, 736), (.bipush 35, 2, 0, 0, 0), (.iload_n 1, 1, 0, 0, 0), (.imul, 1, 0, 0, 0), (.iload 4, 2, 0, 0, 0), (.iadd, 1, 0, 0, 0), (.iaload, 1, 0, 0, 0), (.aload_n 0, 1, 0, 0, 0), (.getfield 29, 3, 4, 9, 736), (.bipush 35, 2, 0, 0, 0), (.iload_n 2, 1, 0, 0, 0), (.imul, 1, 0, 0, 0), (.iload 4, 2, 0, 0, 0), (.iadd, 1, 0, 0, 0), (.iaload, 1, 0, 0, 0), (.if_icmp .ne 7, 3, 0, 0, 0), (.iconst 1, 1, 0, 0, 0), (.goto 4, 3, 0, 0, 0)]
set_option maxRecDepth 20000 in
theorem o_Z_isSameLook_5 : am_okB mt_Z_isSameLook 5 k_Z_isSameLook_5 = true := by decide +kernel
theorem g_Z_isSameLook_5 {L : am_S} {n : Nat} {ls st : List Value} {M : am_M} {Q : am_Q} (h : am_B L mt_Z_isSameLook k_Z_isSameLook_5 n 5 ls st M Q) : am_R L mt_Z_isSameLook n 5 ls st M Q := am_go L mt_Z_isSameLook (fun h => by cases h) k_Z_isSameLook_5 n 5 ls st M Q o_Z_isSameLook_5 h
def k_Z_isSameLook_47 : List am_I := [(.iconst 0, 1, 0, 0, 0)]
set_option maxRecDepth 20000 in
theorem o_Z_isSameLook_47 : am_okB mt_Z_isSameLook 47 k_Z_isSameLook_47 = true := by decide +kernel
theorem g_Z_isSameLook_47 {L : am_S} {n : Nat} {ls st : List Value} {M : am_M} {Q : am_Q} (h : am_B L mt_Z_isSameLook k_Z_isSameLook_47 n 47 ls st M Q) : am_R L mt_Z_isSameLook n 47 ls st M Q := am_go L mt_Z_isSameLook (fun h => by cases h) k_Z_isSameLook_47 n 47 ls st M Q o_Z_isSameLook_47 h
def k_Z_isSameLook_48 : List am_I := [(.istore_n 3, 1, 0, 0, 0), (.iinc 4 1, 3, 0, 0, 0), (.goto (-47), 3, 0, 0, 0)]
set_option maxRecDepth 20000 in
theorem o_Z_isSameLook_48 : am_okB mt_Z_isSameLook 48 k_Z_isSameLook_48 = true := by decide +kernel
theorem g_Z_isSameLook_48 {L : am_S} {n : Nat} {ls st : List Value} {M : am_M} {Q : am_Q} (h : am_B L mt_Z_isSameLook k_Z_isSameLook_48 n 48 ls st M Q) : am_R L mt_Z_isSameLook n 48 ls st M Q := am_go L mt_Z_isSameLook (fun h => by cases h) k_Z_isSameLook_48 n 48 ls st M Q o_Z_isSameLook_48 h
def k_Z_isSameLook_55 : List am_I := [(.iload_n 3, 1, 0, 0, 0), (.ireturn, 1, 0, 0, 0)]
set_option maxRecDepth 20000 in
theorem o_Z_isSameLook_55 : am_okB mt_Z_isSameLook 55 k_Z_isSameLook_55 = true := by decide +kernel
theorem g_Z_isSameLook_55 {L : am_S} {n : Nat} {ls st : List Value} {M : am_M} {Q : am_Q} (h : am_B L mt_Z_isSameLook k_Z_isSameLook_55 n 55 ls st M Q) : am_R L mt_Z_isSameLook n 55 ls st M Q := am_go L mt_Z_isSameLook (fun h => by cases h) k_Z_isSameLook_55 n 55 ls st M Q o_Z_isSameLook_55 h
def k_Z_findRound_0 : List am_I := [(.aload_n 0, 1, 0, 0, 0), (.invokevirtual 182, 3, 91, 1, 1011), (.iconst 0, 1, 0, 0, 0), (.istore_n 1, 1, 0, 0, 0)]
set_option maxRecDepth 20000 in
theorem o_Z_findRound_0 : am_okB mt_Z_findRound 0 k_Z_findRound_0 = true := by decide +kernel
theorem g_Z_findRound_0 {L : am_S} {n : Nat} {ls st : List Value} {M : am_M} {Q : am_Q} (h : am_B L mt_Z_findRound k_Z_findRound_0 n 0 ls st M Q) : am_R L mt_Z_findRound n 0 ls st M Q := am_go L mt_Z_findRound (fun h => by cases h) k_Z_findRound_0 n 0 ls st M Q o_Z_findRound_0 h
def k_Z_findRound_6 : List am_I := [(.iload_n 1, 1, 0, 0, 0), (.bipush 60, 2, 0, 0, 0), (.if_icmp .gt 54, 3, 0, 0, 0), (.iconst 0, 1, 0, 0, 0), (.istore_n 2, 1, 0, 0, 0)]
set_option maxRecDepth 20000 in
theorem o_Z_findRound_6 : am_okB mt_Z_findRound 6 k_Z_findRound_6 = true := by decide +kernel
theorem g_Z_findRound_6 {L : am_S} {n : Nat} {ls st : List Value} {M : am_M} {Q : am_Q} (h : am_B L mt_Z_findRound k_Z_findRound_6 n 6 ls st M Q) : am_R L mt_Z_findRound n 6 ls st M Q := am_go L mt_Z_findRound (fun h => by cases h) k_Z_findRound_6 n 6 ls st M Q o_Z_findRound_6 h
def k_Z_findRound_14 : List am_I := [(.iload_n 2, 1, 0, 0, 0), (.bipush 35, 2, 0, 0, 0), (.if_icmp .ge 34, 3, 0, 0, 0), (.aload_n 0, 1, 0, 0, 0), (.getfield 29, 3, 4, 9, 736), (.bipush 35, 2, 0, 0, 0), (.iload_n 1, 1, 0, 0, 0), (.imul, 1, 0, 0, 0), (.iload_n 2, 1, 0, 0, 0), (.iadd, 1, 0, 0, 0), (.aload_n 0, 1, 0, 0, 0), (.iload_n 2, 1, 0, 0, 0), (.bipush 7, 2, 0, 0, 0), (.idiv, 1, 0, 0, 0), (.iconst 1, 1, 0, 0, 0), (.iload_n 2, 1, 0, 0, 0), (.bipush 7, 2, 0, 0, 0), (.irem, 1, 0, 0, 0), (.iadd, 1, 0, 0, 0), (.invokevirtual 47, 3, 77, 3, 813), (.iastore, 1, 0, 0, 0), (.iinc 2 1, 3, 0, 0, 0), (.goto (-34), 3, 0, 0, 0)]
set_option maxRecDepth 20000 in
theorem o_Z_findRound_14 : am_okB mt_Z_findRound 14 k_Z_findRound_14 = true := by decide +kernel
theorem g_Z_findRound_14 {L : am_S} {n : Nat} {ls st : List Value} {M : am_M} {Q : am_Q} (h : am_B L mt_Z_findRound k_Z_findRound_14 n 14 ls st M Q) : am_R L mt_Z_findRound n 14 ls st M Q := am_go L mt_Z_findRound (fun h => by cases h) k_Z_findRound_14 n 14 ls st M Q o_Z_findRound_14 h
def k_Z_findRound_51 : List am_I := [(.aload_n 0, 1, 0, 0, 0), (.bipush 24, 2, 0, 0, 0), (.invokevirtual 114, 3, 108, 2, 880), (.iinc 1 1, 3, 0, 0, 0), (.goto (-54), 3, 0, 0, 0)]
set_option maxRecDepth 20000 in
theorem o_Z_findRound_51 : am_okB mt_Z_findRound 51 k_Z_findRound_51 = true := by decide +kernel
theorem g_Z_findRound_51 {L : am_S} {n : Nat} {ls st : List Value} {M : am_M} {Q : am_Q} (h : am_B L mt_Z_findRound k_Z_findRound_51 n 51 ls st M Q) : am_R L mt_Z_findRound n 51 ls st M Q := am_go L mt_Z_findRound (fun h => by cases h) k_Z_findRound_51 n 51 ls st M Q o_Z_findRound_51 h
def k_Z_findRound_63 : List am_I := [(.aload_n 0, 1, 0, 0, 0), (.invokevirtual 185, 3, 92, 1, 1015), (.aload_n 0, 1, 0, 0, 0), (.iconst (-1), 1, 0, 0, 0), (.putfield 194, 3, 4, 10, 737), (.aload_n 0, 1, 0, 0, 0), (.iconst (-1), 1, 0, 0, 0), (.putfield 197, 3, 4, 11, 738), (.bipush 60, 2, 0, 0, 0), (.istore_n 1, 1, 0, 0, 0)]
set_option maxRecDepth 20000 in
theorem o_Z_findRound_63 : am_okB mt_Z_findRound 63 k_Z_findRound_63 = true := by decide +kernel
theorem g_Z_findRound_63 {L : am_S} {n : Nat} {ls st : List Value} {M : am_M} {Q : am_Q} (h : am_B L mt_Z_findRound k_Z_findRound_63 n 63 ls st M Q) : am_R L mt_Z_findRound n 63 ls st M Q := am_go L mt_Z_findRound (fun h => by cases h) k_Z_findRound_63 n 63 ls st M Q o_Z_findRound_63 h
def k_Z_findRound_80 : List am_I := [(.iload_n 1, 1, 0, 0, 0), (.ifCond .lt 68, 3, 0, 0, 0), (.bipush 60, 2, 0, 0, 0), (.istore_n 2, 1, 0, 0, 0)]
set_option maxRecDepth 20000 in
theorem o_Z_findRound_80 : am_okB mt_Z_findRound 80 k_Z_findRound_80 = true := by decide +kernel
theorem g_Z_findRound_80 {L : am_S} {n : Nat} {ls st : List Value} {M : am_M} {Q : am_Q} (h : am_B L mt_Z_findRound k_Z_findRound_80 n 80 ls st M Q) : am_R L mt_Z_findRound n 80 ls st M Q := am_go L mt_Z_findRound (fun h => by cases h) k_Z_findRound_80 n 80 ls st M Q o_Z_findRound_80 h
def k_Z_findRound_87 : List am_I := [(.iload_n 2, 1, 0, 0, 0), (.iload_n 1, 1, 0, 0, 0), (.if_icmp .le 54, 3, 0, 0, 0), (.aload_n 0, 1, 0, 0, 0), (.iload_n 1, 1, 0, 0, 0), (.iload_n 2, 1, 0, 0, 0), (.invokevirtual 200, 3, 138, 3, 1035), (.ifCond .eq 39, 3, 0, 0, 0), (.aload_n 0, 1, 0, 0, 0), (.iload_n 1, 1, 0, 0, 0), (.putfield 197, 3, 4, 11, 738), (.aload_n 0, 1, 0, 0, 0), (.aload_n 0, 1, 0, 0, 0), (.getfield 194, 3, 4, 10, 737), (.ifCond .lt 13, 3, 0, 0, 0), (.iload_n 2, 1, 0, 0, 0), (.iload_n 1, 1, 0, 0, 0), (.isub, 1, 0, 0, 0), (.aload_n 0, 1, 0, 0, 0), (.getfield 194, 3, 4, 10, 737), (.if_icmp .ge 9, 3, 0, 0, 0)]
set_option maxRecDepth 20000 in
theorem o_Z_findRound_87 : am_okB mt_Z_findRound 87 k_Z_findRound_87 = true := by decide +kernel
theorem g_Z_findRound_87 {L : am_S} {n : Nat} {ls st : List Value} {M : am_M} {Q : am_Q} (h : am_B L mt_Z_findRound k_Z_findRound_87 n 87 ls st M Q) : am_R L mt_Z_findRound n 87 ls st M Q := am_go L mt_Z_findRound (fun h => by cases h) k_Z_findRound_87 n 87 ls st M Q o_Z_findRound_87 h
def k_Z_findRound_124 : List am_I := [(.iload_n 2, 1, 0, 0, 0), (.iload_n 1, 1, 0, 0, 0), (.isub, 1, 0, 0, 0), (.goto 7, 3, 0, 0, 0)]
set_option maxRecDepth 20000 in
theorem o_Z_findRound_124 : am_okB mt_Z_findRound 124 k_Z_findRound_124 = true := by decide +kernel
theorem g_Z_findRound_124 {L : am_S} {n : Nat} {ls st : List Value} {M : am_M} {Q : am_Q} (h : am_B L mt_Z_findRound k_Z_findRound_124 n 124 ls st M Q) : am_R L mt_Z_findRound n 124 ls st M Q := am_go L mt_Z_findRound (fun h => by cases h) k_Z_findRound_124 n 124 ls st M Q o_Z_findRound_124 h
def k_Z_findRound_130 : List am_I := [(.aload_n 0, 1, 0, 0, 0), (.getfield 194, 3, 4, 10, 737)]
set_option maxRecDepth 20000 in
theorem o_Z_findRound_130 : am_okB mt_Z_findRound 130 k_Z_findRound_130 = true := by decide +kernel
theorem g_Z_findRound_130 {L : am_S} {n : Nat} {ls st : List Value} {M : am_M} {Q : am_Q} (h : am_B L mt_Z_findRound k_Z_findRound_130 n 130 ls st M Q) : am_R L mt_Z_findRound n 130 ls st M Q := am_go L mt_Z_findRound (fun h => by cases h) k_Z_findRound_130 n 130 ls st M Q o_Z_findRound_130 h
def k_Z_findRound_134 : List am_I := [(.putfield 194, 3, 4, 10, 737)]
set_option maxRecDepth 20000 in
theorem o_Z_findRound_134 : am_okB mt_Z_findRound 134 k_Z_findRound_134 = true := by decide +kernel
theorem g_Z_findRound_134 {L : am_S} {n : Nat} {ls st : List Value} {M : am_M} {Q : am_Q} (h : am_B L mt_Z_findRound k_Z_findRound_134 n 134 ls st M Q) : am_R L mt_Z_findRound n 134 ls st M Q := am_go L mt_Z_findRound (fun h => by cases h) k_Z_findRound_134 n 134 ls st M Q o_Z_findRound_134 h
def k_Z_findRound_137 : List am_I := [(.iinc 2 (-1), 3, 0, 0, 0), (.goto (-53), 3, 0, 0, 0)]
set_option maxRecDepth 20000 in
theorem o_Z_findRound_137 : am_okB mt_Z_findRound 137 k_Z_findRound_137 = true := by decide +kernel
theorem g_Z_findRound_137 {L : am_S} {n : Nat} {ls st : List Value} {M : am_M} {Q : am_Q} (h : am_B L mt_Z_findRound k_Z_findRound_137 n 137 ls st M Q) : am_R L mt_Z_findRound n 137 ls st M Q := am_go L mt_Z_findRound (fun h => by cases h) k_Z_findRound_137 n 137 ls st M Q o_Z_findRound_137 h
def k_Z_findRound_143 : List am_I := [(.iinc 1 (-1), 3, 0, 0, 0), (.goto (-66), 3, 0, 0, 0)]
set_option maxRecDepth 20000 in
theorem o_Z_findRound_143 : am_okB mt_Z_findRound 143 k_Z_findRound_143 = true := by decide +kernel
theorem g_Z_findRound_143 {L : am_S} {n : Nat} {ls st : List Value} {M : am_M} {Q : am_Q} (h : am_B L mt_Z_findRound k_Z_findRound_143 n 143 ls st M Q) : am_R L mt_Z_findRound n 143 ls st M Q := am_go L mt_Z_findRound (fun h => by cases h) k_Z_findRound_143 n 143 ls st M Q o_Z_findRound_143 h
def k_Z_findRound_149 : List am_I := [(.return_, 1, 0, 0, 0)]
set_option maxRecDepth 20000 in
theorem o_Z_findRound_149 : am_okB mt_Z_findRound 149 k_Z_findRound_149 = true := by decide +kernel
theorem g_Z_findRound_149 {L : am_S} {n : Nat} {ls st : List Value} {M : am_M} {Q : am_Q} (h : am_B L mt_Z_findRound k_Z_findRound_149 n 149 ls st M Q) : am_R L mt_Z_findRound n 149 ls st M Q := am_go L mt_Z_findRound (fun h => by cases h) k_Z_findRound_149 n 149 ls st M Q o_Z_findRound_149 h
def k_Z_round_0 : List am_I := [(.aload_n 0, 1, 0, 0, 0), (.iload_n 1, 1, 0, 0, 0), (.iconst 0, 1, 0, 0, 0), (.iconst 3, 1, 0, 0, 0), (.invokestatic 43, 3, 75, 3, 791), (.ifCond .eq 7, 3, 0, 0, 0), (.iconst 0, 1, 0, 0, 0), (.goto 4, 3, 0, 0, 0)]
set_option maxRecDepth 20000 in
theorem o_Z_round_0 : am_okB mt_Z_round 0 k_Z_round_0 = true := by decide +kernel
theorem g_Z_round_0 {L : am_S} {n : Nat} {ls st : List Value} {M : am_M} {Q : am_Q} (h : am_B L mt_Z_round k_Z_round_0 n 0 ls st M Q) : am_R L mt_Z_round n 0 ls st M Q := am_go L mt_Z_round (fun h => by cases h) k_Z_round_0 n 0 ls st M Q o_Z_round_0 h
def k_Z_round_14 : List am_I := [(.iconst 1, 1, 0, 0, 0)]
set_option maxRecDepth 20000 in
theorem o_Z_round_14 : am_okB mt_Z_round 14 k_Z_round_14 = true := by decide +kernel
theorem g_Z_round_14 {L : am_S} {n : Nat} {ls st : List Value} {M : am_M} {Q : am_Q} (h : am_B L mt_Z_round k_Z_round_14 n 14 ls st M Q) : am_R L mt_Z_round n 14 ls st M Q := am_go L mt_Z_round (fun h => by cases h) k_Z_round_14 n 14 ls st M Q o_Z_round_14 h
def k_Z_round_15 : List am_I := [(.putfield 39, 3, 4, 0, 727), (.aload_n 0, 1, 0, 0, 0), (.getfield 39, 3, 4, 0, 727), (.ifCond .le 5, 3, 0, 0, 0), (.iconst 0, 1, 0, 0, 0), (.ireturn, 1, 0, 0, 0)]
set_option maxRecDepth 20000 in
theorem o_Z_round_15 : am_okB mt_Z_round 15 k_Z_round_15 = true := by decide +kernel
theorem g_Z_round_15 {L : am_S} {n : Nat} {ls st : List Value} {M : am_M} {Q : am_Q} (h : am_B L mt_Z_round k_Z_round_15 n 15 ls st M Q) : am_R L mt_Z_round n 15 ls st M Q := am_go L mt_Z_round (fun h => by cases h) k_Z_round_15 n 15 ls st M Q o_Z_round_15 h
def k_Z_round_27 : List am_I := [(.aload_n 0, 1, 0, 0, 0), (.invokevirtual 203, 3, 139, 1, 1031), (.iload_n 1, 1, 0, 0, 0), (.iconst 2, 1, 0, 0, 0), (.irem, 1, 0, 0, 0), (.ifCond .ne 10, 3, 0, 0, 0), (.aload_n 0, 1, 0, 0, 0), (.getfield 194, 3, 4, 10, 737), (.goto 7, 3, 0, 0, 0)]
set_option maxRecDepth 20000 in
theorem o_Z_round_27 : am_okB mt_Z_round 27 k_Z_round_27 = true := by decide +kernel
theorem g_Z_round_27 {L : am_S} {n : Nat} {ls st : List Value} {M : am_M} {Q : am_Q} (h : am_B L mt_Z_round k_Z_round_27 n 27 ls st M Q) : am_R L mt_Z_round n 27 ls st M Q := am_go L mt_Z_round (fun h => by cases h) k_Z_round_27 n 27 ls st M Q o_Z_round_27 h
def k_Z_round_44 : List am_I := [(.aload_n 0, 1, 0, 0, 0), (.getfield 197, 3, 4, 11, 738)]
set_option maxRecDepth 20000 in
theorem o_Z_round_44 : am_okB mt_Z_round 44 k_Z_round_44 = true := by decide +kernel
theorem g_Z_round_44 {L : am_S} {n : Nat} {ls st : List Value} {M : am_M} {Q : am_Q} (h : am_B L mt_Z_round k_Z_round_44 n 44 ls st M Q) : am_R L mt_Z_round n 44 ls st M Q := am_go L mt_Z_round (fun h => by cases h) k_Z_round_44 n 44 ls st M Q o_Z_round_44 h
def k_Z_round_48 : List am_I := [(.ireturn, 1, 0, 0, 0)]
set_option maxRecDepth 20000 in
theorem o_Z_round_48 : am_okB mt_Z_round 48 k_Z_round_48 = true := by decide +kernel
theorem g_Z_round_48 {L : am_S} {n : Nat} {ls st : List Value} {M : am_M} {Q : am_Q} (h : am_B L mt_Z_round k_Z_round_48 n 48 ls st M Q) : am_R L mt_Z_round n 48 ls st M Q := am_go L mt_Z_round (fun h => by cases h) k_Z_round_48 n 48 ls st M Q o_Z_round_48 h
def k_Z_findMainValve_0 : List am_I := [(.iconst (-1), 1, 0, 0, 0), (.istore_n 1, 1, 0, 0, 0), (.iconst 0, 1, 0, 0, 0), (.istore_n 2, 1, 0, 0, 0), (.aload_n 0, 1, 0, 0, 0), (.getfield 7, 3, 4, 1, 728), (.iconst 2, 1, 0, 0, 0), (.iaload, 1, 0, 0, 0), (.istore_n 3, 1, 0, 0, 0), (.aload_n 0, 1, 0, 0, 0), (.invokevirtual 182, 3, 91, 1, 1011), (.iconst 0, 1, 0, 0, 0), (.istore 4, 2, 0, 0, 0)]
set_option maxRecDepth 20000 in
theorem o_Z_findMainValve_0 : am_okB mt_Z_findMainValve 0 k_Z_findMainValve_0 = true := by decide +kernel
theorem g_Z_findMainValve_0 {L : am_S} {n : Nat} {ls st : List Value} {M : am_M} {Q : am_Q} (h : am_B L mt_Z_findMainValve k_Z_findMainValve_0 n 0 ls st M Q) : am_R L mt_Z_findMainValve n 0 ls st M Q := am_go L mt_Z_findMainValve (fun h => by cases h) k_Z_findMainValve_0 n 0 ls st M Q o_Z_findMainValve_0 h
def k_Z_findMainValve_18 : List am_I := [(.iload 4, 2, 0, 0, 0), (.aload_n 0, 1, 0, 0, 0), (.getfield 13, 3, 4, 2, 729), (.iconst 5, 1, 0, 0, 0), (.iaload, 1, 0, 0, 0), (.if_icmp .ge 65, 3, 0, 0, 0), (.aload_n 0, 1, 0, 0, 0), (.iload 4, 2, 0, 0, 0), (.invokevirtual 89, 3, 99, 2, 860), (.aload_n 0, 1, 0, 0, 0), (.bipush 24, 2, 0, 0, 0), (.invokevirtual 114, 3, 108, 2, 880), (.aload_n 0, 1, 0, 0, 0), (.getfield 7, 3, 4, 1, 728), (.iconst 2, 1, 0, 0, 0), (.iaload, 1, 0, 0, 0), (.iload_n 3, 1, 0, 0, 0), (.isub, 1, 0, 0, 0), (.istore 5, 2, 0, 0, 0), (.iload_n 1, 1, 0, 0, 0), (.ifCond .lt 9, 3, 0, 0, 0), (.iload 5, 2, 0, 0, 0), (.iload_n 2, 1, 0, 0, 0), (.if_icmp .ge 8, 3, 0, 0, 0)]
set_option maxRecDepth 20000 in
theorem o_Z_findMainValve_18 : am_okB mt_Z_findMainValve 18 k_Z_findMainValve_18 = true := by decide +kernel
theorem g_Z_findMainValve_18 {L : am_S} {n : Nat} {ls st : List Value} {M : am_M} {Q : am_Q} (h : am_B L mt_Z_findMainValve k_Z_findMainValve_18 n 18 ls st M Q) : am_R L mt_Z_findMainValve n 18 ls st M Q := am_go L mt_Z_findMainValve (fun h => by cases h) k_Z_findMainValve_18 n 18 ls st M Q o_Z_findMainValve_18 h
def k_Z_findMainValve_61 : List am_I := [(.iload 4, 2, 0, 0, 0), (.goto 4, 3, 0, 0, 0)]
set_option maxRecDepth 20000 in
theorem o_Z_findMainValve_61 : am_okB mt_Z_findMainValve 61 k_Z_findMainValve_61 = true := by decide +kernel
theorem g_Z_findMainValve_61 {L : am_S} {n : Nat} {ls st : List Value} {M : am_M} {Q : am_Q} (h : am_B L mt_Z_findMainValve k_Z_findMainValve_61 n 61 ls st M Q) : am_R L mt_Z_findMainValve n 61 ls st M Q := am_go L mt_Z_findMainValve (fun h => by cases h) k_Z_findMainValve_61 n 61 ls st M Q o_Z_findMainValve_61 h
def k_Z_findMainValve_66 : List am_I := [(.iload_n 1, 1, 0, 0, 0)]
set_option maxRecDepth 20000 in
theorem o_Z_findMainValve_66 : am_okB mt_Z_findMainValve 66 k_Z_findMainValve_66 = true := by decide +kernel
theorem g_Z_findMainValve_66 {L : am_S} {n : Nat} {ls st : List Value} {M : am_M} {Q : am_Q} (h : am_B L mt_Z_findMainValve k_Z_findMainValve_66 n 66 ls st M Q) : am_R L mt_Z_findMainValve n 66 ls st M Q := am_go L mt_Z_findMainValve (fun h => by cases h) k_Z_findMainValve_66 n 66 ls st M Q o_Z_findMainValve_66 h
def k_Z_findMainValve_67 : List am_I := [(.istore_n 1, 1, 0, 0, 0), (.iload_n 1, 1, 0, 0, 0), (.iload 4, 2, 0, 0, 0), (.if_icmp .ne 8, 3, 0, 0, 0), (.iload 5, 2, 0, 0, 0), (.goto 4, 3, 0, 0, 0)]
set_option maxRecDepth 20000 in
theorem o_Z_findMainValve_67 : am_okB mt_Z_findMainValve 67 k_Z_findMainValve_67 = true := by decide +kernel
theorem g_Z_findMainValve_67 {L : am_S} {n : Nat} {ls st : List Value} {M : am_M} {Q : am_Q} (h : am_B L mt_Z_findMainValve k_Z_findMainValve_67 n 67 ls st M Q) : am_R L mt_Z_findMainValve n 67 ls st M Q := am_go L mt_Z_findMainValve (fun h => by cases h) k_Z_findMainValve_67 n 67 ls st M Q o_Z_findMainValve_67 h
def k_Z_findMainValve_79 : List am_I := [(.iload_n 2, 1, 0, 0, 0)]
set_option maxRecDepth 20000 in
theorem o_Z_findMainValve_79 : am_okB mt_Z_findMainValve 79 k_Z_findMainValve_79 = true := by decide +kernel
theorem g_Z_findMainValve_79 {L : am_S} {n : Nat} {ls st : List Value} {M : am_M} {Q : am_Q} (h : am_B L mt_Z_findMainValve k_Z_findMainValve_79 n 79 ls st M Q) : am_R L mt_Z_findMainValve n 79 ls st M Q := am_go L mt_Z_findMainValve (fun h => by cases h) k_Z_findMainValve_79 n 79 ls st M Q o_Z_findMainValve_79 h
def k_Z_findMainValve_80 : List am_I := [(.istore_n 2, 1, 0, 0, 0), (.aload_n 0, 1, 0, 0, 0), (.invokevirtual 185, 3, 92, 1, 1015), (.iinc 4 1, 3, 0, 0, 0), (.goto (-70), 3, 0, 0, 0)]
set_option maxRecDepth 20000 in
theorem o_Z_findMainValve_80 : am_okB mt_Z_findMainValve 80 k_Z_findMainValve_80 = true := by decide +kernel
theorem g_Z_findMainValve_80 {L : am_S} {n : Nat} {ls st : List Value} {M : am_M} {Q : am_Q} (h : am_B L mt_Z_findMainValve k_Z_findMainValve_80 n 80 ls st M Q) : am_R L mt_Z_findMainValve n 80 ls st M Q := am_go L mt_Z_findMainValve (fun h => by cases h) k_Z_findMainValve_80 n 80 ls st M Q o_Z_findMainValve_80 h
def k_Z_findMainValve_91 : List am_I := [(.iload_n 1, 1, 0, 0, 0), (.ireturn, 1, 0, 0, 0)]
set_option maxRecDepth 20000 in
theorem o_Z_findMainValve_91 : am_okB mt_Z_findMainValve 91 k_Z_findMainValve_91 = true := by decide +kernel
theorem g_Z_findMainValve_91 {L : am_S} {n : Nat} {ls st : List Value} {M : am_M} {Q : am_Q} (h : am_B L mt_Z_findMainValve k_Z_findMainValve_91 n 91 ls st M Q) : am_R L mt_Z_findMainValve n 91 ls st M Q := am_go L mt_Z_findMainValve (fun h => by cases h) k_Z_findMainValve_91 n 91 ls st M Q o_Z_findMainValve_91 h
def k_Z_mainValve_0 : List am_I := [(.aload_n 0, 1, 0, 0, 0), (.iconst 0, 1, 0, 0, 0), (.putfield 39, 3, 4, 0, 727), (.aload_n 0, 1, 0, 0, 0), (.invokevirtual 206, 3, 141, 1, 1043), (.ireturn, 1, 0, 0, 0)]
set_option maxRecDepth 20000 in
theorem o_Z_mainValve_0 : am_okB mt_Z_mainValve 0 k_Z_mainValve_0 = true := by decide +kernel
theorem g_Z_mainValve_0 {L : am_S} {n : Nat} {ls st : List Value} {M : am_M} {Q : am_Q} (h : am_B L mt_Z_mainValve k_Z_mainValve_0 n 0 ls st M Q) : am_R L mt_Z_mainValve n 0 ls st M Q := am_go L mt_Z_mainValve (fun h => by cases h) k_Z_mainValve_0 n 0 ls st M Q o_Z_mainValve_0 h
def k_Z_shareGone_0 : List am_I := [(.aload_n 0, 1, 0, 0, 0), (.getfield 7, 3, 4, 1, 728), (.bipush 14, 2, 0, 0, 0), (.iaload, 1, 0, 0, 0), (.aload_n 0, 1, 0, 0, 0), (.getfield 7, 3, 4, 1, 728), (.bipush 15, 2, 0, 0, 0), (.iaload, 1, 0, 0, 0), (.iadd, 1, 0, 0, 0), (.aload_n 0, 1, 0, 0, 0), (.getfield 7, 3, 4, 1, 728), (.bipush 16, 2, 0, 0, 0), (.iaload, 1, 0, 0, 0), (.iadd, 1, 0, 0, 0), (.istore_n 1, 1, 0, 0, 0), (.aload_n 0, 1, 0, 0, 0), (.getfield 7, 3, 4, 1, 728), (.bipush 11, 2, 0, 0, 0), (.iaload, 1, 0, 0, 0), (.aload_n 0, 1, 0, 0, 0), (.getfield 7, 3, 4, 1, 728), (.bipush 12, 2, 0, 0, 0), (.iaload, 1, 0, 0, 0), (.iadd, 1, 0, 0, 0), (.aload_n 0, 1, 0, 0, 0), (.getfield 7, 3, 4, 1, 728), (.bipush 13, 2, 0, 0, 0), (.iaload, 1, 0, 0, 0), (.iadd, 1, 0, 0, 0), (.istore_n 2, 1, 0, 0, 0), (.iload_n 2, 1, 0, 0, 0), (.ifCond .ne 7, 3, 0, 0, 0), (.dconst 0, 1, 0, 0, 0), (.goto 8, 3, 0, 0, 0)]
set_option maxRecDepth 20000 in
theorem o_Z_shareGone_0 : am_okB mt_Z_shareGone 0 k_Z_shareGone_0 = true := by decide +kernel
theorem g_Z_shareGone_0 {L : am_S} {n : Nat} {ls st : List Value} {M : am_M} {Q : am_Q} (h : am_B L mt_Z_shareGone k_Z_shareGone_0 n 0 ls st M Q) : am_R L mt_Z_shareGone n 0 ls st M Q := am_go L mt_Z_shareGone (fun h => by cases h) k_Z_shareGone_0 n 0 ls st M Q o_Z_shareGone_0 h
def k_Z_shareGone_56 : List am_I := [(.iload_n 1, 1, 0, 0, 0), (.i2d, 1, 0, 0, 0), (.iload_n 2, 1, 0, 0, 0), (.i2d, 1, 0, 0, 0), (.ddiv, 1, 0, 0, 0)]
set_option maxRecDepth 20000 in
theorem o_Z_shareGone_56 : am_okB mt_Z_shareGone 56 k_Z_shareGone_56 = true := by decide +kernel
theorem g_Z_shareGone_56 {L : am_S} {n : Nat} {ls st : List Value} {M : am_M} {Q : am_Q} (h : am_B L mt_Z_shareGone k_Z_shareGone_56 n 56 ls st M Q) : am_R L mt_Z_shareGone n 56 ls st M Q := am_go L mt_Z_shareGone (fun h => by cases h) k_Z_shareGone_56 n 56 ls st M Q o_Z_shareGone_56 h
def k_Z_shareGone_61 : List am_I := [(.dreturn, 1, 0, 0, 0)]
set_option maxRecDepth 20000 in
theorem o_Z_shareGone_61 : am_okB mt_Z_shareGone 61 k_Z_shareGone_61 = true := by decide +kernel
theorem g_Z_shareGone_61 {L : am_S} {n : Nat} {ls st : List Value} {M : am_M} {Q : am_Q} (h : am_B L mt_Z_shareGone k_Z_shareGone_61 n 61 ls st M Q) : am_R L mt_Z_shareGone n 61 ls st M Q := am_go L mt_Z_shareGone (fun h => by cases h) k_Z_shareGone_61 n 61 ls st M Q o_Z_shareGone_61 h
def k_Z_goneShare_0 : List am_I := [(.aload_n 0, 1, 0, 0, 0), (.iconst 0, 1, 0, 0, 0), (.putfield 39, 3, 4, 0, 727), (.aload_n 0, 1, 0, 0, 0), (.invokevirtual 209, 3, 143, 1, 1051), (.dreturn, 1, 0, 0, 0)]
set_option maxRecDepth 20000 in
theorem o_Z_goneShare_0 : am_okB mt_Z_goneShare 0 k_Z_goneShare_0 = true := by decide +kernel
theorem g_Z_goneShare_0 {L : am_S} {n : Nat} {ls st : List Value} {M : am_M} {Q : am_Q} (h : am_B L mt_Z_goneShare k_Z_goneShare_0 n 0 ls st M Q) : am_R L mt_Z_goneShare n 0 ls st M Q := am_go L mt_Z_goneShare (fun h => by cases h) k_Z_goneShare_0 n 0 ls st M Q o_Z_goneShare_0 h
def k_Z_digest_0 : List am_I := [(.aload_n 0, 1, 0, 0, 0), (.iconst 0, 1, 0, 0, 0), (.putfield 39, 3, 4, 0, 727), (.ldc2_w 213, 3, 3461, 0, 1059), (.lstore_n 1, 1, 0, 0, 0), (.iconst 0, 1, 0, 0, 0), (.istore_n 3, 1, 0, 0, 0)]
set_option maxRecDepth 20000 in
theorem o_Z_digest_0 : am_okB mt_Z_digest 0 k_Z_digest_0 = true := by decide +kernel
theorem g_Z_digest_0 {L : am_S} {n : Nat} {ls st : List Value} {M : am_M} {Q : am_Q} (h : am_B L mt_Z_digest k_Z_digest_0 n 0 ls st M Q) : am_R L mt_Z_digest n 0 ls st M Q := am_go L mt_Z_digest (fun h => by cases h) k_Z_digest_0 n 0 ls st M Q o_Z_digest_0 h
def k_Z_digest_11 : List am_I := [(.iload_n 3, 1, 0, 0, 0), (.bipush 10, 2, 0, 0, 0), (.if_icmp .ge 22, 3, 0, 0, 0), (.ldc2_w 215, 3, 31, 0, 1060), (.lload_n 1, 1, 0, 0, 0), (.lmul, 1, 0, 0, 0), (.aload_n 0, 1, 0, 0, 0), (.iload_n 3, 1, 0, 0, 0), (.invokevirtual 179, 3, 132, 2, 995), (.i2l, 1, 0, 0, 0), (.ladd, 1, 0, 0, 0), (.lstore_n 1, 1, 0, 0, 0), (.iinc 3 1, 3, 0, 0, 0), (.goto (-22), 3, 0, 0, 0)]
set_option maxRecDepth 20000 in
theorem o_Z_digest_11 : am_okB mt_Z_digest 11 k_Z_digest_11 = true := by decide +kernel
theorem g_Z_digest_11 {L : am_S} {n : Nat} {ls st : List Value} {M : am_M} {Q : am_Q} (h : am_B L mt_Z_digest k_Z_digest_11 n 11 ls st M Q) : am_R L mt_Z_digest n 11 ls st M Q := am_go L mt_Z_digest (fun h => by cases h) k_Z_digest_11 n 11 ls st M Q o_Z_digest_11 h
def k_Z_digest_36 : List am_I := [(.iconst 0, 1, 0, 0, 0), (.istore_n 3, 1, 0, 0, 0)]
set_option maxRecDepth 20000 in
theorem o_Z_digest_36 : am_okB mt_Z_digest 36 k_Z_digest_36 = true := by decide +kernel
theorem g_Z_digest_36 {L : am_S} {n : Nat} {ls st : List Value} {M : am_M} {Q : am_Q} (h : am_B L mt_Z_digest k_Z_digest_36 n 36 ls st M Q) : am_R L mt_Z_digest n 36 ls st M Q := am_go L mt_Z_digest (fun h => by cases h) k_Z_digest_36 n 36 ls st M Q o_Z_digest_36 h
def k_Z_digest_38 : List am_I := [(.iload_n 3, 1, 0, 0, 0), (.iconst 5, 1, 0, 0, 0), (.if_icmp .ge 101, 3, 0, 0, 0), (.iconst 0, 1, 0, 0, 0), (.istore 4, 2, 0, 0, 0)]
set_option maxRecDepth 20000 in
theorem o_Z_digest_38 : am_okB mt_Z_digest 38 k_Z_digest_38 = true := by decide +kernel
theorem g_Z_digest_38 {L : am_S} {n : Nat} {ls st : List Value} {M : am_M} {Q : am_Q} (h : am_B L mt_Z_digest k_Z_digest_38 n 38 ls st M Q) : am_R L mt_Z_digest n 38 ls st M Q := am_go L mt_Z_digest (fun h => by cases h) k_Z_digest_38 n 38 ls st M Q o_Z_digest_38 h
def k_Z_digest_46 : List am_I := [(.iload 4, 2, 0, 0, 0), (.bipush 10, 2, 0, 0, 0), (.if_icmp .ge 24, 3, 0, 0, 0), (.ldc2_w 215, 3, 31, 0, 1060), (.lload_n 1, 1, 0, 0, 0), (.lmul, 1, 0, 0, 0), (.aload_n 0, 1, 0, 0, 0), (.iload_n 3, 1, 0, 0, 0), (.iload 4, 2, 0, 0, 0), (.invokevirtual 161, 3, 123, 3, 963), (.i2l, 1, 0, 0, 0), (.ladd, 1, 0, 0, 0), (.lstore_n 1, 1, 0, 0, 0), (.iinc 4 1, 3, 0, 0, 0), (.goto (-25), 3, 0, 0, 0)]
set_option maxRecDepth 20000 in
theorem o_Z_digest_46 : am_okB mt_Z_digest 46 k_Z_digest_46 = true := by decide +kernel
theorem g_Z_digest_46 {L : am_S} {n : Nat} {ls st : List Value} {M : am_M} {Q : am_Q} (h : am_B L mt_Z_digest k_Z_digest_46 n 46 ls st M Q) : am_R L mt_Z_digest n 46 ls st M Q := am_go L mt_Z_digest (fun h => by cases h) k_Z_digest_46 n 46 ls st M Q o_Z_digest_46 h
def k_Z_digest_74 : List am_I := [(.ldc2_w 215, 3, 31, 0, 1060), (.lload_n 1, 1, 0, 0, 0), (.lmul, 1, 0, 0, 0), (.aload_n 0, 1, 0, 0, 0), (.iload_n 3, 1, 0, 0, 0), (.invokevirtual 191, 3, 136, 2, 1023), (.i2l, 1, 0, 0, 0), (.ladd, 1, 0, 0, 0), (.lstore_n 1, 1, 0, 0, 0), (.ldc2_w 215, 3, 31, 0, 1060), (.lload_n 1, 1, 0, 0, 0), (.lmul, 1, 0, 0, 0), (.aload_n 0, 1, 0, 0, 0), (.bipush 24, 2, 0, 0, 0), (.iload_n 3, 1, 0, 0, 0), (.iconst 1, 1, 0, 0, 0), (.invokevirtual 188, 3, 134, 4, 1007), (.i2l, 1, 0, 0, 0), (.ladd, 1, 0, 0, 0), (.lstore_n 1, 1, 0, 0, 0), (.ldc2_w 215, 3, 31, 0, 1060), (.lload_n 1, 1, 0, 0, 0), (.lmul, 1, 0, 0, 0), (.aload_n 0, 1, 0, 0, 0), (.bipush 24, 2, 0, 0, 0), (.iload_n 3, 1, 0, 0, 0), (.iconst 2, 1, 0, 0, 0), (.invokevirtual 188, 3, 134, 4, 1007), (.i2l, 1, 0, 0, 0), (.ladd, 1, 0, 0, 0), (.lstore_n 1, 1, 0, 0, 0), (.ldc2_w 215, 3, 31, 0, 1060), (.lload_n 1, 1, 0, 0, 0), (.lmul, 1, 0, 0, 0), (.aload_n 0, 1, 0, 0, 0), (.bipush 24, 2, 0, 0, 0), (.iload_n 3, 1, 0, 0, 0), (.iconst 5, 1, 0, 0, 0), (.invokevirtual 188, 3, 134, 4, 1007), (.i2l, 1, 0, 0, 0), (.ladd, 1, 0, 0, 0), (.lstore_n 1, 1, 0, 0, 0), (.iinc 3 1, 3, 0, 0, 0), (.goto (-100), 3, 0, 0, 0)]
set_option maxRecDepth 20000 in
theorem o_Z_digest_74 : am_okB mt_Z_digest 74 k_Z_digest_74 = true := by decide +kernel
theorem g_Z_digest_74 {L : am_S} {n : Nat} {ls st : List Value} {M : am_M} {Q : am_Q} (h : am_B L mt_Z_digest k_Z_digest_74 n 74 ls st M Q) : am_R L mt_Z_digest n 74 ls st M Q := am_go L mt_Z_digest (fun h => by cases h) k_Z_digest_74 n 74 ls st M Q o_Z_digest_74 h
def k_Z_digest_141 : List am_I := [(.iconst 0, 1, 0, 0, 0), (.istore_n 3, 1, 0, 0, 0)]
set_option maxRecDepth 20000 in
theorem o_Z_digest_141 : am_okB mt_Z_digest 141 k_Z_digest_141 = true := by decide +kernel
theorem g_Z_digest_141 {L : am_S} {n : Nat} {ls st : List Value} {M : am_M} {Q : am_Q} (h : am_B L mt_Z_digest k_Z_digest_141 n 141 ls st M Q) : am_R L mt_Z_digest n 141 ls st M Q := am_go L mt_Z_digest (fun h => by cases h) k_Z_digest_141 n 141 ls st M Q o_Z_digest_141 h
def k_Z_digest_143 : List am_I := [(.iload_n 3, 1, 0, 0, 0), (.aload_n 0, 1, 0, 0, 0), (.getfield 7, 3, 4, 1, 728), (.iconst 5, 1, 0, 0, 0), (.iaload, 1, 0, 0, 0), (.if_icmp .ge 40, 3, 0, 0, 0), (.iconst 0, 1, 0, 0, 0), (.istore 4, 2, 0, 0, 0)]
set_option maxRecDepth 20000 in
theorem o_Z_digest_143 : am_okB mt_Z_digest 143 k_Z_digest_143 = true := by decide +kernel
theorem g_Z_digest_143 {L : am_S} {n : Nat} {ls st : List Value} {M : am_M} {Q : am_Q} (h : am_B L mt_Z_digest k_Z_digest_143 n 143 ls st M Q) : am_R L mt_Z_digest n 143 ls st M Q := am_go L mt_Z_digest (fun h => by cases h) k_Z_digest_143 n 143 ls st M Q o_Z_digest_143 h
def k_Z_digest_156 : List am_I := [(.iload 4, 2, 0, 0, 0), (.bipush 7, 2, 0, 0, 0), (.if_icmp .ge 24, 3, 0, 0, 0), (.ldc2_w 215, 3, 31, 0, 1060), (.lload_n 1, 1, 0, 0, 0), (.lmul, 1, 0, 0, 0), (.aload_n 0, 1, 0, 0, 0), (.iload_n 3, 1, 0, 0, 0), (.iload 4, 2, 0, 0, 0), (.invokevirtual 164, 3, 125, 3, 971), (.i2l, 1, 0, 0, 0), (.ladd, 1, 0, 0, 0), (.lstore_n 1, 1, 0, 0, 0), (.iinc 4 1, 3, 0, 0, 0), (.goto (-25), 3, 0, 0, 0)]
set_option maxRecDepth 20000 in
theorem o_Z_digest_156 : am_okB mt_Z_digest 156 k_Z_digest_156 = true := by decide +kernel
theorem g_Z_digest_156 {L : am_S} {n : Nat} {ls st : List Value} {M : am_M} {Q : am_Q} (h : am_B L mt_Z_digest k_Z_digest_156 n 156 ls st M Q) : am_R L mt_Z_digest n 156 ls st M Q := am_go L mt_Z_digest (fun h => by cases h) k_Z_digest_156 n 156 ls st M Q o_Z_digest_156 h
def k_Z_digest_184 : List am_I := [(.iinc 3 1, 3, 0, 0, 0), (.goto (-44), 3, 0, 0, 0)]
set_option maxRecDepth 20000 in
theorem o_Z_digest_184 : am_okB mt_Z_digest 184 k_Z_digest_184 = true := by decide +kernel
theorem g_Z_digest_184 {L : am_S} {n : Nat} {ls st : List Value} {M : am_M} {Q : am_Q} (h : am_B L mt_Z_digest k_Z_digest_184 n 184 ls st M Q) : am_R L mt_Z_digest n 184 ls st M Q := am_go L mt_Z_digest (fun h => by cases h) k_Z_digest_184 n 184 ls st M Q o_Z_digest_184 h
def k_Z_digest_190 : List am_I := [(.iconst 0, 1, 0, 0, 0), (.istore_n 3, 1, 0, 0, 0)]
set_option maxRecDepth 20000 in
theorem o_Z_digest_190 : am_okB mt_Z_digest 190 k_Z_digest_190 = true := by decide +kernel
theorem g_Z_digest_190 {L : am_S} {n : Nat} {ls st : List Value} {M : am_M} {Q : am_Q} (h : am_B L mt_Z_digest k_Z_digest_190 n 190 ls st M Q) : am_R L mt_Z_digest n 190 ls st M Q := am_go L mt_Z_digest (fun h => by cases h) k_Z_digest_190 n 190 ls st M Q o_Z_digest_190 h
def k_Z_digest_192 : List am_I := [(.iload_n 3, 1, 0, 0, 0), (.iconst 3, 1, 0, 0, 0), (.if_icmp .ge 39, 3, 0, 0, 0), (.iconst 0, 1, 0, 0, 0), (.istore 4, 2, 0, 0, 0)]
set_option maxRecDepth 20000 in
theorem o_Z_digest_192 : am_okB mt_Z_digest 192 k_Z_digest_192 = true := by decide +kernel
theorem g_Z_digest_192 {L : am_S} {n : Nat} {ls st : List Value} {M : am_M} {Q : am_Q} (h : am_B L mt_Z_digest k_Z_digest_192 n 192 ls st M Q) : am_R L mt_Z_digest n 192 ls st M Q := am_go L mt_Z_digest (fun h => by cases h) k_Z_digest_192 n 192 ls st M Q o_Z_digest_192 h
def k_Z_digest_200 : List am_I := [(.iload 4, 2, 0, 0, 0), (.iconst 5, 1, 0, 0, 0), (.if_icmp .ge 24, 3, 0, 0, 0), (.ldc2_w 215, 3, 31, 0, 1060), (.lload_n 1, 1, 0, 0, 0), (.lmul, 1, 0, 0, 0), (.aload_n 0, 1, 0, 0, 0), (.iload_n 3, 1, 0, 0, 0), (.iload 4, 2, 0, 0, 0), (.invokevirtual 173, 3, 129, 3, 979), (.i2l, 1, 0, 0, 0), (.ladd, 1, 0, 0, 0), (.lstore_n 1, 1, 0, 0, 0), (.iinc 4 1, 3, 0, 0, 0), (.goto (-24), 3, 0, 0, 0)]
set_option maxRecDepth 20000 in
theorem o_Z_digest_200 : am_okB mt_Z_digest 200 k_Z_digest_200 = true := by decide +kernel
theorem g_Z_digest_200 {L : am_S} {n : Nat} {ls st : List Value} {M : am_M} {Q : am_Q} (h : am_B L mt_Z_digest k_Z_digest_200 n 200 ls st M Q) : am_R L mt_Z_digest n 200 ls st M Q := am_go L mt_Z_digest (fun h => by cases h) k_Z_digest_200 n 200 ls st M Q o_Z_digest_200 h
def k_Z_digest_227 : List am_I := [(.iinc 3 1, 3, 0, 0, 0), (.goto (-38), 3, 0, 0, 0)]
set_option maxRecDepth 20000 in
theorem o_Z_digest_227 : am_okB mt_Z_digest 227 k_Z_digest_227 = true := by decide +kernel
theorem g_Z_digest_227 {L : am_S} {n : Nat} {ls st : List Value} {M : am_M} {Q : am_Q} (h : am_B L mt_Z_digest k_Z_digest_227 n 227 ls st M Q) : am_R L mt_Z_digest n 227 ls st M Q := am_go L mt_Z_digest (fun h => by cases h) k_Z_digest_227 n 227 ls st M Q o_Z_digest_227 h
def k_Z_digest_233 : List am_I := [(.aload_n 0, 1, 0, 0, 0), (.invokevirtual 203, 3, 139, 1, 1031), (.ldc2_w 215, 3, 31, 0, 1060), (.ldc2_w 215, 3, 31, 0, 1060), (.lload_n 1, 1, 0, 0, 0), (.lmul, 1, 0, 0, 0), (.aload_n 0, 1, 0, 0, 0), (.getfield 194, 3, 4, 10, 737), (.i2l, 1, 0, 0, 0), (.ladd, 1, 0, 0, 0), (.lmul, 1, 0, 0, 0), (.aload_n 0, 1, 0, 0, 0), (.getfield 197, 3, 4, 11, 738), (.i2l, 1, 0, 0, 0), (.ladd, 1, 0, 0, 0), (.lstore_n 1, 1, 0, 0, 0), (.ldc2_w 215, 3, 31, 0, 1060), (.ldc2_w 215, 3, 31, 0, 1060), (.lload_n 1, 1, 0, 0, 0), (.lmul, 1, 0, 0, 0), (.aload_n 0, 1, 0, 0, 0), (.getfield 194, 3, 4, 10, 737), (.i2l, 1, 0, 0, 0), (.ladd, 1, 0, 0, 0), (.lmul, 1, 0, 0, 0), (.aload_n 0, 1, 0, 0, 0), (.getfield 197, 3, 4, 11, 738), (.i2l, 1, 0, 0, 0), (.ladd, 1, 0, 0, 0), (.lstore_n 1, 1, 0, 0, 0), (.ldc2_w 215, 3, 31, 0, 1060), (.lload_n 1, 1, 0, 0, 0), (.lmul, 1, 0, 0, 0), (.aload_n 0, 1, 0, 0, 0), (.invokevirtual 206, 3, 141, 1, 1043), (.i2l, 1, 0, 0, 0), (.ladd, 1, 0, 0, 0), (.lstore_n 1, 1, 0, 0, 0), (.ldc2_w 215, 3, 31, 0, 1060), (.lload_n 1, 1, 0, 0, 0), (.lmul, 1, 0, 0, 0), (.aload_n 0, 1, 0, 0, 0), (.invokevirtual 209, 3, 143, 1, 1051), (.invokestatic 217, 3, 1, 1, 1061), (.ladd, 1, 0, 0, 0), (.lstore_n 1, 1, 0, 0, 0), (.ldc2_w 215, 3, 31, 0, 1060), (.lload_n 1, 1, 0, 0, 0), (.lmul, 1, 0, 0, 0), (.aload_n 0, 1, 0, 0, 0), (.getfield 22, 3, 4, 6, 733), (.iconst 0, 1, 0, 0, 0), (.baload, 1, 0, 0, 0), (.ifCond .eq 7, 3, 0, 0, 0), (.iconst 1, 1, 0, 0, 0), (.goto 4, 3, 0, 0, 0)]
set_option maxRecDepth 20000 in
theorem o_Z_digest_233 : am_okB mt_Z_digest 233 k_Z_digest_233 = true := by decide +kernel
theorem g_Z_digest_233 {L : am_S} {n : Nat} {ls st : List Value} {M : am_M} {Q : am_Q} (h : am_B L mt_Z_digest k_Z_digest_233 n 233 ls st M Q) : am_R L mt_Z_digest n 233 ls st M Q := am_go L mt_Z_digest (fun h => by cases h) k_Z_digest_233 n 233 ls st M Q o_Z_digest_233 h
def k_Z_digest_325 : List am_I := [(.iconst 0, 1, 0, 0, 0)]
set_option maxRecDepth 20000 in
theorem o_Z_digest_325 : am_okB mt_Z_digest 325 k_Z_digest_325 = true := by decide +kernel
theorem g_Z_digest_325 {L : am_S} {n : Nat} {ls st : List Value} {M : am_M} {Q : am_Q} (h : am_B L mt_Z_digest k_Z_digest_325 n 325 ls st M Q) : am_R L mt_Z_digest n 325 ls st M Q := am_go L mt_Z_digest (fun h => by cases h) k_Z_digest_325 n 325 ls st M Q o_Z_digest_325 h
def k_Z_digest_326 : List am_I := [(.i2l, 1, 0, 0, 0), (.ladd, 1, 0, 0, 0), (.lstore_n 1, 1, 0, 0, 0), (.ldc2_w 215, 3, 31, 0, 1060), (.lload_n 1, 1, 0, 0, 0), (.lmul, 1, 0, 0, 0), (.aload_n 0, 1, 0, 0, 0), (.getfield 22, 3, 4, 6, 733), (.iconst 1, 1, 0, 0, 0), (.baload, 1, 0, 0, 0), (.ifCond .eq 7, 3, 0, 0, 0), (.iconst 1, 1, 0, 0, 0), (.goto 4, 3, 0, 0, 0)]
set_option maxRecDepth 20000 in
theorem o_Z_digest_326 : am_okB mt_Z_digest 326 k_Z_digest_326 = true := by decide +kernel
theorem g_Z_digest_326 {L : am_S} {n : Nat} {ls st : List Value} {M : am_M} {Q : am_Q} (h : am_B L mt_Z_digest k_Z_digest_326 n 326 ls st M Q) : am_R L mt_Z_digest n 326 ls st M Q := am_go L mt_Z_digest (fun h => by cases h) k_Z_digest_326 n 326 ls st M Q o_Z_digest_326 h
def k_Z_digest_347 : List am_I := [(.iconst 0, 1, 0, 0, 0)]
set_option maxRecDepth 20000 in
theorem o_Z_digest_347 : am_okB mt_Z_digest 347 k_Z_digest_347 = true := by decide +kernel
theorem g_Z_digest_347 {L : am_S} {n : Nat} {ls st : List Value} {M : am_M} {Q : am_Q} (h : am_B L mt_Z_digest k_Z_digest_347 n 347 ls st M Q) : am_R L mt_Z_digest n 347 ls st M Q := am_go L mt_Z_digest (fun h => by cases h) k_Z_digest_347 n 347 ls st M Q o_Z_digest_347 h
def k_Z_digest_348 : List am_I := [(.i2l, 1, 0, 0, 0), (.ladd, 1, 0, 0, 0), (.lstore_n 1, 1, 0, 0, 0), (.ldc2_w 215, 3, 31, 0, 1060), (.lload_n 1, 1, 0, 0, 0), (.lmul, 1, 0, 0, 0), (.aload_n 0, 1, 0, 0, 0), (.getfield 117, 3, 4, 8, 735), (.i2l, 1, 0, 0, 0), (.ladd, 1, 0, 0, 0), (.lstore_n 1, 1, 0, 0, 0), (.iconst 0, 1, 0, 0, 0), (.istore_n 3, 1, 0, 0, 0)]
set_option maxRecDepth 20000 in
theorem o_Z_digest_348 : am_okB mt_Z_digest 348 k_Z_digest_348 = true := by decide +kernel
theorem g_Z_digest_348 {L : am_S} {n : Nat} {ls st : List Value} {M : am_M} {Q : am_Q} (h : am_B L mt_Z_digest k_Z_digest_348 n 348 ls st M Q) : am_R L mt_Z_digest n 348 ls st M Q := am_go L mt_Z_digest (fun h => by cases h) k_Z_digest_348 n 348 ls st M Q o_Z_digest_348 h
def k_Z_digest_365 : List am_I := [(.iload_n 3, 1, 0, 0, 0), (.aload_n 0, 1, 0, 0, 0), (.getfield 117, 3, 4, 8, 735), (.if_icmp .ge 23, 3, 0, 0, 0), (.ldc2_w 215, 3, 31, 0, 1060), (.lload_n 1, 1, 0, 0, 0), (.lmul, 1, 0, 0, 0), (.aload_n 0, 1, 0, 0, 0), (.getfield 26, 3, 4, 7, 734), (.iload_n 3, 1, 0, 0, 0), (.iaload, 1, 0, 0, 0), (.i2l, 1, 0, 0, 0), (.ladd, 1, 0, 0, 0), (.lstore_n 1, 1, 0, 0, 0), (.iinc 3 1, 3, 0, 0, 0), (.goto (-25), 3, 0, 0, 0)]
set_option maxRecDepth 20000 in
theorem o_Z_digest_365 : am_okB mt_Z_digest 365 k_Z_digest_365 = true := by decide +kernel
theorem g_Z_digest_365 {L : am_S} {n : Nat} {ls st : List Value} {M : am_M} {Q : am_Q} (h : am_B L mt_Z_digest k_Z_digest_365 n 365 ls st M Q) : am_R L mt_Z_digest n 365 ls st M Q := am_go L mt_Z_digest (fun h => by cases h) k_Z_digest_365 n 365 ls st M Q o_Z_digest_365 h
def k_Z_digest_393 : List am_I := [(.lload_n 1, 1, 0, 0, 0), (.lreturn, 1, 0, 0, 0)]
set_option maxRecDepth 20000 in
theorem o_Z_digest_393 : am_okB mt_Z_digest 393 k_Z_digest_393 = true := by decide +kernel
theorem g_Z_digest_393 {L : am_S} {n : Nat} {ls st : List Value} {M : am_M} {Q : am_Q} (h : am_B L mt_Z_digest k_Z_digest_393 n 393 ls st M Q) : am_R L mt_Z_digest n 393 ls st M Q := am_go L mt_Z_digest (fun h => by cases h) k_Z_digest_393 n 393 ls st M Q o_Z_digest_393 h
end
section
/-! the law: blocks of code, written by wip/whole/mk15.py out of what TURN printed of the program -/
def k_L_fill_0 : List am_I := [(.aload_n 3, 1, 0, 0, 0), (.iconst 0, 1, 0, 0, 0), (.aload_n 0, 1, 0, 0, 0), (.iload_n 1, 1, 0, 0, 0), (.iload_n 2, 1, 0, 0, 0), (.invokevirtual 7, 3, 36, 3, 424), (.i2l, 1, 0, 0, 0), (.lastore, 1, 0, 0, 0), (.goto 11, 3, 0, 0, 0)]
set_option maxRecDepth 20000 in
theorem o_L_fill_0 : am_okB mt_L_fill 0 k_L_fill_0 = true := by decide +kernel
theorem g_L_fill_0 {L : am_S} {n : Nat} {ls st : List Value} {M : am_M} {Q : am_Q} (h : am_B L mt_L_fill k_L_fill_0 n 0 ls st M Q) : am_R L mt_L_fill n 0 ls st M Q := am_go L mt_L_fill (fun h => by cases h) k_L_fill_0 n 0 ls st M Q o_L_fill_0 h
def k_L_fill_13 : List am_I := [(.astore 4, 2, 0, 0, 0), (.iconst 1, 1, 0, 0, 0), (.ireturn, 1, 0, 0, 0)]
set_option maxRecDepth 20000 in
theorem o_L_fill_13 : am_okB mt_L_fill 13 k_L_fill_13 = true := by decide +kernel
theorem g_L_fill_13 {L : am_S} {n : Nat} {ls st : List Value} {M : am_M} {Q : am_Q} (h : am_B L mt_L_fill k_L_fill_13 n 13 ls st M Q) : am_R L mt_L_fill n 13 ls st M Q := am_go L mt_L_fill (fun h => by cases h) k_L_fill_13 n 13 ls st M Q o_L_fill_13 h
def k_L_fill_17 : List am_I := [(.astore 4, 2, 0, 0, 0), (.iconst 2, 1, 0, 0, 0), (.ireturn, 1, 0, 0, 0)]
set_option maxRecDepth 20000 in
theorem o_L_fill_17 : am_okB mt_L_fill 17 k_L_fill_17 = true := by decide +kernel
theorem g_L_fill_17 {L : am_S} {n : Nat} {ls st : List Value} {M : am_M} {Q : am_Q} (h : am_B L mt_L_fill k_L_fill_17 n 17 ls st M Q) : am_R L mt_L_fill n 17 ls st M Q := am_go L mt_L_fill (fun h => by cases h) k_L_fill_17 n 17 ls st M Q o_L_fill_17 h
def k_L_fill_21 : List am_I := [(.iconst 0, 1, 0, 0, 0), (.ireturn, 1, 0, 0, 0)]
set_option maxRecDepth 20000 in
theorem o_L_fill_21 : am_okB mt_L_fill 21 k_L_fill_21 = true := by decide +kernel
theorem g_L_fill_21 {L : am_S} {n : Nat} {ls st : List Value} {M : am_M} {Q : am_Q} (h : am_B L mt_L_fill k_L_fill_21 n 21 ls st M Q) : am_R L mt_L_fill n 21 ls st M Q := am_go L mt_L_fill (fun h => by cases h) k_L_fill_21 n 21 ls st M Q o_L_fill_21 h
def k_L_dye_0 : List am_I := [(.aload 4, 2, 0, 0, 0), (.iconst 0, 1, 0, 0, 0), (.aload_n 0, 1, 0, 0, 0), (.iload_n 1, 1, 0, 0, 0), (.iload_n 2, 1, 0, 0, 0), (.iload_n 3, 1, 0, 0, 0), (.invokevirtual 17, 3, 37, 4, 530), (.i2l, 1, 0, 0, 0), (.lastore, 1, 0, 0, 0), (.goto 15, 3, 0, 0, 0)]
set_option maxRecDepth 20000 in
theorem o_L_dye_0 : am_okB mt_L_dye 0 k_L_dye_0 = true := by decide +kernel
theorem g_L_dye_0 {L : am_S} {n : Nat} {ls st : List Value} {M : am_M} {Q : am_Q} (h : am_B L mt_L_dye k_L_dye_0 n 0 ls st M Q) : am_R L mt_L_dye n 0 ls st M Q := am_go L mt_L_dye (fun h => by cases h) k_L_dye_0 n 0 ls st M Q o_L_dye_0 h
def k_L_dye_15 : List am_I := [(.astore 5, 2, 0, 0, 0), (.iconst 1, 1, 0, 0, 0), (.ireturn, 1, 0, 0, 0)]
set_option maxRecDepth 20000 in
theorem o_L_dye_15 : am_okB mt_L_dye 15 k_L_dye_15 = true := by decide +kernel
theorem g_L_dye_15 {L : am_S} {n : Nat} {ls st : List Value} {M : am_M} {Q : am_Q} (h : am_B L mt_L_dye k_L_dye_15 n 15 ls st M Q) : am_R L mt_L_dye n 15 ls st M Q := am_go L mt_L_dye (fun h => by cases h) k_L_dye_15 n 15 ls st M Q o_L_dye_15 h
def k_L_dye_19 : List am_I := [(.astore 5, 2, 0, 0, 0), (.iconst 2, 1, 0, 0, 0), (.ireturn, 1, 0, 0, 0)]
set_option maxRecDepth 20000 in
theorem o_L_dye_19 : am_okB mt_L_dye 19 k_L_dye_19 = true := by decide +kernel
theorem g_L_dye_19 {L : am_S} {n : Nat} {ls st : List Value} {M : am_M} {Q : am_Q} (h : am_B L mt_L_dye k_L_dye_19 n 19 ls st M Q) : am_R L mt_L_dye n 19 ls st M Q := am_go L mt_L_dye (fun h => by cases h) k_L_dye_19 n 19 ls st M Q o_L_dye_19 h
def k_L_dye_23 : List am_I := [(.astore 5, 2, 0, 0, 0), (.iconst 3, 1, 0, 0, 0), (.ireturn, 1, 0, 0, 0)]
set_option maxRecDepth 20000 in
theorem o_L_dye_23 : am_okB mt_L_dye 23 k_L_dye_23 = true := by decide +kernel
theorem g_L_dye_23 {L : am_S} {n : Nat} {ls st : List Value} {M : am_M} {Q : am_Q} (h : am_B L mt_L_dye k_L_dye_23 n 23 ls st M Q) : am_R L mt_L_dye n 23 ls st M Q := am_go L mt_L_dye (fun h => by cases h) k_L_dye_23 n 23 ls st M Q o_L_dye_23 h
def k_L_dye_27 : List am_I := [(.iconst 0, 1, 0, 0, 0), (.ireturn, 1, 0, 0, 0)]
set_option maxRecDepth 20000 in
theorem o_L_dye_27 : am_okB mt_L_dye 27 k_L_dye_27 = true := by decide +kernel
theorem g_L_dye_27 {L : am_S} {n : Nat} {ls st : List Value} {M : am_M} {Q : am_Q} (h : am_B L mt_L_dye k_L_dye_27 n 27 ls st M Q) : am_R L mt_L_dye n 27 ls st M Q := am_go L mt_L_dye (fun h => by cases h) k_L_dye_27 n 27 ls st M Q o_L_dye_27 h
def k_L_stir_0 : List am_I := [(.aload_n 2, 1, 0, 0, 0), (.iconst 0, 1, 0, 0, 0), (.aload_n 0, 1, 0, 0, 0), (.iload_n 1, 1, 0, 0, 0), (.invokevirtual 23, 3, 38, 2, 558), (.i2l, 1, 0, 0, 0), (.lastore, 1, 0, 0, 0), (.goto 6, 3, 0, 0, 0)]
set_option maxRecDepth 20000 in
theorem o_L_stir_0 : am_okB mt_L_stir 0 k_L_stir_0 = true := by decide +kernel
theorem g_L_stir_0 {L : am_S} {n : Nat} {ls st : List Value} {M : am_M} {Q : am_Q} (h : am_B L mt_L_stir k_L_stir_0 n 0 ls st M Q) : am_R L mt_L_stir n 0 ls st M Q := am_go L mt_L_stir (fun h => by cases h) k_L_stir_0 n 0 ls st M Q o_L_stir_0 h
def k_L_stir_12 : List am_I := [(.astore_n 3, 1, 0, 0, 0), (.iconst 1, 1, 0, 0, 0), (.ireturn, 1, 0, 0, 0)]
set_option maxRecDepth 20000 in
theorem o_L_stir_12 : am_okB mt_L_stir 12 k_L_stir_12 = true := by decide +kernel
theorem g_L_stir_12 {L : am_S} {n : Nat} {ls st : List Value} {M : am_M} {Q : am_Q} (h : am_B L mt_L_stir k_L_stir_12 n 12 ls st M Q) : am_R L mt_L_stir n 12 ls st M Q := am_go L mt_L_stir (fun h => by cases h) k_L_stir_12 n 12 ls st M Q o_L_stir_12 h
def k_L_stir_15 : List am_I := [(.iconst 0, 1, 0, 0, 0), (.ireturn, 1, 0, 0, 0)]
set_option maxRecDepth 20000 in
theorem o_L_stir_15 : am_okB mt_L_stir 15 k_L_stir_15 = true := by decide +kernel
theorem g_L_stir_15 {L : am_S} {n : Nat} {ls st : List Value} {M : am_M} {Q : am_Q} (h : am_B L mt_L_stir k_L_stir_15 n 15 ls st M Q) : am_R L mt_L_stir n 15 ls st M Q := am_go L mt_L_stir (fun h => by cases h) k_L_stir_15 n 15 ls st M Q o_L_stir_15 h
def k_L_capacity_0 : List am_I := [(.aload_n 3, 1, 0, 0, 0), (.iconst 0, 1, 0, 0, 0), (.aload_n 0, 1, 0, 0, 0), (.iload_n 1, 1, 0, 0, 0), (.iload_n 2, 1, 0, 0, 0), (.invokevirtual 27, 3, 39, 3, 572), (.i2l, 1, 0, 0, 0), (.lastore, 1, 0, 0, 0), (.goto 11, 3, 0, 0, 0)]
set_option maxRecDepth 20000 in
theorem o_L_capacity_0 : am_okB mt_L_capacity 0 k_L_capacity_0 = true := by decide +kernel
theorem g_L_capacity_0 {L : am_S} {n : Nat} {ls st : List Value} {M : am_M} {Q : am_Q} (h : am_B L mt_L_capacity k_L_capacity_0 n 0 ls st M Q) : am_R L mt_L_capacity n 0 ls st M Q := am_go L mt_L_capacity (fun h => by cases h) k_L_capacity_0 n 0 ls st M Q o_L_capacity_0 h
def k_L_capacity_13 : List am_I := [(.astore 4, 2, 0, 0, 0), (.iconst 1, 1, 0, 0, 0), (.ireturn, 1, 0, 0, 0)]
set_option maxRecDepth 20000 in
theorem o_L_capacity_13 : am_okB mt_L_capacity 13 k_L_capacity_13 = true := by decide +kernel
theorem g_L_capacity_13 {L : am_S} {n : Nat} {ls st : List Value} {M : am_M} {Q : am_Q} (h : am_B L mt_L_capacity k_L_capacity_13 n 13 ls st M Q) : am_R L mt_L_capacity n 13 ls st M Q := am_go L mt_L_capacity (fun h => by cases h) k_L_capacity_13 n 13 ls st M Q o_L_capacity_13 h
def k_L_capacity_17 : List am_I := [(.astore 4, 2, 0, 0, 0), (.iconst 2, 1, 0, 0, 0), (.ireturn, 1, 0, 0, 0)]
set_option maxRecDepth 20000 in
theorem o_L_capacity_17 : am_okB mt_L_capacity 17 k_L_capacity_17 = true := by decide +kernel
theorem g_L_capacity_17 {L : am_S} {n : Nat} {ls st : List Value} {M : am_M} {Q : am_Q} (h : am_B L mt_L_capacity k_L_capacity_17 n 17 ls st M Q) : am_R L mt_L_capacity n 17 ls st M Q := am_go L mt_L_capacity (fun h => by cases h) k_L_capacity_17 n 17 ls st M Q o_L_capacity_17 h
def k_L_capacity_21 : List am_I := [(.iconst 0, 1, 0, 0, 0), (.ireturn, 1, 0, 0, 0)]
set_option maxRecDepth 20000 in
theorem o_L_capacity_21 : am_okB mt_L_capacity 21 k_L_capacity_21 = true := by decide +kernel
theorem g_L_capacity_21 {L : am_S} {n : Nat} {ls st : List Value} {M : am_M} {Q : am_Q} (h : am_B L mt_L_capacity k_L_capacity_21 n 21 ls st M Q) : am_R L mt_L_capacity n 21 ls st M Q := am_go L mt_L_capacity (fun h => by cases h) k_L_capacity_21 n 21 ls st M Q o_L_capacity_21 h
def k_L_valve_0 : List am_I := [(.aload 6, 2, 0, 0, 0), (.iconst 0, 1, 0, 0, 0), (.aload_n 0, 1, 0, 0, 0), (.iload_n 1, 1, 0, 0, 0), (.iload_n 2, 1, 0, 0, 0), (.iload_n 3, 1, 0, 0, 0), (.iload 4, 2, 0, 0, 0), (.iload 5, 2, 0, 0, 0), (.invokevirtual 30, 3, 40, 6, 579), (.i2l, 1, 0, 0, 0), (.lastore, 1, 0, 0, 0), (.goto 15, 3, 0, 0, 0)]
set_option maxRecDepth 20000 in
theorem o_L_valve_0 : am_okB mt_L_valve 0 k_L_valve_0 = true := by decide +kernel
theorem g_L_valve_0 {L : am_S} {n : Nat} {ls st : List Value} {M : am_M} {Q : am_Q} (h : am_B L mt_L_valve k_L_valve_0 n 0 ls st M Q) : am_R L mt_L_valve n 0 ls st M Q := am_go L mt_L_valve (fun h => by cases h) k_L_valve_0 n 0 ls st M Q o_L_valve_0 h
def k_L_valve_19 : List am_I := [(.astore 7, 2, 0, 0, 0), (.iconst 1, 1, 0, 0, 0), (.ireturn, 1, 0, 0, 0)]
set_option maxRecDepth 20000 in
theorem o_L_valve_19 : am_okB mt_L_valve 19 k_L_valve_19 = true := by decide +kernel
theorem g_L_valve_19 {L : am_S} {n : Nat} {ls st : List Value} {M : am_M} {Q : am_Q} (h : am_B L mt_L_valve k_L_valve_19 n 19 ls st M Q) : am_R L mt_L_valve n 19 ls st M Q := am_go L mt_L_valve (fun h => by cases h) k_L_valve_19 n 19 ls st M Q o_L_valve_19 h
def k_L_valve_23 : List am_I := [(.astore 7, 2, 0, 0, 0), (.iconst 2, 1, 0, 0, 0), (.ireturn, 1, 0, 0, 0)]
set_option maxRecDepth 20000 in
theorem o_L_valve_23 : am_okB mt_L_valve 23 k_L_valve_23 = true := by decide +kernel
theorem g_L_valve_23 {L : am_S} {n : Nat} {ls st : List Value} {M : am_M} {Q : am_Q} (h : am_B L mt_L_valve k_L_valve_23 n 23 ls st M Q) : am_R L mt_L_valve n 23 ls st M Q := am_go L mt_L_valve (fun h => by cases h) k_L_valve_23 n 23 ls st M Q o_L_valve_23 h
def k_L_valve_27 : List am_I := [(.astore 7, 2, 0, 0, 0), (.iconst 3, 1, 0, 0, 0), (.ireturn, 1, 0, 0, 0)]
set_option maxRecDepth 20000 in
theorem o_L_valve_27 : am_okB mt_L_valve 27 k_L_valve_27 = true := by decide +kernel
theorem g_L_valve_27 {L : am_S} {n : Nat} {ls st : List Value} {M : am_M} {Q : am_Q} (h : am_B L mt_L_valve k_L_valve_27 n 27 ls st M Q) : am_R L mt_L_valve n 27 ls st M Q := am_go L mt_L_valve (fun h => by cases h) k_L_valve_27 n 27 ls st M Q o_L_valve_27 h
def k_L_valve_31 : List am_I := [(.iconst 0, 1, 0, 0, 0), (.ireturn, 1, 0, 0, 0)]
set_option maxRecDepth 20000 in
theorem o_L_valve_31 : am_okB mt_L_valve 31 k_L_valve_31 = true := by decide +kernel
theorem g_L_valve_31 {L : am_S} {n : Nat} {ls st : List Value} {M : am_M} {Q : am_Q} (h : am_B L mt_L_valve k_L_valve_31 n 31 ls st M Q) : am_R L mt_L_valve n 31 ls st M Q := am_go L mt_L_valve (fun h => by cases h) k_L_valve_31 n 31 ls st M Q o_L_valve_31 h
def k_L_close_0 : List am_I := [(.aload_n 2, 1, 0, 0, 0), (.iconst 0, 1, 0, 0, 0), (.aload_n 0, 1, 0, 0, 0), (.iload_n 1, 1, 0, 0, 0), (.invokevirtual 34, 3, 41, 2, 588), (.i2l, 1, 0, 0, 0), (.lastore, 1, 0, 0, 0), (.goto 6, 3, 0, 0, 0)]
set_option maxRecDepth 20000 in
theorem o_L_close_0 : am_okB mt_L_close 0 k_L_close_0 = true := by decide +kernel
theorem g_L_close_0 {L : am_S} {n : Nat} {ls st : List Value} {M : am_M} {Q : am_Q} (h : am_B L mt_L_close k_L_close_0 n 0 ls st M Q) : am_R L mt_L_close n 0 ls st M Q := am_go L mt_L_close (fun h => by cases h) k_L_close_0 n 0 ls st M Q o_L_close_0 h
def k_L_close_12 : List am_I := [(.astore_n 3, 1, 0, 0, 0), (.iconst 1, 1, 0, 0, 0), (.ireturn, 1, 0, 0, 0)]
set_option maxRecDepth 20000 in
theorem o_L_close_12 : am_okB mt_L_close 12 k_L_close_12 = true := by decide +kernel
theorem g_L_close_12 {L : am_S} {n : Nat} {ls st : List Value} {M : am_M} {Q : am_Q} (h : am_B L mt_L_close k_L_close_12 n 12 ls st M Q) : am_R L mt_L_close n 12 ls st M Q := am_go L mt_L_close (fun h => by cases h) k_L_close_12 n 12 ls st M Q o_L_close_12 h
def k_L_close_15 : List am_I := [(.iconst 0, 1, 0, 0, 0), (.ireturn, 1, 0, 0, 0)]
set_option maxRecDepth 20000 in
theorem o_L_close_15 : am_okB mt_L_close 15 k_L_close_15 = true := by decide +kernel
theorem g_L_close_15 {L : am_S} {n : Nat} {ls st : List Value} {M : am_M} {Q : am_Q} (h : am_B L mt_L_close k_L_close_15 n 15 ls st M Q) : am_R L mt_L_close n 15 ls st M Q := am_go L mt_L_close (fun h => by cases h) k_L_close_15 n 15 ls st M Q o_L_close_15 h
def k_L_pipe_0 : List am_I := [(.aload_n 3, 1, 0, 0, 0), (.iconst 0, 1, 0, 0, 0), (.aload_n 0, 1, 0, 0, 0), (.iload_n 1, 1, 0, 0, 0), (.iload_n 2, 1, 0, 0, 0), (.invokevirtual 37, 3, 42, 3, 600), (.i2l, 1, 0, 0, 0), (.lastore, 1, 0, 0, 0), (.goto 11, 3, 0, 0, 0)]
set_option maxRecDepth 20000 in
theorem o_L_pipe_0 : am_okB mt_L_pipe 0 k_L_pipe_0 = true := by decide +kernel
theorem g_L_pipe_0 {L : am_S} {n : Nat} {ls st : List Value} {M : am_M} {Q : am_Q} (h : am_B L mt_L_pipe k_L_pipe_0 n 0 ls st M Q) : am_R L mt_L_pipe n 0 ls st M Q := am_go L mt_L_pipe (fun h => by cases h) k_L_pipe_0 n 0 ls st M Q o_L_pipe_0 h
def k_L_pipe_13 : List am_I := [(.astore 4, 2, 0, 0, 0), (.iconst 1, 1, 0, 0, 0), (.ireturn, 1, 0, 0, 0)]
set_option maxRecDepth 20000 in
theorem o_L_pipe_13 : am_okB mt_L_pipe 13 k_L_pipe_13 = true := by decide +kernel
theorem g_L_pipe_13 {L : am_S} {n : Nat} {ls st : List Value} {M : am_M} {Q : am_Q} (h : am_B L mt_L_pipe k_L_pipe_13 n 13 ls st M Q) : am_R L mt_L_pipe n 13 ls st M Q := am_go L mt_L_pipe (fun h => by cases h) k_L_pipe_13 n 13 ls st M Q o_L_pipe_13 h
def k_L_pipe_17 : List am_I := [(.astore 4, 2, 0, 0, 0), (.iconst 2, 1, 0, 0, 0), (.ireturn, 1, 0, 0, 0)]
set_option maxRecDepth 20000 in
theorem o_L_pipe_17 : am_okB mt_L_pipe 17 k_L_pipe_17 = true := by decide +kernel
theorem g_L_pipe_17 {L : am_S} {n : Nat} {ls st : List Value} {M : am_M} {Q : am_Q} (h : am_B L mt_L_pipe k_L_pipe_17 n 17 ls st M Q) : am_R L mt_L_pipe n 17 ls st M Q := am_go L mt_L_pipe (fun h => by cases h) k_L_pipe_17 n 17 ls st M Q o_L_pipe_17 h
def k_L_pipe_21 : List am_I := [(.iconst 0, 1, 0, 0, 0), (.ireturn, 1, 0, 0, 0)]
set_option maxRecDepth 20000 in
theorem o_L_pipe_21 : am_okB mt_L_pipe 21 k_L_pipe_21 = true := by decide +kernel
theorem g_L_pipe_21 {L : am_S} {n : Nat} {ls st : List Value} {M : am_M} {Q : am_Q} (h : am_B L mt_L_pipe k_L_pipe_21 n 21 ls st M Q) : am_R L mt_L_pipe n 21 ls st M Q := am_go L mt_L_pipe (fun h => by cases h) k_L_pipe_21 n 21 ls st M Q o_L_pipe_21 h
def k_L_set_0 : List am_I := [(.aload_n 2, 1, 0, 0, 0), (.iconst 0, 1, 0, 0, 0), (.aload_n 0, 1, 0, 0, 0), (.iload_n 1, 1, 0, 0, 0), (.invokevirtual 40, 3, 43, 2, 608), (.i2l, 1, 0, 0, 0), (.lastore, 1, 0, 0, 0), (.goto 6, 3, 0, 0, 0)]
set_option maxRecDepth 20000 in
theorem o_L_set_0 : am_okB mt_L_set 0 k_L_set_0 = true := by decide +kernel
theorem g_L_set_0 {L : am_S} {n : Nat} {ls st : List Value} {M : am_M} {Q : am_Q} (h : am_B L mt_L_set k_L_set_0 n 0 ls st M Q) : am_R L mt_L_set n 0 ls st M Q := am_go L mt_L_set (fun h => by cases h) k_L_set_0 n 0 ls st M Q o_L_set_0 h
def k_L_set_12 : List am_I := [(.astore_n 3, 1, 0, 0, 0), (.iconst 1, 1, 0, 0, 0), (.ireturn, 1, 0, 0, 0)]
set_option maxRecDepth 20000 in
theorem o_L_set_12 : am_okB mt_L_set 12 k_L_set_12 = true := by decide +kernel
theorem g_L_set_12 {L : am_S} {n : Nat} {ls st : List Value} {M : am_M} {Q : am_Q} (h : am_B L mt_L_set k_L_set_12 n 12 ls st M Q) : am_R L mt_L_set n 12 ls st M Q := am_go L mt_L_set (fun h => by cases h) k_L_set_12 n 12 ls st M Q o_L_set_12 h
def k_L_set_15 : List am_I := [(.iconst 0, 1, 0, 0, 0), (.ireturn, 1, 0, 0, 0)]
set_option maxRecDepth 20000 in
theorem o_L_set_15 : am_okB mt_L_set 15 k_L_set_15 = true := by decide +kernel
theorem g_L_set_15 {L : am_S} {n : Nat} {ls st : List Value} {M : am_M} {Q : am_Q} (h : am_B L mt_L_set k_L_set_15 n 15 ls st M Q) : am_R L mt_L_set n 15 ls st M Q := am_go L mt_L_set (fun h => by cases h) k_L_set_15 n 15 ls st M Q o_L_set_15 h
def k_L_pass_0 : List am_I := [(.aload_n 2, 1, 0, 0, 0), (.iconst 0, 1, 0, 0, 0), (.aload_n 0, 1, 0, 0, 0), (.iload_n 1, 1, 0, 0, 0), (.invokevirtual 43, 3, 44, 2, 615), (.i2l, 1, 0, 0, 0), (.lastore, 1, 0, 0, 0), (.goto 9, 3, 0, 0, 0)]
set_option maxRecDepth 20000 in
theorem o_L_pass_0 : am_okB mt_L_pass 0 k_L_pass_0 = true := by decide +kernel
theorem g_L_pass_0 {L : am_S} {n : Nat} {ls st : List Value} {M : am_M} {Q : am_Q} (h : am_B L mt_L_pass k_L_pass_0 n 0 ls st M Q) : am_R L mt_L_pass n 0 ls st M Q := am_go L mt_L_pass (fun h => by cases h) k_L_pass_0 n 0 ls st M Q o_L_pass_0 h
def k_L_pass_12 : List am_I := [(.astore_n 3, 1, 0, 0, 0), (.iconst 1, 1, 0, 0, 0), (.ireturn, 1, 0, 0, 0)]
set_option maxRecDepth 20000 in
theorem o_L_pass_12 : am_okB mt_L_pass 12 k_L_pass_12 = true := by decide +kernel
theorem g_L_pass_12 {L : am_S} {n : Nat} {ls st : List Value} {M : am_M} {Q : am_Q} (h : am_B L mt_L_pass k_L_pass_12 n 12 ls st M Q) : am_R L mt_L_pass n 12 ls st M Q := am_go L mt_L_pass (fun h => by cases h) k_L_pass_12 n 12 ls st M Q o_L_pass_12 h
def k_L_pass_15 : List am_I := [(.astore_n 3, 1, 0, 0, 0), (.iconst 2, 1, 0, 0, 0), (.ireturn, 1, 0, 0, 0)]
set_option maxRecDepth 20000 in
theorem o_L_pass_15 : am_okB mt_L_pass 15 k_L_pass_15 = true := by decide +kernel
theorem g_L_pass_15 {L : am_S} {n : Nat} {ls st : List Value} {M : am_M} {Q : am_Q} (h : am_B L mt_L_pass k_L_pass_15 n 15 ls st M Q) : am_R L mt_L_pass n 15 ls st M Q := am_go L mt_L_pass (fun h => by cases h) k_L_pass_15 n 15 ls st M Q o_L_pass_15 h
def k_L_pass_18 : List am_I := [(.iconst 0, 1, 0, 0, 0), (.ireturn, 1, 0, 0, 0)]
set_option maxRecDepth 20000 in
theorem o_L_pass_18 : am_okB mt_L_pass 18 k_L_pass_18 = true := by decide +kernel
theorem g_L_pass_18 {L : am_S} {n : Nat} {ls st : List Value} {M : am_M} {Q : am_Q} (h : am_B L mt_L_pass k_L_pass_18 n 18 ls st M Q) : am_R L mt_L_pass n 18 ls st M Q := am_go L mt_L_pass (fun h => by cases h) k_L_pass_18 n 18 ls st M Q o_L_pass_18 h
def k_L_append_0 : List am_I := [(.aload_n 2, 1, 0, 0, 0), (.iconst 0, 1, 0, 0, 0), (.aload_n 0, 1, 0, 0, 0), (.iload_n 1, 1, 0, 0, 0), (.invokevirtual 46, 3, 45, 2, 623), (.i2l, 1, 0, 0, 0), (.lastore, 1, 0, 0, 0), (.goto 9, 3, 0, 0, 0)]
set_option maxRecDepth 20000 in
theorem o_L_append_0 : am_okB mt_L_append 0 k_L_append_0 = true := by decide +kernel
theorem g_L_append_0 {L : am_S} {n : Nat} {ls st : List Value} {M : am_M} {Q : am_Q} (h : am_B L mt_L_append k_L_append_0 n 0 ls st M Q) : am_R L mt_L_append n 0 ls st M Q := am_go L mt_L_append (fun h => by cases h) k_L_append_0 n 0 ls st M Q o_L_append_0 h
def k_L_append_12 : List am_I := [(.astore_n 3, 1, 0, 0, 0), (.iconst 1, 1, 0, 0, 0), (.ireturn, 1, 0, 0, 0)]
set_option maxRecDepth 20000 in
theorem o_L_append_12 : am_okB mt_L_append 12 k_L_append_12 = true := by decide +kernel
theorem g_L_append_12 {L : am_S} {n : Nat} {ls st : List Value} {M : am_M} {Q : am_Q} (h : am_B L mt_L_append k_L_append_12 n 12 ls st M Q) : am_R L mt_L_append n 12 ls st M Q := am_go L mt_L_append (fun h => by cases h) k_L_append_12 n 12 ls st M Q o_L_append_12 h
def k_L_append_15 : List am_I := [(.astore_n 3, 1, 0, 0, 0), (.iconst 2, 1, 0, 0, 0), (.ireturn, 1, 0, 0, 0)]
set_option maxRecDepth 20000 in
theorem o_L_append_15 : am_okB mt_L_append 15 k_L_append_15 = true := by decide +kernel
theorem g_L_append_15 {L : am_S} {n : Nat} {ls st : List Value} {M : am_M} {Q : am_Q} (h : am_B L mt_L_append k_L_append_15 n 15 ls st M Q) : am_R L mt_L_append n 15 ls st M Q := am_go L mt_L_append (fun h => by cases h) k_L_append_15 n 15 ls st M Q o_L_append_15 h
def k_L_append_18 : List am_I := [(.iconst 0, 1, 0, 0, 0), (.ireturn, 1, 0, 0, 0)]
set_option maxRecDepth 20000 in
theorem o_L_append_18 : am_okB mt_L_append 18 k_L_append_18 = true := by decide +kernel
theorem g_L_append_18 {L : am_S} {n : Nat} {ls st : List Value} {M : am_M} {Q : am_Q} (h : am_B L mt_L_append k_L_append_18 n 18 ls st M Q) : am_R L mt_L_append n 18 ls st M Q := am_go L mt_L_append (fun h => by cases h) k_L_append_18 n 18 ls st M Q o_L_append_18 h
def k_L_load_0 : List am_I := [(.aload_n 1, 1, 0, 0, 0), (.iconst 0, 1, 0, 0, 0), (.aload_n 0, 1, 0, 0, 0), (.invokevirtual 49, 3, 48, 1, 631), (.i2l, 1, 0, 0, 0), (.lastore, 1, 0, 0, 0), (.goto 9, 3, 0, 0, 0)]
set_option maxRecDepth 20000 in
theorem o_L_load_0 : am_okB mt_L_load 0 k_L_load_0 = true := by decide +kernel
theorem g_L_load_0 {L : am_S} {n : Nat} {ls st : List Value} {M : am_M} {Q : am_Q} (h : am_B L mt_L_load k_L_load_0 n 0 ls st M Q) : am_R L mt_L_load n 0 ls st M Q := am_go L mt_L_load (fun h => by cases h) k_L_load_0 n 0 ls st M Q o_L_load_0 h
def k_L_load_11 : List am_I := [(.astore_n 2, 1, 0, 0, 0), (.iconst 1, 1, 0, 0, 0), (.ireturn, 1, 0, 0, 0)]
set_option maxRecDepth 20000 in
theorem o_L_load_11 : am_okB mt_L_load 11 k_L_load_11 = true := by decide +kernel
theorem g_L_load_11 {L : am_S} {n : Nat} {ls st : List Value} {M : am_M} {Q : am_Q} (h : am_B L mt_L_load k_L_load_11 n 11 ls st M Q) : am_R L mt_L_load n 11 ls st M Q := am_go L mt_L_load (fun h => by cases h) k_L_load_11 n 11 ls st M Q o_L_load_11 h
def k_L_load_14 : List am_I := [(.astore_n 2, 1, 0, 0, 0), (.iconst 2, 1, 0, 0, 0), (.ireturn, 1, 0, 0, 0)]
set_option maxRecDepth 20000 in
theorem o_L_load_14 : am_okB mt_L_load 14 k_L_load_14 = true := by decide +kernel
theorem g_L_load_14 {L : am_S} {n : Nat} {ls st : List Value} {M : am_M} {Q : am_Q} (h : am_B L mt_L_load k_L_load_14 n 14 ls st M Q) : am_R L mt_L_load n 14 ls st M Q := am_go L mt_L_load (fun h => by cases h) k_L_load_14 n 14 ls st M Q o_L_load_14 h
def k_L_load_17 : List am_I := [(.iconst 0, 1, 0, 0, 0), (.ireturn, 1, 0, 0, 0)]
set_option maxRecDepth 20000 in
theorem o_L_load_17 : am_okB mt_L_load 17 k_L_load_17 = true := by decide +kernel
theorem g_L_load_17 {L : am_S} {n : Nat} {ls st : List Value} {M : am_M} {Q : am_Q} (h : am_B L mt_L_load k_L_load_17 n 17 ls st M Q) : am_R L mt_L_load n 17 ls st M Q := am_go L mt_L_load (fun h => by cases h) k_L_load_17 n 17 ls st M Q o_L_load_17 h
def k_L_keep_0 : List am_I := [(.aload_n 2, 1, 0, 0, 0), (.iconst 0, 1, 0, 0, 0), (.aload_n 0, 1, 0, 0, 0), (.iload_n 1, 1, 0, 0, 0), (.invokevirtual 53, 3, 49, 2, 648), (.i2l, 1, 0, 0, 0), (.lastore, 1, 0, 0, 0), (.goto 6, 3, 0, 0, 0)]
set_option maxRecDepth 20000 in
theorem o_L_keep_0 : am_okB mt_L_keep 0 k_L_keep_0 = true := by decide +kernel
theorem g_L_keep_0 {L : am_S} {n : Nat} {ls st : List Value} {M : am_M} {Q : am_Q} (h : am_B L mt_L_keep k_L_keep_0 n 0 ls st M Q) : am_R L mt_L_keep n 0 ls st M Q := am_go L mt_L_keep (fun h => by cases h) k_L_keep_0 n 0 ls st M Q o_L_keep_0 h
def k_L_keep_12 : List am_I := [(.astore_n 3, 1, 0, 0, 0), (.iconst 1, 1, 0, 0, 0), (.ireturn, 1, 0, 0, 0)]
set_option maxRecDepth 20000 in
theorem o_L_keep_12 : am_okB mt_L_keep 12 k_L_keep_12 = true := by decide +kernel
theorem g_L_keep_12 {L : am_S} {n : Nat} {ls st : List Value} {M : am_M} {Q : am_Q} (h : am_B L mt_L_keep k_L_keep_12 n 12 ls st M Q) : am_R L mt_L_keep n 12 ls st M Q := am_go L mt_L_keep (fun h => by cases h) k_L_keep_12 n 12 ls st M Q o_L_keep_12 h
def k_L_keep_15 : List am_I := [(.iconst 0, 1, 0, 0, 0), (.ireturn, 1, 0, 0, 0)]
set_option maxRecDepth 20000 in
theorem o_L_keep_15 : am_okB mt_L_keep 15 k_L_keep_15 = true := by decide +kernel
theorem g_L_keep_15 {L : am_S} {n : Nat} {ls st : List Value} {M : am_M} {Q : am_Q} (h : am_B L mt_L_keep k_L_keep_15 n 15 ls st M Q) : am_R L mt_L_keep n 15 ls st M Q := am_go L mt_L_keep (fun h => by cases h) k_L_keep_15 n 15 ls st M Q o_L_keep_15 h
def k_L_goBack_0 : List am_I := [(.aload_n 2, 1, 0, 0, 0), (.iconst 0, 1, 0, 0, 0), (.aload_n 0, 1, 0, 0, 0), (.iload_n 1, 1, 0, 0, 0), (.invokevirtual 56, 3, 50, 2, 655), (.i2l, 1, 0, 0, 0), (.lastore, 1, 0, 0, 0), (.goto 9, 3, 0, 0, 0)]
set_option maxRecDepth 20000 in
theorem o_L_goBack_0 : am_okB mt_L_goBack 0 k_L_goBack_0 = true := by decide +kernel
theorem g_L_goBack_0 {L : am_S} {n : Nat} {ls st : List Value} {M : am_M} {Q : am_Q} (h : am_B L mt_L_goBack k_L_goBack_0 n 0 ls st M Q) : am_R L mt_L_goBack n 0 ls st M Q := am_go L mt_L_goBack (fun h => by cases h) k_L_goBack_0 n 0 ls st M Q o_L_goBack_0 h
def k_L_goBack_12 : List am_I := [(.astore_n 3, 1, 0, 0, 0), (.iconst 1, 1, 0, 0, 0), (.ireturn, 1, 0, 0, 0)]
set_option maxRecDepth 20000 in
theorem o_L_goBack_12 : am_okB mt_L_goBack 12 k_L_goBack_12 = true := by decide +kernel
theorem g_L_goBack_12 {L : am_S} {n : Nat} {ls st : List Value} {M : am_M} {Q : am_Q} (h : am_B L mt_L_goBack k_L_goBack_12 n 12 ls st M Q) : am_R L mt_L_goBack n 12 ls st M Q := am_go L mt_L_goBack (fun h => by cases h) k_L_goBack_12 n 12 ls st M Q o_L_goBack_12 h
def k_L_goBack_15 : List am_I := [(.astore_n 3, 1, 0, 0, 0), (.iconst 2, 1, 0, 0, 0), (.ireturn, 1, 0, 0, 0)]
set_option maxRecDepth 20000 in
theorem o_L_goBack_15 : am_okB mt_L_goBack 15 k_L_goBack_15 = true := by decide +kernel
theorem g_L_goBack_15 {L : am_S} {n : Nat} {ls st : List Value} {M : am_M} {Q : am_Q} (h : am_B L mt_L_goBack k_L_goBack_15 n 15 ls st M Q) : am_R L mt_L_goBack n 15 ls st M Q := am_go L mt_L_goBack (fun h => by cases h) k_L_goBack_15 n 15 ls st M Q o_L_goBack_15 h
def k_L_goBack_18 : List am_I := [(.iconst 0, 1, 0, 0, 0), (.ireturn, 1, 0, 0, 0)]
set_option maxRecDepth 20000 in
theorem o_L_goBack_18 : am_okB mt_L_goBack 18 k_L_goBack_18 = true := by decide +kernel
theorem g_L_goBack_18 {L : am_S} {n : Nat} {ls st : List Value} {M : am_M} {Q : am_Q} (h : am_B L mt_L_goBack k_L_goBack_18 n 18 ls st M Q) : am_R L mt_L_goBack n 18 ls st M Q := am_go L mt_L_goBack (fun h => by cases h) k_L_goBack_18 n 18 ls st M Q o_L_goBack_18 h
def k_L_undo_0 : List am_I := [(.aload_n 1, 1, 0, 0, 0), (.iconst 0, 1, 0, 0, 0), (.aload_n 0, 1, 0, 0, 0), (.invokevirtual 59, 3, 51, 1, 663), (.i2l, 1, 0, 0, 0), (.lastore, 1, 0, 0, 0), (.goto 6, 3, 0, 0, 0)]
set_option maxRecDepth 20000 in
theorem o_L_undo_0 : am_okB mt_L_undo 0 k_L_undo_0 = true := by decide +kernel
theorem g_L_undo_0 {L : am_S} {n : Nat} {ls st : List Value} {M : am_M} {Q : am_Q} (h : am_B L mt_L_undo k_L_undo_0 n 0 ls st M Q) : am_R L mt_L_undo n 0 ls st M Q := am_go L mt_L_undo (fun h => by cases h) k_L_undo_0 n 0 ls st M Q o_L_undo_0 h
def k_L_undo_11 : List am_I := [(.astore_n 2, 1, 0, 0, 0), (.iconst 1, 1, 0, 0, 0), (.ireturn, 1, 0, 0, 0)]
set_option maxRecDepth 20000 in
theorem o_L_undo_11 : am_okB mt_L_undo 11 k_L_undo_11 = true := by decide +kernel
theorem g_L_undo_11 {L : am_S} {n : Nat} {ls st : List Value} {M : am_M} {Q : am_Q} (h : am_B L mt_L_undo k_L_undo_11 n 11 ls st M Q) : am_R L mt_L_undo n 11 ls st M Q := am_go L mt_L_undo (fun h => by cases h) k_L_undo_11 n 11 ls st M Q o_L_undo_11 h
def k_L_undo_14 : List am_I := [(.iconst 0, 1, 0, 0, 0), (.ireturn, 1, 0, 0, 0)]
set_option maxRecDepth 20000 in
theorem o_L_undo_14 : am_okB mt_L_undo 14 k_L_undo_14 = true := by decide +kernel
theorem g_L_undo_14 {L : am_S} {n : Nat} {ls st : List Value} {M : am_M} {Q : am_Q} (h : am_B L mt_L_undo k_L_undo_14 n 14 ls st M Q) : am_R L mt_L_undo n 14 ls st M Q := am_go L mt_L_undo (fun h => by cases h) k_L_undo_14 n 14 ls st M Q o_L_undo_14 h
def k_L_vatOf_0 : List am_I := [(.aload_n 3, 1, 0, 0, 0), (.iconst 0, 1, 0, 0, 0), (.aload_n 0, 1, 0, 0, 0), (.iload_n 1, 1, 0, 0, 0), (.iload_n 2, 1, 0, 0, 0), (.invokevirtual 62, 3, 52, 3, 671), (.i2l, 1, 0, 0, 0), (.lastore, 1, 0, 0, 0), (.goto 11, 3, 0, 0, 0)]
set_option maxRecDepth 20000 in
theorem o_L_vatOf_0 : am_okB mt_L_vatOf 0 k_L_vatOf_0 = true := by decide +kernel
theorem g_L_vatOf_0 {L : am_S} {n : Nat} {ls st : List Value} {M : am_M} {Q : am_Q} (h : am_B L mt_L_vatOf k_L_vatOf_0 n 0 ls st M Q) : am_R L mt_L_vatOf n 0 ls st M Q := am_go L mt_L_vatOf (fun h => by cases h) k_L_vatOf_0 n 0 ls st M Q o_L_vatOf_0 h
def k_L_vatOf_13 : List am_I := [(.astore 4, 2, 0, 0, 0), (.iconst 1, 1, 0, 0, 0), (.ireturn, 1, 0, 0, 0)]
set_option maxRecDepth 20000 in
theorem o_L_vatOf_13 : am_okB mt_L_vatOf 13 k_L_vatOf_13 = true := by decide +kernel
theorem g_L_vatOf_13 {L : am_S} {n : Nat} {ls st : List Value} {M : am_M} {Q : am_Q} (h : am_B L mt_L_vatOf k_L_vatOf_13 n 13 ls st M Q) : am_R L mt_L_vatOf n 13 ls st M Q := am_go L mt_L_vatOf (fun h => by cases h) k_L_vatOf_13 n 13 ls st M Q o_L_vatOf_13 h
def k_L_vatOf_17 : List am_I := [(.astore 4, 2, 0, 0, 0), (.iconst 2, 1, 0, 0, 0), (.ireturn, 1, 0, 0, 0)]
set_option maxRecDepth 20000 in
theorem o_L_vatOf_17 : am_okB mt_L_vatOf 17 k_L_vatOf_17 = true := by decide +kernel
theorem g_L_vatOf_17 {L : am_S} {n : Nat} {ls st : List Value} {M : am_M} {Q : am_Q} (h : am_B L mt_L_vatOf k_L_vatOf_17 n 17 ls st M Q) : am_R L mt_L_vatOf n 17 ls st M Q := am_go L mt_L_vatOf (fun h => by cases h) k_L_vatOf_17 n 17 ls st M Q o_L_vatOf_17 h
def k_L_vatOf_21 : List am_I := [(.iconst 0, 1, 0, 0, 0), (.ireturn, 1, 0, 0, 0)]
set_option maxRecDepth 20000 in
theorem o_L_vatOf_21 : am_okB mt_L_vatOf 21 k_L_vatOf_21 = true := by decide +kernel
theorem g_L_vatOf_21 {L : am_S} {n : Nat} {ls st : List Value} {M : am_M} {Q : am_Q} (h : am_B L mt_L_vatOf k_L_vatOf_21 n 21 ls st M Q) : am_R L mt_L_vatOf n 21 ls st M Q := am_go L mt_L_vatOf (fun h => by cases h) k_L_vatOf_21 n 21 ls st M Q o_L_vatOf_21 h
def k_L_valveOf_0 : List am_I := [(.aload_n 3, 1, 0, 0, 0), (.iconst 0, 1, 0, 0, 0), (.aload_n 0, 1, 0, 0, 0), (.iload_n 1, 1, 0, 0, 0), (.iload_n 2, 1, 0, 0, 0), (.invokevirtual 65, 3, 53, 3, 678), (.i2l, 1, 0, 0, 0), (.lastore, 1, 0, 0, 0), (.goto 11, 3, 0, 0, 0)]
set_option maxRecDepth 20000 in
theorem o_L_valveOf_0 : am_okB mt_L_valveOf 0 k_L_valveOf_0 = true := by decide +kernel
theorem g_L_valveOf_0 {L : am_S} {n : Nat} {ls st : List Value} {M : am_M} {Q : am_Q} (h : am_B L mt_L_valveOf k_L_valveOf_0 n 0 ls st M Q) : am_R L mt_L_valveOf n 0 ls st M Q := am_go L mt_L_valveOf (fun h => by cases h) k_L_valveOf_0 n 0 ls st M Q o_L_valveOf_0 h
def k_L_valveOf_13 : List am_I := [(.astore 4, 2, 0, 0, 0), (.iconst 1, 1, 0, 0, 0), (.ireturn, 1, 0, 0, 0)]
set_option maxRecDepth 20000 in
theorem o_L_valveOf_13 : am_okB mt_L_valveOf 13 k_L_valveOf_13 = true := by decide +kernel
theorem g_L_valveOf_13 {L : am_S} {n : Nat} {ls st : List Value} {M : am_M} {Q : am_Q} (h : am_B L mt_L_valveOf k_L_valveOf_13 n 13 ls st M Q) : am_R L mt_L_valveOf n 13 ls st M Q := am_go L mt_L_valveOf (fun h => by cases h) k_L_valveOf_13 n 13 ls st M Q o_L_valveOf_13 h
def k_L_valveOf_17 : List am_I := [(.astore 4, 2, 0, 0, 0), (.iconst 2, 1, 0, 0, 0), (.ireturn, 1, 0, 0, 0)]
set_option maxRecDepth 20000 in
theorem o_L_valveOf_17 : am_okB mt_L_valveOf 17 k_L_valveOf_17 = true := by decide +kernel
theorem g_L_valveOf_17 {L : am_S} {n : Nat} {ls st : List Value} {M : am_M} {Q : am_Q} (h : am_B L mt_L_valveOf k_L_valveOf_17 n 17 ls st M Q) : am_R L mt_L_valveOf n 17 ls st M Q := am_go L mt_L_valveOf (fun h => by cases h) k_L_valveOf_17 n 17 ls st M Q o_L_valveOf_17 h
def k_L_valveOf_21 : List am_I := [(.iconst 0, 1, 0, 0, 0), (.ireturn, 1, 0, 0, 0)]
set_option maxRecDepth 20000 in
theorem o_L_valveOf_21 : am_okB mt_L_valveOf 21 k_L_valveOf_21 = true := by decide +kernel
theorem g_L_valveOf_21 {L : am_S} {n : Nat} {ls st : List Value} {M : am_M} {Q : am_Q} (h : am_B L mt_L_valveOf k_L_valveOf_21 n 21 ls st M Q) : am_R L mt_L_valveOf n 21 ls st M Q := am_go L mt_L_valveOf (fun h => by cases h) k_L_valveOf_21 n 21 ls st M Q o_L_valveOf_21 h
def k_L_dyeOf_0 : List am_I := [(.aload_n 3, 1, 0, 0, 0), (.iconst 0, 1, 0, 0, 0), (.aload_n 0, 1, 0, 0, 0), (.iload_n 1, 1, 0, 0, 0), (.iload_n 2, 1, 0, 0, 0), (.invokevirtual 68, 3, 54, 3, 685), (.i2l, 1, 0, 0, 0), (.lastore, 1, 0, 0, 0), (.goto 11, 3, 0, 0, 0)]
set_option maxRecDepth 20000 in
theorem o_L_dyeOf_0 : am_okB mt_L_dyeOf 0 k_L_dyeOf_0 = true := by decide +kernel
theorem g_L_dyeOf_0 {L : am_S} {n : Nat} {ls st : List Value} {M : am_M} {Q : am_Q} (h : am_B L mt_L_dyeOf k_L_dyeOf_0 n 0 ls st M Q) : am_R L mt_L_dyeOf n 0 ls st M Q := am_go L mt_L_dyeOf (fun h => by cases h) k_L_dyeOf_0 n 0 ls st M Q o_L_dyeOf_0 h
def k_L_dyeOf_13 : List am_I := [(.astore 4, 2, 0, 0, 0), (.iconst 1, 1, 0, 0, 0), (.ireturn, 1, 0, 0, 0)]
set_option maxRecDepth 20000 in
theorem o_L_dyeOf_13 : am_okB mt_L_dyeOf 13 k_L_dyeOf_13 = true := by decide +kernel
theorem g_L_dyeOf_13 {L : am_S} {n : Nat} {ls st : List Value} {M : am_M} {Q : am_Q} (h : am_B L mt_L_dyeOf k_L_dyeOf_13 n 13 ls st M Q) : am_R L mt_L_dyeOf n 13 ls st M Q := am_go L mt_L_dyeOf (fun h => by cases h) k_L_dyeOf_13 n 13 ls st M Q o_L_dyeOf_13 h
def k_L_dyeOf_17 : List am_I := [(.astore 4, 2, 0, 0, 0), (.iconst 2, 1, 0, 0, 0), (.ireturn, 1, 0, 0, 0)]
set_option maxRecDepth 20000 in
theorem o_L_dyeOf_17 : am_okB mt_L_dyeOf 17 k_L_dyeOf_17 = true := by decide +kernel
theorem g_L_dyeOf_17 {L : am_S} {n : Nat} {ls st : List Value} {M : am_M} {Q : am_Q} (h : am_B L mt_L_dyeOf k_L_dyeOf_17 n 17 ls st M Q) : am_R L mt_L_dyeOf n 17 ls st M Q := am_go L mt_L_dyeOf (fun h => by cases h) k_L_dyeOf_17 n 17 ls st M Q o_L_dyeOf_17 h
def k_L_dyeOf_21 : List am_I := [(.iconst 0, 1, 0, 0, 0), (.ireturn, 1, 0, 0, 0)]
set_option maxRecDepth 20000 in
theorem o_L_dyeOf_21 : am_okB mt_L_dyeOf 21 k_L_dyeOf_21 = true := by decide +kernel
theorem g_L_dyeOf_21 {L : am_S} {n : Nat} {ls st : List Value} {M : am_M} {Q : am_Q} (h : am_B L mt_L_dyeOf k_L_dyeOf_21 n 21 ls st M Q) : am_R L mt_L_dyeOf n 21 ls st M Q := am_go L mt_L_dyeOf (fun h => by cases h) k_L_dyeOf_21 n 21 ls st M Q o_L_dyeOf_21 h
def k_L_count_0 : List am_I := [(.aload_n 2, 1, 0, 0, 0), (.iconst 0, 1, 0, 0, 0), (.aload_n 0, 1, 0, 0, 0), (.iload_n 1, 1, 0, 0, 0), (.invokevirtual 71, 3, 55, 2, 692), (.i2l, 1, 0, 0, 0), (.lastore, 1, 0, 0, 0), (.goto 6, 3, 0, 0, 0)]
set_option maxRecDepth 20000 in
theorem o_L_count_0 : am_okB mt_L_count 0 k_L_count_0 = true := by decide +kernel
theorem g_L_count_0 {L : am_S} {n : Nat} {ls st : List Value} {M : am_M} {Q : am_Q} (h : am_B L mt_L_count k_L_count_0 n 0 ls st M Q) : am_R L mt_L_count n 0 ls st M Q := am_go L mt_L_count (fun h => by cases h) k_L_count_0 n 0 ls st M Q o_L_count_0 h
def k_L_count_12 : List am_I := [(.astore_n 3, 1, 0, 0, 0), (.iconst 1, 1, 0, 0, 0), (.ireturn, 1, 0, 0, 0)]
set_option maxRecDepth 20000 in
theorem o_L_count_12 : am_okB mt_L_count 12 k_L_count_12 = true := by decide +kernel
theorem g_L_count_12 {L : am_S} {n : Nat} {ls st : List Value} {M : am_M} {Q : am_Q} (h : am_B L mt_L_count k_L_count_12 n 12 ls st M Q) : am_R L mt_L_count n 12 ls st M Q := am_go L mt_L_count (fun h => by cases h) k_L_count_12 n 12 ls st M Q o_L_count_12 h
def k_L_count_15 : List am_I := [(.iconst 0, 1, 0, 0, 0), (.ireturn, 1, 0, 0, 0)]
set_option maxRecDepth 20000 in
theorem o_L_count_15 : am_okB mt_L_count 15 k_L_count_15 = true := by decide +kernel
theorem g_L_count_15 {L : am_S} {n : Nat} {ls st : List Value} {M : am_M} {Q : am_Q} (h : am_B L mt_L_count k_L_count_15 n 15 ls st M Q) : am_R L mt_L_count n 15 ls st M Q := am_go L mt_L_count (fun h => by cases h) k_L_count_15 n 15 ls st M Q o_L_count_15 h
def k_L_ifPassed_0 : List am_I := [(.aload 4, 2, 0, 0, 0), (.iconst 0, 1, 0, 0, 0), (.aload_n 0, 1, 0, 0, 0), (.iload_n 1, 1, 0, 0, 0), (.iload_n 2, 1, 0, 0, 0), (.iload_n 3, 1, 0, 0, 0), (.invokevirtual 74, 3, 56, 4, 699), (.i2l, 1, 0, 0, 0), (.lastore, 1, 0, 0, 0), (.goto 11, 3, 0, 0, 0)]
set_option maxRecDepth 20000 in
theorem o_L_ifPassed_0 : am_okB mt_L_ifPassed 0 k_L_ifPassed_0 = true := by decide +kernel
theorem g_L_ifPassed_0 {L : am_S} {n : Nat} {ls st : List Value} {M : am_M} {Q : am_Q} (h : am_B L mt_L_ifPassed k_L_ifPassed_0 n 0 ls st M Q) : am_R L mt_L_ifPassed n 0 ls st M Q := am_go L mt_L_ifPassed (fun h => by cases h) k_L_ifPassed_0 n 0 ls st M Q o_L_ifPassed_0 h
def k_L_ifPassed_15 : List am_I := [(.astore 5, 2, 0, 0, 0), (.iconst 1, 1, 0, 0, 0), (.ireturn, 1, 0, 0, 0)]
set_option maxRecDepth 20000 in
theorem o_L_ifPassed_15 : am_okB mt_L_ifPassed 15 k_L_ifPassed_15 = true := by decide +kernel
theorem g_L_ifPassed_15 {L : am_S} {n : Nat} {ls st : List Value} {M : am_M} {Q : am_Q} (h : am_B L mt_L_ifPassed k_L_ifPassed_15 n 15 ls st M Q) : am_R L mt_L_ifPassed n 15 ls st M Q := am_go L mt_L_ifPassed (fun h => by cases h) k_L_ifPassed_15 n 15 ls st M Q o_L_ifPassed_15 h
def k_L_ifPassed_19 : List am_I := [(.astore 5, 2, 0, 0, 0), (.iconst 2, 1, 0, 0, 0), (.ireturn, 1, 0, 0, 0)]
set_option maxRecDepth 20000 in
theorem o_L_ifPassed_19 : am_okB mt_L_ifPassed 19 k_L_ifPassed_19 = true := by decide +kernel
theorem g_L_ifPassed_19 {L : am_S} {n : Nat} {ls st : List Value} {M : am_M} {Q : am_Q} (h : am_B L mt_L_ifPassed k_L_ifPassed_19 n 19 ls st M Q) : am_R L mt_L_ifPassed n 19 ls st M Q := am_go L mt_L_ifPassed (fun h => by cases h) k_L_ifPassed_19 n 19 ls st M Q o_L_ifPassed_19 h
def k_L_ifPassed_23 : List am_I := [(.iconst 0, 1, 0, 0, 0), (.ireturn, 1, 0, 0, 0)]
set_option maxRecDepth 20000 in
theorem o_L_ifPassed_23 : am_okB mt_L_ifPassed 23 k_L_ifPassed_23 = true := by decide +kernel
theorem g_L_ifPassed_23 {L : am_S} {n : Nat} {ls st : List Value} {M : am_M} {Q : am_Q} (h : am_B L mt_L_ifPassed k_L_ifPassed_23 n 23 ls st M Q) : am_R L mt_L_ifPassed n 23 ls st M Q := am_go L mt_L_ifPassed (fun h => by cases h) k_L_ifPassed_23 n 23 ls st M Q o_L_ifPassed_23 h
def k_L_emptyIn_0 : List am_I := [(.aload_n 2, 1, 0, 0, 0), (.iconst 0, 1, 0, 0, 0), (.aload_n 0, 1, 0, 0, 0), (.iload_n 1, 1, 0, 0, 0), (.invokevirtual 77, 3, 57, 2, 706), (.i2l, 1, 0, 0, 0), (.lastore, 1, 0, 0, 0), (.goto 6, 3, 0, 0, 0)]
set_option maxRecDepth 20000 in
theorem o_L_emptyIn_0 : am_okB mt_L_emptyIn 0 k_L_emptyIn_0 = true := by decide +kernel
theorem g_L_emptyIn_0 {L : am_S} {n : Nat} {ls st : List Value} {M : am_M} {Q : am_Q} (h : am_B L mt_L_emptyIn k_L_emptyIn_0 n 0 ls st M Q) : am_R L mt_L_emptyIn n 0 ls st M Q := am_go L mt_L_emptyIn (fun h => by cases h) k_L_emptyIn_0 n 0 ls st M Q o_L_emptyIn_0 h
def k_L_emptyIn_12 : List am_I := [(.astore_n 3, 1, 0, 0, 0), (.iconst 1, 1, 0, 0, 0), (.ireturn, 1, 0, 0, 0)]
set_option maxRecDepth 20000 in
theorem o_L_emptyIn_12 : am_okB mt_L_emptyIn 12 k_L_emptyIn_12 = true := by decide +kernel
theorem g_L_emptyIn_12 {L : am_S} {n : Nat} {ls st : List Value} {M : am_M} {Q : am_Q} (h : am_B L mt_L_emptyIn k_L_emptyIn_12 n 12 ls st M Q) : am_R L mt_L_emptyIn n 12 ls st M Q := am_go L mt_L_emptyIn (fun h => by cases h) k_L_emptyIn_12 n 12 ls st M Q o_L_emptyIn_12 h
def k_L_emptyIn_15 : List am_I := [(.iconst 0, 1, 0, 0, 0), (.ireturn, 1, 0, 0, 0)]
set_option maxRecDepth 20000 in
theorem o_L_emptyIn_15 : am_okB mt_L_emptyIn 15 k_L_emptyIn_15 = true := by decide +kernel
theorem g_L_emptyIn_15 {L : am_S} {n : Nat} {ls st : List Value} {M : am_M} {Q : am_Q} (h : am_B L mt_L_emptyIn k_L_emptyIn_15 n 15 ls st M Q) : am_R L mt_L_emptyIn n 15 ls st M Q := am_go L mt_L_emptyIn (fun h => by cases h) k_L_emptyIn_15 n 15 ls st M Q o_L_emptyIn_15 h
def k_L_round_0 : List am_I := [(.aload_n 2, 1, 0, 0, 0), (.iconst 0, 1, 0, 0, 0), (.aload_n 0, 1, 0, 0, 0), (.iload_n 1, 1, 0, 0, 0), (.invokevirtual 80, 3, 58, 2, 713), (.i2l, 1, 0, 0, 0), (.lastore, 1, 0, 0, 0), (.goto 6, 3, 0, 0, 0)]
set_option maxRecDepth 20000 in
theorem o_L_round_0 : am_okB mt_L_round 0 k_L_round_0 = true := by decide +kernel
theorem g_L_round_0 {L : am_S} {n : Nat} {ls st : List Value} {M : am_M} {Q : am_Q} (h : am_B L mt_L_round k_L_round_0 n 0 ls st M Q) : am_R L mt_L_round n 0 ls st M Q := am_go L mt_L_round (fun h => by cases h) k_L_round_0 n 0 ls st M Q o_L_round_0 h
def k_L_round_12 : List am_I := [(.astore_n 3, 1, 0, 0, 0), (.iconst 1, 1, 0, 0, 0), (.ireturn, 1, 0, 0, 0)]
set_option maxRecDepth 20000 in
theorem o_L_round_12 : am_okB mt_L_round 12 k_L_round_12 = true := by decide +kernel
theorem g_L_round_12 {L : am_S} {n : Nat} {ls st : List Value} {M : am_M} {Q : am_Q} (h : am_B L mt_L_round k_L_round_12 n 12 ls st M Q) : am_R L mt_L_round n 12 ls st M Q := am_go L mt_L_round (fun h => by cases h) k_L_round_12 n 12 ls st M Q o_L_round_12 h
def k_L_round_15 : List am_I := [(.iconst 0, 1, 0, 0, 0), (.ireturn, 1, 0, 0, 0)]
set_option maxRecDepth 20000 in
theorem o_L_round_15 : am_okB mt_L_round 15 k_L_round_15 = true := by decide +kernel
theorem g_L_round_15 {L : am_S} {n : Nat} {ls st : List Value} {M : am_M} {Q : am_Q} (h : am_B L mt_L_round k_L_round_15 n 15 ls st M Q) : am_R L mt_L_round n 15 ls st M Q := am_go L mt_L_round (fun h => by cases h) k_L_round_15 n 15 ls st M Q o_L_round_15 h
def k_L_law_23 : List am_I := [(.iload 4, 2, 0, 0, 0), (.aload_n 0, 1, 0, 0, 0), (.arraylength, 1, 0, 0, 0), (.bipush 6, 2, 0, 0, 0), (.isub, 1, 0, 0, 0), (.if_icmp .gt 1550, 3, 0, 0, 0), (.aload_n 0, 1, 0, 0, 0), (.iload 4, 2, 0, 0, 0), (.iaload, 1, 0, 0, 0), (.bipush 31, 2, 0, 0, 0), (.iand, 1, 0, 0, 0), (.tableswitch 1534 0 25 #[120, 188, 268, 324, 392, 496, 552, 620, 676, 732, 788, 801, 814, 858, 914, 970, 1014, 1082, 1150, 1218, 1274, 1354, 1410, 1466, 1479, 1520], 120, 0, 0, 0)]
set_option maxRecDepth 20000 in
theorem o_L_law_23 : am_okB mt_L_law 23 k_L_law_23 = true := by decide +kernel
theorem g_L_law_23 {L : am_S} (hL : L.1 < 2 ^ 31) {n : Nat} {ls st : List Value} {M : am_M} {Q : am_Q} (h : am_B L mt_L_law k_L_law_23 n 23 ls st M Q) : am_R L mt_L_law n 23 ls st M Q := am_go L mt_L_law (fun _ => hL) k_L_law_23 n 23 ls st M Q o_L_law_23 h
def k_L_law_160 : List am_I := [(.aload_n 1, 1, 0, 0, 0), (.aload_n 0, 1, 0, 0, 0), (.iload 4, 2, 0, 0, 0), (.iconst 1, 1, 0, 0, 0), (.iadd, 1, 0, 0, 0), (.iaload, 1, 0, 0, 0), (.aload_n 0, 1, 0, 0, 0), (.iload 4, 2, 0, 0, 0), (.iconst 2, 1, 0, 0, 0), (.iadd, 1, 0, 0, 0), (.iaload, 1, 0, 0, 0), (.aload_n 3, 1, 0, 0, 0), (.invokestatic 87, 3, 146, 4, 419), (.istore 5, 2, 0, 0, 0), (.aload_n 2, 1, 0, 0, 0), (.aload_n 0, 1, 0, 0, 0), (.iload 4, 2, 0, 0, 0), (.iconst 1, 1, 0, 0, 0), (.iadd, 1, 0, 0, 0), (.iaload, 1, 0, 0, 0), (.aload_n 0, 1, 0, 0, 0), (.iload 4, 2, 0, 0, 0), (.iconst 2, 1, 0, 0, 0), (.iadd, 1, 0, 0, 0), (.iaload, 1, 0, 0, 0), (.invokevirtual 92, 3, 93, 3, 806), (.istore 6, 2, 0, 0, 0), (.aload_n 2, 1, 0, 0, 0), (.invokevirtual 93, 3, 74, 1, 779), (.iload 5, 2, 0, 0, 0), (.if_icmp .eq 5, 3, 0, 0, 0), (.iconst 0, 1, 0, 0, 0), (.ireturn, 1, 0, 0, 0)]
set_option maxRecDepth 20000 in
theorem o_L_law_160 : am_okB mt_L_law 160 k_L_law_160 = true := by decide +kernel
theorem g_L_law_160 {L : am_S} (hL : L.1 < 2 ^ 31) {n : Nat} {ls st : List Value} {M : am_M} {Q : am_Q} (h : am_B L mt_L_law k_L_law_160 n 160 ls st M Q) : am_R L mt_L_law n 160 ls st M Q := am_go L mt_L_law (fun _ => hL) k_L_law_160 n 160 ls st M Q o_L_law_160 h
def k_L_law_208 : List am_I := [(.iload 5, 2, 0, 0, 0), (.ifCond .ne 15, 3, 0, 0, 0), (.aload_n 3, 1, 0, 0, 0), (.iconst 0, 1, 0, 0, 0), (.laload, 1, 0, 0, 0), (.iload 6, 2, 0, 0, 0), (.i2l, 1, 0, 0, 0), (.lcmp, 1, 0, 0, 0), (.ifCond .eq 5, 3, 0, 0, 0), (.iconst 0, 1, 0, 0, 0), (.ireturn, 1, 0, 0, 0)]
set_option maxRecDepth 20000 in
theorem o_L_law_208 : am_okB mt_L_law 208 k_L_law_208 = true := by decide +kernel
theorem g_L_law_208 {L : am_S} (hL : L.1 < 2 ^ 31) {n : Nat} {ls st : List Value} {M : am_M} {Q : am_Q} (h : am_B L mt_L_law k_L_law_208 n 208 ls st M Q) : am_R L mt_L_law n 208 ls st M Q := am_go L mt_L_law (fun _ => hL) k_L_law_208 n 208 ls st M Q o_L_law_208 h
def k_L_law_225 : List am_I := [(.goto 1349, 3, 0, 0, 0)]
set_option maxRecDepth 20000 in
theorem o_L_law_225 : am_okB mt_L_law 225 k_L_law_225 = true := by decide +kernel
theorem g_L_law_225 {L : am_S} (hL : L.1 < 2 ^ 31) {n : Nat} {ls st : List Value} {M : am_M} {Q : am_Q} (h : am_B L mt_L_law k_L_law_225 n 225 ls st M Q) : am_R L mt_L_law n 225 ls st M Q := am_go L mt_L_law (fun _ => hL) k_L_law_225 n 225 ls st M Q o_L_law_225 h
def k_L_law_228 : List am_I := [(.aload_n 1, 1, 0, 0, 0), (.aload_n 0, 1, 0, 0, 0), (.iload 4, 2, 0, 0, 0), (.iconst 1, 1, 0, 0, 0), (.iadd, 1, 0, 0, 0), (.iaload, 1, 0, 0, 0), (.aload_n 0, 1, 0, 0, 0), (.iload 4, 2, 0, 0, 0), (.iconst 2, 1, 0, 0, 0), (.iadd, 1, 0, 0, 0), (.iaload, 1, 0, 0, 0), (.aload_n 0, 1, 0, 0, 0), (.iload 4, 2, 0, 0, 0), (.iconst 3, 1, 0, 0, 0), (.iadd, 1, 0, 0, 0), (.iaload, 1, 0, 0, 0), (.aload_n 3, 1, 0, 0, 0), (.invokestatic 96, 3, 147, 5, 526), (.istore 5, 2, 0, 0, 0), (.aload_n 2, 1, 0, 0, 0), (.aload_n 0, 1, 0, 0, 0), (.iload 4, 2, 0, 0, 0), (.iconst 1, 1, 0, 0, 0), (.iadd, 1, 0, 0, 0), (.iaload, 1, 0, 0, 0), (.aload_n 0, 1, 0, 0, 0), (.iload 4, 2, 0, 0, 0), (.iconst 2, 1, 0, 0, 0), (.iadd, 1, 0, 0, 0), (.iaload, 1, 0, 0, 0), (.aload_n 0, 1, 0, 0, 0), (.iload 4, 2, 0, 0, 0), (.iconst 3, 1, 0, 0, 0), (.iadd, 1, 0, 0, 0), (.iaload, 1, 0, 0, 0), (.invokevirtual 99, 3, 94, 4, 821), (.istore 6, 2, 0, 0, 0), (.aload_n 2, 1, 0, 0, 0), (.invokevirtual 93, 3, 74, 1, 779), (.iload 5, 2, 0, 0, 0), (.if_icmp .eq 5, 3, 0, 0, 0), (.iconst 0, 1, 0, 0, 0), (.ireturn, 1, 0, 0, 0)]
set_option maxRecDepth 20000 in
theorem o_L_law_228 : am_okB mt_L_law 228 k_L_law_228 = true := by decide +kernel
theorem g_L_law_228 {L : am_S} (hL : L.1 < 2 ^ 31) {n : Nat} {ls st : List Value} {M : am_M} {Q : am_Q} (h : am_B L mt_L_law k_L_law_228 n 228 ls st M Q) : am_R L mt_L_law n 228 ls st M Q := am_go L mt_L_law (fun _ => hL) k_L_law_228 n 228 ls st M Q o_L_law_228 h
def k_L_law_288 : List am_I := [(.iload 5, 2, 0, 0, 0), (.ifCond .ne 15, 3, 0, 0, 0), (.aload_n 3, 1, 0, 0, 0), (.iconst 0, 1, 0, 0, 0), (.laload, 1, 0, 0, 0), (.iload 6, 2, 0, 0, 0), (.i2l, 1, 0, 0, 0), (.lcmp, 1, 0, 0, 0), (.ifCond .eq 5, 3, 0, 0, 0), (.iconst 0, 1, 0, 0, 0), (.ireturn, 1, 0, 0, 0)]
set_option maxRecDepth 20000 in
theorem o_L_law_288 : am_okB mt_L_law 288 k_L_law_288 = true := by decide +kernel
theorem g_L_law_288 {L : am_S} (hL : L.1 < 2 ^ 31) {n : Nat} {ls st : List Value} {M : am_M} {Q : am_Q} (h : am_B L mt_L_law k_L_law_288 n 288 ls st M Q) : am_R L mt_L_law n 288 ls st M Q := am_go L mt_L_law (fun _ => hL) k_L_law_288 n 288 ls st M Q o_L_law_288 h
def k_L_law_305 : List am_I := [(.goto 1269, 3, 0, 0, 0)]
set_option maxRecDepth 20000 in
theorem o_L_law_305 : am_okB mt_L_law 305 k_L_law_305 = true := by decide +kernel
theorem g_L_law_305 {L : am_S} (hL : L.1 < 2 ^ 31) {n : Nat} {ls st : List Value} {M : am_M} {Q : am_Q} (h : am_B L mt_L_law k_L_law_305 n 305 ls st M Q) : am_R L mt_L_law n 305 ls st M Q := am_go L mt_L_law (fun _ => hL) k_L_law_305 n 305 ls st M Q o_L_law_305 h
def k_L_law_308 : List am_I := [(.aload_n 1, 1, 0, 0, 0), (.aload_n 0, 1, 0, 0, 0), (.iload 4, 2, 0, 0, 0), (.iconst 1, 1, 0, 0, 0), (.iadd, 1, 0, 0, 0), (.iaload, 1, 0, 0, 0), (.aload_n 3, 1, 0, 0, 0), (.invokestatic 100, 3, 148, 3, 555), (.istore 5, 2, 0, 0, 0), (.aload_n 2, 1, 0, 0, 0), (.aload_n 0, 1, 0, 0, 0), (.iload 4, 2, 0, 0, 0), (.iconst 1, 1, 0, 0, 0), (.iadd, 1, 0, 0, 0), (.iaload, 1, 0, 0, 0), (.invokevirtual 103, 3, 95, 2, 829), (.istore 6, 2, 0, 0, 0), (.aload_n 2, 1, 0, 0, 0), (.invokevirtual 93, 3, 74, 1, 779), (.iload 5, 2, 0, 0, 0), (.if_icmp .eq 5, 3, 0, 0, 0), (.iconst 0, 1, 0, 0, 0), (.ireturn, 1, 0, 0, 0)]
set_option maxRecDepth 20000 in
theorem o_L_law_308 : am_okB mt_L_law 308 k_L_law_308 = true := by decide +kernel
theorem g_L_law_308 {L : am_S} (hL : L.1 < 2 ^ 31) {n : Nat} {ls st : List Value} {M : am_M} {Q : am_Q} (h : am_B L mt_L_law k_L_law_308 n 308 ls st M Q) : am_R L mt_L_law n 308 ls st M Q := am_go L mt_L_law (fun _ => hL) k_L_law_308 n 308 ls st M Q o_L_law_308 h
def k_L_law_344 : List am_I := [(.iload 5, 2, 0, 0, 0), (.ifCond .ne 15, 3, 0, 0, 0), (.aload_n 3, 1, 0, 0, 0), (.iconst 0, 1, 0, 0, 0), (.laload, 1, 0, 0, 0), (.iload 6, 2, 0, 0, 0), (.i2l, 1, 0, 0, 0), (.lcmp, 1, 0, 0, 0), (.ifCond .eq 5, 3, 0, 0, 0), (.iconst 0, 1, 0, 0, 0), (.ireturn, 1, 0, 0, 0)]
set_option maxRecDepth 20000 in
theorem o_L_law_344 : am_okB mt_L_law 344 k_L_law_344 = true := by decide +kernel
theorem g_L_law_344 {L : am_S} (hL : L.1 < 2 ^ 31) {n : Nat} {ls st : List Value} {M : am_M} {Q : am_Q} (h : am_B L mt_L_law k_L_law_344 n 344 ls st M Q) : am_R L mt_L_law n 344 ls st M Q := am_go L mt_L_law (fun _ => hL) k_L_law_344 n 344 ls st M Q o_L_law_344 h
def k_L_law_361 : List am_I := [(.goto 1213, 3, 0, 0, 0)]
set_option maxRecDepth 20000 in
theorem o_L_law_361 : am_okB mt_L_law 361 k_L_law_361 = true := by decide +kernel
theorem g_L_law_361 {L : am_S} (hL : L.1 < 2 ^ 31) {n : Nat} {ls st : List Value} {M : am_M} {Q : am_Q} (h : am_B L mt_L_law k_L_law_361 n 361 ls st M Q) : am_R L mt_L_law n 361 ls st M Q := am_go L mt_L_law (fun _ => hL) k_L_law_361 n 361 ls st M Q o_L_law_361 h
def k_L_law_364 : List am_I := [(.aload_n 1, 1, 0, 0, 0), (.aload_n 0, 1, 0, 0, 0), (.iload 4, 2, 0, 0, 0), (.iconst 1, 1, 0, 0, 0), (.iadd, 1, 0, 0, 0), (.iaload, 1, 0, 0, 0), (.aload_n 0, 1, 0, 0, 0), (.iload 4, 2, 0, 0, 0), (.iconst 2, 1, 0, 0, 0), (.iadd, 1, 0, 0, 0), (.iaload, 1, 0, 0, 0), (.aload_n 3, 1, 0, 0, 0), (.invokestatic 104, 3, 149, 4, 569), (.istore 5, 2, 0, 0, 0), (.aload_n 2, 1, 0, 0, 0), (.aload_n 0, 1, 0, 0, 0), (.iload 4, 2, 0, 0, 0), (.iconst 1, 1, 0, 0, 0), (.iadd, 1, 0, 0, 0), (.iaload, 1, 0, 0, 0), (.aload_n 0, 1, 0, 0, 0), (.iload 4, 2, 0, 0, 0), (.iconst 2, 1, 0, 0, 0), (.iadd, 1, 0, 0, 0), (.iaload, 1, 0, 0, 0), (.invokevirtual 106, 3, 96, 3, 840), (.istore 6, 2, 0, 0, 0), (.aload_n 2, 1, 0, 0, 0), (.invokevirtual 93, 3, 74, 1, 779), (.iload 5, 2, 0, 0, 0), (.if_icmp .eq 5, 3, 0, 0, 0), (.iconst 0, 1, 0, 0, 0), (.ireturn, 1, 0, 0, 0)]
set_option maxRecDepth 20000 in
theorem o_L_law_364 : am_okB mt_L_law 364 k_L_law_364 = true := by decide +kernel
theorem g_L_law_364 {L : am_S} (hL : L.1 < 2 ^ 31) {n : Nat} {ls st : List Value} {M : am_M} {Q : am_Q} (h : am_B L mt_L_law k_L_law_364 n 364 ls st M Q) : am_R L mt_L_law n 364 ls st M Q := am_go L mt_L_law (fun _ => hL) k_L_law_364 n 364 ls st M Q o_L_law_364 h
def k_L_law_412 : List am_I := [(.iload 5, 2, 0, 0, 0), (.ifCond .ne 15, 3, 0, 0, 0), (.aload_n 3, 1, 0, 0, 0), (.iconst 0, 1, 0, 0, 0), (.laload, 1, 0, 0, 0), (.iload 6, 2, 0, 0, 0), (.i2l, 1, 0, 0, 0), (.lcmp, 1, 0, 0, 0), (.ifCond .eq 5, 3, 0, 0, 0), (.iconst 0, 1, 0, 0, 0), (.ireturn, 1, 0, 0, 0)]
set_option maxRecDepth 20000 in
theorem o_L_law_412 : am_okB mt_L_law 412 k_L_law_412 = true := by decide +kernel
theorem g_L_law_412 {L : am_S} (hL : L.1 < 2 ^ 31) {n : Nat} {ls st : List Value} {M : am_M} {Q : am_Q} (h : am_B L mt_L_law k_L_law_412 n 412 ls st M Q) : am_R L mt_L_law n 412 ls st M Q := am_go L mt_L_law (fun _ => hL) k_L_law_412 n 412 ls st M Q o_L_law_412 h
def k_L_law_429 : List am_I := [(.goto 1145, 3, 0, 0, 0)]
set_option maxRecDepth 20000 in
theorem o_L_law_429 : am_okB mt_L_law 429 k_L_law_429 = true := by decide +kernel
theorem g_L_law_429 {L : am_S} (hL : L.1 < 2 ^ 31) {n : Nat} {ls st : List Value} {M : am_M} {Q : am_Q} (h : am_B L mt_L_law k_L_law_429 n 429 ls st M Q) : am_R L mt_L_law n 429 ls st M Q := am_go L mt_L_law (fun _ => hL) k_L_law_429 n 429 ls st M Q o_L_law_429 h
def k_L_law_432 : List am_I := [(.aload_n 1, 1, 0, 0, 0), (.aload_n 0, 1, 0, 0, 0), (.iload 4, 2, 0, 0, 0), (.iconst 1, 1, 0, 0, 0), (.iadd, 1, 0, 0, 0), (.iaload, 1, 0, 0, 0), (.aload_n 0, 1, 0, 0, 0), (.iload 4, 2, 0, 0, 0), (.iconst 2, 1, 0, 0, 0), (.iadd, 1, 0, 0, 0), (.iaload, 1, 0, 0, 0), (.aload_n 0, 1, 0, 0, 0), (.iload 4, 2, 0, 0, 0), (.iconst 3, 1, 0, 0, 0), (.iadd, 1, 0, 0, 0), (.iaload, 1, 0, 0, 0), (.aload_n 0, 1, 0, 0, 0), (.iload 4, 2, 0, 0, 0), (.iconst 4, 1, 0, 0, 0), (.iadd, 1, 0, 0, 0), (.iaload, 1, 0, 0, 0), (.aload_n 0, 1, 0, 0, 0), (.iload 4, 2, 0, 0, 0), (.iconst 5, 1, 0, 0, 0), (.iadd, 1, 0, 0, 0), (.iaload, 1, 0, 0, 0), (.aload_n 3, 1, 0, 0, 0), (.invokestatic 107, 3, 150, 7, 576), (.istore 5, 2, 0, 0, 0), (.aload_n 2, 1, 0, 0, 0), (.aload_n 0, 1, 0, 0, 0), (.iload 4, 2, 0, 0, 0), (.iconst 1, 1, 0, 0, 0), (.iadd, 1, 0, 0, 0), (.iaload, 1, 0, 0, 0), (.aload_n 0, 1, 0, 0, 0), (.iload 4, 2, 0, 0, 0), (.iconst 2, 1, 0, 0, 0), (.iadd, 1, 0, 0, 0), (.iaload, 1, 0, 0, 0), (.aload_n 0, 1, 0, 0, 0), (.iload 4, 2, 0, 0, 0), (.iconst 3, 1, 0, 0, 0), (.iadd, 1, 0, 0, 0), (.iaload, 1, 0, 0, 0), (.aload_n 0, 1, 0, 0, 0), (.iload 4, 2, 0, 0, 0), (.iconst 4, 1, 0, 0, 0), (.iadd, 1, 0, 0, 0), (.iaload, 1, 0, 0, 0), (.aload_n 0, 1, 0, 0, 0), (.iload 4, 2, 0, 0, 0), (.iconst 5, 1, 0, 0, 0), (.iadd, 1, 0, 0, 0), (.iaload, 1, 0, 0, 0), (.invokevirtual 110, 3, 98, 6, 844), (.istore 6, 2, 0, 0, 0), (.aload_n 2, 1, 0, 0, 0), (.invokevirtual 93, 3, 74, 1, 779), (.iload 5, 2, 0, 0, 0), (.if_icmp .eq 5, 3, 0, 0, 0), (.iconst 0, 1, 0, 0, 0), (.ireturn, 1, 0, 0, 0)]
set_option maxRecDepth 20000 in
theorem o_L_law_432 : am_okB mt_L_law 432 k_L_law_432 = true := by decide +kernel
theorem g_L_law_432 {L : am_S} (hL : L.1 < 2 ^ 31) {n : Nat} {ls st : List Value} {M : am_M} {Q : am_Q} (h : am_B L mt_L_law k_L_law_432 n 432 ls st M Q) : am_R L mt_L_law n 432 ls st M Q := am_go L mt_L_law (fun _ => hL) k_L_law_432 n 432 ls st M Q o_L_law_432 h
def k_L_law_516 : List am_I := [(.iload 5, 2, 0, 0, 0), (.ifCond .ne 15, 3, 0, 0, 0), (.aload_n 3, 1, 0, 0, 0), (.iconst 0, 1, 0, 0, 0), (.laload, 1, 0, 0, 0), (.iload 6, 2, 0, 0, 0), (.i2l, 1, 0, 0, 0), (.lcmp, 1, 0, 0, 0), (.ifCond .eq 5, 3, 0, 0, 0), (.iconst 0, 1, 0, 0, 0), (.ireturn, 1, 0, 0, 0)]
set_option maxRecDepth 20000 in
theorem o_L_law_516 : am_okB mt_L_law 516 k_L_law_516 = true := by decide +kernel
theorem g_L_law_516 {L : am_S} (hL : L.1 < 2 ^ 31) {n : Nat} {ls st : List Value} {M : am_M} {Q : am_Q} (h : am_B L mt_L_law k_L_law_516 n 516 ls st M Q) : am_R L mt_L_law n 516 ls st M Q := am_go L mt_L_law (fun _ => hL) k_L_law_516 n 516 ls st M Q o_L_law_516 h
def k_L_law_533 : List am_I := [(.goto 1041, 3, 0, 0, 0)]
set_option maxRecDepth 20000 in
theorem o_L_law_533 : am_okB mt_L_law 533 k_L_law_533 = true := by decide +kernel
theorem g_L_law_533 {L : am_S} (hL : L.1 < 2 ^ 31) {n : Nat} {ls st : List Value} {M : am_M} {Q : am_Q} (h : am_B L mt_L_law k_L_law_533 n 533 ls st M Q) : am_R L mt_L_law n 533 ls st M Q := am_go L mt_L_law (fun _ => hL) k_L_law_533 n 533 ls st M Q o_L_law_533 h
def k_L_law_536 : List am_I := [(.aload_n 1, 1, 0, 0, 0), (.aload_n 0, 1, 0, 0, 0), (.iload 4, 2, 0, 0, 0), (.iconst 1, 1, 0, 0, 0), (.iadd, 1, 0, 0, 0), (.iaload, 1, 0, 0, 0), (.aload_n 3, 1, 0, 0, 0), (.invokestatic 111, 3, 151, 3, 585), (.istore 5, 2, 0, 0, 0), (.aload_n 2, 1, 0, 0, 0), (.aload_n 0, 1, 0, 0, 0), (.iload 4, 2, 0, 0, 0), (.iconst 1, 1, 0, 0, 0), (.iadd, 1, 0, 0, 0), (.iaload, 1, 0, 0, 0), (.invokevirtual 113, 3, 100, 2, 852), (.istore 6, 2, 0, 0, 0), (.aload_n 2, 1, 0, 0, 0), (.invokevirtual 93, 3, 74, 1, 779), (.iload 5, 2, 0, 0, 0), (.if_icmp .eq 5, 3, 0, 0, 0), (.iconst 0, 1, 0, 0, 0), (.ireturn, 1, 0, 0, 0)]
set_option maxRecDepth 20000 in
theorem o_L_law_536 : am_okB mt_L_law 536 k_L_law_536 = true := by decide +kernel
theorem g_L_law_536 {L : am_S} (hL : L.1 < 2 ^ 31) {n : Nat} {ls st : List Value} {M : am_M} {Q : am_Q} (h : am_B L mt_L_law k_L_law_536 n 536 ls st M Q) : am_R L mt_L_law n 536 ls st M Q := am_go L mt_L_law (fun _ => hL) k_L_law_536 n 536 ls st M Q o_L_law_536 h
def k_L_law_572 : List am_I := [(.iload 5, 2, 0, 0, 0), (.ifCond .ne 15, 3, 0, 0, 0), (.aload_n 3, 1, 0, 0, 0), (.iconst 0, 1, 0, 0, 0), (.laload, 1, 0, 0, 0), (.iload 6, 2, 0, 0, 0), (.i2l, 1, 0, 0, 0), (.lcmp, 1, 0, 0, 0), (.ifCond .eq 5, 3, 0, 0, 0), (.iconst 0, 1, 0, 0, 0), (.ireturn, 1, 0, 0, 0)]
set_option maxRecDepth 20000 in
theorem o_L_law_572 : am_okB mt_L_law 572 k_L_law_572 = true := by decide +kernel
theorem g_L_law_572 {L : am_S} (hL : L.1 < 2 ^ 31) {n : Nat} {ls st : List Value} {M : am_M} {Q : am_Q} (h : am_B L mt_L_law k_L_law_572 n 572 ls st M Q) : am_R L mt_L_law n 572 ls st M Q := am_go L mt_L_law (fun _ => hL) k_L_law_572 n 572 ls st M Q o_L_law_572 h
def k_L_law_589 : List am_I := [(.goto 985, 3, 0, 0, 0)]
set_option maxRecDepth 20000 in
theorem o_L_law_589 : am_okB mt_L_law 589 k_L_law_589 = true := by decide +kernel
theorem g_L_law_589 {L : am_S} (hL : L.1 < 2 ^ 31) {n : Nat} {ls st : List Value} {M : am_M} {Q : am_Q} (h : am_B L mt_L_law k_L_law_589 n 589 ls st M Q) : am_R L mt_L_law n 589 ls st M Q := am_go L mt_L_law (fun _ => hL) k_L_law_589 n 589 ls st M Q o_L_law_589 h
def k_L_law_592 : List am_I := [(.aload_n 1, 1, 0, 0, 0), (.aload_n 0, 1, 0, 0, 0), (.iload 4, 2, 0, 0, 0), (.iconst 1, 1, 0, 0, 0), (.iadd, 1, 0, 0, 0), (.iaload, 1, 0, 0, 0), (.aload_n 0, 1, 0, 0, 0), (.iload 4, 2, 0, 0, 0), (.iconst 2, 1, 0, 0, 0), (.iadd, 1, 0, 0, 0), (.iaload, 1, 0, 0, 0), (.aload_n 3, 1, 0, 0, 0), (.invokestatic 114, 3, 152, 4, 597), (.istore 5, 2, 0, 0, 0), (.aload_n 2, 1, 0, 0, 0), (.aload_n 0, 1, 0, 0, 0), (.iload 4, 2, 0, 0, 0), (.iconst 1, 1, 0, 0, 0), (.iadd, 1, 0, 0, 0), (.iaload, 1, 0, 0, 0), (.aload_n 0, 1, 0, 0, 0), (.iload 4, 2, 0, 0, 0), (.iconst 2, 1, 0, 0, 0), (.iadd, 1, 0, 0, 0), (.iaload, 1, 0, 0, 0), (.invokevirtual 116, 3, 102, 3, 864), (.istore 6, 2, 0, 0, 0), (.aload_n 2, 1, 0, 0, 0), (.invokevirtual 93, 3, 74, 1, 779), (.iload 5, 2, 0, 0, 0), (.if_icmp .eq 5, 3, 0, 0, 0), (.iconst 0, 1, 0, 0, 0), (.ireturn, 1, 0, 0, 0)]
set_option maxRecDepth 20000 in
theorem o_L_law_592 : am_okB mt_L_law 592 k_L_law_592 = true := by decide +kernel
theorem g_L_law_592 {L : am_S} (hL : L.1 < 2 ^ 31) {n : Nat} {ls st : List Value} {M : am_M} {Q : am_Q} (h : am_B L mt_L_law k_L_law_592 n 592 ls st M Q) : am_R L mt_L_law n 592 ls st M Q := am_go L mt_L_law (fun _ => hL) k_L_law_592 n 592 ls st M Q o_L_law_592 h
def k_L_law_640 : List am_I := [(.iload 5, 2, 0, 0, 0), (.ifCond .ne 15, 3, 0, 0, 0), (.aload_n 3, 1, 0, 0, 0), (.iconst 0, 1, 0, 0, 0), (.laload, 1, 0, 0, 0), (.iload 6, 2, 0, 0, 0), (.i2l, 1, 0, 0, 0), (.lcmp, 1, 0, 0, 0), (.ifCond .eq 5, 3, 0, 0, 0), (.iconst 0, 1, 0, 0, 0), (.ireturn, 1, 0, 0, 0)]
set_option maxRecDepth 20000 in
theorem o_L_law_640 : am_okB mt_L_law 640 k_L_law_640 = true := by decide +kernel
theorem g_L_law_640 {L : am_S} (hL : L.1 < 2 ^ 31) {n : Nat} {ls st : List Value} {M : am_M} {Q : am_Q} (h : am_B L mt_L_law k_L_law_640 n 640 ls st M Q) : am_R L mt_L_law n 640 ls st M Q := am_go L mt_L_law (fun _ => hL) k_L_law_640 n 640 ls st M Q o_L_law_640 h
def k_L_law_657 : List am_I := [(.goto 917, 3, 0, 0, 0)]
set_option maxRecDepth 20000 in
theorem o_L_law_657 : am_okB mt_L_law 657 k_L_law_657 = true := by decide +kernel
theorem g_L_law_657 {L : am_S} (hL : L.1 < 2 ^ 31) {n : Nat} {ls st : List Value} {M : am_M} {Q : am_Q} (h : am_B L mt_L_law k_L_law_657 n 657 ls st M Q) : am_R L mt_L_law n 657 ls st M Q := am_go L mt_L_law (fun _ => hL) k_L_law_657 n 657 ls st M Q o_L_law_657 h
def k_L_law_660 : List am_I := [(.aload_n 1, 1, 0, 0, 0), (.aload_n 0, 1, 0, 0, 0), (.iload 4, 2, 0, 0, 0), (.iconst 1, 1, 0, 0, 0), (.iadd, 1, 0, 0, 0), (.iaload, 1, 0, 0, 0), (.aload_n 3, 1, 0, 0, 0), (.invokestatic 117, 3, 153, 3, 605), (.istore 5, 2, 0, 0, 0), (.aload_n 2, 1, 0, 0, 0), (.aload_n 0, 1, 0, 0, 0), (.iload 4, 2, 0, 0, 0), (.iconst 1, 1, 0, 0, 0), (.iadd, 1, 0, 0, 0), (.iaload, 1, 0, 0, 0), (.invokevirtual 119, 3, 103, 2, 872), (.istore 6, 2, 0, 0, 0), (.aload_n 2, 1, 0, 0, 0), (.invokevirtual 93, 3, 74, 1, 779), (.iload 5, 2, 0, 0, 0), (.if_icmp .eq 5, 3, 0, 0, 0), (.iconst 0, 1, 0, 0, 0), (.ireturn, 1, 0, 0, 0)]
set_option maxRecDepth 20000 in
theorem o_L_law_660 : am_okB mt_L_law 660 k_L_law_660 = true := by decide +kernel
theorem g_L_law_660 {L : am_S} (hL : L.1 < 2 ^ 31) {n : Nat} {ls st : List Value} {M : am_M} {Q : am_Q} (h : am_B L mt_L_law k_L_law_660 n 660 ls st M Q) : am_R L mt_L_law n 660 ls st M Q := am_go L mt_L_law (fun _ => hL) k_L_law_660 n 660 ls st M Q o_L_law_660 h
def k_L_law_696 : List am_I := [(.iload 5, 2, 0, 0, 0), (.ifCond .ne 15, 3, 0, 0, 0), (.aload_n 3, 1, 0, 0, 0), (.iconst 0, 1, 0, 0, 0), (.laload, 1, 0, 0, 0), (.iload 6, 2, 0, 0, 0), (.i2l, 1, 0, 0, 0), (.lcmp, 1, 0, 0, 0), (.ifCond .eq 5, 3, 0, 0, 0), (.iconst 0, 1, 0, 0, 0), (.ireturn, 1, 0, 0, 0)]
set_option maxRecDepth 20000 in
theorem o_L_law_696 : am_okB mt_L_law 696 k_L_law_696 = true := by decide +kernel
theorem g_L_law_696 {L : am_S} (hL : L.1 < 2 ^ 31) {n : Nat} {ls st : List Value} {M : am_M} {Q : am_Q} (h : am_B L mt_L_law k_L_law_696 n 696 ls st M Q) : am_R L mt_L_law n 696 ls st M Q := am_go L mt_L_law (fun _ => hL) k_L_law_696 n 696 ls st M Q o_L_law_696 h
def k_L_law_713 : List am_I := [(.goto 861, 3, 0, 0, 0)]
set_option maxRecDepth 20000 in
theorem o_L_law_713 : am_okB mt_L_law 713 k_L_law_713 = true := by decide +kernel
theorem g_L_law_713 {L : am_S} (hL : L.1 < 2 ^ 31) {n : Nat} {ls st : List Value} {M : am_M} {Q : am_Q} (h : am_B L mt_L_law k_L_law_713 n 713 ls st M Q) : am_R L mt_L_law n 713 ls st M Q := am_go L mt_L_law (fun _ => hL) k_L_law_713 n 713 ls st M Q o_L_law_713 h
def k_L_law_716 : List am_I := [(.aload_n 1, 1, 0, 0, 0), (.aload_n 0, 1, 0, 0, 0), (.iload 4, 2, 0, 0, 0), (.iconst 1, 1, 0, 0, 0), (.iadd, 1, 0, 0, 0), (.iaload, 1, 0, 0, 0), (.aload_n 3, 1, 0, 0, 0), (.invokestatic 120, 3, 154, 3, 612), (.istore 5, 2, 0, 0, 0), (.aload_n 2, 1, 0, 0, 0), (.aload_n 0, 1, 0, 0, 0), (.iload 4, 2, 0, 0, 0), (.iconst 1, 1, 0, 0, 0), (.iadd, 1, 0, 0, 0), (.iaload, 1, 0, 0, 0), (.invokevirtual 122, 3, 109, 2, 876), (.istore 6, 2, 0, 0, 0), (.aload_n 2, 1, 0, 0, 0), (.invokevirtual 93, 3, 74, 1, 779), (.iload 5, 2, 0, 0, 0), (.if_icmp .eq 5, 3, 0, 0, 0), (.iconst 0, 1, 0, 0, 0), (.ireturn, 1, 0, 0, 0)]
set_option maxRecDepth 20000 in
theorem o_L_law_716 : am_okB mt_L_law 716 k_L_law_716 = true := by decide +kernel
theorem g_L_law_716 {L : am_S} (hL : L.1 < 2 ^ 31) {n : Nat} {ls st : List Value} {M : am_M} {Q : am_Q} (h : am_B L mt_L_law k_L_law_716 n 716 ls st M Q) : am_R L mt_L_law n 716 ls st M Q := am_go L mt_L_law (fun _ => hL) k_L_law_716 n 716 ls st M Q o_L_law_716 h
def k_L_law_752 : List am_I := [(.iload 5, 2, 0, 0, 0), (.ifCond .ne 15, 3, 0, 0, 0), (.aload_n 3, 1, 0, 0, 0), (.iconst 0, 1, 0, 0, 0), (.laload, 1, 0, 0, 0), (.iload 6, 2, 0, 0, 0), (.i2l, 1, 0, 0, 0), (.lcmp, 1, 0, 0, 0), (.ifCond .eq 5, 3, 0, 0, 0), (.iconst 0, 1, 0, 0, 0), (.ireturn, 1, 0, 0, 0)]
set_option maxRecDepth 20000 in
theorem o_L_law_752 : am_okB mt_L_law 752 k_L_law_752 = true := by decide +kernel
theorem g_L_law_752 {L : am_S} (hL : L.1 < 2 ^ 31) {n : Nat} {ls st : List Value} {M : am_M} {Q : am_Q} (h : am_B L mt_L_law k_L_law_752 n 752 ls st M Q) : am_R L mt_L_law n 752 ls st M Q := am_go L mt_L_law (fun _ => hL) k_L_law_752 n 752 ls st M Q o_L_law_752 h
def k_L_law_769 : List am_I := [(.goto 805, 3, 0, 0, 0)]
set_option maxRecDepth 20000 in
theorem o_L_law_769 : am_okB mt_L_law 769 k_L_law_769 = true := by decide +kernel
theorem g_L_law_769 {L : am_S} (hL : L.1 < 2 ^ 31) {n : Nat} {ls st : List Value} {M : am_M} {Q : am_Q} (h : am_B L mt_L_law k_L_law_769 n 769 ls st M Q) : am_R L mt_L_law n 769 ls st M Q := am_go L mt_L_law (fun _ => hL) k_L_law_769 n 769 ls st M Q o_L_law_769 h
def k_L_law_772 : List am_I := [(.aload_n 1, 1, 0, 0, 0), (.aload_n 0, 1, 0, 0, 0), (.iload 4, 2, 0, 0, 0), (.iconst 1, 1, 0, 0, 0), (.iadd, 1, 0, 0, 0), (.iaload, 1, 0, 0, 0), (.aload_n 3, 1, 0, 0, 0), (.invokestatic 123, 3, 155, 3, 620), (.istore 5, 2, 0, 0, 0), (.aload_n 2, 1, 0, 0, 0), (.aload_n 0, 1, 0, 0, 0), (.iload 4, 2, 0, 0, 0), (.iconst 1, 1, 0, 0, 0), (.iadd, 1, 0, 0, 0), (.iaload, 1, 0, 0, 0), (.invokevirtual 125, 3, 110, 2, 908), (.istore 6, 2, 0, 0, 0), (.aload_n 2, 1, 0, 0, 0), (.invokevirtual 93, 3, 74, 1, 779), (.iload 5, 2, 0, 0, 0), (.if_icmp .eq 5, 3, 0, 0, 0), (.iconst 0, 1, 0, 0, 0), (.ireturn, 1, 0, 0, 0)]
set_option maxRecDepth 20000 in
theorem o_L_law_772 : am_okB mt_L_law 772 k_L_law_772 = true := by decide +kernel
theorem g_L_law_772 {L : am_S} (hL : L.1 < 2 ^ 31) {n : Nat} {ls st : List Value} {M : am_M} {Q : am_Q} (h : am_B L mt_L_law k_L_law_772 n 772 ls st M Q) : am_R L mt_L_law n 772 ls st M Q := am_go L mt_L_law (fun _ => hL) k_L_law_772 n 772 ls st M Q o_L_law_772 h
def k_L_law_808 : List am_I := [(.iload 5, 2, 0, 0, 0), (.ifCond .ne 15, 3, 0, 0, 0), (.aload_n 3, 1, 0, 0, 0), (.iconst 0, 1, 0, 0, 0), (.laload, 1, 0, 0, 0), (.iload 6, 2, 0, 0, 0), (.i2l, 1, 0, 0, 0), (.lcmp, 1, 0, 0, 0), (.ifCond .eq 5, 3, 0, 0, 0), (.iconst 0, 1, 0, 0, 0), (.ireturn, 1, 0, 0, 0)]
set_option maxRecDepth 20000 in
theorem o_L_law_808 : am_okB mt_L_law 808 k_L_law_808 = true := by decide +kernel
theorem g_L_law_808 {L : am_S} (hL : L.1 < 2 ^ 31) {n : Nat} {ls st : List Value} {M : am_M} {Q : am_Q} (h : am_B L mt_L_law k_L_law_808 n 808 ls st M Q) : am_R L mt_L_law n 808 ls st M Q := am_go L mt_L_law (fun _ => hL) k_L_law_808 n 808 ls st M Q o_L_law_808 h
def k_L_law_825 : List am_I := [(.goto 749, 3, 0, 0, 0)]
set_option maxRecDepth 20000 in
theorem o_L_law_825 : am_okB mt_L_law 825 k_L_law_825 = true := by decide +kernel
theorem g_L_law_825 {L : am_S} (hL : L.1 < 2 ^ 31) {n : Nat} {ls st : List Value} {M : am_M} {Q : am_Q} (h : am_B L mt_L_law k_L_law_825 n 825 ls st M Q) : am_R L mt_L_law n 825 ls st M Q := am_go L mt_L_law (fun _ => hL) k_L_law_825 n 825 ls st M Q o_L_law_825 h
def k_L_law_828 : List am_I := [(.aload_n 1, 1, 0, 0, 0), (.invokevirtual 126, 3, 46, 1, 192), (.aload_n 2, 1, 0, 0, 0), (.invokevirtual 129, 3, 111, 1, 912), (.if_icmp .eq 738, 3, 0, 0, 0), (.iconst 0, 1, 0, 0, 0), (.ireturn, 1, 0, 0, 0)]
set_option maxRecDepth 20000 in
theorem o_L_law_828 : am_okB mt_L_law 828 k_L_law_828 = true := by decide +kernel
theorem g_L_law_828 {L : am_S} (hL : L.1 < 2 ^ 31) {n : Nat} {ls st : List Value} {M : am_M} {Q : am_Q} (h : am_B L mt_L_law k_L_law_828 n 828 ls st M Q) : am_R L mt_L_law n 828 ls st M Q := am_go L mt_L_law (fun _ => hL) k_L_law_828 n 828 ls st M Q o_L_law_828 h
def k_L_law_841 : List am_I := [(.aload_n 1, 1, 0, 0, 0), (.invokevirtual 130, 3, 47, 1, 196), (.aload_n 2, 1, 0, 0, 0), (.invokevirtual 133, 3, 121, 1, 916), (.if_icmp .eq 725, 3, 0, 0, 0), (.iconst 0, 1, 0, 0, 0), (.ireturn, 1, 0, 0, 0)]
set_option maxRecDepth 20000 in
theorem o_L_law_841 : am_okB mt_L_law 841 k_L_law_841 = true := by decide +kernel
theorem g_L_law_841 {L : am_S} (hL : L.1 < 2 ^ 31) {n : Nat} {ls st : List Value} {M : am_M} {Q : am_Q} (h : am_B L mt_L_law k_L_law_841 n 841 ls st M Q) : am_R L mt_L_law n 841 ls st M Q := am_go L mt_L_law (fun _ => hL) k_L_law_841 n 841 ls st M Q o_L_law_841 h
def k_L_law_854 : List am_I := [(.aload_n 1, 1, 0, 0, 0), (.aload_n 3, 1, 0, 0, 0), (.invokestatic 134, 3, 156, 2, 628), (.istore 5, 2, 0, 0, 0), (.aload_n 2, 1, 0, 0, 0), (.invokevirtual 137, 3, 122, 1, 955), (.istore 6, 2, 0, 0, 0), (.aload_n 2, 1, 0, 0, 0), (.invokevirtual 93, 3, 74, 1, 779), (.iload 5, 2, 0, 0, 0), (.if_icmp .eq 5, 3, 0, 0, 0), (.iconst 0, 1, 0, 0, 0), (.ireturn, 1, 0, 0, 0)]
set_option maxRecDepth 20000 in
theorem o_L_law_854 : am_okB mt_L_law 854 k_L_law_854 = true := by decide +kernel
theorem g_L_law_854 {L : am_S} (hL : L.1 < 2 ^ 31) {n : Nat} {ls st : List Value} {M : am_M} {Q : am_Q} (h : am_B L mt_L_law k_L_law_854 n 854 ls st M Q) : am_R L mt_L_law n 854 ls st M Q := am_go L mt_L_law (fun _ => hL) k_L_law_854 n 854 ls st M Q o_L_law_854 h
def k_L_law_878 : List am_I := [(.iload 5, 2, 0, 0, 0), (.ifCond .ne 15, 3, 0, 0, 0), (.aload_n 3, 1, 0, 0, 0), (.iconst 0, 1, 0, 0, 0), (.laload, 1, 0, 0, 0), (.iload 6, 2, 0, 0, 0), (.i2l, 1, 0, 0, 0), (.lcmp, 1, 0, 0, 0), (.ifCond .eq 5, 3, 0, 0, 0), (.iconst 0, 1, 0, 0, 0), (.ireturn, 1, 0, 0, 0)]
set_option maxRecDepth 20000 in
theorem o_L_law_878 : am_okB mt_L_law 878 k_L_law_878 = true := by decide +kernel
theorem g_L_law_878 {L : am_S} (hL : L.1 < 2 ^ 31) {n : Nat} {ls st : List Value} {M : am_M} {Q : am_Q} (h : am_B L mt_L_law k_L_law_878 n 878 ls st M Q) : am_R L mt_L_law n 878 ls st M Q := am_go L mt_L_law (fun _ => hL) k_L_law_878 n 878 ls st M Q o_L_law_878 h
def k_L_law_895 : List am_I := [(.goto 679, 3, 0, 0, 0)]
set_option maxRecDepth 20000 in
theorem o_L_law_895 : am_okB mt_L_law 895 k_L_law_895 = true := by decide +kernel
theorem g_L_law_895 {L : am_S} (hL : L.1 < 2 ^ 31) {n : Nat} {ls st : List Value} {M : am_M} {Q : am_Q} (h : am_B L mt_L_law k_L_law_895 n 895 ls st M Q) : am_R L mt_L_law n 895 ls st M Q := am_go L mt_L_law (fun _ => hL) k_L_law_895 n 895 ls st M Q o_L_law_895 h
def k_L_law_898 : List am_I := [(.aload_n 1, 1, 0, 0, 0), (.aload_n 0, 1, 0, 0, 0), (.iload 4, 2, 0, 0, 0), (.iconst 1, 1, 0, 0, 0), (.iadd, 1, 0, 0, 0), (.iaload, 1, 0, 0, 0), (.aload_n 3, 1, 0, 0, 0), (.invokestatic 138, 3, 157, 3, 645), (.istore 5, 2, 0, 0, 0), (.aload_n 2, 1, 0, 0, 0), (.aload_n 0, 1, 0, 0, 0), (.iload 4, 2, 0, 0, 0), (.iconst 1, 1, 0, 0, 0), (.iadd, 1, 0, 0, 0), (.iaload, 1, 0, 0, 0), (.invokevirtual 140, 3, 89, 2, 787), (.istore 6, 2, 0, 0, 0), (.aload_n 2, 1, 0, 0, 0), (.invokevirtual 93, 3, 74, 1, 779), (.iload 5, 2, 0, 0, 0), (.if_icmp .eq 5, 3, 0, 0, 0), (.iconst 0, 1, 0, 0, 0), (.ireturn, 1, 0, 0, 0)]
set_option maxRecDepth 20000 in
theorem o_L_law_898 : am_okB mt_L_law 898 k_L_law_898 = true := by decide +kernel
theorem g_L_law_898 {L : am_S} (hL : L.1 < 2 ^ 31) {n : Nat} {ls st : List Value} {M : am_M} {Q : am_Q} (h : am_B L mt_L_law k_L_law_898 n 898 ls st M Q) : am_R L mt_L_law n 898 ls st M Q := am_go L mt_L_law (fun _ => hL) k_L_law_898 n 898 ls st M Q o_L_law_898 h
def k_L_law_934 : List am_I := [(.iload 5, 2, 0, 0, 0), (.ifCond .ne 15, 3, 0, 0, 0), (.aload_n 3, 1, 0, 0, 0), (.iconst 0, 1, 0, 0, 0), (.laload, 1, 0, 0, 0), (.iload 6, 2, 0, 0, 0), (.i2l, 1, 0, 0, 0), (.lcmp, 1, 0, 0, 0), (.ifCond .eq 5, 3, 0, 0, 0), (.iconst 0, 1, 0, 0, 0), (.ireturn, 1, 0, 0, 0)]
set_option maxRecDepth 20000 in
theorem o_L_law_934 : am_okB mt_L_law 934 k_L_law_934 = true := by decide +kernel
theorem g_L_law_934 {L : am_S} (hL : L.1 < 2 ^ 31) {n : Nat} {ls st : List Value} {M : am_M} {Q : am_Q} (h : am_B L mt_L_law k_L_law_934 n 934 ls st M Q) : am_R L mt_L_law n 934 ls st M Q := am_go L mt_L_law (fun _ => hL) k_L_law_934 n 934 ls st M Q o_L_law_934 h
def k_L_law_951 : List am_I := [(.goto 623, 3, 0, 0, 0)]
set_option maxRecDepth 20000 in
theorem o_L_law_951 : am_okB mt_L_law 951 k_L_law_951 = true := by decide +kernel
theorem g_L_law_951 {L : am_S} (hL : L.1 < 2 ^ 31) {n : Nat} {ls st : List Value} {M : am_M} {Q : am_Q} (h : am_B L mt_L_law k_L_law_951 n 951 ls st M Q) : am_R L mt_L_law n 951 ls st M Q := am_go L mt_L_law (fun _ => hL) k_L_law_951 n 951 ls st M Q o_L_law_951 h
def k_L_law_954 : List am_I := [(.aload_n 1, 1, 0, 0, 0), (.aload_n 0, 1, 0, 0, 0), (.iload 4, 2, 0, 0, 0), (.iconst 1, 1, 0, 0, 0), (.iadd, 1, 0, 0, 0), (.iaload, 1, 0, 0, 0), (.aload_n 3, 1, 0, 0, 0), (.invokestatic 141, 3, 158, 3, 652), (.istore 5, 2, 0, 0, 0), (.aload_n 2, 1, 0, 0, 0), (.aload_n 0, 1, 0, 0, 0), (.iload 4, 2, 0, 0, 0), (.iconst 1, 1, 0, 0, 0), (.iadd, 1, 0, 0, 0), (.iaload, 1, 0, 0, 0), (.invokevirtual 143, 3, 90, 2, 798), (.istore 6, 2, 0, 0, 0), (.aload_n 2, 1, 0, 0, 0), (.invokevirtual 93, 3, 74, 1, 779), (.iload 5, 2, 0, 0, 0), (.if_icmp .eq 5, 3, 0, 0, 0), (.iconst 0, 1, 0, 0, 0), (.ireturn, 1, 0, 0, 0)]
set_option maxRecDepth 20000 in
theorem o_L_law_954 : am_okB mt_L_law 954 k_L_law_954 = true := by decide +kernel
theorem g_L_law_954 {L : am_S} (hL : L.1 < 2 ^ 31) {n : Nat} {ls st : List Value} {M : am_M} {Q : am_Q} (h : am_B L mt_L_law k_L_law_954 n 954 ls st M Q) : am_R L mt_L_law n 954 ls st M Q := am_go L mt_L_law (fun _ => hL) k_L_law_954 n 954 ls st M Q o_L_law_954 h
def k_L_law_990 : List am_I := [(.iload 5, 2, 0, 0, 0), (.ifCond .ne 15, 3, 0, 0, 0), (.aload_n 3, 1, 0, 0, 0), (.iconst 0, 1, 0, 0, 0), (.laload, 1, 0, 0, 0), (.iload 6, 2, 0, 0, 0), (.i2l, 1, 0, 0, 0), (.lcmp, 1, 0, 0, 0), (.ifCond .eq 5, 3, 0, 0, 0), (.iconst 0, 1, 0, 0, 0), (.ireturn, 1, 0, 0, 0)]
set_option maxRecDepth 20000 in
theorem o_L_law_990 : am_okB mt_L_law 990 k_L_law_990 = true := by decide +kernel
theorem g_L_law_990 {L : am_S} (hL : L.1 < 2 ^ 31) {n : Nat} {ls st : List Value} {M : am_M} {Q : am_Q} (h : am_B L mt_L_law k_L_law_990 n 990 ls st M Q) : am_R L mt_L_law n 990 ls st M Q := am_go L mt_L_law (fun _ => hL) k_L_law_990 n 990 ls st M Q o_L_law_990 h
def k_L_law_1007 : List am_I := [(.goto 567, 3, 0, 0, 0)]
set_option maxRecDepth 20000 in
theorem o_L_law_1007 : am_okB mt_L_law 1007 k_L_law_1007 = true := by decide +kernel
theorem g_L_law_1007 {L : am_S} (hL : L.1 < 2 ^ 31) {n : Nat} {ls st : List Value} {M : am_M} {Q : am_Q} (h : am_B L mt_L_law k_L_law_1007 n 1007 ls st M Q) : am_R L mt_L_law n 1007 ls st M Q := am_go L mt_L_law (fun _ => hL) k_L_law_1007 n 1007 ls st M Q o_L_law_1007 h
def k_L_law_1010 : List am_I := [(.aload_n 1, 1, 0, 0, 0), (.aload_n 3, 1, 0, 0, 0), (.invokestatic 144, 3, 159, 2, 660), (.istore 5, 2, 0, 0, 0), (.aload_n 2, 1, 0, 0, 0), (.invokevirtual 146, 3, 88, 1, 783), (.istore 6, 2, 0, 0, 0), (.aload_n 2, 1, 0, 0, 0), (.invokevirtual 93, 3, 74, 1, 779), (.iload 5, 2, 0, 0, 0), (.if_icmp .eq 5, 3, 0, 0, 0), (.iconst 0, 1, 0, 0, 0), (.ireturn, 1, 0, 0, 0)]
set_option maxRecDepth 20000 in
theorem o_L_law_1010 : am_okB mt_L_law 1010 k_L_law_1010 = true := by decide +kernel
theorem g_L_law_1010 {L : am_S} (hL : L.1 < 2 ^ 31) {n : Nat} {ls st : List Value} {M : am_M} {Q : am_Q} (h : am_B L mt_L_law k_L_law_1010 n 1010 ls st M Q) : am_R L mt_L_law n 1010 ls st M Q := am_go L mt_L_law (fun _ => hL) k_L_law_1010 n 1010 ls st M Q o_L_law_1010 h
def k_L_law_1034 : List am_I := [(.iload 5, 2, 0, 0, 0), (.ifCond .ne 15, 3, 0, 0, 0), (.aload_n 3, 1, 0, 0, 0), (.iconst 0, 1, 0, 0, 0), (.laload, 1, 0, 0, 0), (.iload 6, 2, 0, 0, 0), (.i2l, 1, 0, 0, 0), (.lcmp, 1, 0, 0, 0), (.ifCond .eq 5, 3, 0, 0, 0), (.iconst 0, 1, 0, 0, 0), (.ireturn, 1, 0, 0, 0)]
set_option maxRecDepth 20000 in
theorem o_L_law_1034 : am_okB mt_L_law 1034 k_L_law_1034 = true := by decide +kernel
theorem g_L_law_1034 {L : am_S} (hL : L.1 < 2 ^ 31) {n : Nat} {ls st : List Value} {M : am_M} {Q : am_Q} (h : am_B L mt_L_law k_L_law_1034 n 1034 ls st M Q) : am_R L mt_L_law n 1034 ls st M Q := am_go L mt_L_law (fun _ => hL) k_L_law_1034 n 1034 ls st M Q o_L_law_1034 h
def k_L_law_1051 : List am_I := [(.goto 523, 3, 0, 0, 0)]
set_option maxRecDepth 20000 in
theorem o_L_law_1051 : am_okB mt_L_law 1051 k_L_law_1051 = true := by decide +kernel
theorem g_L_law_1051 {L : am_S} (hL : L.1 < 2 ^ 31) {n : Nat} {ls st : List Value} {M : am_M} {Q : am_Q} (h : am_B L mt_L_law k_L_law_1051 n 1051 ls st M Q) : am_R L mt_L_law n 1051 ls st M Q := am_go L mt_L_law (fun _ => hL) k_L_law_1051 n 1051 ls st M Q o_L_law_1051 h
def k_L_law_1054 : List am_I := [(.aload_n 1, 1, 0, 0, 0), (.aload_n 0, 1, 0, 0, 0), (.iload 4, 2, 0, 0, 0), (.iconst 1, 1, 0, 0, 0), (.iadd, 1, 0, 0, 0), (.iaload, 1, 0, 0, 0), (.aload_n 0, 1, 0, 0, 0), (.iload 4, 2, 0, 0, 0), (.iconst 2, 1, 0, 0, 0), (.iadd, 1, 0, 0, 0), (.iaload, 1, 0, 0, 0), (.aload_n 3, 1, 0, 0, 0), (.invokestatic 147, 3, 160, 4, 668), (.istore 5, 2, 0, 0, 0), (.aload_n 2, 1, 0, 0, 0), (.aload_n 0, 1, 0, 0, 0), (.iload 4, 2, 0, 0, 0), (.iconst 1, 1, 0, 0, 0), (.iadd, 1, 0, 0, 0), (.iaload, 1, 0, 0, 0), (.aload_n 0, 1, 0, 0, 0), (.iload 4, 2, 0, 0, 0), (.iconst 2, 1, 0, 0, 0), (.iadd, 1, 0, 0, 0), (.iaload, 1, 0, 0, 0), (.invokevirtual 149, 3, 124, 3, 959), (.istore 6, 2, 0, 0, 0), (.aload_n 2, 1, 0, 0, 0), (.invokevirtual 93, 3, 74, 1, 779), (.iload 5, 2, 0, 0, 0), (.if_icmp .eq 5, 3, 0, 0, 0), (.iconst 0, 1, 0, 0, 0), (.ireturn, 1, 0, 0, 0)]
set_option maxRecDepth 20000 in
theorem o_L_law_1054 : am_okB mt_L_law 1054 k_L_law_1054 = true := by decide +kernel
theorem g_L_law_1054 {L : am_S} (hL : L.1 < 2 ^ 31) {n : Nat} {ls st : List Value} {M : am_M} {Q : am_Q} (h : am_B L mt_L_law k_L_law_1054 n 1054 ls st M Q) : am_R L mt_L_law n 1054 ls st M Q := am_go L mt_L_law (fun _ => hL) k_L_law_1054 n 1054 ls st M Q o_L_law_1054 h
def k_L_law_1102 : List am_I := [(.iload 5, 2, 0, 0, 0), (.ifCond .ne 15, 3, 0, 0, 0), (.aload_n 3, 1, 0, 0, 0), (.iconst 0, 1, 0, 0, 0), (.laload, 1, 0, 0, 0), (.iload 6, 2, 0, 0, 0), (.i2l, 1, 0, 0, 0), (.lcmp, 1, 0, 0, 0), (.ifCond .eq 5, 3, 0, 0, 0), (.iconst 0, 1, 0, 0, 0), (.ireturn, 1, 0, 0, 0)]
set_option maxRecDepth 20000 in
theorem o_L_law_1102 : am_okB mt_L_law 1102 k_L_law_1102 = true := by decide +kernel
theorem g_L_law_1102 {L : am_S} (hL : L.1 < 2 ^ 31) {n : Nat} {ls st : List Value} {M : am_M} {Q : am_Q} (h : am_B L mt_L_law k_L_law_1102 n 1102 ls st M Q) : am_R L mt_L_law n 1102 ls st M Q := am_go L mt_L_law (fun _ => hL) k_L_law_1102 n 1102 ls st M Q o_L_law_1102 h
def k_L_law_1119 : List am_I := [(.goto 455, 3, 0, 0, 0)]
set_option maxRecDepth 20000 in
theorem o_L_law_1119 : am_okB mt_L_law 1119 k_L_law_1119 = true := by decide +kernel
theorem g_L_law_1119 {L : am_S} (hL : L.1 < 2 ^ 31) {n : Nat} {ls st : List Value} {M : am_M} {Q : am_Q} (h : am_B L mt_L_law k_L_law_1119 n 1119 ls st M Q) : am_R L mt_L_law n 1119 ls st M Q := am_go L mt_L_law (fun _ => hL) k_L_law_1119 n 1119 ls st M Q o_L_law_1119 h
def k_L_law_1122 : List am_I := [(.aload_n 1, 1, 0, 0, 0), (.aload_n 0, 1, 0, 0, 0), (.iload 4, 2, 0, 0, 0), (.iconst 1, 1, 0, 0, 0), (.iadd, 1, 0, 0, 0), (.iaload, 1, 0, 0, 0), (.aload_n 0, 1, 0, 0, 0), (.iload 4, 2, 0, 0, 0), (.iconst 2, 1, 0, 0, 0), (.iadd, 1, 0, 0, 0), (.iaload, 1, 0, 0, 0), (.aload_n 3, 1, 0, 0, 0), (.invokestatic 150, 3, 161, 4, 675), (.istore 5, 2, 0, 0, 0), (.aload_n 2, 1, 0, 0, 0), (.aload_n 0, 1, 0, 0, 0), (.iload 4, 2, 0, 0, 0), (.iconst 1, 1, 0, 0, 0), (.iadd, 1, 0, 0, 0), (.iaload, 1, 0, 0, 0), (.aload_n 0, 1, 0, 0, 0), (.iload 4, 2, 0, 0, 0), (.iconst 2, 1, 0, 0, 0), (.iadd, 1, 0, 0, 0), (.iaload, 1, 0, 0, 0), (.invokevirtual 152, 3, 126, 3, 967), (.istore 6, 2, 0, 0, 0), (.aload_n 2, 1, 0, 0, 0), (.invokevirtual 93, 3, 74, 1, 779), (.iload 5, 2, 0, 0, 0), (.if_icmp .eq 5, 3, 0, 0, 0), (.iconst 0, 1, 0, 0, 0), (.ireturn, 1, 0, 0, 0)]
set_option maxRecDepth 20000 in
theorem o_L_law_1122 : am_okB mt_L_law 1122 k_L_law_1122 = true := by decide +kernel
theorem g_L_law_1122 {L : am_S} (hL : L.1 < 2 ^ 31) {n : Nat} {ls st : List Value} {M : am_M} {Q : am_Q} (h : am_B L mt_L_law k_L_law_1122 n 1122 ls st M Q) : am_R L mt_L_law n 1122 ls st M Q := am_go L mt_L_law (fun _ => hL) k_L_law_1122 n 1122 ls st M Q o_L_law_1122 h
def k_L_law_1170 : List am_I := [(.iload 5, 2, 0, 0, 0), (.ifCond .ne 15, 3, 0, 0, 0), (.aload_n 3, 1, 0, 0, 0), (.iconst 0, 1, 0, 0, 0), (.laload, 1, 0, 0, 0), (.iload 6, 2, 0, 0, 0), (.i2l, 1, 0, 0, 0), (.lcmp, 1, 0, 0, 0), (.ifCond .eq 5, 3, 0, 0, 0), (.iconst 0, 1, 0, 0, 0), (.ireturn, 1, 0, 0, 0)]
set_option maxRecDepth 20000 in
theorem o_L_law_1170 : am_okB mt_L_law 1170 k_L_law_1170 = true := by decide +kernel
theorem g_L_law_1170 {L : am_S} (hL : L.1 < 2 ^ 31) {n : Nat} {ls st : List Value} {M : am_M} {Q : am_Q} (h : am_B L mt_L_law k_L_law_1170 n 1170 ls st M Q) : am_R L mt_L_law n 1170 ls st M Q := am_go L mt_L_law (fun _ => hL) k_L_law_1170 n 1170 ls st M Q o_L_law_1170 h
def k_L_law_1187 : List am_I := [(.goto 387, 3, 0, 0, 0)]
set_option maxRecDepth 20000 in
theorem o_L_law_1187 : am_okB mt_L_law 1187 k_L_law_1187 = true := by decide +kernel
theorem g_L_law_1187 {L : am_S} (hL : L.1 < 2 ^ 31) {n : Nat} {ls st : List Value} {M : am_M} {Q : am_Q} (h : am_B L mt_L_law k_L_law_1187 n 1187 ls st M Q) : am_R L mt_L_law n 1187 ls st M Q := am_go L mt_L_law (fun _ => hL) k_L_law_1187 n 1187 ls st M Q o_L_law_1187 h
def k_L_law_1190 : List am_I := [(.aload_n 1, 1, 0, 0, 0), (.aload_n 0, 1, 0, 0, 0), (.iload 4, 2, 0, 0, 0), (.iconst 1, 1, 0, 0, 0), (.iadd, 1, 0, 0, 0), (.iaload, 1, 0, 0, 0), (.aload_n 0, 1, 0, 0, 0), (.iload 4, 2, 0, 0, 0), (.iconst 2, 1, 0, 0, 0), (.iadd, 1, 0, 0, 0), (.iaload, 1, 0, 0, 0), (.aload_n 3, 1, 0, 0, 0), (.invokestatic 153, 3, 162, 4, 682), (.istore 5, 2, 0, 0, 0), (.aload_n 2, 1, 0, 0, 0), (.aload_n 0, 1, 0, 0, 0), (.iload 4, 2, 0, 0, 0), (.iconst 1, 1, 0, 0, 0), (.iadd, 1, 0, 0, 0), (.iaload, 1, 0, 0, 0), (.aload_n 0, 1, 0, 0, 0), (.iload 4, 2, 0, 0, 0), (.iconst 2, 1, 0, 0, 0), (.iadd, 1, 0, 0, 0), (.iaload, 1, 0, 0, 0), (.invokevirtual 155, 3, 130, 3, 975), (.istore 6, 2, 0, 0, 0), (.aload_n 2, 1, 0, 0, 0), (.invokevirtual 93, 3, 74, 1, 779), (.iload 5, 2, 0, 0, 0), (.if_icmp .eq 5, 3, 0, 0, 0), (.iconst 0, 1, 0, 0, 0), (.ireturn, 1, 0, 0, 0)]
set_option maxRecDepth 20000 in
theorem o_L_law_1190 : am_okB mt_L_law 1190 k_L_law_1190 = true := by decide +kernel
theorem g_L_law_1190 {L : am_S} (hL : L.1 < 2 ^ 31) {n : Nat} {ls st : List Value} {M : am_M} {Q : am_Q} (h : am_B L mt_L_law k_L_law_1190 n 1190 ls st M Q) : am_R L mt_L_law n 1190 ls st M Q := am_go L mt_L_law (fun _ => hL) k_L_law_1190 n 1190 ls st M Q o_L_law_1190 h
def k_L_law_1238 : List am_I := [(.iload 5, 2, 0, 0, 0), (.ifCond .ne 15, 3, 0, 0, 0), (.aload_n 3, 1, 0, 0, 0), (.iconst 0, 1, 0, 0, 0), (.laload, 1, 0, 0, 0), (.iload 6, 2, 0, 0, 0), (.i2l, 1, 0, 0, 0), (.lcmp, 1, 0, 0, 0), (.ifCond .eq 5, 3, 0, 0, 0), (.iconst 0, 1, 0, 0, 0), (.ireturn, 1, 0, 0, 0)]
set_option maxRecDepth 20000 in
theorem o_L_law_1238 : am_okB mt_L_law 1238 k_L_law_1238 = true := by decide +kernel
theorem g_L_law_1238 {L : am_S} (hL : L.1 < 2 ^ 31) {n : Nat} {ls st : List Value} {M : am_M} {Q : am_Q} (h : am_B L mt_L_law k_L_law_1238 n 1238 ls st M Q) : am_R L mt_L_law n 1238 ls st M Q := am_go L mt_L_law (fun _ => hL) k_L_law_1238 n 1238 ls st M Q o_L_law_1238 h
def k_L_law_1255 : List am_I := [(.goto 319, 3, 0, 0, 0)]
set_option maxRecDepth 20000 in
theorem o_L_law_1255 : am_okB mt_L_law 1255 k_L_law_1255 = true := by decide +kernel
theorem g_L_law_1255 {L : am_S} (hL : L.1 < 2 ^ 31) {n : Nat} {ls st : List Value} {M : am_M} {Q : am_Q} (h : am_B L mt_L_law k_L_law_1255 n 1255 ls st M Q) : am_R L mt_L_law n 1255 ls st M Q := am_go L mt_L_law (fun _ => hL) k_L_law_1255 n 1255 ls st M Q o_L_law_1255 h
def k_L_law_1258 : List am_I := [(.aload_n 1, 1, 0, 0, 0), (.aload_n 0, 1, 0, 0, 0), (.iload 4, 2, 0, 0, 0), (.iconst 1, 1, 0, 0, 0), (.iadd, 1, 0, 0, 0), (.iaload, 1, 0, 0, 0), (.aload_n 3, 1, 0, 0, 0), (.invokestatic 156, 3, 163, 3, 689), (.istore 5, 2, 0, 0, 0), (.aload_n 2, 1, 0, 0, 0), (.aload_n 0, 1, 0, 0, 0), (.iload 4, 2, 0, 0, 0), (.iconst 1, 1, 0, 0, 0), (.iadd, 1, 0, 0, 0), (.iaload, 1, 0, 0, 0), (.invokevirtual 158, 3, 133, 2, 991), (.istore 6, 2, 0, 0, 0), (.aload_n 2, 1, 0, 0, 0), (.invokevirtual 93, 3, 74, 1, 779), (.iload 5, 2, 0, 0, 0), (.if_icmp .eq 5, 3, 0, 0, 0), (.iconst 0, 1, 0, 0, 0), (.ireturn, 1, 0, 0, 0)]
set_option maxRecDepth 20000 in
theorem o_L_law_1258 : am_okB mt_L_law 1258 k_L_law_1258 = true := by decide +kernel
theorem g_L_law_1258 {L : am_S} (hL : L.1 < 2 ^ 31) {n : Nat} {ls st : List Value} {M : am_M} {Q : am_Q} (h : am_B L mt_L_law k_L_law_1258 n 1258 ls st M Q) : am_R L mt_L_law n 1258 ls st M Q := am_go L mt_L_law (fun _ => hL) k_L_law_1258 n 1258 ls st M Q o_L_law_1258 h
def k_L_law_1294 : List am_I := [(.iload 5, 2, 0, 0, 0), (.ifCond .ne 15, 3, 0, 0, 0), (.aload_n 3, 1, 0, 0, 0), (.iconst 0, 1, 0, 0, 0), (.laload, 1, 0, 0, 0), (.iload 6, 2, 0, 0, 0), (.i2l, 1, 0, 0, 0), (.lcmp, 1, 0, 0, 0), (.ifCond .eq 5, 3, 0, 0, 0), (.iconst 0, 1, 0, 0, 0), (.ireturn, 1, 0, 0, 0)]
set_option maxRecDepth 20000 in
theorem o_L_law_1294 : am_okB mt_L_law 1294 k_L_law_1294 = true := by decide +kernel
theorem g_L_law_1294 {L : am_S} (hL : L.1 < 2 ^ 31) {n : Nat} {ls st : List Value} {M : am_M} {Q : am_Q} (h : am_B L mt_L_law k_L_law_1294 n 1294 ls st M Q) : am_R L mt_L_law n 1294 ls st M Q := am_go L mt_L_law (fun _ => hL) k_L_law_1294 n 1294 ls st M Q o_L_law_1294 h
def k_L_law_1311 : List am_I := [(.goto 263, 3, 0, 0, 0)]
set_option maxRecDepth 20000 in
theorem o_L_law_1311 : am_okB mt_L_law 1311 k_L_law_1311 = true := by decide +kernel
theorem g_L_law_1311 {L : am_S} (hL : L.1 < 2 ^ 31) {n : Nat} {ls st : List Value} {M : am_M} {Q : am_Q} (h : am_B L mt_L_law k_L_law_1311 n 1311 ls st M Q) : am_R L mt_L_law n 1311 ls st M Q := am_go L mt_L_law (fun _ => hL) k_L_law_1311 n 1311 ls st M Q o_L_law_1311 h
def k_L_law_1314 : List am_I := [(.aload_n 1, 1, 0, 0, 0), (.aload_n 0, 1, 0, 0, 0), (.iload 4, 2, 0, 0, 0), (.iconst 1, 1, 0, 0, 0), (.iadd, 1, 0, 0, 0), (.iaload, 1, 0, 0, 0), (.aload_n 0, 1, 0, 0, 0), (.iload 4, 2, 0, 0, 0), (.iconst 2, 1, 0, 0, 0), (.iadd, 1, 0, 0, 0), (.iaload, 1, 0, 0, 0), (.aload_n 0, 1, 0, 0, 0), (.iload 4, 2, 0, 0, 0), (.iconst 3, 1, 0, 0, 0), (.iadd, 1, 0, 0, 0), (.iaload, 1, 0, 0, 0), (.aload_n 3, 1, 0, 0, 0), (.invokestatic 159, 3, 164, 5, 696), (.istore 5, 2, 0, 0, 0), (.aload_n 2, 1, 0, 0, 0), (.aload_n 0, 1, 0, 0, 0), (.iload 4, 2, 0, 0, 0), (.iconst 1, 1, 0, 0, 0), (.iadd, 1, 0, 0, 0), (.iaload, 1, 0, 0, 0), (.aload_n 0, 1, 0, 0, 0), (.iload 4, 2, 0, 0, 0), (.iconst 2, 1, 0, 0, 0), (.iadd, 1, 0, 0, 0), (.iaload, 1, 0, 0, 0), (.aload_n 0, 1, 0, 0, 0), (.iload 4, 2, 0, 0, 0), (.iconst 3, 1, 0, 0, 0), (.iadd, 1, 0, 0, 0), (.iaload, 1, 0, 0, 0), (.invokevirtual 161, 3, 135, 4, 1003), (.istore 6, 2, 0, 0, 0), (.aload_n 2, 1, 0, 0, 0), (.invokevirtual 93, 3, 74, 1, 779), (.iload 5, 2, 0, 0, 0), (.if_icmp .eq 5, 3, 0, 0, 0), (.iconst 0, 1, 0, 0, 0), (.ireturn, 1, 0, 0, 0)]
set_option maxRecDepth 20000 in
theorem o_L_law_1314 : am_okB mt_L_law 1314 k_L_law_1314 = true := by decide +kernel
theorem g_L_law_1314 {L : am_S} (hL : L.1 < 2 ^ 31) {n : Nat} {ls st : List Value} {M : am_M} {Q : am_Q} (h : am_B L mt_L_law k_L_law_1314 n 1314 ls st M Q) : am_R L mt_L_law n 1314 ls st M Q := am_go L mt_L_law (fun _ => hL) k_L_law_1314 n 1314 ls st M Q o_L_law_1314 h
def k_L_law_1374 : List am_I := [(.iload 5, 2, 0, 0, 0), (.ifCond .ne 15, 3, 0, 0, 0), (.aload_n 3, 1, 0, 0, 0), (.iconst 0, 1, 0, 0, 0), (.laload, 1, 0, 0, 0), (.iload 6, 2, 0, 0, 0), (.i2l, 1, 0, 0, 0), (.lcmp, 1, 0, 0, 0), (.ifCond .eq 5, 3, 0, 0, 0), (.iconst 0, 1, 0, 0, 0), (.ireturn, 1, 0, 0, 0)]
set_option maxRecDepth 20000 in
theorem o_L_law_1374 : am_okB mt_L_law 1374 k_L_law_1374 = true := by decide +kernel
theorem g_L_law_1374 {L : am_S} (hL : L.1 < 2 ^ 31) {n : Nat} {ls st : List Value} {M : am_M} {Q : am_Q} (h : am_B L mt_L_law k_L_law_1374 n 1374 ls st M Q) : am_R L mt_L_law n 1374 ls st M Q := am_go L mt_L_law (fun _ => hL) k_L_law_1374 n 1374 ls st M Q o_L_law_1374 h
def k_L_law_1391 : List am_I := [(.goto 183, 3, 0, 0, 0)]
set_option maxRecDepth 20000 in
theorem o_L_law_1391 : am_okB mt_L_law 1391 k_L_law_1391 = true := by decide +kernel
theorem g_L_law_1391 {L : am_S} (hL : L.1 < 2 ^ 31) {n : Nat} {ls st : List Value} {M : am_M} {Q : am_Q} (h : am_B L mt_L_law k_L_law_1391 n 1391 ls st M Q) : am_R L mt_L_law n 1391 ls st M Q := am_go L mt_L_law (fun _ => hL) k_L_law_1391 n 1391 ls st M Q o_L_law_1391 h
def k_L_law_1394 : List am_I := [(.aload_n 1, 1, 0, 0, 0), (.aload_n 0, 1, 0, 0, 0), (.iload 4, 2, 0, 0, 0), (.iconst 1, 1, 0, 0, 0), (.iadd, 1, 0, 0, 0), (.iaload, 1, 0, 0, 0), (.aload_n 3, 1, 0, 0, 0), (.invokestatic 162, 3, 165, 3, 703), (.istore 5, 2, 0, 0, 0), (.aload_n 2, 1, 0, 0, 0), (.aload_n 0, 1, 0, 0, 0), (.iload 4, 2, 0, 0, 0), (.iconst 1, 1, 0, 0, 0), (.iadd, 1, 0, 0, 0), (.iaload, 1, 0, 0, 0), (.invokevirtual 164, 3, 137, 2, 1019), (.istore 6, 2, 0, 0, 0), (.aload_n 2, 1, 0, 0, 0), (.invokevirtual 93, 3, 74, 1, 779), (.iload 5, 2, 0, 0, 0), (.if_icmp .eq 5, 3, 0, 0, 0), (.iconst 0, 1, 0, 0, 0), (.ireturn, 1, 0, 0, 0)]
set_option maxRecDepth 20000 in
theorem o_L_law_1394 : am_okB mt_L_law 1394 k_L_law_1394 = true := by decide +kernel
theorem g_L_law_1394 {L : am_S} (hL : L.1 < 2 ^ 31) {n : Nat} {ls st : List Value} {M : am_M} {Q : am_Q} (h : am_B L mt_L_law k_L_law_1394 n 1394 ls st M Q) : am_R L mt_L_law n 1394 ls st M Q := am_go L mt_L_law (fun _ => hL) k_L_law_1394 n 1394 ls st M Q o_L_law_1394 h
def k_L_law_1430 : List am_I := [(.iload 5, 2, 0, 0, 0), (.ifCond .ne 15, 3, 0, 0, 0), (.aload_n 3, 1, 0, 0, 0), (.iconst 0, 1, 0, 0, 0), (.laload, 1, 0, 0, 0), (.iload 6, 2, 0, 0, 0), (.i2l, 1, 0, 0, 0), (.lcmp, 1, 0, 0, 0), (.ifCond .eq 5, 3, 0, 0, 0), (.iconst 0, 1, 0, 0, 0), (.ireturn, 1, 0, 0, 0)]
set_option maxRecDepth 20000 in
theorem o_L_law_1430 : am_okB mt_L_law 1430 k_L_law_1430 = true := by decide +kernel
theorem g_L_law_1430 {L : am_S} (hL : L.1 < 2 ^ 31) {n : Nat} {ls st : List Value} {M : am_M} {Q : am_Q} (h : am_B L mt_L_law k_L_law_1430 n 1430 ls st M Q) : am_R L mt_L_law n 1430 ls st M Q := am_go L mt_L_law (fun _ => hL) k_L_law_1430 n 1430 ls st M Q o_L_law_1430 h
def k_L_law_1447 : List am_I := [(.goto 127, 3, 0, 0, 0)]
set_option maxRecDepth 20000 in
theorem o_L_law_1447 : am_okB mt_L_law 1447 k_L_law_1447 = true := by decide +kernel
theorem g_L_law_1447 {L : am_S} (hL : L.1 < 2 ^ 31) {n : Nat} {ls st : List Value} {M : am_M} {Q : am_Q} (h : am_B L mt_L_law k_L_law_1447 n 1447 ls st M Q) : am_R L mt_L_law n 1447 ls st M Q := am_go L mt_L_law (fun _ => hL) k_L_law_1447 n 1447 ls st M Q o_L_law_1447 h
def k_L_law_1450 : List am_I := [(.aload_n 1, 1, 0, 0, 0), (.aload_n 0, 1, 0, 0, 0), (.iload 4, 2, 0, 0, 0), (.iconst 1, 1, 0, 0, 0), (.iadd, 1, 0, 0, 0), (.iaload, 1, 0, 0, 0), (.aload_n 3, 1, 0, 0, 0), (.invokestatic 165, 3, 166, 3, 710), (.istore 5, 2, 0, 0, 0), (.aload_n 2, 1, 0, 0, 0), (.aload_n 0, 1, 0, 0, 0), (.iload 4, 2, 0, 0, 0), (.iconst 1, 1, 0, 0, 0), (.iadd, 1, 0, 0, 0), (.iaload, 1, 0, 0, 0), (.invokevirtual 167, 3, 140, 2, 1027), (.istore 6, 2, 0, 0, 0), (.aload_n 2, 1, 0, 0, 0), (.invokevirtual 93, 3, 74, 1, 779), (.iload 5, 2, 0, 0, 0), (.if_icmp .eq 5, 3, 0, 0, 0), (.iconst 0, 1, 0, 0, 0), (.ireturn, 1, 0, 0, 0)]
set_option maxRecDepth 20000 in
theorem o_L_law_1450 : am_okB mt_L_law 1450 k_L_law_1450 = true := by decide +kernel
theorem g_L_law_1450 {L : am_S} (hL : L.1 < 2 ^ 31) {n : Nat} {ls st : List Value} {M : am_M} {Q : am_Q} (h : am_B L mt_L_law k_L_law_1450 n 1450 ls st M Q) : am_R L mt_L_law n 1450 ls st M Q := am_go L mt_L_law (fun _ => hL) k_L_law_1450 n 1450 ls st M Q o_L_law_1450 h
def k_L_law_1486 : List am_I := [(.iload 5, 2, 0, 0, 0), (.ifCond .ne 15, 3, 0, 0, 0), (.aload_n 3, 1, 0, 0, 0), (.iconst 0, 1, 0, 0, 0), (.laload, 1, 0, 0, 0), (.iload 6, 2, 0, 0, 0), (.i2l, 1, 0, 0, 0), (.lcmp, 1, 0, 0, 0), (.ifCond .eq 5, 3, 0, 0, 0), (.iconst 0, 1, 0, 0, 0), (.ireturn, 1, 0, 0, 0)]
set_option maxRecDepth 20000 in
theorem o_L_law_1486 : am_okB mt_L_law 1486 k_L_law_1486 = true := by decide +kernel
theorem g_L_law_1486 {L : am_S} (hL : L.1 < 2 ^ 31) {n : Nat} {ls st : List Value} {M : am_M} {Q : am_Q} (h : am_B L mt_L_law k_L_law_1486 n 1486 ls st M Q) : am_R L mt_L_law n 1486 ls st M Q := am_go L mt_L_law (fun _ => hL) k_L_law_1486 n 1486 ls st M Q o_L_law_1486 h
def k_L_law_1503 : List am_I := [(.goto 71, 3, 0, 0, 0)]
set_option maxRecDepth 20000 in
theorem o_L_law_1503 : am_okB mt_L_law 1503 k_L_law_1503 = true := by decide +kernel
theorem g_L_law_1503 {L : am_S} (hL : L.1 < 2 ^ 31) {n : Nat} {ls st : List Value} {M : am_M} {Q : am_Q} (h : am_B L mt_L_law k_L_law_1503 n 1503 ls st M Q) : am_R L mt_L_law n 1503 ls st M Q := am_go L mt_L_law (fun _ => hL) k_L_law_1503 n 1503 ls st M Q o_L_law_1503 h
def k_L_law_1506 : List am_I := [(.aload_n 1, 1, 0, 0, 0), (.invokevirtual 168, 3, 59, 1, 270), (.aload_n 2, 1, 0, 0, 0), (.invokevirtual 171, 3, 142, 1, 1039), (.if_icmp .eq 60, 3, 0, 0, 0), (.iconst 0, 1, 0, 0, 0), (.ireturn, 1, 0, 0, 0)]
set_option maxRecDepth 20000 in
theorem o_L_law_1506 : am_okB mt_L_law 1506 k_L_law_1506 = true := by decide +kernel
theorem g_L_law_1506 {L : am_S} (hL : L.1 < 2 ^ 31) {n : Nat} {ls st : List Value} {M : am_M} {Q : am_Q} (h : am_B L mt_L_law k_L_law_1506 n 1506 ls st M Q) : am_R L mt_L_law n 1506 ls st M Q := am_go L mt_L_law (fun _ => hL) k_L_law_1506 n 1506 ls st M Q o_L_law_1506 h
def k_L_law_1519 : List am_I := [(.aload_n 1, 1, 0, 0, 0), (.invokevirtual 172, 3, 60, 1, 323), (.dstore 5, 2, 0, 0, 0), (.aload_n 2, 1, 0, 0, 0), (.invokevirtual 176, 3, 144, 1, 1047), (.dstore 7, 2, 0, 0, 0), (.dload 5, 2, 0, 0, 0), (.dload 7, 2, 0, 0, 0), (.dcmp .l, 1, 0, 0, 0), (.ifCond .eq 21, 3, 0, 0, 0), (.dload 5, 2, 0, 0, 0), (.dload 5, 2, 0, 0, 0), (.dcmp .l, 1, 0, 0, 0), (.ifCond .eq 11, 3, 0, 0, 0), (.dload 7, 2, 0, 0, 0), (.dload 7, 2, 0, 0, 0), (.dcmp .l, 1, 0, 0, 0), (.ifCond .ne 5, 3, 0, 0, 0)]
set_option maxRecDepth 20000 in
theorem o_L_law_1519 : am_okB mt_L_law 1519 k_L_law_1519 = true := by decide +kernel
theorem g_L_law_1519 {L : am_S} (hL : L.1 < 2 ^ 31) {n : Nat} {ls st : List Value} {M : am_M} {Q : am_Q} (h : am_B L mt_L_law k_L_law_1519 n 1519 ls st M Q) : am_R L mt_L_law n 1519 ls st M Q := am_go L mt_L_law (fun _ => hL) k_L_law_1519 n 1519 ls st M Q o_L_law_1519 h
def k_L_law_1555 : List am_I := [(.iconst 0, 1, 0, 0, 0), (.ireturn, 1, 0, 0, 0)]
set_option maxRecDepth 20000 in
theorem o_L_law_1555 : am_okB mt_L_law 1555 k_L_law_1555 = true := by decide +kernel
theorem g_L_law_1555 {L : am_S} (hL : L.1 < 2 ^ 31) {n : Nat} {ls st : List Value} {M : am_M} {Q : am_Q} (h : am_B L mt_L_law k_L_law_1555 n 1555 ls st M Q) : am_R L mt_L_law n 1555 ls st M Q := am_go L mt_L_law (fun _ => hL) k_L_law_1555 n 1555 ls st M Q o_L_law_1555 h
def k_L_law_1557 : List am_I := [(.goto 17, 3, 0, 0, 0)]
set_option maxRecDepth 20000 in
theorem o_L_law_1557 : am_okB mt_L_law 1557 k_L_law_1557 = true := by decide +kernel
theorem g_L_law_1557 {L : am_S} (hL : L.1 < 2 ^ 31) {n : Nat} {ls st : List Value} {M : am_M} {Q : am_Q} (h : am_B L mt_L_law k_L_law_1557 n 1557 ls st M Q) : am_R L mt_L_law n 1557 ls st M Q := am_go L mt_L_law (fun _ => hL) k_L_law_1557 n 1557 ls st M Q o_L_law_1557 h
def k_L_law_1560 : List am_I := [(.aload_n 1, 1, 0, 0, 0), (.invokevirtual 177, 3, 61, 1, 327), (.aload_n 2, 1, 0, 0, 0), (.invokevirtual 181, 3, 145, 1, 1055), (.lcmp, 1, 0, 0, 0), (.ifCond .eq 5, 3, 0, 0, 0), (.iconst 0, 1, 0, 0, 0), (.ireturn, 1, 0, 0, 0)]
set_option maxRecDepth 20000 in
theorem o_L_law_1560 : am_okB mt_L_law 1560 k_L_law_1560 = true := by decide +kernel
theorem g_L_law_1560 {L : am_S} (hL : L.1 < 2 ^ 31) {n : Nat} {ls st : List Value} {M : am_M} {Q : am_Q} (h : am_B L mt_L_law k_L_law_1560 n 1560 ls st M Q) : am_R L mt_L_law n 1560 ls st M Q := am_go L mt_L_law (fun _ => hL) k_L_law_1560 n 1560 ls st M Q o_L_law_1560 h
def k_L_law_1574 : List am_I := [(.iinc 4 6, 3, 0, 0, 0), (.goto (-1554), 3, 0, 0, 0)]
set_option maxRecDepth 20000 in
theorem o_L_law_1574 : am_okB mt_L_law 1574 k_L_law_1574 = true := by decide +kernel
theorem g_L_law_1574 {L : am_S} (hL : L.1 < 2 ^ 31) {n : Nat} {ls st : List Value} {M : am_M} {Q : am_Q} (h : am_B L mt_L_law k_L_law_1574 n 1574 ls st M Q) : am_R L mt_L_law n 1574 ls st M Q := am_go L mt_L_law (fun _ => hL) k_L_law_1574 n 1574 ls st M Q o_L_law_1574 h
def k_L_law_1580 : List am_I := [(.iconst 1, 1, 0, 0, 0), (.ireturn, 1, 0, 0, 0)]
set_option maxRecDepth 20000 in
theorem o_L_law_1580 : am_okB mt_L_law 1580 k_L_law_1580 = true := by decide +kernel
theorem g_L_law_1580 {L : am_S} (hL : L.1 < 2 ^ 31) {n : Nat} {ls st : List Value} {M : am_M} {Q : am_Q} (h : am_B L mt_L_law k_L_law_1580 n 1580 ls st M Q) : am_R L mt_L_law n 1580 ls st M Q := am_go L mt_L_law (fun _ => hL) k_L_law_1580 n 1580 ls st M Q o_L_law_1580 h
end
section
/-! numbers, memories and loops for the walks of methods -/
def am_S0 : am_S := (0, fun _ => 0)
theorem am_R_le {L : am_S} {t : am_MT} {n pc : Nat} {xs ys st : List Value} {M : am_M} {Q : am_Q} (h : am_le xs ys) (k : am_R L t n pc xs st M Q) : am_R L t n pc ys st M Q := by
  intro p l e R s m args below meth c a D g A cells slots QQ hE hC h1 h2 hEnd H locs la hW hL
  exact k p l e R s m args below meth c a D g A cells slots QQ hE hC h1 h2 hEnd H locs la hW (am_lv_le hL h)
theorem am_set_set (M : am_M) (o : Nat) (f g : Nat → Int32) : am_set (am_set M o f) o g = am_set M o g := by
  funext q
  unfold am_set
  split <;> rfl
theorem am_set_self (M : am_M) (o : Nat) : am_set M o (M o) = M := by
  funext q
  unfold am_set
  split
  · rename_i h; rw [h]
  · rfl
theorem am_set_comm (M : am_M) {o q : Nat} (h : o ≠ q) (f g : Nat → Int32) : am_set (am_set M o f) q g = am_set (am_set M q g) o f := by
  funext r
  unfold am_set
  by_cases h1 : r = q
  · by_cases h2 : r = o
    · exact absurd (h2.symm.trans h1) h
    · rw [if_pos h1, if_neg h2, if_pos h1]
  · rw [if_neg h1, if_neg h1]
theorem upd_eq (f : Nat → Int32) (k : Nat) (x : Int32) : upd f k x k = x := by simp [upd]
theorem upd_ne (f : Nat → Int32) {k j : Nat} (x : Int32) (h : j ≠ k) : upd f k x j = f j := by simp [upd, h]
theorem lu {P : Nat → Prop} (N : Nat) (he : P N) (hs : ∀ i, i < N → P (i + 1) → P i) : P 0 := by
  have key : ∀ k, k ≤ N → P (N - k) := by
    intro k
    induction k with
    | zero => intro _; exact he
    | succ k ih =>
      intro hk
      have h1 := ih (by omega)
      have e : N - k = N - (k + 1) + 1 := by omega
      rw [e] at h1
      exact hs _ (by omega) h1
  have := key N (Nat.le_refl _)
  rwa [Nat.sub_self] at this
theorem lu' {P : Nat → Prop} (a N : Nat) (ha : a ≤ N) (he : P N) (hs : ∀ i, a ≤ i → i < N → P (i + 1) → P i) : P a := by
  have key : ∀ k, k ≤ N - a → P (N - k) := by
    intro k
    induction k with
    | zero => intro _; exact he
    | succ k ih =>
      intro hk
      have h1 := ih (by omega)
      have e : N - k = N - (k + 1) + 1 := by omega
      rw [e] at h1
      exact hs _ (by omega) (by omega) h1
  have := key (N - a) (Nat.le_refl _)
  rwa [show N - (N - a) = a by omega] at this
-- places
theorem ix2 (a b : Nat) : nI a + nI b = nI (a + b) := nI_add a b
theorem ix3 (a b v : Nat) : nI a + nI b * nI v = nI (a + b * v) := by rw [pk_mul, nI_add]
theorem ix4 (a b v w : Nat) : nI a + nI b * nI v + nI w = nI (a + b * v + w) := by rw [pk_mul, nI_add, nI_add]
theorem ix4' (a b v w : Nat) : nI a + nI v * nI b + nI w = nI (a + v * b + w) := by rw [pk_mul, nI_add, nI_add]
theorem ix3' (a b v : Nat) : nI a + nI v * nI b = nI (a + v * b) := by rw [pk_mul, nI_add]
-- truth values
def ib (p : Prop) [Decidable p] : Int32 := if p then nI 1 else nI 0
theorem ib_t {p : Prop} [Decidable p] (h : p) : ib p = nI 1 := by simp [ib, h]
theorem ib_f {p : Prop} [Decidable p] (h : ¬ p) : ib p = nI 0 := by simp [ib, h]
theorem ib_01 (p : Prop) [Decidable p] : ib p = 0 ∨ ib p = 1 := by
  by_cases h : p
  · exact Or.inr (by rw [ib_t h]; rfl)
  · exact Or.inl (by rw [ib_f h]; rfl)
theorem nI1_ne : ¬ nI 1 = 0 := by decide +kernel
theorem ib_eq0 {p : Prop} [Decidable p] : ib p = 0 ↔ ¬ p := by
  by_cases h : p
  · rw [ib_t h]
    exact ⟨fun q => absurd q nI1_ne, fun q => absurd h q⟩
  · rw [ib_f h]
    exact ⟨fun _ => h, fun _ => nI_0⟩
theorem ib_cond {p q : Prop} [Decidable p] [Decidable q] (h : p ↔ q) : ib p = ib q := by
  by_cases hp : p
  · rw [ib_t hp, ib_t (h.mp hp)]
  · rw [ib_f hp, ib_f (fun z => hp (h.mpr z))]
theorem nI_lti {a b : Nat} (ha : a < 2 ^ 31) (hb : b < 2 ^ 31) : nI a < nI b ↔ a < b := nI_ltI ha hb
theorem i_nge {a b : Nat} (h : a < b) (hb : b < 2 ^ 31) : ¬ nI b ≤ nI a := nI_ge h hb
theorem i_le {a b : Nat} (h : a ≤ b) (hb : b < 2 ^ 31) : nI a ≤ nI b := nI_le h hb
theorem k_in {P : Value → Prop} {a b : Int32} (h : P (.int a)) (e : a = b) : P (.int b) := e ▸ h
def ileast (a b : Int32) : Int32 := if a < b then a else b
theorem rv2 {L : am_S} {M : am_M} {k : Nat} : am_rv L M k 2 = M 2 k := rfl
theorem rv4 {L : am_S} {M : am_M} {k : Nat} : am_rv L M k 4 = M 4 k := rfl
theorem rv7 {L : am_S} {M : am_M} {k : Nat} : am_rv L M k 7 = M 7 k := rfl
theorem rv8 {L : am_S} {M : am_M} {k : Nat} : am_rv L M k 8 = M 8 k := rfl
theorem rv10 {L : am_S} {M : am_M} {k : Nat} : am_rv L M k 10 = M 10 k := rfl
theorem rv11 {L : am_S} {M : am_M} {k : Nat} : am_rv L M k 11 = M 11 k := rfl
theorem rv12 {L : am_S} {M : am_M} {k : Nat} : am_rv L M k 12 = M 12 k := rfl
theorem rv13 {L : am_S} {M : am_M} {k : Nat} : am_rv L M k 13 = M 13 k := rfl
theorem rv14 {L : am_S} {M : am_M} {k : Nat} : am_rv L M k 14 = M 14 k := rfl
theorem rv15 {L : am_S} {M : am_M} {k : Nat} : am_rv L M k 15 = M 15 k := rfl
theorem rv16 {L : am_S} {M : am_M} {k : Nat} : am_rv L M k 16 = M 16 k := rfl
theorem rv18 {L : am_S} {M : am_M} {k : Nat} : am_rv L M k 18 = M 18 k := rfl
theorem rv19 {L : am_S} {M : am_M} {k : Nat} : am_rv L M k 19 = M 19 k := rfl
theorem rv20 {L : am_S} {M : am_M} {k : Nat} : am_rv L M k 20 = M 20 k := rfl
theorem rv21 {L : am_S} {M : am_M} {k : Nat} : am_rv L M k 21 = M 21 k := rfl
theorem rv22 {L : am_S} {M : am_M} {k : Nat} : am_rv L M k 22 = M 22 k := rfl
theorem rv23 {L : am_S} {M : am_M} {k : Nat} : am_rv L M k 23 = M 23 k := rfl
theorem rv24 {L : am_S} {M : am_M} {k : Nat} : am_rv L M k 24 = M 24 k := rfl
theorem rv25 {L : am_S} {M : am_M} {k : Nat} : am_rv L M k 25 = M 25 k := rfl
end
section
/-! what an hour does, over the reference's 105 numbers -/
abbrev dz : Type := Nat → Int32
def zadd (z : dz) (i : Nat) (x : Int32) : dz := upd z i (z i + x)
def zdst (to d : Nat) : Nat := if to = 5 then 14 + d else 19 + 8 * to + d
def zwst (to : Nat) : Nat := if to = 5 then 2 else 18 + 8 * to
def zgr (fr : Nat) (m had : Int32) (d : Nat) (z : dz) : Int32 := z (19 + 8 * fr + d) * m / had
def zdye (fr to : Nat) (m had : Int32) (d : Nat) (z : dz) : dz := zadd (zadd z (19 + 8 * fr + d) (-zgr fr m had d z)) (zdst to d) (zgr fr m had d z)
def zdyes (fr to : Nat) (m had : Int32) (z : dz) : Nat → dz
  | 0 => z
  | i + 1 => zdye fr to m had i (zdyes fr to m had z i)
def zmv (fr to : Nat) (m had : Int32) (z : dz) : dz := zadd (zadd (zdyes fr to m had z 3) (18 + 8 * fr) (-m)) (zwst to) m
def zmoved (fr to : Nat) (much : Int32) (z : dz) : Int32 := if to = 5 then ileast much (z (18 + 8 * fr)) else ileast (ileast much (z (18 + 8 * fr))) (z (17 + 8 * to) - z (18 + 8 * to))
def zmove (fr to : Nat) (much : Int32) (z : dz) : dz := if zmoved fr to much z = 0 then z else zmv fr to (zmoved fr to much z) (z (18 + 8 * fr)) z
def zlevel (one other : Nat) (z : dz) : dz :=
  if 0 < z (18 + 8 * one) - z (18 + 8 * other) then zmove one other ((z (18 + 8 * one) - z (18 + 8 * other)) / nI 2) z
  else zmove other one (-(z (18 + 8 * one) - z (18 + 8 * other)) / nI 2) z
def zholds (v : Nat) (z : dz) : Int32 := z (18 + 8 * v) * z 1 / nI 100
def zset1 (v d : Nat) (z : dz) : dz :=
  if 0 < z (19 + 8 * v + d) - zholds v z then zadd (zadd z (19 + 8 * v + d) (-(z (19 + 8 * v + d) - zholds v z))) (22 + 8 * v + d) (z (19 + 8 * v + d) - zholds v z) else z
def zsettle (v : Nat) (z : dz) : Nat → dz
  | 0 => z
  | d + 1 => zset1 v d (zsettle v z d)
def zhod (z : dz) : Int32 := z 0 - z 0 / nI 24 * nI 24
def zopen (k : Nat) (z : dz) : Prop := z (57 + 6 * k + 3) ≤ zhod z ∧ zhod z ≤ z (57 + 6 * k + 4)
def zpipe (one other : Nat) (z : dz) : Prop := z (6 + one) >>> (nI other &&& 31) &&& nI 1 = nI 1
/-- a number of a small range as one -/
def zn (x : Int32) : Nat := x.toNatClampNeg
noncomputable def zvalve (k : Nat) (z : dz) : dz := by
  classical exact if zopen k z then upd (zmove (zn (z (57 + 6 * k))) (zn (z (57 + 6 * k + 1))) (z (57 + 6 * k + 2)) z) (57 + 6 * k + 5) (z (57 + 6 * k + 5) + zmoved (zn (z (57 + 6 * k))) (zn (z (57 + 6 * k + 1))) (z (57 + 6 * k + 2)) z) else z
noncomputable def zvalves (z : dz) : Nat → dz
  | 0 => z
  | k + 1 => zvalve k (zvalves z k)
noncomputable def zlev1 (one other : Nat) (z : dz) : dz := by
  classical exact if zpipe one other z then zlevel one other z else z
/-- the pipes from one to those behind it, the first k of them -/
noncomputable def zlevs (one : Nat) (z : dz) : Nat → dz
  | 0 => z
  | k + 1 => zlev1 one (one + 1 + k) (zlevs one z k)
noncomputable def zpipes (z : dz) : Nat → dz
  | 0 => z
  | one + 1 => zlevs one (zpipes z one) (4 - one)
def zsettles (z : dz) : Nat → dz
  | 0 => z
  | v + 1 => zsettle v (zsettles z v) 3
noncomputable def zhour (z : dz) : dz := zadd (zsettles (zpipes (zvalves z (zn (z 5))) 5) 5) 0 (nI 1)
noncomputable def zhours (z : dz) : Nat → dz
  | 0 => z
  | k + 1 => zhour (zhours z k)
end
section
/-! contracts of the reference's methods: an hour -/
theorem c_Z_in {v lo hi : Int32} {M : am_M} {K : am_Q} (h : K (.inl (some (.int (ib (lo ≤ v ∧ v ≤ hi))))) M) : am_C mt_Z_in [.int v, .int lo, .int hi] M K := by
  refine am_C_of_R am_S0 om_Z_in rfl [.int v, .int lo, .int hi] rfl rfl (g_Z_in_0 ⟨fun c => g_Z_in_14 (g_Z_in_15 ⟨Or.inl rfl, ?_⟩), fun c => ⟨fun c2 => g_Z_in_14 (g_Z_in_15 ⟨Or.inl rfl, ?_⟩), fun c2 => g_Z_in_15 ⟨Or.inr rfl, ?_⟩⟩⟩)
  · rw [ib_f (fun q => Int32.not_le.mpr c q.1)] at h; exact h
  · rw [ib_f (fun q => Int32.not_le.mpr c2 q.2)] at h; exact h
  · rw [ib_t ⟨Int32.not_lt.mp c, Int32.not_lt.mp c2⟩] at h; exact h
theorem c_Z_least {a b : Int32} {M : am_M} {K : am_Q} (h : K (.inl (some (.int (ileast a b)))) M) : am_C mt_Z_least [.int a, .int b] M K := by
  refine am_C_of_R am_S0 om_Z_least rfl [.int a, .int b] rfl rfl (g_Z_least_0 ⟨fun c => g_Z_least_9 (g_Z_least_10 ?_), fun c => g_Z_least_10 ?_⟩)
  · have c' : ¬ a < b := Int32.not_lt.mpr c
    simp only [ileast, c', if_false] at h
    exact h
  · have c' : a < b := Int32.not_le.mp c
    simp only [ileast, c', if_true] at h
    exact h
theorem c_Z_of {v w : Nat} {M : am_M} {K : am_Q} (hi : 17 + 8 * v + w < 105) (h : K (.inl (some (.int (M 18 (17 + 8 * v + w))))) M) : am_C mt_Z_of [.ref 17, .int (nI v), .int (nI w)] M K :=
  am_C_of_R am_S0 om_Z_of rfl [.ref 17, .int (nI v), .int (nI w)] rfl rfl (g_Z_of_0 ⟨17 + 8 * v + w, ix4 17 8 v w, hi, h⟩)
theorem c_Z_add {v w : Nat} {x : Int32} {M : am_M} {K : am_Q} (hi : 17 + 8 * v + w < 105) (h : K (.inl none) (am_set M 18 (zadd (M 18) (17 + 8 * v + w) x))) : am_C mt_Z_add [.ref 17, .int (nI v), .int (nI w), .int x] M K :=
  am_C_of_R am_S0 om_Z_add rfl [.ref 17, .int (nI v), .int (nI w), .int x] rfl rfl (g_Z_add_0 ⟨17 + 8 * v + w, ix4 17 8 v w, hi, 17 + 8 * v + w, ix4 17 8 v w, hi, h⟩)
theorem c_Z_setVat {v w : Nat} {x : Int32} {M : am_M} {K : am_Q} (hi : 17 + 8 * v + w < 105) (h : K (.inl none) (am_set M 18 (upd (M 18) (17 + 8 * v + w) x))) : am_C mt_Z_setVat [.ref 17, .int (nI v), .int (nI w), .int x] M K :=
  am_C_of_R am_S0 om_Z_setVat rfl [.ref 17, .int (nI v), .int (nI w), .int x] rfl rfl (g_Z_setVat_0 ⟨17 + 8 * v + w, ix4 17 8 v w, hi, h⟩)
theorem c_Z_valveNow {v w : Nat} {M : am_M} {K : am_Q} (hi : 57 + 6 * v + w < 105) (h : K (.inl (some (.int (M 18 (57 + 6 * v + w))))) M) : am_C mt_Z_valveNow [.ref 17, .int (nI v), .int (nI w)] M K :=
  am_C_of_R am_S0 om_Z_valveNow rfl [.ref 17, .int (nI v), .int (nI w)] rfl rfl (g_Z_valveNow_0 ⟨57 + 6 * v + w, ix4 57 6 v w, hi, h⟩)
theorem c_Z_hourOfDay {M : am_M} {K : am_Q} (h : K (.inl (some (.int (zhod (M 18))))) M) : am_C mt_Z_hourOfDay [.ref 17] M K :=
  am_C_of_R am_S0 om_Z_hourOfDay rfl [.ref 17] rfl rfl (g_Z_hourOfDay_0 ⟨0, rfl, by decide, by decide, h⟩)
theorem c_Z_holds {v : Nat} {M : am_M} {K : am_Q} (hv : v < 5) (h : K (.inl (some (.int (zholds v (M 18))))) M) : am_C mt_Z_holds [.ref 17, .int (nI v)] M K := by
  refine am_C_of_R am_S0 om_Z_holds rfl [.ref 17, .int (nI v)] rfl rfl (g_Z_holds_0 (c_Z_of (v := v) (w := 1) (by omega) ⟨1, rfl, by decide, by decide, ?_⟩))
  rw [show zholds v (M 18) = M 18 (17 + 8 * v + 1) * M 18 1 / nI 100 from by unfold zholds; rw [show 18 + 8 * v = 17 + 8 * v + 1 by omega]] at h
  exact h
theorem c_Z_isVat {v : Int32} {M : am_M} {K : am_Q} (h : K (.inl (some (.int (ib (nI 0 ≤ v ∧ v ≤ nI 4))))) M) : am_C mt_Z_isVat [.int v] M K :=
  am_C_of_R am_S0 om_Z_isVat rfl [.int v] rfl rfl (g_Z_isVat_0 (c_Z_in ⟨ib_01 _, h⟩))
theorem c_Z_isDye {v : Int32} {M : am_M} {K : am_Q} (h : K (.inl (some (.int (ib (nI 0 ≤ v ∧ v ≤ nI 2))))) M) : am_C mt_Z_isDye [.int v] M K :=
  am_C_of_R am_S0 om_Z_isDye rfl [.int v] rfl rfl (g_Z_isDye_0 (c_Z_in ⟨ib_01 _, h⟩))
theorem c_Z_isValve {v : Int32} {M : am_M} {K : am_Q} (h : K (.inl (some (.int (ib (nI 0 ≤ v ∧ v ≤ M 18 5 - nI 1))))) M) : am_C mt_Z_isValve [.ref 17, .int v] M K :=
  am_C_of_R am_S0 om_Z_isValve rfl [.ref 17, .int v] rfl rfl (g_Z_isValve_0 ⟨5, rfl, by decide, c_Z_in ⟨ib_01 _, h⟩⟩)
theorem c_Z_isOpen {k : Nat} {M : am_M} {K : am_Q} (hk : k < 8) (h : K (.inl (some (.int (ib (M 18 (57 + 6 * k + 3) ≤ zhod (M 18) ∧ zhod (M 18) ≤ M 18 (57 + 6 * k + 4)))))) M) : am_C mt_Z_isOpen [.ref 17, .int (nI k)] M K :=
  am_C_of_R am_S0 om_Z_isOpen rfl [.ref 17, .int (nI k)] rfl rfl (g_Z_isOpen_0 (c_Z_hourOfDay (c_Z_valveNow (v := k) (w := 3) (by omega) (c_Z_valveNow (v := k) (w := 4) (by omega) (c_Z_in ⟨ib_01 _, h⟩)))))
theorem c_Z_isPipe {one other : Nat} {M : am_M} {K : am_Q} (h1 : one < 5) (h : K (.inl (some (.int (ib (M 18 (6 + one) >>> (nI other &&& 31) &&& nI 1 = nI 1))))) M) : am_C mt_Z_isPipe [.ref 17, .int (nI one), .int (nI other)] M K := by
  refine am_C_of_R am_S0 om_Z_isPipe rfl [.ref 17, .int (nI one), .int (nI other)] rfl rfl (g_Z_isPipe_0 ⟨6 + one, ix2 6 one, by show _ < 105; omega, fun c => g_Z_isPipe_21 (g_Z_isPipe_22 ⟨Or.inl rfl, ?_⟩), fun c => g_Z_isPipe_22 ⟨Or.inr rfl, ?_⟩⟩)
  · have c' : ¬ (M 18 (6 + one) >>> (nI other &&& 31) &&& nI 1 = nI 1) := c
    rw [ib_f c'] at h; exact h
  · have c' : M 18 (6 + one) >>> (nI other &&& 31) &&& nI 1 = nI 1 := Classical.not_not.mp c
    rw [ib_t c'] at h; exact h
theorem c_Z_move {fr to : Nat} {much : Int32} {M : am_M} {K : am_Q} (hf : fr < 5) (ht : to ≤ 5) (hx : zmoved fr to much (M 18) ≠ 0 → M 18 (18 + 8 * fr) ≠ 0)
    (h : K (.inl (some (.int (zmoved fr to much (M 18))))) (am_set M 18 (zmove fr to much (M 18)))) : am_C mt_Z_move [.ref 17, .int (nI fr), .int (nI to), .int much] M K := by
  have e1 : 17 + 8 * fr + 1 = 18 + 8 * fr := by omega
  -- behind the two halves: what is moved is known
  have tail : am_R am_S0 mt_Z_move 1 44 [.ref 17, .int (nI fr), .int (nI to), .int much, .int (M 18 (18 + 8 * fr)), .null, .null, .null] [.int (zmoved fr to much (M 18))] M K := by
    unfold zmove at h
    generalize hm : zmoved fr to much (M 18) = mv at h hx ⊢
    refine g_Z_move_44 ⟨fun c => ?_, fun c => ?_⟩
    · have c' : ¬ mv = 0 := c
      have hne := hx c'
      rw [if_neg c'] at h
      generalize hh : M 18 (18 + 8 * fr) = had at h hne ⊢
      refine g_Z_move_53 ?_
      refine am_R_le (xs := [.ref 17, .int (nI fr), .int (nI to), .int much, .int had, .int mv, .int (nI 0), .null]) (by repeat' (first | exact trivial | exact Or.inr rfl | exact Or.inl rfl | exact Or.inr (congrArg Value.int (nI_succ _)) | refine ⟨?_, ?_⟩)) ?_
      have h0 : M = am_set M 18 (zdyes fr to mv had (M 18) 0) := (am_set_self M 18).symm
      rw [h0]
      refine lu (P := fun i => am_R am_S0 mt_Z_move 1 56 [.ref 17, .int (nI fr), .int (nI to), .int much, .int had, .int mv, .int (nI i), .null] [] (am_set M 18 (zdyes fr to mv had (M 18) i)) K) 3 ?_ ?_
      · refine g_Z_move_56 ⟨fun c => ?_, fun c => absurd (i_le (Nat.le_refl 3) (by decide)) c⟩
        refine g_Z_move_131 (c_Z_add (v := fr) (w := 1) (by omega) ⟨fun c => ?_, fun c => ?_⟩)
        · have c5 : ¬ to = 5 := fun q => c (by rw [q]; rfl)
          refine g_Z_move_159 (c_Z_add (v := to) (w := 1) (by omega) (g_Z_move_167 ?_))
          simp only [am_set_set, am_set_eq, e1, show 17 + 8 * to + 1 = 18 + 8 * to by omega]
          have e : zmv fr to mv had (M 18) = zadd (zadd (zdyes fr to mv had (M 18) 3) (18 + 8 * fr) (-mv)) (18 + 8 * to) mv := by unfold zmv zwst; rw [if_neg c5]
          rw [← e]
          exact h
        · have c5 : to = 5 := by
            have := (nI_eq (a := to) (b := 5) (by omega) (by decide)).mp (Classical.not_not.mp c)
            exact this
          refine ⟨2, rfl, by decide, 2, rfl, by decide, g_Z_move_167 ?_⟩
          simp only [am_set_set, am_set_eq, rv18, e1]
          have e : zmv fr to mv had (M 18) = upd (zadd (zdyes fr to mv had (M 18) 3) (18 + 8 * fr) (-mv)) 2 (zadd (zdyes fr to mv had (M 18) 3) (18 + 8 * fr) (-mv) 2 + mv) := by unfold zmv zwst; rw [if_pos c5]; rfl
          rw [e] at h
          exact h
      · intro i hi ih
        refine g_Z_move_56 ⟨fun c => absurd c (i_nge hi (by decide)), fun c => ?_⟩
        have hidx : nI 2 + nI i = nI (2 + i) := ix2 2 i
        have e2 : 17 + 8 * fr + (2 + i) = 19 + 8 * fr + i := by omega
        show am_C mt_Z_of [.ref 17, .int (nI fr), .int (nI 2 + nI i)] _ _
        rw [hidx]
        refine c_Z_of (v := fr) (w := 2 + i) (by omega) ⟨hne, ?_⟩
        show am_C mt_Z_add [.ref 17, .int (nI fr), .int (nI 2 + nI i), _] _ _
        rw [hidx]
        refine c_Z_add (v := fr) (w := 2 + i) (by omega) ⟨fun c => ?_, fun c => ?_⟩
        · have c5 : ¬ to = 5 := fun q => c (by rw [q]; rfl)
          refine g_Z_move_114 ?_
          show am_C mt_Z_add [.ref 17, .int (nI to), .int (nI 2 + nI i), _] _ _
          rw [hidx]
          refine c_Z_add (v := to) (w := 2 + i) (by omega) (g_Z_move_125 ?_)
          simp only [am_set_set, am_set_eq, e2, show 17 + 8 * to + (2 + i) = 19 + 8 * to + i by omega]
          have e : zdyes fr to mv had (M 18) (i + 1) = zadd (zadd (zdyes fr to mv had (M 18) i) (19 + 8 * fr + i) (-(zdyes fr to mv had (M 18) i (19 + 8 * fr + i) * mv / had))) (19 + 8 * to + i) (zdyes fr to mv had (M 18) i (19 + 8 * fr + i) * mv / had) := by
            show zdye fr to mv had i _ = _
            unfold zdye zdst zgr
            rw [if_neg c5]
          rw [← e]
          exact am_R_le (by repeat' (first | exact trivial | exact Or.inr rfl | exact Or.inl rfl | exact Or.inr (congrArg Value.int (nI_succ _)) | refine ⟨?_, ?_⟩)) ih
        · have c5 : to = 5 := by
            have := (nI_eq (a := to) (b := 5) (by omega) (by decide)).mp (Classical.not_not.mp c)
            exact this
          refine ⟨14 + i, ix2 14 i, by show _ < 105; omega, 14 + i, ix2 14 i, by show _ < 105; omega, g_Z_move_125 ?_⟩
          simp only [am_set_set, am_set_eq, rv18, e2]
          have e : zdyes fr to mv had (M 18) (i + 1) = upd (zadd (zdyes fr to mv had (M 18) i) (19 + 8 * fr + i) (-(zdyes fr to mv had (M 18) i (19 + 8 * fr + i) * mv / had))) (14 + i) (zadd (zdyes fr to mv had (M 18) i) (19 + 8 * fr + i) (-(zdyes fr to mv had (M 18) i (19 + 8 * fr + i) * mv / had)) (14 + i) + zdyes fr to mv had (M 18) i (19 + 8 * fr + i) * mv / had) := by
            show zdye fr to mv had i _ = _
            unfold zdye zdst zgr
            rw [if_pos c5]
            rfl
          rw [e] at ih
          exact am_R_le (by repeat' (first | exact trivial | exact Or.inr rfl | exact Or.inl rfl | exact Or.inr (congrArg Value.int (nI_succ _)) | refine ⟨?_, ?_⟩)) ih
    · have c' : mv = 0 := Classical.not_not.mp c
      rw [if_pos c', am_set_self, c'] at h
      exact h
  refine am_C_of_R am_S0 om_Z_move rfl [.ref 17, .int (nI fr), .int (nI to), .int much, .null, .null, .null, .null] rfl rfl (g_Z_move_0 (c_Z_of (v := fr) (w := 1) (by omega) (c_Z_least ⟨fun c => ?_, fun c => ?_⟩)))
  · have c5 : ¬ to = 5 := fun q => c (by rw [q]; rfl)
    refine g_Z_move_26 (c_Z_of (v := to) (w := 0) (by omega) (c_Z_of (v := to) (w := 1) (by omega) (c_Z_least ?_)))
    rw [e1]
    have e : zmoved fr to much (M 18) = ileast (ileast much (M 18 (18 + 8 * fr))) (M 18 (17 + 8 * to + 0) - M 18 (17 + 8 * to + 1)) := by
      unfold zmoved
      rw [if_neg c5, show 17 + 8 * to + 1 = 18 + 8 * to by omega]
      rfl
    rw [← e]
    exact am_R_le (by repeat' (first | exact trivial | exact Or.inr rfl | exact Or.inl rfl | exact Or.inr (congrArg Value.int (nI_succ _)) | refine ⟨?_, ?_⟩)) tail
  · have c5 : to = 5 := by
      have := (nI_eq (a := to) (b := 5) (by omega) (by decide)).mp (Classical.not_not.mp c)
      exact this
    have e : zmoved fr to much (M 18) = ileast much (M 18 (18 + 8 * fr)) := by unfold zmoved; rw [if_pos c5]
    rw [e1, ← e]
    exact am_R_le (by repeat' (first | exact trivial | exact Or.inr rfl | exact Or.inl rfl | exact Or.inr (congrArg Value.int (nI_succ _)) | refine ⟨?_, ?_⟩)) tail
end
section
/-! what stays and what holds of the 105 numbers -/
theorem zadd_eq (z : dz) (i : Nat) (x : Int32) : zadd z i x i = z i + x := by simp [zadd, upd]
theorem zadd_ne (z : dz) {i j : Nat} (x : Int32) (h : j ≠ i) : zadd z i x j = z j := by simp [zadd, upd, h]
/-- places that hours leave as they are -/
def zfix (i : Nat) : Prop := i = 1 ∨ (3 ≤ i ∧ i < 14) ∨ (57 ≤ i ∧ ¬ (i - 57) % 6 = 5) ∨ (17 ≤ i ∧ i < 57 ∧ (i - 17) % 8 = 0)
theorem zdst_ne {to d i : Nat} (ht : to ≤ 5) (hd : d < 3) (hi : zfix i) : i ≠ zdst to d := by
  unfold zfix at hi
  unfold zdst
  split <;> omega
theorem zwst_ne {to i : Nat} (ht : to ≤ 5) (hi : zfix i) : i ≠ zwst to := by
  unfold zfix at hi
  unfold zwst
  split <;> omega
theorem zdye_fix {fr to d : Nat} {m had : Int32} {z : dz} {i : Nat} (hf : fr < 5) (ht : to ≤ 5) (hd : d < 3) (hi : zfix i) : zdye fr to m had d z i = z i := by
  unfold zdye
  rw [zadd_ne _ _ (zdst_ne ht hd hi), zadd_ne _ _ (by unfold zfix at hi; omega)]
theorem zdyes_fix {fr to : Nat} {m had : Int32} {z : dz} {i : Nat} (hf : fr < 5) (ht : to ≤ 5) (hi : zfix i) : ∀ d, d ≤ 3 → zdyes fr to m had z d i = z i
  | 0, _ => rfl
  | d + 1, hd => by
    show zdye fr to m had d _ i = z i
    rw [zdye_fix hf ht (by omega) hi, zdyes_fix hf ht hi d (by omega)]
theorem zmove_fix {fr to : Nat} {much : Int32} {z : dz} {i : Nat} (hf : fr < 5) (ht : to ≤ 5) (hi : zfix i) : zmove fr to much z i = z i := by
  unfold zmove
  split
  · rfl
  · unfold zmv
    rw [zadd_ne _ _ (zwst_ne ht hi), zadd_ne _ _ (by unfold zfix at hi; omega), zdyes_fix hf ht hi 3 (Nat.le_refl _)]
theorem zlevel_fix {one other : Nat} {z : dz} {i : Nat} (h1 : one < 5) (h2 : other < 5) (hi : zfix i) : zlevel one other z i = z i := by
  unfold zlevel
  split
  · exact zmove_fix h1 (by omega) hi
  · exact zmove_fix h2 (by omega) hi
theorem zlev1_fix {one other : Nat} {z : dz} {i : Nat} (h1 : one < 5) (h2 : other < 5) (hi : zfix i) : zlev1 one other z i = z i := by
  unfold zlev1
  split
  · exact zlevel_fix h1 h2 hi
  · rfl
theorem zlevs_fix {one : Nat} {z : dz} {i : Nat} (h1 : one < 5) (hi : zfix i) : ∀ k, one + k < 5 → zlevs one z k i = z i
  | 0, _ => rfl
  | k + 1, hk => by
    show zlev1 one (one + 1 + k) _ i = z i
    rw [zlev1_fix h1 (by omega) hi, zlevs_fix h1 hi k (by omega)]
theorem zpipes_fix {z : dz} {i : Nat} (hi : zfix i) : ∀ k, k ≤ 5 → zpipes z k i = z i
  | 0, _ => rfl
  | k + 1, hk => by
    show zlevs k _ (4 - k) i = z i
    rw [zlevs_fix (by omega) hi _ (by omega), zpipes_fix hi k (by omega)]
theorem zset1_fix {v d : Nat} {z : dz} {i : Nat} (hv : v < 5) (hd : d < 3) (hi : zfix i) : zset1 v d z i = z i := by
  unfold zset1
  split
  · rw [zadd_ne _ _ (by unfold zfix at hi; omega), zadd_ne _ _ (by unfold zfix at hi; omega)]
  · rfl
theorem zsettle_fix {v : Nat} {z : dz} {i : Nat} (hv : v < 5) (hi : zfix i) : ∀ d, d ≤ 3 → zsettle v z d i = z i
  | 0, _ => rfl
  | d + 1, hd => by
    show zset1 v d _ i = z i
    rw [zset1_fix hv (by omega) hi, zsettle_fix hv hi d (by omega)]
theorem zsettles_fix {z : dz} {i : Nat} (hi : zfix i) : ∀ v, v ≤ 5 → zsettles z v i = z i
  | 0, _ => rfl
  | v + 1, hv => by
    show zsettle v _ 3 i = z i
    rw [zsettle_fix (by omega) hi 3 (Nat.le_refl _), zsettles_fix hi v (by omega)]
-- numbers of a small range
theorem zn_nI {k : Nat} (h : k < 2 ^ 31) : zn (nI k) = k := nI_clamp h
/-- a valve's numbers are in their ranges -/
def zvok (k : Nat) (z : dz) : Prop := ∃ f t r a b : Nat, z (57 + 6 * k) = nI f ∧ z (57 + 6 * k + 1) = nI t ∧ z (57 + 6 * k + 2) = nI r ∧ z (57 + 6 * k + 3) = nI a ∧ z (57 + 6 * k + 4) = nI b ∧ f < 5 ∧ t ≤ 5 ∧ f ≠ t ∧ 1 ≤ r ∧ r ≤ 500 ∧ a ≤ b ∧ b ≤ 23
def zvats (z : dz) : Prop := ∀ v, v < 5 → 0 ≤ (z (18 + 8 * v)).toInt ∧ (z (18 + 8 * v)).toInt ≤ (z (17 + 8 * v)).toInt ∧ (z (17 + 8 * v)).toInt ≤ 2000
def zgrs (z : dz) : Prop := ∀ v d, v < 5 → d < 3 → 0 ≤ (z (19 + 8 * v + d)).toInt ∧ 0 ≤ (z (22 + 8 * v + d)).toInt
/-- the grains of a dye in all vats and out -/
def zall (z : dz) (d : Nat) : Int := (z (19 + d)).toInt + (z (22 + d)).toInt + ((z (27 + d)).toInt + (z (30 + d)).toInt) + ((z (35 + d)).toInt + (z (38 + d)).toInt) + ((z (43 + d)).toInt + (z (46 + d)).toInt) + ((z (51 + d)).toInt + (z (54 + d)).toInt) + (z (14 + d)).toInt
def zacc (z : dz) : Prop := ∀ d, d < 3 → 0 ≤ (z (14 + d)).toInt ∧ zall z d = (z (11 + d)).toInt ∧ (z (11 + d)).toInt ≤ 99999
def zwat (z : dz) : Int := (z 18).toInt + (z 26).toInt + (z 34).toInt + (z 42).toInt + (z 50).toInt + (z 2).toInt
def zok (z : dz) : Prop := zvats z ∧ zgrs z ∧ zacc z ∧ (0 ≤ (z 1).toInt ∧ (z 1).toInt ≤ 200) ∧ (0 ≤ (z 2).toInt ∧ zwat z = (z 3).toInt) ∧ ∃ m : Nat, m ≤ 8 ∧ z 5 = nI m ∧ ∀ k, k < m → zvok k z
theorem zvok_fix {k : Nat} {z z' : dz} (hk : k < 8) (h : ∀ i, zfix i → z' i = z i) (hv : zvok k z) : zvok k z' := by
  unfold zvok at hv ⊢
  rw [h _ (by unfold zfix; omega), h _ (by unfold zfix; omega), h _ (by unfold zfix; omega), h _ (by unfold zfix; omega), h _ (by unfold zfix; omega)]
  exact hv
theorem zok_moved0 {fr to : Nat} {much : Int32} {z : dz} (h : zok z) (hf : fr < 5) (ht : to ≤ 5) (hm : 0 ≤ much.toInt) : zmoved fr to much z ≠ 0 → z (18 + 8 * fr) ≠ 0 := by
  sorry
theorem zok_move {fr to : Nat} {much : Int32} {z : dz} (h : zok z) (hf : fr < 5) (ht : to ≤ 5) (hne : fr ≠ to) (hm : 0 ≤ much.toInt) : zok (zmove fr to much z) := by
  sorry
theorem zok_half {one other : Nat} {z : dz} (h : zok z) (h1 : one < 5) (h2 : other < 5) : (0 < z (18 + 8 * one) - z (18 + 8 * other) → 0 ≤ ((z (18 + 8 * one) - z (18 + 8 * other)) / nI 2).toInt) ∧ (¬ 0 < z (18 + 8 * one) - z (18 + 8 * other) → 0 ≤ (-(z (18 + 8 * one) - z (18 + 8 * other)) / nI 2).toInt) := by
  sorry
theorem zok_set1 {v d : Nat} {z : dz} (h : zok z) (hv : v < 5) (hd : d < 3) : zok (zset1 v d z) := by
  sorry
theorem zok_mvd {k : Nat} {x : Int32} {z : dz} (h : zok z) (hk : k < 8) : zok (upd z (57 + 6 * k + 5) x) := by
  sorry
theorem zok_hr {x : Int32} {z : dz} (h : zok z) : zok (zadd z 0 x) := by
  sorry
theorem zok_level {one other : Nat} {z : dz} (h : zok z) (h1 : one < 5) (h2 : other < 5) (hne : one ≠ other) : zok (zlevel one other z) := by
  obtain ⟨e1, e2⟩ := zok_half h h1 h2
  unfold zlevel
  split
  · rename_i c
    exact zok_move h h1 (by omega) hne (e1 c)
  · rename_i c
    exact zok_move h h2 (by omega) (Ne.symm hne) (e2 c)
theorem zok_lev1 {one other : Nat} {z : dz} (h : zok z) (h1 : one < 5) (h2 : other < 5) (hne : one ≠ other) : zok (zlev1 one other z) := by
  unfold zlev1
  split
  · exact zok_level h h1 h2 hne
  · exact h
theorem zok_levs {one : Nat} {z : dz} (h : zok z) (h1 : one < 5) : ∀ k, one + k < 5 → zok (zlevs one z k)
  | 0, _ => h
  | k + 1, hk => zok_lev1 (zok_levs h h1 k (by omega)) h1 (by omega) (by omega)
theorem zok_pipes {z : dz} (h : zok z) : ∀ k, k ≤ 5 → zok (zpipes z k)
  | 0, _ => h
  | k + 1, hk => zok_levs (zok_pipes h k (by omega)) (by omega) _ (by omega)
theorem zok_settle {v : Nat} {z : dz} (h : zok z) (hv : v < 5) : ∀ d, d ≤ 3 → zok (zsettle v z d)
  | 0, _ => h
  | d + 1, hd => zok_set1 (zok_settle h hv d (by omega)) hv (by omega)
theorem zok_settles {z : dz} (h : zok z) : ∀ v, v ≤ 5 → zok (zsettles z v)
  | 0, _ => h
  | v + 1, hv => zok_settle (zok_settles h v (by omega)) (by omega) 3 (Nat.le_refl _)
/-- a valve's numbers, as they are used -/
theorem zvok_use {k : Nat} {z : dz} (h : zvok k z) : z (57 + 6 * k) = nI (zn (z (57 + 6 * k))) ∧ z (57 + 6 * k + 1) = nI (zn (z (57 + 6 * k + 1))) ∧ zn (z (57 + 6 * k)) < 5 ∧ zn (z (57 + 6 * k + 1)) ≤ 5 ∧ zn (z (57 + 6 * k)) ≠ zn (z (57 + 6 * k + 1)) ∧ 0 ≤ (z (57 + 6 * k + 2)).toInt := by
  obtain ⟨f, t, r, a, b, e1, e2, e3, e4, e5, h1, h2, h3, h4, h5, h6⟩ := h
  rw [e1, e2, e3, zn_nI (by omega), zn_nI (by omega), nI_toInt (by omega)]
  exact ⟨rfl, rfl, h1, h2, h3, by omega⟩
theorem zok_valve {k m : Nat} {z : dz} (h : zok z) (hm : z 5 = nI m) (hm8 : m ≤ 8) (hk : k < m) : zok (zvalve k z) := by
  unfold zvalve
  split
  · obtain ⟨m', hm', e, hv⟩ := h.2.2.2.2.2
    have : m' = m := (nI_eq (by omega) (by omega)).mp (e.symm.trans hm)
    subst this
    obtain ⟨e1, e2, e3, e4, e5, e6⟩ := zvok_use (hv k hk)
    exact zok_mvd (zok_move h e3 e4 e5 e6) (by omega)
  · exact h
theorem zvalve_fix {k m : Nat} {z : dz} {i : Nat} (h : zok z) (hm : z 5 = nI m) (hm8 : m ≤ 8) (hk : k < m) (hi : zfix i) : zvalve k z i = z i := by
  unfold zvalve
  split
  · obtain ⟨m', hm', e, hv⟩ := h.2.2.2.2.2
    have : m' = m := (nI_eq (by omega) (by omega)).mp (e.symm.trans hm)
    subst this
    obtain ⟨e1, e2, e3, e4, e5, e6⟩ := zvok_use (hv k hk)
    rw [upd_ne _ _ (by unfold zfix at hi; omega), zmove_fix e3 e4 hi]
  · rfl
theorem zok_valves {m : Nat} {z : dz} (h : zok z) (hm : z 5 = nI m) (hm8 : m ≤ 8) : ∀ k, k ≤ m → zok (zvalves z k) ∧ ∀ i, zfix i → zvalves z k i = z i
  | 0, _ => ⟨h, fun _ _ => rfl⟩
  | k + 1, hk => by
    obtain ⟨h1, h2⟩ := zok_valves h hm hm8 k (by omega)
    have h5 : zvalves z k 5 = nI m := by rw [h2 5 (by unfold zfix; omega), hm]
    refine ⟨zok_valve h1 h5 hm8 (by omega), fun i hi => ?_⟩
    show zvalve k (zvalves z k) i = z i
    rw [zvalve_fix h1 h5 hm8 (by omega) hi, h2 i hi]
theorem zok_hour {z : dz} (h : zok z) : zok (zhour z) ∧ ∀ i, zfix i → zhour z i = z i := by
  obtain ⟨m, hm8, hm, hv⟩ := h.2.2.2.2.2
  have e : zn (z 5) = m := by rw [hm]; exact zn_nI (by omega)
  obtain ⟨h1, h2⟩ := zok_valves h hm hm8 m (Nat.le_refl _)
  unfold zhour
  rw [e]
  refine ⟨zok_hr (zok_settles (zok_pipes h1 5 (Nat.le_refl _)) 5 (Nat.le_refl _)), fun i hi => ?_⟩
  rw [zadd_ne _ _ (by unfold zfix at hi; omega), zsettles_fix hi 5 (Nat.le_refl _), zpipes_fix hi 5 (Nat.le_refl _), h2 i hi]
theorem zok_hours {z : dz} (h : zok z) : ∀ k, zok (zhours z k) ∧ ∀ i, zfix i → zhours z k i = z i
  | 0 => ⟨h, fun _ _ => rfl⟩
  | k + 1 => by
    obtain ⟨h1, h2⟩ := zok_hours h k
    obtain ⟨h3, h4⟩ := zok_hour h1
    exact ⟨h3, fun i hi => (h4 i hi).trans (h2 i hi)⟩
end
section
/-! contracts of the reference's methods: level, settle, hour, hours -/
theorem nI2_ne : ¬ nI 2 = 0 := by decide +kernel
theorem c_Z_level {one other : Nat} {M : am_M} {K : am_Q} (hz : zok (M 18)) (h1 : one < 5) (h2 : other < 5) (h : K (.inl none) (am_set M 18 (zlevel one other (M 18)))) : am_C mt_Z_level [.ref 17, .int (nI one), .int (nI other)] M K := by
  obtain ⟨q1, q2⟩ := zok_half hz h1 h2
  have e1 : 17 + 8 * one + 1 = 18 + 8 * one := by omega
  have e2 : 17 + 8 * other + 1 = 18 + 8 * other := by omega
  have e10 : M 18 (17 + 8 * one + 1) = M 18 (18 + 8 * one) := by rw [e1]
  have e20 : M 18 (17 + 8 * other + 1) = M 18 (18 + 8 * other) := by rw [e2]
  refine am_C_of_R am_S0 om_Z_level rfl [.ref 17, .int (nI one), .int (nI other), .null] rfl rfl (g_Z_level_0 (c_Z_of (v := one) (w := 1) (by omega) (c_Z_of (v := other) (w := 1) (by omega) ⟨fun c => ?_, fun c => ⟨nI2_ne, ?_⟩⟩)))
  · have c' : ¬ 0 < M 18 (18 + 8 * one) - M 18 (18 + 8 * other) := by
      rw [← e10, ← e20]
      exact Int32.not_lt.mpr c
    refine g_Z_level_31 ⟨nI2_ne, ?_⟩
    refine c_Z_move (fr := other) (to := one) h2 (by omega) (zok_moved0 hz h2 (by omega) ?_) (g_Z_level_42 ?_)
    · rw [e10, e20]
      exact q2 c'
    · rw [e10, e20]
      have e : zlevel one other (M 18) = zmove other one (-(M 18 (18 + 8 * one) - M 18 (18 + 8 * other)) / nI 2) (M 18) := by unfold zlevel; rw [if_neg c']
      rw [e] at h
      exact h
  · have c' : 0 < M 18 (18 + 8 * one) - M 18 (18 + 8 * other) := by
      rw [← e10, ← e20]
      exact Int32.not_le.mp c
    refine c_Z_move (fr := one) (to := other) h1 (by omega) (zok_moved0 hz h1 (by omega) ?_) (g_Z_level_42 ?_)
    · rw [e10, e20]
      exact q1 c'
    · rw [e10, e20]
      have e : zlevel one other (M 18) = zmove one other ((M 18 (18 + 8 * one) - M 18 (18 + 8 * other)) / nI 2) (M 18) := by unfold zlevel; rw [if_pos c']
      rw [e] at h
      exact h
theorem c_Z_settle {v : Nat} {M : am_M} {K : am_Q} (hv : v < 5) (h : K (.inl none) (am_set M 18 (zsettle v (M 18) 3))) : am_C mt_Z_settle [.ref 17, .int (nI v)] M K := by
  refine am_C_of_R am_S0 om_Z_settle rfl [.ref 17, .int (nI v), .null, .null] rfl rfl (g_Z_settle_0 ?_)
  refine am_R_le (xs := [.ref 17, .int (nI v), .int (nI 0), .null]) (by repeat' (first | exact trivial | exact Or.inr rfl | exact Or.inl rfl | exact Or.inr (congrArg Value.int (nI_succ _)) | refine ⟨?_, ?_⟩)) ?_
  have h0 : M = am_set M 18 (zsettle v (M 18) 0) := (am_set_self M 18).symm
  rw [h0]
  refine lu (P := fun i => am_R am_S0 mt_Z_settle 1 2 [.ref 17, .int (nI v), .int (nI i), .null] [] (am_set M 18 (zsettle v (M 18) i)) K) 3 ?_ ?_
  · refine g_Z_settle_2 ⟨fun c => ?_, fun c => absurd (i_le (Nat.le_refl 3) (by decide)) c⟩
    exact g_Z_settle_51 h
  · intro i hi ih
    refine g_Z_settle_2 ⟨fun c => absurd c (i_nge hi (by decide)), fun c => ?_⟩
    have hidx : nI 2 + nI i = nI (2 + i) := ix2 2 i
    have hidx5 : nI 5 + nI i = nI (5 + i) := ix2 5 i
    have e2 : 17 + 8 * v + (2 + i) = 19 + 8 * v + i := by omega
    have e5 : 17 + 8 * v + (5 + i) = 22 + 8 * v + i := by omega
    show am_C mt_Z_of [.ref 17, .int (nI v), .int (nI 2 + nI i)] _ _
    rw [hidx]
    refine c_Z_of (v := v) (w := 2 + i) (by omega) (c_Z_holds hv ⟨fun c => ?_, fun c => ?_⟩)
    · have c' : ¬ 0 < zsettle v (M 18) i (19 + 8 * v + i) - zholds v (zsettle v (M 18) i) := by
        rw [← e2]
        exact Int32.not_lt.mpr c
      have e : zsettle v (M 18) (i + 1) = zsettle v (M 18) i := by
        show zset1 v i _ = _
        unfold zset1
        rw [if_neg c']
      rw [e] at ih
      exact g_Z_settle_45 (am_R_le (by repeat' (first | exact trivial | exact Or.inr rfl | exact Or.inl rfl | exact Or.inr (congrArg Value.int (nI_succ _)) | refine ⟨?_, ?_⟩)) ih)
    · have c' : 0 < zsettle v (M 18) i (19 + 8 * v + i) - zholds v (zsettle v (M 18) i) := by
        rw [← e2]
        exact Int32.not_le.mp c
      show am_C mt_Z_add [.ref 17, .int (nI v), .int (nI 2 + nI i), _] _ _
      rw [hidx]
      refine c_Z_add (v := v) (w := 2 + i) (by omega) ?_
      show am_C mt_Z_add [.ref 17, .int (nI v), .int (nI 5 + nI i), _] _ _
      rw [hidx5]
      refine c_Z_add (v := v) (w := 5 + i) (by omega) (g_Z_settle_45 ?_)
      simp only [am_set_set, am_set_eq, e2, e5]
      have e : zsettle v (M 18) (i + 1) = zadd (zadd (zsettle v (M 18) i) (19 + 8 * v + i) (-(zsettle v (M 18) i (19 + 8 * v + i) - zholds v (zsettle v (M 18) i)))) (22 + 8 * v + i) (zsettle v (M 18) i (19 + 8 * v + i) - zholds v (zsettle v (M 18) i)) := by
        show zset1 v i _ = _
        unfold zset1
        rw [if_pos c']
      rw [e] at ih
      exact am_R_le (by repeat' (first | exact trivial | exact Or.inr rfl | exact Or.inl rfl | exact Or.inr (congrArg Value.int (nI_succ _)) | refine ⟨?_, ?_⟩)) ih
theorem c_Z_hour {M : am_M} {K : am_Q} (hz : zok (M 18)) (h : K (.inl none) (am_set M 18 (zhour (M 18)))) : am_C mt_Z_hour [.ref 17] M K := by
  obtain ⟨m, hm8, hm, hvs⟩ := hz.2.2.2.2.2
  have em : zn (M 18 5) = m := by rw [hm]; exact zn_nI (by omega)
  unfold zhour at h
  rw [em] at h
  obtain ⟨hv1, hv2⟩ := zok_valves hz hm hm8 m (Nat.le_refl _)
  -- settle, and the hour
  have tail3 : am_R am_S0 mt_Z_hour 1 108 [.ref 17, .null, .null] [] (am_set M 18 (zpipes (zvalves (M 18) m) 5)) K := by
    generalize zpipes (zvalves (M 18) m) 5 = zp at h ⊢
    refine g_Z_hour_108 ?_
    refine am_R_le (xs := [.ref 17, .int (nI 0), .null]) (by repeat' (first | exact trivial | exact Or.inr rfl | exact Or.inl rfl | exact Or.inr (congrArg Value.int (nI_succ _)) | refine ⟨?_, ?_⟩)) ?_
    refine lu (P := fun i => am_R am_S0 mt_Z_hour 1 110 [.ref 17, .int (nI i), .null] [] (am_set M 18 (zsettles zp i)) K) 5 ?_ ?_
    · refine g_Z_hour_110 ⟨fun c => ?_, fun c => absurd (i_le (Nat.le_refl 5) (by decide)) c⟩
      refine g_Z_hour_126 ⟨0, rfl, by decide, 0, rfl, by decide, ?_⟩
      simp only [am_set_set, am_set_eq]
      generalize zsettles zp 5 = zs at h ⊢
      have e : zadd zs 0 (nI 1) = upd zs 0 (zs 0 + nI 1) := rfl
      rw [e] at h
      exact h
    · intro i hi ih
      refine g_Z_hour_110 ⟨fun c => absurd c (i_nge hi (by decide)), fun c => ?_⟩
      refine c_Z_settle (v := i) hi ?_
      simp only [am_set_set, am_set_eq]
      exact am_R_le (by repeat' (first | exact trivial | exact Or.inr rfl | exact Or.inl rfl | exact Or.inr (congrArg Value.int (nI_succ _)) | refine ⟨?_, ?_⟩)) ih
  have tail2 : am_R am_S0 mt_Z_hour 1 65 [.ref 17, .null, .null] [] (am_set M 18 (zvalves (M 18) m)) K := by
    generalize hzv : zvalves (M 18) m = zv at h hv1 hv2 tail3 ⊢
    refine g_Z_hour_65 ?_
    refine am_R_le (xs := [.ref 17, .int (nI 0), .null]) (by repeat' (first | exact trivial | exact Or.inr rfl | exact Or.inl rfl | exact Or.inr (congrArg Value.int (nI_succ _)) | refine ⟨?_, ?_⟩)) ?_
    refine lu (P := fun i => am_R am_S0 mt_Z_hour 1 67 [.ref 17, .int (nI i), .null] [] (am_set M 18 (zpipes zv i)) K) 5 ?_ ?_
    · refine g_Z_hour_67 ⟨fun c => ?_, fun c => absurd (i_le (Nat.le_refl 5) (by decide)) c⟩
      exact am_R_le (by repeat' (first | exact trivial | exact Or.inr rfl | exact Or.inl rfl | exact Or.inr (congrArg Value.int (nI_succ _)) | refine ⟨?_, ?_⟩)) tail3
    · intro one ho ih
      have hzp := zok_pipes hv1 one (by omega)
      generalize hzz : zpipes zv one = zz at hzp
      have eih : zpipes zv (one + 1) = zlevs one zz (4 - one) := by rw [← hzz]; rfl
      rw [eih] at ih
      refine g_Z_hour_67 ⟨fun c => absurd c (i_nge ho (by decide)), fun c => ?_⟩
      refine am_R_le (xs := [.ref 17, .int (nI one), .int (nI (one + 1 + 0))]) (by repeat' (first | exact trivial | exact Or.inr rfl | exact Or.inl rfl | exact Or.inr (congrArg Value.int (nI_succ _)) | refine ⟨?_, ?_⟩)) ?_
      refine lu (P := fun k => am_R am_S0 mt_Z_hour 1 76 [.ref 17, .int (nI one), .int (nI (one + 1 + k))] [] (am_set M 18 (zlevs one zz k)) K) (4 - one) ?_ ?_
      · refine g_Z_hour_76 ⟨fun c => ?_, fun c => absurd (i_le (show 5 ≤ one + 1 + (4 - one) by omega) (by omega)) c⟩
        exact g_Z_hour_102 (am_R_le (by repeat' (first | exact trivial | exact Or.inr rfl | exact Or.inl rfl | exact Or.inr (congrArg Value.int (nI_succ _)) | refine ⟨?_, ?_⟩)) ih)
      · intro k hk ihk
        have hzk := zok_levs hzp ho k (by omega)
        generalize hzy : zlevs one zz k = zy at hzk
        have ek : zlevs one zz (k + 1) = zlev1 one (one + 1 + k) zy := by rw [← hzy]; rfl
        rw [ek] at ihk
        refine g_Z_hour_76 ⟨fun c => absurd c (i_nge (show one + 1 + k < 5 by omega) (by decide)), fun c => ?_⟩
        refine c_Z_isPipe (one := one) (other := one + 1 + k) ho ⟨fun c => ?_, fun c => ?_⟩
        · have c1 : ¬ (zy (6 + one) >>> (nI (one + 1 + k) &&& 31) &&& nI 1 = nI 1) := ib_eq0.mp c
          have c' : ¬ zpipe one (one + 1 + k) zy := c1
          unfold zlev1 at ihk
          rw [if_neg c'] at ihk
          exact g_Z_hour_96 (am_R_le (by repeat' (first | exact trivial | exact Or.inr rfl | exact Or.inl rfl | exact Or.inr (congrArg Value.int (nI_succ _)) | refine ⟨?_, ?_⟩)) ihk)
        · have c1 : zy (6 + one) >>> (nI (one + 1 + k) &&& 31) &&& nI 1 = nI 1 := Classical.not_not.mp (fun z => c (ib_eq0.mpr z))
          have c' : zpipe one (one + 1 + k) zy := c1
          unfold zlev1 at ihk
          rw [if_pos c'] at ihk
          refine c_Z_level (one := one) (other := one + 1 + k) hzk ho (by omega) (g_Z_hour_96 ?_)
          simp only [am_set_set, am_set_eq]
          exact am_R_le (by repeat' (first | exact trivial | exact Or.inr rfl | exact Or.inl rfl | exact Or.inr (congrArg Value.int (nI_succ _)) | refine ⟨?_, ?_⟩)) ihk
  refine am_C_of_R am_S0 om_Z_hour rfl [.ref 17, .null, .null] rfl rfl (g_Z_hour_0 ?_)
  refine am_R_le (xs := [.ref 17, .int (nI 0), .null]) (by repeat' (first | exact trivial | exact Or.inr rfl | exact Or.inl rfl | exact Or.inr (congrArg Value.int (nI_succ _)) | refine ⟨?_, ?_⟩)) ?_
  have h0 : M = am_set M 18 (zvalves (M 18) 0) := (am_set_self M 18).symm
  rw [h0]
  refine lu (P := fun i => am_R am_S0 mt_Z_hour 1 2 [.ref 17, .int (nI i), .null] [] (am_set M 18 (zvalves (M 18) i)) K) m ?_ ?_
  · have e5 : zvalves (M 18) m 5 = nI m := by rw [hv2 5 (by unfold zfix; omega), hm]
    refine g_Z_hour_2 ⟨5, rfl, by decide, fun c => ?_, fun c => absurd ?_ c⟩
    · exact am_R_le (by repeat' (first | exact trivial | exact Or.inr rfl | exact Or.inl rfl | exact Or.inr (congrArg Value.int (nI_succ _)) | refine ⟨?_, ?_⟩)) tail2
    · show zvalves (M 18) m 5 ≤ nI m
      rw [e5]
      exact i_le (Nat.le_refl m) (by omega)
  · intro k hk ih
    obtain ⟨hk1, hk2⟩ := zok_valves hz hm hm8 k (by omega)
    have e5 : zvalves (M 18) k 5 = nI m := by rw [hk2 5 (by unfold zfix; omega), hm]
    obtain ⟨m', hm', e5', hvk⟩ := hk1.2.2.2.2.2
    have hmm : m' = m := (nI_eq (by omega) (by omega)).mp (e5'.symm.trans e5)
    obtain ⟨w1, w2, w3, w4, w5, w6⟩ := zvok_use (hvk k (by omega))
    have ek : zvalves (M 18) (k + 1) = zvalve k (zvalves (M 18) k) := rfl
    rw [ek] at ih
    generalize zvalves (M 18) k = zz at ih hk1 hk2 e5 w1 w2 w3 w4 w5 w6 ⊢
    refine g_Z_hour_2 ⟨5, rfl, by decide, fun c => absurd c ?_, fun c => ?_⟩
    · show ¬ zz 5 ≤ nI k
      rw [e5]
      exact i_nge hk (by omega)
    refine c_Z_isOpen (k := k) (by omega) ⟨fun c => ?_, fun c => ?_⟩
    · have c1 : ¬ (zz (57 + 6 * k + 3) ≤ zhod zz ∧ zhod zz ≤ zz (57 + 6 * k + 4)) := ib_eq0.mp c
      have c' : ¬ zopen k zz := c1
      unfold zvalve at ih
      rw [if_neg c'] at ih
      exact g_Z_hour_59 (am_R_le (by repeat' (first | exact trivial | exact Or.inr rfl | exact Or.inl rfl | exact Or.inr (congrArg Value.int (nI_succ _)) | refine ⟨?_, ?_⟩)) ih)
    · have c1 : zz (57 + 6 * k + 3) ≤ zhod zz ∧ zhod zz ≤ zz (57 + 6 * k + 4) := Classical.not_not.mp (fun z => c (ib_eq0.mpr z))
      have c' : zopen k zz := c1
      unfold zvalve at ih
      rw [if_pos c'] at ih
      refine ⟨57 + 6 * k + 5, ix4 57 6 k 5, by show _ < 105; omega, ?_⟩
      refine c_Z_valveNow (v := k) (w := 0) (by omega) (c_Z_valveNow (v := k) (w := 1) (by omega) (c_Z_valveNow (v := k) (w := 2) (by omega) ?_))
      show am_C mt_Z_move [.ref 17, .int (zz (57 + 6 * k)), .int (zz (57 + 6 * k + 1)), .int (zz (57 + 6 * k + 2))] (am_set M 18 zz) _
      rw [w1, w2]
      refine c_Z_move (fr := zn (zz (57 + 6 * k))) (to := zn (zz (57 + 6 * k + 1))) w3 w4 (zok_moved0 hk1 w3 w4 w6) ⟨57 + 6 * k + 5, ix4 57 6 k 5, by show _ < 105; omega, g_Z_hour_59 ?_⟩
      simp only [am_set_set, am_set_eq]
      exact am_R_le (by repeat' (first | exact trivial | exact Or.inr rfl | exact Or.inl rfl | exact Or.inr (congrArg Value.int (nI_succ _)) | refine ⟨?_, ?_⟩)) ih
theorem c_Z_hours {n : Nat} {M : am_M} {K : am_Q} (hz : zok (M 18)) (hn : n < 2 ^ 31) (h : K (.inl none) (am_set M 18 (zhours (M 18) n))) : am_C mt_Z_hours [.ref 17, .int (nI n)] M K := by
  refine am_C_of_R am_S0 om_Z_hours rfl [.ref 17, .int (nI n), .null] rfl rfl (g_Z_hours_0 ?_)
  refine am_R_le (xs := [.ref 17, .int (nI n), .int (nI 0)]) (by repeat' (first | exact trivial | exact Or.inr rfl | exact Or.inl rfl | exact Or.inr (congrArg Value.int (nI_succ _)) | refine ⟨?_, ?_⟩)) ?_
  have h0 : M = am_set M 18 (zhours (M 18) 0) := (am_set_self M 18).symm
  rw [h0]
  refine lu (P := fun i => am_R am_S0 mt_Z_hours 1 2 [.ref 17, .int (nI n), .int (nI i)] [] (am_set M 18 (zhours (M 18) i)) K) n ?_ ?_
  · exact g_Z_hours_2 ⟨fun c => g_Z_hours_17 h, fun c => absurd (i_le (Nat.le_refl n) hn) c⟩
  · intro i hi ih
    refine g_Z_hours_2 ⟨fun c => absurd c (i_nge hi hn), fun c => ?_⟩
    refine c_Z_hour (by rw [am_set_eq]; exact (zok_hours hz i).1) ?_
    simp only [am_set_set, am_set_eq]
    exact am_R_le (by repeat' (first | exact trivial | exact Or.inr rfl | exact Or.inl rfl | exact Or.inr (congrArg Value.int (nI_succ _)) | refine ⟨?_, ?_⟩)) ih
end
