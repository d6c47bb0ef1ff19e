/-! State, Text, Days and the JDK: blocks of code, written by wip/whole/mk15.py out of what TURN printed of the program -/
def k_J_isNaN_0 : List am_I := [(.dload_n 0, 1, 0, 0, 0), (.dload_n 0, 1, 0, 0, 0), (.dcmp .l, 1, 0, 0, 0), (.ifCond .eq 7, 3, 0, 0, 0), (.iconst 1, 1, 0, 0, 0), (.goto 4, 3, 0, 0, 0)]
set_option maxRecDepth 20000 in
theorem o_J_isNaN_0 : am_okB mt_J_isNaN 0 k_J_isNaN_0 = true := by decide +kernel
theorem g_J_isNaN_0 {L : am_S} {n : Nat} {ls st : List Value} {M : am_M} {Q : am_Q} (h : am_B L mt_J_isNaN k_J_isNaN_0 n 0 ls st M Q) : am_R L mt_J_isNaN n 0 ls st M Q := am_go L mt_J_isNaN (fun h => by cases h) k_J_isNaN_0 n 0 ls st M Q o_J_isNaN_0 h
def k_J_isNaN_10 : List am_I := [(.iconst 0, 1, 0, 0, 0)]
set_option maxRecDepth 20000 in
theorem o_J_isNaN_10 : am_okB mt_J_isNaN 10 k_J_isNaN_10 = true := by decide +kernel
theorem g_J_isNaN_10 {L : am_S} {n : Nat} {ls st : List Value} {M : am_M} {Q : am_Q} (h : am_B L mt_J_isNaN k_J_isNaN_10 n 10 ls st M Q) : am_R L mt_J_isNaN n 10 ls st M Q := am_go L mt_J_isNaN (fun h => by cases h) k_J_isNaN_10 n 10 ls st M Q o_J_isNaN_10 h
def k_J_isNaN_11 : List am_I := [(.ireturn, 1, 0, 0, 0)]
set_option maxRecDepth 20000 in
theorem o_J_isNaN_11 : am_okB mt_J_isNaN 11 k_J_isNaN_11 = true := by decide +kernel
theorem g_J_isNaN_11 {L : am_S} {n : Nat} {ls st : List Value} {M : am_M} {Q : am_Q} (h : am_B L mt_J_isNaN k_J_isNaN_11 n 11 ls st M Q) : am_R L mt_J_isNaN n 11 ls st M Q := am_go L mt_J_isNaN (fun h => by cases h) k_J_isNaN_11 n 11 ls st M Q o_J_isNaN_11 h
def k_J_doubleToLongBits_0 : List am_I := [(.dload_n 0, 1, 0, 0, 0), (.invokestatic 122, 3, 0, 1, 1064), (.ifCond .ne 8, 3, 0, 0, 0), (.dload_n 0, 1, 0, 0, 0), (.invokestatic 134, 3, 203, 1, 1067), (.lreturn, 1, 0, 0, 0)]
set_option maxRecDepth 20000 in
theorem o_J_doubleToLongBits_0 : am_okB mt_J_doubleToLongBits 0 k_J_doubleToLongBits_0 = true := by decide +kernel
theorem g_J_doubleToLongBits_0 {L : am_S} {n : Nat} {ls st : List Value} {M : am_M} {Q : am_Q} (h : am_B L mt_J_doubleToLongBits k_J_doubleToLongBits_0 n 0 ls st M Q) : am_R L mt_J_doubleToLongBits n 0 ls st M Q := am_go L mt_J_doubleToLongBits (fun h => by cases h) k_J_doubleToLongBits_0 n 0 ls st M Q o_J_doubleToLongBits_0 h
def k_J_doubleToLongBits_12 : List am_I := [(.ldc2_w 137, 3, 9221120237041090560, 0, 1070), (.lreturn, 1, 0, 0, 0)]
set_option maxRecDepth 20000 in
theorem o_J_doubleToLongBits_12 : am_okB mt_J_doubleToLongBits 12 k_J_doubleToLongBits_12 = true := by decide +kernel
theorem g_J_doubleToLongBits_12 {L : am_S} {n : Nat} {ls st : List Value} {M : am_M} {Q : am_Q} (h : am_B L mt_J_doubleToLongBits k_J_doubleToLongBits_12 n 12 ls st M Q) : am_R L mt_J_doubleToLongBits n 12 ls st M Q := am_go L mt_J_doubleToLongBits (fun h => by cases h) k_J_doubleToLongBits_12 n 12 ls st M Q o_J_doubleToLongBits_12 h
def k_J_bitCount_0 : List am_I := [(.iload_n 0, 1, 0, 0, 0), (.iload_n 0, 1, 0, 0, 0), (.iconst 1, 1, 0, 0, 0), (.iushr, 1, 0, 0, 0), (.ldc_w 265, 3, 1431655765, 0, 345), (.iand, 1, 0, 0, 0), (.isub, 1, 0, 0, 0), (.istore_n 0, 1, 0, 0, 0), (.iload_n 0, 1, 0, 0, 0), (.ldc_w 266, 3, 858993459, 0, 346), (.iand, 1, 0, 0, 0), (.iload_n 0, 1, 0, 0, 0), (.iconst 2, 1, 0, 0, 0), (.iushr, 1, 0, 0, 0), (.ldc_w 266, 3, 858993459, 0, 346), (.iand, 1, 0, 0, 0), (.iadd, 1, 0, 0, 0), (.istore_n 0, 1, 0, 0, 0), (.iload_n 0, 1, 0, 0, 0), (.iload_n 0, 1, 0, 0, 0), (.iconst 4, 1, 0, 0, 0), (.iushr, 1, 0, 0, 0), (.iadd, 1, 0, 0, 0), (.ldc_w 267, 3, 252645135, 0, 347), (.iand, 1, 0, 0, 0), (.istore_n 0, 1, 0, 0, 0), (.iload_n 0, 1, 0, 0, 0), (.iload_n 0, 1, 0, 0, 0), (.bipush 8, 2, 0, 0, 0), (.iushr, 1, 0, 0, 0), (.iadd, 1, 0, 0, 0), (.istore_n 0, 1, 0, 0, 0), (.iload_n 0, 1, 0, 0, 0), (.iload_n 0, 1, 0, 0, 0), (.bipush 16, 2, 0, 0, 0), (.iushr, 1, 0, 0, 0), (.iadd, 1, 0, 0, 0), (.istore_n 0, 1, 0, 0, 0), (.iload_n 0, 1, 0, 0, 0), (.bipush 63, 2, 0, 0, 0), (.iand, 1, 0, 0, 0), (.ireturn, 1, 0, 0, 0)]
set_option maxRecDepth 20000 in
theorem o_J_bitCount_0 : am_okB mt_J_bitCount 0 k_J_bitCount_0 = true := by decide +kernel
theorem g_J_bitCount_0 {L : am_S} {n : Nat} {ls st : List Value} {M : am_M} {Q : am_Q} (h : am_B L mt_J_bitCount k_J_bitCount_0 n 0 ls st M Q) : am_R L mt_J_bitCount n 0 ls st M Q := am_go L mt_J_bitCount (fun h => by cases h) k_J_bitCount_0 n 0 ls st M Q o_J_bitCount_0 h
def k_S_takeFrom_0 : List am_I := [(.aload_n 1, 1, 0, 0, 0), (.getfield 9, 3, 1, 0, 98), (.iconst 0, 1, 0, 0, 0), (.aload_n 0, 1, 0, 0, 0), (.getfield 9, 3, 1, 0, 98), (.iconst 0, 1, 0, 0, 0), (.bipush 105, 2, 0, 0, 0), (.invokestatic 15, 3, 202, 5, 278), (.return_, 1, 0, 0, 0)]
set_option maxRecDepth 20000 in
theorem o_S_takeFrom_0 : am_okB mt_S_takeFrom 0 k_S_takeFrom_0 = true := by decide +kernel
theorem g_S_takeFrom_0 {L : am_S} {n : Nat} {ls st : List Value} {M : am_M} {Q : am_Q} (h : am_B L mt_S_takeFrom k_S_takeFrom_0 n 0 ls st M Q) : am_R L mt_S_takeFrom n 0 ls st M Q := am_go L mt_S_takeFrom (fun h => by cases h) k_S_takeFrom_0 n 0 ls st M Q o_S_takeFrom_0 h
def k_S_hourOfDay_0 : List am_I := [(.aload_n 0, 1, 0, 0, 0), (.getfield 9, 3, 1, 0, 98), (.bipush 52, 2, 0, 0, 0), (.iaload, 1, 0, 0, 0), (.bipush 24, 2, 0, 0, 0), (.irem, 1, 0, 0, 0), (.ireturn, 1, 0, 0, 0)]
set_option maxRecDepth 20000 in
theorem o_S_hourOfDay_0 : am_okB mt_S_hourOfDay 0 k_S_hourOfDay_0 = true := by decide +kernel
theorem g_S_hourOfDay_0 {L : am_S} {n : Nat} {ls st : List Value} {M : am_M} {Q : am_Q} (h : am_B L mt_S_hourOfDay k_S_hourOfDay_0 n 0 ls st M Q) : am_R L mt_S_hourOfDay n 0 ls st M Q := am_go L mt_S_hourOfDay (fun h => by cases h) k_S_hourOfDay_0 n 0 ls st M Q o_S_hourOfDay_0 h
def k_S_limitIn_0 : List am_I := [(.iload_n 1, 1, 0, 0, 0), (.invokestatic 21, 3, 22, 1, 305), (.ifCond .eq 26, 3, 0, 0, 0), (.aload_n 0, 1, 0, 0, 0), (.getfield 9, 3, 1, 0, 98), (.bipush 10, 2, 0, 0, 0), (.iload_n 1, 1, 0, 0, 0), (.iadd, 1, 0, 0, 0), (.iaload, 1, 0, 0, 0), (.aload_n 0, 1, 0, 0, 0), (.getfield 9, 3, 1, 0, 98), (.bipush 51, 2, 0, 0, 0), (.iaload, 1, 0, 0, 0), (.imul, 1, 0, 0, 0), (.bipush 100, 2, 0, 0, 0), (.idiv, 1, 0, 0, 0), (.goto 4, 3, 0, 0, 0)]
set_option maxRecDepth 20000 in
theorem o_S_limitIn_0 : am_okB mt_S_limitIn 0 k_S_limitIn_0 = true := by decide +kernel
theorem g_S_limitIn_0 {L : am_S} {n : Nat} {ls st : List Value} {M : am_M} {Q : am_Q} (h : am_B L mt_S_limitIn k_S_limitIn_0 n 0 ls st M Q) : am_R L mt_S_limitIn n 0 ls st M Q := am_go L mt_S_limitIn (fun h => by cases h) k_S_limitIn_0 n 0 ls st M Q o_S_limitIn_0 h
def k_S_limitIn_30 : List am_I := [(.iconst 0, 1, 0, 0, 0)]
set_option maxRecDepth 20000 in
theorem o_S_limitIn_30 : am_okB mt_S_limitIn 30 k_S_limitIn_30 = true := by decide +kernel
theorem g_S_limitIn_30 {L : am_S} {n : Nat} {ls st : List Value} {M : am_M} {Q : am_Q} (h : am_B L mt_S_limitIn k_S_limitIn_30 n 30 ls st M Q) : am_R L mt_S_limitIn n 30 ls st M Q := am_go L mt_S_limitIn (fun h => by cases h) k_S_limitIn_30 n 30 ls st M Q o_S_limitIn_30 h
def k_S_limitIn_31 : List am_I := [(.ireturn, 1, 0, 0, 0)]
set_option maxRecDepth 20000 in
theorem o_S_limitIn_31 : am_okB mt_S_limitIn 31 k_S_limitIn_31 = true := by decide +kernel
theorem g_S_limitIn_31 {L : am_S} {n : Nat} {ls st : List Value} {M : am_M} {Q : am_Q} (h : am_B L mt_S_limitIn k_S_limitIn_31 n 31 ls st M Q) : am_R L mt_S_limitIn n 31 ls st M Q := am_go L mt_S_limitIn (fun h => by cases h) k_S_limitIn_31 n 31 ls st M Q o_S_limitIn_31 h
def k_S_pipesLaid_0 : List am_I := [(.iconst 0, 1, 0, 0, 0), (.istore_n 1, 1, 0, 0, 0), (.iconst 0, 1, 0, 0, 0), (.istore_n 2, 1, 0, 0, 0)]
set_option maxRecDepth 20000 in
theorem o_S_pipesLaid_0 : am_okB mt_S_pipesLaid 0 k_S_pipesLaid_0 = true := by decide +kernel
theorem g_S_pipesLaid_0 {L : am_S} {n : Nat} {ls st : List Value} {M : am_M} {Q : am_Q} (h : am_B L mt_S_pipesLaid k_S_pipesLaid_0 n 0 ls st M Q) : am_R L mt_S_pipesLaid n 0 ls st M Q := am_go L mt_S_pipesLaid (fun h => by cases h) k_S_pipesLaid_0 n 0 ls st M Q o_S_pipesLaid_0 h
def k_S_pipesLaid_4 : List am_I := [(.iload_n 2, 1, 0, 0, 0), (.iconst 5, 1, 0, 0, 0), (.if_icmp .ge 23, 3, 0, 0, 0), (.iload_n 1, 1, 0, 0, 0), (.aload_n 0, 1, 0, 0, 0), (.getfield 9, 3, 1, 0, 98), (.iconst 5, 1, 0, 0, 0), (.iload_n 2, 1, 0, 0, 0), (.iadd, 1, 0, 0, 0), (.iaload, 1, 0, 0, 0), (.invokestatic 25, 3, 2, 1, 342), (.iadd, 1, 0, 0, 0), (.istore_n 1, 1, 0, 0, 0), (.iinc 2 1, 3, 0, 0, 0), (.goto (-22), 3, 0, 0, 0)]
set_option maxRecDepth 20000 in
theorem o_S_pipesLaid_4 : am_okB mt_S_pipesLaid 4 k_S_pipesLaid_4 = true := by decide +kernel
theorem g_S_pipesLaid_4 {L : am_S} {n : Nat} {ls st : List Value} {M : am_M} {Q : am_Q} (h : am_B L mt_S_pipesLaid k_S_pipesLaid_4 n 4 ls st M Q) : am_R L mt_S_pipesLaid n 4 ls st M Q := am_go L mt_S_pipesLaid (fun h => by cases h) k_S_pipesLaid_4 n 4 ls st M Q o_S_pipesLaid_4 h
def k_S_pipesLaid_29 : List am_I := [(.iload_n 1, 1, 0, 0, 0), (.iconst 2, 1, 0, 0, 0), (.idiv, 1, 0, 0, 0), (.ireturn, 1, 0, 0, 0)]
set_option maxRecDepth 20000 in
theorem o_S_pipesLaid_29 : am_okB mt_S_pipesLaid 29 k_S_pipesLaid_29 = true := by decide +kernel
theorem g_S_pipesLaid_29 {L : am_S} {n : Nat} {ls st : List Value} {M : am_M} {Q : am_Q} (h : am_B L mt_S_pipesLaid k_S_pipesLaid_29 n 29 ls st M Q) : am_R L mt_S_pipesLaid n 29 ls st M Q := am_go L mt_S_pipesLaid (fun h => by cases h) k_S_pipesLaid_29 n 29 ls st M Q o_S_pipesLaid_29 h
def k_S_waterInAll_0 : List am_I := [(.iconst 0, 1, 0, 0, 0), (.istore_n 1, 1, 0, 0, 0), (.iconst 0, 1, 0, 0, 0), (.istore_n 2, 1, 0, 0, 0)]
set_option maxRecDepth 20000 in
theorem o_S_waterInAll_0 : am_okB mt_S_waterInAll 0 k_S_waterInAll_0 = true := by decide +kernel
theorem g_S_waterInAll_0 {L : am_S} {n : Nat} {ls st : List Value} {M : am_M} {Q : am_Q} (h : am_B L mt_S_waterInAll k_S_waterInAll_0 n 0 ls st M Q) : am_R L mt_S_waterInAll n 0 ls st M Q := am_go L mt_S_waterInAll (fun h => by cases h) k_S_waterInAll_0 n 0 ls st M Q o_S_waterInAll_0 h
def k_S_waterInAll_4 : List am_I := [(.iload_n 2, 1, 0, 0, 0), (.iconst 5, 1, 0, 0, 0), (.if_icmp .ge 21, 3, 0, 0, 0), (.iload_n 1, 1, 0, 0, 0), (.aload_n 0, 1, 0, 0, 0), (.getfield 9, 3, 1, 0, 98), (.bipush 10, 2, 0, 0, 0), (.iload_n 2, 1, 0, 0, 0), (.iadd, 1, 0, 0, 0), (.iaload, 1, 0, 0, 0), (.iadd, 1, 0, 0, 0), (.istore_n 1, 1, 0, 0, 0), (.iinc 2 1, 3, 0, 0, 0), (.goto (-20), 3, 0, 0, 0)]
set_option maxRecDepth 20000 in
theorem o_S_waterInAll_4 : am_okB mt_S_waterInAll 4 k_S_waterInAll_4 = true := by decide +kernel
theorem g_S_waterInAll_4 {L : am_S} {n : Nat} {ls st : List Value} {M : am_M} {Q : am_Q} (h : am_B L mt_S_waterInAll k_S_waterInAll_4 n 4 ls st M Q) : am_R L mt_S_waterInAll n 4 ls st M Q := am_go L mt_S_waterInAll (fun h => by cases h) k_S_waterInAll_4 n 4 ls st M Q o_S_waterInAll_4 h
def k_S_waterInAll_27 : List am_I := [(.iload_n 1, 1, 0, 0, 0), (.ireturn, 1, 0, 0, 0)]
set_option maxRecDepth 20000 in
theorem o_S_waterInAll_27 : am_okB mt_S_waterInAll 27 k_S_waterInAll_27 = true := by decide +kernel
theorem g_S_waterInAll_27 {L : am_S} {n : Nat} {ls st : List Value} {M : am_M} {Q : am_Q} (h : am_B L mt_S_waterInAll k_S_waterInAll_27 n 27 ls st M Q) : am_R L mt_S_waterInAll n 27 ls st M Q := am_go L mt_S_waterInAll (fun h => by cases h) k_S_waterInAll_27 n 27 ls st M Q o_S_waterInAll_27 h
def k_S_vatProperty_0 : List am_I := [(.iload_n 1, 1, 0, 0, 0), (.invokestatic 21, 3, 22, 1, 305), (.ifCond .ne 5, 3, 0, 0, 0), (.iconst 0, 1, 0, 0, 0), (.ireturn, 1, 0, 0, 0)]
set_option maxRecDepth 20000 in
theorem o_S_vatProperty_0 : am_okB mt_S_vatProperty 0 k_S_vatProperty_0 = true := by decide +kernel
theorem g_S_vatProperty_0 {L : am_S} {n : Nat} {ls st : List Value} {M : am_M} {Q : am_Q} (h : am_B L mt_S_vatProperty k_S_vatProperty_0 n 0 ls st M Q) : am_R L mt_S_vatProperty n 0 ls st M Q := am_go L mt_S_vatProperty (fun h => by cases h) k_S_vatProperty_0 n 0 ls st M Q o_S_vatProperty_0 h
def k_S_vatProperty_9 : List am_I := [(.iload_n 2, 1, 0, 0, 0), (.tableswitch 110 0 8 #[50, 59, 69, 69, 69, 85, 85, 85, 101], 50, 0, 0, 0)]
set_option maxRecDepth 20000 in
theorem o_S_vatProperty_9 : am_okB mt_S_vatProperty 9 k_S_vatProperty_9 = true := by decide +kernel
theorem g_S_vatProperty_9 {L : am_S} {n : Nat} {ls st : List Value} {M : am_M} {Q : am_Q} (h : am_B L mt_S_vatProperty k_S_vatProperty_9 n 9 ls st M Q) : am_R L mt_S_vatProperty n 9 ls st M Q := am_go L mt_S_vatProperty (fun h => by cases h) k_S_vatProperty_9 n 9 ls st M Q o_S_vatProperty_9 h
def k_S_vatProperty_60 : List am_I := [(.aload_n 0, 1, 0, 0, 0), (.getfield 9, 3, 1, 0, 98), (.iconst 0, 1, 0, 0, 0), (.iload_n 1, 1, 0, 0, 0), (.iadd, 1, 0, 0, 0), (.iaload, 1, 0, 0, 0), (.ireturn, 1, 0, 0, 0)]
set_option maxRecDepth 20000 in
theorem o_S_vatProperty_60 : am_okB mt_S_vatProperty 60 k_S_vatProperty_60 = true := by decide +kernel
theorem g_S_vatProperty_60 {L : am_S} {n : Nat} {ls st : List Value} {M : am_M} {Q : am_Q} (h : am_B L mt_S_vatProperty k_S_vatProperty_60 n 60 ls st M Q) : am_R L mt_S_vatProperty n 60 ls st M Q := am_go L mt_S_vatProperty (fun h => by cases h) k_S_vatProperty_60 n 60 ls st M Q o_S_vatProperty_60 h
def k_S_vatProperty_69 : List am_I := [(.aload_n 0, 1, 0, 0, 0), (.getfield 9, 3, 1, 0, 98), (.bipush 10, 2, 0, 0, 0), (.iload_n 1, 1, 0, 0, 0), (.iadd, 1, 0, 0, 0), (.iaload, 1, 0, 0, 0), (.ireturn, 1, 0, 0, 0)]
set_option maxRecDepth 20000 in
theorem o_S_vatProperty_69 : am_okB mt_S_vatProperty 69 k_S_vatProperty_69 = true := by decide +kernel
theorem g_S_vatProperty_69 {L : am_S} {n : Nat} {ls st : List Value} {M : am_M} {Q : am_Q} (h : am_B L mt_S_vatProperty k_S_vatProperty_69 n 69 ls st M Q) : am_R L mt_S_vatProperty n 69 ls st M Q := am_go L mt_S_vatProperty (fun h => by cases h) k_S_vatProperty_69 n 69 ls st M Q o_S_vatProperty_69 h
def k_S_vatProperty_79 : List am_I := [(.aload_n 0, 1, 0, 0, 0), (.getfield 9, 3, 1, 0, 98), (.bipush 15, 2, 0, 0, 0), (.iload_n 1, 1, 0, 0, 0), (.iconst 3, 1, 0, 0, 0), (.imul, 1, 0, 0, 0), (.iadd, 1, 0, 0, 0), (.iload_n 2, 1, 0, 0, 0), (.iadd, 1, 0, 0, 0), (.iconst 2, 1, 0, 0, 0), (.isub, 1, 0, 0, 0), (.iaload, 1, 0, 0, 0), (.ireturn, 1, 0, 0, 0)]
set_option maxRecDepth 20000 in
theorem o_S_vatProperty_79 : am_okB mt_S_vatProperty 79 k_S_vatProperty_79 = true := by decide +kernel
theorem g_S_vatProperty_79 {L : am_S} {n : Nat} {ls st : List Value} {M : am_M} {Q : am_Q} (h : am_B L mt_S_vatProperty k_S_vatProperty_79 n 79 ls st M Q) : am_R L mt_S_vatProperty n 79 ls st M Q := am_go L mt_S_vatProperty (fun h => by cases h) k_S_vatProperty_79 n 79 ls st M Q o_S_vatProperty_79 h
def k_S_vatProperty_95 : List am_I := [(.aload_n 0, 1, 0, 0, 0), (.getfield 9, 3, 1, 0, 98), (.bipush 30, 2, 0, 0, 0), (.iload_n 1, 1, 0, 0, 0), (.iconst 3, 1, 0, 0, 0), (.imul, 1, 0, 0, 0), (.iadd, 1, 0, 0, 0), (.iload_n 2, 1, 0, 0, 0), (.iadd, 1, 0, 0, 0), (.iconst 5, 1, 0, 0, 0), (.isub, 1, 0, 0, 0), (.iaload, 1, 0, 0, 0), (.ireturn, 1, 0, 0, 0)]
set_option maxRecDepth 20000 in
theorem o_S_vatProperty_95 : am_okB mt_S_vatProperty 95 k_S_vatProperty_95 = true := by decide +kernel
theorem g_S_vatProperty_95 {L : am_S} {n : Nat} {ls st : List Value} {M : am_M} {Q : am_Q} (h : am_B L mt_S_vatProperty k_S_vatProperty_95 n 95 ls st M Q) : am_R L mt_S_vatProperty n 95 ls st M Q := am_go L mt_S_vatProperty (fun h => by cases h) k_S_vatProperty_95 n 95 ls st M Q o_S_vatProperty_95 h
def k_S_vatProperty_111 : List am_I := [(.aload_n 0, 1, 0, 0, 0), (.getfield 9, 3, 1, 0, 98), (.iconst 5, 1, 0, 0, 0), (.iload_n 1, 1, 0, 0, 0), (.iadd, 1, 0, 0, 0), (.iaload, 1, 0, 0, 0), (.ireturn, 1, 0, 0, 0)]
set_option maxRecDepth 20000 in
theorem o_S_vatProperty_111 : am_okB mt_S_vatProperty 111 k_S_vatProperty_111 = true := by decide +kernel
theorem g_S_vatProperty_111 {L : am_S} {n : Nat} {ls st : List Value} {M : am_M} {Q : am_Q} (h : am_B L mt_S_vatProperty k_S_vatProperty_111 n 111 ls st M Q) : am_R L mt_S_vatProperty n 111 ls st M Q := am_go L mt_S_vatProperty (fun h => by cases h) k_S_vatProperty_111 n 111 ls st M Q o_S_vatProperty_111 h
def k_S_vatProperty_120 : List am_I := [(.aload_n 0, 1, 0, 0, 0), (.iload_n 1, 1, 0, 0, 0), (.invokevirtual 31, 3, 5, 2, 319), (.ireturn, 1, 0, 0, 0)]
set_option maxRecDepth 20000 in
theorem o_S_vatProperty_120 : am_okB mt_S_vatProperty 120 k_S_vatProperty_120 = true := by decide +kernel
theorem g_S_vatProperty_120 {L : am_S} {n : Nat} {ls st : List Value} {M : am_M} {Q : am_Q} (h : am_B L mt_S_vatProperty k_S_vatProperty_120 n 120 ls st M Q) : am_R L mt_S_vatProperty n 120 ls st M Q := am_go L mt_S_vatProperty (fun h => by cases h) k_S_vatProperty_120 n 120 ls st M Q o_S_vatProperty_120 h
def k_S_valveProperty_0 : List am_I := [(.iload_n 1, 1, 0, 0, 0), (.ifCond .lt 9, 3, 0, 0, 0), (.iload_n 1, 1, 0, 0, 0), (.bipush 8, 2, 0, 0, 0), (.if_icmp .lt 5, 3, 0, 0, 0)]
set_option maxRecDepth 20000 in
theorem o_S_valveProperty_0 : am_okB mt_S_valveProperty 0 k_S_valveProperty_0 = true := by decide +kernel
theorem g_S_valveProperty_0 {L : am_S} {n : Nat} {ls st : List Value} {M : am_M} {Q : am_Q} (h : am_B L mt_S_valveProperty k_S_valveProperty_0 n 0 ls st M Q) : am_R L mt_S_valveProperty n 0 ls st M Q := am_go L mt_S_valveProperty (fun h => by cases h) k_S_valveProperty_0 n 0 ls st M Q o_S_valveProperty_0 h
def k_S_valveProperty_10 : List am_I := [(.iconst 0, 1, 0, 0, 0), (.ireturn, 1, 0, 0, 0)]
set_option maxRecDepth 20000 in
theorem o_S_valveProperty_10 : am_okB mt_S_valveProperty 10 k_S_valveProperty_10 = true := by decide +kernel
theorem g_S_valveProperty_10 {L : am_S} {n : Nat} {ls st : List Value} {M : am_M} {Q : am_Q} (h : am_B L mt_S_valveProperty k_S_valveProperty_10 n 10 ls st M Q) : am_R L mt_S_valveProperty n 10 ls st M Q := am_go L mt_S_valveProperty (fun h => by cases h) k_S_valveProperty_10 n 10 ls st M Q o_S_valveProperty_10 h
def k_S_valveProperty_12 : List am_I := [(.bipush 57, 2, 0, 0, 0), (.iload_n 1, 1, 0, 0, 0), (.bipush 6, 2, 0, 0, 0), (.imul, 1, 0, 0, 0), (.iadd, 1, 0, 0, 0), (.istore_n 3, 1, 0, 0, 0), (.iload_n 2, 1, 0, 0, 0), (.tableswitch 102 0 5 #[39, 48, 57, 66, 75, 84], 39, 0, 0, 0)]
set_option maxRecDepth 20000 in
theorem o_S_valveProperty_12 : am_okB mt_S_valveProperty 12 k_S_valveProperty_12 = true := by decide +kernel
theorem g_S_valveProperty_12 {L : am_S} {n : Nat} {ls st : List Value} {M : am_M} {Q : am_Q} (h : am_B L mt_S_valveProperty k_S_valveProperty_12 n 12 ls st M Q) : am_R L mt_S_valveProperty n 12 ls st M Q := am_go L mt_S_valveProperty (fun h => by cases h) k_S_valveProperty_12 n 12 ls st M Q o_S_valveProperty_12 h
def k_S_valveProperty_60 : List am_I := [(.aload_n 0, 1, 0, 0, 0), (.getfield 9, 3, 1, 0, 98), (.iload_n 3, 1, 0, 0, 0), (.iconst 0, 1, 0, 0, 0), (.iadd, 1, 0, 0, 0), (.iaload, 1, 0, 0, 0), (.ireturn, 1, 0, 0, 0)]
set_option maxRecDepth 20000 in
theorem o_S_valveProperty_60 : am_okB mt_S_valveProperty 60 k_S_valveProperty_60 = true := by decide +kernel
theorem g_S_valveProperty_60 {L : am_S} {n : Nat} {ls st : List Value} {M : am_M} {Q : am_Q} (h : am_B L mt_S_valveProperty k_S_valveProperty_60 n 60 ls st M Q) : am_R L mt_S_valveProperty n 60 ls st M Q := am_go L mt_S_valveProperty (fun h => by cases h) k_S_valveProperty_60 n 60 ls st M Q o_S_valveProperty_60 h
def k_S_valveProperty_69 : List am_I := [(.aload_n 0, 1, 0, 0, 0), (.getfield 9, 3, 1, 0, 98), (.iload_n 3, 1, 0, 0, 0), (.iconst 1, 1, 0, 0, 0), (.iadd, 1, 0, 0, 0), (.iaload, 1, 0, 0, 0), (.ireturn, 1, 0, 0, 0)]
set_option maxRecDepth 20000 in
theorem o_S_valveProperty_69 : am_okB mt_S_valveProperty 69 k_S_valveProperty_69 = true := by decide +kernel
theorem g_S_valveProperty_69 {L : am_S} {n : Nat} {ls st : List Value} {M : am_M} {Q : am_Q} (h : am_B L mt_S_valveProperty k_S_valveProperty_69 n 69 ls st M Q) : am_R L mt_S_valveProperty n 69 ls st M Q := am_go L mt_S_valveProperty (fun h => by cases h) k_S_valveProperty_69 n 69 ls st M Q o_S_valveProperty_69 h
def k_S_valveProperty_78 : List am_I := [(.aload_n 0, 1, 0, 0, 0), (.getfield 9, 3, 1, 0, 98), (.iload_n 3, 1, 0, 0, 0), (.iconst 2, 1, 0, 0, 0), (.iadd, 1, 0, 0, 0), (.iaload, 1, 0, 0, 0), (.ireturn, 1, 0, 0, 0)]
set_option maxRecDepth 20000 in
theorem o_S_valveProperty_78 : am_okB mt_S_valveProperty 78 k_S_valveProperty_78 = true := by decide +kernel
theorem g_S_valveProperty_78 {L : am_S} {n : Nat} {ls st : List Value} {M : am_M} {Q : am_Q} (h : am_B L mt_S_valveProperty k_S_valveProperty_78 n 78 ls st M Q) : am_R L mt_S_valveProperty n 78 ls st M Q := am_go L mt_S_valveProperty (fun h => by cases h) k_S_valveProperty_78 n 78 ls st M Q o_S_valveProperty_78 h
def k_S_valveProperty_87 : List am_I := [(.aload_n 0, 1, 0, 0, 0), (.getfield 9, 3, 1, 0, 98), (.iload_n 3, 1, 0, 0, 0), (.iconst 3, 1, 0, 0, 0), (.iadd, 1, 0, 0, 0), (.iaload, 1, 0, 0, 0), (.ireturn, 1, 0, 0, 0)]
set_option maxRecDepth 20000 in
theorem o_S_valveProperty_87 : am_okB mt_S_valveProperty 87 k_S_valveProperty_87 = true := by decide +kernel
theorem g_S_valveProperty_87 {L : am_S} {n : Nat} {ls st : List Value} {M : am_M} {Q : am_Q} (h : am_B L mt_S_valveProperty k_S_valveProperty_87 n 87 ls st M Q) : am_R L mt_S_valveProperty n 87 ls st M Q := am_go L mt_S_valveProperty (fun h => by cases h) k_S_valveProperty_87 n 87 ls st M Q o_S_valveProperty_87 h
def k_S_valveProperty_96 : List am_I := [(.aload_n 0, 1, 0, 0, 0), (.getfield 9, 3, 1, 0, 98), (.iload_n 3, 1, 0, 0, 0), (.iconst 4, 1, 0, 0, 0), (.iadd, 1, 0, 0, 0), (.iaload, 1, 0, 0, 0), (.ireturn, 1, 0, 0, 0)]
set_option maxRecDepth 20000 in
theorem o_S_valveProperty_96 : am_okB mt_S_valveProperty 96 k_S_valveProperty_96 = true := by decide +kernel
theorem g_S_valveProperty_96 {L : am_S} {n : Nat} {ls st : List Value} {M : am_M} {Q : am_Q} (h : am_B L mt_S_valveProperty k_S_valveProperty_96 n 96 ls st M Q) : am_R L mt_S_valveProperty n 96 ls st M Q := am_go L mt_S_valveProperty (fun h => by cases h) k_S_valveProperty_96 n 96 ls st M Q o_S_valveProperty_96 h
def k_S_valveProperty_105 : List am_I := [(.aload_n 0, 1, 0, 0, 0), (.iload_n 3, 1, 0, 0, 0), (.aload_n 0, 1, 0, 0, 0), (.invokevirtual 34, 3, 4, 1, 293), (.invokevirtual 38, 3, 19, 3, 297), (.ifCond .eq 7, 3, 0, 0, 0), (.iconst 1, 1, 0, 0, 0), (.goto 4, 3, 0, 0, 0)]
set_option maxRecDepth 20000 in
theorem o_S_valveProperty_105 : am_okB mt_S_valveProperty 105 k_S_valveProperty_105 = true := by decide +kernel
theorem g_S_valveProperty_105 {L : am_S} {n : Nat} {ls st : List Value} {M : am_M} {Q : am_Q} (h : am_B L mt_S_valveProperty k_S_valveProperty_105 n 105 ls st M Q) : am_R L mt_S_valveProperty n 105 ls st M Q := am_go L mt_S_valveProperty (fun h => by cases h) k_S_valveProperty_105 n 105 ls st M Q o_S_valveProperty_105 h
def k_S_valveProperty_121 : List am_I := [(.iconst 0, 1, 0, 0, 0)]
set_option maxRecDepth 20000 in
theorem o_S_valveProperty_121 : am_okB mt_S_valveProperty 121 k_S_valveProperty_121 = true := by decide +kernel
theorem g_S_valveProperty_121 {L : am_S} {n : Nat} {ls st : List Value} {M : am_M} {Q : am_Q} (h : am_B L mt_S_valveProperty k_S_valveProperty_121 n 121 ls st M Q) : am_R L mt_S_valveProperty n 121 ls st M Q := am_go L mt_S_valveProperty (fun h => by cases h) k_S_valveProperty_121 n 121 ls st M Q o_S_valveProperty_121 h
def k_S_valveProperty_122 : List am_I := [(.ireturn, 1, 0, 0, 0)]
set_option maxRecDepth 20000 in
theorem o_S_valveProperty_122 : am_okB mt_S_valveProperty 122 k_S_valveProperty_122 = true := by decide +kernel
theorem g_S_valveProperty_122 {L : am_S} {n : Nat} {ls st : List Value} {M : am_M} {Q : am_Q} (h : am_B L mt_S_valveProperty k_S_valveProperty_122 n 122 ls st M Q) : am_R L mt_S_valveProperty n 122 ls st M Q := am_go L mt_S_valveProperty (fun h => by cases h) k_S_valveProperty_122 n 122 ls st M Q o_S_valveProperty_122 h
def k_S_valveProperty_123 : List am_I := [(.aload_n 0, 1, 0, 0, 0), (.getfield 9, 3, 1, 0, 98), (.iload_n 3, 1, 0, 0, 0), (.iconst 5, 1, 0, 0, 0), (.iadd, 1, 0, 0, 0), (.iaload, 1, 0, 0, 0), (.ireturn, 1, 0, 0, 0)]
set_option maxRecDepth 20000 in
theorem o_S_valveProperty_123 : am_okB mt_S_valveProperty 123 k_S_valveProperty_123 = true := by decide +kernel
theorem g_S_valveProperty_123 {L : am_S} {n : Nat} {ls st : List Value} {M : am_M} {Q : am_Q} (h : am_B L mt_S_valveProperty k_S_valveProperty_123 n 123 ls st M Q) : am_R L mt_S_valveProperty n 123 ls st M Q := am_go L mt_S_valveProperty (fun h => by cases h) k_S_valveProperty_123 n 123 ls st M Q o_S_valveProperty_123 h
def k_S_dyeProperty_0 : List am_I := [(.iload_n 1, 1, 0, 0, 0), (.ifCond .lt 8, 3, 0, 0, 0), (.iload_n 1, 1, 0, 0, 0), (.iconst 3, 1, 0, 0, 0), (.if_icmp .lt 5, 3, 0, 0, 0)]
set_option maxRecDepth 20000 in
theorem o_S_dyeProperty_0 : am_okB mt_S_dyeProperty 0 k_S_dyeProperty_0 = true := by decide +kernel
theorem g_S_dyeProperty_0 {L : am_S} {n : Nat} {ls st : List Value} {M : am_M} {Q : am_Q} (h : am_B L mt_S_dyeProperty k_S_dyeProperty_0 n 0 ls st M Q) : am_R L mt_S_dyeProperty n 0 ls st M Q := am_go L mt_S_dyeProperty (fun h => by cases h) k_S_dyeProperty_0 n 0 ls st M Q o_S_dyeProperty_0 h
def k_S_dyeProperty_9 : List am_I := [(.iconst 0, 1, 0, 0, 0), (.ireturn, 1, 0, 0, 0)]
set_option maxRecDepth 20000 in
theorem o_S_dyeProperty_9 : am_okB mt_S_dyeProperty 9 k_S_dyeProperty_9 = true := by decide +kernel
theorem g_S_dyeProperty_9 {L : am_S} {n : Nat} {ls st : List Value} {M : am_M} {Q : am_Q} (h : am_B L mt_S_dyeProperty k_S_dyeProperty_9 n 9 ls st M Q) : am_R L mt_S_dyeProperty n 9 ls st M Q := am_go L mt_S_dyeProperty (fun h => by cases h) k_S_dyeProperty_9 n 9 ls st M Q o_S_dyeProperty_9 h
def k_S_dyeProperty_11 : List am_I := [(.iload_n 2, 1, 0, 0, 0), (.tableswitch 70 0 3 #[32, 42, 51, 60], 32, 0, 0, 0)]
set_option maxRecDepth 20000 in
theorem o_S_dyeProperty_11 : am_okB mt_S_dyeProperty 11 k_S_dyeProperty_11 = true := by decide +kernel
theorem g_S_dyeProperty_11 {L : am_S} {n : Nat} {ls st : List Value} {M : am_M} {Q : am_Q} (h : am_B L mt_S_dyeProperty k_S_dyeProperty_11 n 11 ls st M Q) : am_R L mt_S_dyeProperty n 11 ls st M Q := am_go L mt_S_dyeProperty (fun h => by cases h) k_S_dyeProperty_11 n 11 ls st M Q o_S_dyeProperty_11 h
def k_S_dyeProperty_44 : List am_I := [(.aload_n 0, 1, 0, 0, 0), (.getfield 9, 3, 1, 0, 98), (.bipush 45, 2, 0, 0, 0), (.iload_n 1, 1, 0, 0, 0), (.iadd, 1, 0, 0, 0), (.iaload, 1, 0, 0, 0), (.ireturn, 1, 0, 0, 0)]
set_option maxRecDepth 20000 in
theorem o_S_dyeProperty_44 : am_okB mt_S_dyeProperty 44 k_S_dyeProperty_44 = true := by decide +kernel
theorem g_S_dyeProperty_44 {L : am_S} {n : Nat} {ls st : List Value} {M : am_M} {Q : am_Q} (h : am_B L mt_S_dyeProperty k_S_dyeProperty_44 n 44 ls st M Q) : am_R L mt_S_dyeProperty n 44 ls st M Q := am_go L mt_S_dyeProperty (fun h => by cases h) k_S_dyeProperty_44 n 44 ls st M Q o_S_dyeProperty_44 h
def k_S_dyeProperty_54 : List am_I := [(.aload_n 0, 1, 0, 0, 0), (.bipush 15, 2, 0, 0, 0), (.iload_n 1, 1, 0, 0, 0), (.iadd, 1, 0, 0, 0), (.invokevirtual 42, 3, 20, 2, 380), (.ireturn, 1, 0, 0, 0)]
set_option maxRecDepth 20000 in
theorem o_S_dyeProperty_54 : am_okB mt_S_dyeProperty 54 k_S_dyeProperty_54 = true := by decide +kernel
theorem g_S_dyeProperty_54 {L : am_S} {n : Nat} {ls st : List Value} {M : am_M} {Q : am_Q} (h : am_B L mt_S_dyeProperty k_S_dyeProperty_54 n 54 ls st M Q) : am_R L mt_S_dyeProperty n 54 ls st M Q := am_go L mt_S_dyeProperty (fun h => by cases h) k_S_dyeProperty_54 n 54 ls st M Q o_S_dyeProperty_54 h
def k_S_dyeProperty_63 : List am_I := [(.aload_n 0, 1, 0, 0, 0), (.bipush 30, 2, 0, 0, 0), (.iload_n 1, 1, 0, 0, 0), (.iadd, 1, 0, 0, 0), (.invokevirtual 42, 3, 20, 2, 380), (.ireturn, 1, 0, 0, 0)]
set_option maxRecDepth 20000 in
theorem o_S_dyeProperty_63 : am_okB mt_S_dyeProperty 63 k_S_dyeProperty_63 = true := by decide +kernel
theorem g_S_dyeProperty_63 {L : am_S} {n : Nat} {ls st : List Value} {M : am_M} {Q : am_Q} (h : am_B L mt_S_dyeProperty k_S_dyeProperty_63 n 63 ls st M Q) : am_R L mt_S_dyeProperty n 63 ls st M Q := am_go L mt_S_dyeProperty (fun h => by cases h) k_S_dyeProperty_63 n 63 ls st M Q o_S_dyeProperty_63 h
def k_S_dyeProperty_72 : List am_I := [(.aload_n 0, 1, 0, 0, 0), (.getfield 9, 3, 1, 0, 98), (.bipush 48, 2, 0, 0, 0), (.iload_n 1, 1, 0, 0, 0), (.iadd, 1, 0, 0, 0), (.iaload, 1, 0, 0, 0), (.ireturn, 1, 0, 0, 0)]
set_option maxRecDepth 20000 in
theorem o_S_dyeProperty_72 : am_okB mt_S_dyeProperty 72 k_S_dyeProperty_72 = true := by decide +kernel
theorem g_S_dyeProperty_72 {L : am_S} {n : Nat} {ls st : List Value} {M : am_M} {Q : am_Q} (h : am_B L mt_S_dyeProperty k_S_dyeProperty_72 n 72 ls st M Q) : am_R L mt_S_dyeProperty n 72 ls st M Q := am_go L mt_S_dyeProperty (fun h => by cases h) k_S_dyeProperty_72 n 72 ls st M Q o_S_dyeProperty_72 h
def k_S_dyeProperty_82 : List am_I := [(.aload_n 0, 1, 0, 0, 0), (.iload_n 1, 1, 0, 0, 0), (.invokevirtual 45, 3, 21, 2, 384), (.ireturn, 1, 0, 0, 0)]
set_option maxRecDepth 20000 in
theorem o_S_dyeProperty_82 : am_okB mt_S_dyeProperty 82 k_S_dyeProperty_82 = true := by decide +kernel
theorem g_S_dyeProperty_82 {L : am_S} {n : Nat} {ls st : List Value} {M : am_M} {Q : am_Q} (h : am_B L mt_S_dyeProperty k_S_dyeProperty_82 n 82 ls st M Q) : am_R L mt_S_dyeProperty n 82 ls st M Q := am_go L mt_S_dyeProperty (fun h => by cases h) k_S_dyeProperty_82 n 82 ls st M Q o_S_dyeProperty_82 h
def k_S_removeValve_0 : List am_I := [(.aload_n 0, 1, 0, 0, 0), (.getfield 9, 3, 1, 0, 98), (.bipush 56, 2, 0, 0, 0), (.iaload, 1, 0, 0, 0), (.iconst 1, 1, 0, 0, 0), (.isub, 1, 0, 0, 0), (.istore_n 2, 1, 0, 0, 0), (.iload_n 1, 1, 0, 0, 0), (.ifCond .lt 14, 3, 0, 0, 0), (.iload_n 1, 1, 0, 0, 0), (.iload_n 2, 1, 0, 0, 0), (.if_icmp .gt 9, 3, 0, 0, 0), (.iload_n 2, 1, 0, 0, 0), (.bipush 8, 2, 0, 0, 0), (.if_icmp .lt 4, 3, 0, 0, 0)]
set_option maxRecDepth 20000 in
theorem o_S_removeValve_0 : am_okB mt_S_removeValve 0 k_S_removeValve_0 = true := by decide +kernel
theorem g_S_removeValve_0 {L : am_S} {n : Nat} {ls st : List Value} {M : am_M} {Q : am_Q} (h : am_B L mt_S_removeValve k_S_removeValve_0 n 0 ls st M Q) : am_R L mt_S_removeValve n 0 ls st M Q := am_go L mt_S_removeValve (fun h => by cases h) k_S_removeValve_0 n 0 ls st M Q o_S_removeValve_0 h
def k_S_removeValve_25 : List am_I := [(.return_, 1, 0, 0, 0)]
set_option maxRecDepth 20000 in
theorem o_S_removeValve_25 : am_okB mt_S_removeValve 25 k_S_removeValve_25 = true := by decide +kernel
theorem g_S_removeValve_25 {L : am_S} {n : Nat} {ls st : List Value} {M : am_M} {Q : am_Q} (h : am_B L mt_S_removeValve k_S_removeValve_25 n 25 ls st M Q) : am_R L mt_S_removeValve n 25 ls st M Q := am_go L mt_S_removeValve (fun h => by cases h) k_S_removeValve_25 n 25 ls st M Q o_S_removeValve_25 h
def k_S_removeValve_26 : List am_I := [(.bipush 57, 2, 0, 0, 0), (.iload_n 1, 1, 0, 0, 0), (.bipush 6, 2, 0, 0, 0), (.imul, 1, 0, 0, 0), (.iadd, 1, 0, 0, 0), (.istore_n 3, 1, 0, 0, 0), (.aload_n 0, 1, 0, 0, 0), (.getfield 9, 3, 1, 0, 98), (.iload_n 3, 1, 0, 0, 0), (.bipush 6, 2, 0, 0, 0), (.iadd, 1, 0, 0, 0), (.aload_n 0, 1, 0, 0, 0), (.getfield 9, 3, 1, 0, 98), (.iload_n 3, 1, 0, 0, 0), (.iload_n 2, 1, 0, 0, 0), (.iload_n 1, 1, 0, 0, 0), (.isub, 1, 0, 0, 0), (.bipush 6, 2, 0, 0, 0), (.imul, 1, 0, 0, 0), (.invokestatic 15, 3, 202, 5, 278), (.aload_n 0, 1, 0, 0, 0), (.getfield 9, 3, 1, 0, 98), (.bipush 56, 2, 0, 0, 0), (.iload_n 2, 1, 0, 0, 0), (.iastore, 1, 0, 0, 0), (.return_, 1, 0, 0, 0)]
set_option maxRecDepth 20000 in
theorem o_S_removeValve_26 : am_okB mt_S_removeValve 26 k_S_removeValve_26 = true := by decide +kernel
theorem g_S_removeValve_26 {L : am_S} {n : Nat} {ls st : List Value} {M : am_M} {Q : am_Q} (h : am_B L mt_S_removeValve k_S_removeValve_26 n 26 ls st M Q) : am_R L mt_S_removeValve n 26 ls st M Q := am_go L mt_S_removeValve (fun h => by cases h) k_S_removeValve_26 n 26 ls st M Q o_S_removeValve_26 h
def k_S_takeValves_0 : List am_I := [(.iconst 0, 1, 0, 0, 0), (.istore_n 3, 1, 0, 0, 0)]
set_option maxRecDepth 20000 in
theorem o_S_takeValves_0 : am_okB mt_S_takeValves 0 k_S_takeValves_0 = true := by decide +kernel
theorem g_S_takeValves_0 {L : am_S} {n : Nat} {ls st : List Value} {M : am_M} {Q : am_Q} (h : am_B L mt_S_takeValves k_S_takeValves_0 n 0 ls st M Q) : am_R L mt_S_takeValves n 0 ls st M Q := am_go L mt_S_takeValves (fun h => by cases h) k_S_takeValves_0 n 0 ls st M Q o_S_takeValves_0 h
def k_S_takeValves_2 : List am_I := [(.iload_n 3, 1, 0, 0, 0), (.iload_n 2, 1, 0, 0, 0), (.if_icmp .ge 58, 3, 0, 0, 0), (.iload_n 3, 1, 0, 0, 0), (.bipush 8, 2, 0, 0, 0), (.if_icmp .ge 52, 3, 0, 0, 0), (.iload_n 3, 1, 0, 0, 0), (.iconst 1, 1, 0, 0, 0), (.iadd, 1, 0, 0, 0), (.iconst 5, 1, 0, 0, 0), (.imul, 1, 0, 0, 0), (.aload_n 1, 1, 0, 0, 0), (.arraylength, 1, 0, 0, 0), (.if_icmp .gt 42, 3, 0, 0, 0), (.bipush 57, 2, 0, 0, 0), (.iload_n 3, 1, 0, 0, 0), (.bipush 6, 2, 0, 0, 0), (.imul, 1, 0, 0, 0), (.iadd, 1, 0, 0, 0), (.istore 4, 2, 0, 0, 0), (.aload_n 1, 1, 0, 0, 0), (.iload_n 3, 1, 0, 0, 0), (.iconst 5, 1, 0, 0, 0), (.imul, 1, 0, 0, 0), (.aload_n 0, 1, 0, 0, 0), (.getfield 9, 3, 1, 0, 98), (.iload 4, 2, 0, 0, 0), (.iconst 5, 1, 0, 0, 0), (.invokestatic 15, 3, 202, 5, 278), (.aload_n 0, 1, 0, 0, 0), (.getfield 9, 3, 1, 0, 98), (.iload 4, 2, 0, 0, 0), (.iconst 5, 1, 0, 0, 0), (.iadd, 1, 0, 0, 0), (.iconst 0, 1, 0, 0, 0), (.iastore, 1, 0, 0, 0), (.iinc 3 1, 3, 0, 0, 0), (.goto (-57), 3, 0, 0, 0)]
set_option maxRecDepth 20000 in
theorem o_S_takeValves_2 : am_okB mt_S_takeValves 2 k_S_takeValves_2 = true := by decide +kernel
theorem g_S_takeValves_2 {L : am_S} {n : Nat} {ls st : List Value} {M : am_M} {Q : am_Q} (h : am_B L mt_S_takeValves k_S_takeValves_2 n 2 ls st M Q) : am_R L mt_S_takeValves n 2 ls st M Q := am_go L mt_S_takeValves (fun h => by cases h) k_S_takeValves_2 n 2 ls st M Q o_S_takeValves_2 h
def k_S_takeValves_62 : List am_I := [(.aload_n 0, 1, 0, 0, 0), (.getfield 9, 3, 1, 0, 98), (.bipush 56, 2, 0, 0, 0), (.iload_n 3, 1, 0, 0, 0), (.iastore, 1, 0, 0, 0), (.return_, 1, 0, 0, 0)]
set_option maxRecDepth 20000 in
theorem o_S_takeValves_62 : am_okB mt_S_takeValves 62 k_S_takeValves_62 = true := by decide +kernel
theorem g_S_takeValves_62 {L : am_S} {n : Nat} {ls st : List Value} {M : am_M} {Q : am_Q} (h : am_B L mt_S_takeValves k_S_takeValves_62 n 62 ls st M Q) : am_R L mt_S_takeValves n 62 ls st M Q := am_go L mt_S_takeValves (fun h => by cases h) k_S_takeValves_62 n 62 ls st M Q o_S_takeValves_62 h
def k_S_dissolveSettled_0 : List am_I := [(.iload_n 1, 1, 0, 0, 0), (.invokestatic 21, 3, 22, 1, 305), (.ifCond .ne 5, 3, 0, 0, 0), (.iconst 0, 1, 0, 0, 0), (.ireturn, 1, 0, 0, 0)]
set_option maxRecDepth 20000 in
theorem o_S_dissolveSettled_0 : am_okB mt_S_dissolveSettled 0 k_S_dissolveSettled_0 = true := by decide +kernel
theorem g_S_dissolveSettled_0 {L : am_S} {n : Nat} {ls st : List Value} {M : am_M} {Q : am_Q} (h : am_B L mt_S_dissolveSettled k_S_dissolveSettled_0 n 0 ls st M Q) : am_R L mt_S_dissolveSettled n 0 ls st M Q := am_go L mt_S_dissolveSettled (fun h => by cases h) k_S_dissolveSettled_0 n 0 ls st M Q o_S_dissolveSettled_0 h
def k_S_dissolveSettled_9 : List am_I := [(.iconst 0, 1, 0, 0, 0), (.istore_n 2, 1, 0, 0, 0), (.iconst 0, 1, 0, 0, 0), (.istore_n 3, 1, 0, 0, 0)]
set_option maxRecDepth 20000 in
theorem o_S_dissolveSettled_9 : am_okB mt_S_dissolveSettled 9 k_S_dissolveSettled_9 = true := by decide +kernel
theorem g_S_dissolveSettled_9 {L : am_S} {n : Nat} {ls st : List Value} {M : am_M} {Q : am_Q} (h : am_B L mt_S_dissolveSettled k_S_dissolveSettled_9 n 9 ls st M Q) : am_R L mt_S_dissolveSettled n 9 ls st M Q := am_go L mt_S_dissolveSettled (fun h => by cases h) k_S_dissolveSettled_9 n 9 ls st M Q o_S_dissolveSettled_9 h
def k_S_dissolveSettled_13 : List am_I := [(.iload_n 3, 1, 0, 0, 0), (.iconst 3, 1, 0, 0, 0), (.if_icmp .ge 87, 3, 0, 0, 0), (.bipush 15, 2, 0, 0, 0), (.iload_n 1, 1, 0, 0, 0), (.iconst 3, 1, 0, 0, 0), (.imul, 1, 0, 0, 0), (.iadd, 1, 0, 0, 0), (.iload_n 3, 1, 0, 0, 0), (.iadd, 1, 0, 0, 0), (.istore 4, 2, 0, 0, 0), (.bipush 30, 2, 0, 0, 0), (.iload_n 1, 1, 0, 0, 0), (.iconst 3, 1, 0, 0, 0), (.imul, 1, 0, 0, 0), (.iadd, 1, 0, 0, 0), (.iload_n 3, 1, 0, 0, 0), (.iadd, 1, 0, 0, 0), (.istore 5, 2, 0, 0, 0), (.aload_n 0, 1, 0, 0, 0), (.getfield 9, 3, 1, 0, 98), (.iload 5, 2, 0, 0, 0), (.iaload, 1, 0, 0, 0), (.iconst 0, 1, 0, 0, 0), (.aload_n 0, 1, 0, 0, 0), (.iload_n 1, 1, 0, 0, 0), (.invokevirtual 31, 3, 5, 2, 319), (.aload_n 0, 1, 0, 0, 0), (.getfield 9, 3, 1, 0, 98), (.iload 4, 2, 0, 0, 0), (.iaload, 1, 0, 0, 0), (.isub, 1, 0, 0, 0), (.invokestatic 48, 3, 201, 2, 566), (.invokestatic 54, 3, 200, 2, 308), (.istore 6, 2, 0, 0, 0), (.aload_n 0, 1, 0, 0, 0), (.getfield 9, 3, 1, 0, 98), (.iload 5, 2, 0, 0, 0), (.dup2, 1, 0, 0, 0), (.iaload, 1, 0, 0, 0), (.iload 6, 2, 0, 0, 0), (.isub, 1, 0, 0, 0), (.iastore, 1, 0, 0, 0), (.aload_n 0, 1, 0, 0, 0), (.getfield 9, 3, 1, 0, 98), (.iload 4, 2, 0, 0, 0), (.dup2, 1, 0, 0, 0), (.iaload, 1, 0, 0, 0), (.iload 6, 2, 0, 0, 0), (.iadd, 1, 0, 0, 0), (.iastore, 1, 0, 0, 0), (.iload_n 2, 1, 0, 0, 0), (.iload 6, 2, 0, 0, 0), (.iadd, 1, 0, 0, 0), (.istore_n 2, 1, 0, 0, 0), (.iinc 3 1, 3, 0, 0, 0), (.goto (-86), 3, 0, 0, 0)]
set_option maxRecDepth 20000 in
theorem o_S_dissolveSettled_13 : am_okB mt_S_dissolveSettled 13 k_S_dissolveSettled_13 = true := by decide +kernel
theorem g_S_dissolveSettled_13 {L : am_S} {n : Nat} {ls st : List Value} {M : am_M} {Q : am_Q} (h : am_B L mt_S_dissolveSettled k_S_dissolveSettled_13 n 13 ls st M Q) : am_R L mt_S_dissolveSettled n 13 ls st M Q := am_go L mt_S_dissolveSettled (fun h => by cases h) k_S_dissolveSettled_13 n 13 ls st M Q o_S_dissolveSettled_13 h
def k_S_dissolveSettled_102 : List am_I := [(.iload_n 2, 1, 0, 0, 0), (.ireturn, 1, 0, 0, 0)]
set_option maxRecDepth 20000 in
theorem o_S_dissolveSettled_102 : am_okB mt_S_dissolveSettled 102 k_S_dissolveSettled_102 = true := by decide +kernel
theorem g_S_dissolveSettled_102 {L : am_S} {n : Nat} {ls st : List Value} {M : am_M} {Q : am_Q} (h : am_B L mt_S_dissolveSettled k_S_dissolveSettled_102 n 102 ls st M Q) : am_R L mt_S_dissolveSettled n 102 ls st M Q := am_go L mt_S_dissolveSettled (fun h => by cases h) k_S_dissolveSettled_102 n 102 ls st M Q o_S_dissolveSettled_102 h
def k_S_runHours_0 : List am_I := [(.iconst 0, 1, 0, 0, 0), (.istore_n 2, 1, 0, 0, 0)]
set_option maxRecDepth 20000 in
theorem o_S_runHours_0 : am_okB mt_S_runHours 0 k_S_runHours_0 = true := by decide +kernel
theorem g_S_runHours_0 {L : am_S} {n : Nat} {ls st : List Value} {M : am_M} {Q : am_Q} (h : am_B L mt_S_runHours k_S_runHours_0 n 0 ls st M Q) : am_R L mt_S_runHours n 0 ls st M Q := am_go L mt_S_runHours (fun h => by cases h) k_S_runHours_0 n 0 ls st M Q o_S_runHours_0 h
def k_S_runHours_2 : List am_I := [(.iload_n 2, 1, 0, 0, 0), (.iload_n 1, 1, 0, 0, 0), (.if_icmp .ge 32, 3, 0, 0, 0), (.aload_n 0, 1, 0, 0, 0), (.invokevirtual 57, 3, 15, 1, 289), (.aload_n 0, 1, 0, 0, 0), (.invokevirtual 60, 3, 16, 1, 311), (.aload_n 0, 1, 0, 0, 0), (.invokevirtual 63, 3, 17, 1, 315), (.aload_n 0, 1, 0, 0, 0), (.getfield 9, 3, 1, 0, 98), (.bipush 52, 2, 0, 0, 0), (.dup2, 1, 0, 0, 0), (.iaload, 1, 0, 0, 0), (.iconst 1, 1, 0, 0, 0), (.iadd, 1, 0, 0, 0), (.iastore, 1, 0, 0, 0), (.iinc 2 1, 3, 0, 0, 0), (.goto (-31), 3, 0, 0, 0)]
set_option maxRecDepth 20000 in
theorem o_S_runHours_2 : am_okB mt_S_runHours 2 k_S_runHours_2 = true := by decide +kernel
theorem g_S_runHours_2 {L : am_S} {n : Nat} {ls st : List Value} {M : am_M} {Q : am_Q} (h : am_B L mt_S_runHours k_S_runHours_2 n 2 ls st M Q) : am_R L mt_S_runHours n 2 ls st M Q := am_go L mt_S_runHours (fun h => by cases h) k_S_runHours_2 n 2 ls st M Q o_S_runHours_2 h
def k_S_runHours_36 : List am_I := [(.return_, 1, 0, 0, 0)]
set_option maxRecDepth 20000 in
theorem o_S_runHours_36 : am_okB mt_S_runHours 36 k_S_runHours_36 = true := by decide +kernel
theorem g_S_runHours_36 {L : am_S} {n : Nat} {ls st : List Value} {M : am_M} {Q : am_Q} (h : am_B L mt_S_runHours k_S_runHours_36 n 36 ls st M Q) : am_R L mt_S_runHours n 36 ls st M Q := am_go L mt_S_runHours (fun h => by cases h) k_S_runHours_36 n 36 ls st M Q o_S_runHours_36 h
def k_S_runValves_0 : List am_I := [(.aload_n 0, 1, 0, 0, 0), (.invokevirtual 34, 3, 4, 1, 293), (.istore_n 1, 1, 0, 0, 0), (.iconst 0, 1, 0, 0, 0), (.istore_n 2, 1, 0, 0, 0)]
set_option maxRecDepth 20000 in
theorem o_S_runValves_0 : am_okB mt_S_runValves 0 k_S_runValves_0 = true := by decide +kernel
theorem g_S_runValves_0 {L : am_S} {n : Nat} {ls st : List Value} {M : am_M} {Q : am_Q} (h : am_B L mt_S_runValves k_S_runValves_0 n 0 ls st M Q) : am_R L mt_S_runValves n 0 ls st M Q := am_go L mt_S_runValves (fun h => by cases h) k_S_runValves_0 n 0 ls st M Q o_S_runValves_0 h
def k_S_runValves_7 : List am_I := [(.iload_n 2, 1, 0, 0, 0), (.aload_n 0, 1, 0, 0, 0), (.getfield 9, 3, 1, 0, 98), (.bipush 56, 2, 0, 0, 0), (.iaload, 1, 0, 0, 0), (.if_icmp .ge 71, 3, 0, 0, 0), (.iload_n 2, 1, 0, 0, 0), (.bipush 8, 2, 0, 0, 0), (.if_icmp .ge 65, 3, 0, 0, 0), (.bipush 57, 2, 0, 0, 0), (.iload_n 2, 1, 0, 0, 0), (.bipush 6, 2, 0, 0, 0), (.imul, 1, 0, 0, 0), (.iadd, 1, 0, 0, 0), (.istore_n 3, 1, 0, 0, 0), (.aload_n 0, 1, 0, 0, 0), (.iload_n 3, 1, 0, 0, 0), (.iload_n 1, 1, 0, 0, 0), (.invokevirtual 38, 3, 19, 3, 297), (.ifCond .eq 42, 3, 0, 0, 0), (.aload_n 0, 1, 0, 0, 0), (.getfield 9, 3, 1, 0, 98), (.iload_n 3, 1, 0, 0, 0), (.iconst 5, 1, 0, 0, 0), (.iadd, 1, 0, 0, 0), (.dup2, 1, 0, 0, 0), (.iaload, 1, 0, 0, 0), (.aload_n 0, 1, 0, 0, 0), (.aload_n 0, 1, 0, 0, 0), (.getfield 9, 3, 1, 0, 98), (.iload_n 3, 1, 0, 0, 0), (.iconst 0, 1, 0, 0, 0), (.iadd, 1, 0, 0, 0), (.iaload, 1, 0, 0, 0), (.aload_n 0, 1, 0, 0, 0), (.getfield 9, 3, 1, 0, 98), (.iload_n 3, 1, 0, 0, 0), (.iconst 1, 1, 0, 0, 0), (.iadd, 1, 0, 0, 0), (.iaload, 1, 0, 0, 0), (.aload_n 0, 1, 0, 0, 0), (.getfield 9, 3, 1, 0, 98), (.iload_n 3, 1, 0, 0, 0), (.iconst 2, 1, 0, 0, 0), (.iadd, 1, 0, 0, 0), (.iaload, 1, 0, 0, 0), (.invokevirtual 66, 3, 18, 4, 301), (.iadd, 1, 0, 0, 0), (.iastore, 1, 0, 0, 0)]
set_option maxRecDepth 20000 in
theorem o_S_runValves_7 : am_okB mt_S_runValves 7 k_S_runValves_7 = true := by decide +kernel
theorem g_S_runValves_7 {L : am_S} {n : Nat} {ls st : List Value} {M : am_M} {Q : am_Q} (h : am_B L mt_S_runValves k_S_runValves_7 n 7 ls st M Q) : am_R L mt_S_runValves n 7 ls st M Q := am_go L mt_S_runValves (fun h => by cases h) k_S_runValves_7 n 7 ls st M Q o_S_runValves_7 h
def k_S_runValves_80 : List am_I := [(.iinc 2 1, 3, 0, 0, 0), (.goto (-76), 3, 0, 0, 0)]
set_option maxRecDepth 20000 in
theorem o_S_runValves_80 : am_okB mt_S_runValves 80 k_S_runValves_80 = true := by decide +kernel
theorem g_S_runValves_80 {L : am_S} {n : Nat} {ls st : List Value} {M : am_M} {Q : am_Q} (h : am_B L mt_S_runValves k_S_runValves_80 n 80 ls st M Q) : am_R L mt_S_runValves n 80 ls st M Q := am_go L mt_S_runValves (fun h => by cases h) k_S_runValves_80 n 80 ls st M Q o_S_runValves_80 h
def k_S_runValves_86 : List am_I := [(.return_, 1, 0, 0, 0)]
set_option maxRecDepth 20000 in
theorem o_S_runValves_86 : am_okB mt_S_runValves 86 k_S_runValves_86 = true := by decide +kernel
theorem g_S_runValves_86 {L : am_S} {n : Nat} {ls st : List Value} {M : am_M} {Q : am_Q} (h : am_B L mt_S_runValves k_S_runValves_86 n 86 ls st M Q) : am_R L mt_S_runValves n 86 ls st M Q := am_go L mt_S_runValves (fun h => by cases h) k_S_runValves_86 n 86 ls st M Q o_S_runValves_86 h
def k_S_levelPipes_0 : List am_I := [(.iconst 0, 1, 0, 0, 0), (.istore_n 1, 1, 0, 0, 0)]
set_option maxRecDepth 20000 in
theorem o_S_levelPipes_0 : am_okB mt_S_levelPipes 0 k_S_levelPipes_0 = true := by decide +kernel
theorem g_S_levelPipes_0 {L : am_S} {n : Nat} {ls st : List Value} {M : am_M} {Q : am_Q} (h : am_B L mt_S_levelPipes k_S_levelPipes_0 n 0 ls st M Q) : am_R L mt_S_levelPipes n 0 ls st M Q := am_go L mt_S_levelPipes (fun h => by cases h) k_S_levelPipes_0 n 0 ls st M Q o_S_levelPipes_0 h
def k_S_levelPipes_2 : List am_I := [(.iload_n 1, 1, 0, 0, 0), (.iconst 5, 1, 0, 0, 0), (.if_icmp .ge 94, 3, 0, 0, 0), (.aload_n 0, 1, 0, 0, 0), (.getfield 9, 3, 1, 0, 98), (.iconst 5, 1, 0, 0, 0), (.iload_n 1, 1, 0, 0, 0), (.iadd, 1, 0, 0, 0), (.iaload, 1, 0, 0, 0), (.istore_n 2, 1, 0, 0, 0), (.iload_n 1, 1, 0, 0, 0), (.iconst 1, 1, 0, 0, 0), (.iadd, 1, 0, 0, 0), (.istore_n 3, 1, 0, 0, 0)]
set_option maxRecDepth 20000 in
theorem o_S_levelPipes_2 : am_okB mt_S_levelPipes 2 k_S_levelPipes_2 = true := by decide +kernel
theorem g_S_levelPipes_2 {L : am_S} {n : Nat} {ls st : List Value} {M : am_M} {Q : am_Q} (h : am_B L mt_S_levelPipes k_S_levelPipes_2 n 2 ls st M Q) : am_R L mt_S_levelPipes n 2 ls st M Q := am_go L mt_S_levelPipes (fun h => by cases h) k_S_levelPipes_2 n 2 ls st M Q o_S_levelPipes_2 h
def k_S_levelPipes_20 : List am_I := [(.iload_n 3, 1, 0, 0, 0), (.iconst 5, 1, 0, 0, 0), (.if_icmp .ge 70, 3, 0, 0, 0), (.iload_n 2, 1, 0, 0, 0), (.iload_n 3, 1, 0, 0, 0), (.ishr, 1, 0, 0, 0), (.iconst 1, 1, 0, 0, 0), (.iand, 1, 0, 0, 0), (.iconst 1, 1, 0, 0, 0), (.if_icmp .ne 55, 3, 0, 0, 0), (.aload_n 0, 1, 0, 0, 0), (.getfield 9, 3, 1, 0, 98), (.bipush 10, 2, 0, 0, 0), (.iload_n 1, 1, 0, 0, 0), (.iadd, 1, 0, 0, 0), (.iaload, 1, 0, 0, 0), (.aload_n 0, 1, 0, 0, 0), (.getfield 9, 3, 1, 0, 98), (.bipush 10, 2, 0, 0, 0), (.iload_n 3, 1, 0, 0, 0), (.iadd, 1, 0, 0, 0), (.iaload, 1, 0, 0, 0), (.isub, 1, 0, 0, 0), (.istore 4, 2, 0, 0, 0), (.iload 4, 2, 0, 0, 0), (.ifCond .lt 17, 3, 0, 0, 0), (.aload_n 0, 1, 0, 0, 0), (.iload_n 1, 1, 0, 0, 0), (.iload_n 3, 1, 0, 0, 0), (.iload 4, 2, 0, 0, 0), (.iconst 2, 1, 0, 0, 0), (.idiv, 1, 0, 0, 0), (.invokevirtual 66, 3, 18, 4, 301), (.pop, 1, 0, 0, 0), (.goto 15, 3, 0, 0, 0)]
set_option maxRecDepth 20000 in
theorem o_S_levelPipes_20 : am_okB mt_S_levelPipes 20 k_S_levelPipes_20 = true := by decide +kernel
theorem g_S_levelPipes_20 {L : am_S} {n : Nat} {ls st : List Value} {M : am_M} {Q : am_Q} (h : am_B L mt_S_levelPipes k_S_levelPipes_20 n 20 ls st M Q) : am_R L mt_S_levelPipes n 20 ls st M Q := am_go L mt_S_levelPipes (fun h => by cases h) k_S_levelPipes_20 n 20 ls st M Q o_S_levelPipes_20 h
def k_S_levelPipes_74 : List am_I := [(.aload_n 0, 1, 0, 0, 0), (.iload_n 3, 1, 0, 0, 0), (.iload_n 1, 1, 0, 0, 0), (.iload 4, 2, 0, 0, 0), (.ineg, 1, 0, 0, 0), (.iconst 2, 1, 0, 0, 0), (.idiv, 1, 0, 0, 0), (.invokevirtual 66, 3, 18, 4, 301), (.pop, 1, 0, 0, 0)]
set_option maxRecDepth 20000 in
theorem o_S_levelPipes_74 : am_okB mt_S_levelPipes 74 k_S_levelPipes_74 = true := by decide +kernel
theorem g_S_levelPipes_74 {L : am_S} {n : Nat} {ls st : List Value} {M : am_M} {Q : am_Q} (h : am_B L mt_S_levelPipes k_S_levelPipes_74 n 74 ls st M Q) : am_R L mt_S_levelPipes n 74 ls st M Q := am_go L mt_S_levelPipes (fun h => by cases h) k_S_levelPipes_74 n 74 ls st M Q o_S_levelPipes_74 h
def k_S_levelPipes_86 : List am_I := [(.iinc 3 1, 3, 0, 0, 0), (.goto (-69), 3, 0, 0, 0)]
set_option maxRecDepth 20000 in
theorem o_S_levelPipes_86 : am_okB mt_S_levelPipes 86 k_S_levelPipes_86 = true := by decide +kernel
theorem g_S_levelPipes_86 {L : am_S} {n : Nat} {ls st : List Value} {M : am_M} {Q : am_Q} (h : am_B L mt_S_levelPipes k_S_levelPipes_86 n 86 ls st M Q) : am_R L mt_S_levelPipes n 86 ls st M Q := am_go L mt_S_levelPipes (fun h => by cases h) k_S_levelPipes_86 n 86 ls st M Q o_S_levelPipes_86 h
def k_S_levelPipes_92 : List am_I := [(.iinc 1 1, 3, 0, 0, 0), (.goto (-93), 3, 0, 0, 0)]
set_option maxRecDepth 20000 in
theorem o_S_levelPipes_92 : am_okB mt_S_levelPipes 92 k_S_levelPipes_92 = true := by decide +kernel
theorem g_S_levelPipes_92 {L : am_S} {n : Nat} {ls st : List Value} {M : am_M} {Q : am_Q} (h : am_B L mt_S_levelPipes k_S_levelPipes_92 n 92 ls st M Q) : am_R L mt_S_levelPipes n 92 ls st M Q := am_go L mt_S_levelPipes (fun h => by cases h) k_S_levelPipes_92 n 92 ls st M Q o_S_levelPipes_92 h
def k_S_levelPipes_98 : List am_I := [(.return_, 1, 0, 0, 0)]
set_option maxRecDepth 20000 in
theorem o_S_levelPipes_98 : am_okB mt_S_levelPipes 98 k_S_levelPipes_98 = true := by decide +kernel
theorem g_S_levelPipes_98 {L : am_S} {n : Nat} {ls st : List Value} {M : am_M} {Q : am_Q} (h : am_B L mt_S_levelPipes k_S_levelPipes_98 n 98 ls st M Q) : am_R L mt_S_levelPipes n 98 ls st M Q := am_go L mt_S_levelPipes (fun h => by cases h) k_S_levelPipes_98 n 98 ls st M Q o_S_levelPipes_98 h
def k_S_settleGrains_0 : List am_I := [(.iconst 0, 1, 0, 0, 0), (.istore_n 1, 1, 0, 0, 0)]
set_option maxRecDepth 20000 in
theorem o_S_settleGrains_0 : am_okB mt_S_settleGrains 0 k_S_settleGrains_0 = true := by decide +kernel
theorem g_S_settleGrains_0 {L : am_S} {n : Nat} {ls st : List Value} {M : am_M} {Q : am_Q} (h : am_B L mt_S_settleGrains k_S_settleGrains_0 n 0 ls st M Q) : am_R L mt_S_settleGrains n 0 ls st M Q := am_go L mt_S_settleGrains (fun h => by cases h) k_S_settleGrains_0 n 0 ls st M Q o_S_settleGrains_0 h
def k_S_settleGrains_2 : List am_I := [(.iload_n 1, 1, 0, 0, 0), (.iconst 5, 1, 0, 0, 0), (.if_icmp .ge 84, 3, 0, 0, 0), (.aload_n 0, 1, 0, 0, 0), (.iload_n 1, 1, 0, 0, 0), (.invokevirtual 31, 3, 5, 2, 319), (.istore_n 2, 1, 0, 0, 0), (.iconst 0, 1, 0, 0, 0), (.istore_n 3, 1, 0, 0, 0)]
set_option maxRecDepth 20000 in
theorem o_S_settleGrains_2 : am_okB mt_S_settleGrains 2 k_S_settleGrains_2 = true := by decide +kernel
theorem g_S_settleGrains_2 {L : am_S} {n : Nat} {ls st : List Value} {M : am_M} {Q : am_Q} (h : am_B L mt_S_settleGrains k_S_settleGrains_2 n 2 ls st M Q) : am_R L mt_S_settleGrains n 2 ls st M Q := am_go L mt_S_settleGrains (fun h => by cases h) k_S_settleGrains_2 n 2 ls st M Q o_S_settleGrains_2 h
def k_S_settleGrains_15 : List am_I := [(.iload_n 3, 1, 0, 0, 0), (.iconst 3, 1, 0, 0, 0), (.if_icmp .ge 65, 3, 0, 0, 0), (.bipush 15, 2, 0, 0, 0), (.iload_n 1, 1, 0, 0, 0), (.iconst 3, 1, 0, 0, 0), (.imul, 1, 0, 0, 0), (.iadd, 1, 0, 0, 0), (.iload_n 3, 1, 0, 0, 0), (.iadd, 1, 0, 0, 0), (.istore 4, 2, 0, 0, 0), (.aload_n 0, 1, 0, 0, 0), (.getfield 9, 3, 1, 0, 98), (.iload 4, 2, 0, 0, 0), (.iaload, 1, 0, 0, 0), (.iload_n 2, 1, 0, 0, 0), (.isub, 1, 0, 0, 0), (.istore 5, 2, 0, 0, 0), (.iload 5, 2, 0, 0, 0), (.ifCond .le 33, 3, 0, 0, 0), (.aload_n 0, 1, 0, 0, 0), (.getfield 9, 3, 1, 0, 98), (.iload 4, 2, 0, 0, 0), (.dup2, 1, 0, 0, 0), (.iaload, 1, 0, 0, 0), (.iload 5, 2, 0, 0, 0), (.isub, 1, 0, 0, 0), (.iastore, 1, 0, 0, 0), (.aload_n 0, 1, 0, 0, 0), (.getfield 9, 3, 1, 0, 98), (.bipush 30, 2, 0, 0, 0), (.iload_n 1, 1, 0, 0, 0), (.iconst 3, 1, 0, 0, 0), (.imul, 1, 0, 0, 0), (.iadd, 1, 0, 0, 0), (.iload_n 3, 1, 0, 0, 0), (.iadd, 1, 0, 0, 0), (.dup2, 1, 0, 0, 0), (.iaload, 1, 0, 0, 0), (.iload 5, 2, 0, 0, 0), (.iadd, 1, 0, 0, 0), (.iastore, 1, 0, 0, 0)]
set_option maxRecDepth 20000 in
theorem o_S_settleGrains_15 : am_okB mt_S_settleGrains 15 k_S_settleGrains_15 = true := by decide +kernel
theorem g_S_settleGrains_15 {L : am_S} {n : Nat} {ls st : List Value} {M : am_M} {Q : am_Q} (h : am_B L mt_S_settleGrains k_S_settleGrains_15 n 15 ls st M Q) : am_R L mt_S_settleGrains n 15 ls st M Q := am_go L mt_S_settleGrains (fun h => by cases h) k_S_settleGrains_15 n 15 ls st M Q o_S_settleGrains_15 h
def k_S_settleGrains_76 : List am_I := [(.iinc 3 1, 3, 0, 0, 0), (.goto (-64), 3, 0, 0, 0)]
set_option maxRecDepth 20000 in
theorem o_S_settleGrains_76 : am_okB mt_S_settleGrains 76 k_S_settleGrains_76 = true := by decide +kernel
theorem g_S_settleGrains_76 {L : am_S} {n : Nat} {ls st : List Value} {M : am_M} {Q : am_Q} (h : am_B L mt_S_settleGrains k_S_settleGrains_76 n 76 ls st M Q) : am_R L mt_S_settleGrains n 76 ls st M Q := am_go L mt_S_settleGrains (fun h => by cases h) k_S_settleGrains_76 n 76 ls st M Q o_S_settleGrains_76 h
def k_S_settleGrains_82 : List am_I := [(.iinc 1 1, 3, 0, 0, 0), (.goto (-83), 3, 0, 0, 0)]
set_option maxRecDepth 20000 in
theorem o_S_settleGrains_82 : am_okB mt_S_settleGrains 82 k_S_settleGrains_82 = true := by decide +kernel
theorem g_S_settleGrains_82 {L : am_S} {n : Nat} {ls st : List Value} {M : am_M} {Q : am_Q} (h : am_B L mt_S_settleGrains k_S_settleGrains_82 n 82 ls st M Q) : am_R L mt_S_settleGrains n 82 ls st M Q := am_go L mt_S_settleGrains (fun h => by cases h) k_S_settleGrains_82 n 82 ls st M Q o_S_settleGrains_82 h
def k_S_settleGrains_88 : List am_I := [(.return_, 1, 0, 0, 0)]
set_option maxRecDepth 20000 in
theorem o_S_settleGrains_88 : am_okB mt_S_settleGrains 88 k_S_settleGrains_88 = true := by decide +kernel
theorem g_S_settleGrains_88 {L : am_S} {n : Nat} {ls st : List Value} {M : am_M} {Q : am_Q} (h : am_B L mt_S_settleGrains k_S_settleGrains_88 n 88 ls st M Q) : am_R L mt_S_settleGrains n 88 ls st M Q := am_go L mt_S_settleGrains (fun h => by cases h) k_S_settleGrains_88 n 88 ls st M Q o_S_settleGrains_88 h
def k_S_moveWater_0 : List am_I := [(.iload_n 1, 1, 0, 0, 0), (.invokestatic 21, 3, 22, 1, 305), (.ifCond .eq 15, 3, 0, 0, 0), (.iload_n 2, 1, 0, 0, 0), (.iconst 5, 1, 0, 0, 0), (.if_icmp .eq 12, 3, 0, 0, 0), (.iload_n 2, 1, 0, 0, 0), (.invokestatic 21, 3, 22, 1, 305), (.ifCond .ne 5, 3, 0, 0, 0)]
set_option maxRecDepth 20000 in
theorem o_S_moveWater_0 : am_okB mt_S_moveWater 0 k_S_moveWater_0 = true := by decide +kernel
theorem g_S_moveWater_0 {L : am_S} {n : Nat} {ls st : List Value} {M : am_M} {Q : am_Q} (h : am_B L mt_S_moveWater k_S_moveWater_0 n 0 ls st M Q) : am_R L mt_S_moveWater n 0 ls st M Q := am_go L mt_S_moveWater (fun h => by cases h) k_S_moveWater_0 n 0 ls st M Q o_S_moveWater_0 h
def k_S_moveWater_19 : List am_I := [(.iconst 0, 1, 0, 0, 0), (.ireturn, 1, 0, 0, 0)]
set_option maxRecDepth 20000 in
theorem o_S_moveWater_19 : am_okB mt_S_moveWater 19 k_S_moveWater_19 = true := by decide +kernel
theorem g_S_moveWater_19 {L : am_S} {n : Nat} {ls st : List Value} {M : am_M} {Q : am_Q} (h : am_B L mt_S_moveWater k_S_moveWater_19 n 19 ls st M Q) : am_R L mt_S_moveWater n 19 ls st M Q := am_go L mt_S_moveWater (fun h => by cases h) k_S_moveWater_19 n 19 ls st M Q o_S_moveWater_19 h
def k_S_moveWater_21 : List am_I := [(.aload_n 0, 1, 0, 0, 0), (.getfield 9, 3, 1, 0, 98), (.bipush 10, 2, 0, 0, 0), (.iload_n 1, 1, 0, 0, 0), (.iadd, 1, 0, 0, 0), (.iaload, 1, 0, 0, 0), (.istore 4, 2, 0, 0, 0), (.iload_n 3, 1, 0, 0, 0), (.iload 4, 2, 0, 0, 0), (.invokestatic 54, 3, 200, 2, 308), (.istore 5, 2, 0, 0, 0), (.iload_n 2, 1, 0, 0, 0), (.iconst 5, 1, 0, 0, 0), (.if_icmp .eq 28, 3, 0, 0, 0), (.iload 5, 2, 0, 0, 0), (.aload_n 0, 1, 0, 0, 0), (.getfield 9, 3, 1, 0, 98), (.iconst 0, 1, 0, 0, 0), (.iload_n 2, 1, 0, 0, 0), (.iadd, 1, 0, 0, 0), (.iaload, 1, 0, 0, 0), (.aload_n 0, 1, 0, 0, 0), (.getfield 9, 3, 1, 0, 98), (.bipush 10, 2, 0, 0, 0), (.iload_n 2, 1, 0, 0, 0), (.iadd, 1, 0, 0, 0), (.iaload, 1, 0, 0, 0), (.isub, 1, 0, 0, 0), (.invokestatic 54, 3, 200, 2, 308), (.istore 5, 2, 0, 0, 0)]
set_option maxRecDepth 20000 in
theorem o_S_moveWater_21 : am_okB mt_S_moveWater 21 k_S_moveWater_21 = true := by decide +kernel
theorem g_S_moveWater_21 {L : am_S} {n : Nat} {ls st : List Value} {M : am_M} {Q : am_Q} (h : am_B L mt_S_moveWater k_S_moveWater_21 n 21 ls st M Q) : am_R L mt_S_moveWater n 21 ls st M Q := am_go L mt_S_moveWater (fun h => by cases h) k_S_moveWater_21 n 21 ls st M Q o_S_moveWater_21 h
def k_S_moveWater_70 : List am_I := [(.iload 4, 2, 0, 0, 0), (.ifCond .le 8, 3, 0, 0, 0), (.iload 5, 2, 0, 0, 0), (.ifCond .gt 5, 3, 0, 0, 0)]
set_option maxRecDepth 20000 in
theorem o_S_moveWater_70 : am_okB mt_S_moveWater 70 k_S_moveWater_70 = true := by decide +kernel
theorem g_S_moveWater_70 {L : am_S} {n : Nat} {ls st : List Value} {M : am_M} {Q : am_Q} (h : am_B L mt_S_moveWater k_S_moveWater_70 n 70 ls st M Q) : am_R L mt_S_moveWater n 70 ls st M Q := am_go L mt_S_moveWater (fun h => by cases h) k_S_moveWater_70 n 70 ls st M Q o_S_moveWater_70 h
def k_S_moveWater_80 : List am_I := [(.iconst 0, 1, 0, 0, 0), (.ireturn, 1, 0, 0, 0)]
set_option maxRecDepth 20000 in
theorem o_S_moveWater_80 : am_okB mt_S_moveWater 80 k_S_moveWater_80 = true := by decide +kernel
theorem g_S_moveWater_80 {L : am_S} {n : Nat} {ls st : List Value} {M : am_M} {Q : am_Q} (h : am_B L mt_S_moveWater k_S_moveWater_80 n 80 ls st M Q) : am_R L mt_S_moveWater n 80 ls st M Q := am_go L mt_S_moveWater (fun h => by cases h) k_S_moveWater_80 n 80 ls st M Q o_S_moveWater_80 h
def k_S_moveWater_82 : List am_I := [(.iconst 0, 1, 0, 0, 0), (.istore 6, 2, 0, 0, 0)]
set_option maxRecDepth 20000 in
theorem o_S_moveWater_82 : am_okB mt_S_moveWater 82 k_S_moveWater_82 = true := by decide +kernel
theorem g_S_moveWater_82 {L : am_S} {n : Nat} {ls st : List Value} {M : am_M} {Q : am_Q} (h : am_B L mt_S_moveWater k_S_moveWater_82 n 82 ls st M Q) : am_R L mt_S_moveWater n 82 ls st M Q := am_go L mt_S_moveWater (fun h => by cases h) k_S_moveWater_82 n 82 ls st M Q o_S_moveWater_82 h
def k_S_moveWater_85 : List am_I := [(.iload 6, 2, 0, 0, 0), (.iconst 3, 1, 0, 0, 0), (.if_icmp .ge 82, 3, 0, 0, 0), (.aload_n 0, 1, 0, 0, 0), (.getfield 9, 3, 1, 0, 98), (.bipush 15, 2, 0, 0, 0), (.iload_n 1, 1, 0, 0, 0), (.iconst 3, 1, 0, 0, 0), (.imul, 1, 0, 0, 0), (.iadd, 1, 0, 0, 0), (.iload 6, 2, 0, 0, 0), (.iadd, 1, 0, 0, 0), (.iaload, 1, 0, 0, 0), (.iload 5, 2, 0, 0, 0), (.imul, 1, 0, 0, 0), (.iload 4, 2, 0, 0, 0), (.idiv, 1, 0, 0, 0), (.istore 7, 2, 0, 0, 0), (.aload_n 0, 1, 0, 0, 0), (.getfield 9, 3, 1, 0, 98), (.bipush 15, 2, 0, 0, 0), (.iload_n 1, 1, 0, 0, 0), (.iconst 3, 1, 0, 0, 0), (.imul, 1, 0, 0, 0), (.iadd, 1, 0, 0, 0), (.iload 6, 2, 0, 0, 0), (.iadd, 1, 0, 0, 0), (.dup2, 1, 0, 0, 0), (.iaload, 1, 0, 0, 0), (.iload 7, 2, 0, 0, 0), (.isub, 1, 0, 0, 0), (.iastore, 1, 0, 0, 0), (.aload_n 0, 1, 0, 0, 0), (.getfield 9, 3, 1, 0, 98), (.iload_n 2, 1, 0, 0, 0), (.iconst 5, 1, 0, 0, 0), (.if_icmp .ne 11, 3, 0, 0, 0), (.bipush 48, 2, 0, 0, 0), (.iload 6, 2, 0, 0, 0), (.iadd, 1, 0, 0, 0), (.goto 12, 3, 0, 0, 0)]
set_option maxRecDepth 20000 in
theorem o_S_moveWater_85 : am_okB mt_S_moveWater 85 k_S_moveWater_85 = true := by decide +kernel
theorem g_S_moveWater_85 {L : am_S} {n : Nat} {ls st : List Value} {M : am_M} {Q : am_Q} (h : am_B L mt_S_moveWater k_S_moveWater_85 n 85 ls st M Q) : am_R L mt_S_moveWater n 85 ls st M Q := am_go L mt_S_moveWater (fun h => by cases h) k_S_moveWater_85 n 85 ls st M Q o_S_moveWater_85 h
def k_S_moveWater_149 : List am_I := [(.bipush 15, 2, 0, 0, 0), (.iload_n 2, 1, 0, 0, 0), (.iconst 3, 1, 0, 0, 0), (.imul, 1, 0, 0, 0), (.iadd, 1, 0, 0, 0), (.iload 6, 2, 0, 0, 0), (.iadd, 1, 0, 0, 0)]
set_option maxRecDepth 20000 in
theorem o_S_moveWater_149 : am_okB mt_S_moveWater 149 k_S_moveWater_149 = true := by decide +kernel
theorem g_S_moveWater_149 {L : am_S} {n : Nat} {ls st : List Value} {M : am_M} {Q : am_Q} (h : am_B L mt_S_moveWater k_S_moveWater_149 n 149 ls st M Q) : am_R L mt_S_moveWater n 149 ls st M Q := am_go L mt_S_moveWater (fun h => by cases h) k_S_moveWater_149 n 149 ls st M Q o_S_moveWater_149 h
def k_S_moveWater_158 : List am_I := [(.dup2, 1, 0, 0, 0), (.iaload, 1, 0, 0, 0), (.iload 7, 2, 0, 0, 0), (.iadd, 1, 0, 0, 0), (.iastore, 1, 0, 0, 0), (.iinc 6 1, 3, 0, 0, 0), (.goto (-82), 3, 0, 0, 0)]
set_option maxRecDepth 20000 in
theorem o_S_moveWater_158 : am_okB mt_S_moveWater 158 k_S_moveWater_158 = true := by decide +kernel
theorem g_S_moveWater_158 {L : am_S} {n : Nat} {ls st : List Value} {M : am_M} {Q : am_Q} (h : am_B L mt_S_moveWater k_S_moveWater_158 n 158 ls st M Q) : am_R L mt_S_moveWater n 158 ls st M Q := am_go L mt_S_moveWater (fun h => by cases h) k_S_moveWater_158 n 158 ls st M Q o_S_moveWater_158 h
def k_S_moveWater_170 : List am_I := [(.aload_n 0, 1, 0, 0, 0), (.getfield 9, 3, 1, 0, 98), (.bipush 10, 2, 0, 0, 0), (.iload_n 1, 1, 0, 0, 0), (.iadd, 1, 0, 0, 0), (.dup2, 1, 0, 0, 0), (.iaload, 1, 0, 0, 0), (.iload 5, 2, 0, 0, 0), (.isub, 1, 0, 0, 0), (.iastore, 1, 0, 0, 0), (.aload_n 0, 1, 0, 0, 0), (.getfield 9, 3, 1, 0, 98), (.iload_n 2, 1, 0, 0, 0), (.iconst 5, 1, 0, 0, 0), (.if_icmp .ne 8, 3, 0, 0, 0), (.bipush 54, 2, 0, 0, 0), (.goto 7, 3, 0, 0, 0)]
set_option maxRecDepth 20000 in
theorem o_S_moveWater_170 : am_okB mt_S_moveWater 170 k_S_moveWater_170 = true := by decide +kernel
theorem g_S_moveWater_170 {L : am_S} {n : Nat} {ls st : List Value} {M : am_M} {Q : am_Q} (h : am_B L mt_S_moveWater k_S_moveWater_170 n 170 ls st M Q) : am_R L mt_S_moveWater n 170 ls st M Q := am_go L mt_S_moveWater (fun h => by cases h) k_S_moveWater_170 n 170 ls st M Q o_S_moveWater_170 h
def k_S_moveWater_198 : List am_I := [(.bipush 10, 2, 0, 0, 0), (.iload_n 2, 1, 0, 0, 0), (.iadd, 1, 0, 0, 0)]
set_option maxRecDepth 20000 in
theorem o_S_moveWater_198 : am_okB mt_S_moveWater 198 k_S_moveWater_198 = true := by decide +kernel
theorem g_S_moveWater_198 {L : am_S} {n : Nat} {ls st : List Value} {M : am_M} {Q : am_Q} (h : am_B L mt_S_moveWater k_S_moveWater_198 n 198 ls st M Q) : am_R L mt_S_moveWater n 198 ls st M Q := am_go L mt_S_moveWater (fun h => by cases h) k_S_moveWater_198 n 198 ls st M Q o_S_moveWater_198 h
def k_S_moveWater_202 : List am_I := [(.dup2, 1, 0, 0, 0), (.iaload, 1, 0, 0, 0), (.iload 5, 2, 0, 0, 0), (.iadd, 1, 0, 0, 0), (.iastore, 1, 0, 0, 0), (.iload 5, 2, 0, 0, 0), (.ireturn, 1, 0, 0, 0)]
set_option maxRecDepth 20000 in
theorem o_S_moveWater_202 : am_okB mt_S_moveWater 202 k_S_moveWater_202 = true := by decide +kernel
theorem g_S_moveWater_202 {L : am_S} {n : Nat} {ls st : List Value} {M : am_M} {Q : am_Q} (h : am_B L mt_S_moveWater k_S_moveWater_202 n 202 ls st M Q) : am_R L mt_S_moveWater n 202 ls st M Q := am_go L mt_S_moveWater (fun h => by cases h) k_S_moveWater_202 n 202 ls st M Q o_S_moveWater_202 h
def k_S_isOpen_0 : List am_I := [(.iload_n 1, 1, 0, 0, 0), (.bipush 57, 2, 0, 0, 0), (.if_icmp .lt 39, 3, 0, 0, 0), (.iload_n 1, 1, 0, 0, 0), (.iconst 4, 1, 0, 0, 0), (.iadd, 1, 0, 0, 0), (.bipush 105, 2, 0, 0, 0), (.if_icmp .ge 31, 3, 0, 0, 0), (.iload_n 2, 1, 0, 0, 0), (.aload_n 0, 1, 0, 0, 0), (.getfield 9, 3, 1, 0, 98), (.iload_n 1, 1, 0, 0, 0), (.iconst 3, 1, 0, 0, 0), (.iadd, 1, 0, 0, 0), (.iaload, 1, 0, 0, 0), (.if_icmp .lt 19, 3, 0, 0, 0), (.iload_n 2, 1, 0, 0, 0), (.aload_n 0, 1, 0, 0, 0), (.getfield 9, 3, 1, 0, 98), (.iload_n 1, 1, 0, 0, 0), (.iconst 4, 1, 0, 0, 0), (.iadd, 1, 0, 0, 0), (.iaload, 1, 0, 0, 0), (.if_icmp .gt 7, 3, 0, 0, 0), (.iconst 1, 1, 0, 0, 0), (.goto 4, 3, 0, 0, 0)]
set_option maxRecDepth 20000 in
theorem o_S_isOpen_0 : am_okB mt_S_isOpen 0 k_S_isOpen_0 = true := by decide +kernel
theorem g_S_isOpen_0 {L : am_S} {n : Nat} {ls st : List Value} {M : am_M} {Q : am_Q} (h : am_B L mt_S_isOpen k_S_isOpen_0 n 0 ls st M Q) : am_R L mt_S_isOpen n 0 ls st M Q := am_go L mt_S_isOpen (fun h => by cases h) k_S_isOpen_0 n 0 ls st M Q o_S_isOpen_0 h
def k_S_isOpen_42 : List am_I := [(.iconst 0, 1, 0, 0, 0)]
set_option maxRecDepth 20000 in
theorem o_S_isOpen_42 : am_okB mt_S_isOpen 42 k_S_isOpen_42 = true := by decide +kernel
theorem g_S_isOpen_42 {L : am_S} {n : Nat} {ls st : List Value} {M : am_M} {Q : am_Q} (h : am_B L mt_S_isOpen k_S_isOpen_42 n 42 ls st M Q) : am_R L mt_S_isOpen n 42 ls st M Q := am_go L mt_S_isOpen (fun h => by cases h) k_S_isOpen_42 n 42 ls st M Q o_S_isOpen_42 h
def k_S_isOpen_43 : List am_I := [(.ireturn, 1, 0, 0, 0)]
set_option maxRecDepth 20000 in
theorem o_S_isOpen_43 : am_okB mt_S_isOpen 43 k_S_isOpen_43 = true := by decide +kernel
theorem g_S_isOpen_43 {L : am_S} {n : Nat} {ls st : List Value} {M : am_M} {Q : am_Q} (h : am_B L mt_S_isOpen k_S_isOpen_43 n 43 ls st M Q) : am_R L mt_S_isOpen n 43 ls st M Q := am_go L mt_S_isOpen (fun h => by cases h) k_S_isOpen_43 n 43 ls st M Q o_S_isOpen_43 h
def k_S_grainsInAll_0 : List am_I := [(.iconst 0, 1, 0, 0, 0), (.istore_n 2, 1, 0, 0, 0), (.iconst 0, 1, 0, 0, 0), (.istore_n 3, 1, 0, 0, 0)]
set_option maxRecDepth 20000 in
theorem o_S_grainsInAll_0 : am_okB mt_S_grainsInAll 0 k_S_grainsInAll_0 = true := by decide +kernel
theorem g_S_grainsInAll_0 {L : am_S} {n : Nat} {ls st : List Value} {M : am_M} {Q : am_Q} (h : am_B L mt_S_grainsInAll k_S_grainsInAll_0 n 0 ls st M Q) : am_R L mt_S_grainsInAll n 0 ls st M Q := am_go L mt_S_grainsInAll (fun h => by cases h) k_S_grainsInAll_0 n 0 ls st M Q o_S_grainsInAll_0 h
def k_S_grainsInAll_4 : List am_I := [(.iload_n 3, 1, 0, 0, 0), (.iconst 5, 1, 0, 0, 0), (.if_icmp .ge 38, 3, 0, 0, 0), (.iload_n 1, 1, 0, 0, 0), (.iload_n 3, 1, 0, 0, 0), (.iconst 3, 1, 0, 0, 0), (.imul, 1, 0, 0, 0), (.iadd, 1, 0, 0, 0), (.istore 4, 2, 0, 0, 0), (.iload 4, 2, 0, 0, 0), (.ifCond .lt 20, 3, 0, 0, 0), (.iload 4, 2, 0, 0, 0), (.bipush 105, 2, 0, 0, 0), (.if_icmp .ge 13, 3, 0, 0, 0), (.iload_n 2, 1, 0, 0, 0), (.aload_n 0, 1, 0, 0, 0), (.getfield 9, 3, 1, 0, 98), (.iload 4, 2, 0, 0, 0), (.iaload, 1, 0, 0, 0), (.iadd, 1, 0, 0, 0), (.istore_n 2, 1, 0, 0, 0)]
set_option maxRecDepth 20000 in
theorem o_S_grainsInAll_4 : am_okB mt_S_grainsInAll 4 k_S_grainsInAll_4 = true := by decide +kernel
theorem g_S_grainsInAll_4 {L : am_S} {n : Nat} {ls st : List Value} {M : am_M} {Q : am_Q} (h : am_B L mt_S_grainsInAll k_S_grainsInAll_4 n 4 ls st M Q) : am_R L mt_S_grainsInAll n 4 ls st M Q := am_go L mt_S_grainsInAll (fun h => by cases h) k_S_grainsInAll_4 n 4 ls st M Q o_S_grainsInAll_4 h
def k_S_grainsInAll_38 : List am_I := [(.iinc 3 1, 3, 0, 0, 0), (.goto (-37), 3, 0, 0, 0)]
set_option maxRecDepth 20000 in
theorem o_S_grainsInAll_38 : am_okB mt_S_grainsInAll 38 k_S_grainsInAll_38 = true := by decide +kernel
theorem g_S_grainsInAll_38 {L : am_S} {n : Nat} {ls st : List Value} {M : am_M} {Q : am_Q} (h : am_B L mt_S_grainsInAll k_S_grainsInAll_38 n 38 ls st M Q) : am_R L mt_S_grainsInAll n 38 ls st M Q := am_go L mt_S_grainsInAll (fun h => by cases h) k_S_grainsInAll_38 n 38 ls st M Q o_S_grainsInAll_38 h
def k_S_grainsInAll_44 : List am_I := [(.iload_n 2, 1, 0, 0, 0), (.ireturn, 1, 0, 0, 0)]
set_option maxRecDepth 20000 in
theorem o_S_grainsInAll_44 : am_okB mt_S_grainsInAll 44 k_S_grainsInAll_44 = true := by decide +kernel
theorem g_S_grainsInAll_44 {L : am_S} {n : Nat} {ls st : List Value} {M : am_M} {Q : am_Q} (h : am_B L mt_S_grainsInAll k_S_grainsInAll_44 n 44 ls st M Q) : am_R L mt_S_grainsInAll n 44 ls st M Q := am_go L mt_S_grainsInAll (fun h => by cases h) k_S_grainsInAll_44 n 44 ls st M Q o_S_grainsInAll_44 h
def k_S_strongestVat_0 : List am_I := [(.iload_n 1, 1, 0, 0, 0), (.ifCond .lt 8, 3, 0, 0, 0), (.iload_n 1, 1, 0, 0, 0), (.iconst 3, 1, 0, 0, 0), (.if_icmp .lt 5, 3, 0, 0, 0)]
set_option maxRecDepth 20000 in
theorem o_S_strongestVat_0 : am_okB mt_S_strongestVat 0 k_S_strongestVat_0 = true := by decide +kernel
theorem g_S_strongestVat_0 {L : am_S} {n : Nat} {ls st : List Value} {M : am_M} {Q : am_Q} (h : am_B L mt_S_strongestVat k_S_strongestVat_0 n 0 ls st M Q) : am_R L mt_S_strongestVat n 0 ls st M Q := am_go L mt_S_strongestVat (fun h => by cases h) k_S_strongestVat_0 n 0 ls st M Q o_S_strongestVat_0 h
def k_S_strongestVat_9 : List am_I := [(.iconst (-1), 1, 0, 0, 0), (.ireturn, 1, 0, 0, 0)]
set_option maxRecDepth 20000 in
theorem o_S_strongestVat_9 : am_okB mt_S_strongestVat 9 k_S_strongestVat_9 = true := by decide +kernel
theorem g_S_strongestVat_9 {L : am_S} {n : Nat} {ls st : List Value} {M : am_M} {Q : am_Q} (h : am_B L mt_S_strongestVat k_S_strongestVat_9 n 9 ls st M Q) : am_R L mt_S_strongestVat n 9 ls st M Q := am_go L mt_S_strongestVat (fun h => by cases h) k_S_strongestVat_9 n 9 ls st M Q o_S_strongestVat_9 h
def k_S_strongestVat_11 : List am_I := [(.iconst (-1), 1, 0, 0, 0), (.istore_n 2, 1, 0, 0, 0), (.iconst 0, 1, 0, 0, 0), (.istore_n 3, 1, 0, 0, 0), (.iconst 1, 1, 0, 0, 0), (.istore 4, 2, 0, 0, 0), (.iconst 0, 1, 0, 0, 0), (.istore 5, 2, 0, 0, 0)]
set_option maxRecDepth 20000 in
theorem o_S_strongestVat_11 : am_okB mt_S_strongestVat 11 k_S_strongestVat_11 = true := by decide +kernel
theorem g_S_strongestVat_11 {L : am_S} {n : Nat} {ls st : List Value} {M : am_M} {Q : am_Q} (h : am_B L mt_S_strongestVat k_S_strongestVat_11 n 11 ls st M Q) : am_R L mt_S_strongestVat n 11 ls st M Q := am_go L mt_S_strongestVat (fun h => by cases h) k_S_strongestVat_11 n 11 ls st M Q o_S_strongestVat_11 h
def k_S_strongestVat_21 : List am_I := [(.iload 5, 2, 0, 0, 0), (.iconst 5, 1, 0, 0, 0), (.if_icmp .ge 69, 3, 0, 0, 0), (.aload_n 0, 1, 0, 0, 0), (.getfield 9, 3, 1, 0, 98), (.bipush 10, 2, 0, 0, 0), (.iload 5, 2, 0, 0, 0), (.iadd, 1, 0, 0, 0), (.iaload, 1, 0, 0, 0), (.istore 6, 2, 0, 0, 0), (.aload_n 0, 1, 0, 0, 0), (.getfield 9, 3, 1, 0, 98), (.bipush 15, 2, 0, 0, 0), (.iload 5, 2, 0, 0, 0), (.iconst 3, 1, 0, 0, 0), (.imul, 1, 0, 0, 0), (.iadd, 1, 0, 0, 0), (.iload_n 1, 1, 0, 0, 0), (.iadd, 1, 0, 0, 0), (.iaload, 1, 0, 0, 0), (.istore 7, 2, 0, 0, 0), (.iload 6, 2, 0, 0, 0), (.ifCond .le 30, 3, 0, 0, 0), (.iload_n 2, 1, 0, 0, 0), (.iconst (-1), 1, 0, 0, 0), (.if_icmp .eq 15, 3, 0, 0, 0), (.iload 7, 2, 0, 0, 0), (.iload 4, 2, 0, 0, 0), (.imul, 1, 0, 0, 0), (.iload_n 3, 1, 0, 0, 0), (.iload 6, 2, 0, 0, 0), (.imul, 1, 0, 0, 0), (.if_icmp .le 13, 3, 0, 0, 0)]
set_option maxRecDepth 20000 in
theorem o_S_strongestVat_21 : am_okB mt_S_strongestVat 21 k_S_strongestVat_21 = true := by decide +kernel
theorem g_S_strongestVat_21 {L : am_S} {n : Nat} {ls st : List Value} {M : am_M} {Q : am_Q} (h : am_B L mt_S_strongestVat k_S_strongestVat_21 n 21 ls st M Q) : am_R L mt_S_strongestVat n 21 ls st M Q := am_go L mt_S_strongestVat (fun h => by cases h) k_S_strongestVat_21 n 21 ls st M Q o_S_strongestVat_21 h
def k_S_strongestVat_77 : List am_I := [(.iload 5, 2, 0, 0, 0), (.istore_n 2, 1, 0, 0, 0), (.iload 7, 2, 0, 0, 0), (.istore_n 3, 1, 0, 0, 0), (.iload 6, 2, 0, 0, 0), (.istore 4, 2, 0, 0, 0)]
set_option maxRecDepth 20000 in
theorem o_S_strongestVat_77 : am_okB mt_S_strongestVat 77 k_S_strongestVat_77 = true := by decide +kernel
theorem g_S_strongestVat_77 {L : am_S} {n : Nat} {ls st : List Value} {M : am_M} {Q : am_Q} (h : am_B L mt_S_strongestVat k_S_strongestVat_77 n 77 ls st M Q) : am_R L mt_S_strongestVat n 77 ls st M Q := am_go L mt_S_strongestVat (fun h => by cases h) k_S_strongestVat_77 n 77 ls st M Q o_S_strongestVat_77 h
def k_S_strongestVat_87 : List am_I := [(.iinc 5 1, 3, 0, 0, 0), (.goto (-69), 3, 0, 0, 0)]
set_option maxRecDepth 20000 in
theorem o_S_strongestVat_87 : am_okB mt_S_strongestVat 87 k_S_strongestVat_87 = true := by decide +kernel
theorem g_S_strongestVat_87 {L : am_S} {n : Nat} {ls st : List Value} {M : am_M} {Q : am_Q} (h : am_B L mt_S_strongestVat k_S_strongestVat_87 n 87 ls st M Q) : am_R L mt_S_strongestVat n 87 ls st M Q := am_go L mt_S_strongestVat (fun h => by cases h) k_S_strongestVat_87 n 87 ls st M Q o_S_strongestVat_87 h
def k_S_strongestVat_93 : List am_I := [(.iload_n 2, 1, 0, 0, 0), (.ireturn, 1, 0, 0, 0)]
set_option maxRecDepth 20000 in
theorem o_S_strongestVat_93 : am_okB mt_S_strongestVat 93 k_S_strongestVat_93 = true := by decide +kernel
theorem g_S_strongestVat_93 {L : am_S} {n : Nat} {ls st : List Value} {M : am_M} {Q : am_Q} (h : am_B L mt_S_strongestVat k_S_strongestVat_93 n 93 ls st M Q) : am_R L mt_S_strongestVat n 93 ls st M Q := am_go L mt_S_strongestVat (fun h => by cases h) k_S_strongestVat_93 n 93 ls st M Q o_S_strongestVat_93 h
def k_S_isVat_0 : List am_I := [(.iload_n 0, 1, 0, 0, 0), (.ifCond .lt 12, 3, 0, 0, 0), (.iload_n 0, 1, 0, 0, 0), (.iconst 5, 1, 0, 0, 0), (.if_icmp .ge 7, 3, 0, 0, 0), (.iconst 1, 1, 0, 0, 0), (.goto 4, 3, 0, 0, 0)]
set_option maxRecDepth 20000 in
theorem o_S_isVat_0 : am_okB mt_S_isVat 0 k_S_isVat_0 = true := by decide +kernel
theorem g_S_isVat_0 {L : am_S} {n : Nat} {ls st : List Value} {M : am_M} {Q : am_Q} (h : am_B L mt_S_isVat k_S_isVat_0 n 0 ls st M Q) : am_R L mt_S_isVat n 0 ls st M Q := am_go L mt_S_isVat (fun h => by cases h) k_S_isVat_0 n 0 ls st M Q o_S_isVat_0 h
def k_S_isVat_13 : List am_I := [(.iconst 0, 1, 0, 0, 0)]
set_option maxRecDepth 20000 in
theorem o_S_isVat_13 : am_okB mt_S_isVat 13 k_S_isVat_13 = true := by decide +kernel
theorem g_S_isVat_13 {L : am_S} {n : Nat} {ls st : List Value} {M : am_M} {Q : am_Q} (h : am_B L mt_S_isVat k_S_isVat_13 n 13 ls st M Q) : am_R L mt_S_isVat n 13 ls st M Q := am_go L mt_S_isVat (fun h => by cases h) k_S_isVat_13 n 13 ls st M Q o_S_isVat_13 h
def k_S_isVat_14 : List am_I := [(.ireturn, 1, 0, 0, 0)]
set_option maxRecDepth 20000 in
theorem o_S_isVat_14 : am_okB mt_S_isVat 14 k_S_isVat_14 = true := by decide +kernel
theorem g_S_isVat_14 {L : am_S} {n : Nat} {ls st : List Value} {M : am_M} {Q : am_Q} (h : am_B L mt_S_isVat k_S_isVat_14 n 14 ls st M Q) : am_R L mt_S_isVat n 14 ls st M Q := am_go L mt_S_isVat (fun h => by cases h) k_S_isVat_14 n 14 ls st M Q o_S_isVat_14 h
def k_T_readCodes_0 : List am_I := [(.aload_n 0, 1, 0, 0, 0), (.iconst 0, 1, 0, 0, 0), (.putfield 22, 3, 2, 3, 143), (.aload_n 0, 1, 0, 0, 0), (.iconst 0, 1, 0, 0, 0), (.putfield 28, 3, 2, 5, 146), (.aload_n 0, 1, 0, 0, 0), (.iconst (-1), 1, 0, 0, 0), (.putfield 31, 3, 2, 6, 147), (.iconst 0, 1, 0, 0, 0), (.istore_n 1, 1, 0, 0, 0)]
set_option maxRecDepth 20000 in
theorem o_T_readCodes_0 : am_okB mt_T_readCodes 0 k_T_readCodes_0 = true := by decide +kernel
theorem g_T_readCodes_0 {L : am_S} {n : Nat} {ls st : List Value} {M : am_M} {Q : am_Q} (h : am_B L mt_T_readCodes k_T_readCodes_0 n 0 ls st M Q) : am_R L mt_T_readCodes n 0 ls st M Q := am_go L mt_T_readCodes (fun h => by cases h) k_T_readCodes_0 n 0 ls st M Q o_T_readCodes_0 h
def k_T_readCodes_17 : List am_I := [(.iload_n 1, 1, 0, 0, 0), (.aload_n 0, 1, 0, 0, 0), (.getfield 15, 3, 2, 1, 139), (.if_icmp .ge 30, 3, 0, 0, 0), (.iload_n 1, 1, 0, 0, 0), (.bipush 60, 2, 0, 0, 0), (.if_icmp .ge 24, 3, 0, 0, 0), (.aload_n 0, 1, 0, 0, 0), (.aload_n 0, 1, 0, 0, 0), (.getfield 9, 3, 2, 0, 137), (.iload_n 1, 1, 0, 0, 0), (.iaload, 1, 0, 0, 0), (.invokevirtual 34, 3, 25, 2, 204), (.ifCond .ne 5, 3, 0, 0, 0), (.iload_n 1, 1, 0, 0, 0), (.ireturn, 1, 0, 0, 0)]
set_option maxRecDepth 20000 in
theorem o_T_readCodes_17 : am_okB mt_T_readCodes 17 k_T_readCodes_17 = true := by decide +kernel
theorem g_T_readCodes_17 {L : am_S} {n : Nat} {ls st : List Value} {M : am_M} {Q : am_Q} (h : am_B L mt_T_readCodes k_T_readCodes_17 n 17 ls st M Q) : am_R L mt_T_readCodes n 17 ls st M Q := am_go L mt_T_readCodes (fun h => by cases h) k_T_readCodes_17 n 17 ls st M Q o_T_readCodes_17 h
def k_T_readCodes_46 : List am_I := [(.iinc 1 1, 3, 0, 0, 0), (.goto (-32), 3, 0, 0, 0)]
set_option maxRecDepth 20000 in
theorem o_T_readCodes_46 : am_okB mt_T_readCodes 46 k_T_readCodes_46 = true := by decide +kernel
theorem g_T_readCodes_46 {L : am_S} {n : Nat} {ls st : List Value} {M : am_M} {Q : am_Q} (h : am_B L mt_T_readCodes k_T_readCodes_46 n 46 ls st M Q) : am_R L mt_T_readCodes n 46 ls st M Q := am_go L mt_T_readCodes (fun h => by cases h) k_T_readCodes_46 n 46 ls st M Q o_T_readCodes_46 h
def k_T_readCodes_52 : List am_I := [(.aload_n 0, 1, 0, 0, 0), (.getfield 15, 3, 2, 1, 139), (.ireturn, 1, 0, 0, 0)]
set_option maxRecDepth 20000 in
theorem o_T_readCodes_52 : am_okB mt_T_readCodes 52 k_T_readCodes_52 = true := by decide +kernel
theorem g_T_readCodes_52 {L : am_S} {n : Nat} {ls st : List Value} {M : am_M} {Q : am_Q} (h : am_B L mt_T_readCodes k_T_readCodes_52 n 52 ls st M Q) : am_R L mt_T_readCodes n 52 ls st M Q := am_go L mt_T_readCodes (fun h => by cases h) k_T_readCodes_52 n 52 ls st M Q o_T_readCodes_52 h
def k_T_endsWell_0 : List am_I := [(.aload_n 0, 1, 0, 0, 0), (.getfield 28, 3, 2, 5, 146), (.iconst 4, 1, 0, 0, 0), (.if_icmp .ne 14, 3, 0, 0, 0), (.aload_n 0, 1, 0, 0, 0), (.invokevirtual 38, 3, 27, 1, 265), (.ifCond .eq 7, 3, 0, 0, 0), (.iconst 1, 1, 0, 0, 0), (.goto 4, 3, 0, 0, 0)]
set_option maxRecDepth 20000 in
theorem o_T_endsWell_0 : am_okB mt_T_endsWell 0 k_T_endsWell_0 = true := by decide +kernel
theorem g_T_endsWell_0 {L : am_S} {n : Nat} {ls st : List Value} {M : am_M} {Q : am_Q} (h : am_B L mt_T_endsWell k_T_endsWell_0 n 0 ls st M Q) : am_R L mt_T_endsWell n 0 ls st M Q := am_go L mt_T_endsWell (fun h => by cases h) k_T_endsWell_0 n 0 ls st M Q o_T_endsWell_0 h
def k_T_endsWell_19 : List am_I := [(.iconst 0, 1, 0, 0, 0)]
set_option maxRecDepth 20000 in
theorem o_T_endsWell_19 : am_okB mt_T_endsWell 19 k_T_endsWell_19 = true := by decide +kernel
theorem g_T_endsWell_19 {L : am_S} {n : Nat} {ls st : List Value} {M : am_M} {Q : am_Q} (h : am_B L mt_T_endsWell k_T_endsWell_19 n 19 ls st M Q) : am_R L mt_T_endsWell n 19 ls st M Q := am_go L mt_T_endsWell (fun h => by cases h) k_T_endsWell_19 n 19 ls st M Q o_T_endsWell_19 h
def k_T_endsWell_20 : List am_I := [(.ireturn, 1, 0, 0, 0)]
set_option maxRecDepth 20000 in
theorem o_T_endsWell_20 : am_okB mt_T_endsWell 20 k_T_endsWell_20 = true := by decide +kernel
theorem g_T_endsWell_20 {L : am_S} {n : Nat} {ls st : List Value} {M : am_M} {Q : am_Q} (h : am_B L mt_T_endsWell k_T_endsWell_20 n 20 ls st M Q) : am_R L mt_T_endsWell n 20 ls st M Q := am_go L mt_T_endsWell (fun h => by cases h) k_T_endsWell_20 n 20 ls st M Q o_T_endsWell_20 h
def k_T_takesCode_0 : List am_I := [(.aload_n 0, 1, 0, 0, 0), (.getfield 28, 3, 2, 5, 146), (.ifCond .lt 11, 3, 0, 0, 0), (.aload_n 0, 1, 0, 0, 0), (.getfield 28, 3, 2, 5, 146), (.iconst 5, 1, 0, 0, 0), (.if_icmp .lt 5, 3, 0, 0, 0)]
set_option maxRecDepth 20000 in
theorem o_T_takesCode_0 : am_okB mt_T_takesCode 0 k_T_takesCode_0 = true := by decide +kernel
theorem g_T_takesCode_0 {L : am_S} {n : Nat} {ls st : List Value} {M : am_M} {Q : am_Q} (h : am_B L mt_T_takesCode k_T_takesCode_0 n 0 ls st M Q) : am_R L mt_T_takesCode n 0 ls st M Q := am_go L mt_T_takesCode (fun h => by cases h) k_T_takesCode_0 n 0 ls st M Q o_T_takesCode_0 h
def k_T_takesCode_15 : List am_I := [(.iconst 0, 1, 0, 0, 0), (.ireturn, 1, 0, 0, 0)]
set_option maxRecDepth 20000 in
theorem o_T_takesCode_15 : am_okB mt_T_takesCode 15 k_T_takesCode_15 = true := by decide +kernel
theorem g_T_takesCode_15 {L : am_S} {n : Nat} {ls st : List Value} {M : am_M} {Q : am_Q} (h : am_B L mt_T_takesCode k_T_takesCode_15 n 15 ls st M Q) : am_R L mt_T_takesCode n 15 ls st M Q := am_go L mt_T_takesCode (fun h => by cases h) k_T_takesCode_15 n 15 ls st M Q o_T_takesCode_15 h
def k_T_takesCode_17 : List am_I := [(.iload_n 1, 1, 0, 0, 0), (.bipush 48, 2, 0, 0, 0), (.if_icmp .lt 18, 3, 0, 0, 0), (.iload_n 1, 1, 0, 0, 0), (.bipush 57, 2, 0, 0, 0), (.if_icmp .gt 12, 3, 0, 0, 0), (.aload_n 0, 1, 0, 0, 0), (.iload_n 1, 1, 0, 0, 0), (.bipush 48, 2, 0, 0, 0), (.isub, 1, 0, 0, 0), (.invokevirtual 42, 3, 26, 2, 208), (.ireturn, 1, 0, 0, 0)]
set_option maxRecDepth 20000 in
theorem o_T_takesCode_17 : am_okB mt_T_takesCode 17 k_T_takesCode_17 = true := by decide +kernel
theorem g_T_takesCode_17 {L : am_S} {n : Nat} {ls st : List Value} {M : am_M} {Q : am_Q} (h : am_B L mt_T_takesCode k_T_takesCode_17 n 17 ls st M Q) : am_R L mt_T_takesCode n 17 ls st M Q := am_go L mt_T_takesCode (fun h => by cases h) k_T_takesCode_17 n 17 ls st M Q o_T_takesCode_17 h
def k_T_takesCode_38 : List am_I := [(.iload_n 1, 1, 0, 0, 0), (.ldc 45, 2, 28, 1, 224), (.aload_n 0, 1, 0, 0, 0), (.getfield 28, 3, 2, 5, 146), (.invokevirtual 47, 3, 204, 2, 225), (.if_icmp .ne 10, 3, 0, 0, 0), (.aload_n 0, 1, 0, 0, 0), (.invokevirtual 38, 3, 27, 1, 265), (.ifCond .ne 5, 3, 0, 0, 0)]
set_option maxRecDepth 20000 in
theorem o_T_takesCode_38 : am_okB mt_T_takesCode 38 k_T_takesCode_38 = true := by decide +kernel
theorem g_T_takesCode_38 {L : am_S} {n : Nat} {ls st : List Value} {M : am_M} {Q : am_Q} (h : am_B L mt_T_takesCode k_T_takesCode_38 n 38 ls st M Q) : am_R L mt_T_takesCode n 38 ls st M Q := am_go L mt_T_takesCode (fun h => by cases h) k_T_takesCode_38 n 38 ls st M Q o_T_takesCode_38 h
def k_T_takesCode_58 : List am_I := [(.iconst 0, 1, 0, 0, 0), (.ireturn, 1, 0, 0, 0)]
set_option maxRecDepth 20000 in
theorem o_T_takesCode_58 : am_okB mt_T_takesCode 58 k_T_takesCode_58 = true := by decide +kernel
theorem g_T_takesCode_58 {L : am_S} {n : Nat} {ls st : List Value} {M : am_M} {Q : am_Q} (h : am_B L mt_T_takesCode k_T_takesCode_58 n 58 ls st M Q) : am_R L mt_T_takesCode n 58 ls st M Q := am_go L mt_T_takesCode (fun h => by cases h) k_T_takesCode_58 n 58 ls st M Q o_T_takesCode_58 h
def k_T_takesCode_60 : List am_I := [(.aload_n 0, 1, 0, 0, 0), (.iconst (-1), 1, 0, 0, 0), (.putfield 31, 3, 2, 6, 147), (.aload_n 0, 1, 0, 0, 0), (.getfield 28, 3, 2, 5, 146), (.iconst 4, 1, 0, 0, 0), (.if_icmp .ne 21, 3, 0, 0, 0), (.aload_n 0, 1, 0, 0, 0), (.dup, 1, 0, 0, 0), (.getfield 22, 3, 2, 3, 143), (.iconst 1, 1, 0, 0, 0), (.iadd, 1, 0, 0, 0), (.putfield 22, 3, 2, 3, 143), (.aload_n 0, 1, 0, 0, 0), (.iconst 0, 1, 0, 0, 0), (.putfield 28, 3, 2, 5, 146), (.goto 13, 3, 0, 0, 0)]
set_option maxRecDepth 20000 in
theorem o_T_takesCode_60 : am_okB mt_T_takesCode 60 k_T_takesCode_60 = true := by decide +kernel
theorem g_T_takesCode_60 {L : am_S} {n : Nat} {ls st : List Value} {M : am_M} {Q : am_Q} (h : am_B L mt_T_takesCode k_T_takesCode_60 n 60 ls st M Q) : am_R L mt_T_takesCode n 60 ls st M Q := am_go L mt_T_takesCode (fun h => by cases h) k_T_takesCode_60 n 60 ls st M Q o_T_takesCode_60 h
def k_T_takesCode_91 : List am_I := [(.aload_n 0, 1, 0, 0, 0), (.dup, 1, 0, 0, 0), (.getfield 28, 3, 2, 5, 146), (.iconst 1, 1, 0, 0, 0), (.iadd, 1, 0, 0, 0), (.putfield 28, 3, 2, 5, 146)]
set_option maxRecDepth 20000 in
theorem o_T_takesCode_91 : am_okB mt_T_takesCode 91 k_T_takesCode_91 = true := by decide +kernel
theorem g_T_takesCode_91 {L : am_S} {n : Nat} {ls st : List Value} {M : am_M} {Q : am_Q} (h : am_B L mt_T_takesCode k_T_takesCode_91 n 91 ls st M Q) : am_R L mt_T_takesCode n 91 ls st M Q := am_go L mt_T_takesCode (fun h => by cases h) k_T_takesCode_91 n 91 ls st M Q o_T_takesCode_91 h
def k_T_takesCode_101 : List am_I := [(.iconst 1, 1, 0, 0, 0), (.ireturn, 1, 0, 0, 0)]
set_option maxRecDepth 20000 in
theorem o_T_takesCode_101 : am_okB mt_T_takesCode 101 k_T_takesCode_101 = true := by decide +kernel
theorem g_T_takesCode_101 {L : am_S} {n : Nat} {ls st : List Value} {M : am_M} {Q : am_Q} (h : am_B L mt_T_takesCode k_T_takesCode_101 n 101 ls st M Q) : am_R L mt_T_takesCode n 101 ls st M Q := am_go L mt_T_takesCode (fun h => by cases h) k_T_takesCode_101 n 101 ls st M Q o_T_takesCode_101 h
def k_T_takesDigit_0 : List am_I := [(.aload_n 0, 1, 0, 0, 0), (.getfield 28, 3, 2, 5, 146), (.ifCond .lt 18, 3, 0, 0, 0), (.aload_n 0, 1, 0, 0, 0), (.getfield 28, 3, 2, 5, 146), (.iconst 5, 1, 0, 0, 0), (.if_icmp .ge 10, 3, 0, 0, 0), (.aload_n 0, 1, 0, 0, 0), (.getfield 31, 3, 2, 6, 147), (.ifCond .ne 5, 3, 0, 0, 0)]
set_option maxRecDepth 20000 in
theorem o_T_takesDigit_0 : am_okB mt_T_takesDigit 0 k_T_takesDigit_0 = true := by decide +kernel
theorem g_T_takesDigit_0 {L : am_S} {n : Nat} {ls st : List Value} {M : am_M} {Q : am_Q} (h : am_B L mt_T_takesDigit k_T_takesDigit_0 n 0 ls st M Q) : am_R L mt_T_takesDigit n 0 ls st M Q := am_go L mt_T_takesDigit (fun h => by cases h) k_T_takesDigit_0 n 0 ls st M Q o_T_takesDigit_0 h
def k_T_takesDigit_22 : List am_I := [(.iconst 0, 1, 0, 0, 0), (.ireturn, 1, 0, 0, 0)]
set_option maxRecDepth 20000 in
theorem o_T_takesDigit_22 : am_okB mt_T_takesDigit 22 k_T_takesDigit_22 = true := by decide +kernel
theorem g_T_takesDigit_22 {L : am_S} {n : Nat} {ls st : List Value} {M : am_M} {Q : am_Q} (h : am_B L mt_T_takesDigit k_T_takesDigit_22 n 22 ls st M Q) : am_R L mt_T_takesDigit n 22 ls st M Q := am_go L mt_T_takesDigit (fun h => by cases h) k_T_takesDigit_22 n 22 ls st M Q o_T_takesDigit_22 h
def k_T_takesDigit_24 : List am_I := [(.aload_n 0, 1, 0, 0, 0), (.getfield 31, 3, 2, 6, 147), (.iconst (-1), 1, 0, 0, 0), (.if_icmp .ne 7, 3, 0, 0, 0), (.iload_n 1, 1, 0, 0, 0), (.goto 12, 3, 0, 0, 0)]
set_option maxRecDepth 20000 in
theorem o_T_takesDigit_24 : am_okB mt_T_takesDigit 24 k_T_takesDigit_24 = true := by decide +kernel
theorem g_T_takesDigit_24 {L : am_S} {n : Nat} {ls st : List Value} {M : am_M} {Q : am_Q} (h : am_B L mt_T_takesDigit k_T_takesDigit_24 n 24 ls st M Q) : am_R L mt_T_takesDigit n 24 ls st M Q := am_go L mt_T_takesDigit (fun h => by cases h) k_T_takesDigit_24 n 24 ls st M Q o_T_takesDigit_24 h
def k_T_takesDigit_36 : List am_I := [(.aload_n 0, 1, 0, 0, 0), (.getfield 31, 3, 2, 6, 147), (.bipush 10, 2, 0, 0, 0), (.imul, 1, 0, 0, 0), (.iload_n 1, 1, 0, 0, 0), (.iadd, 1, 0, 0, 0)]
set_option maxRecDepth 20000 in
theorem o_T_takesDigit_36 : am_okB mt_T_takesDigit 36 k_T_takesDigit_36 = true := by decide +kernel
theorem g_T_takesDigit_36 {L : am_S} {n : Nat} {ls st : List Value} {M : am_M} {Q : am_Q} (h : am_B L mt_T_takesDigit k_T_takesDigit_36 n 36 ls st M Q) : am_R L mt_T_takesDigit n 36 ls st M Q := am_go L mt_T_takesDigit (fun h => by cases h) k_T_takesDigit_36 n 36 ls st M Q o_T_takesDigit_36 h
def k_T_takesDigit_45 : List am_I := [(.istore_n 2, 1, 0, 0, 0), (.aload_n 0, 1, 0, 0, 0), (.iload_n 2, 1, 0, 0, 0), (.invokevirtual 53, 3, 28, 2, 212), (.ifCond .ne 5, 3, 0, 0, 0), (.iconst 0, 1, 0, 0, 0), (.ireturn, 1, 0, 0, 0)]
set_option maxRecDepth 20000 in
theorem o_T_takesDigit_45 : am_okB mt_T_takesDigit 45 k_T_takesDigit_45 = true := by decide +kernel
theorem g_T_takesDigit_45 {L : am_S} {n : Nat} {ls st : List Value} {M : am_M} {Q : am_Q} (h : am_B L mt_T_takesDigit k_T_takesDigit_45 n 45 ls st M Q) : am_R L mt_T_takesDigit n 45 ls st M Q := am_go L mt_T_takesDigit (fun h => by cases h) k_T_takesDigit_45 n 45 ls st M Q o_T_takesDigit_45 h
def k_T_takesDigit_56 : List am_I := [(.aload_n 0, 1, 0, 0, 0), (.iload_n 2, 1, 0, 0, 0), (.putfield 31, 3, 2, 6, 147), (.aload_n 0, 1, 0, 0, 0), (.getfield 25, 3, 2, 4, 145), (.aload_n 0, 1, 0, 0, 0), (.getfield 28, 3, 2, 5, 146), (.iload_n 2, 1, 0, 0, 0), (.iastore, 1, 0, 0, 0), (.aload_n 0, 1, 0, 0, 0), (.getfield 22, 3, 2, 3, 143), (.ifCond .lt 29, 3, 0, 0, 0), (.aload_n 0, 1, 0, 0, 0), (.getfield 22, 3, 2, 3, 143), (.bipush 8, 2, 0, 0, 0), (.if_icmp .ge 20, 3, 0, 0, 0), (.aload_n 0, 1, 0, 0, 0), (.getfield 19, 3, 2, 2, 141), (.aload_n 0, 1, 0, 0, 0), (.getfield 22, 3, 2, 3, 143), (.iconst 5, 1, 0, 0, 0), (.imul, 1, 0, 0, 0), (.aload_n 0, 1, 0, 0, 0), (.getfield 28, 3, 2, 5, 146), (.iadd, 1, 0, 0, 0), (.iload_n 2, 1, 0, 0, 0), (.iastore, 1, 0, 0, 0)]
set_option maxRecDepth 20000 in
theorem o_T_takesDigit_56 : am_okB mt_T_takesDigit 56 k_T_takesDigit_56 = true := by decide +kernel
theorem g_T_takesDigit_56 {L : am_S} {n : Nat} {ls st : List Value} {M : am_M} {Q : am_Q} (h : am_B L mt_T_takesDigit k_T_takesDigit_56 n 56 ls st M Q) : am_R L mt_T_takesDigit n 56 ls st M Q := am_go L mt_T_takesDigit (fun h => by cases h) k_T_takesDigit_56 n 56 ls st M Q o_T_takesDigit_56 h
def k_T_takesDigit_104 : List am_I := [(.iconst 1, 1, 0, 0, 0), (.ireturn, 1, 0, 0, 0)]
set_option maxRecDepth 20000 in
theorem o_T_takesDigit_104 : am_okB mt_T_takesDigit 104 k_T_takesDigit_104 = true := by decide +kernel
theorem g_T_takesDigit_104 {L : am_S} {n : Nat} {ls st : List Value} {M : am_M} {Q : am_Q} (h : am_B L mt_T_takesDigit k_T_takesDigit_104 n 104 ls st M Q) : am_R L mt_T_takesDigit n 104 ls st M Q := am_go L mt_T_takesDigit (fun h => by cases h) k_T_takesDigit_104 n 104 ls st M Q o_T_takesDigit_104 h
def k_T_isWholeNumber_0 : List am_I := [(.aload_n 0, 1, 0, 0, 0), (.getfield 31, 3, 2, 6, 147), (.iconst (-1), 1, 0, 0, 0), (.if_icmp .eq 29, 3, 0, 0, 0), (.aload_n 0, 1, 0, 0, 0), (.getfield 31, 3, 2, 6, 147), (.aload_n 0, 1, 0, 0, 0), (.invokevirtual 56, 3, 29, 1, 216), (.if_icmp .lt 18, 3, 0, 0, 0), (.aload_n 0, 1, 0, 0, 0), (.getfield 31, 3, 2, 6, 147), (.aload_n 0, 1, 0, 0, 0), (.invokevirtual 60, 3, 30, 1, 220), (.if_icmp .gt 7, 3, 0, 0, 0), (.iconst 1, 1, 0, 0, 0), (.goto 4, 3, 0, 0, 0)]
set_option maxRecDepth 20000 in
theorem o_T_isWholeNumber_0 : am_okB mt_T_isWholeNumber 0 k_T_isWholeNumber_0 = true := by decide +kernel
theorem g_T_isWholeNumber_0 {L : am_S} {n : Nat} {ls st : List Value} {M : am_M} {Q : am_Q} (h : am_B L mt_T_isWholeNumber k_T_isWholeNumber_0 n 0 ls st M Q) : am_R L mt_T_isWholeNumber n 0 ls st M Q := am_go L mt_T_isWholeNumber (fun h => by cases h) k_T_isWholeNumber_0 n 0 ls st M Q o_T_isWholeNumber_0 h
def k_T_isWholeNumber_34 : List am_I := [(.iconst 0, 1, 0, 0, 0)]
set_option maxRecDepth 20000 in
theorem o_T_isWholeNumber_34 : am_okB mt_T_isWholeNumber 34 k_T_isWholeNumber_34 = true := by decide +kernel
theorem g_T_isWholeNumber_34 {L : am_S} {n : Nat} {ls st : List Value} {M : am_M} {Q : am_Q} (h : am_B L mt_T_isWholeNumber k_T_isWholeNumber_34 n 34 ls st M Q) : am_R L mt_T_isWholeNumber n 34 ls st M Q := am_go L mt_T_isWholeNumber (fun h => by cases h) k_T_isWholeNumber_34 n 34 ls st M Q o_T_isWholeNumber_34 h
def k_T_isWholeNumber_35 : List am_I := [(.ireturn, 1, 0, 0, 0)]
set_option maxRecDepth 20000 in
theorem o_T_isWholeNumber_35 : am_okB mt_T_isWholeNumber 35 k_T_isWholeNumber_35 = true := by decide +kernel
theorem g_T_isWholeNumber_35 {L : am_S} {n : Nat} {ls st : List Value} {M : am_M} {Q : am_Q} (h : am_B L mt_T_isWholeNumber k_T_isWholeNumber_35 n 35 ls st M Q) : am_R L mt_T_isWholeNumber n 35 ls st M Q := am_go L mt_T_isWholeNumber (fun h => by cases h) k_T_isWholeNumber_35 n 35 ls st M Q o_T_isWholeNumber_35 h
def k_T_canBecomeWhole_0 : List am_I := [(.aload_n 0, 1, 0, 0, 0), (.getfield 28, 3, 2, 5, 146), (.iconst 1, 1, 0, 0, 0), (.if_icmp .ne 15, 3, 0, 0, 0), (.iload_n 1, 1, 0, 0, 0), (.aload_n 0, 1, 0, 0, 0), (.getfield 25, 3, 2, 4, 145), (.iconst 0, 1, 0, 0, 0), (.iaload, 1, 0, 0, 0), (.if_icmp .ne 5, 3, 0, 0, 0), (.iconst 0, 1, 0, 0, 0), (.ireturn, 1, 0, 0, 0)]
set_option maxRecDepth 20000 in
theorem o_T_canBecomeWhole_0 : am_okB mt_T_canBecomeWhole 0 k_T_canBecomeWhole_0 = true := by decide +kernel
theorem g_T_canBecomeWhole_0 {L : am_S} {n : Nat} {ls st : List Value} {M : am_M} {Q : am_Q} (h : am_B L mt_T_canBecomeWhole k_T_canBecomeWhole_0 n 0 ls st M Q) : am_R L mt_T_canBecomeWhole n 0 ls st M Q := am_go L mt_T_canBecomeWhole (fun h => by cases h) k_T_canBecomeWhole_0 n 0 ls st M Q o_T_canBecomeWhole_0 h
def k_T_canBecomeWhole_20 : List am_I := [(.iload_n 1, 1, 0, 0, 0), (.ifCond .ne 16, 3, 0, 0, 0), (.aload_n 0, 1, 0, 0, 0), (.invokevirtual 56, 3, 29, 1, 216), (.ifCond .ne 7, 3, 0, 0, 0), (.iconst 1, 1, 0, 0, 0), (.goto 4, 3, 0, 0, 0)]
set_option maxRecDepth 20000 in
theorem o_T_canBecomeWhole_20 : am_okB mt_T_canBecomeWhole 20 k_T_canBecomeWhole_20 = true := by decide +kernel
theorem g_T_canBecomeWhole_20 {L : am_S} {n : Nat} {ls st : List Value} {M : am_M} {Q : am_Q} (h : am_B L mt_T_canBecomeWhole k_T_canBecomeWhole_20 n 20 ls st M Q) : am_R L mt_T_canBecomeWhole n 20 ls st M Q := am_go L mt_T_canBecomeWhole (fun h => by cases h) k_T_canBecomeWhole_20 n 20 ls st M Q o_T_canBecomeWhole_20 h
def k_T_canBecomeWhole_35 : List am_I := [(.iconst 0, 1, 0, 0, 0)]
set_option maxRecDepth 20000 in
theorem o_T_canBecomeWhole_35 : am_okB mt_T_canBecomeWhole 35 k_T_canBecomeWhole_35 = true := by decide +kernel
theorem g_T_canBecomeWhole_35 {L : am_S} {n : Nat} {ls st : List Value} {M : am_M} {Q : am_Q} (h : am_B L mt_T_canBecomeWhole k_T_canBecomeWhole_35 n 35 ls st M Q) : am_R L mt_T_canBecomeWhole n 35 ls st M Q := am_go L mt_T_canBecomeWhole (fun h => by cases h) k_T_canBecomeWhole_35 n 35 ls st M Q o_T_canBecomeWhole_35 h
def k_T_canBecomeWhole_36 : List am_I := [(.ireturn, 1, 0, 0, 0)]
set_option maxRecDepth 20000 in
theorem o_T_canBecomeWhole_36 : am_okB mt_T_canBecomeWhole 36 k_T_canBecomeWhole_36 = true := by decide +kernel
theorem g_T_canBecomeWhole_36 {L : am_S} {n : Nat} {ls st : List Value} {M : am_M} {Q : am_Q} (h : am_B L mt_T_canBecomeWhole k_T_canBecomeWhole_36 n 36 ls st M Q) : am_R L mt_T_canBecomeWhole n 36 ls st M Q := am_go L mt_T_canBecomeWhole (fun h => by cases h) k_T_canBecomeWhole_36 n 36 ls st M Q o_T_canBecomeWhole_36 h
def k_T_canBecomeWhole_37 : List am_I := [(.iconst 1, 1, 0, 0, 0), (.istore_n 2, 1, 0, 0, 0)]
set_option maxRecDepth 20000 in
theorem o_T_canBecomeWhole_37 : am_okB mt_T_canBecomeWhole 37 k_T_canBecomeWhole_37 = true := by decide +kernel
theorem g_T_canBecomeWhole_37 {L : am_S} {n : Nat} {ls st : List Value} {M : am_M} {Q : am_Q} (h : am_B L mt_T_canBecomeWhole k_T_canBecomeWhole_37 n 37 ls st M Q) : am_R L mt_T_canBecomeWhole n 37 ls st M Q := am_go L mt_T_canBecomeWhole (fun h => by cases h) k_T_canBecomeWhole_37 n 37 ls st M Q o_T_canBecomeWhole_37 h
def k_T_canBecomeWhole_39 : List am_I := [(.iload_n 2, 1, 0, 0, 0), (.bipush 100, 2, 0, 0, 0), (.if_icmp .gt 37, 3, 0, 0, 0), (.iload_n 1, 1, 0, 0, 0), (.iload_n 2, 1, 0, 0, 0), (.imul, 1, 0, 0, 0), (.aload_n 0, 1, 0, 0, 0), (.invokevirtual 60, 3, 30, 1, 220), (.if_icmp .gt 19, 3, 0, 0, 0), (.iload_n 1, 1, 0, 0, 0), (.iload_n 2, 1, 0, 0, 0), (.imul, 1, 0, 0, 0), (.iload_n 2, 1, 0, 0, 0), (.iadd, 1, 0, 0, 0), (.iconst 1, 1, 0, 0, 0), (.isub, 1, 0, 0, 0), (.aload_n 0, 1, 0, 0, 0), (.invokevirtual 56, 3, 29, 1, 216), (.if_icmp .lt 5, 3, 0, 0, 0), (.iconst 1, 1, 0, 0, 0), (.ireturn, 1, 0, 0, 0)]
set_option maxRecDepth 20000 in
theorem o_T_canBecomeWhole_39 : am_okB mt_T_canBecomeWhole 39 k_T_canBecomeWhole_39 = true := by decide +kernel
theorem g_T_canBecomeWhole_39 {L : am_S} {n : Nat} {ls st : List Value} {M : am_M} {Q : am_Q} (h : am_B L mt_T_canBecomeWhole k_T_canBecomeWhole_39 n 39 ls st M Q) : am_R L mt_T_canBecomeWhole n 39 ls st M Q := am_go L mt_T_canBecomeWhole (fun h => by cases h) k_T_canBecomeWhole_39 n 39 ls st M Q o_T_canBecomeWhole_39 h
def k_T_canBecomeWhole_71 : List am_I := [(.iload_n 2, 1, 0, 0, 0), (.bipush 10, 2, 0, 0, 0), (.imul, 1, 0, 0, 0), (.istore_n 2, 1, 0, 0, 0), (.goto (-37), 3, 0, 0, 0)]
set_option maxRecDepth 20000 in
theorem o_T_canBecomeWhole_71 : am_okB mt_T_canBecomeWhole 71 k_T_canBecomeWhole_71 = true := by decide +kernel
theorem g_T_canBecomeWhole_71 {L : am_S} {n : Nat} {ls st : List Value} {M : am_M} {Q : am_Q} (h : am_B L mt_T_canBecomeWhole k_T_canBecomeWhole_71 n 71 ls st M Q) : am_R L mt_T_canBecomeWhole n 71 ls st M Q := am_go L mt_T_canBecomeWhole (fun h => by cases h) k_T_canBecomeWhole_71 n 71 ls st M Q o_T_canBecomeWhole_71 h
def k_T_canBecomeWhole_79 : List am_I := [(.iconst 0, 1, 0, 0, 0), (.ireturn, 1, 0, 0, 0)]
set_option maxRecDepth 20000 in
theorem o_T_canBecomeWhole_79 : am_okB mt_T_canBecomeWhole 79 k_T_canBecomeWhole_79 = true := by decide +kernel
theorem g_T_canBecomeWhole_79 {L : am_S} {n : Nat} {ls st : List Value} {M : am_M} {Q : am_Q} (h : am_B L mt_T_canBecomeWhole k_T_canBecomeWhole_79 n 79 ls st M Q) : am_R L mt_T_canBecomeWhole n 79 ls st M Q := am_go L mt_T_canBecomeWhole (fun h => by cases h) k_T_canBecomeWhole_79 n 79 ls st M Q o_T_canBecomeWhole_79 h
def k_T_leastOfPart_0 : List am_I := [(.aload_n 0, 1, 0, 0, 0), (.getfield 28, 3, 2, 5, 146), (.lookupswitch 37 #[(2, 28), (4, 30)], 28, 0, 0, 0)]
set_option maxRecDepth 20000 in
theorem o_T_leastOfPart_0 : am_okB mt_T_leastOfPart 0 k_T_leastOfPart_0 = true := by decide +kernel
theorem g_T_leastOfPart_0 {L : am_S} {n : Nat} {ls st : List Value} {M : am_M} {Q : am_Q} (h : am_B L mt_T_leastOfPart k_T_leastOfPart_0 n 0 ls st M Q) : am_R L mt_T_leastOfPart n 0 ls st M Q := am_go L mt_T_leastOfPart (fun h => by cases h) k_T_leastOfPart_0 n 0 ls st M Q o_T_leastOfPart_0 h
def k_T_leastOfPart_32 : List am_I := [(.iconst 1, 1, 0, 0, 0), (.ireturn, 1, 0, 0, 0)]
set_option maxRecDepth 20000 in
theorem o_T_leastOfPart_32 : am_okB mt_T_leastOfPart 32 k_T_leastOfPart_32 = true := by decide +kernel
theorem g_T_leastOfPart_32 {L : am_S} {n : Nat} {ls st : List Value} {M : am_M} {Q : am_Q} (h : am_B L mt_T_leastOfPart k_T_leastOfPart_32 n 32 ls st M Q) : am_R L mt_T_leastOfPart n 32 ls st M Q := am_go L mt_T_leastOfPart (fun h => by cases h) k_T_leastOfPart_32 n 32 ls st M Q o_T_leastOfPart_32 h
def k_T_leastOfPart_34 : List am_I := [(.aload_n 0, 1, 0, 0, 0), (.getfield 25, 3, 2, 4, 145), (.iconst 3, 1, 0, 0, 0), (.iaload, 1, 0, 0, 0), (.ireturn, 1, 0, 0, 0)]
set_option maxRecDepth 20000 in
theorem o_T_leastOfPart_34 : am_okB mt_T_leastOfPart 34 k_T_leastOfPart_34 = true := by decide +kernel
theorem g_T_leastOfPart_34 {L : am_S} {n : Nat} {ls st : List Value} {M : am_M} {Q : am_Q} (h : am_B L mt_T_leastOfPart k_T_leastOfPart_34 n 34 ls st M Q) : am_R L mt_T_leastOfPart n 34 ls st M Q := am_go L mt_T_leastOfPart (fun h => by cases h) k_T_leastOfPart_34 n 34 ls st M Q o_T_leastOfPart_34 h
def k_T_leastOfPart_41 : List am_I := [(.iconst 0, 1, 0, 0, 0), (.ireturn, 1, 0, 0, 0)]
set_option maxRecDepth 20000 in
theorem o_T_leastOfPart_41 : am_okB mt_T_leastOfPart 41 k_T_leastOfPart_41 = true := by decide +kernel
theorem g_T_leastOfPart_41 {L : am_S} {n : Nat} {ls st : List Value} {M : am_M} {Q : am_Q} (h : am_B L mt_T_leastOfPart k_T_leastOfPart_41 n 41 ls st M Q) : am_R L mt_T_leastOfPart n 41 ls st M Q := am_go L mt_T_leastOfPart (fun h => by cases h) k_T_leastOfPart_41 n 41 ls st M Q o_T_leastOfPart_41 h
def k_T_mostOfPart_0 : List am_I := [(.aload_n 0, 1, 0, 0, 0), (.getfield 28, 3, 2, 5, 146), (.tableswitch 36 0 2 #[28, 30, 32], 28, 0, 0, 0)]
set_option maxRecDepth 20000 in
theorem o_T_mostOfPart_0 : am_okB mt_T_mostOfPart 0 k_T_mostOfPart_0 = true := by decide +kernel
theorem g_T_mostOfPart_0 {L : am_S} {n : Nat} {ls st : List Value} {M : am_M} {Q : am_Q} (h : am_B L mt_T_mostOfPart k_T_mostOfPart_0 n 0 ls st M Q) : am_R L mt_T_mostOfPart n 0 ls st M Q := am_go L mt_T_mostOfPart (fun h => by cases h) k_T_mostOfPart_0 n 0 ls st M Q o_T_mostOfPart_0 h
def k_T_mostOfPart_32 : List am_I := [(.iconst 4, 1, 0, 0, 0), (.ireturn, 1, 0, 0, 0)]
set_option maxRecDepth 20000 in
theorem o_T_mostOfPart_32 : am_okB mt_T_mostOfPart 32 k_T_mostOfPart_32 = true := by decide +kernel
theorem g_T_mostOfPart_32 {L : am_S} {n : Nat} {ls st : List Value} {M : am_M} {Q : am_Q} (h : am_B L mt_T_mostOfPart k_T_mostOfPart_32 n 32 ls st M Q) : am_R L mt_T_mostOfPart n 32 ls st M Q := am_go L mt_T_mostOfPart (fun h => by cases h) k_T_mostOfPart_32 n 32 ls st M Q o_T_mostOfPart_32 h
def k_T_mostOfPart_34 : List am_I := [(.iconst 5, 1, 0, 0, 0), (.ireturn, 1, 0, 0, 0)]
set_option maxRecDepth 20000 in
theorem o_T_mostOfPart_34 : am_okB mt_T_mostOfPart 34 k_T_mostOfPart_34 = true := by decide +kernel
theorem g_T_mostOfPart_34 {L : am_S} {n : Nat} {ls st : List Value} {M : am_M} {Q : am_Q} (h : am_B L mt_T_mostOfPart k_T_mostOfPart_34 n 34 ls st M Q) : am_R L mt_T_mostOfPart n 34 ls st M Q := am_go L mt_T_mostOfPart (fun h => by cases h) k_T_mostOfPart_34 n 34 ls st M Q o_T_mostOfPart_34 h
def k_T_mostOfPart_36 : List am_I := [(.sipush 500, 3, 0, 0, 0), (.ireturn, 1, 0, 0, 0)]
set_option maxRecDepth 20000 in
theorem o_T_mostOfPart_36 : am_okB mt_T_mostOfPart 36 k_T_mostOfPart_36 = true := by decide +kernel
theorem g_T_mostOfPart_36 {L : am_S} {n : Nat} {ls st : List Value} {M : am_M} {Q : am_Q} (h : am_B L mt_T_mostOfPart k_T_mostOfPart_36 n 36 ls st M Q) : am_R L mt_T_mostOfPart n 36 ls st M Q := am_go L mt_T_mostOfPart (fun h => by cases h) k_T_mostOfPart_36 n 36 ls st M Q o_T_mostOfPart_36 h
def k_T_mostOfPart_40 : List am_I := [(.bipush 23, 2, 0, 0, 0), (.ireturn, 1, 0, 0, 0)]
set_option maxRecDepth 20000 in
theorem o_T_mostOfPart_40 : am_okB mt_T_mostOfPart 40 k_T_mostOfPart_40 = true := by decide +kernel
theorem g_T_mostOfPart_40 {L : am_S} {n : Nat} {ls st : List Value} {M : am_M} {Q : am_Q} (h : am_B L mt_T_mostOfPart k_T_mostOfPart_40 n 40 ls st M Q) : am_R L mt_T_mostOfPart n 40 ls st M Q := am_go L mt_T_mostOfPart (fun h => by cases h) k_T_mostOfPart_40 n 40 ls st M Q o_T_mostOfPart_40 h
def k_D_beginWith_0 : List am_I := [(.aload_n 0, 1, 0, 0, 0), (.getfield 12, 3, 0, 0, 113), (.aload_n 1, 1, 0, 0, 0), (.invokevirtual 32, 3, 3, 2, 392), (.aload_n 0, 1, 0, 0, 0), (.iconst 0, 1, 0, 0, 0), (.putfield 22, 3, 0, 2, 115), (.aload_n 0, 1, 0, 0, 0), (.getfield 12, 3, 0, 0, 113), (.getfield 36, 3, 1, 0, 100), (.bipush 10, 2, 0, 0, 0), (.aload_n 0, 1, 0, 0, 0), (.getfield 18, 3, 0, 1, 114), (.iconst 0, 1, 0, 0, 0), (.bipush 35, 2, 0, 0, 0), (.invokestatic 39, 3, 202, 5, 393), (.return_, 1, 0, 0, 0)]
set_option maxRecDepth 20000 in
theorem o_D_beginWith_0 : am_okB mt_D_beginWith 0 k_D_beginWith_0 = true := by decide +kernel
theorem g_D_beginWith_0 {L : am_S} {n : Nat} {ls st : List Value} {M : am_M} {Q : am_Q} (h : am_B L mt_D_beginWith k_D_beginWith_0 n 0 ls st M Q) : am_R L mt_D_beginWith n 0 ls st M Q := am_go L mt_D_beginWith (fun h => by cases h) k_D_beginWith_0 n 0 ls st M Q o_D_beginWith_0 h
def k_D_findByRunners_0 : List am_I := [(.aload_n 0, 1, 0, 0, 0), (.iconst (-1), 1, 0, 0, 0), (.putfield 26, 3, 0, 3, 116), (.aload_n 0, 1, 0, 0, 0), (.iconst (-1), 1, 0, 0, 0), (.putfield 29, 3, 0, 4, 118), (.iconst 0, 1, 0, 0, 0), (.istore_n 1, 1, 0, 0, 0)]
set_option maxRecDepth 20000 in
theorem o_D_findByRunners_0 : am_okB mt_D_findByRunners 0 k_D_findByRunners_0 = true := by decide +kernel
theorem g_D_findByRunners_0 {L : am_S} {n : Nat} {ls st : List Value} {M : am_M} {Q : am_Q} (h : am_B L mt_D_findByRunners k_D_findByRunners_0 n 0 ls st M Q) : am_R L mt_D_findByRunners n 0 ls st M Q := am_go L mt_D_findByRunners (fun h => by cases h) k_D_findByRunners_0 n 0 ls st M Q o_D_findByRunners_0 h
def k_D_findByRunners_12 : List am_I := [(.iinc 1 1, 3, 0, 0, 0), (.aload_n 0, 1, 0, 0, 0), (.iconst 2, 1, 0, 0, 0), (.iload_n 1, 1, 0, 0, 0), (.imul, 1, 0, 0, 0), (.invokevirtual 45, 3, 34, 2, 398), (.iload_n 1, 1, 0, 0, 0), (.bipush 60, 2, 0, 0, 0), (.if_icmp .ge 14, 3, 0, 0, 0), (.aload_n 0, 1, 0, 0, 0), (.iload_n 1, 1, 0, 0, 0), (.iconst 2, 1, 0, 0, 0), (.iload_n 1, 1, 0, 0, 0), (.imul, 1, 0, 0, 0), (.invokevirtual 49, 3, 35, 3, 403), (.ifCond .eq (-24), 3, 0, 0, 0)]
set_option maxRecDepth 20000 in
theorem o_D_findByRunners_12 : am_okB mt_D_findByRunners 12 k_D_findByRunners_12 = true := by decide +kernel
theorem g_D_findByRunners_12 {L : am_S} {n : Nat} {ls st : List Value} {M : am_M} {Q : am_Q} (h : am_B L mt_D_findByRunners k_D_findByRunners_12 n 12 ls st M Q) : am_R L mt_D_findByRunners n 12 ls st M Q := am_go L mt_D_findByRunners (fun h => by cases h) k_D_findByRunners_12 n 12 ls st M Q o_D_findByRunners_12 h
def k_D_findByRunners_39 : List am_I := [(.aload_n 0, 1, 0, 0, 0), (.iload_n 1, 1, 0, 0, 0), (.iconst 2, 1, 0, 0, 0), (.iload_n 1, 1, 0, 0, 0), (.imul, 1, 0, 0, 0), (.invokevirtual 49, 3, 35, 3, 403), (.ifCond .ne 4, 3, 0, 0, 0), (.return_, 1, 0, 0, 0)]
set_option maxRecDepth 20000 in
theorem o_D_findByRunners_39 : am_okB mt_D_findByRunners 39 k_D_findByRunners_39 = true := by decide +kernel
theorem g_D_findByRunners_39 {L : am_S} {n : Nat} {ls st : List Value} {M : am_M} {Q : am_Q} (h : am_B L mt_D_findByRunners k_D_findByRunners_39 n 39 ls st M Q) : am_R L mt_D_findByRunners n 39 ls st M Q := am_go L mt_D_findByRunners (fun h => by cases h) k_D_findByRunners_39 n 39 ls st M Q o_D_findByRunners_39 h
def k_D_findByRunners_51 : List am_I := [(.iconst 0, 1, 0, 0, 0), (.istore_n 2, 1, 0, 0, 0)]
set_option maxRecDepth 20000 in
theorem o_D_findByRunners_51 : am_okB mt_D_findByRunners 51 k_D_findByRunners_51 = true := by decide +kernel
theorem g_D_findByRunners_51 {L : am_S} {n : Nat} {ls st : List Value} {M : am_M} {Q : am_Q} (h : am_B L mt_D_findByRunners k_D_findByRunners_51 n 51 ls st M Q) : am_R L mt_D_findByRunners n 51 ls st M Q := am_go L mt_D_findByRunners (fun h => by cases h) k_D_findByRunners_51 n 51 ls st M Q o_D_findByRunners_51 h
def k_D_findByRunners_53 : List am_I := [(.iload_n 2, 1, 0, 0, 0), (.iload_n 1, 1, 0, 0, 0), (.if_icmp .ge 20, 3, 0, 0, 0), (.aload_n 0, 1, 0, 0, 0), (.iload_n 2, 1, 0, 0, 0), (.iload_n 1, 1, 0, 0, 0), (.iload_n 2, 1, 0, 0, 0), (.iadd, 1, 0, 0, 0), (.invokevirtual 49, 3, 35, 3, 403), (.ifCond .ne 9, 3, 0, 0, 0), (.iinc 2 1, 3, 0, 0, 0), (.goto (-19), 3, 0, 0, 0)]
set_option maxRecDepth 20000 in
theorem o_D_findByRunners_53 : am_okB mt_D_findByRunners 53 k_D_findByRunners_53 = true := by decide +kernel
theorem g_D_findByRunners_53 {L : am_S} {n : Nat} {ls st : List Value} {M : am_M} {Q : am_Q} (h : am_B L mt_D_findByRunners k_D_findByRunners_53 n 53 ls st M Q) : am_R L mt_D_findByRunners n 53 ls st M Q := am_go L mt_D_findByRunners (fun h => by cases h) k_D_findByRunners_53 n 53 ls st M Q o_D_findByRunners_53 h
def k_D_findByRunners_75 : List am_I := [(.iconst 1, 1, 0, 0, 0), (.istore_n 3, 1, 0, 0, 0)]
set_option maxRecDepth 20000 in
theorem o_D_findByRunners_75 : am_okB mt_D_findByRunners 75 k_D_findByRunners_75 = true := by decide +kernel
theorem g_D_findByRunners_75 {L : am_S} {n : Nat} {ls st : List Value} {M : am_M} {Q : am_Q} (h : am_B L mt_D_findByRunners k_D_findByRunners_75 n 75 ls st M Q) : am_R L mt_D_findByRunners n 75 ls st M Q := am_go L mt_D_findByRunners (fun h => by cases h) k_D_findByRunners_75 n 75 ls st M Q o_D_findByRunners_75 h
def k_D_findByRunners_77 : List am_I := [(.iload_n 3, 1, 0, 0, 0), (.iload_n 1, 1, 0, 0, 0), (.if_icmp .ge 20, 3, 0, 0, 0), (.aload_n 0, 1, 0, 0, 0), (.iload_n 2, 1, 0, 0, 0), (.iload_n 2, 1, 0, 0, 0), (.iload_n 3, 1, 0, 0, 0), (.iadd, 1, 0, 0, 0), (.invokevirtual 49, 3, 35, 3, 403), (.ifCond .ne 9, 3, 0, 0, 0), (.iinc 3 1, 3, 0, 0, 0), (.goto (-19), 3, 0, 0, 0)]
set_option maxRecDepth 20000 in
theorem o_D_findByRunners_77 : am_okB mt_D_findByRunners 77 k_D_findByRunners_77 = true := by decide +kernel
theorem g_D_findByRunners_77 {L : am_S} {n : Nat} {ls st : List Value} {M : am_M} {Q : am_Q} (h : am_B L mt_D_findByRunners k_D_findByRunners_77 n 77 ls st M Q) : am_R L mt_D_findByRunners n 77 ls st M Q := am_go L mt_D_findByRunners (fun h => by cases h) k_D_findByRunners_77 n 77 ls st M Q o_D_findByRunners_77 h
def k_D_findByRunners_99 : List am_I := [(.iload_n 2, 1, 0, 0, 0), (.iload_n 3, 1, 0, 0, 0), (.iadd, 1, 0, 0, 0), (.bipush 60, 2, 0, 0, 0), (.if_icmp .gt 13, 3, 0, 0, 0), (.aload_n 0, 1, 0, 0, 0), (.iload_n 3, 1, 0, 0, 0), (.putfield 26, 3, 0, 3, 116), (.aload_n 0, 1, 0, 0, 0), (.iload_n 2, 1, 0, 0, 0), (.putfield 29, 3, 0, 4, 118)]
set_option maxRecDepth 20000 in
theorem o_D_findByRunners_99 : am_okB mt_D_findByRunners 99 k_D_findByRunners_99 = true := by decide +kernel
theorem g_D_findByRunners_99 {L : am_S} {n : Nat} {ls st : List Value} {M : am_M} {Q : am_Q} (h : am_B L mt_D_findByRunners k_D_findByRunners_99 n 99 ls st M Q) : am_R L mt_D_findByRunners n 99 ls st M Q := am_go L mt_D_findByRunners (fun h => by cases h) k_D_findByRunners_99 n 99 ls st M Q o_D_findByRunners_99 h
def k_D_findByRunners_117 : List am_I := [(.return_, 1, 0, 0, 0)]
set_option maxRecDepth 20000 in
theorem o_D_findByRunners_117 : am_okB mt_D_findByRunners 117 k_D_findByRunners_117 = true := by decide +kernel
theorem g_D_findByRunners_117 {L : am_S} {n : Nat} {ls st : List Value} {M : am_M} {Q : am_Q} (h : am_B L mt_D_findByRunners k_D_findByRunners_117 n 117 ls st M Q) : am_R L mt_D_findByRunners n 117 ls st M Q := am_go L mt_D_findByRunners (fun h => by cases h) k_D_findByRunners_117 n 117 ls st M Q o_D_findByRunners_117 h
def k_D_findByLookingBack_0 : List am_I := [(.aload_n 0, 1, 0, 0, 0), (.iconst (-1), 1, 0, 0, 0), (.putfield 26, 3, 0, 3, 116), (.aload_n 0, 1, 0, 0, 0), (.iconst (-1), 1, 0, 0, 0), (.putfield 29, 3, 0, 4, 118), (.iconst 1, 1, 0, 0, 0), (.istore_n 1, 1, 0, 0, 0)]
set_option maxRecDepth 20000 in
theorem o_D_findByLookingBack_0 : am_okB mt_D_findByLookingBack 0 k_D_findByLookingBack_0 = true := by decide +kernel
theorem g_D_findByLookingBack_0 {L : am_S} {n : Nat} {ls st : List Value} {M : am_M} {Q : am_Q} (h : am_B L mt_D_findByLookingBack k_D_findByLookingBack_0 n 0 ls st M Q) : am_R L mt_D_findByLookingBack n 0 ls st M Q := am_go L mt_D_findByLookingBack (fun h => by cases h) k_D_findByLookingBack_0 n 0 ls st M Q o_D_findByLookingBack_0 h
def k_D_findByLookingBack_12 : List am_I := [(.iload_n 1, 1, 0, 0, 0), (.bipush 60, 2, 0, 0, 0), (.if_icmp .gt 49, 3, 0, 0, 0), (.aload_n 0, 1, 0, 0, 0), (.iload_n 1, 1, 0, 0, 0), (.invokevirtual 45, 3, 34, 2, 398), (.iconst 0, 1, 0, 0, 0), (.istore_n 2, 1, 0, 0, 0)]
set_option maxRecDepth 20000 in
theorem o_D_findByLookingBack_12 : am_okB mt_D_findByLookingBack 12 k_D_findByLookingBack_12 = true := by decide +kernel
theorem g_D_findByLookingBack_12 {L : am_S} {n : Nat} {ls st : List Value} {M : am_M} {Q : am_Q} (h : am_B L mt_D_findByLookingBack k_D_findByLookingBack_12 n 12 ls st M Q) : am_R L mt_D_findByLookingBack n 12 ls st M Q := am_go L mt_D_findByLookingBack (fun h => by cases h) k_D_findByLookingBack_12 n 12 ls st M Q o_D_findByLookingBack_12 h
def k_D_findByLookingBack_25 : List am_I := [(.iload_n 2, 1, 0, 0, 0), (.iload_n 1, 1, 0, 0, 0), (.if_icmp .ge 31, 3, 0, 0, 0), (.aload_n 0, 1, 0, 0, 0), (.iload_n 2, 1, 0, 0, 0), (.iload_n 1, 1, 0, 0, 0), (.invokevirtual 49, 3, 35, 3, 403), (.ifCond .eq 16, 3, 0, 0, 0), (.aload_n 0, 1, 0, 0, 0), (.iload_n 1, 1, 0, 0, 0), (.iload_n 2, 1, 0, 0, 0), (.isub, 1, 0, 0, 0), (.putfield 26, 3, 0, 3, 116), (.aload_n 0, 1, 0, 0, 0), (.iload_n 2, 1, 0, 0, 0), (.putfield 29, 3, 0, 4, 118), (.return_, 1, 0, 0, 0)]
set_option maxRecDepth 20000 in
theorem o_D_findByLookingBack_25 : am_okB mt_D_findByLookingBack 25 k_D_findByLookingBack_25 = true := by decide +kernel
theorem g_D_findByLookingBack_25 {L : am_S} {n : Nat} {ls st : List Value} {M : am_M} {Q : am_Q} (h : am_B L mt_D_findByLookingBack k_D_findByLookingBack_25 n 25 ls st M Q) : am_R L mt_D_findByLookingBack n 25 ls st M Q := am_go L mt_D_findByLookingBack (fun h => by cases h) k_D_findByLookingBack_25 n 25 ls st M Q o_D_findByLookingBack_25 h
def k_D_findByLookingBack_52 : List am_I := [(.iinc 2 1, 3, 0, 0, 0), (.goto (-30), 3, 0, 0, 0)]
set_option maxRecDepth 20000 in
theorem o_D_findByLookingBack_52 : am_okB mt_D_findByLookingBack 52 k_D_findByLookingBack_52 = true := by decide +kernel
theorem g_D_findByLookingBack_52 {L : am_S} {n : Nat} {ls st : List Value} {M : am_M} {Q : am_Q} (h : am_B L mt_D_findByLookingBack k_D_findByLookingBack_52 n 52 ls st M Q) : am_R L mt_D_findByLookingBack n 52 ls st M Q := am_go L mt_D_findByLookingBack (fun h => by cases h) k_D_findByLookingBack_52 n 52 ls st M Q o_D_findByLookingBack_52 h
def k_D_findByLookingBack_58 : List am_I := [(.iinc 1 1, 3, 0, 0, 0), (.goto (-49), 3, 0, 0, 0)]
set_option maxRecDepth 20000 in
theorem o_D_findByLookingBack_58 : am_okB mt_D_findByLookingBack 58 k_D_findByLookingBack_58 = true := by decide +kernel
theorem g_D_findByLookingBack_58 {L : am_S} {n : Nat} {ls st : List Value} {M : am_M} {Q : am_Q} (h : am_B L mt_D_findByLookingBack k_D_findByLookingBack_58 n 58 ls st M Q) : am_R L mt_D_findByLookingBack n 58 ls st M Q := am_go L mt_D_findByLookingBack (fun h => by cases h) k_D_findByLookingBack_58 n 58 ls st M Q o_D_findByLookingBack_58 h
def k_D_findByLookingBack_64 : List am_I := [(.return_, 1, 0, 0, 0)]
set_option maxRecDepth 20000 in
theorem o_D_findByLookingBack_64 : am_okB mt_D_findByLookingBack 64 k_D_findByLookingBack_64 = true := by decide +kernel
theorem g_D_findByLookingBack_64 {L : am_S} {n : Nat} {ls st : List Value} {M : am_M} {Q : am_Q} (h : am_B L mt_D_findByLookingBack k_D_findByLookingBack_64 n 64 ls st M Q) : am_R L mt_D_findByLookingBack n 64 ls st M Q := am_go L mt_D_findByLookingBack (fun h => by cases h) k_D_findByLookingBack_64 n 64 ls st M Q o_D_findByLookingBack_64 h
def k_D_reachDay_0 : List am_I := [(.aload_n 0, 1, 0, 0, 0), (.getfield 22, 3, 0, 2, 115), (.iload_n 1, 1, 0, 0, 0), (.if_icmp .ge 59, 3, 0, 0, 0), (.aload_n 0, 1, 0, 0, 0), (.getfield 22, 3, 0, 2, 115), (.bipush 120, 2, 0, 0, 0), (.if_icmp .ge 50, 3, 0, 0, 0), (.aload_n 0, 1, 0, 0, 0), (.getfield 12, 3, 0, 0, 113), (.bipush 24, 2, 0, 0, 0), (.invokevirtual 53, 3, 14, 2, 402), (.aload_n 0, 1, 0, 0, 0), (.dup, 1, 0, 0, 0), (.getfield 22, 3, 0, 2, 115), (.iconst 1, 1, 0, 0, 0), (.iadd, 1, 0, 0, 0), (.putfield 22, 3, 0, 2, 115), (.aload_n 0, 1, 0, 0, 0), (.getfield 12, 3, 0, 0, 113), (.getfield 36, 3, 1, 0, 100), (.bipush 10, 2, 0, 0, 0), (.aload_n 0, 1, 0, 0, 0), (.getfield 18, 3, 0, 1, 114), (.aload_n 0, 1, 0, 0, 0), (.getfield 22, 3, 0, 2, 115), (.bipush 35, 2, 0, 0, 0), (.imul, 1, 0, 0, 0), (.bipush 35, 2, 0, 0, 0), (.invokestatic 39, 3, 202, 5, 393), (.goto (-61), 3, 0, 0, 0)]
set_option maxRecDepth 20000 in
theorem o_D_reachDay_0 : am_okB mt_D_reachDay 0 k_D_reachDay_0 = true := by decide +kernel
theorem g_D_reachDay_0 {L : am_S} {n : Nat} {ls st : List Value} {M : am_M} {Q : am_Q} (h : am_B L mt_D_reachDay k_D_reachDay_0 n 0 ls st M Q) : am_R L mt_D_reachDay n 0 ls st M Q := am_go L mt_D_reachDay (fun h => by cases h) k_D_reachDay_0 n 0 ls st M Q o_D_reachDay_0 h
def k_D_reachDay_64 : List am_I := [(.return_, 1, 0, 0, 0)]
set_option maxRecDepth 20000 in
theorem o_D_reachDay_64 : am_okB mt_D_reachDay 64 k_D_reachDay_64 = true := by decide +kernel
theorem g_D_reachDay_64 {L : am_S} {n : Nat} {ls st : List Value} {M : am_M} {Q : am_Q} (h : am_B L mt_D_reachDay k_D_reachDay_64 n 64 ls st M Q) : am_R L mt_D_reachDay n 64 ls st M Q := am_go L mt_D_reachDay (fun h => by cases h) k_D_reachDay_64 n 64 ls st M Q o_D_reachDay_64 h
def k_D_isSameLook_0 : List am_I := [(.iload_n 1, 1, 0, 0, 0), (.ifCond .lt 19, 3, 0, 0, 0), (.iload_n 2, 1, 0, 0, 0), (.ifCond .lt 15, 3, 0, 0, 0), (.iload_n 1, 1, 0, 0, 0), (.bipush 120, 2, 0, 0, 0), (.if_icmp .gt 9, 3, 0, 0, 0), (.iload_n 2, 1, 0, 0, 0), (.bipush 120, 2, 0, 0, 0), (.if_icmp .le 5, 3, 0, 0, 0)]
set_option maxRecDepth 20000 in
theorem o_D_isSameLook_0 : am_okB mt_D_isSameLook 0 k_D_isSameLook_0 = true := by decide +kernel
theorem g_D_isSameLook_0 {L : am_S} {n : Nat} {ls st : List Value} {M : am_M} {Q : am_Q} (h : am_B L mt_D_isSameLook k_D_isSameLook_0 n 0 ls st M Q) : am_R L mt_D_isSameLook n 0 ls st M Q := am_go L mt_D_isSameLook (fun h => by cases h) k_D_isSameLook_0 n 0 ls st M Q o_D_isSameLook_0 h
def k_D_isSameLook_20 : List am_I := [(.iconst 0, 1, 0, 0, 0), (.ireturn, 1, 0, 0, 0)]
set_option maxRecDepth 20000 in
theorem o_D_isSameLook_20 : am_okB mt_D_isSameLook 20 k_D_isSameLook_20 = true := by decide +kernel
theorem g_D_isSameLook_20 {L : am_S} {n : Nat} {ls st : List Value} {M : am_M} {Q : am_Q} (h : am_B L mt_D_isSameLook k_D_isSameLook_20 n 20 ls st M Q) : am_R L mt_D_isSameLook n 20 ls st M Q := am_go L mt_D_isSameLook (fun h => by cases h) k_D_isSameLook_20 n 20 ls st M Q o_D_isSameLook_20 h
def k_D_isSameLook_22 : List am_I := [(.iconst 0, 1, 0, 0, 0), (.istore_n 3, 1, 0, 0, 0)]
set_option maxRecDepth 20000 in
theorem o_D_isSameLook_22 : am_okB mt_D_isSameLook 22 k_D_isSameLook_22 = true := by decide +kernel
theorem g_D_isSameLook_22 {L : am_S} {n : Nat} {ls st : List Value} {M : am_M} {Q : am_Q} (h : am_B L mt_D_isSameLook k_D_isSameLook_22 n 22 ls st M Q) : am_R L mt_D_isSameLook n 22 ls st M Q := am_go L mt_D_isSameLook (fun h => by cases h) k_D_isSameLook_22 n 22 ls st M Q o_D_isSameLook_22 h
def k_D_isSameLook_24 : List am_I := [(.iload_n 3, 1, 0, 0, 0), (.bipush 35, 2, 0, 0, 0), (.if_icmp .ge 36, 3, 0, 0, 0), (.aload_n 0, 1, 0, 0, 0), (.getfield 18, 3, 0, 1, 114), (.iload_n 1, 1, 0, 0, 0), (.bipush 35, 2, 0, 0, 0), (.imul, 1, 0, 0, 0), (.iload_n 3, 1, 0, 0, 0), (.iadd, 1, 0, 0, 0), (.iaload, 1, 0, 0, 0), (.aload_n 0, 1, 0, 0, 0), (.getfield 18, 3, 0, 1, 114), (.iload_n 2, 1, 0, 0, 0), (.bipush 35, 2, 0, 0, 0), (.imul, 1, 0, 0, 0), (.iload_n 3, 1, 0, 0, 0), (.iadd, 1, 0, 0, 0), (.iaload, 1, 0, 0, 0), (.if_icmp .eq 5, 3, 0, 0, 0), (.iconst 0, 1, 0, 0, 0), (.ireturn, 1, 0, 0, 0)]
set_option maxRecDepth 20000 in
theorem o_D_isSameLook_24 : am_okB mt_D_isSameLook 24 k_D_isSameLook_24 = true := by decide +kernel
theorem g_D_isSameLook_24 {L : am_S} {n : Nat} {ls st : List Value} {M : am_M} {Q : am_Q} (h : am_B L mt_D_isSameLook k_D_isSameLook_24 n 24 ls st M Q) : am_R L mt_D_isSameLook n 24 ls st M Q := am_go L mt_D_isSameLook (fun h => by cases h) k_D_isSameLook_24 n 24 ls st M Q o_D_isSameLook_24 h
def k_D_isSameLook_57 : List am_I := [(.iinc 3 1, 3, 0, 0, 0), (.goto (-36), 3, 0, 0, 0)]
set_option maxRecDepth 20000 in
theorem o_D_isSameLook_57 : am_okB mt_D_isSameLook 57 k_D_isSameLook_57 = true := by decide +kernel
theorem g_D_isSameLook_57 {L : am_S} {n : Nat} {ls st : List Value} {M : am_M} {Q : am_Q} (h : am_B L mt_D_isSameLook k_D_isSameLook_57 n 57 ls st M Q) : am_R L mt_D_isSameLook n 57 ls st M Q := am_go L mt_D_isSameLook (fun h => by cases h) k_D_isSameLook_57 n 57 ls st M Q o_D_isSameLook_57 h
def k_D_isSameLook_63 : List am_I := [(.iconst 1, 1, 0, 0, 0), (.ireturn, 1, 0, 0, 0)]
set_option maxRecDepth 20000 in
theorem o_D_isSameLook_63 : am_okB mt_D_isSameLook 63 k_D_isSameLook_63 = true := by decide +kernel
theorem g_D_isSameLook_63 {L : am_S} {n : Nat} {ls st : List Value} {M : am_M} {Q : am_Q} (h : am_B L mt_D_isSameLook k_D_isSameLook_63 n 63 ls st M Q) : am_R L mt_D_isSameLook n 63 ls st M Q := am_go L mt_D_isSameLook (fun h => by cases h) k_D_isSameLook_63 n 63 ls st M Q o_D_isSameLook_63 h
