/-! State, Text, Days and the JDK: blocks of code, written by wip/p29/mk15.py out of what TURN printed of the program -/
def k_J_bitCount_0 : List am_I := [(.iload_n 0, 1, 0, 0, 0), (.iload_n 0, 1, 0, 0, 0), (.iconst 1, 1, 0, 0, 0), (.iushr, 1, 0, 0, 0), (.ldc_w 265, 3, 1431655765, 0, 378), (.iand, 1, 0, 0, 0), (.isub, 1, 0, 0, 0), (.istore_n 0, 1, 0, 0, 0), (.iload_n 0, 1, 0, 0, 0), (.ldc_w 266, 3, 858993459, 0, 379), (.iand, 1, 0, 0, 0), (.iload_n 0, 1, 0, 0, 0), (.iconst 2, 1, 0, 0, 0), (.iushr, 1, 0, 0, 0), (.ldc_w 266, 3, 858993459, 0, 379), (.iand, 1, 0, 0, 0), (.iadd, 1, 0, 0, 0), (.istore_n 0, 1, 0, 0, 0), (.iload_n 0, 1, 0, 0, 0), (.iload_n 0, 1, 0, 0, 0), (.iconst 4, 1, 0, 0, 0), (.iushr, 1, 0, 0, 0), (.iadd, 1, 0, 0, 0), (.ldc_w 267, 3, 252645135, 0, 380), (.iand, 1, 0, 0, 0), (.istore_n 0, 1, 0, 0, 0), (.iload_n 0, 1, 0, 0, 0), (.iload_n 0, 1, 0, 0, 0), (.bipush 8, 2, 0, 0, 0), (.iushr, 1, 0, 0, 0), (.iadd, 1, 0, 0, 0), (.istore_n 0, 1, 0, 0, 0), (.iload_n 0, 1, 0, 0, 0), (.iload_n 0, 1, 0, 0, 0), (.bipush 16, 2, 0, 0, 0), (.iushr, 1, 0, 0, 0), (.iadd, 1, 0, 0, 0), (.istore_n 0, 1, 0, 0, 0), (.iload_n 0, 1, 0, 0, 0), (.bipush 63, 2, 0, 0, 0), (.iand, 1, 0, 0, 0), (.ireturn, 1, 0, 0, 0)]
set_option maxRecDepth 20000 in
theorem o_J_bitCount_0 : am_okB mt_J_bitCount 0 k_J_bitCount_0 = true := by decide +kernel
theorem g_J_bitCount_0 {L : am_S} {n : Nat} {ls st : List Value} {M : am_M} {Q : am_Q} (h : am_B L mt_J_bitCount k_J_bitCount_0 n 0 ls st M Q) : am_R L mt_J_bitCount n 0 ls st M Q := am_go L mt_J_bitCount (fun h => by cases h) k_J_bitCount_0 n 0 ls st M Q o_J_bitCount_0 h
def k_S_takeFrom_0 : List am_I := [(.aload_n 1, 1, 0, 0, 0), (.getfield 9, 3, 1, 0, 43), (.iconst 0, 1, 0, 0, 0), (.aload_n 0, 1, 0, 0, 0), (.getfield 9, 3, 1, 0, 43), (.iconst 0, 1, 0, 0, 0), (.bipush 105, 2, 0, 0, 0), (.invokestatic 15, 3, 202, 5, 216), (.return_, 1, 0, 0, 0)]
set_option maxRecDepth 20000 in
theorem o_S_takeFrom_0 : am_okB mt_S_takeFrom 0 k_S_takeFrom_0 = true := by decide +kernel
theorem g_S_takeFrom_0 {L : am_S} {n : Nat} {ls st : List Value} {M : am_M} {Q : am_Q} (h : am_B L mt_S_takeFrom k_S_takeFrom_0 n 0 ls st M Q) : am_R L mt_S_takeFrom n 0 ls st M Q := am_go L mt_S_takeFrom (fun h => by cases h) k_S_takeFrom_0 n 0 ls st M Q o_S_takeFrom_0 h
def k_S_hourOfDay_0 : List am_I := [(.aload_n 0, 1, 0, 0, 0), (.getfield 9, 3, 1, 0, 43), (.bipush 52, 2, 0, 0, 0), (.iaload, 1, 0, 0, 0), (.bipush 24, 2, 0, 0, 0), (.irem, 1, 0, 0, 0), (.ireturn, 1, 0, 0, 0)]
set_option maxRecDepth 20000 in
theorem o_S_hourOfDay_0 : am_okB mt_S_hourOfDay 0 k_S_hourOfDay_0 = true := by decide +kernel
theorem g_S_hourOfDay_0 {L : am_S} {n : Nat} {ls st : List Value} {M : am_M} {Q : am_Q} (h : am_B L mt_S_hourOfDay k_S_hourOfDay_0 n 0 ls st M Q) : am_R L mt_S_hourOfDay n 0 ls st M Q := am_go L mt_S_hourOfDay (fun h => by cases h) k_S_hourOfDay_0 n 0 ls st M Q o_S_hourOfDay_0 h
def k_S_limitIn_0 : List am_I := [(.iload_n 1, 1, 0, 0, 0), (.invokestatic 21, 3, 19, 1, 239), (.ifCond .eq 26, 3, 0, 0, 0), (.aload_n 0, 1, 0, 0, 0), (.getfield 9, 3, 1, 0, 43), (.bipush 10, 2, 0, 0, 0), (.iload_n 1, 1, 0, 0, 0), (.iadd, 1, 0, 0, 0), (.iaload, 1, 0, 0, 0), (.aload_n 0, 1, 0, 0, 0), (.getfield 9, 3, 1, 0, 43), (.bipush 51, 2, 0, 0, 0), (.iaload, 1, 0, 0, 0), (.imul, 1, 0, 0, 0), (.bipush 100, 2, 0, 0, 0), (.idiv, 1, 0, 0, 0), (.goto 4, 3, 0, 0, 0)]
set_option maxRecDepth 20000 in
theorem o_S_limitIn_0 : am_okB mt_S_limitIn 0 k_S_limitIn_0 = true := by decide +kernel
theorem g_S_limitIn_0 {L : am_S} {n : Nat} {ls st : List Value} {M : am_M} {Q : am_Q} (h : am_B L mt_S_limitIn k_S_limitIn_0 n 0 ls st M Q) : am_R L mt_S_limitIn n 0 ls st M Q := am_go L mt_S_limitIn (fun h => by cases h) k_S_limitIn_0 n 0 ls st M Q o_S_limitIn_0 h
def k_S_limitIn_30 : List am_I := [(.iconst 0, 1, 0, 0, 0)]
set_option maxRecDepth 20000 in
theorem o_S_limitIn_30 : am_okB mt_S_limitIn 30 k_S_limitIn_30 = true := by decide +kernel
theorem g_S_limitIn_30 {L : am_S} {n : Nat} {ls st : List Value} {M : am_M} {Q : am_Q} (h : am_B L mt_S_limitIn k_S_limitIn_30 n 30 ls st M Q) : am_R L mt_S_limitIn n 30 ls st M Q := am_go L mt_S_limitIn (fun h => by cases h) k_S_limitIn_30 n 30 ls st M Q o_S_limitIn_30 h
def k_S_limitIn_31 : List am_I := [(.ireturn, 1, 0, 0, 0)]
set_option maxRecDepth 20000 in
theorem o_S_limitIn_31 : am_okB mt_S_limitIn 31 k_S_limitIn_31 = true := by decide +kernel
theorem g_S_limitIn_31 {L : am_S} {n : Nat} {ls st : List Value} {M : am_M} {Q : am_Q} (h : am_B L mt_S_limitIn k_S_limitIn_31 n 31 ls st M Q) : am_R L mt_S_limitIn n 31 ls st M Q := am_go L mt_S_limitIn (fun h => by cases h) k_S_limitIn_31 n 31 ls st M Q o_S_limitIn_31 h
def k_S_pipesLaid_0 : List am_I := [(.iconst 0, 1, 0, 0, 0), (.istore_n 1, 1, 0, 0, 0), (.iconst 0, 1, 0, 0, 0), (.istore_n 2, 1, 0, 0, 0)]
set_option maxRecDepth 20000 in
theorem o_S_pipesLaid_0 : am_okB mt_S_pipesLaid 0 k_S_pipesLaid_0 = true := by decide +kernel
theorem g_S_pipesLaid_0 {L : am_S} {n : Nat} {ls st : List Value} {M : am_M} {Q : am_Q} (h : am_B L mt_S_pipesLaid k_S_pipesLaid_0 n 0 ls st M Q) : am_R L mt_S_pipesLaid n 0 ls st M Q := am_go L mt_S_pipesLaid (fun h => by cases h) k_S_pipesLaid_0 n 0 ls st M Q o_S_pipesLaid_0 h
def k_S_pipesLaid_4 : List am_I := [(.iload_n 2, 1, 0, 0, 0), (.iconst 5, 1, 0, 0, 0), (.if_icmp .ge 23, 3, 0, 0, 0), (.iload_n 1, 1, 0, 0, 0), (.aload_n 0, 1, 0, 0, 0), (.getfield 9, 3, 1, 0, 43), (.iconst 5, 1, 0, 0, 0), (.iload_n 2, 1, 0, 0, 0), (.iadd, 1, 0, 0, 0), (.iaload, 1, 0, 0, 0), (.invokestatic 25, 3, 0, 1, 375), (.iadd, 1, 0, 0, 0), (.istore_n 1, 1, 0, 0, 0), (.iinc 2 1, 3, 0, 0, 0), (.goto (-22), 3, 0, 0, 0)]
set_option maxRecDepth 20000 in
theorem o_S_pipesLaid_4 : am_okB mt_S_pipesLaid 4 k_S_pipesLaid_4 = true := by decide +kernel
theorem g_S_pipesLaid_4 {L : am_S} {n : Nat} {ls st : List Value} {M : am_M} {Q : am_Q} (h : am_B L mt_S_pipesLaid k_S_pipesLaid_4 n 4 ls st M Q) : am_R L mt_S_pipesLaid n 4 ls st M Q := am_go L mt_S_pipesLaid (fun h => by cases h) k_S_pipesLaid_4 n 4 ls st M Q o_S_pipesLaid_4 h
def k_S_pipesLaid_29 : List am_I := [(.iload_n 1, 1, 0, 0, 0), (.iconst 2, 1, 0, 0, 0), (.idiv, 1, 0, 0, 0), (.ireturn, 1, 0, 0, 0)]
set_option maxRecDepth 20000 in
theorem o_S_pipesLaid_29 : am_okB mt_S_pipesLaid 29 k_S_pipesLaid_29 = true := by decide +kernel
theorem g_S_pipesLaid_29 {L : am_S} {n : Nat} {ls st : List Value} {M : am_M} {Q : am_Q} (h : am_B L mt_S_pipesLaid k_S_pipesLaid_29 n 29 ls st M Q) : am_R L mt_S_pipesLaid n 29 ls st M Q := am_go L mt_S_pipesLaid (fun h => by cases h) k_S_pipesLaid_29 n 29 ls st M Q o_S_pipesLaid_29 h
def k_S_waterInAll_0 : List am_I := [(.iconst 0, 1, 0, 0, 0), (.istore_n 1, 1, 0, 0, 0), (.iconst 0, 1, 0, 0, 0), (.istore_n 2, 1, 0, 0, 0)]
set_option maxRecDepth 20000 in
theorem o_S_waterInAll_0 : am_okB mt_S_waterInAll 0 k_S_waterInAll_0 = true := by decide +kernel
theorem g_S_waterInAll_0 {L : am_S} {n : Nat} {ls st : List Value} {M : am_M} {Q : am_Q} (h : am_B L mt_S_waterInAll k_S_waterInAll_0 n 0 ls st M Q) : am_R L mt_S_waterInAll n 0 ls st M Q := am_go L mt_S_waterInAll (fun h => by cases h) k_S_waterInAll_0 n 0 ls st M Q o_S_waterInAll_0 h
def k_S_waterInAll_4 : List am_I := [(.iload_n 2, 1, 0, 0, 0), (.iconst 5, 1, 0, 0, 0), (.if_icmp .ge 21, 3, 0, 0, 0), (.iload_n 1, 1, 0, 0, 0), (.aload_n 0, 1, 0, 0, 0), (.getfield 9, 3, 1, 0, 43), (.bipush 10, 2, 0, 0, 0), (.iload_n 2, 1, 0, 0, 0), (.iadd, 1, 0, 0, 0), (.iaload, 1, 0, 0, 0), (.iadd, 1, 0, 0, 0), (.istore_n 1, 1, 0, 0, 0), (.iinc 2 1, 3, 0, 0, 0), (.goto (-20), 3, 0, 0, 0)]
set_option maxRecDepth 20000 in
theorem o_S_waterInAll_4 : am_okB mt_S_waterInAll 4 k_S_waterInAll_4 = true := by decide +kernel
theorem g_S_waterInAll_4 {L : am_S} {n : Nat} {ls st : List Value} {M : am_M} {Q : am_Q} (h : am_B L mt_S_waterInAll k_S_waterInAll_4 n 4 ls st M Q) : am_R L mt_S_waterInAll n 4 ls st M Q := am_go L mt_S_waterInAll (fun h => by cases h) k_S_waterInAll_4 n 4 ls st M Q o_S_waterInAll_4 h
def k_S_waterInAll_27 : List am_I := [(.iload_n 1, 1, 0, 0, 0), (.ireturn, 1, 0, 0, 0)]
set_option maxRecDepth 20000 in
theorem o_S_waterInAll_27 : am_okB mt_S_waterInAll 27 k_S_waterInAll_27 = true := by decide +kernel
theorem g_S_waterInAll_27 {L : am_S} {n : Nat} {ls st : List Value} {M : am_M} {Q : am_Q} (h : am_B L mt_S_waterInAll k_S_waterInAll_27 n 27 ls st M Q) : am_R L mt_S_waterInAll n 27 ls st M Q := am_go L mt_S_waterInAll (fun h => by cases h) k_S_waterInAll_27 n 27 ls st M Q o_S_waterInAll_27 h
def k_S_vatProperty_0 : List am_I := [(.iload_n 1, 1, 0, 0, 0), (.invokestatic 21, 3, 19, 1, 239), (.ifCond .ne 5, 3, 0, 0, 0), (.iconst 0, 1, 0, 0, 0), (.ireturn, 1, 0, 0, 0)]
set_option maxRecDepth 20000 in
theorem o_S_vatProperty_0 : am_okB mt_S_vatProperty 0 k_S_vatProperty_0 = true := by decide +kernel
theorem g_S_vatProperty_0 {L : am_S} {n : Nat} {ls st : List Value} {M : am_M} {Q : am_Q} (h : am_B L mt_S_vatProperty k_S_vatProperty_0 n 0 ls st M Q) : am_R L mt_S_vatProperty n 0 ls st M Q := am_go L mt_S_vatProperty (fun h => by cases h) k_S_vatProperty_0 n 0 ls st M Q o_S_vatProperty_0 h
def k_S_vatProperty_9 : List am_I := [(.iload_n 2, 1, 0, 0, 0), (.tableswitch 110 0 8 #[50, 59, 69, 69, 69, 85, 85, 85, 101], 50, 0, 0, 0)]
set_option maxRecDepth 20000 in
theorem o_S_vatProperty_9 : am_okB mt_S_vatProperty 9 k_S_vatProperty_9 = true := by decide +kernel
theorem g_S_vatProperty_9 {L : am_S} {n : Nat} {ls st : List Value} {M : am_M} {Q : am_Q} (h : am_B L mt_S_vatProperty k_S_vatProperty_9 n 9 ls st M Q) : am_R L mt_S_vatProperty n 9 ls st M Q := am_go L mt_S_vatProperty (fun h => by cases h) k_S_vatProperty_9 n 9 ls st M Q o_S_vatProperty_9 h
def k_S_vatProperty_60 : List am_I := [(.aload_n 0, 1, 0, 0, 0), (.getfield 9, 3, 1, 0, 43), (.iconst 0, 1, 0, 0, 0), (.iload_n 1, 1, 0, 0, 0), (.iadd, 1, 0, 0, 0), (.iaload, 1, 0, 0, 0), (.ireturn, 1, 0, 0, 0)]
set_option maxRecDepth 20000 in
theorem o_S_vatProperty_60 : am_okB mt_S_vatProperty 60 k_S_vatProperty_60 = true := by decide +kernel
theorem g_S_vatProperty_60 {L : am_S} {n : Nat} {ls st : List Value} {M : am_M} {Q : am_Q} (h : am_B L mt_S_vatProperty k_S_vatProperty_60 n 60 ls st M Q) : am_R L mt_S_vatProperty n 60 ls st M Q := am_go L mt_S_vatProperty (fun h => by cases h) k_S_vatProperty_60 n 60 ls st M Q o_S_vatProperty_60 h
def k_S_vatProperty_69 : List am_I := [(.aload_n 0, 1, 0, 0, 0), (.getfield 9, 3, 1, 0, 43), (.bipush 10, 2, 0, 0, 0), (.iload_n 1, 1, 0, 0, 0), (.iadd, 1, 0, 0, 0), (.iaload, 1, 0, 0, 0), (.ireturn, 1, 0, 0, 0)]
set_option maxRecDepth 20000 in
theorem o_S_vatProperty_69 : am_okB mt_S_vatProperty 69 k_S_vatProperty_69 = true := by decide +kernel
theorem g_S_vatProperty_69 {L : am_S} {n : Nat} {ls st : List Value} {M : am_M} {Q : am_Q} (h : am_B L mt_S_vatProperty k_S_vatProperty_69 n 69 ls st M Q) : am_R L mt_S_vatProperty n 69 ls st M Q := am_go L mt_S_vatProperty (fun h => by cases h) k_S_vatProperty_69 n 69 ls st M Q o_S_vatProperty_69 h
def k_S_vatProperty_79 : List am_I := [(.aload_n 0, 1, 0, 0, 0), (.getfield 9, 3, 1, 0, 43), (.bipush 15, 2, 0, 0, 0), (.iload_n 1, 1, 0, 0, 0), (.iconst 3, 1, 0, 0, 0), (.imul, 1, 0, 0, 0), (.iadd, 1, 0, 0, 0), (.iload_n 2, 1, 0, 0, 0), (.iadd, 1, 0, 0, 0), (.iconst 2, 1, 0, 0, 0), (.isub, 1, 0, 0, 0), (.iaload, 1, 0, 0, 0), (.ireturn, 1, 0, 0, 0)]
set_option maxRecDepth 20000 in
theorem o_S_vatProperty_79 : am_okB mt_S_vatProperty 79 k_S_vatProperty_79 = true := by decide +kernel
theorem g_S_vatProperty_79 {L : am_S} {n : Nat} {ls st : List Value} {M : am_M} {Q : am_Q} (h : am_B L mt_S_vatProperty k_S_vatProperty_79 n 79 ls st M Q) : am_R L mt_S_vatProperty n 79 ls st M Q := am_go L mt_S_vatProperty (fun h => by cases h) k_S_vatProperty_79 n 79 ls st M Q o_S_vatProperty_79 h
def k_S_vatProperty_95 : List am_I := [(.aload_n 0, 1, 0, 0, 0), (.getfield 9, 3, 1, 0, 43), (.bipush 30, 2, 0, 0, 0), (.iload_n 1, 1, 0, 0, 0), (.iconst 3, 1, 0, 0, 0), (.imul, 1, 0, 0, 0), (.iadd, 1, 0, 0, 0), (.iload_n 2, 1, 0, 0, 0), (.iadd, 1, 0, 0, 0), (.iconst 5, 1, 0, 0, 0), (.isub, 1, 0, 0, 0), (.iaload, 1, 0, 0, 0), (.ireturn, 1, 0, 0, 0)]
set_option maxRecDepth 20000 in
theorem o_S_vatProperty_95 : am_okB mt_S_vatProperty 95 k_S_vatProperty_95 = true := by decide +kernel
theorem g_S_vatProperty_95 {L : am_S} {n : Nat} {ls st : List Value} {M : am_M} {Q : am_Q} (h : am_B L mt_S_vatProperty k_S_vatProperty_95 n 95 ls st M Q) : am_R L mt_S_vatProperty n 95 ls st M Q := am_go L mt_S_vatProperty (fun h => by cases h) k_S_vatProperty_95 n 95 ls st M Q o_S_vatProperty_95 h
def k_S_vatProperty_111 : List am_I := [(.aload_n 0, 1, 0, 0, 0), (.getfield 9, 3, 1, 0, 43), (.iconst 5, 1, 0, 0, 0), (.iload_n 1, 1, 0, 0, 0), (.iadd, 1, 0, 0, 0), (.iaload, 1, 0, 0, 0), (.ireturn, 1, 0, 0, 0)]
set_option maxRecDepth 20000 in
theorem o_S_vatProperty_111 : am_okB mt_S_vatProperty 111 k_S_vatProperty_111 = true := by decide +kernel
theorem g_S_vatProperty_111 {L : am_S} {n : Nat} {ls st : List Value} {M : am_M} {Q : am_Q} (h : am_B L mt_S_vatProperty k_S_vatProperty_111 n 111 ls st M Q) : am_R L mt_S_vatProperty n 111 ls st M Q := am_go L mt_S_vatProperty (fun h => by cases h) k_S_vatProperty_111 n 111 ls st M Q o_S_vatProperty_111 h
def k_S_vatProperty_120 : List am_I := [(.aload_n 0, 1, 0, 0, 0), (.iload_n 1, 1, 0, 0, 0), (.invokevirtual 31, 3, 3, 2, 253), (.ireturn, 1, 0, 0, 0)]
set_option maxRecDepth 20000 in
theorem o_S_vatProperty_120 : am_okB mt_S_vatProperty 120 k_S_vatProperty_120 = true := by decide +kernel
theorem g_S_vatProperty_120 {L : am_S} {n : Nat} {ls st : List Value} {M : am_M} {Q : am_Q} (h : am_B L mt_S_vatProperty k_S_vatProperty_120 n 120 ls st M Q) : am_R L mt_S_vatProperty n 120 ls st M Q := am_go L mt_S_vatProperty (fun h => by cases h) k_S_vatProperty_120 n 120 ls st M Q o_S_vatProperty_120 h
def k_S_valveProperty_0 : List am_I := [(.iload_n 1, 1, 0, 0, 0), (.ifCond .lt 9, 3, 0, 0, 0), (.iload_n 1, 1, 0, 0, 0), (.bipush 8, 2, 0, 0, 0), (.if_icmp .lt 5, 3, 0, 0, 0)]
set_option maxRecDepth 20000 in
theorem o_S_valveProperty_0 : am_okB mt_S_valveProperty 0 k_S_valveProperty_0 = true := by decide +kernel
theorem g_S_valveProperty_0 {L : am_S} {n : Nat} {ls st : List Value} {M : am_M} {Q : am_Q} (h : am_B L mt_S_valveProperty k_S_valveProperty_0 n 0 ls st M Q) : am_R L mt_S_valveProperty n 0 ls st M Q := am_go L mt_S_valveProperty (fun h => by cases h) k_S_valveProperty_0 n 0 ls st M Q o_S_valveProperty_0 h
def k_S_valveProperty_10 : List am_I := [(.iconst 0, 1, 0, 0, 0), (.ireturn, 1, 0, 0, 0)]
set_option maxRecDepth 20000 in
theorem o_S_valveProperty_10 : am_okB mt_S_valveProperty 10 k_S_valveProperty_10 = true := by decide +kernel
theorem g_S_valveProperty_10 {L : am_S} {n : Nat} {ls st : List Value} {M : am_M} {Q : am_Q} (h : am_B L mt_S_valveProperty k_S_valveProperty_10 n 10 ls st M Q) : am_R L mt_S_valveProperty n 10 ls st M Q := am_go L mt_S_valveProperty (fun h => by cases h) k_S_valveProperty_10 n 10 ls st M Q o_S_valveProperty_10 h
def k_S_valveProperty_12 : List am_I := [(.bipush 57, 2, 0, 0, 0), (.iload_n 1, 1, 0, 0, 0), (.bipush 6, 2, 0, 0, 0), (.imul, 1, 0, 0, 0), (.iadd, 1, 0, 0, 0), (.istore_n 3, 1, 0, 0, 0), (.iload_n 2, 1, 0, 0, 0), (.tableswitch 102 0 5 #[39, 48, 57, 66, 75, 84], 39, 0, 0, 0)]
set_option maxRecDepth 20000 in
theorem o_S_valveProperty_12 : am_okB mt_S_valveProperty 12 k_S_valveProperty_12 = true := by decide +kernel
theorem g_S_valveProperty_12 {L : am_S} {n : Nat} {ls st : List Value} {M : am_M} {Q : am_Q} (h : am_B L mt_S_valveProperty k_S_valveProperty_12 n 12 ls st M Q) : am_R L mt_S_valveProperty n 12 ls st M Q := am_go L mt_S_valveProperty (fun h => by cases h) k_S_valveProperty_12 n 12 ls st M Q o_S_valveProperty_12 h
def k_S_valveProperty_60 : List am_I := [(.aload_n 0, 1, 0, 0, 0), (.getfield 9, 3, 1, 0, 43), (.iload_n 3, 1, 0, 0, 0), (.iconst 0, 1, 0, 0, 0), (.iadd, 1, 0, 0, 0), (.iaload, 1, 0, 0, 0), (.ireturn, 1, 0, 0, 0)]
set_option maxRecDepth 20000 in
theorem o_S_valveProperty_60 : am_okB mt_S_valveProperty 60 k_S_valveProperty_60 = true := by decide +kernel
theorem g_S_valveProperty_60 {L : am_S} {n : Nat} {ls st : List Value} {M : am_M} {Q : am_Q} (h : am_B L mt_S_valveProperty k_S_valveProperty_60 n 60 ls st M Q) : am_R L mt_S_valveProperty n 60 ls st M Q := am_go L mt_S_valveProperty (fun h => by cases h) k_S_valveProperty_60 n 60 ls st M Q o_S_valveProperty_60 h
def k_S_valveProperty_69 : List am_I := [(.aload_n 0, 1, 0, 0, 0), (.getfield 9, 3, 1, 0, 43), (.iload_n 3, 1, 0, 0, 0), (.iconst 1, 1, 0, 0, 0), (.iadd, 1, 0, 0, 0), (.iaload, 1, 0, 0, 0), (.ireturn, 1, 0, 0, 0)]
set_option maxRecDepth 20000 in
theorem o_S_valveProperty_69 : am_okB mt_S_valveProperty 69 k_S_valveProperty_69 = true := by decide +kernel
theorem g_S_valveProperty_69 {L : am_S} {n : Nat} {ls st : List Value} {M : am_M} {Q : am_Q} (h : am_B L mt_S_valveProperty k_S_valveProperty_69 n 69 ls st M Q) : am_R L mt_S_valveProperty n 69 ls st M Q := am_go L mt_S_valveProperty (fun h => by cases h) k_S_valveProperty_69 n 69 ls st M Q o_S_valveProperty_69 h
def k_S_valveProperty_78 : List am_I := [(.aload_n 0, 1, 0, 0, 0), (.getfield 9, 3, 1, 0, 43), (.iload_n 3, 1, 0, 0, 0), (.iconst 2, 1, 0, 0, 0), (.iadd, 1, 0, 0, 0), (.iaload, 1, 0, 0, 0), (.ireturn, 1, 0, 0, 0)]
set_option maxRecDepth 20000 in
theorem o_S_valveProperty_78 : am_okB mt_S_valveProperty 78 k_S_valveProperty_78 = true := by decide +kernel
theorem g_S_valveProperty_78 {L : am_S} {n : Nat} {ls st : List Value} {M : am_M} {Q : am_Q} (h : am_B L mt_S_valveProperty k_S_valveProperty_78 n 78 ls st M Q) : am_R L mt_S_valveProperty n 78 ls st M Q := am_go L mt_S_valveProperty (fun h => by cases h) k_S_valveProperty_78 n 78 ls st M Q o_S_valveProperty_78 h
def k_S_valveProperty_87 : List am_I := [(.aload_n 0, 1, 0, 0, 0), (.getfield 9, 3, 1, 0, 43), (.iload_n 3, 1, 0, 0, 0), (.iconst 3, 1, 0, 0, 0), (.iadd, 1, 0, 0, 0), (.iaload, 1, 0, 0, 0), (.ireturn, 1, 0, 0, 0)]
set_option maxRecDepth 20000 in
theorem o_S_valveProperty_87 : am_okB mt_S_valveProperty 87 k_S_valveProperty_87 = true := by decide +kernel
theorem g_S_valveProperty_87 {L : am_S} {n : Nat} {ls st : List Value} {M : am_M} {Q : am_Q} (h : am_B L mt_S_valveProperty k_S_valveProperty_87 n 87 ls st M Q) : am_R L mt_S_valveProperty n 87 ls st M Q := am_go L mt_S_valveProperty (fun h => by cases h) k_S_valveProperty_87 n 87 ls st M Q o_S_valveProperty_87 h
def k_S_valveProperty_96 : List am_I := [(.aload_n 0, 1, 0, 0, 0), (.getfield 9, 3, 1, 0, 43), (.iload_n 3, 1, 0, 0, 0), (.iconst 4, 1, 0, 0, 0), (.iadd, 1, 0, 0, 0), (.iaload, 1, 0, 0, 0), (.ireturn, 1, 0, 0, 0)]
set_option maxRecDepth 20000 in
theorem o_S_valveProperty_96 : am_okB mt_S_valveProperty 96 k_S_valveProperty_96 = true := by decide +kernel
theorem g_S_valveProperty_96 {L : am_S} {n : Nat} {ls st : List Value} {M : am_M} {Q : am_Q} (h : am_B L mt_S_valveProperty k_S_valveProperty_96 n 96 ls st M Q) : am_R L mt_S_valveProperty n 96 ls st M Q := am_go L mt_S_valveProperty (fun h => by cases h) k_S_valveProperty_96 n 96 ls st M Q o_S_valveProperty_96 h
def k_S_valveProperty_105 : List am_I := [(.aload_n 0, 1, 0, 0, 0), (.iload_n 3, 1, 0, 0, 0), (.aload_n 0, 1, 0, 0, 0), (.invokevirtual 34, 3, 2, 1, 227), (.invokevirtual 38, 3, 16, 3, 231), (.ifCond .eq 7, 3, 0, 0, 0), (.iconst 1, 1, 0, 0, 0), (.goto 4, 3, 0, 0, 0)]
set_option maxRecDepth 20000 in
theorem o_S_valveProperty_105 : am_okB mt_S_valveProperty 105 k_S_valveProperty_105 = true := by decide +kernel
theorem g_S_valveProperty_105 {L : am_S} {n : Nat} {ls st : List Value} {M : am_M} {Q : am_Q} (h : am_B L mt_S_valveProperty k_S_valveProperty_105 n 105 ls st M Q) : am_R L mt_S_valveProperty n 105 ls st M Q := am_go L mt_S_valveProperty (fun h => by cases h) k_S_valveProperty_105 n 105 ls st M Q o_S_valveProperty_105 h
def k_S_valveProperty_121 : List am_I := [(.iconst 0, 1, 0, 0, 0)]
set_option maxRecDepth 20000 in
theorem o_S_valveProperty_121 : am_okB mt_S_valveProperty 121 k_S_valveProperty_121 = true := by decide +kernel
theorem g_S_valveProperty_121 {L : am_S} {n : Nat} {ls st : List Value} {M : am_M} {Q : am_Q} (h : am_B L mt_S_valveProperty k_S_valveProperty_121 n 121 ls st M Q) : am_R L mt_S_valveProperty n 121 ls st M Q := am_go L mt_S_valveProperty (fun h => by cases h) k_S_valveProperty_121 n 121 ls st M Q o_S_valveProperty_121 h
def k_S_valveProperty_122 : List am_I := [(.ireturn, 1, 0, 0, 0)]
set_option maxRecDepth 20000 in
theorem o_S_valveProperty_122 : am_okB mt_S_valveProperty 122 k_S_valveProperty_122 = true := by decide +kernel
theorem g_S_valveProperty_122 {L : am_S} {n : Nat} {ls st : List Value} {M : am_M} {Q : am_Q} (h : am_B L mt_S_valveProperty k_S_valveProperty_122 n 122 ls st M Q) : am_R L mt_S_valveProperty n 122 ls st M Q := am_go L mt_S_valveProperty (fun h => by cases h) k_S_valveProperty_122 n 122 ls st M Q o_S_valveProperty_122 h
def k_S_valveProperty_123 : List am_I := [(.aload_n 0, 1, 0, 0, 0), (.getfield 9, 3, 1, 0, 43), (.iload_n 3, 1, 0, 0, 0), (.iconst 5, 1, 0, 0, 0), (.iadd, 1, 0, 0, 0), (.iaload, 1, 0, 0, 0), (.ireturn, 1, 0, 0, 0)]
set_option maxRecDepth 20000 in
theorem o_S_valveProperty_123 : am_okB mt_S_valveProperty 123 k_S_valveProperty_123 = true := by decide +kernel
theorem g_S_valveProperty_123 {L : am_S} {n : Nat} {ls st : List Value} {M : am_M} {Q : am_Q} (h : am_B L mt_S_valveProperty k_S_valveProperty_123 n 123 ls st M Q) : am_R L mt_S_valveProperty n 123 ls st M Q := am_go L mt_S_valveProperty (fun h => by cases h) k_S_valveProperty_123 n 123 ls st M Q o_S_valveProperty_123 h
def k_S_dyeProperty_0 : List am_I := [(.iload_n 1, 1, 0, 0, 0), (.ifCond .lt 8, 3, 0, 0, 0), (.iload_n 1, 1, 0, 0, 0), (.iconst 3, 1, 0, 0, 0), (.if_icmp .lt 5, 3, 0, 0, 0)]
set_option maxRecDepth 20000 in
theorem o_S_dyeProperty_0 : am_okB mt_S_dyeProperty 0 k_S_dyeProperty_0 = true := by decide +kernel
theorem g_S_dyeProperty_0 {L : am_S} {n : Nat} {ls st : List Value} {M : am_M} {Q : am_Q} (h : am_B L mt_S_dyeProperty k_S_dyeProperty_0 n 0 ls st M Q) : am_R L mt_S_dyeProperty n 0 ls st M Q := am_go L mt_S_dyeProperty (fun h => by cases h) k_S_dyeProperty_0 n 0 ls st M Q o_S_dyeProperty_0 h
def k_S_dyeProperty_9 : List am_I := [(.iconst 0, 1, 0, 0, 0), (.ireturn, 1, 0, 0, 0)]
set_option maxRecDepth 20000 in
theorem o_S_dyeProperty_9 : am_okB mt_S_dyeProperty 9 k_S_dyeProperty_9 = true := by decide +kernel
theorem g_S_dyeProperty_9 {L : am_S} {n : Nat} {ls st : List Value} {M : am_M} {Q : am_Q} (h : am_B L mt_S_dyeProperty k_S_dyeProperty_9 n 9 ls st M Q) : am_R L mt_S_dyeProperty n 9 ls st M Q := am_go L mt_S_dyeProperty (fun h => by cases h) k_S_dyeProperty_9 n 9 ls st M Q o_S_dyeProperty_9 h
def k_S_dyeProperty_11 : List am_I := [(.iload_n 2, 1, 0, 0, 0), (.tableswitch 70 0 3 #[32, 42, 51, 60], 32, 0, 0, 0)]
set_option maxRecDepth 20000 in
theorem o_S_dyeProperty_11 : am_okB mt_S_dyeProperty 11 k_S_dyeProperty_11 = true := by decide +kernel
theorem g_S_dyeProperty_11 {L : am_S} {n : Nat} {ls st : List Value} {M : am_M} {Q : am_Q} (h : am_B L mt_S_dyeProperty k_S_dyeProperty_11 n 11 ls st M Q) : am_R L mt_S_dyeProperty n 11 ls st M Q := am_go L mt_S_dyeProperty (fun h => by cases h) k_S_dyeProperty_11 n 11 ls st M Q o_S_dyeProperty_11 h
def k_S_dyeProperty_44 : List am_I := [(.aload_n 0, 1, 0, 0, 0), (.getfield 9, 3, 1, 0, 43), (.bipush 45, 2, 0, 0, 0), (.iload_n 1, 1, 0, 0, 0), (.iadd, 1, 0, 0, 0), (.iaload, 1, 0, 0, 0), (.ireturn, 1, 0, 0, 0)]
set_option maxRecDepth 20000 in
theorem o_S_dyeProperty_44 : am_okB mt_S_dyeProperty 44 k_S_dyeProperty_44 = true := by decide +kernel
theorem g_S_dyeProperty_44 {L : am_S} {n : Nat} {ls st : List Value} {M : am_M} {Q : am_Q} (h : am_B L mt_S_dyeProperty k_S_dyeProperty_44 n 44 ls st M Q) : am_R L mt_S_dyeProperty n 44 ls st M Q := am_go L mt_S_dyeProperty (fun h => by cases h) k_S_dyeProperty_44 n 44 ls st M Q o_S_dyeProperty_44 h
def k_S_dyeProperty_54 : List am_I := [(.aload_n 0, 1, 0, 0, 0), (.bipush 15, 2, 0, 0, 0), (.iload_n 1, 1, 0, 0, 0), (.iadd, 1, 0, 0, 0), (.invokevirtual 42, 3, 17, 2, 421), (.ireturn, 1, 0, 0, 0)]
set_option maxRecDepth 20000 in
theorem o_S_dyeProperty_54 : am_okB mt_S_dyeProperty 54 k_S_dyeProperty_54 = true := by decide +kernel
theorem g_S_dyeProperty_54 {L : am_S} {n : Nat} {ls st : List Value} {M : am_M} {Q : am_Q} (h : am_B L mt_S_dyeProperty k_S_dyeProperty_54 n 54 ls st M Q) : am_R L mt_S_dyeProperty n 54 ls st M Q := am_go L mt_S_dyeProperty (fun h => by cases h) k_S_dyeProperty_54 n 54 ls st M Q o_S_dyeProperty_54 h
def k_S_dyeProperty_63 : List am_I := [(.aload_n 0, 1, 0, 0, 0), (.bipush 30, 2, 0, 0, 0), (.iload_n 1, 1, 0, 0, 0), (.iadd, 1, 0, 0, 0), (.invokevirtual 42, 3, 17, 2, 421), (.ireturn, 1, 0, 0, 0)]
set_option maxRecDepth 20000 in
theorem o_S_dyeProperty_63 : am_okB mt_S_dyeProperty 63 k_S_dyeProperty_63 = true := by decide +kernel
theorem g_S_dyeProperty_63 {L : am_S} {n : Nat} {ls st : List Value} {M : am_M} {Q : am_Q} (h : am_B L mt_S_dyeProperty k_S_dyeProperty_63 n 63 ls st M Q) : am_R L mt_S_dyeProperty n 63 ls st M Q := am_go L mt_S_dyeProperty (fun h => by cases h) k_S_dyeProperty_63 n 63 ls st M Q o_S_dyeProperty_63 h
def k_S_dyeProperty_72 : List am_I := [(.aload_n 0, 1, 0, 0, 0), (.getfield 9, 3, 1, 0, 43), (.bipush 48, 2, 0, 0, 0), (.iload_n 1, 1, 0, 0, 0), (.iadd, 1, 0, 0, 0), (.iaload, 1, 0, 0, 0), (.ireturn, 1, 0, 0, 0)]
set_option maxRecDepth 20000 in
theorem o_S_dyeProperty_72 : am_okB mt_S_dyeProperty 72 k_S_dyeProperty_72 = true := by decide +kernel
theorem g_S_dyeProperty_72 {L : am_S} {n : Nat} {ls st : List Value} {M : am_M} {Q : am_Q} (h : am_B L mt_S_dyeProperty k_S_dyeProperty_72 n 72 ls st M Q) : am_R L mt_S_dyeProperty n 72 ls st M Q := am_go L mt_S_dyeProperty (fun h => by cases h) k_S_dyeProperty_72 n 72 ls st M Q o_S_dyeProperty_72 h
def k_S_dyeProperty_82 : List am_I := [(.aload_n 0, 1, 0, 0, 0), (.iload_n 1, 1, 0, 0, 0), (.invokevirtual 45, 3, 18, 2, 425), (.ireturn, 1, 0, 0, 0)]
set_option maxRecDepth 20000 in
theorem o_S_dyeProperty_82 : am_okB mt_S_dyeProperty 82 k_S_dyeProperty_82 = true := by decide +kernel
theorem g_S_dyeProperty_82 {L : am_S} {n : Nat} {ls st : List Value} {M : am_M} {Q : am_Q} (h : am_B L mt_S_dyeProperty k_S_dyeProperty_82 n 82 ls st M Q) : am_R L mt_S_dyeProperty n 82 ls st M Q := am_go L mt_S_dyeProperty (fun h => by cases h) k_S_dyeProperty_82 n 82 ls st M Q o_S_dyeProperty_82 h
def k_S_removeValve_0 : List am_I := [(.aload_n 0, 1, 0, 0, 0), (.getfield 9, 3, 1, 0, 43), (.bipush 56, 2, 0, 0, 0), (.iaload, 1, 0, 0, 0), (.iconst 1, 1, 0, 0, 0), (.isub, 1, 0, 0, 0), (.istore_n 2, 1, 0, 0, 0), (.iload_n 1, 1, 0, 0, 0), (.ifCond .lt 14, 3, 0, 0, 0), (.iload_n 1, 1, 0, 0, 0), (.iload_n 2, 1, 0, 0, 0), (.if_icmp .gt 9, 3, 0, 0, 0), (.iload_n 2, 1, 0, 0, 0), (.bipush 8, 2, 0, 0, 0), (.if_icmp .lt 4, 3, 0, 0, 0)]
set_option maxRecDepth 20000 in
theorem o_S_removeValve_0 : am_okB mt_S_removeValve 0 k_S_removeValve_0 = true := by decide +kernel
theorem g_S_removeValve_0 {L : am_S} {n : Nat} {ls st : List Value} {M : am_M} {Q : am_Q} (h : am_B L mt_S_removeValve k_S_removeValve_0 n 0 ls st M Q) : am_R L mt_S_removeValve n 0 ls st M Q := am_go L mt_S_removeValve (fun h => by cases h) k_S_removeValve_0 n 0 ls st M Q o_S_removeValve_0 h
def k_S_removeValve_25 : List am_I := [(.return_, 1, 0, 0, 0)]
set_option maxRecDepth 20000 in
theorem o_S_removeValve_25 : am_okB mt_S_removeValve 25 k_S_removeValve_25 = true := by decide +kernel
theorem g_S_removeValve_25 {L : am_S} {n : Nat} {ls st : List Value} {M : am_M} {Q : am_Q} (h : am_B L mt_S_removeValve k_S_removeValve_25 n 25 ls st M Q) : am_R L mt_S_removeValve n 25 ls st M Q := am_go L mt_S_removeValve (fun h => by cases h) k_S_removeValve_25 n 25 ls st M Q o_S_removeValve_25 h
def k_S_removeValve_26 : List am_I := [(.bipush 57, 2, 0, 0, 0), (.iload_n 1, 1, 0, 0, 0), (.bipush 6, 2, 0, 0, 0), (.imul, 1, 0, 0, 0), (.iadd, 1, 0, 0, 0), (.istore_n 3, 1, 0, 0, 0), (.aload_n 0, 1, 0, 0, 0), (.getfield 9, 3, 1, 0, 43), (.iload_n 3, 1, 0, 0, 0), (.bipush 6, 2, 0, 0, 0), (.iadd, 1, 0, 0, 0), (.aload_n 0, 1, 0, 0, 0), (.getfield 9, 3, 1, 0, 43), (.iload_n 3, 1, 0, 0, 0), (.iload_n 2, 1, 0, 0, 0), (.iload_n 1, 1, 0, 0, 0), (.isub, 1, 0, 0, 0), (.bipush 6, 2, 0, 0, 0), (.imul, 1, 0, 0, 0), (.invokestatic 15, 3, 202, 5, 216), (.aload_n 0, 1, 0, 0, 0), (.getfield 9, 3, 1, 0, 43), (.bipush 56, 2, 0, 0, 0), (.iload_n 2, 1, 0, 0, 0), (.iastore, 1, 0, 0, 0), (.return_, 1, 0, 0, 0)]
set_option maxRecDepth 20000 in
theorem o_S_removeValve_26 : am_okB mt_S_removeValve 26 k_S_removeValve_26 = true := by decide +kernel
theorem g_S_removeValve_26 {L : am_S} {n : Nat} {ls st : List Value} {M : am_M} {Q : am_Q} (h : am_B L mt_S_removeValve k_S_removeValve_26 n 26 ls st M Q) : am_R L mt_S_removeValve n 26 ls st M Q := am_go L mt_S_removeValve (fun h => by cases h) k_S_removeValve_26 n 26 ls st M Q o_S_removeValve_26 h
def k_S_dissolveSettled_0 : List am_I := [(.iload_n 1, 1, 0, 0, 0), (.invokestatic 21, 3, 19, 1, 239), (.ifCond .ne 5, 3, 0, 0, 0), (.iconst 0, 1, 0, 0, 0), (.ireturn, 1, 0, 0, 0)]
set_option maxRecDepth 20000 in
theorem o_S_dissolveSettled_0 : am_okB mt_S_dissolveSettled 0 k_S_dissolveSettled_0 = true := by decide +kernel
theorem g_S_dissolveSettled_0 {L : am_S} {n : Nat} {ls st : List Value} {M : am_M} {Q : am_Q} (h : am_B L mt_S_dissolveSettled k_S_dissolveSettled_0 n 0 ls st M Q) : am_R L mt_S_dissolveSettled n 0 ls st M Q := am_go L mt_S_dissolveSettled (fun h => by cases h) k_S_dissolveSettled_0 n 0 ls st M Q o_S_dissolveSettled_0 h
def k_S_dissolveSettled_9 : List am_I := [(.iconst 0, 1, 0, 0, 0), (.istore_n 2, 1, 0, 0, 0), (.iconst 0, 1, 0, 0, 0), (.istore_n 3, 1, 0, 0, 0)]
set_option maxRecDepth 20000 in
theorem o_S_dissolveSettled_9 : am_okB mt_S_dissolveSettled 9 k_S_dissolveSettled_9 = true := by decide +kernel
theorem g_S_dissolveSettled_9 {L : am_S} {n : Nat} {ls st : List Value} {M : am_M} {Q : am_Q} (h : am_B L mt_S_dissolveSettled k_S_dissolveSettled_9 n 9 ls st M Q) : am_R L mt_S_dissolveSettled n 9 ls st M Q := am_go L mt_S_dissolveSettled (fun h => by cases h) k_S_dissolveSettled_9 n 9 ls st M Q o_S_dissolveSettled_9 h
def k_S_dissolveSettled_13 : List am_I := [(.iload_n 3, 1, 0, 0, 0), (.iconst 3, 1, 0, 0, 0), (.if_icmp .ge 87, 3, 0, 0, 0), (.bipush 15, 2, 0, 0, 0), (.iload_n 1, 1, 0, 0, 0), (.iconst 3, 1, 0, 0, 0), (.imul, 1, 0, 0, 0), (.iadd, 1, 0, 0, 0), (.iload_n 3, 1, 0, 0, 0), (.iadd, 1, 0, 0, 0), (.istore 4, 2, 0, 0, 0), (.bipush 30, 2, 0, 0, 0), (.iload_n 1, 1, 0, 0, 0), (.iconst 3, 1, 0, 0, 0), (.imul, 1, 0, 0, 0), (.iadd, 1, 0, 0, 0), (.iload_n 3, 1, 0, 0, 0), (.iadd, 1, 0, 0, 0), (.istore 5, 2, 0, 0, 0), (.aload_n 0, 1, 0, 0, 0), (.getfield 9, 3, 1, 0, 43), (.iload 5, 2, 0, 0, 0), (.iaload, 1, 0, 0, 0), (.iconst 0, 1, 0, 0, 0), (.aload_n 0, 1, 0, 0, 0), (.iload_n 1, 1, 0, 0, 0), (.invokevirtual 31, 3, 3, 2, 253), (.aload_n 0, 1, 0, 0, 0), (.getfield 9, 3, 1, 0, 43), (.iload 4, 2, 0, 0, 0), (.iaload, 1, 0, 0, 0), (.isub, 1, 0, 0, 0), (.invokestatic 48, 3, 201, 2, 464), (.invokestatic 54, 3, 200, 2, 242), (.istore 6, 2, 0, 0, 0), (.aload_n 0, 1, 0, 0, 0), (.getfield 9, 3, 1, 0, 43), (.iload 5, 2, 0, 0, 0), (.dup2, 1, 0, 0, 0), (.iaload, 1, 0, 0, 0), (.iload 6, 2, 0, 0, 0), (.isub, 1, 0, 0, 0), (.iastore, 1, 0, 0, 0), (.aload_n 0, 1, 0, 0, 0), (.getfield 9, 3, 1, 0, 43), (.iload 4, 2, 0, 0, 0), (.dup2, 1, 0, 0, 0), (.iaload, 1, 0, 0, 0), (.iload 6, 2, 0, 0, 0), (.iadd, 1, 0, 0, 0), (.iastore, 1, 0, 0, 0), (.iload_n 2, 1, 0, 0, 0), (.iload 6, 2, 0, 0, 0), (.iadd, 1, 0, 0, 0), (.istore_n 2, 1, 0, 0, 0), (.iinc 3 1, 3, 0, 0, 0), (.goto (-86), 3, 0, 0, 0)]
set_option maxRecDepth 20000 in
theorem o_S_dissolveSettled_13 : am_okB mt_S_dissolveSettled 13 k_S_dissolveSettled_13 = true := by decide +kernel
theorem g_S_dissolveSettled_13 {L : am_S} {n : Nat} {ls st : List Value} {M : am_M} {Q : am_Q} (h : am_B L mt_S_dissolveSettled k_S_dissolveSettled_13 n 13 ls st M Q) : am_R L mt_S_dissolveSettled n 13 ls st M Q := am_go L mt_S_dissolveSettled (fun h => by cases h) k_S_dissolveSettled_13 n 13 ls st M Q o_S_dissolveSettled_13 h
def k_S_dissolveSettled_102 : List am_I := [(.iload_n 2, 1, 0, 0, 0), (.ireturn, 1, 0, 0, 0)]
set_option maxRecDepth 20000 in
theorem o_S_dissolveSettled_102 : am_okB mt_S_dissolveSettled 102 k_S_dissolveSettled_102 = true := by decide +kernel
theorem g_S_dissolveSettled_102 {L : am_S} {n : Nat} {ls st : List Value} {M : am_M} {Q : am_Q} (h : am_B L mt_S_dissolveSettled k_S_dissolveSettled_102 n 102 ls st M Q) : am_R L mt_S_dissolveSettled n 102 ls st M Q := am_go L mt_S_dissolveSettled (fun h => by cases h) k_S_dissolveSettled_102 n 102 ls st M Q o_S_dissolveSettled_102 h
def k_S_runHours_0 : List am_I := [(.iconst 0, 1, 0, 0, 0), (.istore_n 2, 1, 0, 0, 0)]
set_option maxRecDepth 20000 in
theorem o_S_runHours_0 : am_okB mt_S_runHours 0 k_S_runHours_0 = true := by decide +kernel
theorem g_S_runHours_0 {L : am_S} {n : Nat} {ls st : List Value} {M : am_M} {Q : am_Q} (h : am_B L mt_S_runHours k_S_runHours_0 n 0 ls st M Q) : am_R L mt_S_runHours n 0 ls st M Q := am_go L mt_S_runHours (fun h => by cases h) k_S_runHours_0 n 0 ls st M Q o_S_runHours_0 h
def k_S_runHours_2 : List am_I := [(.iload_n 2, 1, 0, 0, 0), (.iload_n 1, 1, 0, 0, 0), (.if_icmp .ge 32, 3, 0, 0, 0), (.aload_n 0, 1, 0, 0, 0), (.invokevirtual 57, 3, 12, 1, 223), (.aload_n 0, 1, 0, 0, 0), (.invokevirtual 60, 3, 13, 1, 245), (.aload_n 0, 1, 0, 0, 0), (.invokevirtual 63, 3, 14, 1, 249), (.aload_n 0, 1, 0, 0, 0), (.getfield 9, 3, 1, 0, 43), (.bipush 52, 2, 0, 0, 0), (.dup2, 1, 0, 0, 0), (.iaload, 1, 0, 0, 0), (.iconst 1, 1, 0, 0, 0), (.iadd, 1, 0, 0, 0), (.iastore, 1, 0, 0, 0), (.iinc 2 1, 3, 0, 0, 0), (.goto (-31), 3, 0, 0, 0)]
set_option maxRecDepth 20000 in
theorem o_S_runHours_2 : am_okB mt_S_runHours 2 k_S_runHours_2 = true := by decide +kernel
theorem g_S_runHours_2 {L : am_S} {n : Nat} {ls st : List Value} {M : am_M} {Q : am_Q} (h : am_B L mt_S_runHours k_S_runHours_2 n 2 ls st M Q) : am_R L mt_S_runHours n 2 ls st M Q := am_go L mt_S_runHours (fun h => by cases h) k_S_runHours_2 n 2 ls st M Q o_S_runHours_2 h
def k_S_runHours_36 : List am_I := [(.return_, 1, 0, 0, 0)]
set_option maxRecDepth 20000 in
theorem o_S_runHours_36 : am_okB mt_S_runHours 36 k_S_runHours_36 = true := by decide +kernel
theorem g_S_runHours_36 {L : am_S} {n : Nat} {ls st : List Value} {M : am_M} {Q : am_Q} (h : am_B L mt_S_runHours k_S_runHours_36 n 36 ls st M Q) : am_R L mt_S_runHours n 36 ls st M Q := am_go L mt_S_runHours (fun h => by cases h) k_S_runHours_36 n 36 ls st M Q o_S_runHours_36 h
def k_S_runValves_0 : List am_I := [(.aload_n 0, 1, 0, 0, 0), (.invokevirtual 34, 3, 2, 1, 227), (.istore_n 1, 1, 0, 0, 0), (.iconst 0, 1, 0, 0, 0), (.istore_n 2, 1, 0, 0, 0)]
set_option maxRecDepth 20000 in
theorem o_S_runValves_0 : am_okB mt_S_runValves 0 k_S_runValves_0 = true := by decide +kernel
theorem g_S_runValves_0 {L : am_S} {n : Nat} {ls st : List Value} {M : am_M} {Q : am_Q} (h : am_B L mt_S_runValves k_S_runValves_0 n 0 ls st M Q) : am_R L mt_S_runValves n 0 ls st M Q := am_go L mt_S_runValves (fun h => by cases h) k_S_runValves_0 n 0 ls st M Q o_S_runValves_0 h
def k_S_runValves_7 : List am_I := [(.iload_n 2, 1, 0, 0, 0), (.aload_n 0, 1, 0, 0, 0), (.getfield 9, 3, 1, 0, 43), (.bipush 56, 2, 0, 0, 0), (.iaload, 1, 0, 0, 0), (.if_icmp .ge 71, 3, 0, 0, 0), (.iload_n 2, 1, 0, 0, 0), (.bipush 8, 2, 0, 0, 0), (.if_icmp .ge 65, 3, 0, 0, 0), (.bipush 57, 2, 0, 0, 0), (.iload_n 2, 1, 0, 0, 0), (.bipush 6, 2, 0, 0, 0), (.imul, 1, 0, 0, 0), (.iadd, 1, 0, 0, 0), (.istore_n 3, 1, 0, 0, 0), (.aload_n 0, 1, 0, 0, 0), (.iload_n 3, 1, 0, 0, 0), (.iload_n 1, 1, 0, 0, 0), (.invokevirtual 38, 3, 16, 3, 231), (.ifCond .eq 42, 3, 0, 0, 0), (.aload_n 0, 1, 0, 0, 0), (.getfield 9, 3, 1, 0, 43), (.iload_n 3, 1, 0, 0, 0), (.iconst 5, 1, 0, 0, 0), (.iadd, 1, 0, 0, 0), (.dup2, 1, 0, 0, 0), (.iaload, 1, 0, 0, 0), (.aload_n 0, 1, 0, 0, 0), (.aload_n 0, 1, 0, 0, 0), (.getfield 9, 3, 1, 0, 43), (.iload_n 3, 1, 0, 0, 0), (.iconst 0, 1, 0, 0, 0), (.iadd, 1, 0, 0, 0), (.iaload, 1, 0, 0, 0), (.aload_n 0, 1, 0, 0, 0), (.getfield 9, 3, 1, 0, 43), (.iload_n 3, 1, 0, 0, 0), (.iconst 1, 1, 0, 0, 0), (.iadd, 1, 0, 0, 0), (.iaload, 1, 0, 0, 0), (.aload_n 0, 1, 0, 0, 0), (.getfield 9, 3, 1, 0, 43), (.iload_n 3, 1, 0, 0, 0), (.iconst 2, 1, 0, 0, 0), (.iadd, 1, 0, 0, 0), (.iaload, 1, 0, 0, 0), (.invokevirtual 66, 3, 15, 4, 235), (.iadd, 1, 0, 0, 0), (.iastore, 1, 0, 0, 0)]
set_option maxRecDepth 20000 in
theorem o_S_runValves_7 : am_okB mt_S_runValves 7 k_S_runValves_7 = true := by decide +kernel
theorem g_S_runValves_7 {L : am_S} {n : Nat} {ls st : List Value} {M : am_M} {Q : am_Q} (h : am_B L mt_S_runValves k_S_runValves_7 n 7 ls st M Q) : am_R L mt_S_runValves n 7 ls st M Q := am_go L mt_S_runValves (fun h => by cases h) k_S_runValves_7 n 7 ls st M Q o_S_runValves_7 h
def k_S_runValves_80 : List am_I := [(.iinc 2 1, 3, 0, 0, 0), (.goto (-76), 3, 0, 0, 0)]
set_option maxRecDepth 20000 in
theorem o_S_runValves_80 : am_okB mt_S_runValves 80 k_S_runValves_80 = true := by decide +kernel
theorem g_S_runValves_80 {L : am_S} {n : Nat} {ls st : List Value} {M : am_M} {Q : am_Q} (h : am_B L mt_S_runValves k_S_runValves_80 n 80 ls st M Q) : am_R L mt_S_runValves n 80 ls st M Q := am_go L mt_S_runValves (fun h => by cases h) k_S_runValves_80 n 80 ls st M Q o_S_runValves_80 h
def k_S_runValves_86 : List am_I := [(.return_, 1, 0, 0, 0)]
set_option maxRecDepth 20000 in
theorem o_S_runValves_86 : am_okB mt_S_runValves 86 k_S_runValves_86 = true := by decide +kernel
theorem g_S_runValves_86 {L : am_S} {n : Nat} {ls st : List Value} {M : am_M} {Q : am_Q} (h : am_B L mt_S_runValves k_S_runValves_86 n 86 ls st M Q) : am_R L mt_S_runValves n 86 ls st M Q := am_go L mt_S_runValves (fun h => by cases h) k_S_runValves_86 n 86 ls st M Q o_S_runValves_86 h
def k_S_levelPipes_0 : List am_I := [(.iconst 0, 1, 0, 0, 0), (.istore_n 1, 1, 0, 0, 0)]
set_option maxRecDepth 20000 in
theorem o_S_levelPipes_0 : am_okB mt_S_levelPipes 0 k_S_levelPipes_0 = true := by decide +kernel
theorem g_S_levelPipes_0 {L : am_S} {n : Nat} {ls st : List Value} {M : am_M} {Q : am_Q} (h : am_B L mt_S_levelPipes k_S_levelPipes_0 n 0 ls st M Q) : am_R L mt_S_levelPipes n 0 ls st M Q := am_go L mt_S_levelPipes (fun h => by cases h) k_S_levelPipes_0 n 0 ls st M Q o_S_levelPipes_0 h
def k_S_levelPipes_2 : List am_I := [(.iload_n 1, 1, 0, 0, 0), (.iconst 5, 1, 0, 0, 0), (.if_icmp .ge 94, 3, 0, 0, 0), (.aload_n 0, 1, 0, 0, 0), (.getfield 9, 3, 1, 0, 43), (.iconst 5, 1, 0, 0, 0), (.iload_n 1, 1, 0, 0, 0), (.iadd, 1, 0, 0, 0), (.iaload, 1, 0, 0, 0), (.istore_n 2, 1, 0, 0, 0), (.iload_n 1, 1, 0, 0, 0), (.iconst 1, 1, 0, 0, 0), (.iadd, 1, 0, 0, 0), (.istore_n 3, 1, 0, 0, 0)]
set_option maxRecDepth 20000 in
theorem o_S_levelPipes_2 : am_okB mt_S_levelPipes 2 k_S_levelPipes_2 = true := by decide +kernel
theorem g_S_levelPipes_2 {L : am_S} {n : Nat} {ls st : List Value} {M : am_M} {Q : am_Q} (h : am_B L mt_S_levelPipes k_S_levelPipes_2 n 2 ls st M Q) : am_R L mt_S_levelPipes n 2 ls st M Q := am_go L mt_S_levelPipes (fun h => by cases h) k_S_levelPipes_2 n 2 ls st M Q o_S_levelPipes_2 h
def k_S_levelPipes_20 : List am_I := [(.iload_n 3, 1, 0, 0, 0), (.iconst 5, 1, 0, 0, 0), (.if_icmp .ge 70, 3, 0, 0, 0), (.iload_n 2, 1, 0, 0, 0), (.iload_n 3, 1, 0, 0, 0), (.ishr, 1, 0, 0, 0), (.iconst 1, 1, 0, 0, 0), (.iand, 1, 0, 0, 0), (.iconst 1, 1, 0, 0, 0), (.if_icmp .ne 55, 3, 0, 0, 0), (.aload_n 0, 1, 0, 0, 0), (.getfield 9, 3, 1, 0, 43), (.bipush 10, 2, 0, 0, 0), (.iload_n 1, 1, 0, 0, 0), (.iadd, 1, 0, 0, 0), (.iaload, 1, 0, 0, 0), (.aload_n 0, 1, 0, 0, 0), (.getfield 9, 3, 1, 0, 43), (.bipush 10, 2, 0, 0, 0), (.iload_n 3, 1, 0, 0, 0), (.iadd, 1, 0, 0, 0), (.iaload, 1, 0, 0, 0), (.isub, 1, 0, 0, 0), (.istore 4, 2, 0, 0, 0), (.iload 4, 2, 0, 0, 0), (.ifCond .lt 17, 3, 0, 0, 0), (.aload_n 0, 1, 0, 0, 0), (.iload_n 1, 1, 0, 0, 0), (.iload_n 3, 1, 0, 0, 0), (.iload 4, 2, 0, 0, 0), (.iconst 2, 1, 0, 0, 0), (.idiv, 1, 0, 0, 0), (.invokevirtual 66, 3, 15, 4, 235), (.pop, 1, 0, 0, 0), (.goto 15, 3, 0, 0, 0)]
set_option maxRecDepth 20000 in
theorem o_S_levelPipes_20 : am_okB mt_S_levelPipes 20 k_S_levelPipes_20 = true := by decide +kernel
theorem g_S_levelPipes_20 {L : am_S} {n : Nat} {ls st : List Value} {M : am_M} {Q : am_Q} (h : am_B L mt_S_levelPipes k_S_levelPipes_20 n 20 ls st M Q) : am_R L mt_S_levelPipes n 20 ls st M Q := am_go L mt_S_levelPipes (fun h => by cases h) k_S_levelPipes_20 n 20 ls st M Q o_S_levelPipes_20 h
def k_S_levelPipes_74 : List am_I := [(.aload_n 0, 1, 0, 0, 0), (.iload_n 3, 1, 0, 0, 0), (.iload_n 1, 1, 0, 0, 0), (.iload 4, 2, 0, 0, 0), (.ineg, 1, 0, 0, 0), (.iconst 2, 1, 0, 0, 0), (.idiv, 1, 0, 0, 0), (.invokevirtual 66, 3, 15, 4, 235), (.pop, 1, 0, 0, 0)]
set_option maxRecDepth 20000 in
theorem o_S_levelPipes_74 : am_okB mt_S_levelPipes 74 k_S_levelPipes_74 = true := by decide +kernel
theorem g_S_levelPipes_74 {L : am_S} {n : Nat} {ls st : List Value} {M : am_M} {Q : am_Q} (h : am_B L mt_S_levelPipes k_S_levelPipes_74 n 74 ls st M Q) : am_R L mt_S_levelPipes n 74 ls st M Q := am_go L mt_S_levelPipes (fun h => by cases h) k_S_levelPipes_74 n 74 ls st M Q o_S_levelPipes_74 h
def k_S_levelPipes_86 : List am_I := [(.iinc 3 1, 3, 0, 0, 0), (.goto (-69), 3, 0, 0, 0)]
set_option maxRecDepth 20000 in
theorem o_S_levelPipes_86 : am_okB mt_S_levelPipes 86 k_S_levelPipes_86 = true := by decide +kernel
theorem g_S_levelPipes_86 {L : am_S} {n : Nat} {ls st : List Value} {M : am_M} {Q : am_Q} (h : am_B L mt_S_levelPipes k_S_levelPipes_86 n 86 ls st M Q) : am_R L mt_S_levelPipes n 86 ls st M Q := am_go L mt_S_levelPipes (fun h => by cases h) k_S_levelPipes_86 n 86 ls st M Q o_S_levelPipes_86 h
def k_S_levelPipes_92 : List am_I := [(.iinc 1 1, 3, 0, 0, 0), (.goto (-93), 3, 0, 0, 0)]
set_option maxRecDepth 20000 in
theorem o_S_levelPipes_92 : am_okB mt_S_levelPipes 92 k_S_levelPipes_92 = true := by decide +kernel
theorem g_S_levelPipes_92 {L : am_S} {n : Nat} {ls st : List Value} {M : am_M} {Q : am_Q} (h : am_B L mt_S_levelPipes k_S_levelPipes_92 n 92 ls st M Q) : am_R L mt_S_levelPipes n 92 ls st M Q := am_go L mt_S_levelPipes (fun h => by cases h) k_S_levelPipes_92 n 92 ls st M Q o_S_levelPipes_92 h
def k_S_levelPipes_98 : List am_I := [(.return_, 1, 0, 0, 0)]
set_option maxRecDepth 20000 in
theorem o_S_levelPipes_98 : am_okB mt_S_levelPipes 98 k_S_levelPipes_98 = true := by decide +kernel
theorem g_S_levelPipes_98 {L : am_S} {n : Nat} {ls st : List Value} {M : am_M} {Q : am_Q} (h : am_B L mt_S_levelPipes k_S_levelPipes_98 n 98 ls st M Q) : am_R L mt_S_levelPipes n 98 ls st M Q := am_go L mt_S_levelPipes (fun h => by cases h) k_S_levelPipes_98 n 98 ls st M Q o_S_levelPipes_98 h
def k_S_settleGrains_0 : List am_I := [(.iconst 0, 1, 0, 0, 0), (.istore_n 1, 1, 0, 0, 0)]
set_option maxRecDepth 20000 in
theorem o_S_settleGrains_0 : am_okB mt_S_settleGrains 0 k_S_settleGrains_0 = true := by decide +kernel
theorem g_S_settleGrains_0 {L : am_S} {n : Nat} {ls st : List Value} {M : am_M} {Q : am_Q} (h : am_B L mt_S_settleGrains k_S_settleGrains_0 n 0 ls st M Q) : am_R L mt_S_settleGrains n 0 ls st M Q := am_go L mt_S_settleGrains (fun h => by cases h) k_S_settleGrains_0 n 0 ls st M Q o_S_settleGrains_0 h
def k_S_settleGrains_2 : List am_I := [(.iload_n 1, 1, 0, 0, 0), (.iconst 5, 1, 0, 0, 0), (.if_icmp .ge 84, 3, 0, 0, 0), (.aload_n 0, 1, 0, 0, 0), (.iload_n 1, 1, 0, 0, 0), (.invokevirtual 31, 3, 3, 2, 253), (.istore_n 2, 1, 0, 0, 0), (.iconst 0, 1, 0, 0, 0), (.istore_n 3, 1, 0, 0, 0)]
set_option maxRecDepth 20000 in
theorem o_S_settleGrains_2 : am_okB mt_S_settleGrains 2 k_S_settleGrains_2 = true := by decide +kernel
theorem g_S_settleGrains_2 {L : am_S} {n : Nat} {ls st : List Value} {M : am_M} {Q : am_Q} (h : am_B L mt_S_settleGrains k_S_settleGrains_2 n 2 ls st M Q) : am_R L mt_S_settleGrains n 2 ls st M Q := am_go L mt_S_settleGrains (fun h => by cases h) k_S_settleGrains_2 n 2 ls st M Q o_S_settleGrains_2 h
def k_S_settleGrains_15 : List am_I := [(.iload_n 3, 1, 0, 0, 0), (.iconst 3, 1, 0, 0, 0), (.if_icmp .ge 65, 3, 0, 0, 0), (.bipush 15, 2, 0, 0, 0), (.iload_n 1, 1, 0, 0, 0), (.iconst 3, 1, 0, 0, 0), (.imul, 1, 0, 0, 0), (.iadd, 1, 0, 0, 0), (.iload_n 3, 1, 0, 0, 0), (.iadd, 1, 0, 0, 0), (.istore 4, 2, 0, 0, 0), (.aload_n 0, 1, 0, 0, 0), (.getfield 9, 3, 1, 0, 43), (.iload 4, 2, 0, 0, 0), (.iaload, 1, 0, 0, 0), (.iload_n 2, 1, 0, 0, 0), (.isub, 1, 0, 0, 0), (.istore 5, 2, 0, 0, 0), (.iload 5, 2, 0, 0, 0), (.ifCond .le 33, 3, 0, 0, 0), (.aload_n 0, 1, 0, 0, 0), (.getfield 9, 3, 1, 0, 43), (.iload 4, 2, 0, 0, 0), (.dup2, 1, 0, 0, 0), (.iaload, 1, 0, 0, 0), (.iload 5, 2, 0, 0, 0), (.isub, 1, 0, 0, 0), (.iastore, 1, 0, 0, 0), (.aload_n 0, 1, 0, 0, 0), (.getfield 9, 3, 1, 0, 43), (.bipush 30, 2, 0, 0, 0), (.iload_n 1, 1, 0, 0, 0), (.iconst 3, 1, 0, 0, 0), (.imul, 1, 0, 0, 0), (.iadd, 1, 0, 0, 0), (.iload_n 3, 1, 0, 0, 0), (.iadd, 1, 0, 0, 0), (.dup2, 1, 0, 0, 0), (.iaload, 1, 0, 0, 0), (.iload 5, 2, 0, 0, 0), (.iadd, 1, 0, 0, 0), (.iastore, 1, 0, 0, 0)]
set_option maxRecDepth 20000 in
theorem o_S_settleGrains_15 : am_okB mt_S_settleGrains 15 k_S_settleGrains_15 = true := by decide +kernel
theorem g_S_settleGrains_15 {L : am_S} {n : Nat} {ls st : List Value} {M : am_M} {Q : am_Q} (h : am_B L mt_S_settleGrains k_S_settleGrains_15 n 15 ls st M Q) : am_R L mt_S_settleGrains n 15 ls st M Q := am_go L mt_S_settleGrains (fun h => by cases h) k_S_settleGrains_15 n 15 ls st M Q o_S_settleGrains_15 h
def k_S_settleGrains_76 : List am_I := [(.iinc 3 1, 3, 0, 0, 0), (.goto (-64), 3, 0, 0, 0)]
set_option maxRecDepth 20000 in
theorem o_S_settleGrains_76 : am_okB mt_S_settleGrains 76 k_S_settleGrains_76 = true := by decide +kernel
theorem g_S_settleGrains_76 {L : am_S} {n : Nat} {ls st : List Value} {M : am_M} {Q : am_Q} (h : am_B L mt_S_settleGrains k_S_settleGrains_76 n 76 ls st M Q) : am_R L mt_S_settleGrains n 76 ls st M Q := am_go L mt_S_settleGrains (fun h => by cases h) k_S_settleGrains_76 n 76 ls st M Q o_S_settleGrains_76 h
def k_S_settleGrains_82 : List am_I := [(.iinc 1 1, 3, 0, 0, 0), (.goto (-83), 3, 0, 0, 0)]
set_option maxRecDepth 20000 in
theorem o_S_settleGrains_82 : am_okB mt_S_settleGrains 82 k_S_settleGrains_82 = true := by decide +kernel
theorem g_S_settleGrains_82 {L : am_S} {n : Nat} {ls st : List Value} {M : am_M} {Q : am_Q} (h : am_B L mt_S_settleGrains k_S_settleGrains_82 n 82 ls st M Q) : am_R L mt_S_settleGrains n 82 ls st M Q := am_go L mt_S_settleGrains (fun h => by cases h) k_S_settleGrains_82 n 82 ls st M Q o_S_settleGrains_82 h
def k_S_settleGrains_88 : List am_I := [(.return_, 1, 0, 0, 0)]
set_option maxRecDepth 20000 in
theorem o_S_settleGrains_88 : am_okB mt_S_settleGrains 88 k_S_settleGrains_88 = true := by decide +kernel
theorem g_S_settleGrains_88 {L : am_S} {n : Nat} {ls st : List Value} {M : am_M} {Q : am_Q} (h : am_B L mt_S_settleGrains k_S_settleGrains_88 n 88 ls st M Q) : am_R L mt_S_settleGrains n 88 ls st M Q := am_go L mt_S_settleGrains (fun h => by cases h) k_S_settleGrains_88 n 88 ls st M Q o_S_settleGrains_88 h
def k_S_moveWater_0 : List am_I := [(.iload_n 1, 1, 0, 0, 0), (.invokestatic 21, 3, 19, 1, 239), (.ifCond .eq 15, 3, 0, 0, 0), (.iload_n 2, 1, 0, 0, 0), (.iconst 5, 1, 0, 0, 0), (.if_icmp .eq 12, 3, 0, 0, 0), (.iload_n 2, 1, 0, 0, 0), (.invokestatic 21, 3, 19, 1, 239), (.ifCond .ne 5, 3, 0, 0, 0)]
set_option maxRecDepth 20000 in
theorem o_S_moveWater_0 : am_okB mt_S_moveWater 0 k_S_moveWater_0 = true := by decide +kernel
theorem g_S_moveWater_0 {L : am_S} {n : Nat} {ls st : List Value} {M : am_M} {Q : am_Q} (h : am_B L mt_S_moveWater k_S_moveWater_0 n 0 ls st M Q) : am_R L mt_S_moveWater n 0 ls st M Q := am_go L mt_S_moveWater (fun h => by cases h) k_S_moveWater_0 n 0 ls st M Q o_S_moveWater_0 h
def k_S_moveWater_19 : List am_I := [(.iconst 0, 1, 0, 0, 0), (.ireturn, 1, 0, 0, 0)]
set_option maxRecDepth 20000 in
theorem o_S_moveWater_19 : am_okB mt_S_moveWater 19 k_S_moveWater_19 = true := by decide +kernel
theorem g_S_moveWater_19 {L : am_S} {n : Nat} {ls st : List Value} {M : am_M} {Q : am_Q} (h : am_B L mt_S_moveWater k_S_moveWater_19 n 19 ls st M Q) : am_R L mt_S_moveWater n 19 ls st M Q := am_go L mt_S_moveWater (fun h => by cases h) k_S_moveWater_19 n 19 ls st M Q o_S_moveWater_19 h
def k_S_moveWater_21 : List am_I := [(.aload_n 0, 1, 0, 0, 0), (.getfield 9, 3, 1, 0, 43), (.bipush 10, 2, 0, 0, 0), (.iload_n 1, 1, 0, 0, 0), (.iadd, 1, 0, 0, 0), (.iaload, 1, 0, 0, 0), (.istore 4, 2, 0, 0, 0), (.iload_n 3, 1, 0, 0, 0), (.iload 4, 2, 0, 0, 0), (.invokestatic 54, 3, 200, 2, 242), (.istore 5, 2, 0, 0, 0), (.iload_n 2, 1, 0, 0, 0), (.iconst 5, 1, 0, 0, 0), (.if_icmp .eq 28, 3, 0, 0, 0), (.iload 5, 2, 0, 0, 0), (.aload_n 0, 1, 0, 0, 0), (.getfield 9, 3, 1, 0, 43), (.iconst 0, 1, 0, 0, 0), (.iload_n 2, 1, 0, 0, 0), (.iadd, 1, 0, 0, 0), (.iaload, 1, 0, 0, 0), (.aload_n 0, 1, 0, 0, 0), (.getfield 9, 3, 1, 0, 43), (.bipush 10, 2, 0, 0, 0), (.iload_n 2, 1, 0, 0, 0), (.iadd, 1, 0, 0, 0), (.iaload, 1, 0, 0, 0), (.isub, 1, 0, 0, 0), (.invokestatic 54, 3, 200, 2, 242), (.istore 5, 2, 0, 0, 0)]
set_option maxRecDepth 20000 in
theorem o_S_moveWater_21 : am_okB mt_S_moveWater 21 k_S_moveWater_21 = true := by decide +kernel
theorem g_S_moveWater_21 {L : am_S} {n : Nat} {ls st : List Value} {M : am_M} {Q : am_Q} (h : am_B L mt_S_moveWater k_S_moveWater_21 n 21 ls st M Q) : am_R L mt_S_moveWater n 21 ls st M Q := am_go L mt_S_moveWater (fun h => by cases h) k_S_moveWater_21 n 21 ls st M Q o_S_moveWater_21 h
def k_S_moveWater_70 : List am_I := [(.iload 4, 2, 0, 0, 0), (.ifCond .le 8, 3, 0, 0, 0), (.iload 5, 2, 0, 0, 0), (.ifCond .gt 5, 3, 0, 0, 0)]
set_option maxRecDepth 20000 in
theorem o_S_moveWater_70 : am_okB mt_S_moveWater 70 k_S_moveWater_70 = true := by decide +kernel
theorem g_S_moveWater_70 {L : am_S} {n : Nat} {ls st : List Value} {M : am_M} {Q : am_Q} (h : am_B L mt_S_moveWater k_S_moveWater_70 n 70 ls st M Q) : am_R L mt_S_moveWater n 70 ls st M Q := am_go L mt_S_moveWater (fun h => by cases h) k_S_moveWater_70 n 70 ls st M Q o_S_moveWater_70 h
def k_S_moveWater_80 : List am_I := [(.iconst 0, 1, 0, 0, 0), (.ireturn, 1, 0, 0, 0)]
set_option maxRecDepth 20000 in
theorem o_S_moveWater_80 : am_okB mt_S_moveWater 80 k_S_moveWater_80 = true := by decide +kernel
theorem g_S_moveWater_80 {L : am_S} {n : Nat} {ls st : List Value} {M : am_M} {Q : am_Q} (h : am_B L mt_S_moveWater k_S_moveWater_80 n 80 ls st M Q) : am_R L mt_S_moveWater n 80 ls st M Q := am_go L mt_S_moveWater (fun h => by cases h) k_S_moveWater_80 n 80 ls st M Q o_S_moveWater_80 h
def k_S_moveWater_82 : List am_I := [(.iconst 0, 1, 0, 0, 0), (.istore 6, 2, 0, 0, 0)]
set_option maxRecDepth 20000 in
theorem o_S_moveWater_82 : am_okB mt_S_moveWater 82 k_S_moveWater_82 = true := by decide +kernel
theorem g_S_moveWater_82 {L : am_S} {n : Nat} {ls st : List Value} {M : am_M} {Q : am_Q} (h : am_B L mt_S_moveWater k_S_moveWater_82 n 82 ls st M Q) : am_R L mt_S_moveWater n 82 ls st M Q := am_go L mt_S_moveWater (fun h => by cases h) k_S_moveWater_82 n 82 ls st M Q o_S_moveWater_82 h
def k_S_moveWater_85 : List am_I := [(.iload 6, 2, 0, 0, 0), (.iconst 3, 1, 0, 0, 0), (.if_icmp .ge 82, 3, 0, 0, 0), (.aload_n 0, 1, 0, 0, 0), (.getfield 9, 3, 1, 0, 43), (.bipush 15, 2, 0, 0, 0), (.iload_n 1, 1, 0, 0, 0), (.iconst 3, 1, 0, 0, 0), (.imul, 1, 0, 0, 0), (.iadd, 1, 0, 0, 0), (.iload 6, 2, 0, 0, 0), (.iadd, 1, 0, 0, 0), (.iaload, 1, 0, 0, 0), (.iload 5, 2, 0, 0, 0), (.imul, 1, 0, 0, 0), (.iload 4, 2, 0, 0, 0), (.idiv, 1, 0, 0, 0), (.istore 7, 2, 0, 0, 0), (.aload_n 0, 1, 0, 0, 0), (.getfield 9, 3, 1, 0, 43), (.bipush 15, 2, 0, 0, 0), (.iload_n 1, 1, 0, 0, 0), (.iconst 3, 1, 0, 0, 0), (.imul, 1, 0, 0, 0), (.iadd, 1, 0, 0, 0), (.iload 6, 2, 0, 0, 0), (.iadd, 1, 0, 0, 0), (.dup2, 1, 0, 0, 0), (.iaload, 1, 0, 0, 0), (.iload 7, 2, 0, 0, 0), (.isub, 1, 0, 0, 0), (.iastore, 1, 0, 0, 0), (.aload_n 0, 1, 0, 0, 0), (.getfield 9, 3, 1, 0, 43), (.iload_n 2, 1, 0, 0, 0), (.iconst 5, 1, 0, 0, 0), (.if_icmp .ne 11, 3, 0, 0, 0), (.bipush 48, 2, 0, 0, 0), (.iload 6, 2, 0, 0, 0), (.iadd, 1, 0, 0, 0), (.goto 12, 3, 0, 0, 0)]
set_option maxRecDepth 20000 in
theorem o_S_moveWater_85 : am_okB mt_S_moveWater 85 k_S_moveWater_85 = true := by decide +kernel
theorem g_S_moveWater_85 {L : am_S} {n : Nat} {ls st : List Value} {M : am_M} {Q : am_Q} (h : am_B L mt_S_moveWater k_S_moveWater_85 n 85 ls st M Q) : am_R L mt_S_moveWater n 85 ls st M Q := am_go L mt_S_moveWater (fun h => by cases h) k_S_moveWater_85 n 85 ls st M Q o_S_moveWater_85 h
def k_S_moveWater_149 : List am_I := [(.bipush 15, 2, 0, 0, 0), (.iload_n 2, 1, 0, 0, 0), (.iconst 3, 1, 0, 0, 0), (.imul, 1, 0, 0, 0), (.iadd, 1, 0, 0, 0), (.iload 6, 2, 0, 0, 0), (.iadd, 1, 0, 0, 0)]
set_option maxRecDepth 20000 in
theorem o_S_moveWater_149 : am_okB mt_S_moveWater 149 k_S_moveWater_149 = true := by decide +kernel
theorem g_S_moveWater_149 {L : am_S} {n : Nat} {ls st : List Value} {M : am_M} {Q : am_Q} (h : am_B L mt_S_moveWater k_S_moveWater_149 n 149 ls st M Q) : am_R L mt_S_moveWater n 149 ls st M Q := am_go L mt_S_moveWater (fun h => by cases h) k_S_moveWater_149 n 149 ls st M Q o_S_moveWater_149 h
def k_S_moveWater_158 : List am_I := [(.dup2, 1, 0, 0, 0), (.iaload, 1, 0, 0, 0), (.iload 7, 2, 0, 0, 0), (.iadd, 1, 0, 0, 0), (.iastore, 1, 0, 0, 0), (.iinc 6 1, 3, 0, 0, 0), (.goto (-82), 3, 0, 0, 0)]
set_option maxRecDepth 20000 in
theorem o_S_moveWater_158 : am_okB mt_S_moveWater 158 k_S_moveWater_158 = true := by decide +kernel
theorem g_S_moveWater_158 {L : am_S} {n : Nat} {ls st : List Value} {M : am_M} {Q : am_Q} (h : am_B L mt_S_moveWater k_S_moveWater_158 n 158 ls st M Q) : am_R L mt_S_moveWater n 158 ls st M Q := am_go L mt_S_moveWater (fun h => by cases h) k_S_moveWater_158 n 158 ls st M Q o_S_moveWater_158 h
def k_S_moveWater_170 : List am_I := [(.aload_n 0, 1, 0, 0, 0), (.getfield 9, 3, 1, 0, 43), (.bipush 10, 2, 0, 0, 0), (.iload_n 1, 1, 0, 0, 0), (.iadd, 1, 0, 0, 0), (.dup2, 1, 0, 0, 0), (.iaload, 1, 0, 0, 0), (.iload 5, 2, 0, 0, 0), (.isub, 1, 0, 0, 0), (.iastore, 1, 0, 0, 0), (.aload_n 0, 1, 0, 0, 0), (.getfield 9, 3, 1, 0, 43), (.iload_n 2, 1, 0, 0, 0), (.iconst 5, 1, 0, 0, 0), (.if_icmp .ne 8, 3, 0, 0, 0), (.bipush 54, 2, 0, 0, 0), (.goto 7, 3, 0, 0, 0)]
set_option maxRecDepth 20000 in
theorem o_S_moveWater_170 : am_okB mt_S_moveWater 170 k_S_moveWater_170 = true := by decide +kernel
theorem g_S_moveWater_170 {L : am_S} {n : Nat} {ls st : List Value} {M : am_M} {Q : am_Q} (h : am_B L mt_S_moveWater k_S_moveWater_170 n 170 ls st M Q) : am_R L mt_S_moveWater n 170 ls st M Q := am_go L mt_S_moveWater (fun h => by cases h) k_S_moveWater_170 n 170 ls st M Q o_S_moveWater_170 h
def k_S_moveWater_198 : List am_I := [(.bipush 10, 2, 0, 0, 0), (.iload_n 2, 1, 0, 0, 0), (.iadd, 1, 0, 0, 0)]
set_option maxRecDepth 20000 in
theorem o_S_moveWater_198 : am_okB mt_S_moveWater 198 k_S_moveWater_198 = true := by decide +kernel
theorem g_S_moveWater_198 {L : am_S} {n : Nat} {ls st : List Value} {M : am_M} {Q : am_Q} (h : am_B L mt_S_moveWater k_S_moveWater_198 n 198 ls st M Q) : am_R L mt_S_moveWater n 198 ls st M Q := am_go L mt_S_moveWater (fun h => by cases h) k_S_moveWater_198 n 198 ls st M Q o_S_moveWater_198 h
def k_S_moveWater_202 : List am_I := [(.dup2, 1, 0, 0, 0), (.iaload, 1, 0, 0, 0), (.iload 5, 2, 0, 0, 0), (.iadd, 1, 0, 0, 0), (.iastore, 1, 0, 0, 0), (.iload 5, 2, 0, 0, 0), (.ireturn, 1, 0, 0, 0)]
set_option maxRecDepth 20000 in
theorem o_S_moveWater_202 : am_okB mt_S_moveWater 202 k_S_moveWater_202 = true := by decide +kernel
theorem g_S_moveWater_202 {L : am_S} {n : Nat} {ls st : List Value} {M : am_M} {Q : am_Q} (h : am_B L mt_S_moveWater k_S_moveWater_202 n 202 ls st M Q) : am_R L mt_S_moveWater n 202 ls st M Q := am_go L mt_S_moveWater (fun h => by cases h) k_S_moveWater_202 n 202 ls st M Q o_S_moveWater_202 h
def k_S_isOpen_0 : List am_I := [(.iload_n 1, 1, 0, 0, 0), (.bipush 57, 2, 0, 0, 0), (.if_icmp .lt 39, 3, 0, 0, 0), (.iload_n 1, 1, 0, 0, 0), (.iconst 4, 1, 0, 0, 0), (.iadd, 1, 0, 0, 0), (.bipush 105, 2, 0, 0, 0), (.if_icmp .ge 31, 3, 0, 0, 0), (.iload_n 2, 1, 0, 0, 0), (.aload_n 0, 1, 0, 0, 0), (.getfield 9, 3, 1, 0, 43), (.iload_n 1, 1, 0, 0, 0), (.iconst 3, 1, 0, 0, 0), (.iadd, 1, 0, 0, 0), (.iaload, 1, 0, 0, 0), (.if_icmp .lt 19, 3, 0, 0, 0), (.iload_n 2, 1, 0, 0, 0), (.aload_n 0, 1, 0, 0, 0), (.getfield 9, 3, 1, 0, 43), (.iload_n 1, 1, 0, 0, 0), (.iconst 4, 1, 0, 0, 0), (.iadd, 1, 0, 0, 0), (.iaload, 1, 0, 0, 0), (.if_icmp .gt 7, 3, 0, 0, 0), (.iconst 1, 1, 0, 0, 0), (.goto 4, 3, 0, 0, 0)]
set_option maxRecDepth 20000 in
theorem o_S_isOpen_0 : am_okB mt_S_isOpen 0 k_S_isOpen_0 = true := by decide +kernel
theorem g_S_isOpen_0 {L : am_S} {n : Nat} {ls st : List Value} {M : am_M} {Q : am_Q} (h : am_B L mt_S_isOpen k_S_isOpen_0 n 0 ls st M Q) : am_R L mt_S_isOpen n 0 ls st M Q := am_go L mt_S_isOpen (fun h => by cases h) k_S_isOpen_0 n 0 ls st M Q o_S_isOpen_0 h
def k_S_isOpen_42 : List am_I := [(.iconst 0, 1, 0, 0, 0)]
set_option maxRecDepth 20000 in
theorem o_S_isOpen_42 : am_okB mt_S_isOpen 42 k_S_isOpen_42 = true := by decide +kernel
theorem g_S_isOpen_42 {L : am_S} {n : Nat} {ls st : List Value} {M : am_M} {Q : am_Q} (h : am_B L mt_S_isOpen k_S_isOpen_42 n 42 ls st M Q) : am_R L mt_S_isOpen n 42 ls st M Q := am_go L mt_S_isOpen (fun h => by cases h) k_S_isOpen_42 n 42 ls st M Q o_S_isOpen_42 h
def k_S_isOpen_43 : List am_I := [(.ireturn, 1, 0, 0, 0)]
set_option maxRecDepth 20000 in
theorem o_S_isOpen_43 : am_okB mt_S_isOpen 43 k_S_isOpen_43 = true := by decide +kernel
theorem g_S_isOpen_43 {L : am_S} {n : Nat} {ls st : List Value} {M : am_M} {Q : am_Q} (h : am_B L mt_S_isOpen k_S_isOpen_43 n 43 ls st M Q) : am_R L mt_S_isOpen n 43 ls st M Q := am_go L mt_S_isOpen (fun h => by cases h) k_S_isOpen_43 n 43 ls st M Q o_S_isOpen_43 h
def k_S_grainsInAll_0 : List am_I := [(.iconst 0, 1, 0, 0, 0), (.istore_n 2, 1, 0, 0, 0), (.iconst 0, 1, 0, 0, 0), (.istore_n 3, 1, 0, 0, 0)]
set_option maxRecDepth 20000 in
theorem o_S_grainsInAll_0 : am_okB mt_S_grainsInAll 0 k_S_grainsInAll_0 = true := by decide +kernel
theorem g_S_grainsInAll_0 {L : am_S} {n : Nat} {ls st : List Value} {M : am_M} {Q : am_Q} (h : am_B L mt_S_grainsInAll k_S_grainsInAll_0 n 0 ls st M Q) : am_R L mt_S_grainsInAll n 0 ls st M Q := am_go L mt_S_grainsInAll (fun h => by cases h) k_S_grainsInAll_0 n 0 ls st M Q o_S_grainsInAll_0 h
def k_S_grainsInAll_4 : List am_I := [(.iload_n 3, 1, 0, 0, 0), (.iconst 5, 1, 0, 0, 0), (.if_icmp .ge 38, 3, 0, 0, 0), (.iload_n 1, 1, 0, 0, 0), (.iload_n 3, 1, 0, 0, 0), (.iconst 3, 1, 0, 0, 0), (.imul, 1, 0, 0, 0), (.iadd, 1, 0, 0, 0), (.istore 4, 2, 0, 0, 0), (.iload 4, 2, 0, 0, 0), (.ifCond .lt 20, 3, 0, 0, 0), (.iload 4, 2, 0, 0, 0), (.bipush 105, 2, 0, 0, 0), (.if_icmp .ge 13, 3, 0, 0, 0), (.iload_n 2, 1, 0, 0, 0), (.aload_n 0, 1, 0, 0, 0), (.getfield 9, 3, 1, 0, 43), (.iload 4, 2, 0, 0, 0), (.iaload, 1, 0, 0, 0), (.iadd, 1, 0, 0, 0), (.istore_n 2, 1, 0, 0, 0)]
set_option maxRecDepth 20000 in
theorem o_S_grainsInAll_4 : am_okB mt_S_grainsInAll 4 k_S_grainsInAll_4 = true := by decide +kernel
theorem g_S_grainsInAll_4 {L : am_S} {n : Nat} {ls st : List Value} {M : am_M} {Q : am_Q} (h : am_B L mt_S_grainsInAll k_S_grainsInAll_4 n 4 ls st M Q) : am_R L mt_S_grainsInAll n 4 ls st M Q := am_go L mt_S_grainsInAll (fun h => by cases h) k_S_grainsInAll_4 n 4 ls st M Q o_S_grainsInAll_4 h
def k_S_grainsInAll_38 : List am_I := [(.iinc 3 1, 3, 0, 0, 0), (.goto (-37), 3, 0, 0, 0)]
set_option maxRecDepth 20000 in
theorem o_S_grainsInAll_38 : am_okB mt_S_grainsInAll 38 k_S_grainsInAll_38 = true := by decide +kernel
theorem g_S_grainsInAll_38 {L : am_S} {n : Nat} {ls st : List Value} {M : am_M} {Q : am_Q} (h : am_B L mt_S_grainsInAll k_S_grainsInAll_38 n 38 ls st M Q) : am_R L mt_S_grainsInAll n 38 ls st M Q := am_go L mt_S_grainsInAll (fun h => by cases h) k_S_grainsInAll_38 n 38 ls st M Q o_S_grainsInAll_38 h
def k_S_grainsInAll_44 : List am_I := [(.iload_n 2, 1, 0, 0, 0), (.ireturn, 1, 0, 0, 0)]
set_option maxRecDepth 20000 in
theorem o_S_grainsInAll_44 : am_okB mt_S_grainsInAll 44 k_S_grainsInAll_44 = true := by decide +kernel
theorem g_S_grainsInAll_44 {L : am_S} {n : Nat} {ls st : List Value} {M : am_M} {Q : am_Q} (h : am_B L mt_S_grainsInAll k_S_grainsInAll_44 n 44 ls st M Q) : am_R L mt_S_grainsInAll n 44 ls st M Q := am_go L mt_S_grainsInAll (fun h => by cases h) k_S_grainsInAll_44 n 44 ls st M Q o_S_grainsInAll_44 h
def k_S_strongestVat_0 : List am_I := [(.iload_n 1, 1, 0, 0, 0), (.ifCond .lt 8, 3, 0, 0, 0), (.iload_n 1, 1, 0, 0, 0), (.iconst 3, 1, 0, 0, 0), (.if_icmp .lt 5, 3, 0, 0, 0)]
set_option maxRecDepth 20000 in
theorem o_S_strongestVat_0 : am_okB mt_S_strongestVat 0 k_S_strongestVat_0 = true := by decide +kernel
theorem g_S_strongestVat_0 {L : am_S} {n : Nat} {ls st : List Value} {M : am_M} {Q : am_Q} (h : am_B L mt_S_strongestVat k_S_strongestVat_0 n 0 ls st M Q) : am_R L mt_S_strongestVat n 0 ls st M Q := am_go L mt_S_strongestVat (fun h => by cases h) k_S_strongestVat_0 n 0 ls st M Q o_S_strongestVat_0 h
def k_S_strongestVat_9 : List am_I := [(.iconst (-1), 1, 0, 0, 0), (.ireturn, 1, 0, 0, 0)]
set_option maxRecDepth 20000 in
theorem o_S_strongestVat_9 : am_okB mt_S_strongestVat 9 k_S_strongestVat_9 = true := by decide +kernel
theorem g_S_strongestVat_9 {L : am_S} {n : Nat} {ls st : List Value} {M : am_M} {Q : am_Q} (h : am_B L mt_S_strongestVat k_S_strongestVat_9 n 9 ls st M Q) : am_R L mt_S_strongestVat n 9 ls st M Q := am_go L mt_S_strongestVat (fun h => by cases h) k_S_strongestVat_9 n 9 ls st M Q o_S_strongestVat_9 h
def k_S_strongestVat_11 : List am_I := [(.iconst (-1), 1, 0, 0, 0), (.istore_n 2, 1, 0, 0, 0), (.iconst 0, 1, 0, 0, 0), (.istore_n 3, 1, 0, 0, 0), (.iconst 1, 1, 0, 0, 0), (.istore 4, 2, 0, 0, 0), (.iconst 0, 1, 0, 0, 0), (.istore 5, 2, 0, 0, 0)]
set_option maxRecDepth 20000 in
theorem o_S_strongestVat_11 : am_okB mt_S_strongestVat 11 k_S_strongestVat_11 = true := by decide +kernel
theorem g_S_strongestVat_11 {L : am_S} {n : Nat} {ls st : List Value} {M : am_M} {Q : am_Q} (h : am_B L mt_S_strongestVat k_S_strongestVat_11 n 11 ls st M Q) : am_R L mt_S_strongestVat n 11 ls st M Q := am_go L mt_S_strongestVat (fun h => by cases h) k_S_strongestVat_11 n 11 ls st M Q o_S_strongestVat_11 h
def k_S_strongestVat_21 : List am_I := [(.iload 5, 2, 0, 0, 0), (.iconst 5, 1, 0, 0, 0), (.if_icmp .ge 69, 3, 0, 0, 0), (.aload_n 0, 1, 0, 0, 0), (.getfield 9, 3, 1, 0, 43), (.bipush 10, 2, 0, 0, 0), (.iload 5, 2, 0, 0, 0), (.iadd, 1, 0, 0, 0), (.iaload, 1, 0, 0, 0), (.istore 6, 2, 0, 0, 0), (.aload_n 0, 1, 0, 0, 0), (.getfield 9, 3, 1, 0, 43), (.bipush 15, 2, 0, 0, 0), (.iload 5, 2, 0, 0, 0), (.iconst 3, 1, 0, 0, 0), (.imul, 1, 0, 0, 0), (.iadd, 1, 0, 0, 0), (.iload_n 1, 1, 0, 0, 0), (.iadd, 1, 0, 0, 0), (.iaload, 1, 0, 0, 0), (.istore 7, 2, 0, 0, 0), (.iload 6, 2, 0, 0, 0), (.ifCond .le 30, 3, 0, 0, 0), (.iload_n 2, 1, 0, 0, 0), (.iconst (-1), 1, 0, 0, 0), (.if_icmp .eq 15, 3, 0, 0, 0), (.iload 7, 2, 0, 0, 0), (.iload 4, 2, 0, 0, 0), (.imul, 1, 0, 0, 0), (.iload_n 3, 1, 0, 0, 0), (.iload 6, 2, 0, 0, 0), (.imul, 1, 0, 0, 0), (.if_icmp .le 13, 3, 0, 0, 0)]
set_option maxRecDepth 20000 in
theorem o_S_strongestVat_21 : am_okB mt_S_strongestVat 21 k_S_strongestVat_21 = true := by decide +kernel
theorem g_S_strongestVat_21 {L : am_S} {n : Nat} {ls st : List Value} {M : am_M} {Q : am_Q} (h : am_B L mt_S_strongestVat k_S_strongestVat_21 n 21 ls st M Q) : am_R L mt_S_strongestVat n 21 ls st M Q := am_go L mt_S_strongestVat (fun h => by cases h) k_S_strongestVat_21 n 21 ls st M Q o_S_strongestVat_21 h
def k_S_strongestVat_77 : List am_I := [(.iload 5, 2, 0, 0, 0), (.istore_n 2, 1, 0, 0, 0), (.iload 7, 2, 0, 0, 0), (.istore_n 3, 1, 0, 0, 0), (.iload 6, 2, 0, 0, 0), (.istore 4, 2, 0, 0, 0)]
set_option maxRecDepth 20000 in
theorem o_S_strongestVat_77 : am_okB mt_S_strongestVat 77 k_S_strongestVat_77 = true := by decide +kernel
theorem g_S_strongestVat_77 {L : am_S} {n : Nat} {ls st : List Value} {M : am_M} {Q : am_Q} (h : am_B L mt_S_strongestVat k_S_strongestVat_77 n 77 ls st M Q) : am_R L mt_S_strongestVat n 77 ls st M Q := am_go L mt_S_strongestVat (fun h => by cases h) k_S_strongestVat_77 n 77 ls st M Q o_S_strongestVat_77 h
def k_S_strongestVat_87 : List am_I := [(.iinc 5 1, 3, 0, 0, 0), (.goto (-69), 3, 0, 0, 0)]
set_option maxRecDepth 20000 in
theorem o_S_strongestVat_87 : am_okB mt_S_strongestVat 87 k_S_strongestVat_87 = true := by decide +kernel
theorem g_S_strongestVat_87 {L : am_S} {n : Nat} {ls st : List Value} {M : am_M} {Q : am_Q} (h : am_B L mt_S_strongestVat k_S_strongestVat_87 n 87 ls st M Q) : am_R L mt_S_strongestVat n 87 ls st M Q := am_go L mt_S_strongestVat (fun h => by cases h) k_S_strongestVat_87 n 87 ls st M Q o_S_strongestVat_87 h
def k_S_strongestVat_93 : List am_I := [(.iload_n 2, 1, 0, 0, 0), (.ireturn, 1, 0, 0, 0)]
set_option maxRecDepth 20000 in
theorem o_S_strongestVat_93 : am_okB mt_S_strongestVat 93 k_S_strongestVat_93 = true := by decide +kernel
theorem g_S_strongestVat_93 {L : am_S} {n : Nat} {ls st : List Value} {M : am_M} {Q : am_Q} (h : am_B L mt_S_strongestVat k_S_strongestVat_93 n 93 ls st M Q) : am_R L mt_S_strongestVat n 93 ls st M Q := am_go L mt_S_strongestVat (fun h => by cases h) k_S_strongestVat_93 n 93 ls st M Q o_S_strongestVat_93 h
def k_S_isVat_0 : List am_I := [(.iload_n 0, 1, 0, 0, 0), (.ifCond .lt 12, 3, 0, 0, 0), (.iload_n 0, 1, 0, 0, 0), (.iconst 5, 1, 0, 0, 0), (.if_icmp .ge 7, 3, 0, 0, 0), (.iconst 1, 1, 0, 0, 0), (.goto 4, 3, 0, 0, 0)]
set_option maxRecDepth 20000 in
theorem o_S_isVat_0 : am_okB mt_S_isVat 0 k_S_isVat_0 = true := by decide +kernel
theorem g_S_isVat_0 {L : am_S} {n : Nat} {ls st : List Value} {M : am_M} {Q : am_Q} (h : am_B L mt_S_isVat k_S_isVat_0 n 0 ls st M Q) : am_R L mt_S_isVat n 0 ls st M Q := am_go L mt_S_isVat (fun h => by cases h) k_S_isVat_0 n 0 ls st M Q o_S_isVat_0 h
def k_S_isVat_13 : List am_I := [(.iconst 0, 1, 0, 0, 0)]
set_option maxRecDepth 20000 in
theorem o_S_isVat_13 : am_okB mt_S_isVat 13 k_S_isVat_13 = true := by decide +kernel
theorem g_S_isVat_13 {L : am_S} {n : Nat} {ls st : List Value} {M : am_M} {Q : am_Q} (h : am_B L mt_S_isVat k_S_isVat_13 n 13 ls st M Q) : am_R L mt_S_isVat n 13 ls st M Q := am_go L mt_S_isVat (fun h => by cases h) k_S_isVat_13 n 13 ls st M Q o_S_isVat_13 h
def k_S_isVat_14 : List am_I := [(.ireturn, 1, 0, 0, 0)]
set_option maxRecDepth 20000 in
theorem o_S_isVat_14 : am_okB mt_S_isVat 14 k_S_isVat_14 = true := by decide +kernel
theorem g_S_isVat_14 {L : am_S} {n : Nat} {ls st : List Value} {M : am_M} {Q : am_Q} (h : am_B L mt_S_isVat k_S_isVat_14 n 14 ls st M Q) : am_R L mt_S_isVat n 14 ls st M Q := am_go L mt_S_isVat (fun h => by cases h) k_S_isVat_14 n 14 ls st M Q o_S_isVat_14 h
def k_D_beginWith_0 : List am_I := [(.aload_n 0, 1, 0, 0, 0), (.getfield 12, 3, 0, 0, 58), (.aload_n 1, 1, 0, 0, 0), (.invokevirtual 32, 3, 1, 2, 284), (.aload_n 0, 1, 0, 0, 0), (.iconst 0, 1, 0, 0, 0), (.putfield 22, 3, 0, 2, 60), (.aload_n 0, 1, 0, 0, 0), (.getfield 12, 3, 0, 0, 58), (.getfield 36, 3, 1, 0, 45), (.bipush 10, 2, 0, 0, 0), (.aload_n 0, 1, 0, 0, 0), (.getfield 18, 3, 0, 1, 59), (.iconst 0, 1, 0, 0, 0), (.bipush 35, 2, 0, 0, 0), (.invokestatic 39, 3, 202, 5, 285), (.return_, 1, 0, 0, 0)]
set_option maxRecDepth 20000 in
theorem o_D_beginWith_0 : am_okB mt_D_beginWith 0 k_D_beginWith_0 = true := by decide +kernel
theorem g_D_beginWith_0 {L : am_S} {n : Nat} {ls st : List Value} {M : am_M} {Q : am_Q} (h : am_B L mt_D_beginWith k_D_beginWith_0 n 0 ls st M Q) : am_R L mt_D_beginWith n 0 ls st M Q := am_go L mt_D_beginWith (fun h => by cases h) k_D_beginWith_0 n 0 ls st M Q o_D_beginWith_0 h
def k_D_findByRunners_0 : List am_I := [(.aload_n 0, 1, 0, 0, 0), (.iconst (-1), 1, 0, 0, 0), (.putfield 26, 3, 0, 3, 61), (.aload_n 0, 1, 0, 0, 0), (.iconst (-1), 1, 0, 0, 0), (.putfield 29, 3, 0, 4, 63), (.iconst 0, 1, 0, 0, 0), (.istore_n 1, 1, 0, 0, 0)]
set_option maxRecDepth 20000 in
theorem o_D_findByRunners_0 : am_okB mt_D_findByRunners 0 k_D_findByRunners_0 = true := by decide +kernel
theorem g_D_findByRunners_0 {L : am_S} {n : Nat} {ls st : List Value} {M : am_M} {Q : am_Q} (h : am_B L mt_D_findByRunners k_D_findByRunners_0 n 0 ls st M Q) : am_R L mt_D_findByRunners n 0 ls st M Q := am_go L mt_D_findByRunners (fun h => by cases h) k_D_findByRunners_0 n 0 ls st M Q o_D_findByRunners_0 h
def k_D_findByRunners_12 : List am_I := [(.iinc 1 1, 3, 0, 0, 0), (.aload_n 0, 1, 0, 0, 0), (.iconst 2, 1, 0, 0, 0), (.iload_n 1, 1, 0, 0, 0), (.imul, 1, 0, 0, 0), (.invokevirtual 45, 3, 23, 2, 290), (.iload_n 1, 1, 0, 0, 0), (.bipush 60, 2, 0, 0, 0), (.if_icmp .ge 14, 3, 0, 0, 0), (.aload_n 0, 1, 0, 0, 0), (.iload_n 1, 1, 0, 0, 0), (.iconst 2, 1, 0, 0, 0), (.iload_n 1, 1, 0, 0, 0), (.imul, 1, 0, 0, 0), (.invokevirtual 49, 3, 24, 3, 295), (.ifCond .eq (-24), 3, 0, 0, 0)]
set_option maxRecDepth 20000 in
theorem o_D_findByRunners_12 : am_okB mt_D_findByRunners 12 k_D_findByRunners_12 = true := by decide +kernel
theorem g_D_findByRunners_12 {L : am_S} {n : Nat} {ls st : List Value} {M : am_M} {Q : am_Q} (h : am_B L mt_D_findByRunners k_D_findByRunners_12 n 12 ls st M Q) : am_R L mt_D_findByRunners n 12 ls st M Q := am_go L mt_D_findByRunners (fun h => by cases h) k_D_findByRunners_12 n 12 ls st M Q o_D_findByRunners_12 h
def k_D_findByRunners_39 : List am_I := [(.aload_n 0, 1, 0, 0, 0), (.iload_n 1, 1, 0, 0, 0), (.iconst 2, 1, 0, 0, 0), (.iload_n 1, 1, 0, 0, 0), (.imul, 1, 0, 0, 0), (.invokevirtual 49, 3, 24, 3, 295), (.ifCond .ne 4, 3, 0, 0, 0), (.return_, 1, 0, 0, 0)]
set_option maxRecDepth 20000 in
theorem o_D_findByRunners_39 : am_okB mt_D_findByRunners 39 k_D_findByRunners_39 = true := by decide +kernel
theorem g_D_findByRunners_39 {L : am_S} {n : Nat} {ls st : List Value} {M : am_M} {Q : am_Q} (h : am_B L mt_D_findByRunners k_D_findByRunners_39 n 39 ls st M Q) : am_R L mt_D_findByRunners n 39 ls st M Q := am_go L mt_D_findByRunners (fun h => by cases h) k_D_findByRunners_39 n 39 ls st M Q o_D_findByRunners_39 h
def k_D_findByRunners_51 : List am_I := [(.iconst 0, 1, 0, 0, 0), (.istore_n 2, 1, 0, 0, 0)]
set_option maxRecDepth 20000 in
theorem o_D_findByRunners_51 : am_okB mt_D_findByRunners 51 k_D_findByRunners_51 = true := by decide +kernel
theorem g_D_findByRunners_51 {L : am_S} {n : Nat} {ls st : List Value} {M : am_M} {Q : am_Q} (h : am_B L mt_D_findByRunners k_D_findByRunners_51 n 51 ls st M Q) : am_R L mt_D_findByRunners n 51 ls st M Q := am_go L mt_D_findByRunners (fun h => by cases h) k_D_findByRunners_51 n 51 ls st M Q o_D_findByRunners_51 h
def k_D_findByRunners_53 : List am_I := [(.iload_n 2, 1, 0, 0, 0), (.iload_n 1, 1, 0, 0, 0), (.if_icmp .ge 20, 3, 0, 0, 0), (.aload_n 0, 1, 0, 0, 0), (.iload_n 2, 1, 0, 0, 0), (.iload_n 1, 1, 0, 0, 0), (.iload_n 2, 1, 0, 0, 0), (.iadd, 1, 0, 0, 0), (.invokevirtual 49, 3, 24, 3, 295), (.ifCond .ne 9, 3, 0, 0, 0), (.iinc 2 1, 3, 0, 0, 0), (.goto (-19), 3, 0, 0, 0)]
set_option maxRecDepth 20000 in
theorem o_D_findByRunners_53 : am_okB mt_D_findByRunners 53 k_D_findByRunners_53 = true := by decide +kernel
theorem g_D_findByRunners_53 {L : am_S} {n : Nat} {ls st : List Value} {M : am_M} {Q : am_Q} (h : am_B L mt_D_findByRunners k_D_findByRunners_53 n 53 ls st M Q) : am_R L mt_D_findByRunners n 53 ls st M Q := am_go L mt_D_findByRunners (fun h => by cases h) k_D_findByRunners_53 n 53 ls st M Q o_D_findByRunners_53 h
def k_D_findByRunners_75 : List am_I := [(.iconst 1, 1, 0, 0, 0), (.istore_n 3, 1, 0, 0, 0)]
set_option maxRecDepth 20000 in
theorem o_D_findByRunners_75 : am_okB mt_D_findByRunners 75 k_D_findByRunners_75 = true := by decide +kernel
theorem g_D_findByRunners_75 {L : am_S} {n : Nat} {ls st : List Value} {M : am_M} {Q : am_Q} (h : am_B L mt_D_findByRunners k_D_findByRunners_75 n 75 ls st M Q) : am_R L mt_D_findByRunners n 75 ls st M Q := am_go L mt_D_findByRunners (fun h => by cases h) k_D_findByRunners_75 n 75 ls st M Q o_D_findByRunners_75 h
def k_D_findByRunners_77 : List am_I := [(.iload_n 3, 1, 0, 0, 0), (.iload_n 1, 1, 0, 0, 0), (.if_icmp .ge 20, 3, 0, 0, 0), (.aload_n 0, 1, 0, 0, 0), (.iload_n 2, 1, 0, 0, 0), (.iload_n 2, 1, 0, 0, 0), (.iload_n 3, 1, 0, 0, 0), (.iadd, 1, 0, 0, 0), (.invokevirtual 49, 3, 24, 3, 295), (.ifCond .ne 9, 3, 0, 0, 0), (.iinc 3 1, 3, 0, 0, 0), (.goto (-19), 3, 0, 0, 0)]
set_option maxRecDepth 20000 in
theorem o_D_findByRunners_77 : am_okB mt_D_findByRunners 77 k_D_findByRunners_77 = true := by decide +kernel
theorem g_D_findByRunners_77 {L : am_S} {n : Nat} {ls st : List Value} {M : am_M} {Q : am_Q} (h : am_B L mt_D_findByRunners k_D_findByRunners_77 n 77 ls st M Q) : am_R L mt_D_findByRunners n 77 ls st M Q := am_go L mt_D_findByRunners (fun h => by cases h) k_D_findByRunners_77 n 77 ls st M Q o_D_findByRunners_77 h
def k_D_findByRunners_99 : List am_I := [(.iload_n 2, 1, 0, 0, 0), (.iload_n 3, 1, 0, 0, 0), (.iadd, 1, 0, 0, 0), (.bipush 60, 2, 0, 0, 0), (.if_icmp .gt 13, 3, 0, 0, 0), (.aload_n 0, 1, 0, 0, 0), (.iload_n 3, 1, 0, 0, 0), (.putfield 26, 3, 0, 3, 61), (.aload_n 0, 1, 0, 0, 0), (.iload_n 2, 1, 0, 0, 0), (.putfield 29, 3, 0, 4, 63)]
set_option maxRecDepth 20000 in
theorem o_D_findByRunners_99 : am_okB mt_D_findByRunners 99 k_D_findByRunners_99 = true := by decide +kernel
theorem g_D_findByRunners_99 {L : am_S} {n : Nat} {ls st : List Value} {M : am_M} {Q : am_Q} (h : am_B L mt_D_findByRunners k_D_findByRunners_99 n 99 ls st M Q) : am_R L mt_D_findByRunners n 99 ls st M Q := am_go L mt_D_findByRunners (fun h => by cases h) k_D_findByRunners_99 n 99 ls st M Q o_D_findByRunners_99 h
def k_D_findByRunners_117 : List am_I := [(.return_, 1, 0, 0, 0)]
set_option maxRecDepth 20000 in
theorem o_D_findByRunners_117 : am_okB mt_D_findByRunners 117 k_D_findByRunners_117 = true := by decide +kernel
theorem g_D_findByRunners_117 {L : am_S} {n : Nat} {ls st : List Value} {M : am_M} {Q : am_Q} (h : am_B L mt_D_findByRunners k_D_findByRunners_117 n 117 ls st M Q) : am_R L mt_D_findByRunners n 117 ls st M Q := am_go L mt_D_findByRunners (fun h => by cases h) k_D_findByRunners_117 n 117 ls st M Q o_D_findByRunners_117 h
def k_D_findByLookingBack_0 : List am_I := [(.aload_n 0, 1, 0, 0, 0), (.iconst (-1), 1, 0, 0, 0), (.putfield 26, 3, 0, 3, 61), (.aload_n 0, 1, 0, 0, 0), (.iconst (-1), 1, 0, 0, 0), (.putfield 29, 3, 0, 4, 63), (.iconst 1, 1, 0, 0, 0), (.istore_n 1, 1, 0, 0, 0)]
set_option maxRecDepth 20000 in
theorem o_D_findByLookingBack_0 : am_okB mt_D_findByLookingBack 0 k_D_findByLookingBack_0 = true := by decide +kernel
theorem g_D_findByLookingBack_0 {L : am_S} {n : Nat} {ls st : List Value} {M : am_M} {Q : am_Q} (h : am_B L mt_D_findByLookingBack k_D_findByLookingBack_0 n 0 ls st M Q) : am_R L mt_D_findByLookingBack n 0 ls st M Q := am_go L mt_D_findByLookingBack (fun h => by cases h) k_D_findByLookingBack_0 n 0 ls st M Q o_D_findByLookingBack_0 h
def k_D_findByLookingBack_12 : List am_I := [(.iload_n 1, 1, 0, 0, 0), (.bipush 60, 2, 0, 0, 0), (.if_icmp .gt 49, 3, 0, 0, 0), (.aload_n 0, 1, 0, 0, 0), (.iload_n 1, 1, 0, 0, 0), (.invokevirtual 45, 3, 23, 2, 290), (.iconst 0, 1, 0, 0, 0), (.istore_n 2, 1, 0, 0, 0)]
set_option maxRecDepth 20000 in
theorem o_D_findByLookingBack_12 : am_okB mt_D_findByLookingBack 12 k_D_findByLookingBack_12 = true := by decide +kernel
theorem g_D_findByLookingBack_12 {L : am_S} {n : Nat} {ls st : List Value} {M : am_M} {Q : am_Q} (h : am_B L mt_D_findByLookingBack k_D_findByLookingBack_12 n 12 ls st M Q) : am_R L mt_D_findByLookingBack n 12 ls st M Q := am_go L mt_D_findByLookingBack (fun h => by cases h) k_D_findByLookingBack_12 n 12 ls st M Q o_D_findByLookingBack_12 h
def k_D_findByLookingBack_25 : List am_I := [(.iload_n 2, 1, 0, 0, 0), (.iload_n 1, 1, 0, 0, 0), (.if_icmp .ge 31, 3, 0, 0, 0), (.aload_n 0, 1, 0, 0, 0), (.iload_n 2, 1, 0, 0, 0), (.iload_n 1, 1, 0, 0, 0), (.invokevirtual 49, 3, 24, 3, 295), (.ifCond .eq 16, 3, 0, 0, 0), (.aload_n 0, 1, 0, 0, 0), (.iload_n 1, 1, 0, 0, 0), (.iload_n 2, 1, 0, 0, 0), (.isub, 1, 0, 0, 0), (.putfield 26, 3, 0, 3, 61), (.aload_n 0, 1, 0, 0, 0), (.iload_n 2, 1, 0, 0, 0), (.putfield 29, 3, 0, 4, 63), (.return_, 1, 0, 0, 0)]
set_option maxRecDepth 20000 in
theorem o_D_findByLookingBack_25 : am_okB mt_D_findByLookingBack 25 k_D_findByLookingBack_25 = true := by decide +kernel
theorem g_D_findByLookingBack_25 {L : am_S} {n : Nat} {ls st : List Value} {M : am_M} {Q : am_Q} (h : am_B L mt_D_findByLookingBack k_D_findByLookingBack_25 n 25 ls st M Q) : am_R L mt_D_findByLookingBack n 25 ls st M Q := am_go L mt_D_findByLookingBack (fun h => by cases h) k_D_findByLookingBack_25 n 25 ls st M Q o_D_findByLookingBack_25 h
def k_D_findByLookingBack_52 : List am_I := [(.iinc 2 1, 3, 0, 0, 0), (.goto (-30), 3, 0, 0, 0)]
set_option maxRecDepth 20000 in
theorem o_D_findByLookingBack_52 : am_okB mt_D_findByLookingBack 52 k_D_findByLookingBack_52 = true := by decide +kernel
theorem g_D_findByLookingBack_52 {L : am_S} {n : Nat} {ls st : List Value} {M : am_M} {Q : am_Q} (h : am_B L mt_D_findByLookingBack k_D_findByLookingBack_52 n 52 ls st M Q) : am_R L mt_D_findByLookingBack n 52 ls st M Q := am_go L mt_D_findByLookingBack (fun h => by cases h) k_D_findByLookingBack_52 n 52 ls st M Q o_D_findByLookingBack_52 h
def k_D_findByLookingBack_58 : List am_I := [(.iinc 1 1, 3, 0, 0, 0), (.goto (-49), 3, 0, 0, 0)]
set_option maxRecDepth 20000 in
theorem o_D_findByLookingBack_58 : am_okB mt_D_findByLookingBack 58 k_D_findByLookingBack_58 = true := by decide +kernel
theorem g_D_findByLookingBack_58 {L : am_S} {n : Nat} {ls st : List Value} {M : am_M} {Q : am_Q} (h : am_B L mt_D_findByLookingBack k_D_findByLookingBack_58 n 58 ls st M Q) : am_R L mt_D_findByLookingBack n 58 ls st M Q := am_go L mt_D_findByLookingBack (fun h => by cases h) k_D_findByLookingBack_58 n 58 ls st M Q o_D_findByLookingBack_58 h
def k_D_findByLookingBack_64 : List am_I := [(.return_, 1, 0, 0, 0)]
set_option maxRecDepth 20000 in
theorem o_D_findByLookingBack_64 : am_okB mt_D_findByLookingBack 64 k_D_findByLookingBack_64 = true := by decide +kernel
theorem g_D_findByLookingBack_64 {L : am_S} {n : Nat} {ls st : List Value} {M : am_M} {Q : am_Q} (h : am_B L mt_D_findByLookingBack k_D_findByLookingBack_64 n 64 ls st M Q) : am_R L mt_D_findByLookingBack n 64 ls st M Q := am_go L mt_D_findByLookingBack (fun h => by cases h) k_D_findByLookingBack_64 n 64 ls st M Q o_D_findByLookingBack_64 h
def k_D_reachDay_0 : List am_I := [(.aload_n 0, 1, 0, 0, 0), (.getfield 22, 3, 0, 2, 60), (.iload_n 1, 1, 0, 0, 0), (.if_icmp .ge 59, 3, 0, 0, 0), (.aload_n 0, 1, 0, 0, 0), (.getfield 22, 3, 0, 2, 60), (.bipush 120, 2, 0, 0, 0), (.if_icmp .ge 50, 3, 0, 0, 0), (.aload_n 0, 1, 0, 0, 0), (.getfield 12, 3, 0, 0, 58), (.bipush 24, 2, 0, 0, 0), (.invokevirtual 53, 3, 11, 2, 294), (.aload_n 0, 1, 0, 0, 0), (.dup, 1, 0, 0, 0), (.getfield 22, 3, 0, 2, 60), (.iconst 1, 1, 0, 0, 0), (.iadd, 1, 0, 0, 0), (.putfield 22, 3, 0, 2, 60), (.aload_n 0, 1, 0, 0, 0), (.getfield 12, 3, 0, 0, 58), (.getfield 36, 3, 1, 0, 45), (.bipush 10, 2, 0, 0, 0), (.aload_n 0, 1, 0, 0, 0), (.getfield 18, 3, 0, 1, 59), (.aload_n 0, 1, 0, 0, 0), (.getfield 22, 3, 0, 2, 60), (.bipush 35, 2, 0, 0, 0), (.imul, 1, 0, 0, 0), (.bipush 35, 2, 0, 0, 0), (.invokestatic 39, 3, 202, 5, 285), (.goto (-61), 3, 0, 0, 0)]
set_option maxRecDepth 20000 in
theorem o_D_reachDay_0 : am_okB mt_D_reachDay 0 k_D_reachDay_0 = true := by decide +kernel
theorem g_D_reachDay_0 {L : am_S} {n : Nat} {ls st : List Value} {M : am_M} {Q : am_Q} (h : am_B L mt_D_reachDay k_D_reachDay_0 n 0 ls st M Q) : am_R L mt_D_reachDay n 0 ls st M Q := am_go L mt_D_reachDay (fun h => by cases h) k_D_reachDay_0 n 0 ls st M Q o_D_reachDay_0 h
def k_D_reachDay_64 : List am_I := [(.return_, 1, 0, 0, 0)]
set_option maxRecDepth 20000 in
theorem o_D_reachDay_64 : am_okB mt_D_reachDay 64 k_D_reachDay_64 = true := by decide +kernel
theorem g_D_reachDay_64 {L : am_S} {n : Nat} {ls st : List Value} {M : am_M} {Q : am_Q} (h : am_B L mt_D_reachDay k_D_reachDay_64 n 64 ls st M Q) : am_R L mt_D_reachDay n 64 ls st M Q := am_go L mt_D_reachDay (fun h => by cases h) k_D_reachDay_64 n 64 ls st M Q o_D_reachDay_64 h
def k_D_isSameLook_0 : List am_I := [(.iload_n 1, 1, 0, 0, 0), (.ifCond .lt 19, 3, 0, 0, 0), (.iload_n 2, 1, 0, 0, 0), (.ifCond .lt 15, 3, 0, 0, 0), (.iload_n 1, 1, 0, 0, 0), (.bipush 120, 2, 0, 0, 0), (.if_icmp .gt 9, 3, 0, 0, 0), (.iload_n 2, 1, 0, 0, 0), (.bipush 120, 2, 0, 0, 0), (.if_icmp .le 5, 3, 0, 0, 0)]
set_option maxRecDepth 20000 in
theorem o_D_isSameLook_0 : am_okB mt_D_isSameLook 0 k_D_isSameLook_0 = true := by decide +kernel
theorem g_D_isSameLook_0 {L : am_S} {n : Nat} {ls st : List Value} {M : am_M} {Q : am_Q} (h : am_B L mt_D_isSameLook k_D_isSameLook_0 n 0 ls st M Q) : am_R L mt_D_isSameLook n 0 ls st M Q := am_go L mt_D_isSameLook (fun h => by cases h) k_D_isSameLook_0 n 0 ls st M Q o_D_isSameLook_0 h
def k_D_isSameLook_20 : List am_I := [(.iconst 0, 1, 0, 0, 0), (.ireturn, 1, 0, 0, 0)]
set_option maxRecDepth 20000 in
theorem o_D_isSameLook_20 : am_okB mt_D_isSameLook 20 k_D_isSameLook_20 = true := by decide +kernel
theorem g_D_isSameLook_20 {L : am_S} {n : Nat} {ls st : List Value} {M : am_M} {Q : am_Q} (h : am_B L mt_D_isSameLook k_D_isSameLook_20 n 20 ls st M Q) : am_R L mt_D_isSameLook n 20 ls st M Q := am_go L mt_D_isSameLook (fun h => by cases h) k_D_isSameLook_20 n 20 ls st M Q o_D_isSameLook_20 h
def k_D_isSameLook_22 : List am_I := [(.iconst 0, 1, 0, 0, 0), (.istore_n 3, 1, 0, 0, 0)]
set_option maxRecDepth 20000 in
theorem o_D_isSameLook_22 : am_okB mt_D_isSameLook 22 k_D_isSameLook_22 = true := by decide +kernel
theorem g_D_isSameLook_22 {L : am_S} {n : Nat} {ls st : List Value} {M : am_M} {Q : am_Q} (h : am_B L mt_D_isSameLook k_D_isSameLook_22 n 22 ls st M Q) : am_R L mt_D_isSameLook n 22 ls st M Q := am_go L mt_D_isSameLook (fun h => by cases h) k_D_isSameLook_22 n 22 ls st M Q o_D_isSameLook_22 h
def k_D_isSameLook_24 : List am_I := [(.iload_n 3, 1, 0, 0, 0), (.bipush 35, 2, 0, 0, 0), (.if_icmp .ge 36, 3, 0, 0, 0), (.aload_n 0, 1, 0, 0, 0), (.getfield 18, 3, 0, 1, 59), (.iload_n 1, 1, 0, 0, 0), (.bipush 35, 2, 0, 0, 0), (.imul, 1, 0, 0, 0), (.iload_n 3, 1, 0, 0, 0), (.iadd, 1, 0, 0, 0), (.iaload, 1, 0, 0, 0), (.aload_n 0, 1, 0, 0, 0), (.getfield 18, 3, 0, 1, 59), (.iload_n 2, 1, 0, 0, 0), (.bipush 35, 2, 0, 0, 0), (.imul, 1, 0, 0, 0), (.iload_n 3, 1, 0, 0, 0), (.iadd, 1, 0, 0, 0), (.iaload, 1, 0, 0, 0), (.if_icmp .eq 5, 3, 0, 0, 0), (.iconst 0, 1, 0, 0, 0), (.ireturn, 1, 0, 0, 0)]
set_option maxRecDepth 20000 in
theorem o_D_isSameLook_24 : am_okB mt_D_isSameLook 24 k_D_isSameLook_24 = true := by decide +kernel
theorem g_D_isSameLook_24 {L : am_S} {n : Nat} {ls st : List Value} {M : am_M} {Q : am_Q} (h : am_B L mt_D_isSameLook k_D_isSameLook_24 n 24 ls st M Q) : am_R L mt_D_isSameLook n 24 ls st M Q := am_go L mt_D_isSameLook (fun h => by cases h) k_D_isSameLook_24 n 24 ls st M Q o_D_isSameLook_24 h
def k_D_isSameLook_57 : List am_I := [(.iinc 3 1, 3, 0, 0, 0), (.goto (-36), 3, 0, 0, 0)]
set_option maxRecDepth 20000 in
theorem o_D_isSameLook_57 : am_okB mt_D_isSameLook 57 k_D_isSameLook_57 = true := by decide +kernel
theorem g_D_isSameLook_57 {L : am_S} {n : Nat} {ls st : List Value} {M : am_M} {Q : am_Q} (h : am_B L mt_D_isSameLook k_D_isSameLook_57 n 57 ls st M Q) : am_R L mt_D_isSameLook n 57 ls st M Q := am_go L mt_D_isSameLook (fun h => by cases h) k_D_isSameLook_57 n 57 ls st M Q o_D_isSameLook_57 h
def k_D_isSameLook_63 : List am_I := [(.iconst 1, 1, 0, 0, 0), (.ireturn, 1, 0, 0, 0)]
set_option maxRecDepth 20000 in
theorem o_D_isSameLook_63 : am_okB mt_D_isSameLook 63 k_D_isSameLook_63 = true := by decide +kernel
theorem g_D_isSameLook_63 {L : am_S} {n : Nat} {ls st : List Value} {M : am_M} {Q : am_Q} (h : am_B L mt_D_isSameLook k_D_isSameLook_63 n 63 ls st M Q) : am_R L mt_D_isSameLook n 63 ls st M Q := am_go L mt_D_isSameLook (fun h => by cases h) k_D_isSameLook_63 n 63 ls st M Q o_D_isSameLook_63 h
