/-! DyeVats: blocks of code, written by wip/whole/mk15.py out of what TURN printed of the program -/
def k_V_fill_0 : List am_I := [(.iload_n 1, 1, 0, 0, 0), (.invokestatic 54, 3, 70, 1, 428), (.iload_n 2, 1, 0, 0, 0), (.iconst 1, 1, 0, 0, 0), (.sipush 2000, 3, 0, 0, 0), (.invokestatic 58, 3, 73, 3, 498), (.aload_n 0, 1, 0, 0, 0), (.invokevirtual 62, 3, 68, 1, 517), (.iload_n 2, 1, 0, 0, 0), (.aload_n 0, 1, 0, 0, 0), (.getfield 12, 3, 3, 0, 163), (.getfield 51, 3, 1, 0, 99), (.iconst 0, 1, 0, 0, 0), (.iload_n 1, 1, 0, 0, 0), (.iadd, 1, 0, 0, 0), (.iaload, 1, 0, 0, 0), (.aload_n 0, 1, 0, 0, 0), (.getfield 12, 3, 3, 0, 163), (.getfield 51, 3, 1, 0, 99), (.bipush 10, 2, 0, 0, 0), (.iload_n 1, 1, 0, 0, 0), (.iadd, 1, 0, 0, 0), (.iaload, 1, 0, 0, 0), (.isub, 1, 0, 0, 0), (.if_icmp .le 8, 3, 0, 0, 0), (.aload_n 0, 1, 0, 0, 0), (.invokevirtual 65, 3, 69, 1, 522), (.ireturn, 1, 0, 0, 0)]
set_option maxRecDepth 20000 in
theorem o_V_fill_0 : am_okB mt_V_fill 0 k_V_fill_0 = true := by decide +kernel
theorem g_V_fill_0 {L : am_S} {n : Nat} {ls st : List Value} {M : am_M} {Q : am_Q} (h : am_B L mt_V_fill k_V_fill_0 n 0 ls st M Q) : am_R L mt_V_fill n 0 ls st M Q := am_go L mt_V_fill (fun h => by cases h) k_V_fill_0 n 0 ls st M Q o_V_fill_0 h
def k_V_fill_49 : List am_I := [(.aload_n 0, 1, 0, 0, 0), (.getfield 12, 3, 3, 0, 163), (.getfield 51, 3, 1, 0, 99), (.bipush 10, 2, 0, 0, 0), (.iload_n 1, 1, 0, 0, 0), (.iadd, 1, 0, 0, 0), (.dup2, 1, 0, 0, 0), (.iaload, 1, 0, 0, 0), (.iload_n 2, 1, 0, 0, 0), (.iadd, 1, 0, 0, 0), (.iastore, 1, 0, 0, 0), (.aload_n 0, 1, 0, 0, 0), (.getfield 12, 3, 3, 0, 163), (.getfield 51, 3, 1, 0, 99), (.bipush 53, 2, 0, 0, 0), (.dup2, 1, 0, 0, 0), (.iaload, 1, 0, 0, 0), (.iload_n 2, 1, 0, 0, 0), (.iadd, 1, 0, 0, 0), (.iastore, 1, 0, 0, 0), (.aload_n 0, 1, 0, 0, 0), (.getfield 12, 3, 3, 0, 163), (.getfield 51, 3, 1, 0, 99), (.bipush 10, 2, 0, 0, 0), (.iload_n 1, 1, 0, 0, 0), (.iadd, 1, 0, 0, 0), (.iaload, 1, 0, 0, 0), (.ireturn, 1, 0, 0, 0)]
set_option maxRecDepth 20000 in
theorem o_V_fill_49 : am_okB mt_V_fill 49 k_V_fill_49 = true := by decide +kernel
theorem g_V_fill_49 {L : am_S} {n : Nat} {ls st : List Value} {M : am_M} {Q : am_Q} (h : am_B L mt_V_fill k_V_fill_49 n 49 ls st M Q) : am_R L mt_V_fill n 49 ls st M Q := am_go L mt_V_fill (fun h => by cases h) k_V_fill_49 n 49 ls st M Q o_V_fill_49 h
def k_V_dye_0 : List am_I := [(.iload_n 1, 1, 0, 0, 0), (.invokestatic 54, 3, 70, 1, 428), (.iload_n 2, 1, 0, 0, 0), (.invokestatic 69, 3, 71, 1, 534), (.iload_n 3, 1, 0, 0, 0), (.iconst 1, 1, 0, 0, 0), (.sipush 999, 3, 0, 0, 0), (.invokestatic 58, 3, 73, 3, 498), (.aload_n 0, 1, 0, 0, 0), (.getfield 12, 3, 3, 0, 163), (.getfield 51, 3, 1, 0, 99), (.bipush 45, 2, 0, 0, 0), (.iload_n 2, 1, 0, 0, 0), (.iadd, 1, 0, 0, 0), (.iaload, 1, 0, 0, 0), (.iload_n 3, 1, 0, 0, 0), (.iadd, 1, 0, 0, 0), (.ldc 72, 2, 99999, 0, 538), (.if_icmp .le 13, 3, 0, 0, 0), (.new 73, 3, 2, 75, 77)]
set_option maxRecDepth 20000 in
theorem o_V_dye_0 : am_okB mt_V_dye 0 k_V_dye_0 = true := by decide +kernel
theorem g_V_dye_0 {L : am_S} {n : Nat} {ls st : List Value} {M : am_M} {Q : am_Q} (h : am_B L mt_V_dye k_V_dye_0 n 0 ls st M Q) : am_R L mt_V_dye n 0 ls st M Q := am_go L mt_V_dye (fun h => by cases h) k_V_dye_0 n 0 ls st M Q o_V_dye_0 h
def k_V_dye_45 : List am_I := [(.aload_n 0, 1, 0, 0, 0), (.invokevirtual 62, 3, 68, 1, 517), (.aload_n 0, 1, 0, 0, 0), (.getfield 12, 3, 3, 0, 163), (.getfield 51, 3, 1, 0, 99), (.bipush 10, 2, 0, 0, 0), (.iload_n 1, 1, 0, 0, 0), (.iadd, 1, 0, 0, 0), (.iaload, 1, 0, 0, 0), (.ifCond .ne 8, 3, 0, 0, 0), (.aload_n 0, 1, 0, 0, 0), (.invokevirtual 65, 3, 69, 1, 522), (.ireturn, 1, 0, 0, 0)]
set_option maxRecDepth 20000 in
theorem o_V_dye_45 : am_okB mt_V_dye 45 k_V_dye_45 = true := by decide +kernel
theorem g_V_dye_45 {L : am_S} {n : Nat} {ls st : List Value} {M : am_M} {Q : am_Q} (h : am_B L mt_V_dye k_V_dye_45 n 45 ls st M Q) : am_R L mt_V_dye n 45 ls st M Q := am_go L mt_V_dye (fun h => by cases h) k_V_dye_45 n 45 ls st M Q o_V_dye_45 h
def k_V_dye_69 : List am_I := [(.bipush 15, 2, 0, 0, 0), (.iload_n 1, 1, 0, 0, 0), (.iconst 3, 1, 0, 0, 0), (.imul, 1, 0, 0, 0), (.iadd, 1, 0, 0, 0), (.iload_n 2, 1, 0, 0, 0), (.iadd, 1, 0, 0, 0), (.istore 4, 2, 0, 0, 0), (.aload_n 0, 1, 0, 0, 0), (.getfield 12, 3, 3, 0, 163), (.getfield 51, 3, 1, 0, 99), (.iload 4, 2, 0, 0, 0), (.dup2, 1, 0, 0, 0), (.iaload, 1, 0, 0, 0), (.iload_n 3, 1, 0, 0, 0), (.iadd, 1, 0, 0, 0), (.iastore, 1, 0, 0, 0), (.aload_n 0, 1, 0, 0, 0), (.getfield 12, 3, 3, 0, 163), (.getfield 51, 3, 1, 0, 99), (.bipush 45, 2, 0, 0, 0), (.iload_n 2, 1, 0, 0, 0), (.iadd, 1, 0, 0, 0), (.dup2, 1, 0, 0, 0), (.iaload, 1, 0, 0, 0), (.iload_n 3, 1, 0, 0, 0), (.iadd, 1, 0, 0, 0), (.iastore, 1, 0, 0, 0), (.aload_n 0, 1, 0, 0, 0), (.getfield 12, 3, 3, 0, 163), (.getfield 51, 3, 1, 0, 99), (.iload 4, 2, 0, 0, 0), (.iaload, 1, 0, 0, 0), (.ireturn, 1, 0, 0, 0)]
set_option maxRecDepth 20000 in
theorem o_V_dye_69 : am_okB mt_V_dye 69 k_V_dye_69 = true := by decide +kernel
theorem g_V_dye_69 {L : am_S} {n : Nat} {ls st : List Value} {M : am_M} {Q : am_Q} (h : am_B L mt_V_dye k_V_dye_69 n 69 ls st M Q) : am_R L mt_V_dye n 69 ls st M Q := am_go L mt_V_dye (fun h => by cases h) k_V_dye_69 n 69 ls st M Q o_V_dye_69 h
def k_V_stir_0 : List am_I := [(.iload_n 1, 1, 0, 0, 0), (.invokestatic 54, 3, 70, 1, 428), (.aload_n 0, 1, 0, 0, 0), (.invokevirtual 62, 3, 68, 1, 517), (.aload_n 0, 1, 0, 0, 0), (.getfield 12, 3, 3, 0, 163), (.iload_n 1, 1, 0, 0, 0), (.invokevirtual 80, 3, 13, 2, 562), (.ireturn, 1, 0, 0, 0)]
set_option maxRecDepth 20000 in
theorem o_V_stir_0 : am_okB mt_V_stir 0 k_V_stir_0 = true := by decide +kernel
theorem g_V_stir_0 {L : am_S} {n : Nat} {ls st : List Value} {M : am_M} {Q : am_Q} (h : am_B L mt_V_stir k_V_stir_0 n 0 ls st M Q) : am_R L mt_V_stir n 0 ls st M Q := am_go L mt_V_stir (fun h => by cases h) k_V_stir_0 n 0 ls st M Q o_V_stir_0 h
def k_V_capacity_0 : List am_I := [(.iload_n 1, 1, 0, 0, 0), (.invokestatic 54, 3, 70, 1, 428), (.iload_n 2, 1, 0, 0, 0), (.iconst 1, 1, 0, 0, 0), (.sipush 2000, 3, 0, 0, 0), (.invokestatic 58, 3, 73, 3, 498), (.aload_n 0, 1, 0, 0, 0), (.invokevirtual 62, 3, 68, 1, 517), (.aload_n 0, 1, 0, 0, 0), (.getfield 12, 3, 3, 0, 163), (.getfield 51, 3, 1, 0, 99), (.bipush 10, 2, 0, 0, 0), (.iload_n 1, 1, 0, 0, 0), (.iadd, 1, 0, 0, 0), (.iaload, 1, 0, 0, 0), (.iload_n 2, 1, 0, 0, 0), (.if_icmp .le 8, 3, 0, 0, 0), (.aload_n 0, 1, 0, 0, 0), (.invokevirtual 65, 3, 69, 1, 522), (.ireturn, 1, 0, 0, 0)]
set_option maxRecDepth 20000 in
theorem o_V_capacity_0 : am_okB mt_V_capacity 0 k_V_capacity_0 = true := by decide +kernel
theorem g_V_capacity_0 {L : am_S} {n : Nat} {ls st : List Value} {M : am_M} {Q : am_Q} (h : am_B L mt_V_capacity k_V_capacity_0 n 0 ls st M Q) : am_R L mt_V_capacity n 0 ls st M Q := am_go L mt_V_capacity (fun h => by cases h) k_V_capacity_0 n 0 ls st M Q o_V_capacity_0 h
def k_V_capacity_37 : List am_I := [(.aload_n 0, 1, 0, 0, 0), (.getfield 12, 3, 3, 0, 163), (.getfield 51, 3, 1, 0, 99), (.iconst 0, 1, 0, 0, 0), (.iload_n 1, 1, 0, 0, 0), (.iadd, 1, 0, 0, 0), (.iaload, 1, 0, 0, 0), (.istore_n 3, 1, 0, 0, 0), (.aload_n 0, 1, 0, 0, 0), (.getfield 12, 3, 3, 0, 163), (.getfield 51, 3, 1, 0, 99), (.iconst 0, 1, 0, 0, 0), (.iload_n 1, 1, 0, 0, 0), (.iadd, 1, 0, 0, 0), (.iload_n 2, 1, 0, 0, 0), (.iastore, 1, 0, 0, 0), (.iload_n 3, 1, 0, 0, 0), (.ireturn, 1, 0, 0, 0)]
set_option maxRecDepth 20000 in
theorem o_V_capacity_37 : am_okB mt_V_capacity 37 k_V_capacity_37 = true := by decide +kernel
theorem g_V_capacity_37 {L : am_S} {n : Nat} {ls st : List Value} {M : am_M} {Q : am_Q} (h : am_B L mt_V_capacity k_V_capacity_37 n 37 ls st M Q) : am_R L mt_V_capacity n 37 ls st M Q := am_go L mt_V_capacity (fun h => by cases h) k_V_capacity_37 n 37 ls st M Q o_V_capacity_37 h
def k_V_valve_0 : List am_I := [(.iload_n 1, 1, 0, 0, 0), (.invokestatic 54, 3, 70, 1, 428), (.iload_n 2, 1, 0, 0, 0), (.iconst 5, 1, 0, 0, 0), (.if_icmp .eq 7, 3, 0, 0, 0), (.iload_n 2, 1, 0, 0, 0), (.invokestatic 54, 3, 70, 1, 428)]
set_option maxRecDepth 20000 in
theorem o_V_valve_0 : am_okB mt_V_valve 0 k_V_valve_0 = true := by decide +kernel
theorem g_V_valve_0 {L : am_S} {n : Nat} {ls st : List Value} {M : am_M} {Q : am_Q} (h : am_B L mt_V_valve k_V_valve_0 n 0 ls st M Q) : am_R L mt_V_valve n 0 ls st M Q := am_go L mt_V_valve (fun h => by cases h) k_V_valve_0 n 0 ls st M Q o_V_valve_0 h
def k_V_valve_13 : List am_I := [(.iload_n 1, 1, 0, 0, 0), (.iload_n 2, 1, 0, 0, 0), (.if_icmp .ne 13, 3, 0, 0, 0), (.new 84, 3, 1, 86, 88)]
set_option maxRecDepth 20000 in
theorem o_V_valve_13 : am_okB mt_V_valve 13 k_V_valve_13 = true := by decide +kernel
theorem g_V_valve_13 {L : am_S} {n : Nat} {ls st : List Value} {M : am_M} {Q : am_Q} (h : am_B L mt_V_valve k_V_valve_13 n 13 ls st M Q) : am_R L mt_V_valve n 13 ls st M Q := am_go L mt_V_valve (fun h => by cases h) k_V_valve_13 n 13 ls st M Q o_V_valve_13 h
def k_V_valve_28 : List am_I := [(.iload_n 3, 1, 0, 0, 0), (.iconst 1, 1, 0, 0, 0), (.sipush 500, 3, 0, 0, 0), (.invokestatic 58, 3, 73, 3, 498), (.iload 4, 2, 0, 0, 0), (.iconst 0, 1, 0, 0, 0), (.bipush 23, 2, 0, 0, 0), (.invokestatic 58, 3, 73, 3, 498), (.iload 5, 2, 0, 0, 0), (.iload 4, 2, 0, 0, 0), (.bipush 23, 2, 0, 0, 0), (.invokestatic 58, 3, 73, 3, 498), (.aload_n 0, 1, 0, 0, 0), (.getfield 12, 3, 3, 0, 163), (.getfield 51, 3, 1, 0, 99), (.bipush 56, 2, 0, 0, 0), (.iaload, 1, 0, 0, 0), (.istore 6, 2, 0, 0, 0), (.iload 6, 2, 0, 0, 0), (.ifCond .lt 10, 3, 0, 0, 0), (.iload 6, 2, 0, 0, 0), (.bipush 8, 2, 0, 0, 0), (.if_icmp .lt 13, 3, 0, 0, 0)]
set_option maxRecDepth 20000 in
theorem o_V_valve_28 : am_okB mt_V_valve 28 k_V_valve_28 = true := by decide +kernel
theorem g_V_valve_28 {L : am_S} {n : Nat} {ls st : List Value} {M : am_M} {Q : am_Q} (h : am_B L mt_V_valve k_V_valve_28 n 28 ls st M Q) : am_R L mt_V_valve n 28 ls st M Q := am_go L mt_V_valve (fun h => by cases h) k_V_valve_28 n 28 ls st M Q o_V_valve_28 h
def k_V_valve_77 : List am_I := [(.new 73, 3, 2, 89, 77)]
set_option maxRecDepth 20000 in
theorem o_V_valve_77 : am_okB mt_V_valve 77 k_V_valve_77 = true := by decide +kernel
theorem g_V_valve_77 {L : am_S} {n : Nat} {ls st : List Value} {M : am_M} {Q : am_Q} (h : am_B L mt_V_valve k_V_valve_77 n 77 ls st M Q) : am_R L mt_V_valve n 77 ls st M Q := am_go L mt_V_valve (fun h => by cases h) k_V_valve_77 n 77 ls st M Q o_V_valve_77 h
def k_V_valve_87 : List am_I := [(.aload_n 0, 1, 0, 0, 0), (.invokevirtual 62, 3, 68, 1, 517), (.bipush 57, 2, 0, 0, 0), (.iload 6, 2, 0, 0, 0), (.bipush 6, 2, 0, 0, 0), (.imul, 1, 0, 0, 0), (.iadd, 1, 0, 0, 0), (.istore 7, 2, 0, 0, 0), (.aload_n 0, 1, 0, 0, 0), (.getfield 12, 3, 3, 0, 163), (.getfield 51, 3, 1, 0, 99), (.iload 7, 2, 0, 0, 0), (.iconst 0, 1, 0, 0, 0), (.iadd, 1, 0, 0, 0), (.iload_n 1, 1, 0, 0, 0), (.iastore, 1, 0, 0, 0), (.aload_n 0, 1, 0, 0, 0), (.getfield 12, 3, 3, 0, 163), (.getfield 51, 3, 1, 0, 99), (.iload 7, 2, 0, 0, 0), (.iconst 1, 1, 0, 0, 0), (.iadd, 1, 0, 0, 0), (.iload_n 2, 1, 0, 0, 0), (.iastore, 1, 0, 0, 0), (.aload_n 0, 1, 0, 0, 0), (.getfield 12, 3, 3, 0, 163), (.getfield 51, 3, 1, 0, 99), (.iload 7, 2, 0, 0, 0), (.iconst 2, 1, 0, 0, 0), (.iadd, 1, 0, 0, 0), (.iload_n 3, 1, 0, 0, 0), (.iastore, 1, 0, 0, 0), (.aload_n 0, 1, 0, 0, 0), (.getfield 12, 3, 3, 0, 163), (.getfield 51, 3, 1, 0, 99), (.iload 7, 2, 0, 0, 0), (.iconst 3, 1, 0, 0, 0), (.iadd, 1, 0, 0, 0), (.iload 4, 2, 0, 0, 0), (.iastore, 1, 0, 0, 0), (.aload_n 0, 1, 0, 0, 0), (.getfield 12, 3, 3, 0, 163), (.getfield 51, 3, 1, 0, 99), (.iload 7, 2, 0, 0, 0), (.iconst 4, 1, 0, 0, 0), (.iadd, 1, 0, 0, 0), (.iload 5, 2, 0, 0, 0), (.iastore, 1, 0, 0, 0), (.aload_n 0, 1, 0, 0, 0), (.getfield 12, 3, 3, 0, 163), (.getfield 51, 3, 1, 0, 99), (.iload 7, 2, 0, 0, 0), (.iconst 5, 1, 0, 0, 0), (.iadd, 1, 0, 0, 0), (.iconst 0, 1, 0, 0, 0), (.iastore, 1, 0, 0, 0), (.aload_n 0, 1, 0, 0, 0), (.getfield 12, 3, 3, 0, 163), (.getfield 51, 3, 1, 0, 99), (.bipush 56, 2, 0, 0, 0), (.iload 6, 2, 0, 0, 0), (.iconst 1, 1, 0, 0, 0), (.iadd, 1, 0, 0, 0), (.iastore, 1, 0, 0, 0), (.iload 6, 2, 0, 0, 0), (.ireturn, 1, 0, 0, 0)]
set_option maxRecDepth 20000 in
theorem o_V_valve_87 : am_okB mt_V_valve 87 k_V_valve_87 = true := by decide +kernel
theorem g_V_valve_87 {L : am_S} {n : Nat} {ls st : List Value} {M : am_M} {Q : am_Q} (h : am_B L mt_V_valve k_V_valve_87 n 87 ls st M Q) : am_R L mt_V_valve n 87 ls st M Q := am_go L mt_V_valve (fun h => by cases h) k_V_valve_87 n 87 ls st M Q o_V_valve_87 h
def k_V_close_0 : List am_I := [(.aload_n 0, 1, 0, 0, 0), (.iload_n 1, 1, 0, 0, 0), (.invokevirtual 91, 3, 72, 2, 592), (.aload_n 0, 1, 0, 0, 0), (.invokevirtual 62, 3, 68, 1, 517), (.aload_n 0, 1, 0, 0, 0), (.getfield 12, 3, 3, 0, 163), (.iload_n 1, 1, 0, 0, 0), (.invokevirtual 94, 3, 11, 2, 281), (.aload_n 0, 1, 0, 0, 0), (.getfield 12, 3, 3, 0, 163), (.getfield 51, 3, 1, 0, 99), (.bipush 56, 2, 0, 0, 0), (.iaload, 1, 0, 0, 0), (.ireturn, 1, 0, 0, 0)]
set_option maxRecDepth 20000 in
theorem o_V_close_0 : am_okB mt_V_close 0 k_V_close_0 = true := by decide +kernel
theorem g_V_close_0 {L : am_S} {n : Nat} {ls st : List Value} {M : am_M} {Q : am_Q} (h : am_B L mt_V_close k_V_close_0 n 0 ls st M Q) : am_R L mt_V_close n 0 ls st M Q := am_go L mt_V_close (fun h => by cases h) k_V_close_0 n 0 ls st M Q o_V_close_0 h
def k_V_pipe_0 : List am_I := [(.iload_n 1, 1, 0, 0, 0), (.invokestatic 54, 3, 70, 1, 428), (.iload_n 2, 1, 0, 0, 0), (.invokestatic 54, 3, 70, 1, 428), (.iload_n 1, 1, 0, 0, 0), (.iload_n 2, 1, 0, 0, 0), (.if_icmp .ne 13, 3, 0, 0, 0), (.new 84, 3, 1, 97, 88)]
set_option maxRecDepth 20000 in
theorem o_V_pipe_0 : am_okB mt_V_pipe 0 k_V_pipe_0 = true := by decide +kernel
theorem g_V_pipe_0 {L : am_S} {n : Nat} {ls st : List Value} {M : am_M} {Q : am_Q} (h : am_B L mt_V_pipe k_V_pipe_0 n 0 ls st M Q) : am_R L mt_V_pipe n 0 ls st M Q := am_go L mt_V_pipe (fun h => by cases h) k_V_pipe_0 n 0 ls st M Q o_V_pipe_0 h
def k_V_pipe_23 : List am_I := [(.aload_n 0, 1, 0, 0, 0), (.invokevirtual 62, 3, 68, 1, 517), (.aload_n 0, 1, 0, 0, 0), (.getfield 12, 3, 3, 0, 163), (.getfield 51, 3, 1, 0, 99), (.iconst 5, 1, 0, 0, 0), (.iload_n 1, 1, 0, 0, 0), (.iadd, 1, 0, 0, 0), (.dup2, 1, 0, 0, 0), (.iaload, 1, 0, 0, 0), (.iconst 1, 1, 0, 0, 0), (.iload_n 2, 1, 0, 0, 0), (.ishl, 1, 0, 0, 0), (.ixor, 1, 0, 0, 0), (.iastore, 1, 0, 0, 0), (.aload_n 0, 1, 0, 0, 0), (.getfield 12, 3, 3, 0, 163), (.getfield 51, 3, 1, 0, 99), (.iconst 5, 1, 0, 0, 0), (.iload_n 2, 1, 0, 0, 0), (.iadd, 1, 0, 0, 0), (.dup2, 1, 0, 0, 0), (.iaload, 1, 0, 0, 0), (.iconst 1, 1, 0, 0, 0), (.iload_n 1, 1, 0, 0, 0), (.ishl, 1, 0, 0, 0), (.ixor, 1, 0, 0, 0), (.iastore, 1, 0, 0, 0), (.aload_n 0, 1, 0, 0, 0), (.getfield 12, 3, 3, 0, 163), (.getfield 51, 3, 1, 0, 99), (.iconst 5, 1, 0, 0, 0), (.iload_n 1, 1, 0, 0, 0), (.iadd, 1, 0, 0, 0), (.iaload, 1, 0, 0, 0), (.iload_n 2, 1, 0, 0, 0), (.ishr, 1, 0, 0, 0), (.iconst 1, 1, 0, 0, 0), (.iand, 1, 0, 0, 0), (.ireturn, 1, 0, 0, 0)]
set_option maxRecDepth 20000 in
theorem o_V_pipe_23 : am_okB mt_V_pipe 23 k_V_pipe_23 = true := by decide +kernel
theorem g_V_pipe_23 {L : am_S} {n : Nat} {ls st : List Value} {M : am_M} {Q : am_Q} (h : am_B L mt_V_pipe k_V_pipe_23 n 23 ls st M Q) : am_R L mt_V_pipe n 23 ls st M Q := am_go L mt_V_pipe (fun h => by cases h) k_V_pipe_23 n 23 ls st M Q o_V_pipe_23 h
def k_V_set_0 : List am_I := [(.iload_n 1, 1, 0, 0, 0), (.iconst 0, 1, 0, 0, 0), (.sipush 200, 3, 0, 0, 0), (.invokestatic 58, 3, 73, 3, 498), (.aload_n 0, 1, 0, 0, 0), (.invokevirtual 62, 3, 68, 1, 517), (.aload_n 0, 1, 0, 0, 0), (.getfield 12, 3, 3, 0, 163), (.getfield 51, 3, 1, 0, 99), (.bipush 51, 2, 0, 0, 0), (.iaload, 1, 0, 0, 0), (.istore_n 2, 1, 0, 0, 0), (.aload_n 0, 1, 0, 0, 0), (.getfield 12, 3, 3, 0, 163), (.getfield 51, 3, 1, 0, 99), (.bipush 51, 2, 0, 0, 0), (.iload_n 1, 1, 0, 0, 0), (.iastore, 1, 0, 0, 0), (.iload_n 2, 1, 0, 0, 0), (.ireturn, 1, 0, 0, 0)]
set_option maxRecDepth 20000 in
theorem o_V_set_0 : am_okB mt_V_set 0 k_V_set_0 = true := by decide +kernel
theorem g_V_set_0 {L : am_S} {n : Nat} {ls st : List Value} {M : am_M} {Q : am_Q} (h : am_B L mt_V_set k_V_set_0 n 0 ls st M Q) : am_R L mt_V_set n 0 ls st M Q := am_go L mt_V_set (fun h => by cases h) k_V_set_0 n 0 ls st M Q o_V_set_0 h
def k_V_pass_0 : List am_I := [(.iload_n 1, 1, 0, 0, 0), (.iconst 1, 1, 0, 0, 0), (.sipush 240, 3, 0, 0, 0), (.invokestatic 58, 3, 73, 3, 498), (.aload_n 0, 1, 0, 0, 0), (.getfield 12, 3, 3, 0, 163), (.getfield 51, 3, 1, 0, 99), (.bipush 52, 2, 0, 0, 0), (.iaload, 1, 0, 0, 0), (.iload_n 1, 1, 0, 0, 0), (.iadd, 1, 0, 0, 0), (.ldc 72, 2, 99999, 0, 538), (.if_icmp .le 13, 3, 0, 0, 0), (.new 73, 3, 2, 99, 77)]
set_option maxRecDepth 20000 in
theorem o_V_pass_0 : am_okB mt_V_pass 0 k_V_pass_0 = true := by decide +kernel
theorem g_V_pass_0 {L : am_S} {n : Nat} {ls st : List Value} {M : am_M} {Q : am_Q} (h : am_B L mt_V_pass k_V_pass_0 n 0 ls st M Q) : am_R L mt_V_pass n 0 ls st M Q := am_go L mt_V_pass (fun h => by cases h) k_V_pass_0 n 0 ls st M Q o_V_pass_0 h
def k_V_pass_35 : List am_I := [(.aload_n 0, 1, 0, 0, 0), (.invokevirtual 62, 3, 68, 1, 517), (.aload_n 0, 1, 0, 0, 0), (.getfield 12, 3, 3, 0, 163), (.getfield 51, 3, 1, 0, 99), (.bipush 54, 2, 0, 0, 0), (.iaload, 1, 0, 0, 0), (.istore_n 2, 1, 0, 0, 0), (.aload_n 0, 1, 0, 0, 0), (.getfield 12, 3, 3, 0, 163), (.iload_n 1, 1, 0, 0, 0), (.invokevirtual 101, 3, 14, 2, 285), (.aload_n 0, 1, 0, 0, 0), (.getfield 12, 3, 3, 0, 163), (.getfield 51, 3, 1, 0, 99), (.bipush 54, 2, 0, 0, 0), (.iaload, 1, 0, 0, 0), (.iload_n 2, 1, 0, 0, 0), (.isub, 1, 0, 0, 0), (.ireturn, 1, 0, 0, 0)]
set_option maxRecDepth 20000 in
theorem o_V_pass_35 : am_okB mt_V_pass 35 k_V_pass_35 = true := by decide +kernel
theorem g_V_pass_35 {L : am_S} {n : Nat} {ls st : List Value} {M : am_M} {Q : am_Q} (h : am_B L mt_V_pass k_V_pass_35 n 35 ls st M Q) : am_R L mt_V_pass n 35 ls st M Q := am_go L mt_V_pass (fun h => by cases h) k_V_pass_35 n 35 ls st M Q o_V_pass_35 h
def k_V_append_0 : List am_I := [(.iload_n 1, 1, 0, 0, 0), (.bipush 33, 2, 0, 0, 0), (.bipush 126, 2, 0, 0, 0), (.invokestatic 58, 3, 73, 3, 498), (.aload_n 0, 1, 0, 0, 0), (.getfield 29, 3, 3, 3, 166), (.getfield 104, 3, 2, 1, 140), (.ifCond .lt 15, 3, 0, 0, 0), (.aload_n 0, 1, 0, 0, 0), (.getfield 29, 3, 3, 3, 166), (.getfield 104, 3, 2, 1, 140), (.bipush 60, 2, 0, 0, 0), (.if_icmp .lt 13, 3, 0, 0, 0)]
set_option maxRecDepth 20000 in
theorem o_V_append_0 : am_okB mt_V_append 0 k_V_append_0 = true := by decide +kernel
theorem g_V_append_0 {L : am_S} {n : Nat} {ls st : List Value} {M : am_M} {Q : am_Q} (h : am_B L mt_V_append k_V_append_0 n 0 ls st M Q) : am_R L mt_V_append n 0 ls st M Q := am_go L mt_V_append (fun h => by cases h) k_V_append_0 n 0 ls st M Q o_V_append_0 h
def k_V_append_30 : List am_I := [(.new 73, 3, 2, 107, 77)]
set_option maxRecDepth 20000 in
theorem o_V_append_30 : am_okB mt_V_append 30 k_V_append_30 = true := by decide +kernel
theorem g_V_append_30 {L : am_S} {n : Nat} {ls st : List Value} {M : am_M} {Q : am_Q} (h : am_B L mt_V_append k_V_append_30 n 30 ls st M Q) : am_R L mt_V_append n 30 ls st M Q := am_go L mt_V_append (fun h => by cases h) k_V_append_30 n 30 ls st M Q o_V_append_30 h
def k_V_append_40 : List am_I := [(.aload_n 0, 1, 0, 0, 0), (.getfield 29, 3, 3, 3, 166), (.getfield 109, 3, 2, 0, 138), (.aload_n 0, 1, 0, 0, 0), (.getfield 29, 3, 3, 3, 166), (.getfield 104, 3, 2, 1, 140), (.iload_n 1, 1, 0, 0, 0), (.iastore, 1, 0, 0, 0), (.aload_n 0, 1, 0, 0, 0), (.getfield 29, 3, 3, 3, 166), (.dup, 1, 0, 0, 0), (.getfield 104, 3, 2, 1, 140), (.iconst 1, 1, 0, 0, 0), (.iadd, 1, 0, 0, 0), (.putfield 104, 3, 2, 1, 140), (.aload_n 0, 1, 0, 0, 0), (.getfield 29, 3, 3, 3, 166), (.getfield 104, 3, 2, 1, 140), (.ireturn, 1, 0, 0, 0)]
set_option maxRecDepth 20000 in
theorem o_V_append_40 : am_okB mt_V_append 40 k_V_append_40 = true := by decide +kernel
theorem g_V_append_40 {L : am_S} {n : Nat} {ls st : List Value} {M : am_M} {Q : am_Q} (h : am_B L mt_V_append k_V_append_40 n 40 ls st M Q) : am_R L mt_V_append n 40 ls st M Q := am_go L mt_V_append (fun h => by cases h) k_V_append_40 n 40 ls st M Q o_V_append_40 h
def k_V_clearBuffer_0 : List am_I := [(.aload_n 0, 1, 0, 0, 0), (.getfield 29, 3, 3, 3, 166), (.getfield 104, 3, 2, 1, 140), (.istore_n 1, 1, 0, 0, 0), (.aload_n 0, 1, 0, 0, 0), (.getfield 29, 3, 3, 3, 166), (.iconst 0, 1, 0, 0, 0), (.putfield 104, 3, 2, 1, 140), (.iload_n 1, 1, 0, 0, 0), (.ireturn, 1, 0, 0, 0)]
set_option maxRecDepth 20000 in
theorem o_V_clearBuffer_0 : am_okB mt_V_clearBuffer 0 k_V_clearBuffer_0 = true := by decide +kernel
theorem g_V_clearBuffer_0 {L : am_S} {n : Nat} {ls st : List Value} {M : am_M} {Q : am_Q} (h : am_B L mt_V_clearBuffer k_V_clearBuffer_0 n 0 ls st M Q) : am_R L mt_V_clearBuffer n 0 ls st M Q := am_go L mt_V_clearBuffer (fun h => by cases h) k_V_clearBuffer_0 n 0 ls st M Q o_V_clearBuffer_0 h
def k_V_firstError_0 : List am_I := [(.aload_n 0, 1, 0, 0, 0), (.getfield 29, 3, 3, 3, 166), (.invokevirtual 112, 3, 23, 1, 200), (.ireturn, 1, 0, 0, 0)]
set_option maxRecDepth 20000 in
theorem o_V_firstError_0 : am_okB mt_V_firstError 0 k_V_firstError_0 = true := by decide +kernel
theorem g_V_firstError_0 {L : am_S} {n : Nat} {ls st : List Value} {M : am_M} {Q : am_Q} (h : am_B L mt_V_firstError k_V_firstError_0 n 0 ls st M Q) : am_R L mt_V_firstError n 0 ls st M Q := am_go L mt_V_firstError (fun h => by cases h) k_V_firstError_0 n 0 ls st M Q o_V_firstError_0 h
def k_V_load_0 : List am_I := [(.aload_n 0, 1, 0, 0, 0), (.getfield 29, 3, 3, 3, 166), (.invokevirtual 112, 3, 23, 1, 200), (.aload_n 0, 1, 0, 0, 0), (.getfield 29, 3, 3, 3, 166), (.getfield 104, 3, 2, 1, 140), (.if_icmp .lt 13, 3, 0, 0, 0), (.aload_n 0, 1, 0, 0, 0), (.getfield 29, 3, 3, 3, 166), (.invokevirtual 115, 3, 24, 1, 635), (.ifCond .ne 13, 3, 0, 0, 0)]
set_option maxRecDepth 20000 in
theorem o_V_load_0 : am_okB mt_V_load 0 k_V_load_0 = true := by decide +kernel
theorem g_V_load_0 {L : am_S} {n : Nat} {ls st : List Value} {M : am_M} {Q : am_Q} (h : am_B L mt_V_load k_V_load_0 n 0 ls st M Q) : am_R L mt_V_load n 0 ls st M Q := am_go L mt_V_load (fun h => by cases h) k_V_load_0 n 0 ls st M Q o_V_load_0 h
def k_V_load_27 : List am_I := [(.new 84, 3, 1, 119, 88)]
set_option maxRecDepth 20000 in
theorem o_V_load_27 : am_okB mt_V_load 27 k_V_load_27 = true := by decide +kernel
theorem g_V_load_27 {L : am_S} {n : Nat} {ls st : List Value} {M : am_M} {Q : am_Q} (h : am_B L mt_V_load k_V_load_27 n 27 ls st M Q) : am_R L mt_V_load n 27 ls st M Q := am_go L mt_V_load (fun h => by cases h) k_V_load_27 n 27 ls st M Q o_V_load_27 h
def k_V_load_37 : List am_I := [(.aload_n 0, 1, 0, 0, 0), (.getfield 29, 3, 3, 3, 166), (.getfield 121, 3, 2, 3, 144), (.iconst 1, 1, 0, 0, 0), (.iadd, 1, 0, 0, 0), (.istore_n 1, 1, 0, 0, 0), (.iload_n 1, 1, 0, 0, 0), (.bipush 8, 2, 0, 0, 0), (.if_icmp .le 13, 3, 0, 0, 0), (.new 73, 3, 2, 124, 77)]
set_option maxRecDepth 20000 in
theorem o_V_load_37 : am_okB mt_V_load 37 k_V_load_37 = true := by decide +kernel
theorem g_V_load_37 {L : am_S} {n : Nat} {ls st : List Value} {M : am_M} {Q : am_Q} (h : am_B L mt_V_load k_V_load_37 n 37 ls st M Q) : am_R L mt_V_load n 37 ls st M Q := am_go L mt_V_load (fun h => by cases h) k_V_load_37 n 37 ls st M Q o_V_load_37 h
def k_V_load_63 : List am_I := [(.aload_n 0, 1, 0, 0, 0), (.invokevirtual 62, 3, 68, 1, 517), (.aload_n 0, 1, 0, 0, 0), (.getfield 12, 3, 3, 0, 163), (.aload_n 0, 1, 0, 0, 0), (.getfield 29, 3, 3, 3, 166), (.getfield 126, 3, 2, 2, 142), (.iload_n 1, 1, 0, 0, 0), (.invokevirtual 129, 3, 12, 3, 641), (.aload_n 0, 1, 0, 0, 0), (.getfield 29, 3, 3, 3, 166), (.iconst 0, 1, 0, 0, 0), (.putfield 104, 3, 2, 1, 140), (.iload_n 1, 1, 0, 0, 0), (.ireturn, 1, 0, 0, 0)]
set_option maxRecDepth 20000 in
theorem o_V_load_63 : am_okB mt_V_load 63 k_V_load_63 = true := by decide +kernel
theorem g_V_load_63 {L : am_S} {n : Nat} {ls st : List Value} {M : am_M} {Q : am_Q} (h : am_B L mt_V_load k_V_load_63 n 63 ls st M Q) : am_R L mt_V_load n 63 ls st M Q := am_go L mt_V_load (fun h => by cases h) k_V_load_63 n 63 ls st M Q o_V_load_63 h
def k_V_keep_0 : List am_I := [(.iload_n 1, 1, 0, 0, 0), (.iconst 0, 1, 0, 0, 0), (.iconst 1, 1, 0, 0, 0), (.invokestatic 58, 3, 73, 3, 498), (.aload_n 0, 1, 0, 0, 0), (.getfield 12, 3, 3, 0, 163), (.getfield 51, 3, 1, 0, 99), (.iconst 0, 1, 0, 0, 0), (.aload_n 0, 1, 0, 0, 0), (.getfield 37, 3, 3, 5, 168), (.iload_n 1, 1, 0, 0, 0), (.bipush 105, 2, 0, 0, 0), (.imul, 1, 0, 0, 0), (.bipush 105, 2, 0, 0, 0), (.invokestatic 133, 3, 202, 5, 521), (.aload_n 0, 1, 0, 0, 0), (.getfield 40, 3, 3, 6, 169), (.iload_n 1, 1, 0, 0, 0), (.iconst 1, 1, 0, 0, 0), (.bastore, 1, 0, 0, 0), (.aload_n 0, 1, 0, 0, 0), (.getfield 12, 3, 3, 0, 163), (.invokevirtual 139, 3, 4, 1, 337), (.ireturn, 1, 0, 0, 0)]
set_option maxRecDepth 20000 in
theorem o_V_keep_0 : am_okB mt_V_keep 0 k_V_keep_0 = true := by decide +kernel
theorem g_V_keep_0 {L : am_S} {n : Nat} {ls st : List Value} {M : am_M} {Q : am_Q} (h : am_B L mt_V_keep k_V_keep_0 n 0 ls st M Q) : am_R L mt_V_keep n 0 ls st M Q := am_go L mt_V_keep (fun h => by cases h) k_V_keep_0 n 0 ls st M Q o_V_keep_0 h
def k_V_goBack_0 : List am_I := [(.iload_n 1, 1, 0, 0, 0), (.iconst 0, 1, 0, 0, 0), (.iconst 1, 1, 0, 0, 0), (.invokestatic 58, 3, 73, 3, 498), (.aload_n 0, 1, 0, 0, 0), (.getfield 40, 3, 3, 6, 169), (.iload_n 1, 1, 0, 0, 0), (.baload, 1, 0, 0, 0), (.ifCond .ne 13, 3, 0, 0, 0), (.new 73, 3, 2, 142, 77)]
set_option maxRecDepth 20000 in
theorem o_V_goBack_0 : am_okB mt_V_goBack 0 k_V_goBack_0 = true := by decide +kernel
theorem g_V_goBack_0 {L : am_S} {n : Nat} {ls st : List Value} {M : am_M} {Q : am_Q} (h : am_B L mt_V_goBack k_V_goBack_0 n 0 ls st M Q) : am_R L mt_V_goBack n 0 ls st M Q := am_go L mt_V_goBack (fun h => by cases h) k_V_goBack_0 n 0 ls st M Q o_V_goBack_0 h
def k_V_goBack_25 : List am_I := [(.aload_n 0, 1, 0, 0, 0), (.invokevirtual 62, 3, 68, 1, 517), (.aload_n 0, 1, 0, 0, 0), (.getfield 37, 3, 3, 5, 168), (.iload_n 1, 1, 0, 0, 0), (.bipush 105, 2, 0, 0, 0), (.imul, 1, 0, 0, 0), (.aload_n 0, 1, 0, 0, 0), (.getfield 12, 3, 3, 0, 163), (.getfield 51, 3, 1, 0, 99), (.iconst 0, 1, 0, 0, 0), (.bipush 105, 2, 0, 0, 0), (.invokestatic 133, 3, 202, 5, 521), (.aload_n 0, 1, 0, 0, 0), (.getfield 12, 3, 3, 0, 163), (.invokevirtual 139, 3, 4, 1, 337), (.ireturn, 1, 0, 0, 0)]
set_option maxRecDepth 20000 in
theorem o_V_goBack_25 : am_okB mt_V_goBack 25 k_V_goBack_25 = true := by decide +kernel
theorem g_V_goBack_25 {L : am_S} {n : Nat} {ls st : List Value} {M : am_M} {Q : am_Q} (h : am_B L mt_V_goBack k_V_goBack_25 n 25 ls st M Q) : am_R L mt_V_goBack n 25 ls st M Q := am_go L mt_V_goBack (fun h => by cases h) k_V_goBack_25 n 25 ls st M Q o_V_goBack_25 h
def k_V_undo_0 : List am_I := [(.aload_n 0, 1, 0, 0, 0), (.getfield 47, 3, 3, 8, 171), (.ifCond .le 12, 3, 0, 0, 0), (.aload_n 0, 1, 0, 0, 0), (.getfield 47, 3, 3, 8, 171), (.bipush 6, 2, 0, 0, 0), (.if_icmp .le 13, 3, 0, 0, 0)]
set_option maxRecDepth 20000 in
theorem o_V_undo_0 : am_okB mt_V_undo 0 k_V_undo_0 = true := by decide +kernel
theorem g_V_undo_0 {L : am_S} {n : Nat} {ls st : List Value} {M : am_M} {Q : am_Q} (h : am_B L mt_V_undo k_V_undo_0 n 0 ls st M Q) : am_R L mt_V_undo n 0 ls st M Q := am_go L mt_V_undo (fun h => by cases h) k_V_undo_0 n 0 ls st M Q o_V_undo_0 h
def k_V_undo_16 : List am_I := [(.new 73, 3, 2, 144, 77)]
set_option maxRecDepth 20000 in
theorem o_V_undo_16 : am_okB mt_V_undo 16 k_V_undo_16 = true := by decide +kernel
theorem g_V_undo_16 {L : am_S} {n : Nat} {ls st : List Value} {M : am_M} {Q : am_Q} (h : am_B L mt_V_undo k_V_undo_16 n 16 ls st M Q) : am_R L mt_V_undo n 16 ls st M Q := am_go L mt_V_undo (fun h => by cases h) k_V_undo_16 n 16 ls st M Q o_V_undo_16 h
def k_V_undo_26 : List am_I := [(.aload_n 0, 1, 0, 0, 0), (.dup, 1, 0, 0, 0), (.getfield 47, 3, 3, 8, 171), (.iconst 1, 1, 0, 0, 0), (.isub, 1, 0, 0, 0), (.putfield 47, 3, 3, 8, 171), (.aload_n 0, 1, 0, 0, 0), (.getfield 44, 3, 3, 7, 170), (.aload_n 0, 1, 0, 0, 0), (.getfield 47, 3, 3, 8, 171), (.bipush 105, 2, 0, 0, 0), (.imul, 1, 0, 0, 0), (.aload_n 0, 1, 0, 0, 0), (.getfield 12, 3, 3, 0, 163), (.getfield 51, 3, 1, 0, 99), (.iconst 0, 1, 0, 0, 0), (.bipush 105, 2, 0, 0, 0), (.invokestatic 133, 3, 202, 5, 521), (.aload_n 0, 1, 0, 0, 0), (.getfield 47, 3, 3, 8, 171), (.ireturn, 1, 0, 0, 0)]
set_option maxRecDepth 20000 in
theorem o_V_undo_26 : am_okB mt_V_undo 26 k_V_undo_26 = true := by decide +kernel
theorem g_V_undo_26 {L : am_S} {n : Nat} {ls st : List Value} {M : am_M} {Q : am_Q} (h : am_B L mt_V_undo k_V_undo_26 n 26 ls st M Q) : am_R L mt_V_undo n 26 ls st M Q := am_go L mt_V_undo (fun h => by cases h) k_V_undo_26 n 26 ls st M Q o_V_undo_26 h
def k_V_vatOf_0 : List am_I := [(.iload_n 1, 1, 0, 0, 0), (.invokestatic 54, 3, 70, 1, 428), (.iload_n 2, 1, 0, 0, 0), (.iconst 0, 1, 0, 0, 0), (.bipush 9, 2, 0, 0, 0), (.invokestatic 58, 3, 73, 3, 498), (.aload_n 0, 1, 0, 0, 0), (.getfield 12, 3, 3, 0, 163), (.iload_n 1, 1, 0, 0, 0), (.iload_n 2, 1, 0, 0, 0), (.invokevirtual 146, 3, 8, 3, 360), (.ireturn, 1, 0, 0, 0)]
set_option maxRecDepth 20000 in
theorem o_V_vatOf_0 : am_okB mt_V_vatOf 0 k_V_vatOf_0 = true := by decide +kernel
theorem g_V_vatOf_0 {L : am_S} {n : Nat} {ls st : List Value} {M : am_M} {Q : am_Q} (h : am_B L mt_V_vatOf k_V_vatOf_0 n 0 ls st M Q) : am_R L mt_V_vatOf n 0 ls st M Q := am_go L mt_V_vatOf (fun h => by cases h) k_V_vatOf_0 n 0 ls st M Q o_V_vatOf_0 h
def k_V_valveOf_0 : List am_I := [(.aload_n 0, 1, 0, 0, 0), (.iload_n 1, 1, 0, 0, 0), (.invokevirtual 91, 3, 72, 2, 592), (.iload_n 2, 1, 0, 0, 0), (.iconst 0, 1, 0, 0, 0), (.bipush 6, 2, 0, 0, 0), (.invokestatic 58, 3, 73, 3, 498), (.aload_n 0, 1, 0, 0, 0), (.getfield 12, 3, 3, 0, 163), (.iload_n 1, 1, 0, 0, 0), (.iload_n 2, 1, 0, 0, 0), (.invokevirtual 150, 3, 9, 3, 368), (.ireturn, 1, 0, 0, 0)]
set_option maxRecDepth 20000 in
theorem o_V_valveOf_0 : am_okB mt_V_valveOf 0 k_V_valveOf_0 = true := by decide +kernel
theorem g_V_valveOf_0 {L : am_S} {n : Nat} {ls st : List Value} {M : am_M} {Q : am_Q} (h : am_B L mt_V_valveOf k_V_valveOf_0 n 0 ls st M Q) : am_R L mt_V_valveOf n 0 ls st M Q := am_go L mt_V_valveOf (fun h => by cases h) k_V_valveOf_0 n 0 ls st M Q o_V_valveOf_0 h
def k_V_dyeOf_0 : List am_I := [(.iload_n 1, 1, 0, 0, 0), (.invokestatic 69, 3, 71, 1, 534), (.iload_n 2, 1, 0, 0, 0), (.iconst 0, 1, 0, 0, 0), (.iconst 4, 1, 0, 0, 0), (.invokestatic 58, 3, 73, 3, 498), (.aload_n 0, 1, 0, 0, 0), (.getfield 12, 3, 3, 0, 163), (.iload_n 1, 1, 0, 0, 0), (.iload_n 2, 1, 0, 0, 0), (.invokevirtual 153, 3, 10, 3, 376), (.ireturn, 1, 0, 0, 0)]
set_option maxRecDepth 20000 in
theorem o_V_dyeOf_0 : am_okB mt_V_dyeOf 0 k_V_dyeOf_0 = true := by decide +kernel
theorem g_V_dyeOf_0 {L : am_S} {n : Nat} {ls st : List Value} {M : am_M} {Q : am_Q} (h : am_B L mt_V_dyeOf k_V_dyeOf_0 n 0 ls st M Q) : am_R L mt_V_dyeOf n 0 ls st M Q := am_go L mt_V_dyeOf (fun h => by cases h) k_V_dyeOf_0 n 0 ls st M Q o_V_dyeOf_0 h
def k_V_count_0 : List am_I := [(.iload_n 1, 1, 0, 0, 0), (.iconst 0, 1, 0, 0, 0), (.bipush 9, 2, 0, 0, 0), (.invokestatic 58, 3, 73, 3, 498), (.aload_n 0, 1, 0, 0, 0), (.iload_n 1, 1, 0, 0, 0), (.invokevirtual 156, 3, 66, 2, 333), (.ireturn, 1, 0, 0, 0)]
set_option maxRecDepth 20000 in
theorem o_V_count_0 : am_okB mt_V_count 0 k_V_count_0 = true := by decide +kernel
theorem g_V_count_0 {L : am_S} {n : Nat} {ls st : List Value} {M : am_M} {Q : am_Q} (h : am_B L mt_V_count k_V_count_0 n 0 ls st M Q) : am_R L mt_V_count n 0 ls st M Q := am_go L mt_V_count (fun h => by cases h) k_V_count_0 n 0 ls st M Q o_V_count_0 h
def k_V_ifPassed_0 : List am_I := [(.iload_n 2, 1, 0, 0, 0), (.invokestatic 54, 3, 70, 1, 428), (.iload_n 1, 1, 0, 0, 0), (.iconst 1, 1, 0, 0, 0), (.sipush 240, 3, 0, 0, 0), (.invokestatic 58, 3, 73, 3, 498), (.iload_n 3, 1, 0, 0, 0), (.iconst 1, 1, 0, 0, 0), (.bipush 7, 2, 0, 0, 0), (.invokestatic 58, 3, 73, 3, 498), (.aload_n 0, 1, 0, 0, 0), (.getfield 16, 3, 3, 1, 164), (.aload_n 0, 1, 0, 0, 0), (.getfield 12, 3, 3, 0, 163), (.invokevirtual 159, 3, 3, 2, 274), (.aload_n 0, 1, 0, 0, 0), (.getfield 16, 3, 3, 1, 164), (.iload_n 1, 1, 0, 0, 0), (.invokevirtual 101, 3, 14, 2, 285), (.aload_n 0, 1, 0, 0, 0), (.getfield 16, 3, 3, 1, 164), (.iload_n 2, 1, 0, 0, 0), (.iload_n 3, 1, 0, 0, 0), (.invokevirtual 146, 3, 8, 3, 360), (.ireturn, 1, 0, 0, 0)]
set_option maxRecDepth 20000 in
theorem o_V_ifPassed_0 : am_okB mt_V_ifPassed 0 k_V_ifPassed_0 = true := by decide +kernel
theorem g_V_ifPassed_0 {L : am_S} {n : Nat} {ls st : List Value} {M : am_M} {Q : am_Q} (h : am_B L mt_V_ifPassed k_V_ifPassed_0 n 0 ls st M Q) : am_R L mt_V_ifPassed n 0 ls st M Q := am_go L mt_V_ifPassed (fun h => by cases h) k_V_ifPassed_0 n 0 ls st M Q o_V_ifPassed_0 h
def k_V_emptyIn_0 : List am_I := [(.iload_n 1, 1, 0, 0, 0), (.invokestatic 54, 3, 70, 1, 428), (.aload_n 0, 1, 0, 0, 0), (.invokevirtual 163, 3, 67, 1, 356), (.aload_n 0, 1, 0, 0, 0), (.getfield 33, 3, 3, 4, 167), (.iload_n 1, 1, 0, 0, 0), (.iaload, 1, 0, 0, 0), (.ireturn, 1, 0, 0, 0)]
set_option maxRecDepth 20000 in
theorem o_V_emptyIn_0 : am_okB mt_V_emptyIn 0 k_V_emptyIn_0 = true := by decide +kernel
theorem g_V_emptyIn_0 {L : am_S} {n : Nat} {ls st : List Value} {M : am_M} {Q : am_Q} (h : am_B L mt_V_emptyIn k_V_emptyIn_0 n 0 ls st M Q) : am_R L mt_V_emptyIn n 0 ls st M Q := am_go L mt_V_emptyIn (fun h => by cases h) k_V_emptyIn_0 n 0 ls st M Q o_V_emptyIn_0 h
def k_V_round_0 : List am_I := [(.iload_n 1, 1, 0, 0, 0), (.iconst 0, 1, 0, 0, 0), (.iconst 3, 1, 0, 0, 0), (.invokestatic 58, 3, 73, 3, 498), (.aload_n 0, 1, 0, 0, 0), (.getfield 22, 3, 3, 2, 165), (.aload_n 0, 1, 0, 0, 0), (.getfield 12, 3, 3, 0, 163), (.invokevirtual 166, 3, 31, 2, 388), (.iload_n 1, 1, 0, 0, 0), (.iconst 2, 1, 0, 0, 0), (.if_icmp .ge 13, 3, 0, 0, 0), (.aload_n 0, 1, 0, 0, 0), (.getfield 22, 3, 3, 2, 165), (.invokevirtual 169, 3, 32, 1, 394), (.goto 10, 3, 0, 0, 0)]
set_option maxRecDepth 20000 in
theorem o_V_round_0 : am_okB mt_V_round 0 k_V_round_0 = true := by decide +kernel
theorem g_V_round_0 {L : am_S} {n : Nat} {ls st : List Value} {M : am_M} {Q : am_Q} (h : am_B L mt_V_round k_V_round_0 n 0 ls st M Q) : am_R L mt_V_round n 0 ls st M Q := am_go L mt_V_round (fun h => by cases h) k_V_round_0 n 0 ls st M Q o_V_round_0 h
def k_V_round_32 : List am_I := [(.aload_n 0, 1, 0, 0, 0), (.getfield 22, 3, 3, 2, 165), (.invokevirtual 172, 3, 33, 1, 407)]
set_option maxRecDepth 20000 in
theorem o_V_round_32 : am_okB mt_V_round 32 k_V_round_32 = true := by decide +kernel
theorem g_V_round_32 {L : am_S} {n : Nat} {ls st : List Value} {M : am_M} {Q : am_Q} (h : am_B L mt_V_round k_V_round_32 n 32 ls st M Q) : am_R L mt_V_round n 32 ls st M Q := am_go L mt_V_round (fun h => by cases h) k_V_round_32 n 32 ls st M Q o_V_round_32 h
def k_V_round_39 : List am_I := [(.iload_n 1, 1, 0, 0, 0), (.iconst 2, 1, 0, 0, 0), (.irem, 1, 0, 0, 0), (.ifCond .ne 13, 3, 0, 0, 0), (.aload_n 0, 1, 0, 0, 0), (.getfield 22, 3, 3, 2, 165), (.getfield 175, 3, 0, 3, 117), (.goto 10, 3, 0, 0, 0)]
set_option maxRecDepth 20000 in
theorem o_V_round_39 : am_okB mt_V_round 39 k_V_round_39 = true := by decide +kernel
theorem g_V_round_39 {L : am_S} {n : Nat} {ls st : List Value} {M : am_M} {Q : am_Q} (h : am_B L mt_V_round k_V_round_39 n 39 ls st M Q) : am_R L mt_V_round n 39 ls st M Q := am_go L mt_V_round (fun h => by cases h) k_V_round_39 n 39 ls st M Q o_V_round_39 h
def k_V_round_55 : List am_I := [(.aload_n 0, 1, 0, 0, 0), (.getfield 22, 3, 3, 2, 165), (.getfield 176, 3, 0, 4, 119)]
set_option maxRecDepth 20000 in
theorem o_V_round_55 : am_okB mt_V_round 55 k_V_round_55 = true := by decide +kernel
theorem g_V_round_55 {L : am_S} {n : Nat} {ls st : List Value} {M : am_M} {Q : am_Q} (h : am_B L mt_V_round k_V_round_55 n 55 ls st M Q) : am_R L mt_V_round n 55 ls st M Q := am_go L mt_V_round (fun h => by cases h) k_V_round_55 n 55 ls st M Q o_V_round_55 h
def k_V_round_62 : List am_I := [(.ireturn, 1, 0, 0, 0)]
set_option maxRecDepth 20000 in
theorem o_V_round_62 : am_okB mt_V_round 62 k_V_round_62 = true := by decide +kernel
theorem g_V_round_62 {L : am_S} {n : Nat} {ls st : List Value} {M : am_M} {Q : am_Q} (h : am_B L mt_V_round k_V_round_62 n 62 ls st M Q) : am_R L mt_V_round n 62 ls st M Q := am_go L mt_V_round (fun h => by cases h) k_V_round_62 n 62 ls st M Q o_V_round_62 h
def k_V_mainValve_0 : List am_I := [(.iconst (-1), 1, 0, 0, 0), (.istore_n 1, 1, 0, 0, 0), (.iconst 0, 1, 0, 0, 0), (.istore_n 2, 1, 0, 0, 0), (.iconst 0, 1, 0, 0, 0), (.istore_n 3, 1, 0, 0, 0)]
set_option maxRecDepth 20000 in
theorem o_V_mainValve_0 : am_okB mt_V_mainValve 0 k_V_mainValve_0 = true := by decide +kernel
theorem g_V_mainValve_0 {L : am_S} {n : Nat} {ls st : List Value} {M : am_M} {Q : am_Q} (h : am_B L mt_V_mainValve k_V_mainValve_0 n 0 ls st M Q) : am_R L mt_V_mainValve n 0 ls st M Q := am_go L mt_V_mainValve (fun h => by cases h) k_V_mainValve_0 n 0 ls st M Q o_V_mainValve_0 h
def k_V_mainValve_6 : List am_I := [(.iload_n 3, 1, 0, 0, 0), (.aload_n 0, 1, 0, 0, 0), (.getfield 12, 3, 3, 0, 163), (.getfield 51, 3, 1, 0, 99), (.bipush 56, 2, 0, 0, 0), (.iaload, 1, 0, 0, 0), (.if_icmp .ge 65, 3, 0, 0, 0), (.aload_n 0, 1, 0, 0, 0), (.getfield 16, 3, 3, 1, 164), (.aload_n 0, 1, 0, 0, 0), (.getfield 12, 3, 3, 0, 163), (.invokevirtual 159, 3, 3, 2, 274), (.aload_n 0, 1, 0, 0, 0), (.getfield 16, 3, 3, 1, 164), (.iload_n 3, 1, 0, 0, 0), (.invokevirtual 94, 3, 11, 2, 281), (.aload_n 0, 1, 0, 0, 0), (.getfield 16, 3, 3, 1, 164), (.bipush 24, 2, 0, 0, 0), (.invokevirtual 101, 3, 14, 2, 285), (.aload_n 0, 1, 0, 0, 0), (.getfield 16, 3, 3, 1, 164), (.getfield 51, 3, 1, 0, 99), (.bipush 54, 2, 0, 0, 0), (.iaload, 1, 0, 0, 0), (.istore 4, 2, 0, 0, 0), (.iload_n 1, 1, 0, 0, 0), (.iconst (-1), 1, 0, 0, 0), (.if_icmp .eq 9, 3, 0, 0, 0), (.iload 4, 2, 0, 0, 0), (.iload_n 2, 1, 0, 0, 0), (.if_icmp .ge 8, 3, 0, 0, 0)]
set_option maxRecDepth 20000 in
theorem o_V_mainValve_6 : am_okB mt_V_mainValve 6 k_V_mainValve_6 = true := by decide +kernel
theorem g_V_mainValve_6 {L : am_S} {n : Nat} {ls st : List Value} {M : am_M} {Q : am_Q} (h : am_B L mt_V_mainValve k_V_mainValve_6 n 6 ls st M Q) : am_R L mt_V_mainValve n 6 ls st M Q := am_go L mt_V_mainValve (fun h => by cases h) k_V_mainValve_6 n 6 ls st M Q o_V_mainValve_6 h
def k_V_mainValve_71 : List am_I := [(.iload_n 3, 1, 0, 0, 0), (.istore_n 1, 1, 0, 0, 0), (.iload 4, 2, 0, 0, 0), (.istore_n 2, 1, 0, 0, 0)]
set_option maxRecDepth 20000 in
theorem o_V_mainValve_71 : am_okB mt_V_mainValve 71 k_V_mainValve_71 = true := by decide +kernel
theorem g_V_mainValve_71 {L : am_S} {n : Nat} {ls st : List Value} {M : am_M} {Q : am_Q} (h : am_B L mt_V_mainValve k_V_mainValve_71 n 71 ls st M Q) : am_R L mt_V_mainValve n 71 ls st M Q := am_go L mt_V_mainValve (fun h => by cases h) k_V_mainValve_71 n 71 ls st M Q o_V_mainValve_71 h
def k_V_mainValve_76 : List am_I := [(.iinc 3 1, 3, 0, 0, 0), (.goto (-73), 3, 0, 0, 0)]
set_option maxRecDepth 20000 in
theorem o_V_mainValve_76 : am_okB mt_V_mainValve 76 k_V_mainValve_76 = true := by decide +kernel
theorem g_V_mainValve_76 {L : am_S} {n : Nat} {ls st : List Value} {M : am_M} {Q : am_Q} (h : am_B L mt_V_mainValve k_V_mainValve_76 n 76 ls st M Q) : am_R L mt_V_mainValve n 76 ls st M Q := am_go L mt_V_mainValve (fun h => by cases h) k_V_mainValve_76 n 76 ls st M Q o_V_mainValve_76 h
def k_V_mainValve_82 : List am_I := [(.iload_n 1, 1, 0, 0, 0), (.ireturn, 1, 0, 0, 0)]
set_option maxRecDepth 20000 in
theorem o_V_mainValve_82 : am_okB mt_V_mainValve 82 k_V_mainValve_82 = true := by decide +kernel
theorem g_V_mainValve_82 {L : am_S} {n : Nat} {ls st : List Value} {M : am_M} {Q : am_Q} (h : am_B L mt_V_mainValve k_V_mainValve_82 n 82 ls st M Q) : am_R L mt_V_mainValve n 82 ls st M Q := am_go L mt_V_mainValve (fun h => by cases h) k_V_mainValve_82 n 82 ls st M Q o_V_mainValve_82 h
def k_V_goneShare_0 : List am_I := [(.iconst 0, 1, 0, 0, 0), (.istore_n 1, 1, 0, 0, 0), (.iconst 0, 1, 0, 0, 0), (.istore_n 2, 1, 0, 0, 0), (.iconst 0, 1, 0, 0, 0), (.istore_n 3, 1, 0, 0, 0)]
set_option maxRecDepth 20000 in
theorem o_V_goneShare_0 : am_okB mt_V_goneShare 0 k_V_goneShare_0 = true := by decide +kernel
theorem g_V_goneShare_0 {L : am_S} {n : Nat} {ls st : List Value} {M : am_M} {Q : am_Q} (h : am_B L mt_V_goneShare k_V_goneShare_0 n 0 ls st M Q) : am_R L mt_V_goneShare n 0 ls st M Q := am_go L mt_V_goneShare (fun h => by cases h) k_V_goneShare_0 n 0 ls st M Q o_V_goneShare_0 h
def k_V_goneShare_6 : List am_I := [(.iload_n 3, 1, 0, 0, 0), (.iconst 3, 1, 0, 0, 0), (.if_icmp .ge 39, 3, 0, 0, 0), (.iload_n 1, 1, 0, 0, 0), (.aload_n 0, 1, 0, 0, 0), (.getfield 12, 3, 3, 0, 163), (.getfield 51, 3, 1, 0, 99), (.bipush 45, 2, 0, 0, 0), (.iload_n 3, 1, 0, 0, 0), (.iadd, 1, 0, 0, 0), (.iaload, 1, 0, 0, 0), (.iadd, 1, 0, 0, 0), (.istore_n 1, 1, 0, 0, 0), (.iload_n 2, 1, 0, 0, 0), (.aload_n 0, 1, 0, 0, 0), (.getfield 12, 3, 3, 0, 163), (.getfield 51, 3, 1, 0, 99), (.bipush 48, 2, 0, 0, 0), (.iload_n 3, 1, 0, 0, 0), (.iadd, 1, 0, 0, 0), (.iaload, 1, 0, 0, 0), (.iadd, 1, 0, 0, 0), (.istore_n 2, 1, 0, 0, 0), (.iinc 3 1, 3, 0, 0, 0), (.goto (-38), 3, 0, 0, 0)]
set_option maxRecDepth 20000 in
theorem o_V_goneShare_6 : am_okB mt_V_goneShare 6 k_V_goneShare_6 = true := by decide +kernel
theorem g_V_goneShare_6 {L : am_S} {n : Nat} {ls st : List Value} {M : am_M} {Q : am_Q} (h : am_B L mt_V_goneShare k_V_goneShare_6 n 6 ls st M Q) : am_R L mt_V_goneShare n 6 ls st M Q := am_go L mt_V_goneShare (fun h => by cases h) k_V_goneShare_6 n 6 ls st M Q o_V_goneShare_6 h
def k_V_goneShare_47 : List am_I := [(.iload_n 1, 1, 0, 0, 0), (.ifCond .le 11, 3, 0, 0, 0), (.iload_n 2, 1, 0, 0, 0), (.i2d, 1, 0, 0, 0), (.iload_n 1, 1, 0, 0, 0), (.i2d, 1, 0, 0, 0), (.ddiv, 1, 0, 0, 0), (.goto 4, 3, 0, 0, 0)]
set_option maxRecDepth 20000 in
theorem o_V_goneShare_47 : am_okB mt_V_goneShare 47 k_V_goneShare_47 = true := by decide +kernel
theorem g_V_goneShare_47 {L : am_S} {n : Nat} {ls st : List Value} {M : am_M} {Q : am_Q} (h : am_B L mt_V_goneShare k_V_goneShare_47 n 47 ls st M Q) : am_R L mt_V_goneShare n 47 ls st M Q := am_go L mt_V_goneShare (fun h => by cases h) k_V_goneShare_47 n 47 ls st M Q o_V_goneShare_47 h
def k_V_goneShare_59 : List am_I := [(.dconst 0, 1, 0, 0, 0)]
set_option maxRecDepth 20000 in
theorem o_V_goneShare_59 : am_okB mt_V_goneShare 59 k_V_goneShare_59 = true := by decide +kernel
theorem g_V_goneShare_59 {L : am_S} {n : Nat} {ls st : List Value} {M : am_M} {Q : am_Q} (h : am_B L mt_V_goneShare k_V_goneShare_59 n 59 ls st M Q) : am_R L mt_V_goneShare n 59 ls st M Q := am_go L mt_V_goneShare (fun h => by cases h) k_V_goneShare_59 n 59 ls st M Q o_V_goneShare_59 h
def k_V_goneShare_60 : List am_I := [(.dreturn, 1, 0, 0, 0)]
set_option maxRecDepth 20000 in
theorem o_V_goneShare_60 : am_okB mt_V_goneShare 60 k_V_goneShare_60 = true := by decide +kernel
theorem g_V_goneShare_60 {L : am_S} {n : Nat} {ls st : List Value} {M : am_M} {Q : am_Q} (h : am_B L mt_V_goneShare k_V_goneShare_60 n 60 ls st M Q) : am_R L mt_V_goneShare n 60 ls st M Q := am_go L mt_V_goneShare (fun h => by cases h) k_V_goneShare_60 n 60 ls st M Q o_V_goneShare_60 h
def k_V_digest_0 : List am_I := [(.ldc2_w 179, 3, 3461, 0, 331), (.lstore_n 1, 1, 0, 0, 0), (.iconst 0, 1, 0, 0, 0), (.istore_n 3, 1, 0, 0, 0)]
set_option maxRecDepth 20000 in
theorem o_V_digest_0 : am_okB mt_V_digest 0 k_V_digest_0 = true := by decide +kernel
theorem g_V_digest_0 {L : am_S} {n : Nat} {ls st : List Value} {M : am_M} {Q : am_Q} (h : am_B L mt_V_digest k_V_digest_0 n 0 ls st M Q) : am_R L mt_V_digest n 0 ls st M Q := am_go L mt_V_digest (fun h => by cases h) k_V_digest_0 n 0 ls st M Q o_V_digest_0 h
def k_V_digest_6 : List am_I := [(.iload_n 3, 1, 0, 0, 0), (.bipush 9, 2, 0, 0, 0), (.if_icmp .gt 22, 3, 0, 0, 0), (.ldc2_w 181, 3, 31, 0, 332), (.lload_n 1, 1, 0, 0, 0), (.lmul, 1, 0, 0, 0), (.aload_n 0, 1, 0, 0, 0), (.iload_n 3, 1, 0, 0, 0), (.invokevirtual 156, 3, 66, 2, 333), (.i2l, 1, 0, 0, 0), (.ladd, 1, 0, 0, 0), (.lstore_n 1, 1, 0, 0, 0), (.iinc 3 1, 3, 0, 0, 0), (.goto (-22), 3, 0, 0, 0)]
set_option maxRecDepth 20000 in
theorem o_V_digest_6 : am_okB mt_V_digest 6 k_V_digest_6 = true := by decide +kernel
theorem g_V_digest_6 {L : am_S} {n : Nat} {ls st : List Value} {M : am_M} {Q : am_Q} (h : am_B L mt_V_digest k_V_digest_6 n 6 ls st M Q) : am_R L mt_V_digest n 6 ls st M Q := am_go L mt_V_digest (fun h => by cases h) k_V_digest_6 n 6 ls st M Q o_V_digest_6 h
def k_V_digest_31 : List am_I := [(.aload_n 0, 1, 0, 0, 0), (.lload_n 1, 1, 0, 0, 0), (.invokevirtual 183, 3, 62, 2, 352), (.lstore_n 1, 1, 0, 0, 0), (.aload_n 0, 1, 0, 0, 0), (.lload_n 1, 1, 0, 0, 0), (.invokevirtual 187, 3, 63, 2, 364), (.lstore_n 1, 1, 0, 0, 0), (.aload_n 0, 1, 0, 0, 0), (.lload_n 1, 1, 0, 0, 0), (.invokevirtual 190, 3, 64, 2, 372), (.lstore_n 1, 1, 0, 0, 0), (.aload_n 0, 1, 0, 0, 0), (.getfield 22, 3, 3, 2, 165), (.aload_n 0, 1, 0, 0, 0), (.getfield 12, 3, 3, 0, 163), (.invokevirtual 166, 3, 31, 2, 388), (.aload_n 0, 1, 0, 0, 0), (.getfield 22, 3, 3, 2, 165), (.invokevirtual 169, 3, 32, 1, 394), (.ldc2_w 181, 3, 31, 0, 332), (.ldc2_w 181, 3, 31, 0, 332), (.lload_n 1, 1, 0, 0, 0), (.lmul, 1, 0, 0, 0), (.aload_n 0, 1, 0, 0, 0), (.getfield 22, 3, 3, 2, 165), (.getfield 175, 3, 0, 3, 117), (.i2l, 1, 0, 0, 0), (.ladd, 1, 0, 0, 0), (.lmul, 1, 0, 0, 0), (.aload_n 0, 1, 0, 0, 0), (.getfield 22, 3, 3, 2, 165), (.getfield 176, 3, 0, 4, 119), (.i2l, 1, 0, 0, 0), (.ladd, 1, 0, 0, 0), (.lstore_n 1, 1, 0, 0, 0), (.aload_n 0, 1, 0, 0, 0), (.getfield 22, 3, 3, 2, 165), (.invokevirtual 172, 3, 33, 1, 407), (.ldc2_w 181, 3, 31, 0, 332), (.ldc2_w 181, 3, 31, 0, 332), (.lload_n 1, 1, 0, 0, 0), (.lmul, 1, 0, 0, 0), (.aload_n 0, 1, 0, 0, 0), (.getfield 22, 3, 3, 2, 165), (.getfield 175, 3, 0, 3, 117), (.i2l, 1, 0, 0, 0), (.ladd, 1, 0, 0, 0), (.lmul, 1, 0, 0, 0), (.aload_n 0, 1, 0, 0, 0), (.getfield 22, 3, 3, 2, 165), (.getfield 176, 3, 0, 4, 119), (.i2l, 1, 0, 0, 0), (.ladd, 1, 0, 0, 0), (.lstore_n 1, 1, 0, 0, 0), (.ldc2_w 181, 3, 31, 0, 332), (.lload_n 1, 1, 0, 0, 0), (.lmul, 1, 0, 0, 0), (.aload_n 0, 1, 0, 0, 0), (.invokevirtual 193, 3, 59, 1, 411), (.i2l, 1, 0, 0, 0), (.ladd, 1, 0, 0, 0), (.lstore_n 1, 1, 0, 0, 0), (.ldc2_w 181, 3, 31, 0, 332), (.lload_n 1, 1, 0, 0, 0), (.lmul, 1, 0, 0, 0), (.aload_n 0, 1, 0, 0, 0), (.invokevirtual 196, 3, 60, 1, 412), (.invokestatic 200, 3, 65, 1, 413), (.ladd, 1, 0, 0, 0), (.lstore_n 1, 1, 0, 0, 0), (.iconst 0, 1, 0, 0, 0), (.istore_n 3, 1, 0, 0, 0)]
set_option maxRecDepth 20000 in
theorem o_V_digest_31 : am_okB mt_V_digest 31 k_V_digest_31 = true := by decide +kernel
theorem g_V_digest_31 {L : am_S} {n : Nat} {ls st : List Value} {M : am_M} {Q : am_Q} (h : am_B L mt_V_digest k_V_digest_31 n 31 ls st M Q) : am_R L mt_V_digest n 31 ls st M Q := am_go L mt_V_digest (fun h => by cases h) k_V_digest_31 n 31 ls st M Q o_V_digest_31 h
def k_V_digest_158 : List am_I := [(.iload_n 3, 1, 0, 0, 0), (.iconst 2, 1, 0, 0, 0), (.if_icmp .ge 31, 3, 0, 0, 0), (.ldc2_w 181, 3, 31, 0, 332), (.lload_n 1, 1, 0, 0, 0), (.lmul, 1, 0, 0, 0), (.aload_n 0, 1, 0, 0, 0), (.getfield 40, 3, 3, 6, 169), (.iload_n 3, 1, 0, 0, 0), (.baload, 1, 0, 0, 0), (.ifCond .eq 7, 3, 0, 0, 0), (.iconst 1, 1, 0, 0, 0), (.goto 4, 3, 0, 0, 0)]
set_option maxRecDepth 20000 in
theorem o_V_digest_158 : am_okB mt_V_digest 158 k_V_digest_158 = true := by decide +kernel
theorem g_V_digest_158 {L : am_S} {n : Nat} {ls st : List Value} {M : am_M} {Q : am_Q} (h : am_B L mt_V_digest k_V_digest_158 n 158 ls st M Q) : am_R L mt_V_digest n 158 ls st M Q := am_go L mt_V_digest (fun h => by cases h) k_V_digest_158 n 158 ls st M Q o_V_digest_158 h
def k_V_digest_181 : List am_I := [(.iconst 0, 1, 0, 0, 0)]
set_option maxRecDepth 20000 in
theorem o_V_digest_181 : am_okB mt_V_digest 181 k_V_digest_181 = true := by decide +kernel
theorem g_V_digest_181 {L : am_S} {n : Nat} {ls st : List Value} {M : am_M} {Q : am_Q} (h : am_B L mt_V_digest k_V_digest_181 n 181 ls st M Q) : am_R L mt_V_digest n 181 ls st M Q := am_go L mt_V_digest (fun h => by cases h) k_V_digest_181 n 181 ls st M Q o_V_digest_181 h
def k_V_digest_182 : List am_I := [(.i2l, 1, 0, 0, 0), (.ladd, 1, 0, 0, 0), (.lstore_n 1, 1, 0, 0, 0), (.iinc 3 1, 3, 0, 0, 0), (.goto (-30), 3, 0, 0, 0)]
set_option maxRecDepth 20000 in
theorem o_V_digest_182 : am_okB mt_V_digest 182 k_V_digest_182 = true := by decide +kernel
theorem g_V_digest_182 {L : am_S} {n : Nat} {ls st : List Value} {M : am_M} {Q : am_Q} (h : am_B L mt_V_digest k_V_digest_182 n 182 ls st M Q) : am_R L mt_V_digest n 182 ls st M Q := am_go L mt_V_digest (fun h => by cases h) k_V_digest_182 n 182 ls st M Q o_V_digest_182 h
def k_V_digest_191 : List am_I := [(.ldc2_w 181, 3, 31, 0, 332), (.lload_n 1, 1, 0, 0, 0), (.lmul, 1, 0, 0, 0), (.aload_n 0, 1, 0, 0, 0), (.getfield 29, 3, 3, 3, 166), (.getfield 104, 3, 2, 1, 140), (.i2l, 1, 0, 0, 0), (.ladd, 1, 0, 0, 0), (.lstore_n 1, 1, 0, 0, 0), (.iconst 0, 1, 0, 0, 0), (.istore_n 3, 1, 0, 0, 0)]
set_option maxRecDepth 20000 in
theorem o_V_digest_191 : am_okB mt_V_digest 191 k_V_digest_191 = true := by decide +kernel
theorem g_V_digest_191 {L : am_S} {n : Nat} {ls st : List Value} {M : am_M} {Q : am_Q} (h : am_B L mt_V_digest k_V_digest_191 n 191 ls st M Q) : am_R L mt_V_digest n 191 ls st M Q := am_go L mt_V_digest (fun h => by cases h) k_V_digest_191 n 191 ls st M Q o_V_digest_191 h
def k_V_digest_208 : List am_I := [(.iload_n 3, 1, 0, 0, 0), (.aload_n 0, 1, 0, 0, 0), (.getfield 29, 3, 3, 3, 166), (.getfield 104, 3, 2, 1, 140), (.if_icmp .ge 32, 3, 0, 0, 0), (.iload_n 3, 1, 0, 0, 0), (.bipush 60, 2, 0, 0, 0), (.if_icmp .ge 26, 3, 0, 0, 0), (.ldc2_w 181, 3, 31, 0, 332), (.lload_n 1, 1, 0, 0, 0), (.lmul, 1, 0, 0, 0), (.aload_n 0, 1, 0, 0, 0), (.getfield 29, 3, 3, 3, 166), (.getfield 109, 3, 2, 0, 138), (.iload_n 3, 1, 0, 0, 0), (.iaload, 1, 0, 0, 0), (.i2l, 1, 0, 0, 0), (.ladd, 1, 0, 0, 0), (.lstore_n 1, 1, 0, 0, 0), (.iinc 3 1, 3, 0, 0, 0), (.goto (-37), 3, 0, 0, 0)]
set_option maxRecDepth 20000 in
theorem o_V_digest_208 : am_okB mt_V_digest 208 k_V_digest_208 = true := by decide +kernel
theorem g_V_digest_208 {L : am_S} {n : Nat} {ls st : List Value} {M : am_M} {Q : am_Q} (h : am_B L mt_V_digest k_V_digest_208 n 208 ls st M Q) : am_R L mt_V_digest n 208 ls st M Q := am_go L mt_V_digest (fun h => by cases h) k_V_digest_208 n 208 ls st M Q o_V_digest_208 h
def k_V_digest_248 : List am_I := [(.lload_n 1, 1, 0, 0, 0), (.lreturn, 1, 0, 0, 0)]
set_option maxRecDepth 20000 in
theorem o_V_digest_248 : am_okB mt_V_digest 248 k_V_digest_248 = true := by decide +kernel
theorem g_V_digest_248 {L : am_S} {n : Nat} {ls st : List Value} {M : am_M} {Q : am_Q} (h : am_B L mt_V_digest k_V_digest_248 n 248 ls st M Q) : am_R L mt_V_digest n 248 ls st M Q := am_go L mt_V_digest (fun h => by cases h) k_V_digest_248 n 248 ls st M Q o_V_digest_248 h
def k_V_hashVats_0 : List am_I := [(.lload_n 1, 1, 0, 0, 0), (.lstore_n 3, 1, 0, 0, 0), (.aload_n 0, 1, 0, 0, 0), (.invokevirtual 163, 3, 67, 1, 356), (.aload_n 0, 1, 0, 0, 0), (.getfield 16, 3, 3, 1, 164), (.aload_n 0, 1, 0, 0, 0), (.getfield 12, 3, 3, 0, 163), (.invokevirtual 159, 3, 3, 2, 274), (.aload_n 0, 1, 0, 0, 0), (.getfield 16, 3, 3, 1, 164), (.bipush 24, 2, 0, 0, 0), (.invokevirtual 101, 3, 14, 2, 285), (.iconst 0, 1, 0, 0, 0), (.istore 5, 2, 0, 0, 0)]
set_option maxRecDepth 20000 in
theorem o_V_hashVats_0 : am_okB mt_V_hashVats 0 k_V_hashVats_0 = true := by decide +kernel
theorem g_V_hashVats_0 {L : am_S} {n : Nat} {ls st : List Value} {M : am_M} {Q : am_Q} (h : am_B L mt_V_hashVats k_V_hashVats_0 n 0 ls st M Q) : am_R L mt_V_hashVats n 0 ls st M Q := am_go L mt_V_hashVats (fun h => by cases h) k_V_hashVats_0 n 0 ls st M Q o_V_hashVats_0 h
def k_V_hashVats_29 : List am_I := [(.iload 5, 2, 0, 0, 0), (.iconst 5, 1, 0, 0, 0), (.if_icmp .ge 113, 3, 0, 0, 0), (.iconst 0, 1, 0, 0, 0), (.istore 6, 2, 0, 0, 0)]
set_option maxRecDepth 20000 in
theorem o_V_hashVats_29 : am_okB mt_V_hashVats 29 k_V_hashVats_29 = true := by decide +kernel
theorem g_V_hashVats_29 {L : am_S} {n : Nat} {ls st : List Value} {M : am_M} {Q : am_Q} (h : am_B L mt_V_hashVats k_V_hashVats_29 n 29 ls st M Q) : am_R L mt_V_hashVats n 29 ls st M Q := am_go L mt_V_hashVats (fun h => by cases h) k_V_hashVats_29 n 29 ls st M Q o_V_hashVats_29 h
def k_V_hashVats_38 : List am_I := [(.iload 6, 2, 0, 0, 0), (.bipush 9, 2, 0, 0, 0), (.if_icmp .gt 28, 3, 0, 0, 0), (.ldc2_w 181, 3, 31, 0, 332), (.lload_n 3, 1, 0, 0, 0), (.lmul, 1, 0, 0, 0), (.aload_n 0, 1, 0, 0, 0), (.getfield 12, 3, 3, 0, 163), (.iload 5, 2, 0, 0, 0), (.iload 6, 2, 0, 0, 0), (.invokevirtual 146, 3, 8, 3, 360), (.i2l, 1, 0, 0, 0), (.ladd, 1, 0, 0, 0), (.lstore_n 3, 1, 0, 0, 0), (.iinc 6 1, 3, 0, 0, 0), (.goto (-29), 3, 0, 0, 0)]
set_option maxRecDepth 20000 in
theorem o_V_hashVats_38 : am_okB mt_V_hashVats 38 k_V_hashVats_38 = true := by decide +kernel
theorem g_V_hashVats_38 {L : am_S} {n : Nat} {ls st : List Value} {M : am_M} {Q : am_Q} (h : am_B L mt_V_hashVats k_V_hashVats_38 n 38 ls st M Q) : am_R L mt_V_hashVats n 38 ls st M Q := am_go L mt_V_hashVats (fun h => by cases h) k_V_hashVats_38 n 38 ls st M Q o_V_hashVats_38 h
def k_V_hashVats_70 : List am_I := [(.ldc2_w 181, 3, 31, 0, 332), (.lload_n 3, 1, 0, 0, 0), (.lmul, 1, 0, 0, 0), (.aload_n 0, 1, 0, 0, 0), (.getfield 33, 3, 3, 4, 167), (.iload 5, 2, 0, 0, 0), (.iaload, 1, 0, 0, 0), (.i2l, 1, 0, 0, 0), (.ladd, 1, 0, 0, 0), (.lstore_n 3, 1, 0, 0, 0), (.ldc2_w 181, 3, 31, 0, 332), (.lload_n 3, 1, 0, 0, 0), (.lmul, 1, 0, 0, 0), (.aload_n 0, 1, 0, 0, 0), (.getfield 16, 3, 3, 1, 164), (.iload 5, 2, 0, 0, 0), (.iconst 1, 1, 0, 0, 0), (.invokevirtual 146, 3, 8, 3, 360), (.i2l, 1, 0, 0, 0), (.ladd, 1, 0, 0, 0), (.lstore_n 3, 1, 0, 0, 0), (.ldc2_w 181, 3, 31, 0, 332), (.lload_n 3, 1, 0, 0, 0), (.lmul, 1, 0, 0, 0), (.aload_n 0, 1, 0, 0, 0), (.getfield 16, 3, 3, 1, 164), (.iload 5, 2, 0, 0, 0), (.iconst 2, 1, 0, 0, 0), (.invokevirtual 146, 3, 8, 3, 360), (.i2l, 1, 0, 0, 0), (.ladd, 1, 0, 0, 0), (.lstore_n 3, 1, 0, 0, 0), (.ldc2_w 181, 3, 31, 0, 332), (.lload_n 3, 1, 0, 0, 0), (.lmul, 1, 0, 0, 0), (.aload_n 0, 1, 0, 0, 0), (.getfield 16, 3, 3, 1, 164), (.iload 5, 2, 0, 0, 0), (.iconst 5, 1, 0, 0, 0), (.invokevirtual 146, 3, 8, 3, 360), (.i2l, 1, 0, 0, 0), (.ladd, 1, 0, 0, 0), (.lstore_n 3, 1, 0, 0, 0), (.iinc 5 1, 3, 0, 0, 0), (.goto (-113), 3, 0, 0, 0)]
set_option maxRecDepth 20000 in
theorem o_V_hashVats_70 : am_okB mt_V_hashVats 70 k_V_hashVats_70 = true := by decide +kernel
theorem g_V_hashVats_70 {L : am_S} {n : Nat} {ls st : List Value} {M : am_M} {Q : am_Q} (h : am_B L mt_V_hashVats k_V_hashVats_70 n 70 ls st M Q) : am_R L mt_V_hashVats n 70 ls st M Q := am_go L mt_V_hashVats (fun h => by cases h) k_V_hashVats_70 n 70 ls st M Q o_V_hashVats_70 h
def k_V_hashVats_145 : List am_I := [(.lload_n 3, 1, 0, 0, 0), (.lreturn, 1, 0, 0, 0)]
set_option maxRecDepth 20000 in
theorem o_V_hashVats_145 : am_okB mt_V_hashVats 145 k_V_hashVats_145 = true := by decide +kernel
theorem g_V_hashVats_145 {L : am_S} {n : Nat} {ls st : List Value} {M : am_M} {Q : am_Q} (h : am_B L mt_V_hashVats k_V_hashVats_145 n 145 ls st M Q) : am_R L mt_V_hashVats n 145 ls st M Q := am_go L mt_V_hashVats (fun h => by cases h) k_V_hashVats_145 n 145 ls st M Q o_V_hashVats_145 h
def k_V_hashValves_0 : List am_I := [(.lload_n 1, 1, 0, 0, 0), (.lstore_n 3, 1, 0, 0, 0), (.iconst 0, 1, 0, 0, 0), (.istore 5, 2, 0, 0, 0)]
set_option maxRecDepth 20000 in
theorem o_V_hashValves_0 : am_okB mt_V_hashValves 0 k_V_hashValves_0 = true := by decide +kernel
theorem g_V_hashValves_0 {L : am_S} {n : Nat} {ls st : List Value} {M : am_M} {Q : am_Q} (h : am_B L mt_V_hashValves k_V_hashValves_0 n 0 ls st M Q) : am_R L mt_V_hashValves n 0 ls st M Q := am_go L mt_V_hashValves (fun h => by cases h) k_V_hashValves_0 n 0 ls st M Q o_V_hashValves_0 h
def k_V_hashValves_5 : List am_I := [(.iload 5, 2, 0, 0, 0), (.aload_n 0, 1, 0, 0, 0), (.getfield 12, 3, 3, 0, 163), (.getfield 51, 3, 1, 0, 99), (.bipush 56, 2, 0, 0, 0), (.iaload, 1, 0, 0, 0), (.if_icmp .ge 44, 3, 0, 0, 0), (.iconst 0, 1, 0, 0, 0), (.istore 6, 2, 0, 0, 0)]
set_option maxRecDepth 20000 in
theorem o_V_hashValves_5 : am_okB mt_V_hashValves 5 k_V_hashValves_5 = true := by decide +kernel
theorem g_V_hashValves_5 {L : am_S} {n : Nat} {ls st : List Value} {M : am_M} {Q : am_Q} (h : am_B L mt_V_hashValves k_V_hashValves_5 n 5 ls st M Q) : am_R L mt_V_hashValves n 5 ls st M Q := am_go L mt_V_hashValves (fun h => by cases h) k_V_hashValves_5 n 5 ls st M Q o_V_hashValves_5 h
def k_V_hashValves_23 : List am_I := [(.iload 6, 2, 0, 0, 0), (.bipush 6, 2, 0, 0, 0), (.if_icmp .gt 28, 3, 0, 0, 0), (.ldc2_w 181, 3, 31, 0, 332), (.lload_n 3, 1, 0, 0, 0), (.lmul, 1, 0, 0, 0), (.aload_n 0, 1, 0, 0, 0), (.getfield 12, 3, 3, 0, 163), (.iload 5, 2, 0, 0, 0), (.iload 6, 2, 0, 0, 0), (.invokevirtual 150, 3, 9, 3, 368), (.i2l, 1, 0, 0, 0), (.ladd, 1, 0, 0, 0), (.lstore_n 3, 1, 0, 0, 0), (.iinc 6 1, 3, 0, 0, 0), (.goto (-29), 3, 0, 0, 0)]
set_option maxRecDepth 20000 in
theorem o_V_hashValves_23 : am_okB mt_V_hashValves 23 k_V_hashValves_23 = true := by decide +kernel
theorem g_V_hashValves_23 {L : am_S} {n : Nat} {ls st : List Value} {M : am_M} {Q : am_Q} (h : am_B L mt_V_hashValves k_V_hashValves_23 n 23 ls st M Q) : am_R L mt_V_hashValves n 23 ls st M Q := am_go L mt_V_hashValves (fun h => by cases h) k_V_hashValves_23 n 23 ls st M Q o_V_hashValves_23 h
def k_V_hashValves_55 : List am_I := [(.iinc 5 1, 3, 0, 0, 0), (.goto (-53), 3, 0, 0, 0)]
set_option maxRecDepth 20000 in
theorem o_V_hashValves_55 : am_okB mt_V_hashValves 55 k_V_hashValves_55 = true := by decide +kernel
theorem g_V_hashValves_55 {L : am_S} {n : Nat} {ls st : List Value} {M : am_M} {Q : am_Q} (h : am_B L mt_V_hashValves k_V_hashValves_55 n 55 ls st M Q) : am_R L mt_V_hashValves n 55 ls st M Q := am_go L mt_V_hashValves (fun h => by cases h) k_V_hashValves_55 n 55 ls st M Q o_V_hashValves_55 h
def k_V_hashValves_61 : List am_I := [(.lload_n 3, 1, 0, 0, 0), (.lreturn, 1, 0, 0, 0)]
set_option maxRecDepth 20000 in
theorem o_V_hashValves_61 : am_okB mt_V_hashValves 61 k_V_hashValves_61 = true := by decide +kernel
theorem g_V_hashValves_61 {L : am_S} {n : Nat} {ls st : List Value} {M : am_M} {Q : am_Q} (h : am_B L mt_V_hashValves k_V_hashValves_61 n 61 ls st M Q) : am_R L mt_V_hashValves n 61 ls st M Q := am_go L mt_V_hashValves (fun h => by cases h) k_V_hashValves_61 n 61 ls st M Q o_V_hashValves_61 h
def k_V_hashDyes_0 : List am_I := [(.lload_n 1, 1, 0, 0, 0), (.lstore_n 3, 1, 0, 0, 0), (.iconst 0, 1, 0, 0, 0), (.istore 5, 2, 0, 0, 0)]
set_option maxRecDepth 20000 in
theorem o_V_hashDyes_0 : am_okB mt_V_hashDyes 0 k_V_hashDyes_0 = true := by decide +kernel
theorem g_V_hashDyes_0 {L : am_S} {n : Nat} {ls st : List Value} {M : am_M} {Q : am_Q} (h : am_B L mt_V_hashDyes k_V_hashDyes_0 n 0 ls st M Q) : am_R L mt_V_hashDyes n 0 ls st M Q := am_go L mt_V_hashDyes (fun h => by cases h) k_V_hashDyes_0 n 0 ls st M Q o_V_hashDyes_0 h
def k_V_hashDyes_5 : List am_I := [(.iload 5, 2, 0, 0, 0), (.iconst 3, 1, 0, 0, 0), (.if_icmp .ge 43, 3, 0, 0, 0), (.iconst 0, 1, 0, 0, 0), (.istore 6, 2, 0, 0, 0)]
set_option maxRecDepth 20000 in
theorem o_V_hashDyes_5 : am_okB mt_V_hashDyes 5 k_V_hashDyes_5 = true := by decide +kernel
theorem g_V_hashDyes_5 {L : am_S} {n : Nat} {ls st : List Value} {M : am_M} {Q : am_Q} (h : am_B L mt_V_hashDyes k_V_hashDyes_5 n 5 ls st M Q) : am_R L mt_V_hashDyes n 5 ls st M Q := am_go L mt_V_hashDyes (fun h => by cases h) k_V_hashDyes_5 n 5 ls st M Q o_V_hashDyes_5 h
def k_V_hashDyes_14 : List am_I := [(.iload 6, 2, 0, 0, 0), (.iconst 4, 1, 0, 0, 0), (.if_icmp .gt 28, 3, 0, 0, 0), (.ldc2_w 181, 3, 31, 0, 332), (.lload_n 3, 1, 0, 0, 0), (.lmul, 1, 0, 0, 0), (.aload_n 0, 1, 0, 0, 0), (.getfield 12, 3, 3, 0, 163), (.iload 5, 2, 0, 0, 0), (.iload 6, 2, 0, 0, 0), (.invokevirtual 153, 3, 10, 3, 376), (.i2l, 1, 0, 0, 0), (.ladd, 1, 0, 0, 0), (.lstore_n 3, 1, 0, 0, 0), (.iinc 6 1, 3, 0, 0, 0), (.goto (-28), 3, 0, 0, 0)]
set_option maxRecDepth 20000 in
theorem o_V_hashDyes_14 : am_okB mt_V_hashDyes 14 k_V_hashDyes_14 = true := by decide +kernel
theorem g_V_hashDyes_14 {L : am_S} {n : Nat} {ls st : List Value} {M : am_M} {Q : am_Q} (h : am_B L mt_V_hashDyes k_V_hashDyes_14 n 14 ls st M Q) : am_R L mt_V_hashDyes n 14 ls st M Q := am_go L mt_V_hashDyes (fun h => by cases h) k_V_hashDyes_14 n 14 ls st M Q o_V_hashDyes_14 h
def k_V_hashDyes_45 : List am_I := [(.iinc 5 1, 3, 0, 0, 0), (.goto (-43), 3, 0, 0, 0)]
set_option maxRecDepth 20000 in
theorem o_V_hashDyes_45 : am_okB mt_V_hashDyes 45 k_V_hashDyes_45 = true := by decide +kernel
theorem g_V_hashDyes_45 {L : am_S} {n : Nat} {ls st : List Value} {M : am_M} {Q : am_Q} (h : am_B L mt_V_hashDyes k_V_hashDyes_45 n 45 ls st M Q) : am_R L mt_V_hashDyes n 45 ls st M Q := am_go L mt_V_hashDyes (fun h => by cases h) k_V_hashDyes_45 n 45 ls st M Q o_V_hashDyes_45 h
def k_V_hashDyes_51 : List am_I := [(.lload_n 3, 1, 0, 0, 0), (.lreturn, 1, 0, 0, 0)]
set_option maxRecDepth 20000 in
theorem o_V_hashDyes_51 : am_okB mt_V_hashDyes 51 k_V_hashDyes_51 = true := by decide +kernel
theorem g_V_hashDyes_51 {L : am_S} {n : Nat} {ls st : List Value} {M : am_M} {Q : am_Q} (h : am_B L mt_V_hashDyes k_V_hashDyes_51 n 51 ls st M Q) : am_R L mt_V_hashDyes n 51 ls st M Q := am_go L mt_V_hashDyes (fun h => by cases h) k_V_hashDyes_51 n 51 ls st M Q o_V_hashDyes_51 h
def k_V_bitsOfShare_0 : List am_I := [(.dload_n 0, 1, 0, 0, 0), (.dconst 0, 1, 0, 0, 0), (.dcmp .g, 1, 0, 0, 0), (.ifCond .gt 5, 3, 0, 0, 0), (.lconst 0, 1, 0, 0, 0), (.lreturn, 1, 0, 0, 0)]
set_option maxRecDepth 20000 in
theorem o_V_bitsOfShare_0 : am_okB mt_V_bitsOfShare 0 k_V_bitsOfShare_0 = true := by decide +kernel
theorem g_V_bitsOfShare_0 {L : am_S} {n : Nat} {ls st : List Value} {M : am_M} {Q : am_Q} (h : am_B L mt_V_bitsOfShare k_V_bitsOfShare_0 n 0 ls st M Q) : am_R L mt_V_bitsOfShare n 0 ls st M Q := am_go L mt_V_bitsOfShare (fun h => by cases h) k_V_bitsOfShare_0 n 0 ls st M Q o_V_bitsOfShare_0 h
def k_V_bitsOfShare_8 : List am_I := [(.dload_n 0, 1, 0, 0, 0), (.dstore_n 2, 1, 0, 0, 0), (.ldc2_w 204, 3, 1023, 0, 416), (.lstore 4, 2, 0, 0, 0)]
set_option maxRecDepth 20000 in
theorem o_V_bitsOfShare_8 : am_okB mt_V_bitsOfShare 8 k_V_bitsOfShare_8 = true := by decide +kernel
theorem g_V_bitsOfShare_8 {L : am_S} {n : Nat} {ls st : List Value} {M : am_M} {Q : am_Q} (h : am_B L mt_V_bitsOfShare k_V_bitsOfShare_8 n 8 ls st M Q) : am_R L mt_V_bitsOfShare n 8 ls st M Q := am_go L mt_V_bitsOfShare (fun h => by cases h) k_V_bitsOfShare_8 n 8 ls st M Q o_V_bitsOfShare_8 h
def k_V_bitsOfShare_15 : List am_I := [(.dload_n 2, 1, 0, 0, 0), (.dconst 1, 1, 0, 0, 0), (.dcmp .g, 1, 0, 0, 0), (.ifCond .ge 25, 3, 0, 0, 0), (.lload 4, 2, 0, 0, 0), (.lconst 1, 1, 0, 0, 0), (.lcmp, 1, 0, 0, 0), (.ifCond .le 18, 3, 0, 0, 0), (.dload_n 2, 1, 0, 0, 0), (.ldc2_w 206, 3, 4611686018427387904, 1, 417), (.dmul, 1, 0, 0, 0), (.dstore_n 2, 1, 0, 0, 0), (.lload 4, 2, 0, 0, 0), (.lconst 1, 1, 0, 0, 0), (.lsub, 1, 0, 0, 0), (.lstore 4, 2, 0, 0, 0), (.goto (-25), 3, 0, 0, 0)]
set_option maxRecDepth 20000 in
theorem o_V_bitsOfShare_15 : am_okB mt_V_bitsOfShare 15 k_V_bitsOfShare_15 = true := by decide +kernel
theorem g_V_bitsOfShare_15 {L : am_S} {n : Nat} {ls st : List Value} {M : am_M} {Q : am_Q} (h : am_B L mt_V_bitsOfShare k_V_bitsOfShare_15 n 15 ls st M Q) : am_R L mt_V_bitsOfShare n 15 ls st M Q := am_go L mt_V_bitsOfShare (fun h => by cases h) k_V_bitsOfShare_15 n 15 ls st M Q o_V_bitsOfShare_15 h
def k_V_bitsOfShare_43 : List am_I := [(.lload 4, 2, 0, 0, 0), (.bipush 52, 2, 0, 0, 0), (.lshl, 1, 0, 0, 0), (.dload_n 2, 1, 0, 0, 0), (.dconst 1, 1, 0, 0, 0), (.dsub, 1, 0, 0, 0), (.ldc2_w 208, 3, 4841369599423283200, 1, 418), (.dmul, 1, 0, 0, 0), (.d2l, 1, 0, 0, 0), (.ladd, 1, 0, 0, 0), (.lreturn, 1, 0, 0, 0)]
set_option maxRecDepth 20000 in
theorem o_V_bitsOfShare_43 : am_okB mt_V_bitsOfShare 43 k_V_bitsOfShare_43 = true := by decide +kernel
theorem g_V_bitsOfShare_43 {L : am_S} {n : Nat} {ls st : List Value} {M : am_M} {Q : am_Q} (h : am_B L mt_V_bitsOfShare k_V_bitsOfShare_43 n 43 ls st M Q) : am_R L mt_V_bitsOfShare n 43 ls st M Q := am_go L mt_V_bitsOfShare (fun h => by cases h) k_V_bitsOfShare_43 n 43 ls st M Q o_V_bitsOfShare_43 h
def k_V_numberOf_0 : List am_I := [(.iload_n 1, 1, 0, 0, 0), (.tableswitch 141 0 8 #[51, 59, 70, 81, 89, 97, 108, 119, 130], 51, 0, 0, 0)]
set_option maxRecDepth 20000 in
theorem o_V_numberOf_0 : am_okB mt_V_numberOf 0 k_V_numberOf_0 = true := by decide +kernel
theorem g_V_numberOf_0 {L : am_S} {n : Nat} {ls st : List Value} {M : am_M} {Q : am_Q} (h : am_B L mt_V_numberOf k_V_numberOf_0 n 0 ls st M Q) : am_R L mt_V_numberOf n 0 ls st M Q := am_go L mt_V_numberOf (fun h => by cases h) k_V_numberOf_0 n 0 ls st M Q o_V_numberOf_0 h
def k_V_numberOf_52 : List am_I := [(.aload_n 0, 1, 0, 0, 0), (.getfield 12, 3, 3, 0, 163), (.invokevirtual 139, 3, 4, 1, 337), (.ireturn, 1, 0, 0, 0)]
set_option maxRecDepth 20000 in
theorem o_V_numberOf_52 : am_okB mt_V_numberOf 52 k_V_numberOf_52 = true := by decide +kernel
theorem g_V_numberOf_52 {L : am_S} {n : Nat} {ls st : List Value} {M : am_M} {Q : am_Q} (h : am_B L mt_V_numberOf k_V_numberOf_52 n 52 ls st M Q) : am_R L mt_V_numberOf n 52 ls st M Q := am_go L mt_V_numberOf (fun h => by cases h) k_V_numberOf_52 n 52 ls st M Q o_V_numberOf_52 h
def k_V_numberOf_60 : List am_I := [(.aload_n 0, 1, 0, 0, 0), (.getfield 12, 3, 3, 0, 163), (.getfield 51, 3, 1, 0, 99), (.bipush 52, 2, 0, 0, 0), (.iaload, 1, 0, 0, 0), (.ireturn, 1, 0, 0, 0)]
set_option maxRecDepth 20000 in
theorem o_V_numberOf_60 : am_okB mt_V_numberOf 60 k_V_numberOf_60 = true := by decide +kernel
theorem g_V_numberOf_60 {L : am_S} {n : Nat} {ls st : List Value} {M : am_M} {Q : am_Q} (h : am_B L mt_V_numberOf k_V_numberOf_60 n 60 ls st M Q) : am_R L mt_V_numberOf n 60 ls st M Q := am_go L mt_V_numberOf (fun h => by cases h) k_V_numberOf_60 n 60 ls st M Q o_V_numberOf_60 h
def k_V_numberOf_71 : List am_I := [(.aload_n 0, 1, 0, 0, 0), (.getfield 12, 3, 3, 0, 163), (.getfield 51, 3, 1, 0, 99), (.bipush 56, 2, 0, 0, 0), (.iaload, 1, 0, 0, 0), (.ireturn, 1, 0, 0, 0)]
set_option maxRecDepth 20000 in
theorem o_V_numberOf_71 : am_okB mt_V_numberOf 71 k_V_numberOf_71 = true := by decide +kernel
theorem g_V_numberOf_71 {L : am_S} {n : Nat} {ls st : List Value} {M : am_M} {Q : am_Q} (h : am_B L mt_V_numberOf k_V_numberOf_71 n 71 ls st M Q) : am_R L mt_V_numberOf n 71 ls st M Q := am_go L mt_V_numberOf (fun h => by cases h) k_V_numberOf_71 n 71 ls st M Q o_V_numberOf_71 h
def k_V_numberOf_82 : List am_I := [(.aload_n 0, 1, 0, 0, 0), (.getfield 12, 3, 3, 0, 163), (.invokevirtual 210, 3, 6, 1, 338), (.ireturn, 1, 0, 0, 0)]
set_option maxRecDepth 20000 in
theorem o_V_numberOf_82 : am_okB mt_V_numberOf 82 k_V_numberOf_82 = true := by decide +kernel
theorem g_V_numberOf_82 {L : am_S} {n : Nat} {ls st : List Value} {M : am_M} {Q : am_Q} (h : am_B L mt_V_numberOf k_V_numberOf_82 n 82 ls st M Q) : am_R L mt_V_numberOf n 82 ls st M Q := am_go L mt_V_numberOf (fun h => by cases h) k_V_numberOf_82 n 82 ls st M Q o_V_numberOf_82 h
def k_V_numberOf_90 : List am_I := [(.aload_n 0, 1, 0, 0, 0), (.getfield 12, 3, 3, 0, 163), (.invokevirtual 213, 3, 7, 1, 348), (.ireturn, 1, 0, 0, 0)]
set_option maxRecDepth 20000 in
theorem o_V_numberOf_90 : am_okB mt_V_numberOf 90 k_V_numberOf_90 = true := by decide +kernel
theorem g_V_numberOf_90 {L : am_S} {n : Nat} {ls st : List Value} {M : am_M} {Q : am_Q} (h : am_B L mt_V_numberOf k_V_numberOf_90 n 90 ls st M Q) : am_R L mt_V_numberOf n 90 ls st M Q := am_go L mt_V_numberOf (fun h => by cases h) k_V_numberOf_90 n 90 ls st M Q o_V_numberOf_90 h
def k_V_numberOf_98 : List am_I := [(.aload_n 0, 1, 0, 0, 0), (.getfield 12, 3, 3, 0, 163), (.getfield 51, 3, 1, 0, 99), (.bipush 54, 2, 0, 0, 0), (.iaload, 1, 0, 0, 0), (.ireturn, 1, 0, 0, 0)]
set_option maxRecDepth 20000 in
theorem o_V_numberOf_98 : am_okB mt_V_numberOf 98 k_V_numberOf_98 = true := by decide +kernel
theorem g_V_numberOf_98 {L : am_S} {n : Nat} {ls st : List Value} {M : am_M} {Q : am_Q} (h : am_B L mt_V_numberOf k_V_numberOf_98 n 98 ls st M Q) : am_R L mt_V_numberOf n 98 ls st M Q := am_go L mt_V_numberOf (fun h => by cases h) k_V_numberOf_98 n 98 ls st M Q o_V_numberOf_98 h
def k_V_numberOf_109 : List am_I := [(.aload_n 0, 1, 0, 0, 0), (.getfield 12, 3, 3, 0, 163), (.getfield 51, 3, 1, 0, 99), (.bipush 53, 2, 0, 0, 0), (.iaload, 1, 0, 0, 0), (.ireturn, 1, 0, 0, 0)]
set_option maxRecDepth 20000 in
theorem o_V_numberOf_109 : am_okB mt_V_numberOf 109 k_V_numberOf_109 = true := by decide +kernel
theorem g_V_numberOf_109 {L : am_S} {n : Nat} {ls st : List Value} {M : am_M} {Q : am_Q} (h : am_B L mt_V_numberOf k_V_numberOf_109 n 109 ls st M Q) : am_R L mt_V_numberOf n 109 ls st M Q := am_go L mt_V_numberOf (fun h => by cases h) k_V_numberOf_109 n 109 ls st M Q o_V_numberOf_109 h
def k_V_numberOf_120 : List am_I := [(.aload_n 0, 1, 0, 0, 0), (.getfield 12, 3, 3, 0, 163), (.getfield 51, 3, 1, 0, 99), (.bipush 55, 2, 0, 0, 0), (.iaload, 1, 0, 0, 0), (.ireturn, 1, 0, 0, 0)]
set_option maxRecDepth 20000 in
theorem o_V_numberOf_120 : am_okB mt_V_numberOf 120 k_V_numberOf_120 = true := by decide +kernel
theorem g_V_numberOf_120 {L : am_S} {n : Nat} {ls st : List Value} {M : am_M} {Q : am_Q} (h : am_B L mt_V_numberOf k_V_numberOf_120 n 120 ls st M Q) : am_R L mt_V_numberOf n 120 ls st M Q := am_go L mt_V_numberOf (fun h => by cases h) k_V_numberOf_120 n 120 ls st M Q o_V_numberOf_120 h
def k_V_numberOf_131 : List am_I := [(.aload_n 0, 1, 0, 0, 0), (.getfield 12, 3, 3, 0, 163), (.getfield 51, 3, 1, 0, 99), (.bipush 51, 2, 0, 0, 0), (.iaload, 1, 0, 0, 0), (.ireturn, 1, 0, 0, 0)]
set_option maxRecDepth 20000 in
theorem o_V_numberOf_131 : am_okB mt_V_numberOf 131 k_V_numberOf_131 = true := by decide +kernel
theorem g_V_numberOf_131 {L : am_S} {n : Nat} {ls st : List Value} {M : am_M} {Q : am_Q} (h : am_B L mt_V_numberOf k_V_numberOf_131 n 131 ls st M Q) : am_R L mt_V_numberOf n 131 ls st M Q := am_go L mt_V_numberOf (fun h => by cases h) k_V_numberOf_131 n 131 ls st M Q o_V_numberOf_131 h
def k_V_numberOf_142 : List am_I := [(.aload_n 0, 1, 0, 0, 0), (.getfield 47, 3, 3, 8, 171), (.ireturn, 1, 0, 0, 0)]
set_option maxRecDepth 20000 in
theorem o_V_numberOf_142 : am_okB mt_V_numberOf 142 k_V_numberOf_142 = true := by decide +kernel
theorem g_V_numberOf_142 {L : am_S} {n : Nat} {ls st : List Value} {M : am_M} {Q : am_Q} (h : am_B L mt_V_numberOf k_V_numberOf_142 n 142 ls st M Q) : am_R L mt_V_numberOf n 142 ls st M Q := am_go L mt_V_numberOf (fun h => by cases h) k_V_numberOf_142 n 142 ls st M Q o_V_numberOf_142 h
def k_V_findEmptyHours_0 : List am_I := [(.aload_n 0, 1, 0, 0, 0), (.getfield 16, 3, 3, 1, 164), (.aload_n 0, 1, 0, 0, 0), (.getfield 12, 3, 3, 0, 163), (.invokevirtual 159, 3, 3, 2, 274), (.iconst 0, 1, 0, 0, 0), (.istore_n 1, 1, 0, 0, 0)]
set_option maxRecDepth 20000 in
theorem o_V_findEmptyHours_0 : am_okB mt_V_findEmptyHours 0 k_V_findEmptyHours_0 = true := by decide +kernel
theorem g_V_findEmptyHours_0 {L : am_S} {n : Nat} {ls st : List Value} {M : am_M} {Q : am_Q} (h : am_B L mt_V_findEmptyHours k_V_findEmptyHours_0 n 0 ls st M Q) : am_R L mt_V_findEmptyHours n 0 ls st M Q := am_go L mt_V_findEmptyHours (fun h => by cases h) k_V_findEmptyHours_0 n 0 ls st M Q o_V_findEmptyHours_0 h
def k_V_findEmptyHours_13 : List am_I := [(.iload_n 1, 1, 0, 0, 0), (.iconst 5, 1, 0, 0, 0), (.if_icmp .ge 16, 3, 0, 0, 0), (.aload_n 0, 1, 0, 0, 0), (.getfield 33, 3, 3, 4, 167), (.iload_n 1, 1, 0, 0, 0), (.iconst (-1), 1, 0, 0, 0), (.iastore, 1, 0, 0, 0), (.iinc 1 1, 3, 0, 0, 0), (.goto (-15), 3, 0, 0, 0)]
set_option maxRecDepth 20000 in
theorem o_V_findEmptyHours_13 : am_okB mt_V_findEmptyHours 13 k_V_findEmptyHours_13 = true := by decide +kernel
theorem g_V_findEmptyHours_13 {L : am_S} {n : Nat} {ls st : List Value} {M : am_M} {Q : am_Q} (h : am_B L mt_V_findEmptyHours k_V_findEmptyHours_13 n 13 ls st M Q) : am_R L mt_V_findEmptyHours n 13 ls st M Q := am_go L mt_V_findEmptyHours (fun h => by cases h) k_V_findEmptyHours_13 n 13 ls st M Q o_V_findEmptyHours_13 h
def k_V_findEmptyHours_31 : List am_I := [(.iconst 0, 1, 0, 0, 0), (.istore_n 1, 1, 0, 0, 0)]
set_option maxRecDepth 20000 in
theorem o_V_findEmptyHours_31 : am_okB mt_V_findEmptyHours 31 k_V_findEmptyHours_31 = true := by decide +kernel
theorem g_V_findEmptyHours_31 {L : am_S} {n : Nat} {ls st : List Value} {M : am_M} {Q : am_Q} (h : am_B L mt_V_findEmptyHours k_V_findEmptyHours_31 n 31 ls st M Q) : am_R L mt_V_findEmptyHours n 31 ls st M Q := am_go L mt_V_findEmptyHours (fun h => by cases h) k_V_findEmptyHours_31 n 31 ls st M Q o_V_findEmptyHours_31 h
def k_V_findEmptyHours_33 : List am_I := [(.iload_n 1, 1, 0, 0, 0), (.sipush 240, 3, 0, 0, 0), (.if_icmp .gt 66, 3, 0, 0, 0), (.iload_n 1, 1, 0, 0, 0), (.ifCond .le 11, 3, 0, 0, 0), (.aload_n 0, 1, 0, 0, 0), (.getfield 16, 3, 3, 1, 164), (.iconst 1, 1, 0, 0, 0), (.invokevirtual 101, 3, 14, 2, 285)]
set_option maxRecDepth 20000 in
theorem o_V_findEmptyHours_33 : am_okB mt_V_findEmptyHours 33 k_V_findEmptyHours_33 = true := by decide +kernel
theorem g_V_findEmptyHours_33 {L : am_S} {n : Nat} {ls st : List Value} {M : am_M} {Q : am_Q} (h : am_B L mt_V_findEmptyHours k_V_findEmptyHours_33 n 33 ls st M Q) : am_R L mt_V_findEmptyHours n 33 ls st M Q := am_go L mt_V_findEmptyHours (fun h => by cases h) k_V_findEmptyHours_33 n 33 ls st M Q o_V_findEmptyHours_33 h
def k_V_findEmptyHours_52 : List am_I := [(.iconst 0, 1, 0, 0, 0), (.istore_n 2, 1, 0, 0, 0)]
set_option maxRecDepth 20000 in
theorem o_V_findEmptyHours_52 : am_okB mt_V_findEmptyHours 52 k_V_findEmptyHours_52 = true := by decide +kernel
theorem g_V_findEmptyHours_52 {L : am_S} {n : Nat} {ls st : List Value} {M : am_M} {Q : am_Q} (h : am_B L mt_V_findEmptyHours k_V_findEmptyHours_52 n 52 ls st M Q) : am_R L mt_V_findEmptyHours n 52 ls st M Q := am_go L mt_V_findEmptyHours (fun h => by cases h) k_V_findEmptyHours_52 n 52 ls st M Q o_V_findEmptyHours_52 h
def k_V_findEmptyHours_54 : List am_I := [(.iload_n 2, 1, 0, 0, 0), (.iconst 5, 1, 0, 0, 0), (.if_icmp .ge 41, 3, 0, 0, 0), (.aload_n 0, 1, 0, 0, 0), (.getfield 33, 3, 3, 4, 167), (.iload_n 2, 1, 0, 0, 0), (.iaload, 1, 0, 0, 0), (.iconst (-1), 1, 0, 0, 0), (.if_icmp .ne 25, 3, 0, 0, 0), (.aload_n 0, 1, 0, 0, 0), (.getfield 16, 3, 3, 1, 164), (.getfield 51, 3, 1, 0, 99), (.bipush 10, 2, 0, 0, 0), (.iload_n 2, 1, 0, 0, 0), (.iadd, 1, 0, 0, 0), (.iaload, 1, 0, 0, 0), (.ifCond .ne 10, 3, 0, 0, 0), (.aload_n 0, 1, 0, 0, 0), (.getfield 33, 3, 3, 4, 167), (.iload_n 2, 1, 0, 0, 0), (.iload_n 1, 1, 0, 0, 0), (.iastore, 1, 0, 0, 0)]
set_option maxRecDepth 20000 in
theorem o_V_findEmptyHours_54 : am_okB mt_V_findEmptyHours 54 k_V_findEmptyHours_54 = true := by decide +kernel
theorem g_V_findEmptyHours_54 {L : am_S} {n : Nat} {ls st : List Value} {M : am_M} {Q : am_Q} (h : am_B L mt_V_findEmptyHours k_V_findEmptyHours_54 n 54 ls st M Q) : am_R L mt_V_findEmptyHours n 54 ls st M Q := am_go L mt_V_findEmptyHours (fun h => by cases h) k_V_findEmptyHours_54 n 54 ls st M Q o_V_findEmptyHours_54 h
def k_V_findEmptyHours_91 : List am_I := [(.iinc 2 1, 3, 0, 0, 0), (.goto (-40), 3, 0, 0, 0)]
set_option maxRecDepth 20000 in
theorem o_V_findEmptyHours_91 : am_okB mt_V_findEmptyHours 91 k_V_findEmptyHours_91 = true := by decide +kernel
theorem g_V_findEmptyHours_91 {L : am_S} {n : Nat} {ls st : List Value} {M : am_M} {Q : am_Q} (h : am_B L mt_V_findEmptyHours k_V_findEmptyHours_91 n 91 ls st M Q) : am_R L mt_V_findEmptyHours n 91 ls st M Q := am_go L mt_V_findEmptyHours (fun h => by cases h) k_V_findEmptyHours_91 n 91 ls st M Q o_V_findEmptyHours_91 h
def k_V_findEmptyHours_97 : List am_I := [(.iinc 1 1, 3, 0, 0, 0), (.goto (-67), 3, 0, 0, 0)]
set_option maxRecDepth 20000 in
theorem o_V_findEmptyHours_97 : am_okB mt_V_findEmptyHours 97 k_V_findEmptyHours_97 = true := by decide +kernel
theorem g_V_findEmptyHours_97 {L : am_S} {n : Nat} {ls st : List Value} {M : am_M} {Q : am_Q} (h : am_B L mt_V_findEmptyHours k_V_findEmptyHours_97 n 97 ls st M Q) : am_R L mt_V_findEmptyHours n 97 ls st M Q := am_go L mt_V_findEmptyHours (fun h => by cases h) k_V_findEmptyHours_97 n 97 ls st M Q o_V_findEmptyHours_97 h
def k_V_findEmptyHours_103 : List am_I := [(.return_, 1, 0, 0, 0)]
set_option maxRecDepth 20000 in
theorem o_V_findEmptyHours_103 : am_okB mt_V_findEmptyHours 103 k_V_findEmptyHours_103 = true := by decide +kernel
theorem g_V_findEmptyHours_103 {L : am_S} {n : Nat} {ls st : List Value} {M : am_M} {Q : am_Q} (h : am_B L mt_V_findEmptyHours k_V_findEmptyHours_103 n 103 ls st M Q) : am_R L mt_V_findEmptyHours n 103 ls st M Q := am_go L mt_V_findEmptyHours (fun h => by cases h) k_V_findEmptyHours_103 n 103 ls st M Q o_V_findEmptyHours_103 h
def k_V_saveState_0 : List am_I := [(.aload_n 0, 1, 0, 0, 0), (.getfield 47, 3, 3, 8, 171), (.ifCond .lt 12, 3, 0, 0, 0), (.aload_n 0, 1, 0, 0, 0), (.getfield 47, 3, 3, 8, 171), (.bipush 6, 2, 0, 0, 0), (.if_icmp .lt 29, 3, 0, 0, 0)]
set_option maxRecDepth 20000 in
theorem o_V_saveState_0 : am_okB mt_V_saveState 0 k_V_saveState_0 = true := by decide +kernel
theorem g_V_saveState_0 {L : am_S} {n : Nat} {ls st : List Value} {M : am_M} {Q : am_Q} (h : am_B L mt_V_saveState k_V_saveState_0 n 0 ls st M Q) : am_R L mt_V_saveState n 0 ls st M Q := am_go L mt_V_saveState (fun h => by cases h) k_V_saveState_0 n 0 ls st M Q o_V_saveState_0 h
def k_V_saveState_16 : List am_I := [(.aload_n 0, 1, 0, 0, 0), (.iconst 5, 1, 0, 0, 0), (.putfield 47, 3, 3, 8, 171), (.aload_n 0, 1, 0, 0, 0), (.getfield 44, 3, 3, 7, 170), (.bipush 105, 2, 0, 0, 0), (.aload_n 0, 1, 0, 0, 0), (.getfield 44, 3, 3, 7, 170), (.iconst 0, 1, 0, 0, 0), (.aload_n 0, 1, 0, 0, 0), (.getfield 47, 3, 3, 8, 171), (.bipush 105, 2, 0, 0, 0), (.imul, 1, 0, 0, 0), (.invokestatic 133, 3, 202, 5, 521)]
set_option maxRecDepth 20000 in
theorem o_V_saveState_16 : am_okB mt_V_saveState 16 k_V_saveState_16 = true := by decide +kernel
theorem g_V_saveState_16 {L : am_S} {n : Nat} {ls st : List Value} {M : am_M} {Q : am_Q} (h : am_B L mt_V_saveState k_V_saveState_16 n 16 ls st M Q) : am_R L mt_V_saveState n 16 ls st M Q := am_go L mt_V_saveState (fun h => by cases h) k_V_saveState_16 n 16 ls st M Q o_V_saveState_16 h
def k_V_saveState_42 : List am_I := [(.aload_n 0, 1, 0, 0, 0), (.getfield 12, 3, 3, 0, 163), (.getfield 51, 3, 1, 0, 99), (.iconst 0, 1, 0, 0, 0), (.aload_n 0, 1, 0, 0, 0), (.getfield 44, 3, 3, 7, 170), (.aload_n 0, 1, 0, 0, 0), (.getfield 47, 3, 3, 8, 171), (.bipush 105, 2, 0, 0, 0), (.imul, 1, 0, 0, 0), (.bipush 105, 2, 0, 0, 0), (.invokestatic 133, 3, 202, 5, 521), (.aload_n 0, 1, 0, 0, 0), (.dup, 1, 0, 0, 0), (.getfield 47, 3, 3, 8, 171), (.iconst 1, 1, 0, 0, 0), (.iadd, 1, 0, 0, 0), (.putfield 47, 3, 3, 8, 171), (.return_, 1, 0, 0, 0)]
set_option maxRecDepth 20000 in
theorem o_V_saveState_42 : am_okB mt_V_saveState 42 k_V_saveState_42 = true := by decide +kernel
theorem g_V_saveState_42 {L : am_S} {n : Nat} {ls st : List Value} {M : am_M} {Q : am_Q} (h : am_B L mt_V_saveState k_V_saveState_42 n 42 ls st M Q) : am_R L mt_V_saveState n 42 ls st M Q := am_go L mt_V_saveState (fun h => by cases h) k_V_saveState_42 n 42 ls st M Q o_V_saveState_42 h
def k_V_refuse_0 : List am_I := [(.aload_n 0, 1, 0, 0, 0), (.getfield 12, 3, 3, 0, 163), (.getfield 51, 3, 1, 0, 99), (.bipush 55, 2, 0, 0, 0), (.dup2, 1, 0, 0, 0), (.iaload, 1, 0, 0, 0), (.iconst 1, 1, 0, 0, 0), (.iadd, 1, 0, 0, 0), (.iastore, 1, 0, 0, 0), (.iconst (-1), 1, 0, 0, 0), (.ireturn, 1, 0, 0, 0)]
set_option maxRecDepth 20000 in
theorem o_V_refuse_0 : am_okB mt_V_refuse 0 k_V_refuse_0 = true := by decide +kernel
theorem g_V_refuse_0 {L : am_S} {n : Nat} {ls st : List Value} {M : am_M} {Q : am_Q} (h : am_B L mt_V_refuse k_V_refuse_0 n 0 ls st M Q) : am_R L mt_V_refuse n 0 ls st M Q := am_go L mt_V_refuse (fun h => by cases h) k_V_refuse_0 n 0 ls st M Q o_V_refuse_0 h
def k_V_requireVat_0 : List am_I := [(.iload_n 0, 1, 0, 0, 0), (.ifCond .lt 8, 3, 0, 0, 0), (.iload_n 0, 1, 0, 0, 0), (.iconst 5, 1, 0, 0, 0), (.if_icmp .lt 13, 3, 0, 0, 0)]
set_option maxRecDepth 20000 in
theorem o_V_requireVat_0 : am_okB mt_V_requireVat 0 k_V_requireVat_0 = true := by decide +kernel
theorem g_V_requireVat_0 {L : am_S} {n : Nat} {ls st : List Value} {M : am_M} {Q : am_Q} (h : am_B L mt_V_requireVat k_V_requireVat_0 n 0 ls st M Q) : am_R L mt_V_requireVat n 0 ls st M Q := am_go L mt_V_requireVat (fun h => by cases h) k_V_requireVat_0 n 0 ls st M Q o_V_requireVat_0 h
def k_V_requireVat_9 : List am_I := [(.new 216, 3, 0, 218, 220)]
set_option maxRecDepth 20000 in
theorem o_V_requireVat_9 : am_okB mt_V_requireVat 9 k_V_requireVat_9 = true := by decide +kernel
theorem g_V_requireVat_9 {L : am_S} {n : Nat} {ls st : List Value} {M : am_M} {Q : am_Q} (h : am_B L mt_V_requireVat k_V_requireVat_9 n 9 ls st M Q) : am_R L mt_V_requireVat n 9 ls st M Q := am_go L mt_V_requireVat (fun h => by cases h) k_V_requireVat_9 n 9 ls st M Q o_V_requireVat_9 h
def k_V_requireVat_19 : List am_I := [(.return_, 1, 0, 0, 0)]
set_option maxRecDepth 20000 in
theorem o_V_requireVat_19 : am_okB mt_V_requireVat 19 k_V_requireVat_19 = true := by decide +kernel
theorem g_V_requireVat_19 {L : am_S} {n : Nat} {ls st : List Value} {M : am_M} {Q : am_Q} (h : am_B L mt_V_requireVat k_V_requireVat_19 n 19 ls st M Q) : am_R L mt_V_requireVat n 19 ls st M Q := am_go L mt_V_requireVat (fun h => by cases h) k_V_requireVat_19 n 19 ls st M Q o_V_requireVat_19 h
def k_V_requireDye_0 : List am_I := [(.iload_n 0, 1, 0, 0, 0), (.ifCond .lt 8, 3, 0, 0, 0), (.iload_n 0, 1, 0, 0, 0), (.iconst 3, 1, 0, 0, 0), (.if_icmp .lt 13, 3, 0, 0, 0)]
set_option maxRecDepth 20000 in
theorem o_V_requireDye_0 : am_okB mt_V_requireDye 0 k_V_requireDye_0 = true := by decide +kernel
theorem g_V_requireDye_0 {L : am_S} {n : Nat} {ls st : List Value} {M : am_M} {Q : am_Q} (h : am_B L mt_V_requireDye k_V_requireDye_0 n 0 ls st M Q) : am_R L mt_V_requireDye n 0 ls st M Q := am_go L mt_V_requireDye (fun h => by cases h) k_V_requireDye_0 n 0 ls st M Q o_V_requireDye_0 h
def k_V_requireDye_9 : List am_I := [(.new 216, 3, 0, 221, 220)]
set_option maxRecDepth 20000 in
theorem o_V_requireDye_9 : am_okB mt_V_requireDye 9 k_V_requireDye_9 = true := by decide +kernel
theorem g_V_requireDye_9 {L : am_S} {n : Nat} {ls st : List Value} {M : am_M} {Q : am_Q} (h : am_B L mt_V_requireDye k_V_requireDye_9 n 9 ls st M Q) : am_R L mt_V_requireDye n 9 ls st M Q := am_go L mt_V_requireDye (fun h => by cases h) k_V_requireDye_9 n 9 ls st M Q o_V_requireDye_9 h
def k_V_requireDye_19 : List am_I := [(.return_, 1, 0, 0, 0)]
set_option maxRecDepth 20000 in
theorem o_V_requireDye_19 : am_okB mt_V_requireDye 19 k_V_requireDye_19 = true := by decide +kernel
theorem g_V_requireDye_19 {L : am_S} {n : Nat} {ls st : List Value} {M : am_M} {Q : am_Q} (h : am_B L mt_V_requireDye k_V_requireDye_19 n 19 ls st M Q) : am_R L mt_V_requireDye n 19 ls st M Q := am_go L mt_V_requireDye (fun h => by cases h) k_V_requireDye_19 n 19 ls st M Q o_V_requireDye_19 h
def k_V_requireValve_0 : List am_I := [(.iload_n 1, 1, 0, 0, 0), (.ifCond .lt 23, 3, 0, 0, 0), (.iload_n 1, 1, 0, 0, 0), (.aload_n 0, 1, 0, 0, 0), (.getfield 12, 3, 3, 0, 163), (.getfield 51, 3, 1, 0, 99), (.bipush 56, 2, 0, 0, 0), (.iaload, 1, 0, 0, 0), (.if_icmp .ge 9, 3, 0, 0, 0), (.iload_n 1, 1, 0, 0, 0), (.bipush 8, 2, 0, 0, 0), (.if_icmp .lt 13, 3, 0, 0, 0)]
set_option maxRecDepth 20000 in
theorem o_V_requireValve_0 : am_okB mt_V_requireValve 0 k_V_requireValve_0 = true := by decide +kernel
theorem g_V_requireValve_0 {L : am_S} {n : Nat} {ls st : List Value} {M : am_M} {Q : am_Q} (h : am_B L mt_V_requireValve k_V_requireValve_0 n 0 ls st M Q) : am_R L mt_V_requireValve n 0 ls st M Q := am_go L mt_V_requireValve (fun h => by cases h) k_V_requireValve_0 n 0 ls st M Q o_V_requireValve_0 h
def k_V_requireValve_24 : List am_I := [(.new 216, 3, 0, 223, 220)]
set_option maxRecDepth 20000 in
theorem o_V_requireValve_24 : am_okB mt_V_requireValve 24 k_V_requireValve_24 = true := by decide +kernel
theorem g_V_requireValve_24 {L : am_S} {n : Nat} {ls st : List Value} {M : am_M} {Q : am_Q} (h : am_B L mt_V_requireValve k_V_requireValve_24 n 24 ls st M Q) : am_R L mt_V_requireValve n 24 ls st M Q := am_go L mt_V_requireValve (fun h => by cases h) k_V_requireValve_24 n 24 ls st M Q o_V_requireValve_24 h
def k_V_requireValve_34 : List am_I := [(.return_, 1, 0, 0, 0)]
set_option maxRecDepth 20000 in
theorem o_V_requireValve_34 : am_okB mt_V_requireValve 34 k_V_requireValve_34 = true := by decide +kernel
theorem g_V_requireValve_34 {L : am_S} {n : Nat} {ls st : List Value} {M : am_M} {Q : am_Q} (h : am_B L mt_V_requireValve k_V_requireValve_34 n 34 ls st M Q) : am_R L mt_V_requireValve n 34 ls st M Q := am_go L mt_V_requireValve (fun h => by cases h) k_V_requireValve_34 n 34 ls st M Q o_V_requireValve_34 h
def k_V_requireRange_0 : List am_I := [(.iload_n 0, 1, 0, 0, 0), (.iload_n 1, 1, 0, 0, 0), (.if_icmp .lt 8, 3, 0, 0, 0), (.iload_n 0, 1, 0, 0, 0), (.iload_n 2, 1, 0, 0, 0), (.if_icmp .le 13, 3, 0, 0, 0)]
set_option maxRecDepth 20000 in
theorem o_V_requireRange_0 : am_okB mt_V_requireRange 0 k_V_requireRange_0 = true := by decide +kernel
theorem g_V_requireRange_0 {L : am_S} {n : Nat} {ls st : List Value} {M : am_M} {Q : am_Q} (h : am_B L mt_V_requireRange k_V_requireRange_0 n 0 ls st M Q) : am_R L mt_V_requireRange n 0 ls st M Q := am_go L mt_V_requireRange (fun h => by cases h) k_V_requireRange_0 n 0 ls st M Q o_V_requireRange_0 h
def k_V_requireRange_10 : List am_I := [(.new 84, 3, 1, 225, 88)]
set_option maxRecDepth 20000 in
theorem o_V_requireRange_10 : am_okB mt_V_requireRange 10 k_V_requireRange_10 = true := by decide +kernel
theorem g_V_requireRange_10 {L : am_S} {n : Nat} {ls st : List Value} {M : am_M} {Q : am_Q} (h : am_B L mt_V_requireRange k_V_requireRange_10 n 10 ls st M Q) : am_R L mt_V_requireRange n 10 ls st M Q := am_go L mt_V_requireRange (fun h => by cases h) k_V_requireRange_10 n 10 ls st M Q o_V_requireRange_10 h
def k_V_requireRange_20 : List am_I := [(.return_, 1, 0, 0, 0)]
set_option maxRecDepth 20000 in
theorem o_V_requireRange_20 : am_okB mt_V_requireRange 20 k_V_requireRange_20 = true := by decide +kernel
theorem g_V_requireRange_20 {L : am_S} {n : Nat} {ls st : List Value} {M : am_M} {Q : am_Q} (h : am_B L mt_V_requireRange k_V_requireRange_20 n 20 ls st M Q) : am_R L mt_V_requireRange n 20 ls st M Q := am_go L mt_V_requireRange (fun h => by cases h) k_V_requireRange_20 n 20 ls st M Q o_V_requireRange_20 h
