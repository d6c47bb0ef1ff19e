/-! DyeVats: blocks of code, written by wip/p29/mk15.py out of what TURN printed of the program -/
def k_V_fill_0 : List am_I := [(.iload_n 1, 1, 0, 0, 0), (.invokestatic 54, 3, 50, 1, 137), (.iload_n 2, 1, 0, 0, 0), (.iconst 1, 1, 0, 0, 0), (.sipush 2000, 3, 0, 0, 0), (.invokestatic 58, 3, 53, 3, 261), (.aload_n 0, 1, 0, 0, 0), (.invokevirtual 62, 3, 48, 1, 344), (.iload_n 2, 1, 0, 0, 0), (.aload_n 0, 1, 0, 0, 0), (.getfield 12, 3, 3, 0, 104), (.getfield 51, 3, 1, 0, 44), (.iconst 0, 1, 0, 0, 0), (.iload_n 1, 1, 0, 0, 0), (.iadd, 1, 0, 0, 0), (.iaload, 1, 0, 0, 0), (.aload_n 0, 1, 0, 0, 0), (.getfield 12, 3, 3, 0, 104), (.getfield 51, 3, 1, 0, 44), (.bipush 10, 2, 0, 0, 0), (.iload_n 1, 1, 0, 0, 0), (.iadd, 1, 0, 0, 0), (.iaload, 1, 0, 0, 0), (.isub, 1, 0, 0, 0), (.if_icmp .le 8, 3, 0, 0, 0), (.aload_n 0, 1, 0, 0, 0), (.invokevirtual 65, 3, 49, 1, 440), (.ireturn, 1, 0, 0, 0)]
set_option maxRecDepth 20000 in
theorem o_V_fill_0 : am_okB mt_V_fill 0 k_V_fill_0 = true := by decide +kernel
theorem g_V_fill_0 {L : am_S} {n : Nat} {ls st : List Value} {M : am_M} {Q : am_Q} (h : am_B L mt_V_fill k_V_fill_0 n 0 ls st M Q) : am_R L mt_V_fill n 0 ls st M Q := am_go L mt_V_fill (fun h => by cases h) k_V_fill_0 n 0 ls st M Q o_V_fill_0 h
def k_V_fill_49 : List am_I := [(.aload_n 0, 1, 0, 0, 0), (.getfield 12, 3, 3, 0, 104), (.getfield 51, 3, 1, 0, 44), (.bipush 10, 2, 0, 0, 0), (.iload_n 1, 1, 0, 0, 0), (.iadd, 1, 0, 0, 0), (.dup2, 1, 0, 0, 0), (.iaload, 1, 0, 0, 0), (.iload_n 2, 1, 0, 0, 0), (.iadd, 1, 0, 0, 0), (.iastore, 1, 0, 0, 0), (.aload_n 0, 1, 0, 0, 0), (.getfield 12, 3, 3, 0, 104), (.getfield 51, 3, 1, 0, 44), (.bipush 53, 2, 0, 0, 0), (.dup2, 1, 0, 0, 0), (.iaload, 1, 0, 0, 0), (.iload_n 2, 1, 0, 0, 0), (.iadd, 1, 0, 0, 0), (.iastore, 1, 0, 0, 0), (.aload_n 0, 1, 0, 0, 0), (.getfield 12, 3, 3, 0, 104), (.getfield 51, 3, 1, 0, 44), (.bipush 10, 2, 0, 0, 0), (.iload_n 1, 1, 0, 0, 0), (.iadd, 1, 0, 0, 0), (.iaload, 1, 0, 0, 0), (.ireturn, 1, 0, 0, 0)]
set_option maxRecDepth 20000 in
theorem o_V_fill_49 : am_okB mt_V_fill 49 k_V_fill_49 = true := by decide +kernel
theorem g_V_fill_49 {L : am_S} {n : Nat} {ls st : List Value} {M : am_M} {Q : am_Q} (h : am_B L mt_V_fill k_V_fill_49 n 49 ls st M Q) : am_R L mt_V_fill n 49 ls st M Q := am_go L mt_V_fill (fun h => by cases h) k_V_fill_49 n 49 ls st M Q o_V_fill_49 h
def k_V_dye_0 : List am_I := [(.iload_n 1, 1, 0, 0, 0), (.invokestatic 54, 3, 50, 1, 137), (.iload_n 2, 1, 0, 0, 0), (.invokestatic 69, 3, 51, 1, 413), (.iload_n 3, 1, 0, 0, 0), (.iconst 1, 1, 0, 0, 0), (.sipush 999, 3, 0, 0, 0), (.invokestatic 58, 3, 53, 3, 261), (.aload_n 0, 1, 0, 0, 0), (.getfield 12, 3, 3, 0, 104), (.getfield 51, 3, 1, 0, 44), (.bipush 45, 2, 0, 0, 0), (.iload_n 2, 1, 0, 0, 0), (.iadd, 1, 0, 0, 0), (.iaload, 1, 0, 0, 0), (.iload_n 3, 1, 0, 0, 0), (.iadd, 1, 0, 0, 0), (.ldc 72, 2, 99999, 0, 451), (.if_icmp .le 13, 3, 0, 0, 0), (.new 73, 3, 2, 75, 77)]
set_option maxRecDepth 20000 in
theorem o_V_dye_0 : am_okB mt_V_dye 0 k_V_dye_0 = true := by decide +kernel
theorem g_V_dye_0 {L : am_S} {n : Nat} {ls st : List Value} {M : am_M} {Q : am_Q} (h : am_B L mt_V_dye k_V_dye_0 n 0 ls st M Q) : am_R L mt_V_dye n 0 ls st M Q := am_go L mt_V_dye (fun h => by cases h) k_V_dye_0 n 0 ls st M Q o_V_dye_0 h
def k_V_dye_45 : List am_I := [(.aload_n 0, 1, 0, 0, 0), (.invokevirtual 62, 3, 48, 1, 344), (.aload_n 0, 1, 0, 0, 0), (.getfield 12, 3, 3, 0, 104), (.getfield 51, 3, 1, 0, 44), (.bipush 10, 2, 0, 0, 0), (.iload_n 1, 1, 0, 0, 0), (.iadd, 1, 0, 0, 0), (.iaload, 1, 0, 0, 0), (.ifCond .ne 8, 3, 0, 0, 0), (.aload_n 0, 1, 0, 0, 0), (.invokevirtual 65, 3, 49, 1, 440), (.ireturn, 1, 0, 0, 0)]
set_option maxRecDepth 20000 in
theorem o_V_dye_45 : am_okB mt_V_dye 45 k_V_dye_45 = true := by decide +kernel
theorem g_V_dye_45 {L : am_S} {n : Nat} {ls st : List Value} {M : am_M} {Q : am_Q} (h : am_B L mt_V_dye k_V_dye_45 n 45 ls st M Q) : am_R L mt_V_dye n 45 ls st M Q := am_go L mt_V_dye (fun h => by cases h) k_V_dye_45 n 45 ls st M Q o_V_dye_45 h
def k_V_dye_69 : List am_I := [(.bipush 15, 2, 0, 0, 0), (.iload_n 1, 1, 0, 0, 0), (.iconst 3, 1, 0, 0, 0), (.imul, 1, 0, 0, 0), (.iadd, 1, 0, 0, 0), (.iload_n 2, 1, 0, 0, 0), (.iadd, 1, 0, 0, 0), (.istore 4, 2, 0, 0, 0), (.aload_n 0, 1, 0, 0, 0), (.getfield 12, 3, 3, 0, 104), (.getfield 51, 3, 1, 0, 44), (.iload 4, 2, 0, 0, 0), (.dup2, 1, 0, 0, 0), (.iaload, 1, 0, 0, 0), (.iload_n 3, 1, 0, 0, 0), (.iadd, 1, 0, 0, 0), (.iastore, 1, 0, 0, 0), (.aload_n 0, 1, 0, 0, 0), (.getfield 12, 3, 3, 0, 104), (.getfield 51, 3, 1, 0, 44), (.bipush 45, 2, 0, 0, 0), (.iload_n 2, 1, 0, 0, 0), (.iadd, 1, 0, 0, 0), (.dup2, 1, 0, 0, 0), (.iaload, 1, 0, 0, 0), (.iload_n 3, 1, 0, 0, 0), (.iadd, 1, 0, 0, 0), (.iastore, 1, 0, 0, 0), (.aload_n 0, 1, 0, 0, 0), (.getfield 12, 3, 3, 0, 104), (.getfield 51, 3, 1, 0, 44), (.iload 4, 2, 0, 0, 0), (.iaload, 1, 0, 0, 0), (.ireturn, 1, 0, 0, 0)]
set_option maxRecDepth 20000 in
theorem o_V_dye_69 : am_okB mt_V_dye 69 k_V_dye_69 = true := by decide +kernel
theorem g_V_dye_69 {L : am_S} {n : Nat} {ls st : List Value} {M : am_M} {Q : am_Q} (h : am_B L mt_V_dye k_V_dye_69 n 69 ls st M Q) : am_R L mt_V_dye n 69 ls st M Q := am_go L mt_V_dye (fun h => by cases h) k_V_dye_69 n 69 ls st M Q o_V_dye_69 h
def k_V_stir_0 : List am_I := [(.iload_n 1, 1, 0, 0, 0), (.invokestatic 54, 3, 50, 1, 137), (.aload_n 0, 1, 0, 0, 0), (.invokevirtual 62, 3, 48, 1, 344), (.aload_n 0, 1, 0, 0, 0), (.getfield 12, 3, 3, 0, 104), (.iload_n 1, 1, 0, 0, 0), (.invokevirtual 80, 3, 10, 2, 460), (.ireturn, 1, 0, 0, 0)]
set_option maxRecDepth 20000 in
theorem o_V_stir_0 : am_okB mt_V_stir 0 k_V_stir_0 = true := by decide +kernel
theorem g_V_stir_0 {L : am_S} {n : Nat} {ls st : List Value} {M : am_M} {Q : am_Q} (h : am_B L mt_V_stir k_V_stir_0 n 0 ls st M Q) : am_R L mt_V_stir n 0 ls st M Q := am_go L mt_V_stir (fun h => by cases h) k_V_stir_0 n 0 ls st M Q o_V_stir_0 h
def k_V_capacity_0 : List am_I := [(.iload_n 1, 1, 0, 0, 0), (.invokestatic 54, 3, 50, 1, 137), (.iload_n 2, 1, 0, 0, 0), (.iconst 1, 1, 0, 0, 0), (.sipush 2000, 3, 0, 0, 0), (.invokestatic 58, 3, 53, 3, 261), (.aload_n 0, 1, 0, 0, 0), (.invokevirtual 62, 3, 48, 1, 344), (.aload_n 0, 1, 0, 0, 0), (.getfield 12, 3, 3, 0, 104), (.getfield 51, 3, 1, 0, 44), (.bipush 10, 2, 0, 0, 0), (.iload_n 1, 1, 0, 0, 0), (.iadd, 1, 0, 0, 0), (.iaload, 1, 0, 0, 0), (.iload_n 2, 1, 0, 0, 0), (.if_icmp .le 8, 3, 0, 0, 0), (.aload_n 0, 1, 0, 0, 0), (.invokevirtual 65, 3, 49, 1, 440), (.ireturn, 1, 0, 0, 0)]
set_option maxRecDepth 20000 in
theorem o_V_capacity_0 : am_okB mt_V_capacity 0 k_V_capacity_0 = true := by decide +kernel
theorem g_V_capacity_0 {L : am_S} {n : Nat} {ls st : List Value} {M : am_M} {Q : am_Q} (h : am_B L mt_V_capacity k_V_capacity_0 n 0 ls st M Q) : am_R L mt_V_capacity n 0 ls st M Q := am_go L mt_V_capacity (fun h => by cases h) k_V_capacity_0 n 0 ls st M Q o_V_capacity_0 h
def k_V_capacity_37 : List am_I := [(.aload_n 0, 1, 0, 0, 0), (.getfield 12, 3, 3, 0, 104), (.getfield 51, 3, 1, 0, 44), (.iconst 0, 1, 0, 0, 0), (.iload_n 1, 1, 0, 0, 0), (.iadd, 1, 0, 0, 0), (.iaload, 1, 0, 0, 0), (.istore_n 3, 1, 0, 0, 0), (.aload_n 0, 1, 0, 0, 0), (.getfield 12, 3, 3, 0, 104), (.getfield 51, 3, 1, 0, 44), (.iconst 0, 1, 0, 0, 0), (.iload_n 1, 1, 0, 0, 0), (.iadd, 1, 0, 0, 0), (.iload_n 2, 1, 0, 0, 0), (.iastore, 1, 0, 0, 0), (.iload_n 3, 1, 0, 0, 0), (.ireturn, 1, 0, 0, 0)]
set_option maxRecDepth 20000 in
theorem o_V_capacity_37 : am_okB mt_V_capacity 37 k_V_capacity_37 = true := by decide +kernel
theorem g_V_capacity_37 {L : am_S} {n : Nat} {ls st : List Value} {M : am_M} {Q : am_Q} (h : am_B L mt_V_capacity k_V_capacity_37 n 37 ls st M Q) : am_R L mt_V_capacity n 37 ls st M Q := am_go L mt_V_capacity (fun h => by cases h) k_V_capacity_37 n 37 ls st M Q o_V_capacity_37 h
def k_V_valve_0 : List am_I := [(.iload_n 1, 1, 0, 0, 0), (.invokestatic 54, 3, 50, 1, 137), (.iload_n 2, 1, 0, 0, 0), (.iconst 5, 1, 0, 0, 0), (.if_icmp .eq 7, 3, 0, 0, 0), (.iload_n 2, 1, 0, 0, 0), (.invokestatic 54, 3, 50, 1, 137)]
set_option maxRecDepth 20000 in
theorem o_V_valve_0 : am_okB mt_V_valve 0 k_V_valve_0 = true := by decide +kernel
theorem g_V_valve_0 {L : am_S} {n : Nat} {ls st : List Value} {M : am_M} {Q : am_Q} (h : am_B L mt_V_valve k_V_valve_0 n 0 ls st M Q) : am_R L mt_V_valve n 0 ls st M Q := am_go L mt_V_valve (fun h => by cases h) k_V_valve_0 n 0 ls st M Q o_V_valve_0 h
def k_V_valve_13 : List am_I := [(.iload_n 1, 1, 0, 0, 0), (.iload_n 2, 1, 0, 0, 0), (.if_icmp .ne 13, 3, 0, 0, 0), (.new 84, 3, 1, 86, 88)]
set_option maxRecDepth 20000 in
theorem o_V_valve_13 : am_okB mt_V_valve 13 k_V_valve_13 = true := by decide +kernel
theorem g_V_valve_13 {L : am_S} {n : Nat} {ls st : List Value} {M : am_M} {Q : am_Q} (h : am_B L mt_V_valve k_V_valve_13 n 13 ls st M Q) : am_R L mt_V_valve n 13 ls st M Q := am_go L mt_V_valve (fun h => by cases h) k_V_valve_13 n 13 ls st M Q o_V_valve_13 h
def k_V_valve_28 : List am_I := [(.iload_n 3, 1, 0, 0, 0), (.iconst 1, 1, 0, 0, 0), (.sipush 500, 3, 0, 0, 0), (.invokestatic 58, 3, 53, 3, 261), (.iload 4, 2, 0, 0, 0), (.iconst 0, 1, 0, 0, 0), (.bipush 23, 2, 0, 0, 0), (.invokestatic 58, 3, 53, 3, 261), (.iload 5, 2, 0, 0, 0), (.iload 4, 2, 0, 0, 0), (.bipush 23, 2, 0, 0, 0), (.invokestatic 58, 3, 53, 3, 261), (.aload_n 0, 1, 0, 0, 0), (.getfield 12, 3, 3, 0, 104), (.getfield 51, 3, 1, 0, 44), (.bipush 56, 2, 0, 0, 0), (.iaload, 1, 0, 0, 0), (.istore 6, 2, 0, 0, 0), (.iload 6, 2, 0, 0, 0), (.ifCond .lt 10, 3, 0, 0, 0), (.iload 6, 2, 0, 0, 0), (.bipush 8, 2, 0, 0, 0), (.if_icmp .lt 13, 3, 0, 0, 0)]
set_option maxRecDepth 20000 in
theorem o_V_valve_28 : am_okB mt_V_valve 28 k_V_valve_28 = true := by decide +kernel
theorem g_V_valve_28 {L : am_S} {n : Nat} {ls st : List Value} {M : am_M} {Q : am_Q} (h : am_B L mt_V_valve k_V_valve_28 n 28 ls st M Q) : am_R L mt_V_valve n 28 ls st M Q := am_go L mt_V_valve (fun h => by cases h) k_V_valve_28 n 28 ls st M Q o_V_valve_28 h
def k_V_valve_77 : List am_I := [(.new 73, 3, 2, 89, 77)]
set_option maxRecDepth 20000 in
theorem o_V_valve_77 : am_okB mt_V_valve 77 k_V_valve_77 = true := by decide +kernel
theorem g_V_valve_77 {L : am_S} {n : Nat} {ls st : List Value} {M : am_M} {Q : am_Q} (h : am_B L mt_V_valve k_V_valve_77 n 77 ls st M Q) : am_R L mt_V_valve n 77 ls st M Q := am_go L mt_V_valve (fun h => by cases h) k_V_valve_77 n 77 ls st M Q o_V_valve_77 h
def k_V_valve_87 : List am_I := [(.aload_n 0, 1, 0, 0, 0), (.invokevirtual 62, 3, 48, 1, 344), (.bipush 57, 2, 0, 0, 0), (.iload 6, 2, 0, 0, 0), (.bipush 6, 2, 0, 0, 0), (.imul, 1, 0, 0, 0), (.iadd, 1, 0, 0, 0), (.istore 7, 2, 0, 0, 0), (.aload_n 0, 1, 0, 0, 0), (.getfield 12, 3, 3, 0, 104), (.getfield 51, 3, 1, 0, 44), (.iload 7, 2, 0, 0, 0), (.iconst 0, 1, 0, 0, 0), (.iadd, 1, 0, 0, 0), (.iload_n 1, 1, 0, 0, 0), (.iastore, 1, 0, 0, 0), (.aload_n 0, 1, 0, 0, 0), (.getfield 12, 3, 3, 0, 104), (.getfield 51, 3, 1, 0, 44), (.iload 7, 2, 0, 0, 0), (.iconst 1, 1, 0, 0, 0), (.iadd, 1, 0, 0, 0), (.iload_n 2, 1, 0, 0, 0), (.iastore, 1, 0, 0, 0), (.aload_n 0, 1, 0, 0, 0), (.getfield 12, 3, 3, 0, 104), (.getfield 51, 3, 1, 0, 44), (.iload 7, 2, 0, 0, 0), (.iconst 2, 1, 0, 0, 0), (.iadd, 1, 0, 0, 0), (.iload_n 3, 1, 0, 0, 0), (.iastore, 1, 0, 0, 0), (.aload_n 0, 1, 0, 0, 0), (.getfield 12, 3, 3, 0, 104), (.getfield 51, 3, 1, 0, 44), (.iload 7, 2, 0, 0, 0), (.iconst 3, 1, 0, 0, 0), (.iadd, 1, 0, 0, 0), (.iload 4, 2, 0, 0, 0), (.iastore, 1, 0, 0, 0), (.aload_n 0, 1, 0, 0, 0), (.getfield 12, 3, 3, 0, 104), (.getfield 51, 3, 1, 0, 44), (.iload 7, 2, 0, 0, 0), (.iconst 4, 1, 0, 0, 0), (.iadd, 1, 0, 0, 0), (.iload 5, 2, 0, 0, 0), (.iastore, 1, 0, 0, 0), (.aload_n 0, 1, 0, 0, 0), (.getfield 12, 3, 3, 0, 104), (.getfield 51, 3, 1, 0, 44), (.iload 7, 2, 0, 0, 0), (.iconst 5, 1, 0, 0, 0), (.iadd, 1, 0, 0, 0), (.iconst 0, 1, 0, 0, 0), (.iastore, 1, 0, 0, 0), (.aload_n 0, 1, 0, 0, 0), (.getfield 12, 3, 3, 0, 104), (.getfield 51, 3, 1, 0, 44), (.bipush 56, 2, 0, 0, 0), (.iload 6, 2, 0, 0, 0), (.iconst 1, 1, 0, 0, 0), (.iadd, 1, 0, 0, 0), (.iastore, 1, 0, 0, 0), (.iload 6, 2, 0, 0, 0), (.ireturn, 1, 0, 0, 0)]
set_option maxRecDepth 20000 in
theorem o_V_valve_87 : am_okB mt_V_valve 87 k_V_valve_87 = true := by decide +kernel
theorem g_V_valve_87 {L : am_S} {n : Nat} {ls st : List Value} {M : am_M} {Q : am_Q} (h : am_B L mt_V_valve k_V_valve_87 n 87 ls st M Q) : am_R L mt_V_valve n 87 ls st M Q := am_go L mt_V_valve (fun h => by cases h) k_V_valve_87 n 87 ls st M Q o_V_valve_87 h
def k_V_close_0 : List am_I := [(.aload_n 0, 1, 0, 0, 0), (.iload_n 1, 1, 0, 0, 0), (.invokevirtual 91, 3, 52, 2, 399), (.aload_n 0, 1, 0, 0, 0), (.invokevirtual 62, 3, 48, 1, 344), (.aload_n 0, 1, 0, 0, 0), (.getfield 12, 3, 3, 0, 104), (.iload_n 1, 1, 0, 0, 0), (.invokevirtual 94, 3, 9, 2, 307), (.aload_n 0, 1, 0, 0, 0), (.getfield 12, 3, 3, 0, 104), (.getfield 51, 3, 1, 0, 44), (.bipush 56, 2, 0, 0, 0), (.iaload, 1, 0, 0, 0), (.ireturn, 1, 0, 0, 0)]
set_option maxRecDepth 20000 in
theorem o_V_close_0 : am_okB mt_V_close 0 k_V_close_0 = true := by decide +kernel
theorem g_V_close_0 {L : am_S} {n : Nat} {ls st : List Value} {M : am_M} {Q : am_Q} (h : am_B L mt_V_close k_V_close_0 n 0 ls st M Q) : am_R L mt_V_close n 0 ls st M Q := am_go L mt_V_close (fun h => by cases h) k_V_close_0 n 0 ls st M Q o_V_close_0 h
def k_V_pipe_0 : List am_I := [(.iload_n 1, 1, 0, 0, 0), (.invokestatic 54, 3, 50, 1, 137), (.iload_n 2, 1, 0, 0, 0), (.invokestatic 54, 3, 50, 1, 137), (.iload_n 1, 1, 0, 0, 0), (.iload_n 2, 1, 0, 0, 0), (.if_icmp .ne 13, 3, 0, 0, 0), (.new 84, 3, 1, 97, 88)]
set_option maxRecDepth 20000 in
theorem o_V_pipe_0 : am_okB mt_V_pipe 0 k_V_pipe_0 = true := by decide +kernel
theorem g_V_pipe_0 {L : am_S} {n : Nat} {ls st : List Value} {M : am_M} {Q : am_Q} (h : am_B L mt_V_pipe k_V_pipe_0 n 0 ls st M Q) : am_R L mt_V_pipe n 0 ls st M Q := am_go L mt_V_pipe (fun h => by cases h) k_V_pipe_0 n 0 ls st M Q o_V_pipe_0 h
def k_V_pipe_23 : List am_I := [(.aload_n 0, 1, 0, 0, 0), (.invokevirtual 62, 3, 48, 1, 344), (.aload_n 0, 1, 0, 0, 0), (.getfield 12, 3, 3, 0, 104), (.getfield 51, 3, 1, 0, 44), (.iconst 5, 1, 0, 0, 0), (.iload_n 1, 1, 0, 0, 0), (.iadd, 1, 0, 0, 0), (.dup2, 1, 0, 0, 0), (.iaload, 1, 0, 0, 0), (.iconst 1, 1, 0, 0, 0), (.iload_n 2, 1, 0, 0, 0), (.ishl, 1, 0, 0, 0), (.ixor, 1, 0, 0, 0), (.iastore, 1, 0, 0, 0), (.aload_n 0, 1, 0, 0, 0), (.getfield 12, 3, 3, 0, 104), (.getfield 51, 3, 1, 0, 44), (.iconst 5, 1, 0, 0, 0), (.iload_n 2, 1, 0, 0, 0), (.iadd, 1, 0, 0, 0), (.dup2, 1, 0, 0, 0), (.iaload, 1, 0, 0, 0), (.iconst 1, 1, 0, 0, 0), (.iload_n 1, 1, 0, 0, 0), (.ishl, 1, 0, 0, 0), (.ixor, 1, 0, 0, 0), (.iastore, 1, 0, 0, 0), (.aload_n 0, 1, 0, 0, 0), (.getfield 12, 3, 3, 0, 104), (.getfield 51, 3, 1, 0, 44), (.iconst 5, 1, 0, 0, 0), (.iload_n 1, 1, 0, 0, 0), (.iadd, 1, 0, 0, 0), (.iaload, 1, 0, 0, 0), (.iload_n 2, 1, 0, 0, 0), (.ishr, 1, 0, 0, 0), (.iconst 1, 1, 0, 0, 0), (.iand, 1, 0, 0, 0), (.ireturn, 1, 0, 0, 0)]
set_option maxRecDepth 20000 in
theorem o_V_pipe_23 : am_okB mt_V_pipe 23 k_V_pipe_23 = true := by decide +kernel
theorem g_V_pipe_23 {L : am_S} {n : Nat} {ls st : List Value} {M : am_M} {Q : am_Q} (h : am_B L mt_V_pipe k_V_pipe_23 n 23 ls st M Q) : am_R L mt_V_pipe n 23 ls st M Q := am_go L mt_V_pipe (fun h => by cases h) k_V_pipe_23 n 23 ls st M Q o_V_pipe_23 h
def k_V_set_0 : List am_I := [(.iload_n 1, 1, 0, 0, 0), (.iconst 0, 1, 0, 0, 0), (.sipush 200, 3, 0, 0, 0), (.invokestatic 58, 3, 53, 3, 261), (.aload_n 0, 1, 0, 0, 0), (.invokevirtual 62, 3, 48, 1, 344), (.aload_n 0, 1, 0, 0, 0), (.getfield 12, 3, 3, 0, 104), (.getfield 51, 3, 1, 0, 44), (.bipush 51, 2, 0, 0, 0), (.iaload, 1, 0, 0, 0), (.istore_n 2, 1, 0, 0, 0), (.aload_n 0, 1, 0, 0, 0), (.getfield 12, 3, 3, 0, 104), (.getfield 51, 3, 1, 0, 44), (.bipush 51, 2, 0, 0, 0), (.iload_n 1, 1, 0, 0, 0), (.iastore, 1, 0, 0, 0), (.iload_n 2, 1, 0, 0, 0), (.ireturn, 1, 0, 0, 0)]
set_option maxRecDepth 20000 in
theorem o_V_set_0 : am_okB mt_V_set 0 k_V_set_0 = true := by decide +kernel
theorem g_V_set_0 {L : am_S} {n : Nat} {ls st : List Value} {M : am_M} {Q : am_Q} (h : am_B L mt_V_set k_V_set_0 n 0 ls st M Q) : am_R L mt_V_set n 0 ls st M Q := am_go L mt_V_set (fun h => by cases h) k_V_set_0 n 0 ls st M Q o_V_set_0 h
def k_V_pass_0 : List am_I := [(.iload_n 1, 1, 0, 0, 0), (.iconst 1, 1, 0, 0, 0), (.sipush 240, 3, 0, 0, 0), (.invokestatic 58, 3, 53, 3, 261), (.aload_n 0, 1, 0, 0, 0), (.getfield 12, 3, 3, 0, 104), (.getfield 51, 3, 1, 0, 44), (.bipush 52, 2, 0, 0, 0), (.iaload, 1, 0, 0, 0), (.iload_n 1, 1, 0, 0, 0), (.iadd, 1, 0, 0, 0), (.ldc 72, 2, 99999, 0, 451), (.if_icmp .le 13, 3, 0, 0, 0), (.new 73, 3, 2, 99, 77)]
set_option maxRecDepth 20000 in
theorem o_V_pass_0 : am_okB mt_V_pass 0 k_V_pass_0 = true := by decide +kernel
theorem g_V_pass_0 {L : am_S} {n : Nat} {ls st : List Value} {M : am_M} {Q : am_Q} (h : am_B L mt_V_pass k_V_pass_0 n 0 ls st M Q) : am_R L mt_V_pass n 0 ls st M Q := am_go L mt_V_pass (fun h => by cases h) k_V_pass_0 n 0 ls st M Q o_V_pass_0 h
def k_V_pass_35 : List am_I := [(.aload_n 0, 1, 0, 0, 0), (.invokevirtual 62, 3, 48, 1, 344), (.aload_n 0, 1, 0, 0, 0), (.getfield 12, 3, 3, 0, 104), (.getfield 51, 3, 1, 0, 44), (.bipush 54, 2, 0, 0, 0), (.iaload, 1, 0, 0, 0), (.istore_n 2, 1, 0, 0, 0), (.aload_n 0, 1, 0, 0, 0), (.getfield 12, 3, 3, 0, 104), (.iload_n 1, 1, 0, 0, 0), (.invokevirtual 101, 3, 11, 2, 219), (.aload_n 0, 1, 0, 0, 0), (.getfield 12, 3, 3, 0, 104), (.getfield 51, 3, 1, 0, 44), (.bipush 54, 2, 0, 0, 0), (.iaload, 1, 0, 0, 0), (.iload_n 2, 1, 0, 0, 0), (.isub, 1, 0, 0, 0), (.ireturn, 1, 0, 0, 0)]
set_option maxRecDepth 20000 in
theorem o_V_pass_35 : am_okB mt_V_pass 35 k_V_pass_35 = true := by decide +kernel
theorem g_V_pass_35 {L : am_S} {n : Nat} {ls st : List Value} {M : am_M} {Q : am_Q} (h : am_B L mt_V_pass k_V_pass_35 n 35 ls st M Q) : am_R L mt_V_pass n 35 ls st M Q := am_go L mt_V_pass (fun h => by cases h) k_V_pass_35 n 35 ls st M Q o_V_pass_35 h
def k_V_keep_0 : List am_I := [(.iload_n 1, 1, 0, 0, 0), (.iconst 0, 1, 0, 0, 0), (.iconst 1, 1, 0, 0, 0), (.invokestatic 58, 3, 53, 3, 261), (.aload_n 0, 1, 0, 0, 0), (.getfield 12, 3, 3, 0, 104), (.getfield 51, 3, 1, 0, 44), (.iconst 0, 1, 0, 0, 0), (.aload_n 0, 1, 0, 0, 0), (.getfield 37, 3, 3, 5, 109), (.iload_n 1, 1, 0, 0, 0), (.bipush 105, 2, 0, 0, 0), (.imul, 1, 0, 0, 0), (.bipush 105, 2, 0, 0, 0), (.invokestatic 133, 3, 202, 5, 348), (.aload_n 0, 1, 0, 0, 0), (.getfield 40, 3, 3, 6, 110), (.iload_n 1, 1, 0, 0, 0), (.iconst 1, 1, 0, 0, 0), (.bastore, 1, 0, 0, 0), (.aload_n 0, 1, 0, 0, 0), (.getfield 12, 3, 3, 0, 104), (.invokevirtual 139, 3, 2, 1, 349), (.ireturn, 1, 0, 0, 0)]
set_option maxRecDepth 20000 in
theorem o_V_keep_0 : am_okB mt_V_keep 0 k_V_keep_0 = true := by decide +kernel
theorem g_V_keep_0 {L : am_S} {n : Nat} {ls st : List Value} {M : am_M} {Q : am_Q} (h : am_B L mt_V_keep k_V_keep_0 n 0 ls st M Q) : am_R L mt_V_keep n 0 ls st M Q := am_go L mt_V_keep (fun h => by cases h) k_V_keep_0 n 0 ls st M Q o_V_keep_0 h
def k_V_goBack_0 : List am_I := [(.iload_n 1, 1, 0, 0, 0), (.iconst 0, 1, 0, 0, 0), (.iconst 1, 1, 0, 0, 0), (.invokestatic 58, 3, 53, 3, 261), (.aload_n 0, 1, 0, 0, 0), (.getfield 40, 3, 3, 6, 110), (.iload_n 1, 1, 0, 0, 0), (.baload, 1, 0, 0, 0), (.ifCond .ne 13, 3, 0, 0, 0), (.new 73, 3, 2, 142, 77)]
set_option maxRecDepth 20000 in
theorem o_V_goBack_0 : am_okB mt_V_goBack 0 k_V_goBack_0 = true := by decide +kernel
theorem g_V_goBack_0 {L : am_S} {n : Nat} {ls st : List Value} {M : am_M} {Q : am_Q} (h : am_B L mt_V_goBack k_V_goBack_0 n 0 ls st M Q) : am_R L mt_V_goBack n 0 ls st M Q := am_go L mt_V_goBack (fun h => by cases h) k_V_goBack_0 n 0 ls st M Q o_V_goBack_0 h
def k_V_goBack_25 : List am_I := [(.aload_n 0, 1, 0, 0, 0), (.invokevirtual 62, 3, 48, 1, 344), (.aload_n 0, 1, 0, 0, 0), (.getfield 37, 3, 3, 5, 109), (.iload_n 1, 1, 0, 0, 0), (.bipush 105, 2, 0, 0, 0), (.imul, 1, 0, 0, 0), (.aload_n 0, 1, 0, 0, 0), (.getfield 12, 3, 3, 0, 104), (.getfield 51, 3, 1, 0, 44), (.iconst 0, 1, 0, 0, 0), (.bipush 105, 2, 0, 0, 0), (.invokestatic 133, 3, 202, 5, 348), (.aload_n 0, 1, 0, 0, 0), (.getfield 12, 3, 3, 0, 104), (.invokevirtual 139, 3, 2, 1, 349), (.ireturn, 1, 0, 0, 0)]
set_option maxRecDepth 20000 in
theorem o_V_goBack_25 : am_okB mt_V_goBack 25 k_V_goBack_25 = true := by decide +kernel
theorem g_V_goBack_25 {L : am_S} {n : Nat} {ls st : List Value} {M : am_M} {Q : am_Q} (h : am_B L mt_V_goBack k_V_goBack_25 n 25 ls st M Q) : am_R L mt_V_goBack n 25 ls st M Q := am_go L mt_V_goBack (fun h => by cases h) k_V_goBack_25 n 25 ls st M Q o_V_goBack_25 h
def k_V_undo_0 : List am_I := [(.aload_n 0, 1, 0, 0, 0), (.getfield 47, 3, 3, 8, 112), (.ifCond .le 12, 3, 0, 0, 0), (.aload_n 0, 1, 0, 0, 0), (.getfield 47, 3, 3, 8, 112), (.bipush 6, 2, 0, 0, 0), (.if_icmp .le 13, 3, 0, 0, 0)]
set_option maxRecDepth 20000 in
theorem o_V_undo_0 : am_okB mt_V_undo 0 k_V_undo_0 = true := by decide +kernel
theorem g_V_undo_0 {L : am_S} {n : Nat} {ls st : List Value} {M : am_M} {Q : am_Q} (h : am_B L mt_V_undo k_V_undo_0 n 0 ls st M Q) : am_R L mt_V_undo n 0 ls st M Q := am_go L mt_V_undo (fun h => by cases h) k_V_undo_0 n 0 ls st M Q o_V_undo_0 h
def k_V_undo_16 : List am_I := [(.new 73, 3, 2, 144, 77)]
set_option maxRecDepth 20000 in
theorem o_V_undo_16 : am_okB mt_V_undo 16 k_V_undo_16 = true := by decide +kernel
theorem g_V_undo_16 {L : am_S} {n : Nat} {ls st : List Value} {M : am_M} {Q : am_Q} (h : am_B L mt_V_undo k_V_undo_16 n 16 ls st M Q) : am_R L mt_V_undo n 16 ls st M Q := am_go L mt_V_undo (fun h => by cases h) k_V_undo_16 n 16 ls st M Q o_V_undo_16 h
def k_V_undo_26 : List am_I := [(.aload_n 0, 1, 0, 0, 0), (.dup, 1, 0, 0, 0), (.getfield 47, 3, 3, 8, 112), (.iconst 1, 1, 0, 0, 0), (.isub, 1, 0, 0, 0), (.putfield 47, 3, 3, 8, 112), (.aload_n 0, 1, 0, 0, 0), (.getfield 44, 3, 3, 7, 111), (.aload_n 0, 1, 0, 0, 0), (.getfield 47, 3, 3, 8, 112), (.bipush 105, 2, 0, 0, 0), (.imul, 1, 0, 0, 0), (.aload_n 0, 1, 0, 0, 0), (.getfield 12, 3, 3, 0, 104), (.getfield 51, 3, 1, 0, 44), (.iconst 0, 1, 0, 0, 0), (.bipush 105, 2, 0, 0, 0), (.invokestatic 133, 3, 202, 5, 348), (.aload_n 0, 1, 0, 0, 0), (.getfield 47, 3, 3, 8, 112), (.ireturn, 1, 0, 0, 0)]
set_option maxRecDepth 20000 in
theorem o_V_undo_26 : am_okB mt_V_undo 26 k_V_undo_26 = true := by decide +kernel
theorem g_V_undo_26 {L : am_S} {n : Nat} {ls st : List Value} {M : am_M} {Q : am_Q} (h : am_B L mt_V_undo k_V_undo_26 n 26 ls st M Q) : am_R L mt_V_undo n 26 ls st M Q := am_go L mt_V_undo (fun h => by cases h) k_V_undo_26 n 26 ls st M Q o_V_undo_26 h
def k_V_vatOf_0 : List am_I := [(.iload_n 1, 1, 0, 0, 0), (.invokestatic 54, 3, 50, 1, 137), (.iload_n 2, 1, 0, 0, 0), (.iconst 0, 1, 0, 0, 0), (.bipush 9, 2, 0, 0, 0), (.invokestatic 58, 3, 53, 3, 261), (.aload_n 0, 1, 0, 0, 0), (.getfield 12, 3, 3, 0, 104), (.iload_n 1, 1, 0, 0, 0), (.iload_n 2, 1, 0, 0, 0), (.invokevirtual 146, 3, 6, 3, 390), (.ireturn, 1, 0, 0, 0)]
set_option maxRecDepth 20000 in
theorem o_V_vatOf_0 : am_okB mt_V_vatOf 0 k_V_vatOf_0 = true := by decide +kernel
theorem g_V_vatOf_0 {L : am_S} {n : Nat} {ls st : List Value} {M : am_M} {Q : am_Q} (h : am_B L mt_V_vatOf k_V_vatOf_0 n 0 ls st M Q) : am_R L mt_V_vatOf n 0 ls st M Q := am_go L mt_V_vatOf (fun h => by cases h) k_V_vatOf_0 n 0 ls st M Q o_V_vatOf_0 h
def k_V_valveOf_0 : List am_I := [(.aload_n 0, 1, 0, 0, 0), (.iload_n 1, 1, 0, 0, 0), (.invokevirtual 91, 3, 52, 2, 399), (.iload_n 2, 1, 0, 0, 0), (.iconst 0, 1, 0, 0, 0), (.bipush 6, 2, 0, 0, 0), (.invokestatic 58, 3, 53, 3, 261), (.aload_n 0, 1, 0, 0, 0), (.getfield 12, 3, 3, 0, 104), (.iload_n 1, 1, 0, 0, 0), (.iload_n 2, 1, 0, 0, 0), (.invokevirtual 150, 3, 7, 3, 404), (.ireturn, 1, 0, 0, 0)]
set_option maxRecDepth 20000 in
theorem o_V_valveOf_0 : am_okB mt_V_valveOf 0 k_V_valveOf_0 = true := by decide +kernel
theorem g_V_valveOf_0 {L : am_S} {n : Nat} {ls st : List Value} {M : am_M} {Q : am_Q} (h : am_B L mt_V_valveOf k_V_valveOf_0 n 0 ls st M Q) : am_R L mt_V_valveOf n 0 ls st M Q := am_go L mt_V_valveOf (fun h => by cases h) k_V_valveOf_0 n 0 ls st M Q o_V_valveOf_0 h
def k_V_dyeOf_0 : List am_I := [(.iload_n 1, 1, 0, 0, 0), (.invokestatic 69, 3, 51, 1, 413), (.iload_n 2, 1, 0, 0, 0), (.iconst 0, 1, 0, 0, 0), (.iconst 4, 1, 0, 0, 0), (.invokestatic 58, 3, 53, 3, 261), (.aload_n 0, 1, 0, 0, 0), (.getfield 12, 3, 3, 0, 104), (.iload_n 1, 1, 0, 0, 0), (.iload_n 2, 1, 0, 0, 0), (.invokevirtual 153, 3, 8, 3, 417), (.ireturn, 1, 0, 0, 0)]
set_option maxRecDepth 20000 in
theorem o_V_dyeOf_0 : am_okB mt_V_dyeOf 0 k_V_dyeOf_0 = true := by decide +kernel
theorem g_V_dyeOf_0 {L : am_S} {n : Nat} {ls st : List Value} {M : am_M} {Q : am_Q} (h : am_B L mt_V_dyeOf k_V_dyeOf_0 n 0 ls st M Q) : am_R L mt_V_dyeOf n 0 ls st M Q := am_go L mt_V_dyeOf (fun h => by cases h) k_V_dyeOf_0 n 0 ls st M Q o_V_dyeOf_0 h
def k_V_count_0 : List am_I := [(.iload_n 1, 1, 0, 0, 0), (.iconst 0, 1, 0, 0, 0), (.bipush 9, 2, 0, 0, 0), (.invokestatic 58, 3, 53, 3, 261), (.aload_n 0, 1, 0, 0, 0), (.iload_n 1, 1, 0, 0, 0), (.invokevirtual 156, 3, 46, 2, 367), (.ireturn, 1, 0, 0, 0)]
set_option maxRecDepth 20000 in
theorem o_V_count_0 : am_okB mt_V_count 0 k_V_count_0 = true := by decide +kernel
theorem g_V_count_0 {L : am_S} {n : Nat} {ls st : List Value} {M : am_M} {Q : am_Q} (h : am_B L mt_V_count k_V_count_0 n 0 ls st M Q) : am_R L mt_V_count n 0 ls st M Q := am_go L mt_V_count (fun h => by cases h) k_V_count_0 n 0 ls st M Q o_V_count_0 h
def k_V_ifPassed_0 : List am_I := [(.iload_n 2, 1, 0, 0, 0), (.invokestatic 54, 3, 50, 1, 137), (.iload_n 1, 1, 0, 0, 0), (.iconst 1, 1, 0, 0, 0), (.sipush 240, 3, 0, 0, 0), (.invokestatic 58, 3, 53, 3, 261), (.iload_n 3, 1, 0, 0, 0), (.iconst 1, 1, 0, 0, 0), (.bipush 7, 2, 0, 0, 0), (.invokestatic 58, 3, 53, 3, 261), (.aload_n 0, 1, 0, 0, 0), (.getfield 16, 3, 3, 1, 105), (.aload_n 0, 1, 0, 0, 0), (.getfield 12, 3, 3, 0, 104), (.invokevirtual 159, 3, 1, 2, 212), (.aload_n 0, 1, 0, 0, 0), (.getfield 16, 3, 3, 1, 105), (.iload_n 1, 1, 0, 0, 0), (.invokevirtual 101, 3, 11, 2, 219), (.aload_n 0, 1, 0, 0, 0), (.getfield 16, 3, 3, 1, 105), (.iload_n 2, 1, 0, 0, 0), (.iload_n 3, 1, 0, 0, 0), (.invokevirtual 146, 3, 6, 3, 390), (.ireturn, 1, 0, 0, 0)]
set_option maxRecDepth 20000 in
theorem o_V_ifPassed_0 : am_okB mt_V_ifPassed 0 k_V_ifPassed_0 = true := by decide +kernel
theorem g_V_ifPassed_0 {L : am_S} {n : Nat} {ls st : List Value} {M : am_M} {Q : am_Q} (h : am_B L mt_V_ifPassed k_V_ifPassed_0 n 0 ls st M Q) : am_R L mt_V_ifPassed n 0 ls st M Q := am_go L mt_V_ifPassed (fun h => by cases h) k_V_ifPassed_0 n 0 ls st M Q o_V_ifPassed_0 h
def k_V_emptyIn_0 : List am_I := [(.iload_n 1, 1, 0, 0, 0), (.invokestatic 54, 3, 50, 1, 137), (.aload_n 0, 1, 0, 0, 0), (.invokevirtual 163, 3, 47, 1, 208), (.aload_n 0, 1, 0, 0, 0), (.getfield 33, 3, 3, 4, 108), (.iload_n 1, 1, 0, 0, 0), (.iaload, 1, 0, 0, 0), (.ireturn, 1, 0, 0, 0)]
set_option maxRecDepth 20000 in
theorem o_V_emptyIn_0 : am_okB mt_V_emptyIn 0 k_V_emptyIn_0 = true := by decide +kernel
theorem g_V_emptyIn_0 {L : am_S} {n : Nat} {ls st : List Value} {M : am_M} {Q : am_Q} (h : am_B L mt_V_emptyIn k_V_emptyIn_0 n 0 ls st M Q) : am_R L mt_V_emptyIn n 0 ls st M Q := am_go L mt_V_emptyIn (fun h => by cases h) k_V_emptyIn_0 n 0 ls st M Q o_V_emptyIn_0 h
def k_V_round_0 : List am_I := [(.iload_n 1, 1, 0, 0, 0), (.iconst 0, 1, 0, 0, 0), (.iconst 3, 1, 0, 0, 0), (.invokestatic 58, 3, 53, 3, 261), (.aload_n 0, 1, 0, 0, 0), (.getfield 22, 3, 3, 2, 106), (.aload_n 0, 1, 0, 0, 0), (.getfield 12, 3, 3, 0, 104), (.invokevirtual 166, 3, 20, 2, 280), (.iload_n 1, 1, 0, 0, 0), (.iconst 2, 1, 0, 0, 0), (.if_icmp .ge 13, 3, 0, 0, 0), (.aload_n 0, 1, 0, 0, 0), (.getfield 22, 3, 3, 2, 106), (.invokevirtual 169, 3, 21, 1, 286), (.goto 10, 3, 0, 0, 0)]
set_option maxRecDepth 20000 in
theorem o_V_round_0 : am_okB mt_V_round 0 k_V_round_0 = true := by decide +kernel
theorem g_V_round_0 {L : am_S} {n : Nat} {ls st : List Value} {M : am_M} {Q : am_Q} (h : am_B L mt_V_round k_V_round_0 n 0 ls st M Q) : am_R L mt_V_round n 0 ls st M Q := am_go L mt_V_round (fun h => by cases h) k_V_round_0 n 0 ls st M Q o_V_round_0 h
def k_V_round_32 : List am_I := [(.aload_n 0, 1, 0, 0, 0), (.getfield 22, 3, 3, 2, 106), (.invokevirtual 172, 3, 22, 1, 299)]
set_option maxRecDepth 20000 in
theorem o_V_round_32 : am_okB mt_V_round 32 k_V_round_32 = true := by decide +kernel
theorem g_V_round_32 {L : am_S} {n : Nat} {ls st : List Value} {M : am_M} {Q : am_Q} (h : am_B L mt_V_round k_V_round_32 n 32 ls st M Q) : am_R L mt_V_round n 32 ls st M Q := am_go L mt_V_round (fun h => by cases h) k_V_round_32 n 32 ls st M Q o_V_round_32 h
def k_V_round_39 : List am_I := [(.iload_n 1, 1, 0, 0, 0), (.iconst 2, 1, 0, 0, 0), (.irem, 1, 0, 0, 0), (.ifCond .ne 13, 3, 0, 0, 0), (.aload_n 0, 1, 0, 0, 0), (.getfield 22, 3, 3, 2, 106), (.getfield 175, 3, 0, 3, 62), (.goto 10, 3, 0, 0, 0)]
set_option maxRecDepth 20000 in
theorem o_V_round_39 : am_okB mt_V_round 39 k_V_round_39 = true := by decide +kernel
theorem g_V_round_39 {L : am_S} {n : Nat} {ls st : List Value} {M : am_M} {Q : am_Q} (h : am_B L mt_V_round k_V_round_39 n 39 ls st M Q) : am_R L mt_V_round n 39 ls st M Q := am_go L mt_V_round (fun h => by cases h) k_V_round_39 n 39 ls st M Q o_V_round_39 h
def k_V_round_55 : List am_I := [(.aload_n 0, 1, 0, 0, 0), (.getfield 22, 3, 3, 2, 106), (.getfield 176, 3, 0, 4, 64)]
set_option maxRecDepth 20000 in
theorem o_V_round_55 : am_okB mt_V_round 55 k_V_round_55 = true := by decide +kernel
theorem g_V_round_55 {L : am_S} {n : Nat} {ls st : List Value} {M : am_M} {Q : am_Q} (h : am_B L mt_V_round k_V_round_55 n 55 ls st M Q) : am_R L mt_V_round n 55 ls st M Q := am_go L mt_V_round (fun h => by cases h) k_V_round_55 n 55 ls st M Q o_V_round_55 h
def k_V_round_62 : List am_I := [(.ireturn, 1, 0, 0, 0)]
set_option maxRecDepth 20000 in
theorem o_V_round_62 : am_okB mt_V_round 62 k_V_round_62 = true := by decide +kernel
theorem g_V_round_62 {L : am_S} {n : Nat} {ls st : List Value} {M : am_M} {Q : am_Q} (h : am_B L mt_V_round k_V_round_62 n 62 ls st M Q) : am_R L mt_V_round n 62 ls st M Q := am_go L mt_V_round (fun h => by cases h) k_V_round_62 n 62 ls st M Q o_V_round_62 h
def k_V_mainValve_0 : List am_I := [(.iconst (-1), 1, 0, 0, 0), (.istore_n 1, 1, 0, 0, 0), (.iconst 0, 1, 0, 0, 0), (.istore_n 2, 1, 0, 0, 0), (.iconst 0, 1, 0, 0, 0), (.istore_n 3, 1, 0, 0, 0)]
set_option maxRecDepth 20000 in
theorem o_V_mainValve_0 : am_okB mt_V_mainValve 0 k_V_mainValve_0 = true := by decide +kernel
theorem g_V_mainValve_0 {L : am_S} {n : Nat} {ls st : List Value} {M : am_M} {Q : am_Q} (h : am_B L mt_V_mainValve k_V_mainValve_0 n 0 ls st M Q) : am_R L mt_V_mainValve n 0 ls st M Q := am_go L mt_V_mainValve (fun h => by cases h) k_V_mainValve_0 n 0 ls st M Q o_V_mainValve_0 h
def k_V_mainValve_6 : List am_I := [(.iload_n 3, 1, 0, 0, 0), (.aload_n 0, 1, 0, 0, 0), (.getfield 12, 3, 3, 0, 104), (.getfield 51, 3, 1, 0, 44), (.bipush 56, 2, 0, 0, 0), (.iaload, 1, 0, 0, 0), (.if_icmp .ge 65, 3, 0, 0, 0), (.aload_n 0, 1, 0, 0, 0), (.getfield 16, 3, 3, 1, 105), (.aload_n 0, 1, 0, 0, 0), (.getfield 12, 3, 3, 0, 104), (.invokevirtual 159, 3, 1, 2, 212), (.aload_n 0, 1, 0, 0, 0), (.getfield 16, 3, 3, 1, 105), (.iload_n 3, 1, 0, 0, 0), (.invokevirtual 94, 3, 9, 2, 307), (.aload_n 0, 1, 0, 0, 0), (.getfield 16, 3, 3, 1, 105), (.bipush 24, 2, 0, 0, 0), (.invokevirtual 101, 3, 11, 2, 219), (.aload_n 0, 1, 0, 0, 0), (.getfield 16, 3, 3, 1, 105), (.getfield 51, 3, 1, 0, 44), (.bipush 54, 2, 0, 0, 0), (.iaload, 1, 0, 0, 0), (.istore 4, 2, 0, 0, 0), (.iload_n 1, 1, 0, 0, 0), (.iconst (-1), 1, 0, 0, 0), (.if_icmp .eq 9, 3, 0, 0, 0), (.iload 4, 2, 0, 0, 0), (.iload_n 2, 1, 0, 0, 0), (.if_icmp .ge 8, 3, 0, 0, 0)]
set_option maxRecDepth 20000 in
theorem o_V_mainValve_6 : am_okB mt_V_mainValve 6 k_V_mainValve_6 = true := by decide +kernel
theorem g_V_mainValve_6 {L : am_S} {n : Nat} {ls st : List Value} {M : am_M} {Q : am_Q} (h : am_B L mt_V_mainValve k_V_mainValve_6 n 6 ls st M Q) : am_R L mt_V_mainValve n 6 ls st M Q := am_go L mt_V_mainValve (fun h => by cases h) k_V_mainValve_6 n 6 ls st M Q o_V_mainValve_6 h
def k_V_mainValve_71 : List am_I := [(.iload_n 3, 1, 0, 0, 0), (.istore_n 1, 1, 0, 0, 0), (.iload 4, 2, 0, 0, 0), (.istore_n 2, 1, 0, 0, 0)]
set_option maxRecDepth 20000 in
theorem o_V_mainValve_71 : am_okB mt_V_mainValve 71 k_V_mainValve_71 = true := by decide +kernel
theorem g_V_mainValve_71 {L : am_S} {n : Nat} {ls st : List Value} {M : am_M} {Q : am_Q} (h : am_B L mt_V_mainValve k_V_mainValve_71 n 71 ls st M Q) : am_R L mt_V_mainValve n 71 ls st M Q := am_go L mt_V_mainValve (fun h => by cases h) k_V_mainValve_71 n 71 ls st M Q o_V_mainValve_71 h
def k_V_mainValve_76 : List am_I := [(.iinc 3 1, 3, 0, 0, 0), (.goto (-73), 3, 0, 0, 0)]
set_option maxRecDepth 20000 in
theorem o_V_mainValve_76 : am_okB mt_V_mainValve 76 k_V_mainValve_76 = true := by decide +kernel
theorem g_V_mainValve_76 {L : am_S} {n : Nat} {ls st : List Value} {M : am_M} {Q : am_Q} (h : am_B L mt_V_mainValve k_V_mainValve_76 n 76 ls st M Q) : am_R L mt_V_mainValve n 76 ls st M Q := am_go L mt_V_mainValve (fun h => by cases h) k_V_mainValve_76 n 76 ls st M Q o_V_mainValve_76 h
def k_V_mainValve_82 : List am_I := [(.iload_n 1, 1, 0, 0, 0), (.ireturn, 1, 0, 0, 0)]
set_option maxRecDepth 20000 in
theorem o_V_mainValve_82 : am_okB mt_V_mainValve 82 k_V_mainValve_82 = true := by decide +kernel
theorem g_V_mainValve_82 {L : am_S} {n : Nat} {ls st : List Value} {M : am_M} {Q : am_Q} (h : am_B L mt_V_mainValve k_V_mainValve_82 n 82 ls st M Q) : am_R L mt_V_mainValve n 82 ls st M Q := am_go L mt_V_mainValve (fun h => by cases h) k_V_mainValve_82 n 82 ls st M Q o_V_mainValve_82 h
def k_V_goneShare_0 : List am_I := [(.iconst 0, 1, 0, 0, 0), (.istore_n 1, 1, 0, 0, 0), (.iconst 0, 1, 0, 0, 0), (.istore_n 2, 1, 0, 0, 0), (.iconst 0, 1, 0, 0, 0), (.istore_n 3, 1, 0, 0, 0)]
set_option maxRecDepth 20000 in
theorem o_V_goneShare_0 : am_okB mt_V_goneShare 0 k_V_goneShare_0 = true := by decide +kernel
theorem g_V_goneShare_0 {L : am_S} {n : Nat} {ls st : List Value} {M : am_M} {Q : am_Q} (h : am_B L mt_V_goneShare k_V_goneShare_0 n 0 ls st M Q) : am_R L mt_V_goneShare n 0 ls st M Q := am_go L mt_V_goneShare (fun h => by cases h) k_V_goneShare_0 n 0 ls st M Q o_V_goneShare_0 h
def k_V_goneShare_6 : List am_I := [(.iload_n 3, 1, 0, 0, 0), (.iconst 3, 1, 0, 0, 0), (.if_icmp .ge 39, 3, 0, 0, 0), (.iload_n 1, 1, 0, 0, 0), (.aload_n 0, 1, 0, 0, 0), (.getfield 12, 3, 3, 0, 104), (.getfield 51, 3, 1, 0, 44), (.bipush 45, 2, 0, 0, 0), (.iload_n 3, 1, 0, 0, 0), (.iadd, 1, 0, 0, 0), (.iaload, 1, 0, 0, 0), (.iadd, 1, 0, 0, 0), (.istore_n 1, 1, 0, 0, 0), (.iload_n 2, 1, 0, 0, 0), (.aload_n 0, 1, 0, 0, 0), (.getfield 12, 3, 3, 0, 104), (.getfield 51, 3, 1, 0, 44), (.bipush 48, 2, 0, 0, 0), (.iload_n 3, 1, 0, 0, 0), (.iadd, 1, 0, 0, 0), (.iaload, 1, 0, 0, 0), (.iadd, 1, 0, 0, 0), (.istore_n 2, 1, 0, 0, 0), (.iinc 3 1, 3, 0, 0, 0), (.goto (-38), 3, 0, 0, 0)]
set_option maxRecDepth 20000 in
theorem o_V_goneShare_6 : am_okB mt_V_goneShare 6 k_V_goneShare_6 = true := by decide +kernel
theorem g_V_goneShare_6 {L : am_S} {n : Nat} {ls st : List Value} {M : am_M} {Q : am_Q} (h : am_B L mt_V_goneShare k_V_goneShare_6 n 6 ls st M Q) : am_R L mt_V_goneShare n 6 ls st M Q := am_go L mt_V_goneShare (fun h => by cases h) k_V_goneShare_6 n 6 ls st M Q o_V_goneShare_6 h
def k_V_goneShare_47 : List am_I := [(.iload_n 1, 1, 0, 0, 0), (.ifCond .le 11, 3, 0, 0, 0), (.iload_n 2, 1, 0, 0, 0), (.i2d, 1, 0, 0, 0), (.iload_n 1, 1, 0, 0, 0), (.i2d, 1, 0, 0, 0), (.ddiv, 1, 0, 0, 0), (.goto 4, 3, 0, 0, 0)]
set_option maxRecDepth 20000 in
theorem o_V_goneShare_47 : am_okB mt_V_goneShare 47 k_V_goneShare_47 = true := by decide +kernel
theorem g_V_goneShare_47 {L : am_S} {n : Nat} {ls st : List Value} {M : am_M} {Q : am_Q} (h : am_B L mt_V_goneShare k_V_goneShare_47 n 47 ls st M Q) : am_R L mt_V_goneShare n 47 ls st M Q := am_go L mt_V_goneShare (fun h => by cases h) k_V_goneShare_47 n 47 ls st M Q o_V_goneShare_47 h
def k_V_goneShare_59 : List am_I := [(.dconst 0, 1, 0, 0, 0)]
set_option maxRecDepth 20000 in
theorem o_V_goneShare_59 : am_okB mt_V_goneShare 59 k_V_goneShare_59 = true := by decide +kernel
theorem g_V_goneShare_59 {L : am_S} {n : Nat} {ls st : List Value} {M : am_M} {Q : am_Q} (h : am_B L mt_V_goneShare k_V_goneShare_59 n 59 ls st M Q) : am_R L mt_V_goneShare n 59 ls st M Q := am_go L mt_V_goneShare (fun h => by cases h) k_V_goneShare_59 n 59 ls st M Q o_V_goneShare_59 h
def k_V_goneShare_60 : List am_I := [(.dreturn, 1, 0, 0, 0)]
set_option maxRecDepth 20000 in
theorem o_V_goneShare_60 : am_okB mt_V_goneShare 60 k_V_goneShare_60 = true := by decide +kernel
theorem g_V_goneShare_60 {L : am_S} {n : Nat} {ls st : List Value} {M : am_M} {Q : am_Q} (h : am_B L mt_V_goneShare k_V_goneShare_60 n 60 ls st M Q) : am_R L mt_V_goneShare n 60 ls st M Q := am_go L mt_V_goneShare (fun h => by cases h) k_V_goneShare_60 n 60 ls st M Q o_V_goneShare_60 h
def k_V_numberOf_0 : List am_I := [(.iload_n 1, 1, 0, 0, 0), (.tableswitch 141 0 8 #[51, 59, 70, 81, 89, 97, 108, 119, 130], 51, 0, 0, 0)]
set_option maxRecDepth 20000 in
theorem o_V_numberOf_0 : am_okB mt_V_numberOf 0 k_V_numberOf_0 = true := by decide +kernel
theorem g_V_numberOf_0 {L : am_S} {n : Nat} {ls st : List Value} {M : am_M} {Q : am_Q} (h : am_B L mt_V_numberOf k_V_numberOf_0 n 0 ls st M Q) : am_R L mt_V_numberOf n 0 ls st M Q := am_go L mt_V_numberOf (fun h => by cases h) k_V_numberOf_0 n 0 ls st M Q o_V_numberOf_0 h
def k_V_numberOf_52 : List am_I := [(.aload_n 0, 1, 0, 0, 0), (.getfield 12, 3, 3, 0, 104), (.invokevirtual 139, 3, 2, 1, 349), (.ireturn, 1, 0, 0, 0)]
set_option maxRecDepth 20000 in
theorem o_V_numberOf_52 : am_okB mt_V_numberOf 52 k_V_numberOf_52 = true := by decide +kernel
theorem g_V_numberOf_52 {L : am_S} {n : Nat} {ls st : List Value} {M : am_M} {Q : am_Q} (h : am_B L mt_V_numberOf k_V_numberOf_52 n 52 ls st M Q) : am_R L mt_V_numberOf n 52 ls st M Q := am_go L mt_V_numberOf (fun h => by cases h) k_V_numberOf_52 n 52 ls st M Q o_V_numberOf_52 h
def k_V_numberOf_60 : List am_I := [(.aload_n 0, 1, 0, 0, 0), (.getfield 12, 3, 3, 0, 104), (.getfield 51, 3, 1, 0, 44), (.bipush 52, 2, 0, 0, 0), (.iaload, 1, 0, 0, 0), (.ireturn, 1, 0, 0, 0)]
set_option maxRecDepth 20000 in
theorem o_V_numberOf_60 : am_okB mt_V_numberOf 60 k_V_numberOf_60 = true := by decide +kernel
theorem g_V_numberOf_60 {L : am_S} {n : Nat} {ls st : List Value} {M : am_M} {Q : am_Q} (h : am_B L mt_V_numberOf k_V_numberOf_60 n 60 ls st M Q) : am_R L mt_V_numberOf n 60 ls st M Q := am_go L mt_V_numberOf (fun h => by cases h) k_V_numberOf_60 n 60 ls st M Q o_V_numberOf_60 h
def k_V_numberOf_71 : List am_I := [(.aload_n 0, 1, 0, 0, 0), (.getfield 12, 3, 3, 0, 104), (.getfield 51, 3, 1, 0, 44), (.bipush 56, 2, 0, 0, 0), (.iaload, 1, 0, 0, 0), (.ireturn, 1, 0, 0, 0)]
set_option maxRecDepth 20000 in
theorem o_V_numberOf_71 : am_okB mt_V_numberOf 71 k_V_numberOf_71 = true := by decide +kernel
theorem g_V_numberOf_71 {L : am_S} {n : Nat} {ls st : List Value} {M : am_M} {Q : am_Q} (h : am_B L mt_V_numberOf k_V_numberOf_71 n 71 ls st M Q) : am_R L mt_V_numberOf n 71 ls st M Q := am_go L mt_V_numberOf (fun h => by cases h) k_V_numberOf_71 n 71 ls st M Q o_V_numberOf_71 h
def k_V_numberOf_82 : List am_I := [(.aload_n 0, 1, 0, 0, 0), (.getfield 12, 3, 3, 0, 104), (.invokevirtual 210, 3, 4, 1, 371), (.ireturn, 1, 0, 0, 0)]
set_option maxRecDepth 20000 in
theorem o_V_numberOf_82 : am_okB mt_V_numberOf 82 k_V_numberOf_82 = true := by decide +kernel
theorem g_V_numberOf_82 {L : am_S} {n : Nat} {ls st : List Value} {M : am_M} {Q : am_Q} (h : am_B L mt_V_numberOf k_V_numberOf_82 n 82 ls st M Q) : am_R L mt_V_numberOf n 82 ls st M Q := am_go L mt_V_numberOf (fun h => by cases h) k_V_numberOf_82 n 82 ls st M Q o_V_numberOf_82 h
def k_V_numberOf_90 : List am_I := [(.aload_n 0, 1, 0, 0, 0), (.getfield 12, 3, 3, 0, 104), (.invokevirtual 213, 3, 5, 1, 381), (.ireturn, 1, 0, 0, 0)]
set_option maxRecDepth 20000 in
theorem o_V_numberOf_90 : am_okB mt_V_numberOf 90 k_V_numberOf_90 = true := by decide +kernel
theorem g_V_numberOf_90 {L : am_S} {n : Nat} {ls st : List Value} {M : am_M} {Q : am_Q} (h : am_B L mt_V_numberOf k_V_numberOf_90 n 90 ls st M Q) : am_R L mt_V_numberOf n 90 ls st M Q := am_go L mt_V_numberOf (fun h => by cases h) k_V_numberOf_90 n 90 ls st M Q o_V_numberOf_90 h
def k_V_numberOf_98 : List am_I := [(.aload_n 0, 1, 0, 0, 0), (.getfield 12, 3, 3, 0, 104), (.getfield 51, 3, 1, 0, 44), (.bipush 54, 2, 0, 0, 0), (.iaload, 1, 0, 0, 0), (.ireturn, 1, 0, 0, 0)]
set_option maxRecDepth 20000 in
theorem o_V_numberOf_98 : am_okB mt_V_numberOf 98 k_V_numberOf_98 = true := by decide +kernel
theorem g_V_numberOf_98 {L : am_S} {n : Nat} {ls st : List Value} {M : am_M} {Q : am_Q} (h : am_B L mt_V_numberOf k_V_numberOf_98 n 98 ls st M Q) : am_R L mt_V_numberOf n 98 ls st M Q := am_go L mt_V_numberOf (fun h => by cases h) k_V_numberOf_98 n 98 ls st M Q o_V_numberOf_98 h
def k_V_numberOf_109 : List am_I := [(.aload_n 0, 1, 0, 0, 0), (.getfield 12, 3, 3, 0, 104), (.getfield 51, 3, 1, 0, 44), (.bipush 53, 2, 0, 0, 0), (.iaload, 1, 0, 0, 0), (.ireturn, 1, 0, 0, 0)]
set_option maxRecDepth 20000 in
theorem o_V_numberOf_109 : am_okB mt_V_numberOf 109 k_V_numberOf_109 = true := by decide +kernel
theorem g_V_numberOf_109 {L : am_S} {n : Nat} {ls st : List Value} {M : am_M} {Q : am_Q} (h : am_B L mt_V_numberOf k_V_numberOf_109 n 109 ls st M Q) : am_R L mt_V_numberOf n 109 ls st M Q := am_go L mt_V_numberOf (fun h => by cases h) k_V_numberOf_109 n 109 ls st M Q o_V_numberOf_109 h
def k_V_numberOf_120 : List am_I := [(.aload_n 0, 1, 0, 0, 0), (.getfield 12, 3, 3, 0, 104), (.getfield 51, 3, 1, 0, 44), (.bipush 55, 2, 0, 0, 0), (.iaload, 1, 0, 0, 0), (.ireturn, 1, 0, 0, 0)]
set_option maxRecDepth 20000 in
theorem o_V_numberOf_120 : am_okB mt_V_numberOf 120 k_V_numberOf_120 = true := by decide +kernel
theorem g_V_numberOf_120 {L : am_S} {n : Nat} {ls st : List Value} {M : am_M} {Q : am_Q} (h : am_B L mt_V_numberOf k_V_numberOf_120 n 120 ls st M Q) : am_R L mt_V_numberOf n 120 ls st M Q := am_go L mt_V_numberOf (fun h => by cases h) k_V_numberOf_120 n 120 ls st M Q o_V_numberOf_120 h
def k_V_numberOf_131 : List am_I := [(.aload_n 0, 1, 0, 0, 0), (.getfield 12, 3, 3, 0, 104), (.getfield 51, 3, 1, 0, 44), (.bipush 51, 2, 0, 0, 0), (.iaload, 1, 0, 0, 0), (.ireturn, 1, 0, 0, 0)]
set_option maxRecDepth 20000 in
theorem o_V_numberOf_131 : am_okB mt_V_numberOf 131 k_V_numberOf_131 = true := by decide +kernel
theorem g_V_numberOf_131 {L : am_S} {n : Nat} {ls st : List Value} {M : am_M} {Q : am_Q} (h : am_B L mt_V_numberOf k_V_numberOf_131 n 131 ls st M Q) : am_R L mt_V_numberOf n 131 ls st M Q := am_go L mt_V_numberOf (fun h => by cases h) k_V_numberOf_131 n 131 ls st M Q o_V_numberOf_131 h
def k_V_numberOf_142 : List am_I := [(.aload_n 0, 1, 0, 0, 0), (.getfield 47, 3, 3, 8, 112), (.ireturn, 1, 0, 0, 0)]
set_option maxRecDepth 20000 in
theorem o_V_numberOf_142 : am_okB mt_V_numberOf 142 k_V_numberOf_142 = true := by decide +kernel
theorem g_V_numberOf_142 {L : am_S} {n : Nat} {ls st : List Value} {M : am_M} {Q : am_Q} (h : am_B L mt_V_numberOf k_V_numberOf_142 n 142 ls st M Q) : am_R L mt_V_numberOf n 142 ls st M Q := am_go L mt_V_numberOf (fun h => by cases h) k_V_numberOf_142 n 142 ls st M Q o_V_numberOf_142 h
def k_V_findEmptyHours_0 : List am_I := [(.aload_n 0, 1, 0, 0, 0), (.getfield 16, 3, 3, 1, 105), (.aload_n 0, 1, 0, 0, 0), (.getfield 12, 3, 3, 0, 104), (.invokevirtual 159, 3, 1, 2, 212), (.iconst 0, 1, 0, 0, 0), (.istore_n 1, 1, 0, 0, 0)]
set_option maxRecDepth 20000 in
theorem o_V_findEmptyHours_0 : am_okB mt_V_findEmptyHours 0 k_V_findEmptyHours_0 = true := by decide +kernel
theorem g_V_findEmptyHours_0 {L : am_S} {n : Nat} {ls st : List Value} {M : am_M} {Q : am_Q} (h : am_B L mt_V_findEmptyHours k_V_findEmptyHours_0 n 0 ls st M Q) : am_R L mt_V_findEmptyHours n 0 ls st M Q := am_go L mt_V_findEmptyHours (fun h => by cases h) k_V_findEmptyHours_0 n 0 ls st M Q o_V_findEmptyHours_0 h
def k_V_findEmptyHours_13 : List am_I := [(.iload_n 1, 1, 0, 0, 0), (.iconst 5, 1, 0, 0, 0), (.if_icmp .ge 16, 3, 0, 0, 0), (.aload_n 0, 1, 0, 0, 0), (.getfield 33, 3, 3, 4, 108), (.iload_n 1, 1, 0, 0, 0), (.iconst (-1), 1, 0, 0, 0), (.iastore, 1, 0, 0, 0), (.iinc 1 1, 3, 0, 0, 0), (.goto (-15), 3, 0, 0, 0)]
set_option maxRecDepth 20000 in
theorem o_V_findEmptyHours_13 : am_okB mt_V_findEmptyHours 13 k_V_findEmptyHours_13 = true := by decide +kernel
theorem g_V_findEmptyHours_13 {L : am_S} {n : Nat} {ls st : List Value} {M : am_M} {Q : am_Q} (h : am_B L mt_V_findEmptyHours k_V_findEmptyHours_13 n 13 ls st M Q) : am_R L mt_V_findEmptyHours n 13 ls st M Q := am_go L mt_V_findEmptyHours (fun h => by cases h) k_V_findEmptyHours_13 n 13 ls st M Q o_V_findEmptyHours_13 h
def k_V_findEmptyHours_31 : List am_I := [(.iconst 0, 1, 0, 0, 0), (.istore_n 1, 1, 0, 0, 0)]
set_option maxRecDepth 20000 in
theorem o_V_findEmptyHours_31 : am_okB mt_V_findEmptyHours 31 k_V_findEmptyHours_31 = true := by decide +kernel
theorem g_V_findEmptyHours_31 {L : am_S} {n : Nat} {ls st : List Value} {M : am_M} {Q : am_Q} (h : am_B L mt_V_findEmptyHours k_V_findEmptyHours_31 n 31 ls st M Q) : am_R L mt_V_findEmptyHours n 31 ls st M Q := am_go L mt_V_findEmptyHours (fun h => by cases h) k_V_findEmptyHours_31 n 31 ls st M Q o_V_findEmptyHours_31 h
def k_V_findEmptyHours_33 : List am_I := [(.iload_n 1, 1, 0, 0, 0), (.sipush 240, 3, 0, 0, 0), (.if_icmp .gt 66, 3, 0, 0, 0), (.iload_n 1, 1, 0, 0, 0), (.ifCond .le 11, 3, 0, 0, 0), (.aload_n 0, 1, 0, 0, 0), (.getfield 16, 3, 3, 1, 105), (.iconst 1, 1, 0, 0, 0), (.invokevirtual 101, 3, 11, 2, 219)]
set_option maxRecDepth 20000 in
theorem o_V_findEmptyHours_33 : am_okB mt_V_findEmptyHours 33 k_V_findEmptyHours_33 = true := by decide +kernel
theorem g_V_findEmptyHours_33 {L : am_S} {n : Nat} {ls st : List Value} {M : am_M} {Q : am_Q} (h : am_B L mt_V_findEmptyHours k_V_findEmptyHours_33 n 33 ls st M Q) : am_R L mt_V_findEmptyHours n 33 ls st M Q := am_go L mt_V_findEmptyHours (fun h => by cases h) k_V_findEmptyHours_33 n 33 ls st M Q o_V_findEmptyHours_33 h
def k_V_findEmptyHours_52 : List am_I := [(.iconst 0, 1, 0, 0, 0), (.istore_n 2, 1, 0, 0, 0)]
set_option maxRecDepth 20000 in
theorem o_V_findEmptyHours_52 : am_okB mt_V_findEmptyHours 52 k_V_findEmptyHours_52 = true := by decide +kernel
theorem g_V_findEmptyHours_52 {L : am_S} {n : Nat} {ls st : List Value} {M : am_M} {Q : am_Q} (h : am_B L mt_V_findEmptyHours k_V_findEmptyHours_52 n 52 ls st M Q) : am_R L mt_V_findEmptyHours n 52 ls st M Q := am_go L mt_V_findEmptyHours (fun h => by cases h) k_V_findEmptyHours_52 n 52 ls st M Q o_V_findEmptyHours_52 h
def k_V_findEmptyHours_54 : List am_I := [(.iload_n 2, 1, 0, 0, 0), (.iconst 5, 1, 0, 0, 0), (.if_icmp .ge 41, 3, 0, 0, 0), (.aload_n 0, 1, 0, 0, 0), (.getfield 33, 3, 3, 4, 108), (.iload_n 2, 1, 0, 0, 0), (.iaload, 1, 0, 0, 0), (.iconst (-1), 1, 0, 0, 0), (.if_icmp .ne 25, 3, 0, 0, 0), (.aload_n 0, 1, 0, 0, 0), (.getfield 16, 3, 3, 1, 105), (.getfield 51, 3, 1, 0, 44), (.bipush 10, 2, 0, 0, 0), (.iload_n 2, 1, 0, 0, 0), (.iadd, 1, 0, 0, 0), (.iaload, 1, 0, 0, 0), (.ifCond .ne 10, 3, 0, 0, 0), (.aload_n 0, 1, 0, 0, 0), (.getfield 33, 3, 3, 4, 108), (.iload_n 2, 1, 0, 0, 0), (.iload_n 1, 1, 0, 0, 0), (.iastore, 1, 0, 0, 0)]
set_option maxRecDepth 20000 in
theorem o_V_findEmptyHours_54 : am_okB mt_V_findEmptyHours 54 k_V_findEmptyHours_54 = true := by decide +kernel
theorem g_V_findEmptyHours_54 {L : am_S} {n : Nat} {ls st : List Value} {M : am_M} {Q : am_Q} (h : am_B L mt_V_findEmptyHours k_V_findEmptyHours_54 n 54 ls st M Q) : am_R L mt_V_findEmptyHours n 54 ls st M Q := am_go L mt_V_findEmptyHours (fun h => by cases h) k_V_findEmptyHours_54 n 54 ls st M Q o_V_findEmptyHours_54 h
def k_V_findEmptyHours_91 : List am_I := [(.iinc 2 1, 3, 0, 0, 0), (.goto (-40), 3, 0, 0, 0)]
set_option maxRecDepth 20000 in
theorem o_V_findEmptyHours_91 : am_okB mt_V_findEmptyHours 91 k_V_findEmptyHours_91 = true := by decide +kernel
theorem g_V_findEmptyHours_91 {L : am_S} {n : Nat} {ls st : List Value} {M : am_M} {Q : am_Q} (h : am_B L mt_V_findEmptyHours k_V_findEmptyHours_91 n 91 ls st M Q) : am_R L mt_V_findEmptyHours n 91 ls st M Q := am_go L mt_V_findEmptyHours (fun h => by cases h) k_V_findEmptyHours_91 n 91 ls st M Q o_V_findEmptyHours_91 h
def k_V_findEmptyHours_97 : List am_I := [(.iinc 1 1, 3, 0, 0, 0), (.goto (-67), 3, 0, 0, 0)]
set_option maxRecDepth 20000 in
theorem o_V_findEmptyHours_97 : am_okB mt_V_findEmptyHours 97 k_V_findEmptyHours_97 = true := by decide +kernel
theorem g_V_findEmptyHours_97 {L : am_S} {n : Nat} {ls st : List Value} {M : am_M} {Q : am_Q} (h : am_B L mt_V_findEmptyHours k_V_findEmptyHours_97 n 97 ls st M Q) : am_R L mt_V_findEmptyHours n 97 ls st M Q := am_go L mt_V_findEmptyHours (fun h => by cases h) k_V_findEmptyHours_97 n 97 ls st M Q o_V_findEmptyHours_97 h
def k_V_findEmptyHours_103 : List am_I := [(.return_, 1, 0, 0, 0)]
set_option maxRecDepth 20000 in
theorem o_V_findEmptyHours_103 : am_okB mt_V_findEmptyHours 103 k_V_findEmptyHours_103 = true := by decide +kernel
theorem g_V_findEmptyHours_103 {L : am_S} {n : Nat} {ls st : List Value} {M : am_M} {Q : am_Q} (h : am_B L mt_V_findEmptyHours k_V_findEmptyHours_103 n 103 ls st M Q) : am_R L mt_V_findEmptyHours n 103 ls st M Q := am_go L mt_V_findEmptyHours (fun h => by cases h) k_V_findEmptyHours_103 n 103 ls st M Q o_V_findEmptyHours_103 h
def k_V_saveState_0 : List am_I := [(.aload_n 0, 1, 0, 0, 0), (.getfield 47, 3, 3, 8, 112), (.ifCond .lt 12, 3, 0, 0, 0), (.aload_n 0, 1, 0, 0, 0), (.getfield 47, 3, 3, 8, 112), (.bipush 6, 2, 0, 0, 0), (.if_icmp .lt 29, 3, 0, 0, 0)]
set_option maxRecDepth 20000 in
theorem o_V_saveState_0 : am_okB mt_V_saveState 0 k_V_saveState_0 = true := by decide +kernel
theorem g_V_saveState_0 {L : am_S} {n : Nat} {ls st : List Value} {M : am_M} {Q : am_Q} (h : am_B L mt_V_saveState k_V_saveState_0 n 0 ls st M Q) : am_R L mt_V_saveState n 0 ls st M Q := am_go L mt_V_saveState (fun h => by cases h) k_V_saveState_0 n 0 ls st M Q o_V_saveState_0 h
def k_V_saveState_16 : List am_I := [(.aload_n 0, 1, 0, 0, 0), (.iconst 5, 1, 0, 0, 0), (.putfield 47, 3, 3, 8, 112), (.aload_n 0, 1, 0, 0, 0), (.getfield 44, 3, 3, 7, 111), (.bipush 105, 2, 0, 0, 0), (.aload_n 0, 1, 0, 0, 0), (.getfield 44, 3, 3, 7, 111), (.iconst 0, 1, 0, 0, 0), (.aload_n 0, 1, 0, 0, 0), (.getfield 47, 3, 3, 8, 112), (.bipush 105, 2, 0, 0, 0), (.imul, 1, 0, 0, 0), (.invokestatic 133, 3, 202, 5, 348)]
set_option maxRecDepth 20000 in
theorem o_V_saveState_16 : am_okB mt_V_saveState 16 k_V_saveState_16 = true := by decide +kernel
theorem g_V_saveState_16 {L : am_S} {n : Nat} {ls st : List Value} {M : am_M} {Q : am_Q} (h : am_B L mt_V_saveState k_V_saveState_16 n 16 ls st M Q) : am_R L mt_V_saveState n 16 ls st M Q := am_go L mt_V_saveState (fun h => by cases h) k_V_saveState_16 n 16 ls st M Q o_V_saveState_16 h
def k_V_saveState_42 : List am_I := [(.aload_n 0, 1, 0, 0, 0), (.getfield 12, 3, 3, 0, 104), (.getfield 51, 3, 1, 0, 44), (.iconst 0, 1, 0, 0, 0), (.aload_n 0, 1, 0, 0, 0), (.getfield 44, 3, 3, 7, 111), (.aload_n 0, 1, 0, 0, 0), (.getfield 47, 3, 3, 8, 112), (.bipush 105, 2, 0, 0, 0), (.imul, 1, 0, 0, 0), (.bipush 105, 2, 0, 0, 0), (.invokestatic 133, 3, 202, 5, 348), (.aload_n 0, 1, 0, 0, 0), (.dup, 1, 0, 0, 0), (.getfield 47, 3, 3, 8, 112), (.iconst 1, 1, 0, 0, 0), (.iadd, 1, 0, 0, 0), (.putfield 47, 3, 3, 8, 112), (.return_, 1, 0, 0, 0)]
set_option maxRecDepth 20000 in
theorem o_V_saveState_42 : am_okB mt_V_saveState 42 k_V_saveState_42 = true := by decide +kernel
theorem g_V_saveState_42 {L : am_S} {n : Nat} {ls st : List Value} {M : am_M} {Q : am_Q} (h : am_B L mt_V_saveState k_V_saveState_42 n 42 ls st M Q) : am_R L mt_V_saveState n 42 ls st M Q := am_go L mt_V_saveState (fun h => by cases h) k_V_saveState_42 n 42 ls st M Q o_V_saveState_42 h
def k_V_refuse_0 : List am_I := [(.aload_n 0, 1, 0, 0, 0), (.getfield 12, 3, 3, 0, 104), (.getfield 51, 3, 1, 0, 44), (.bipush 55, 2, 0, 0, 0), (.dup2, 1, 0, 0, 0), (.iaload, 1, 0, 0, 0), (.iconst 1, 1, 0, 0, 0), (.iadd, 1, 0, 0, 0), (.iastore, 1, 0, 0, 0), (.iconst (-1), 1, 0, 0, 0), (.ireturn, 1, 0, 0, 0)]
set_option maxRecDepth 20000 in
theorem o_V_refuse_0 : am_okB mt_V_refuse 0 k_V_refuse_0 = true := by decide +kernel
theorem g_V_refuse_0 {L : am_S} {n : Nat} {ls st : List Value} {M : am_M} {Q : am_Q} (h : am_B L mt_V_refuse k_V_refuse_0 n 0 ls st M Q) : am_R L mt_V_refuse n 0 ls st M Q := am_go L mt_V_refuse (fun h => by cases h) k_V_refuse_0 n 0 ls st M Q o_V_refuse_0 h
def k_V_requireVat_0 : List am_I := [(.iload_n 0, 1, 0, 0, 0), (.ifCond .lt 8, 3, 0, 0, 0), (.iload_n 0, 1, 0, 0, 0), (.iconst 5, 1, 0, 0, 0), (.if_icmp .lt 13, 3, 0, 0, 0)]
set_option maxRecDepth 20000 in
theorem o_V_requireVat_0 : am_okB mt_V_requireVat 0 k_V_requireVat_0 = true := by decide +kernel
theorem g_V_requireVat_0 {L : am_S} {n : Nat} {ls st : List Value} {M : am_M} {Q : am_Q} (h : am_B L mt_V_requireVat k_V_requireVat_0 n 0 ls st M Q) : am_R L mt_V_requireVat n 0 ls st M Q := am_go L mt_V_requireVat (fun h => by cases h) k_V_requireVat_0 n 0 ls st M Q o_V_requireVat_0 h
def k_V_requireVat_9 : List am_I := [(.new 216, 3, 0, 218, 220)]
set_option maxRecDepth 20000 in
theorem o_V_requireVat_9 : am_okB mt_V_requireVat 9 k_V_requireVat_9 = true := by decide +kernel
theorem g_V_requireVat_9 {L : am_S} {n : Nat} {ls st : List Value} {M : am_M} {Q : am_Q} (h : am_B L mt_V_requireVat k_V_requireVat_9 n 9 ls st M Q) : am_R L mt_V_requireVat n 9 ls st M Q := am_go L mt_V_requireVat (fun h => by cases h) k_V_requireVat_9 n 9 ls st M Q o_V_requireVat_9 h
def k_V_requireVat_19 : List am_I := [(.return_, 1, 0, 0, 0)]
set_option maxRecDepth 20000 in
theorem o_V_requireVat_19 : am_okB mt_V_requireVat 19 k_V_requireVat_19 = true := by decide +kernel
theorem g_V_requireVat_19 {L : am_S} {n : Nat} {ls st : List Value} {M : am_M} {Q : am_Q} (h : am_B L mt_V_requireVat k_V_requireVat_19 n 19 ls st M Q) : am_R L mt_V_requireVat n 19 ls st M Q := am_go L mt_V_requireVat (fun h => by cases h) k_V_requireVat_19 n 19 ls st M Q o_V_requireVat_19 h
def k_V_requireDye_0 : List am_I := [(.iload_n 0, 1, 0, 0, 0), (.ifCond .lt 8, 3, 0, 0, 0), (.iload_n 0, 1, 0, 0, 0), (.iconst 3, 1, 0, 0, 0), (.if_icmp .lt 13, 3, 0, 0, 0)]
set_option maxRecDepth 20000 in
theorem o_V_requireDye_0 : am_okB mt_V_requireDye 0 k_V_requireDye_0 = true := by decide +kernel
theorem g_V_requireDye_0 {L : am_S} {n : Nat} {ls st : List Value} {M : am_M} {Q : am_Q} (h : am_B L mt_V_requireDye k_V_requireDye_0 n 0 ls st M Q) : am_R L mt_V_requireDye n 0 ls st M Q := am_go L mt_V_requireDye (fun h => by cases h) k_V_requireDye_0 n 0 ls st M Q o_V_requireDye_0 h
def k_V_requireDye_9 : List am_I := [(.new 216, 3, 0, 221, 220)]
set_option maxRecDepth 20000 in
theorem o_V_requireDye_9 : am_okB mt_V_requireDye 9 k_V_requireDye_9 = true := by decide +kernel
theorem g_V_requireDye_9 {L : am_S} {n : Nat} {ls st : List Value} {M : am_M} {Q : am_Q} (h : am_B L mt_V_requireDye k_V_requireDye_9 n 9 ls st M Q) : am_R L mt_V_requireDye n 9 ls st M Q := am_go L mt_V_requireDye (fun h => by cases h) k_V_requireDye_9 n 9 ls st M Q o_V_requireDye_9 h
def k_V_requireDye_19 : List am_I := [(.return_, 1, 0, 0, 0)]
set_option maxRecDepth 20000 in
theorem o_V_requireDye_19 : am_okB mt_V_requireDye 19 k_V_requireDye_19 = true := by decide +kernel
theorem g_V_requireDye_19 {L : am_S} {n : Nat} {ls st : List Value} {M : am_M} {Q : am_Q} (h : am_B L mt_V_requireDye k_V_requireDye_19 n 19 ls st M Q) : am_R L mt_V_requireDye n 19 ls st M Q := am_go L mt_V_requireDye (fun h => by cases h) k_V_requireDye_19 n 19 ls st M Q o_V_requireDye_19 h
def k_V_requireValve_0 : List am_I := [(.iload_n 1, 1, 0, 0, 0), (.ifCond .lt 23, 3, 0, 0, 0), (.iload_n 1, 1, 0, 0, 0), (.aload_n 0, 1, 0, 0, 0), (.getfield 12, 3, 3, 0, 104), (.getfield 51, 3, 1, 0, 44), (.bipush 56, 2, 0, 0, 0), (.iaload, 1, 0, 0, 0), (.if_icmp .ge 9, 3, 0, 0, 0), (.iload_n 1, 1, 0, 0, 0), (.bipush 8, 2, 0, 0, 0), (.if_icmp .lt 13, 3, 0, 0, 0)]
set_option maxRecDepth 20000 in
theorem o_V_requireValve_0 : am_okB mt_V_requireValve 0 k_V_requireValve_0 = true := by decide +kernel
theorem g_V_requireValve_0 {L : am_S} {n : Nat} {ls st : List Value} {M : am_M} {Q : am_Q} (h : am_B L mt_V_requireValve k_V_requireValve_0 n 0 ls st M Q) : am_R L mt_V_requireValve n 0 ls st M Q := am_go L mt_V_requireValve (fun h => by cases h) k_V_requireValve_0 n 0 ls st M Q o_V_requireValve_0 h
def k_V_requireValve_24 : List am_I := [(.new 216, 3, 0, 223, 220)]
set_option maxRecDepth 20000 in
theorem o_V_requireValve_24 : am_okB mt_V_requireValve 24 k_V_requireValve_24 = true := by decide +kernel
theorem g_V_requireValve_24 {L : am_S} {n : Nat} {ls st : List Value} {M : am_M} {Q : am_Q} (h : am_B L mt_V_requireValve k_V_requireValve_24 n 24 ls st M Q) : am_R L mt_V_requireValve n 24 ls st M Q := am_go L mt_V_requireValve (fun h => by cases h) k_V_requireValve_24 n 24 ls st M Q o_V_requireValve_24 h
def k_V_requireValve_34 : List am_I := [(.return_, 1, 0, 0, 0)]
set_option maxRecDepth 20000 in
theorem o_V_requireValve_34 : am_okB mt_V_requireValve 34 k_V_requireValve_34 = true := by decide +kernel
theorem g_V_requireValve_34 {L : am_S} {n : Nat} {ls st : List Value} {M : am_M} {Q : am_Q} (h : am_B L mt_V_requireValve k_V_requireValve_34 n 34 ls st M Q) : am_R L mt_V_requireValve n 34 ls st M Q := am_go L mt_V_requireValve (fun h => by cases h) k_V_requireValve_34 n 34 ls st M Q o_V_requireValve_34 h
def k_V_requireRange_0 : List am_I := [(.iload_n 0, 1, 0, 0, 0), (.iload_n 1, 1, 0, 0, 0), (.if_icmp .lt 8, 3, 0, 0, 0), (.iload_n 0, 1, 0, 0, 0), (.iload_n 2, 1, 0, 0, 0), (.if_icmp .le 13, 3, 0, 0, 0)]
set_option maxRecDepth 20000 in
theorem o_V_requireRange_0 : am_okB mt_V_requireRange 0 k_V_requireRange_0 = true := by decide +kernel
theorem g_V_requireRange_0 {L : am_S} {n : Nat} {ls st : List Value} {M : am_M} {Q : am_Q} (h : am_B L mt_V_requireRange k_V_requireRange_0 n 0 ls st M Q) : am_R L mt_V_requireRange n 0 ls st M Q := am_go L mt_V_requireRange (fun h => by cases h) k_V_requireRange_0 n 0 ls st M Q o_V_requireRange_0 h
def k_V_requireRange_10 : List am_I := [(.new 84, 3, 1, 225, 88)]
set_option maxRecDepth 20000 in
theorem o_V_requireRange_10 : am_okB mt_V_requireRange 10 k_V_requireRange_10 = true := by decide +kernel
theorem g_V_requireRange_10 {L : am_S} {n : Nat} {ls st : List Value} {M : am_M} {Q : am_Q} (h : am_B L mt_V_requireRange k_V_requireRange_10 n 10 ls st M Q) : am_R L mt_V_requireRange n 10 ls st M Q := am_go L mt_V_requireRange (fun h => by cases h) k_V_requireRange_10 n 10 ls st M Q o_V_requireRange_10 h
def k_V_requireRange_20 : List am_I := [(.return_, 1, 0, 0, 0)]
set_option maxRecDepth 20000 in
theorem o_V_requireRange_20 : am_okB mt_V_requireRange 20 k_V_requireRange_20 = true := by decide +kernel
theorem g_V_requireRange_20 {L : am_S} {n : Nat} {ls st : List Value} {M : am_M} {Q : am_Q} (h : am_B L mt_V_requireRange k_V_requireRange_20 n 20 ls st M Q) : am_R L mt_V_requireRange n 20 ls st M Q := am_go L mt_V_requireRange (fun h => by cases h) k_V_requireRange_20 n 20 ls st M Q o_V_requireRange_20 h
