/-! the law: blocks of code, written by wip/p29/mk15.py out of what TURN printed of the program -/
def k_L_low_0 : List am_I := [(.iload_n 0, 1, 0, 0, 0), (.ldc 8, 2, 2147483647, 0, 318), (.iand, 1, 0, 0, 0), (.iload_n 1, 1, 0, 0, 0), (.irem, 1, 0, 0, 0), (.ireturn, 1, 0, 0, 0)]
set_option maxRecDepth 20000 in
theorem o_L_low_0 : am_okB mt_L_low 0 k_L_low_0 = true := by decide +kernel
theorem g_L_low_0 {L : am_S} {n : Nat} {ls st : List Value} {M : am_M} {Q : am_Q} (h : am_B L mt_L_low k_L_low_0 n 0 ls st M Q) : am_R L mt_L_low n 0 ls st M Q := am_go L mt_L_low (fun h => by cases h) k_L_low_0 n 0 ls st M Q o_L_low_0 h
def k_L_fill_0 : List am_I := [(.aload_n 0, 1, 0, 0, 0), (.iload_n 1, 1, 0, 0, 0), (.iload_n 2, 1, 0, 0, 0), (.invokevirtual 9, 3, 25, 3, 436), (.istore_n 3, 1, 0, 0, 0), (.goto 13, 3, 0, 0, 0)]
set_option maxRecDepth 20000 in
theorem o_L_fill_0 : am_okB mt_L_fill 0 k_L_fill_0 = true := by decide +kernel
theorem g_L_fill_0 {L : am_S} {n : Nat} {ls st : List Value} {M : am_M} {Q : am_Q} (h : am_B L mt_L_fill k_L_fill_0 n 0 ls st M Q) : am_R L mt_L_fill n 0 ls st M Q := am_go L mt_L_fill (fun h => by cases h) k_L_fill_0 n 0 ls st M Q o_L_fill_0 h
def k_L_fill_10 : List am_I := [(.astore 4, 2, 0, 0, 0), (.bipush (-31), 2, 0, 0, 0), (.ireturn, 1, 0, 0, 0)]
set_option maxRecDepth 20000 in
theorem o_L_fill_10 : am_okB mt_L_fill 10 k_L_fill_10 = true := by decide +kernel
theorem g_L_fill_10 {L : am_S} {n : Nat} {ls st : List Value} {M : am_M} {Q : am_Q} (h : am_B L mt_L_fill k_L_fill_10 n 10 ls st M Q) : am_R L mt_L_fill n 10 ls st M Q := am_go L mt_L_fill (fun h => by cases h) k_L_fill_10 n 10 ls st M Q o_L_fill_10 h
def k_L_fill_15 : List am_I := [(.astore 4, 2, 0, 0, 0), (.bipush (-32), 2, 0, 0, 0), (.ireturn, 1, 0, 0, 0)]
set_option maxRecDepth 20000 in
theorem o_L_fill_15 : am_okB mt_L_fill 15 k_L_fill_15 = true := by decide +kernel
theorem g_L_fill_15 {L : am_S} {n : Nat} {ls st : List Value} {M : am_M} {Q : am_Q} (h : am_B L mt_L_fill k_L_fill_15 n 15 ls st M Q) : am_R L mt_L_fill n 15 ls st M Q := am_go L mt_L_fill (fun h => by cases h) k_L_fill_15 n 15 ls st M Q o_L_fill_15 h
def k_L_fill_20 : List am_I := [(.iload_n 3, 1, 0, 0, 0), (.ireturn, 1, 0, 0, 0)]
set_option maxRecDepth 20000 in
theorem o_L_fill_20 : am_okB mt_L_fill 20 k_L_fill_20 = true := by decide +kernel
theorem g_L_fill_20 {L : am_S} {n : Nat} {ls st : List Value} {M : am_M} {Q : am_Q} (h : am_B L mt_L_fill k_L_fill_20 n 20 ls st M Q) : am_R L mt_L_fill n 20 ls st M Q := am_go L mt_L_fill (fun h => by cases h) k_L_fill_20 n 20 ls st M Q o_L_fill_20 h
def k_L_dye_0 : List am_I := [(.aload_n 0, 1, 0, 0, 0), (.iload_n 1, 1, 0, 0, 0), (.iload_n 2, 1, 0, 0, 0), (.iload_n 3, 1, 0, 0, 0), (.invokevirtual 19, 3, 26, 4, 447), (.istore 4, 2, 0, 0, 0), (.goto 18, 3, 0, 0, 0)]
set_option maxRecDepth 20000 in
theorem o_L_dye_0 : am_okB mt_L_dye 0 k_L_dye_0 = true := by decide +kernel
theorem g_L_dye_0 {L : am_S} {n : Nat} {ls st : List Value} {M : am_M} {Q : am_Q} (h : am_B L mt_L_dye k_L_dye_0 n 0 ls st M Q) : am_R L mt_L_dye n 0 ls st M Q := am_go L mt_L_dye (fun h => by cases h) k_L_dye_0 n 0 ls st M Q o_L_dye_0 h
def k_L_dye_12 : List am_I := [(.astore 5, 2, 0, 0, 0), (.bipush (-31), 2, 0, 0, 0), (.ireturn, 1, 0, 0, 0)]
set_option maxRecDepth 20000 in
theorem o_L_dye_12 : am_okB mt_L_dye 12 k_L_dye_12 = true := by decide +kernel
theorem g_L_dye_12 {L : am_S} {n : Nat} {ls st : List Value} {M : am_M} {Q : am_Q} (h : am_B L mt_L_dye k_L_dye_12 n 12 ls st M Q) : am_R L mt_L_dye n 12 ls st M Q := am_go L mt_L_dye (fun h => by cases h) k_L_dye_12 n 12 ls st M Q o_L_dye_12 h
def k_L_dye_17 : List am_I := [(.astore 5, 2, 0, 0, 0), (.bipush (-32), 2, 0, 0, 0), (.ireturn, 1, 0, 0, 0)]
set_option maxRecDepth 20000 in
theorem o_L_dye_17 : am_okB mt_L_dye 17 k_L_dye_17 = true := by decide +kernel
theorem g_L_dye_17 {L : am_S} {n : Nat} {ls st : List Value} {M : am_M} {Q : am_Q} (h : am_B L mt_L_dye k_L_dye_17 n 17 ls st M Q) : am_R L mt_L_dye n 17 ls st M Q := am_go L mt_L_dye (fun h => by cases h) k_L_dye_17 n 17 ls st M Q o_L_dye_17 h
def k_L_dye_22 : List am_I := [(.astore 5, 2, 0, 0, 0), (.bipush (-33), 2, 0, 0, 0), (.ireturn, 1, 0, 0, 0)]
set_option maxRecDepth 20000 in
theorem o_L_dye_22 : am_okB mt_L_dye 22 k_L_dye_22 = true := by decide +kernel
theorem g_L_dye_22 {L : am_S} {n : Nat} {ls st : List Value} {M : am_M} {Q : am_Q} (h : am_B L mt_L_dye k_L_dye_22 n 22 ls st M Q) : am_R L mt_L_dye n 22 ls st M Q := am_go L mt_L_dye (fun h => by cases h) k_L_dye_22 n 22 ls st M Q o_L_dye_22 h
def k_L_dye_27 : List am_I := [(.iload 4, 2, 0, 0, 0), (.ireturn, 1, 0, 0, 0)]
set_option maxRecDepth 20000 in
theorem o_L_dye_27 : am_okB mt_L_dye 27 k_L_dye_27 = true := by decide +kernel
theorem g_L_dye_27 {L : am_S} {n : Nat} {ls st : List Value} {M : am_M} {Q : am_Q} (h : am_B L mt_L_dye k_L_dye_27 n 27 ls st M Q) : am_R L mt_L_dye n 27 ls st M Q := am_go L mt_L_dye (fun h => by cases h) k_L_dye_27 n 27 ls st M Q o_L_dye_27 h
def k_L_stir_0 : List am_I := [(.aload_n 0, 1, 0, 0, 0), (.iload_n 1, 1, 0, 0, 0), (.invokevirtual 25, 3, 27, 2, 456), (.istore_n 2, 1, 0, 0, 0), (.goto 7, 3, 0, 0, 0)]
set_option maxRecDepth 20000 in
theorem o_L_stir_0 : am_okB mt_L_stir 0 k_L_stir_0 = true := by decide +kernel
theorem g_L_stir_0 {L : am_S} {n : Nat} {ls st : List Value} {M : am_M} {Q : am_Q} (h : am_B L mt_L_stir k_L_stir_0 n 0 ls st M Q) : am_R L mt_L_stir n 0 ls st M Q := am_go L mt_L_stir (fun h => by cases h) k_L_stir_0 n 0 ls st M Q o_L_stir_0 h
def k_L_stir_9 : List am_I := [(.astore_n 3, 1, 0, 0, 0), (.bipush (-31), 2, 0, 0, 0), (.ireturn, 1, 0, 0, 0)]
set_option maxRecDepth 20000 in
theorem o_L_stir_9 : am_okB mt_L_stir 9 k_L_stir_9 = true := by decide +kernel
theorem g_L_stir_9 {L : am_S} {n : Nat} {ls st : List Value} {M : am_M} {Q : am_Q} (h : am_B L mt_L_stir k_L_stir_9 n 9 ls st M Q) : am_R L mt_L_stir n 9 ls st M Q := am_go L mt_L_stir (fun h => by cases h) k_L_stir_9 n 9 ls st M Q o_L_stir_9 h
def k_L_stir_13 : List am_I := [(.iload_n 2, 1, 0, 0, 0), (.ireturn, 1, 0, 0, 0)]
set_option maxRecDepth 20000 in
theorem o_L_stir_13 : am_okB mt_L_stir 13 k_L_stir_13 = true := by decide +kernel
theorem g_L_stir_13 {L : am_S} {n : Nat} {ls st : List Value} {M : am_M} {Q : am_Q} (h : am_B L mt_L_stir k_L_stir_13 n 13 ls st M Q) : am_R L mt_L_stir n 13 ls st M Q := am_go L mt_L_stir (fun h => by cases h) k_L_stir_13 n 13 ls st M Q o_L_stir_13 h
def k_L_capacity_0 : List am_I := [(.aload_n 0, 1, 0, 0, 0), (.iload_n 1, 1, 0, 0, 0), (.iload_n 2, 1, 0, 0, 0), (.invokevirtual 29, 3, 28, 3, 470), (.istore_n 3, 1, 0, 0, 0), (.goto 13, 3, 0, 0, 0)]
set_option maxRecDepth 20000 in
theorem o_L_capacity_0 : am_okB mt_L_capacity 0 k_L_capacity_0 = true := by decide +kernel
theorem g_L_capacity_0 {L : am_S} {n : Nat} {ls st : List Value} {M : am_M} {Q : am_Q} (h : am_B L mt_L_capacity k_L_capacity_0 n 0 ls st M Q) : am_R L mt_L_capacity n 0 ls st M Q := am_go L mt_L_capacity (fun h => by cases h) k_L_capacity_0 n 0 ls st M Q o_L_capacity_0 h
def k_L_capacity_10 : List am_I := [(.astore 4, 2, 0, 0, 0), (.bipush (-31), 2, 0, 0, 0), (.ireturn, 1, 0, 0, 0)]
set_option maxRecDepth 20000 in
theorem o_L_capacity_10 : am_okB mt_L_capacity 10 k_L_capacity_10 = true := by decide +kernel
theorem g_L_capacity_10 {L : am_S} {n : Nat} {ls st : List Value} {M : am_M} {Q : am_Q} (h : am_B L mt_L_capacity k_L_capacity_10 n 10 ls st M Q) : am_R L mt_L_capacity n 10 ls st M Q := am_go L mt_L_capacity (fun h => by cases h) k_L_capacity_10 n 10 ls st M Q o_L_capacity_10 h
def k_L_capacity_15 : List am_I := [(.astore 4, 2, 0, 0, 0), (.bipush (-32), 2, 0, 0, 0), (.ireturn, 1, 0, 0, 0)]
set_option maxRecDepth 20000 in
theorem o_L_capacity_15 : am_okB mt_L_capacity 15 k_L_capacity_15 = true := by decide +kernel
theorem g_L_capacity_15 {L : am_S} {n : Nat} {ls st : List Value} {M : am_M} {Q : am_Q} (h : am_B L mt_L_capacity k_L_capacity_15 n 15 ls st M Q) : am_R L mt_L_capacity n 15 ls st M Q := am_go L mt_L_capacity (fun h => by cases h) k_L_capacity_15 n 15 ls st M Q o_L_capacity_15 h
def k_L_capacity_20 : List am_I := [(.iload_n 3, 1, 0, 0, 0), (.ireturn, 1, 0, 0, 0)]
set_option maxRecDepth 20000 in
theorem o_L_capacity_20 : am_okB mt_L_capacity 20 k_L_capacity_20 = true := by decide +kernel
theorem g_L_capacity_20 {L : am_S} {n : Nat} {ls st : List Value} {M : am_M} {Q : am_Q} (h : am_B L mt_L_capacity k_L_capacity_20 n 20 ls st M Q) : am_R L mt_L_capacity n 20 ls st M Q := am_go L mt_L_capacity (fun h => by cases h) k_L_capacity_20 n 20 ls st M Q o_L_capacity_20 h
def k_L_valve_0 : List am_I := [(.aload_n 0, 1, 0, 0, 0), (.iload_n 1, 1, 0, 0, 0), (.iload_n 2, 1, 0, 0, 0), (.iload_n 3, 1, 0, 0, 0), (.iload 4, 2, 0, 0, 0), (.iload 5, 2, 0, 0, 0), (.invokevirtual 32, 3, 29, 6, 477), (.istore 6, 2, 0, 0, 0), (.goto 18, 3, 0, 0, 0)]
set_option maxRecDepth 20000 in
theorem o_L_valve_0 : am_okB mt_L_valve 0 k_L_valve_0 = true := by decide +kernel
theorem g_L_valve_0 {L : am_S} {n : Nat} {ls st : List Value} {M : am_M} {Q : am_Q} (h : am_B L mt_L_valve k_L_valve_0 n 0 ls st M Q) : am_R L mt_L_valve n 0 ls st M Q := am_go L mt_L_valve (fun h => by cases h) k_L_valve_0 n 0 ls st M Q o_L_valve_0 h
def k_L_valve_16 : List am_I := [(.astore 7, 2, 0, 0, 0), (.bipush (-31), 2, 0, 0, 0), (.ireturn, 1, 0, 0, 0)]
set_option maxRecDepth 20000 in
theorem o_L_valve_16 : am_okB mt_L_valve 16 k_L_valve_16 = true := by decide +kernel
theorem g_L_valve_16 {L : am_S} {n : Nat} {ls st : List Value} {M : am_M} {Q : am_Q} (h : am_B L mt_L_valve k_L_valve_16 n 16 ls st M Q) : am_R L mt_L_valve n 16 ls st M Q := am_go L mt_L_valve (fun h => by cases h) k_L_valve_16 n 16 ls st M Q o_L_valve_16 h
def k_L_valve_21 : List am_I := [(.astore 7, 2, 0, 0, 0), (.bipush (-32), 2, 0, 0, 0), (.ireturn, 1, 0, 0, 0)]
set_option maxRecDepth 20000 in
theorem o_L_valve_21 : am_okB mt_L_valve 21 k_L_valve_21 = true := by decide +kernel
theorem g_L_valve_21 {L : am_S} {n : Nat} {ls st : List Value} {M : am_M} {Q : am_Q} (h : am_B L mt_L_valve k_L_valve_21 n 21 ls st M Q) : am_R L mt_L_valve n 21 ls st M Q := am_go L mt_L_valve (fun h => by cases h) k_L_valve_21 n 21 ls st M Q o_L_valve_21 h
def k_L_valve_26 : List am_I := [(.astore 7, 2, 0, 0, 0), (.bipush (-33), 2, 0, 0, 0), (.ireturn, 1, 0, 0, 0)]
set_option maxRecDepth 20000 in
theorem o_L_valve_26 : am_okB mt_L_valve 26 k_L_valve_26 = true := by decide +kernel
theorem g_L_valve_26 {L : am_S} {n : Nat} {ls st : List Value} {M : am_M} {Q : am_Q} (h : am_B L mt_L_valve k_L_valve_26 n 26 ls st M Q) : am_R L mt_L_valve n 26 ls st M Q := am_go L mt_L_valve (fun h => by cases h) k_L_valve_26 n 26 ls st M Q o_L_valve_26 h
def k_L_valve_31 : List am_I := [(.iload 6, 2, 0, 0, 0), (.ireturn, 1, 0, 0, 0)]
set_option maxRecDepth 20000 in
theorem o_L_valve_31 : am_okB mt_L_valve 31 k_L_valve_31 = true := by decide +kernel
theorem g_L_valve_31 {L : am_S} {n : Nat} {ls st : List Value} {M : am_M} {Q : am_Q} (h : am_B L mt_L_valve k_L_valve_31 n 31 ls st M Q) : am_R L mt_L_valve n 31 ls st M Q := am_go L mt_L_valve (fun h => by cases h) k_L_valve_31 n 31 ls st M Q o_L_valve_31 h
def k_L_close_0 : List am_I := [(.aload_n 0, 1, 0, 0, 0), (.iload_n 1, 1, 0, 0, 0), (.invokevirtual 36, 3, 30, 2, 486), (.istore_n 2, 1, 0, 0, 0), (.goto 7, 3, 0, 0, 0)]
set_option maxRecDepth 20000 in
theorem o_L_close_0 : am_okB mt_L_close 0 k_L_close_0 = true := by decide +kernel
theorem g_L_close_0 {L : am_S} {n : Nat} {ls st : List Value} {M : am_M} {Q : am_Q} (h : am_B L mt_L_close k_L_close_0 n 0 ls st M Q) : am_R L mt_L_close n 0 ls st M Q := am_go L mt_L_close (fun h => by cases h) k_L_close_0 n 0 ls st M Q o_L_close_0 h
def k_L_close_9 : List am_I := [(.astore_n 3, 1, 0, 0, 0), (.bipush (-31), 2, 0, 0, 0), (.ireturn, 1, 0, 0, 0)]
set_option maxRecDepth 20000 in
theorem o_L_close_9 : am_okB mt_L_close 9 k_L_close_9 = true := by decide +kernel
theorem g_L_close_9 {L : am_S} {n : Nat} {ls st : List Value} {M : am_M} {Q : am_Q} (h : am_B L mt_L_close k_L_close_9 n 9 ls st M Q) : am_R L mt_L_close n 9 ls st M Q := am_go L mt_L_close (fun h => by cases h) k_L_close_9 n 9 ls st M Q o_L_close_9 h
def k_L_close_13 : List am_I := [(.iload_n 2, 1, 0, 0, 0), (.ireturn, 1, 0, 0, 0)]
set_option maxRecDepth 20000 in
theorem o_L_close_13 : am_okB mt_L_close 13 k_L_close_13 = true := by decide +kernel
theorem g_L_close_13 {L : am_S} {n : Nat} {ls st : List Value} {M : am_M} {Q : am_Q} (h : am_B L mt_L_close k_L_close_13 n 13 ls st M Q) : am_R L mt_L_close n 13 ls st M Q := am_go L mt_L_close (fun h => by cases h) k_L_close_13 n 13 ls st M Q o_L_close_13 h
def k_L_pipe_0 : List am_I := [(.aload_n 0, 1, 0, 0, 0), (.iload_n 1, 1, 0, 0, 0), (.iload_n 2, 1, 0, 0, 0), (.invokevirtual 39, 3, 31, 3, 493), (.istore_n 3, 1, 0, 0, 0), (.goto 13, 3, 0, 0, 0)]
set_option maxRecDepth 20000 in
theorem o_L_pipe_0 : am_okB mt_L_pipe 0 k_L_pipe_0 = true := by decide +kernel
theorem g_L_pipe_0 {L : am_S} {n : Nat} {ls st : List Value} {M : am_M} {Q : am_Q} (h : am_B L mt_L_pipe k_L_pipe_0 n 0 ls st M Q) : am_R L mt_L_pipe n 0 ls st M Q := am_go L mt_L_pipe (fun h => by cases h) k_L_pipe_0 n 0 ls st M Q o_L_pipe_0 h
def k_L_pipe_10 : List am_I := [(.astore 4, 2, 0, 0, 0), (.bipush (-31), 2, 0, 0, 0), (.ireturn, 1, 0, 0, 0)]
set_option maxRecDepth 20000 in
theorem o_L_pipe_10 : am_okB mt_L_pipe 10 k_L_pipe_10 = true := by decide +kernel
theorem g_L_pipe_10 {L : am_S} {n : Nat} {ls st : List Value} {M : am_M} {Q : am_Q} (h : am_B L mt_L_pipe k_L_pipe_10 n 10 ls st M Q) : am_R L mt_L_pipe n 10 ls st M Q := am_go L mt_L_pipe (fun h => by cases h) k_L_pipe_10 n 10 ls st M Q o_L_pipe_10 h
def k_L_pipe_15 : List am_I := [(.astore 4, 2, 0, 0, 0), (.bipush (-32), 2, 0, 0, 0), (.ireturn, 1, 0, 0, 0)]
set_option maxRecDepth 20000 in
theorem o_L_pipe_15 : am_okB mt_L_pipe 15 k_L_pipe_15 = true := by decide +kernel
theorem g_L_pipe_15 {L : am_S} {n : Nat} {ls st : List Value} {M : am_M} {Q : am_Q} (h : am_B L mt_L_pipe k_L_pipe_15 n 15 ls st M Q) : am_R L mt_L_pipe n 15 ls st M Q := am_go L mt_L_pipe (fun h => by cases h) k_L_pipe_15 n 15 ls st M Q o_L_pipe_15 h
def k_L_pipe_20 : List am_I := [(.iload_n 3, 1, 0, 0, 0), (.ireturn, 1, 0, 0, 0)]
set_option maxRecDepth 20000 in
theorem o_L_pipe_20 : am_okB mt_L_pipe 20 k_L_pipe_20 = true := by decide +kernel
theorem g_L_pipe_20 {L : am_S} {n : Nat} {ls st : List Value} {M : am_M} {Q : am_Q} (h : am_B L mt_L_pipe k_L_pipe_20 n 20 ls st M Q) : am_R L mt_L_pipe n 20 ls st M Q := am_go L mt_L_pipe (fun h => by cases h) k_L_pipe_20 n 20 ls st M Q o_L_pipe_20 h
def k_L_set_0 : List am_I := [(.aload_n 0, 1, 0, 0, 0), (.iload_n 1, 1, 0, 0, 0), (.invokevirtual 42, 3, 32, 2, 501), (.istore_n 2, 1, 0, 0, 0), (.goto 7, 3, 0, 0, 0)]
set_option maxRecDepth 20000 in
theorem o_L_set_0 : am_okB mt_L_set 0 k_L_set_0 = true := by decide +kernel
theorem g_L_set_0 {L : am_S} {n : Nat} {ls st : List Value} {M : am_M} {Q : am_Q} (h : am_B L mt_L_set k_L_set_0 n 0 ls st M Q) : am_R L mt_L_set n 0 ls st M Q := am_go L mt_L_set (fun h => by cases h) k_L_set_0 n 0 ls st M Q o_L_set_0 h
def k_L_set_9 : List am_I := [(.astore_n 3, 1, 0, 0, 0), (.bipush (-32), 2, 0, 0, 0), (.ireturn, 1, 0, 0, 0)]
set_option maxRecDepth 20000 in
theorem o_L_set_9 : am_okB mt_L_set 9 k_L_set_9 = true := by decide +kernel
theorem g_L_set_9 {L : am_S} {n : Nat} {ls st : List Value} {M : am_M} {Q : am_Q} (h : am_B L mt_L_set k_L_set_9 n 9 ls st M Q) : am_R L mt_L_set n 9 ls st M Q := am_go L mt_L_set (fun h => by cases h) k_L_set_9 n 9 ls st M Q o_L_set_9 h
def k_L_set_13 : List am_I := [(.iload_n 2, 1, 0, 0, 0), (.ireturn, 1, 0, 0, 0)]
set_option maxRecDepth 20000 in
theorem o_L_set_13 : am_okB mt_L_set 13 k_L_set_13 = true := by decide +kernel
theorem g_L_set_13 {L : am_S} {n : Nat} {ls st : List Value} {M : am_M} {Q : am_Q} (h : am_B L mt_L_set k_L_set_13 n 13 ls st M Q) : am_R L mt_L_set n 13 ls st M Q := am_go L mt_L_set (fun h => by cases h) k_L_set_13 n 13 ls st M Q o_L_set_13 h
def k_L_pass_0 : List am_I := [(.aload_n 0, 1, 0, 0, 0), (.iload_n 1, 1, 0, 0, 0), (.invokevirtual 45, 3, 33, 2, 508), (.istore_n 2, 1, 0, 0, 0), (.goto 11, 3, 0, 0, 0)]
set_option maxRecDepth 20000 in
theorem o_L_pass_0 : am_okB mt_L_pass 0 k_L_pass_0 = true := by decide +kernel
theorem g_L_pass_0 {L : am_S} {n : Nat} {ls st : List Value} {M : am_M} {Q : am_Q} (h : am_B L mt_L_pass k_L_pass_0 n 0 ls st M Q) : am_R L mt_L_pass n 0 ls st M Q := am_go L mt_L_pass (fun h => by cases h) k_L_pass_0 n 0 ls st M Q o_L_pass_0 h
def k_L_pass_9 : List am_I := [(.astore_n 3, 1, 0, 0, 0), (.bipush (-32), 2, 0, 0, 0), (.ireturn, 1, 0, 0, 0)]
set_option maxRecDepth 20000 in
theorem o_L_pass_9 : am_okB mt_L_pass 9 k_L_pass_9 = true := by decide +kernel
theorem g_L_pass_9 {L : am_S} {n : Nat} {ls st : List Value} {M : am_M} {Q : am_Q} (h : am_B L mt_L_pass k_L_pass_9 n 9 ls st M Q) : am_R L mt_L_pass n 9 ls st M Q := am_go L mt_L_pass (fun h => by cases h) k_L_pass_9 n 9 ls st M Q o_L_pass_9 h
def k_L_pass_13 : List am_I := [(.astore_n 3, 1, 0, 0, 0), (.bipush (-33), 2, 0, 0, 0), (.ireturn, 1, 0, 0, 0)]
set_option maxRecDepth 20000 in
theorem o_L_pass_13 : am_okB mt_L_pass 13 k_L_pass_13 = true := by decide +kernel
theorem g_L_pass_13 {L : am_S} {n : Nat} {ls st : List Value} {M : am_M} {Q : am_Q} (h : am_B L mt_L_pass k_L_pass_13 n 13 ls st M Q) : am_R L mt_L_pass n 13 ls st M Q := am_go L mt_L_pass (fun h => by cases h) k_L_pass_13 n 13 ls st M Q o_L_pass_13 h
def k_L_pass_17 : List am_I := [(.iload_n 2, 1, 0, 0, 0), (.ireturn, 1, 0, 0, 0)]
set_option maxRecDepth 20000 in
theorem o_L_pass_17 : am_okB mt_L_pass 17 k_L_pass_17 = true := by decide +kernel
theorem g_L_pass_17 {L : am_S} {n : Nat} {ls st : List Value} {M : am_M} {Q : am_Q} (h : am_B L mt_L_pass k_L_pass_17 n 17 ls st M Q) : am_R L mt_L_pass n 17 ls st M Q := am_go L mt_L_pass (fun h => by cases h) k_L_pass_17 n 17 ls st M Q o_L_pass_17 h
def k_L_goBack_0 : List am_I := [(.aload_n 0, 1, 0, 0, 0), (.iload_n 1, 1, 0, 0, 0), (.invokevirtual 48, 3, 35, 2, 324), (.istore_n 2, 1, 0, 0, 0), (.goto 11, 3, 0, 0, 0)]
set_option maxRecDepth 20000 in
theorem o_L_goBack_0 : am_okB mt_L_goBack 0 k_L_goBack_0 = true := by decide +kernel
theorem g_L_goBack_0 {L : am_S} {n : Nat} {ls st : List Value} {M : am_M} {Q : am_Q} (h : am_B L mt_L_goBack k_L_goBack_0 n 0 ls st M Q) : am_R L mt_L_goBack n 0 ls st M Q := am_go L mt_L_goBack (fun h => by cases h) k_L_goBack_0 n 0 ls st M Q o_L_goBack_0 h
def k_L_goBack_9 : List am_I := [(.astore_n 3, 1, 0, 0, 0), (.bipush (-32), 2, 0, 0, 0), (.ireturn, 1, 0, 0, 0)]
set_option maxRecDepth 20000 in
theorem o_L_goBack_9 : am_okB mt_L_goBack 9 k_L_goBack_9 = true := by decide +kernel
theorem g_L_goBack_9 {L : am_S} {n : Nat} {ls st : List Value} {M : am_M} {Q : am_Q} (h : am_B L mt_L_goBack k_L_goBack_9 n 9 ls st M Q) : am_R L mt_L_goBack n 9 ls st M Q := am_go L mt_L_goBack (fun h => by cases h) k_L_goBack_9 n 9 ls st M Q o_L_goBack_9 h
def k_L_goBack_13 : List am_I := [(.astore_n 3, 1, 0, 0, 0), (.bipush (-33), 2, 0, 0, 0), (.ireturn, 1, 0, 0, 0)]
set_option maxRecDepth 20000 in
theorem o_L_goBack_13 : am_okB mt_L_goBack 13 k_L_goBack_13 = true := by decide +kernel
theorem g_L_goBack_13 {L : am_S} {n : Nat} {ls st : List Value} {M : am_M} {Q : am_Q} (h : am_B L mt_L_goBack k_L_goBack_13 n 13 ls st M Q) : am_R L mt_L_goBack n 13 ls st M Q := am_go L mt_L_goBack (fun h => by cases h) k_L_goBack_13 n 13 ls st M Q o_L_goBack_13 h
def k_L_goBack_17 : List am_I := [(.iload_n 2, 1, 0, 0, 0), (.ireturn, 1, 0, 0, 0)]
set_option maxRecDepth 20000 in
theorem o_L_goBack_17 : am_okB mt_L_goBack 17 k_L_goBack_17 = true := by decide +kernel
theorem g_L_goBack_17 {L : am_S} {n : Nat} {ls st : List Value} {M : am_M} {Q : am_Q} (h : am_B L mt_L_goBack k_L_goBack_17 n 17 ls st M Q) : am_R L mt_L_goBack n 17 ls st M Q := am_go L mt_L_goBack (fun h => by cases h) k_L_goBack_17 n 17 ls st M Q o_L_goBack_17 h
def k_L_undo_0 : List am_I := [(.aload_n 0, 1, 0, 0, 0), (.invokevirtual 51, 3, 36, 1, 353), (.istore_n 1, 1, 0, 0, 0), (.goto 7, 3, 0, 0, 0)]
set_option maxRecDepth 20000 in
theorem o_L_undo_0 : am_okB mt_L_undo 0 k_L_undo_0 = true := by decide +kernel
theorem g_L_undo_0 {L : am_S} {n : Nat} {ls st : List Value} {M : am_M} {Q : am_Q} (h : am_B L mt_L_undo k_L_undo_0 n 0 ls st M Q) : am_R L mt_L_undo n 0 ls st M Q := am_go L mt_L_undo (fun h => by cases h) k_L_undo_0 n 0 ls st M Q o_L_undo_0 h
def k_L_undo_8 : List am_I := [(.astore_n 2, 1, 0, 0, 0), (.bipush (-33), 2, 0, 0, 0), (.ireturn, 1, 0, 0, 0)]
set_option maxRecDepth 20000 in
theorem o_L_undo_8 : am_okB mt_L_undo 8 k_L_undo_8 = true := by decide +kernel
theorem g_L_undo_8 {L : am_S} {n : Nat} {ls st : List Value} {M : am_M} {Q : am_Q} (h : am_B L mt_L_undo k_L_undo_8 n 8 ls st M Q) : am_R L mt_L_undo n 8 ls st M Q := am_go L mt_L_undo (fun h => by cases h) k_L_undo_8 n 8 ls st M Q o_L_undo_8 h
def k_L_undo_12 : List am_I := [(.iload_n 1, 1, 0, 0, 0), (.ireturn, 1, 0, 0, 0)]
set_option maxRecDepth 20000 in
theorem o_L_undo_12 : am_okB mt_L_undo 12 k_L_undo_12 = true := by decide +kernel
theorem g_L_undo_12 {L : am_S} {n : Nat} {ls st : List Value} {M : am_M} {Q : am_Q} (h : am_B L mt_L_undo k_L_undo_12 n 12 ls st M Q) : am_R L mt_L_undo n 12 ls st M Q := am_go L mt_L_undo (fun h => by cases h) k_L_undo_12 n 12 ls st M Q o_L_undo_12 h
def k_L_keep_0 : List am_I := [(.aload_n 0, 1, 0, 0, 0), (.iload_n 1, 1, 0, 0, 0), (.invokevirtual 55, 3, 34, 2, 530), (.istore_n 2, 1, 0, 0, 0), (.goto 7, 3, 0, 0, 0)]
set_option maxRecDepth 20000 in
theorem o_L_keep_0 : am_okB mt_L_keep 0 k_L_keep_0 = true := by decide +kernel
theorem g_L_keep_0 {L : am_S} {n : Nat} {ls st : List Value} {M : am_M} {Q : am_Q} (h : am_B L mt_L_keep k_L_keep_0 n 0 ls st M Q) : am_R L mt_L_keep n 0 ls st M Q := am_go L mt_L_keep (fun h => by cases h) k_L_keep_0 n 0 ls st M Q o_L_keep_0 h
def k_L_keep_9 : List am_I := [(.astore_n 3, 1, 0, 0, 0), (.bipush (-32), 2, 0, 0, 0), (.ireturn, 1, 0, 0, 0)]
set_option maxRecDepth 20000 in
theorem o_L_keep_9 : am_okB mt_L_keep 9 k_L_keep_9 = true := by decide +kernel
theorem g_L_keep_9 {L : am_S} {n : Nat} {ls st : List Value} {M : am_M} {Q : am_Q} (h : am_B L mt_L_keep k_L_keep_9 n 9 ls st M Q) : am_R L mt_L_keep n 9 ls st M Q := am_go L mt_L_keep (fun h => by cases h) k_L_keep_9 n 9 ls st M Q o_L_keep_9 h
def k_L_keep_13 : List am_I := [(.iload_n 2, 1, 0, 0, 0), (.ireturn, 1, 0, 0, 0)]
set_option maxRecDepth 20000 in
theorem o_L_keep_13 : am_okB mt_L_keep 13 k_L_keep_13 = true := by decide +kernel
theorem g_L_keep_13 {L : am_S} {n : Nat} {ls st : List Value} {M : am_M} {Q : am_Q} (h : am_B L mt_L_keep k_L_keep_13 n 13 ls st M Q) : am_R L mt_L_keep n 13 ls st M Q := am_go L mt_L_keep (fun h => by cases h) k_L_keep_13 n 13 ls st M Q o_L_keep_13 h
def k_L_tale_0 : List am_I := [(.ldc2_w 58, 3, 41, 0, 361), (.lstore_n 1, 1, 0, 0, 0), (.iconst 0, 1, 0, 0, 0), (.istore_n 3, 1, 0, 0, 0)]
set_option maxRecDepth 20000 in
theorem o_L_tale_0 : am_okB mt_L_tale 0 k_L_tale_0 = true := by decide +kernel
theorem g_L_tale_0 {L : am_S} {n : Nat} {ls st : List Value} {M : am_M} {Q : am_Q} (h : am_B L mt_L_tale k_L_tale_0 n 0 ls st M Q) : am_R L mt_L_tale n 0 ls st M Q := am_go L mt_L_tale (fun h => by cases h) k_L_tale_0 n 0 ls st M Q o_L_tale_0 h
def k_L_tale_6 : List am_I := [(.iload_n 3, 1, 0, 0, 0), (.bipush 9, 2, 0, 0, 0), (.if_icmp .ge 22, 3, 0, 0, 0), (.ldc2_w 60, 3, 31, 0, 362), (.lload_n 1, 1, 0, 0, 0), (.lmul, 1, 0, 0, 0), (.aload_n 0, 1, 0, 0, 0), (.iload_n 3, 1, 0, 0, 0), (.invokevirtual 62, 3, 40, 2, 363), (.i2l, 1, 0, 0, 0), (.ladd, 1, 0, 0, 0), (.lstore_n 1, 1, 0, 0, 0), (.iinc 3 1, 3, 0, 0, 0), (.goto (-22), 3, 0, 0, 0)]
set_option maxRecDepth 20000 in
theorem o_L_tale_6 : am_okB mt_L_tale 6 k_L_tale_6 = true := by decide +kernel
theorem g_L_tale_6 {L : am_S} {n : Nat} {ls st : List Value} {M : am_M} {Q : am_Q} (h : am_B L mt_L_tale k_L_tale_6 n 6 ls st M Q) : am_R L mt_L_tale n 6 ls st M Q := am_go L mt_L_tale (fun h => by cases h) k_L_tale_6 n 6 ls st M Q o_L_tale_6 h
def k_L_tale_31 : List am_I := [(.iconst 0, 1, 0, 0, 0), (.istore_n 3, 1, 0, 0, 0)]
set_option maxRecDepth 20000 in
theorem o_L_tale_31 : am_okB mt_L_tale 31 k_L_tale_31 = true := by decide +kernel
theorem g_L_tale_31 {L : am_S} {n : Nat} {ls st : List Value} {M : am_M} {Q : am_Q} (h : am_B L mt_L_tale k_L_tale_31 n 31 ls st M Q) : am_R L mt_L_tale n 31 ls st M Q := am_go L mt_L_tale (fun h => by cases h) k_L_tale_31 n 31 ls st M Q o_L_tale_31 h
def k_L_tale_33 : List am_I := [(.iload_n 3, 1, 0, 0, 0), (.bipush 50, 2, 0, 0, 0), (.if_icmp .ge 29, 3, 0, 0, 0), (.ldc2_w 65, 3, 37, 0, 385), (.lload_n 1, 1, 0, 0, 0), (.lmul, 1, 0, 0, 0), (.aload_n 0, 1, 0, 0, 0), (.iload_n 3, 1, 0, 0, 0), (.bipush 10, 2, 0, 0, 0), (.idiv, 1, 0, 0, 0), (.iload_n 3, 1, 0, 0, 0), (.bipush 10, 2, 0, 0, 0), (.irem, 1, 0, 0, 0), (.invokevirtual 67, 3, 37, 3, 386), (.i2l, 1, 0, 0, 0), (.ladd, 1, 0, 0, 0), (.lstore_n 1, 1, 0, 0, 0), (.iinc 3 1, 3, 0, 0, 0), (.goto (-29), 3, 0, 0, 0)]
set_option maxRecDepth 20000 in
theorem o_L_tale_33 : am_okB mt_L_tale 33 k_L_tale_33 = true := by decide +kernel
theorem g_L_tale_33 {L : am_S} {n : Nat} {ls st : List Value} {M : am_M} {Q : am_Q} (h : am_B L mt_L_tale k_L_tale_33 n 33 ls st M Q) : am_R L mt_L_tale n 33 ls st M Q := am_go L mt_L_tale (fun h => by cases h) k_L_tale_33 n 33 ls st M Q o_L_tale_33 h
def k_L_tale_65 : List am_I := [(.iconst 0, 1, 0, 0, 0), (.istore_n 3, 1, 0, 0, 0)]
set_option maxRecDepth 20000 in
theorem o_L_tale_65 : am_okB mt_L_tale 65 k_L_tale_65 = true := by decide +kernel
theorem g_L_tale_65 {L : am_S} {n : Nat} {ls st : List Value} {M : am_M} {Q : am_Q} (h : am_B L mt_L_tale k_L_tale_65 n 65 ls st M Q) : am_R L mt_L_tale n 65 ls st M Q := am_go L mt_L_tale (fun h => by cases h) k_L_tale_65 n 65 ls st M Q o_L_tale_65 h
def k_L_tale_67 : List am_I := [(.iload_n 3, 1, 0, 0, 0), (.bipush 7, 2, 0, 0, 0), (.aload_n 0, 1, 0, 0, 0), (.iconst 2, 1, 0, 0, 0), (.invokevirtual 62, 3, 40, 2, 363), (.imul, 1, 0, 0, 0), (.if_icmp .ge 29, 3, 0, 0, 0), (.ldc2_w 70, 3, 43, 0, 394), (.lload_n 1, 1, 0, 0, 0), (.lmul, 1, 0, 0, 0), (.aload_n 0, 1, 0, 0, 0), (.iload_n 3, 1, 0, 0, 0), (.bipush 7, 2, 0, 0, 0), (.idiv, 1, 0, 0, 0), (.iload_n 3, 1, 0, 0, 0), (.bipush 7, 2, 0, 0, 0), (.irem, 1, 0, 0, 0), (.invokevirtual 72, 3, 38, 3, 395), (.i2l, 1, 0, 0, 0), (.ladd, 1, 0, 0, 0), (.lstore_n 1, 1, 0, 0, 0), (.iinc 3 1, 3, 0, 0, 0), (.goto (-35), 3, 0, 0, 0)]
set_option maxRecDepth 20000 in
theorem o_L_tale_67 : am_okB mt_L_tale 67 k_L_tale_67 = true := by decide +kernel
theorem g_L_tale_67 {L : am_S} {n : Nat} {ls st : List Value} {M : am_M} {Q : am_Q} (h : am_B L mt_L_tale k_L_tale_67 n 67 ls st M Q) : am_R L mt_L_tale n 67 ls st M Q := am_go L mt_L_tale (fun h => by cases h) k_L_tale_67 n 67 ls st M Q o_L_tale_67 h
def k_L_tale_105 : List am_I := [(.iconst 0, 1, 0, 0, 0), (.istore_n 3, 1, 0, 0, 0)]
set_option maxRecDepth 20000 in
theorem o_L_tale_105 : am_okB mt_L_tale 105 k_L_tale_105 = true := by decide +kernel
theorem g_L_tale_105 {L : am_S} {n : Nat} {ls st : List Value} {M : am_M} {Q : am_Q} (h : am_B L mt_L_tale k_L_tale_105 n 105 ls st M Q) : am_R L mt_L_tale n 105 ls st M Q := am_go L mt_L_tale (fun h => by cases h) k_L_tale_105 n 105 ls st M Q o_L_tale_105 h
def k_L_tale_107 : List am_I := [(.iload_n 3, 1, 0, 0, 0), (.bipush 15, 2, 0, 0, 0), (.if_icmp .ge 27, 3, 0, 0, 0), (.ldc2_w 75, 3, 47, 0, 408), (.lload_n 1, 1, 0, 0, 0), (.lmul, 1, 0, 0, 0), (.aload_n 0, 1, 0, 0, 0), (.iload_n 3, 1, 0, 0, 0), (.iconst 5, 1, 0, 0, 0), (.idiv, 1, 0, 0, 0), (.iload_n 3, 1, 0, 0, 0), (.iconst 5, 1, 0, 0, 0), (.irem, 1, 0, 0, 0), (.invokevirtual 77, 3, 39, 3, 409), (.i2l, 1, 0, 0, 0), (.ladd, 1, 0, 0, 0), (.lstore_n 1, 1, 0, 0, 0), (.iinc 3 1, 3, 0, 0, 0), (.goto (-27), 3, 0, 0, 0)]
set_option maxRecDepth 20000 in
theorem o_L_tale_107 : am_okB mt_L_tale 107 k_L_tale_107 = true := by decide +kernel
theorem g_L_tale_107 {L : am_S} {n : Nat} {ls st : List Value} {M : am_M} {Q : am_Q} (h : am_B L mt_L_tale k_L_tale_107 n 107 ls st M Q) : am_R L mt_L_tale n 107 ls st M Q := am_go L mt_L_tale (fun h => by cases h) k_L_tale_107 n 107 ls st M Q o_L_tale_107 h
def k_L_tale_137 : List am_I := [(.lload_n 1, 1, 0, 0, 0), (.lreturn, 1, 0, 0, 0)]
set_option maxRecDepth 20000 in
theorem o_L_tale_137 : am_okB mt_L_tale 137 k_L_tale_137 = true := by decide +kernel
theorem g_L_tale_137 {L : am_S} {n : Nat} {ls st : List Value} {M : am_M} {Q : am_Q} (h : am_B L mt_L_tale k_L_tale_137 n 137 ls st M Q) : am_R L mt_L_tale n 137 ls st M Q := am_go L mt_L_tale (fun h => by cases h) k_L_tale_137 n 137 ls st M Q o_L_tale_137 h
def k_L_act_0 : List am_I := [(.iload_n 2, 1, 0, 0, 0), (.bipush 6, 2, 0, 0, 0), (.invokestatic 80, 3, 55, 2, 315), (.istore_n 3, 1, 0, 0, 0), (.iload_n 2, 1, 0, 0, 0), (.iconst 3, 1, 0, 0, 0), (.ishr, 1, 0, 0, 0), (.bipush 6, 2, 0, 0, 0), (.invokestatic 80, 3, 55, 2, 315), (.istore 4, 2, 0, 0, 0), (.iload_n 1, 1, 0, 0, 0), (.bipush 16, 2, 0, 0, 0), (.invokestatic 80, 3, 55, 2, 315), (.tableswitch 256 0 13 #[69, 69, 69, 101, 101, 127, 133, 151, 151, 151, 225, 236, 236, 244], 69, 0, 0, 0)]
set_option maxRecDepth 20000 in
theorem o_L_act_0 : am_okB mt_L_act 0 k_L_act_0 = true := by decide +kernel
theorem g_L_act_0 {L : am_S} {n : Nat} {ls st : List Value} {M : am_M} {Q : am_Q} (h : am_B L mt_L_act k_L_act_0 n 0 ls st M Q) : am_R L mt_L_act n 0 ls st M Q := am_go L mt_L_act (fun h => by cases h) k_L_act_0 n 0 ls st M Q o_L_act_0 h
def k_L_act_92 : List am_I := [(.aload_n 0, 1, 0, 0, 0), (.iload_n 3, 1, 0, 0, 0), (.iconst 1, 1, 0, 0, 0), (.iload_n 2, 1, 0, 0, 0), (.bipush 6, 2, 0, 0, 0), (.ishr, 1, 0, 0, 0), (.iload_n 2, 1, 0, 0, 0), (.iconst 5, 1, 0, 0, 0), (.ishr, 1, 0, 0, 0), (.iconst 1, 1, 0, 0, 0), (.iand, 1, 0, 0, 0), (.ifCond .ne 9, 3, 0, 0, 0), (.sipush 200, 3, 0, 0, 0), (.goto 6, 3, 0, 0, 0)]
set_option maxRecDepth 20000 in
theorem o_L_act_92 : am_okB mt_L_act 92 k_L_act_92 = true := by decide +kernel
theorem g_L_act_92 {L : am_S} {n : Nat} {ls st : List Value} {M : am_M} {Q : am_Q} (h : am_B L mt_L_act k_L_act_92 n 92 ls st M Q) : am_R L mt_L_act n 92 ls st M Q := am_go L mt_L_act (fun h => by cases h) k_L_act_92 n 92 ls st M Q o_L_act_92 h
def k_L_act_113 : List am_I := [(.sipush 1100, 3, 0, 0, 0)]
set_option maxRecDepth 20000 in
theorem o_L_act_113 : am_okB mt_L_act 113 k_L_act_113 = true := by decide +kernel
theorem g_L_act_113 {L : am_S} {n : Nat} {ls st : List Value} {M : am_M} {Q : am_Q} (h : am_B L mt_L_act k_L_act_113 n 113 ls st M Q) : am_R L mt_L_act n 113 ls st M Q := am_go L mt_L_act (fun h => by cases h) k_L_act_113 n 113 ls st M Q o_L_act_113 h
def k_L_act_116 : List am_I := [(.invokestatic 80, 3, 55, 2, 315), (.iadd, 1, 0, 0, 0), (.invokestatic 85, 3, 56, 3, 432), (.ireturn, 1, 0, 0, 0)]
set_option maxRecDepth 20000 in
theorem o_L_act_116 : am_okB mt_L_act 116 k_L_act_116 = true := by decide +kernel
theorem g_L_act_116 {L : am_S} {n : Nat} {ls st : List Value} {M : am_M} {Q : am_Q} (h : am_B L mt_L_act k_L_act_116 n 116 ls st M Q) : am_R L mt_L_act n 116 ls st M Q := am_go L mt_L_act (fun h => by cases h) k_L_act_116 n 116 ls st M Q o_L_act_116 h
def k_L_act_124 : List am_I := [(.aload_n 0, 1, 0, 0, 0), (.iload_n 3, 1, 0, 0, 0), (.iload_n 2, 1, 0, 0, 0), (.bipush 6, 2, 0, 0, 0), (.ishr, 1, 0, 0, 0), (.iconst 3, 1, 0, 0, 0), (.invokestatic 80, 3, 55, 2, 315), (.iconst 1, 1, 0, 0, 0), (.iload_n 2, 1, 0, 0, 0), (.bipush 8, 2, 0, 0, 0), (.ishr, 1, 0, 0, 0), (.sipush 400, 3, 0, 0, 0), (.invokestatic 80, 3, 55, 2, 315), (.iadd, 1, 0, 0, 0), (.invokestatic 88, 3, 57, 4, 444), (.ireturn, 1, 0, 0, 0)]
set_option maxRecDepth 20000 in
theorem o_L_act_124 : am_okB mt_L_act 124 k_L_act_124 = true := by decide +kernel
theorem g_L_act_124 {L : am_S} {n : Nat} {ls st : List Value} {M : am_M} {Q : am_Q} (h : am_B L mt_L_act k_L_act_124 n 124 ls st M Q) : am_R L mt_L_act n 124 ls st M Q := am_go L mt_L_act (fun h => by cases h) k_L_act_124 n 124 ls st M Q o_L_act_124 h
def k_L_act_150 : List am_I := [(.aload_n 0, 1, 0, 0, 0), (.iload_n 3, 1, 0, 0, 0), (.invokestatic 91, 3, 58, 2, 453), (.ireturn, 1, 0, 0, 0)]
set_option maxRecDepth 20000 in
theorem o_L_act_150 : am_okB mt_L_act 150 k_L_act_150 = true := by decide +kernel
theorem g_L_act_150 {L : am_S} {n : Nat} {ls st : List Value} {M : am_M} {Q : am_Q} (h : am_B L mt_L_act k_L_act_150 n 150 ls st M Q) : am_R L mt_L_act n 150 ls st M Q := am_go L mt_L_act (fun h => by cases h) k_L_act_150 n 150 ls st M Q o_L_act_150 h
def k_L_act_156 : List am_I := [(.aload_n 0, 1, 0, 0, 0), (.iload_n 3, 1, 0, 0, 0), (.iconst 1, 1, 0, 0, 0), (.iload_n 2, 1, 0, 0, 0), (.bipush 6, 2, 0, 0, 0), (.ishr, 1, 0, 0, 0), (.sipush 2000, 3, 0, 0, 0), (.invokestatic 80, 3, 55, 2, 315), (.iadd, 1, 0, 0, 0), (.invokestatic 94, 3, 59, 3, 467), (.ireturn, 1, 0, 0, 0)]
set_option maxRecDepth 20000 in
theorem o_L_act_156 : am_okB mt_L_act 156 k_L_act_156 = true := by decide +kernel
theorem g_L_act_156 {L : am_S} {n : Nat} {ls st : List Value} {M : am_M} {Q : am_Q} (h : am_B L mt_L_act k_L_act_156 n 156 ls st M Q) : am_R L mt_L_act n 156 ls st M Q := am_go L mt_L_act (fun h => by cases h) k_L_act_156 n 156 ls st M Q o_L_act_156 h
def k_L_act_174 : List am_I := [(.iload_n 2, 1, 0, 0, 0), (.bipush 11, 2, 0, 0, 0), (.ishr, 1, 0, 0, 0), (.bipush 24, 2, 0, 0, 0), (.invokestatic 80, 3, 55, 2, 315), (.istore 5, 2, 0, 0, 0), (.aload_n 0, 1, 0, 0, 0), (.iload_n 3, 1, 0, 0, 0), (.iload_n 2, 1, 0, 0, 0), (.iconst 2, 1, 0, 0, 0), (.ishr, 1, 0, 0, 0), (.bipush 7, 2, 0, 0, 0), (.iand, 1, 0, 0, 0), (.ifCond .ne 7, 3, 0, 0, 0), (.iconst 5, 1, 0, 0, 0), (.goto 5, 3, 0, 0, 0)]
set_option maxRecDepth 20000 in
theorem o_L_act_174 : am_okB mt_L_act 174 k_L_act_174 = true := by decide +kernel
theorem g_L_act_174 {L : am_S} {n : Nat} {ls st : List Value} {M : am_M} {Q : am_Q} (h : am_B L mt_L_act k_L_act_174 n 174 ls st M Q) : am_R L mt_L_act n 174 ls st M Q := am_go L mt_L_act (fun h => by cases h) k_L_act_174 n 174 ls st M Q o_L_act_174 h
def k_L_act_200 : List am_I := [(.iload 4, 2, 0, 0, 0)]
set_option maxRecDepth 20000 in
theorem o_L_act_200 : am_okB mt_L_act 200 k_L_act_200 = true := by decide +kernel
theorem g_L_act_200 {L : am_S} {n : Nat} {ls st : List Value} {M : am_M} {Q : am_Q} (h : am_B L mt_L_act k_L_act_200 n 200 ls st M Q) : am_R L mt_L_act n 200 ls st M Q := am_go L mt_L_act (fun h => by cases h) k_L_act_200 n 200 ls st M Q o_L_act_200 h
def k_L_act_202 : List am_I := [(.iconst 1, 1, 0, 0, 0), (.iload_n 2, 1, 0, 0, 0), (.bipush 6, 2, 0, 0, 0), (.ishr, 1, 0, 0, 0), (.iload_n 2, 1, 0, 0, 0), (.iconst 5, 1, 0, 0, 0), (.ishr, 1, 0, 0, 0), (.iconst 1, 1, 0, 0, 0), (.iand, 1, 0, 0, 0), (.ifCond .ne 8, 3, 0, 0, 0), (.bipush 20, 2, 0, 0, 0), (.goto 6, 3, 0, 0, 0)]
set_option maxRecDepth 20000 in
theorem o_L_act_202 : am_okB mt_L_act 202 k_L_act_202 = true := by decide +kernel
theorem g_L_act_202 {L : am_S} {n : Nat} {ls st : List Value} {M : am_M} {Q : am_Q} (h : am_B L mt_L_act k_L_act_202 n 202 ls st M Q) : am_R L mt_L_act n 202 ls st M Q := am_go L mt_L_act (fun h => by cases h) k_L_act_202 n 202 ls st M Q o_L_act_202 h
def k_L_act_220 : List am_I := [(.sipush 500, 3, 0, 0, 0)]
set_option maxRecDepth 20000 in
theorem o_L_act_220 : am_okB mt_L_act 220 k_L_act_220 = true := by decide +kernel
theorem g_L_act_220 {L : am_S} {n : Nat} {ls st : List Value} {M : am_M} {Q : am_Q} (h : am_B L mt_L_act k_L_act_220 n 220 ls st M Q) : am_R L mt_L_act n 220 ls st M Q := am_go L mt_L_act (fun h => by cases h) k_L_act_220 n 220 ls st M Q o_L_act_220 h
def k_L_act_223 : List am_I := [(.invokestatic 80, 3, 55, 2, 315), (.iadd, 1, 0, 0, 0), (.iload 5, 2, 0, 0, 0), (.iload 5, 2, 0, 0, 0), (.iload_n 2, 1, 0, 0, 0), (.bipush 16, 2, 0, 0, 0), (.ishr, 1, 0, 0, 0), (.bipush 24, 2, 0, 0, 0), (.iload 5, 2, 0, 0, 0), (.isub, 1, 0, 0, 0), (.invokestatic 80, 3, 55, 2, 315), (.iadd, 1, 0, 0, 0), (.invokestatic 96, 3, 60, 6, 474), (.ireturn, 1, 0, 0, 0)]
set_option maxRecDepth 20000 in
theorem o_L_act_223 : am_okB mt_L_act 223 k_L_act_223 = true := by decide +kernel
theorem g_L_act_223 {L : am_S} {n : Nat} {ls st : List Value} {M : am_M} {Q : am_Q} (h : am_B L mt_L_act k_L_act_223 n 223 ls st M Q) : am_R L mt_L_act n 223 ls st M Q := am_go L mt_L_act (fun h => by cases h) k_L_act_223 n 223 ls st M Q o_L_act_223 h
def k_L_act_248 : List am_I := [(.aload_n 0, 1, 0, 0, 0), (.iload_n 2, 1, 0, 0, 0), (.bipush 9, 2, 0, 0, 0), (.invokestatic 80, 3, 55, 2, 315), (.invokestatic 99, 3, 61, 2, 483), (.ireturn, 1, 0, 0, 0)]
set_option maxRecDepth 20000 in
theorem o_L_act_248 : am_okB mt_L_act 248 k_L_act_248 = true := by decide +kernel
theorem g_L_act_248 {L : am_S} {n : Nat} {ls st : List Value} {M : am_M} {Q : am_Q} (h : am_B L mt_L_act k_L_act_248 n 248 ls st M Q) : am_R L mt_L_act n 248 ls st M Q := am_go L mt_L_act (fun h => by cases h) k_L_act_248 n 248 ls st M Q o_L_act_248 h
def k_L_act_259 : List am_I := [(.aload_n 0, 1, 0, 0, 0), (.iload_n 3, 1, 0, 0, 0), (.iload 4, 2, 0, 0, 0), (.invokestatic 101, 3, 62, 3, 490), (.ireturn, 1, 0, 0, 0)]
set_option maxRecDepth 20000 in
theorem o_L_act_259 : am_okB mt_L_act 259 k_L_act_259 = true := by decide +kernel
theorem g_L_act_259 {L : am_S} {n : Nat} {ls st : List Value} {M : am_M} {Q : am_Q} (h : am_B L mt_L_act k_L_act_259 n 259 ls st M Q) : am_R L mt_L_act n 259 ls st M Q := am_go L mt_L_act (fun h => by cases h) k_L_act_259 n 259 ls st M Q o_L_act_259 h
def k_L_act_267 : List am_I := [(.aload_n 0, 1, 0, 0, 0), (.iload_n 2, 1, 0, 0, 0), (.sipush 202, 3, 0, 0, 0), (.invokestatic 80, 3, 55, 2, 315), (.invokestatic 103, 3, 63, 2, 498), (.ireturn, 1, 0, 0, 0)]
set_option maxRecDepth 20000 in
theorem o_L_act_267 : am_okB mt_L_act 267 k_L_act_267 = true := by decide +kernel
theorem g_L_act_267 {L : am_S} {n : Nat} {ls st : List Value} {M : am_M} {Q : am_Q} (h : am_B L mt_L_act k_L_act_267 n 267 ls st M Q) : am_R L mt_L_act n 267 ls st M Q := am_go L mt_L_act (fun h => by cases h) k_L_act_267 n 267 ls st M Q o_L_act_267 h
def k_L_act_279 : List am_I := [(.aload_n 0, 1, 0, 0, 0), (.iconst 1, 1, 0, 0, 0), (.iload_n 2, 1, 0, 0, 0), (.bipush 40, 2, 0, 0, 0), (.invokestatic 80, 3, 55, 2, 315), (.iadd, 1, 0, 0, 0), (.invokestatic 105, 3, 64, 2, 505), (.ireturn, 1, 0, 0, 0)]
set_option maxRecDepth 20000 in
theorem o_L_act_279 : am_okB mt_L_act 279 k_L_act_279 = true := by decide +kernel
theorem g_L_act_279 {L : am_S} {n : Nat} {ls st : List Value} {M : am_M} {Q : am_Q} (h : am_B L mt_L_act k_L_act_279 n 279 ls st M Q) : am_R L mt_L_act n 279 ls st M Q := am_go L mt_L_act (fun h => by cases h) k_L_act_279 n 279 ls st M Q o_L_act_279 h
def k_L_addsUp_0 : List am_I := [(.iconst 0, 1, 0, 0, 0), (.istore_n 1, 1, 0, 0, 0), (.iconst 0, 1, 0, 0, 0), (.istore_n 2, 1, 0, 0, 0)]
set_option maxRecDepth 20000 in
theorem o_L_addsUp_0 : am_okB mt_L_addsUp 0 k_L_addsUp_0 = true := by decide +kernel
theorem g_L_addsUp_0 {L : am_S} {n : Nat} {ls st : List Value} {M : am_M} {Q : am_Q} (h : am_B L mt_L_addsUp k_L_addsUp_0 n 0 ls st M Q) : am_R L mt_L_addsUp n 0 ls st M Q := am_go L mt_L_addsUp (fun h => by cases h) k_L_addsUp_0 n 0 ls st M Q o_L_addsUp_0 h
def k_L_addsUp_4 : List am_I := [(.iload_n 2, 1, 0, 0, 0), (.iconst 5, 1, 0, 0, 0), (.if_icmp .ge 85, 3, 0, 0, 0), (.iload_n 1, 1, 0, 0, 0), (.aload_n 0, 1, 0, 0, 0), (.iload_n 2, 1, 0, 0, 0), (.iconst 1, 1, 0, 0, 0), (.invokevirtual 67, 3, 37, 3, 386), (.iadd, 1, 0, 0, 0), (.istore_n 1, 1, 0, 0, 0), (.aload_n 0, 1, 0, 0, 0), (.iload_n 2, 1, 0, 0, 0), (.iconst 1, 1, 0, 0, 0), (.invokevirtual 67, 3, 37, 3, 386), (.aload_n 0, 1, 0, 0, 0), (.iload_n 2, 1, 0, 0, 0), (.iconst 0, 1, 0, 0, 0), (.invokevirtual 67, 3, 37, 3, 386), (.if_icmp .gt 53, 3, 0, 0, 0), (.aload_n 0, 1, 0, 0, 0), (.iload_n 2, 1, 0, 0, 0), (.iconst 1, 1, 0, 0, 0), (.invokevirtual 67, 3, 37, 3, 386), (.ifCond .lt 44, 3, 0, 0, 0), (.aload_n 0, 1, 0, 0, 0), (.iload_n 2, 1, 0, 0, 0), (.bipush 9, 2, 0, 0, 0), (.invokevirtual 67, 3, 37, 3, 386), (.aload_n 0, 1, 0, 0, 0), (.iload_n 2, 1, 0, 0, 0), (.iconst 1, 1, 0, 0, 0), (.invokevirtual 67, 3, 37, 3, 386), (.aload_n 0, 1, 0, 0, 0), (.bipush 8, 2, 0, 0, 0), (.invokevirtual 62, 3, 40, 2, 363), (.imul, 1, 0, 0, 0), (.bipush 100, 2, 0, 0, 0), (.idiv, 1, 0, 0, 0), (.if_icmp .ne 18, 3, 0, 0, 0), (.aload_n 0, 1, 0, 0, 0), (.iload_n 2, 1, 0, 0, 0), (.bipush 8, 2, 0, 0, 0), (.invokevirtual 67, 3, 37, 3, 386), (.iload_n 2, 1, 0, 0, 0), (.ishr, 1, 0, 0, 0), (.iconst 1, 1, 0, 0, 0), (.iand, 1, 0, 0, 0), (.iconst 1, 1, 0, 0, 0), (.if_icmp .ne 5, 3, 0, 0, 0)]
set_option maxRecDepth 20000 in
theorem o_L_addsUp_4 : am_okB mt_L_addsUp 4 k_L_addsUp_4 = true := by decide +kernel
theorem g_L_addsUp_4 {L : am_S} {n : Nat} {ls st : List Value} {M : am_M} {Q : am_Q} (h : am_B L mt_L_addsUp k_L_addsUp_4 n 4 ls st M Q) : am_R L mt_L_addsUp n 4 ls st M Q := am_go L mt_L_addsUp (fun h => by cases h) k_L_addsUp_4 n 4 ls st M Q o_L_addsUp_4 h
def k_L_addsUp_83 : List am_I := [(.iconst 0, 1, 0, 0, 0), (.ireturn, 1, 0, 0, 0)]
set_option maxRecDepth 20000 in
theorem o_L_addsUp_83 : am_okB mt_L_addsUp 83 k_L_addsUp_83 = true := by decide +kernel
theorem g_L_addsUp_83 {L : am_S} {n : Nat} {ls st : List Value} {M : am_M} {Q : am_Q} (h : am_B L mt_L_addsUp k_L_addsUp_83 n 83 ls st M Q) : am_R L mt_L_addsUp n 83 ls st M Q := am_go L mt_L_addsUp (fun h => by cases h) k_L_addsUp_83 n 83 ls st M Q o_L_addsUp_83 h
def k_L_addsUp_85 : List am_I := [(.iinc 2 1, 3, 0, 0, 0), (.goto (-84), 3, 0, 0, 0)]
set_option maxRecDepth 20000 in
theorem o_L_addsUp_85 : am_okB mt_L_addsUp 85 k_L_addsUp_85 = true := by decide +kernel
theorem g_L_addsUp_85 {L : am_S} {n : Nat} {ls st : List Value} {M : am_M} {Q : am_Q} (h : am_B L mt_L_addsUp k_L_addsUp_85 n 85 ls st M Q) : am_R L mt_L_addsUp n 85 ls st M Q := am_go L mt_L_addsUp (fun h => by cases h) k_L_addsUp_85 n 85 ls st M Q o_L_addsUp_85 h
def k_L_addsUp_91 : List am_I := [(.iconst 0, 1, 0, 0, 0), (.istore_n 2, 1, 0, 0, 0)]
set_option maxRecDepth 20000 in
theorem o_L_addsUp_91 : am_okB mt_L_addsUp 91 k_L_addsUp_91 = true := by decide +kernel
theorem g_L_addsUp_91 {L : am_S} {n : Nat} {ls st : List Value} {M : am_M} {Q : am_Q} (h : am_B L mt_L_addsUp k_L_addsUp_91 n 91 ls st M Q) : am_R L mt_L_addsUp n 91 ls st M Q := am_go L mt_L_addsUp (fun h => by cases h) k_L_addsUp_91 n 91 ls st M Q o_L_addsUp_91 h
def k_L_addsUp_93 : List am_I := [(.iload_n 2, 1, 0, 0, 0), (.iconst 3, 1, 0, 0, 0), (.if_icmp .ge 235, 3, 0, 0, 0), (.iconst 0, 1, 0, 0, 0), (.istore_n 3, 1, 0, 0, 0), (.iconst 0, 1, 0, 0, 0), (.istore 4, 2, 0, 0, 0), (.iconst 0, 1, 0, 0, 0), (.istore 5, 2, 0, 0, 0)]
set_option maxRecDepth 20000 in
theorem o_L_addsUp_93 : am_okB mt_L_addsUp 93 k_L_addsUp_93 = true := by decide +kernel
theorem g_L_addsUp_93 {L : am_S} {n : Nat} {ls st : List Value} {M : am_M} {Q : am_Q} (h : am_B L mt_L_addsUp k_L_addsUp_93 n 93 ls st M Q) : am_R L mt_L_addsUp n 93 ls st M Q := am_go L mt_L_addsUp (fun h => by cases h) k_L_addsUp_93 n 93 ls st M Q o_L_addsUp_93 h
def k_L_addsUp_106 : List am_I := [(.iload 5, 2, 0, 0, 0), (.iconst 5, 1, 0, 0, 0), (.if_icmp .ge 35, 3, 0, 0, 0), (.iload_n 3, 1, 0, 0, 0), (.aload_n 0, 1, 0, 0, 0), (.iload 5, 2, 0, 0, 0), (.iconst 2, 1, 0, 0, 0), (.iload_n 2, 1, 0, 0, 0), (.iadd, 1, 0, 0, 0), (.invokevirtual 67, 3, 37, 3, 386), (.iadd, 1, 0, 0, 0), (.istore_n 3, 1, 0, 0, 0), (.iload 4, 2, 0, 0, 0), (.aload_n 0, 1, 0, 0, 0), (.iload 5, 2, 0, 0, 0), (.iconst 5, 1, 0, 0, 0), (.iload_n 2, 1, 0, 0, 0), (.iadd, 1, 0, 0, 0), (.invokevirtual 67, 3, 37, 3, 386), (.iadd, 1, 0, 0, 0), (.istore 4, 2, 0, 0, 0), (.iinc 5 1, 3, 0, 0, 0), (.goto (-35), 3, 0, 0, 0)]
set_option maxRecDepth 20000 in
theorem o_L_addsUp_106 : am_okB mt_L_addsUp 106 k_L_addsUp_106 = true := by decide +kernel
theorem g_L_addsUp_106 {L : am_S} {n : Nat} {ls st : List Value} {M : am_M} {Q : am_Q} (h : am_B L mt_L_addsUp k_L_addsUp_106 n 106 ls st M Q) : am_R L mt_L_addsUp n 106 ls st M Q := am_go L mt_L_addsUp (fun h => by cases h) k_L_addsUp_106 n 106 ls st M Q o_L_addsUp_106 h
def k_L_addsUp_144 : List am_I := [(.aload_n 0, 1, 0, 0, 0), (.iload_n 2, 1, 0, 0, 0), (.iconst 0, 1, 0, 0, 0), (.invokevirtual 77, 3, 39, 3, 409), (.iload_n 3, 1, 0, 0, 0), (.iload 4, 2, 0, 0, 0), (.iadd, 1, 0, 0, 0), (.aload_n 0, 1, 0, 0, 0), (.iload_n 2, 1, 0, 0, 0), (.iconst 3, 1, 0, 0, 0), (.invokevirtual 77, 3, 39, 3, 409), (.iadd, 1, 0, 0, 0), (.if_icmp .ne 33, 3, 0, 0, 0), (.aload_n 0, 1, 0, 0, 0), (.iload_n 2, 1, 0, 0, 0), (.iconst 1, 1, 0, 0, 0), (.invokevirtual 77, 3, 39, 3, 409), (.iload_n 3, 1, 0, 0, 0), (.if_icmp .ne 23, 3, 0, 0, 0), (.aload_n 0, 1, 0, 0, 0), (.iload_n 2, 1, 0, 0, 0), (.iconst 2, 1, 0, 0, 0), (.invokevirtual 77, 3, 39, 3, 409), (.iload 4, 2, 0, 0, 0), (.if_icmp .ne 12, 3, 0, 0, 0), (.aload_n 0, 1, 0, 0, 0), (.iload_n 2, 1, 0, 0, 0), (.iconst 3, 1, 0, 0, 0), (.invokevirtual 77, 3, 39, 3, 409), (.ifCond .ge 5, 3, 0, 0, 0)]
set_option maxRecDepth 20000 in
theorem o_L_addsUp_144 : am_okB mt_L_addsUp 144 k_L_addsUp_144 = true := by decide +kernel
theorem g_L_addsUp_144 {L : am_S} {n : Nat} {ls st : List Value} {M : am_M} {Q : am_Q} (h : am_B L mt_L_addsUp k_L_addsUp_144 n 144 ls st M Q) : am_R L mt_L_addsUp n 144 ls st M Q := am_go L mt_L_addsUp (fun h => by cases h) k_L_addsUp_144 n 144 ls st M Q o_L_addsUp_144 h
def k_L_addsUp_194 : List am_I := [(.iconst 0, 1, 0, 0, 0), (.ireturn, 1, 0, 0, 0)]
set_option maxRecDepth 20000 in
theorem o_L_addsUp_194 : am_okB mt_L_addsUp 194 k_L_addsUp_194 = true := by decide +kernel
theorem g_L_addsUp_194 {L : am_S} {n : Nat} {ls st : List Value} {M : am_M} {Q : am_Q} (h : am_B L mt_L_addsUp k_L_addsUp_194 n 194 ls st M Q) : am_R L mt_L_addsUp n 194 ls st M Q := am_go L mt_L_addsUp (fun h => by cases h) k_L_addsUp_194 n 194 ls st M Q o_L_addsUp_194 h
def k_L_addsUp_196 : List am_I := [(.aload_n 0, 1, 0, 0, 0), (.iload_n 2, 1, 0, 0, 0), (.iconst 4, 1, 0, 0, 0), (.invokevirtual 77, 3, 39, 3, 409), (.istore 5, 2, 0, 0, 0), (.iconst 0, 1, 0, 0, 0), (.istore 6, 2, 0, 0, 0)]
set_option maxRecDepth 20000 in
theorem o_L_addsUp_196 : am_okB mt_L_addsUp 196 k_L_addsUp_196 = true := by decide +kernel
theorem g_L_addsUp_196 {L : am_S} {n : Nat} {ls st : List Value} {M : am_M} {Q : am_Q} (h : am_B L mt_L_addsUp k_L_addsUp_196 n 196 ls st M Q) : am_R L mt_L_addsUp n 196 ls st M Q := am_go L mt_L_addsUp (fun h => by cases h) k_L_addsUp_196 n 196 ls st M Q o_L_addsUp_196 h
def k_L_addsUp_207 : List am_I := [(.iload 6, 2, 0, 0, 0), (.iconst 5, 1, 0, 0, 0), (.if_icmp .ge 97, 3, 0, 0, 0), (.iload 5, 2, 0, 0, 0), (.ifCond .ge 7, 3, 0, 0, 0), (.lconst 0, 1, 0, 0, 0), (.goto 42, 3, 0, 0, 0)]
set_option maxRecDepth 20000 in
theorem o_L_addsUp_207 : am_okB mt_L_addsUp 207 k_L_addsUp_207 = true := by decide +kernel
theorem g_L_addsUp_207 {L : am_S} {n : Nat} {ls st : List Value} {M : am_M} {Q : am_Q} (h : am_B L mt_L_addsUp k_L_addsUp_207 n 207 ls st M Q) : am_R L mt_L_addsUp n 207 ls st M Q := am_go L mt_L_addsUp (fun h => by cases h) k_L_addsUp_207 n 207 ls st M Q o_L_addsUp_207 h
def k_L_addsUp_222 : List am_I := [(.aload_n 0, 1, 0, 0, 0), (.iload 6, 2, 0, 0, 0), (.iconst 2, 1, 0, 0, 0), (.iload_n 2, 1, 0, 0, 0), (.iadd, 1, 0, 0, 0), (.invokevirtual 67, 3, 37, 3, 386), (.i2l, 1, 0, 0, 0), (.aload_n 0, 1, 0, 0, 0), (.iload 5, 2, 0, 0, 0), (.iconst 1, 1, 0, 0, 0), (.invokevirtual 67, 3, 37, 3, 386), (.i2l, 1, 0, 0, 0), (.lmul, 1, 0, 0, 0), (.aload_n 0, 1, 0, 0, 0), (.iload 5, 2, 0, 0, 0), (.iconst 2, 1, 0, 0, 0), (.iload_n 2, 1, 0, 0, 0), (.iadd, 1, 0, 0, 0), (.invokevirtual 67, 3, 37, 3, 386), (.i2l, 1, 0, 0, 0), (.aload_n 0, 1, 0, 0, 0), (.iload 6, 2, 0, 0, 0), (.iconst 1, 1, 0, 0, 0), (.invokevirtual 67, 3, 37, 3, 386), (.i2l, 1, 0, 0, 0), (.lmul, 1, 0, 0, 0), (.lsub, 1, 0, 0, 0)]
set_option maxRecDepth 20000 in
theorem o_L_addsUp_222 : am_okB mt_L_addsUp 222 k_L_addsUp_222 = true := by decide +kernel
theorem g_L_addsUp_222 {L : am_S} {n : Nat} {ls st : List Value} {M : am_M} {Q : am_Q} (h : am_B L mt_L_addsUp k_L_addsUp_222 n 222 ls st M Q) : am_R L mt_L_addsUp n 222 ls st M Q := am_go L mt_L_addsUp (fun h => by cases h) k_L_addsUp_222 n 222 ls st M Q o_L_addsUp_222 h
def k_L_addsUp_261 : List am_I := [(.lstore 7, 2, 0, 0, 0), (.aload_n 0, 1, 0, 0, 0), (.iload 6, 2, 0, 0, 0), (.iconst 1, 1, 0, 0, 0), (.invokevirtual 67, 3, 37, 3, 386), (.ifCond .le 31, 3, 0, 0, 0), (.iload 5, 2, 0, 0, 0), (.ifCond .lt 24, 3, 0, 0, 0), (.lload 7, 2, 0, 0, 0), (.lconst 0, 1, 0, 0, 0), (.lcmp, 1, 0, 0, 0), (.ifCond .gt 17, 3, 0, 0, 0), (.lload 7, 2, 0, 0, 0), (.lconst 0, 1, 0, 0, 0), (.lcmp, 1, 0, 0, 0), (.ifCond .ne 12, 3, 0, 0, 0), (.iload 6, 2, 0, 0, 0), (.iload 5, 2, 0, 0, 0), (.if_icmp .ge 5, 3, 0, 0, 0)]
set_option maxRecDepth 20000 in
theorem o_L_addsUp_261 : am_okB mt_L_addsUp 261 k_L_addsUp_261 = true := by decide +kernel
theorem g_L_addsUp_261 {L : am_S} {n : Nat} {ls st : List Value} {M : am_M} {Q : am_Q} (h : am_B L mt_L_addsUp k_L_addsUp_261 n 261 ls st M Q) : am_R L mt_L_addsUp n 261 ls st M Q := am_go L mt_L_addsUp (fun h => by cases h) k_L_addsUp_261 n 261 ls st M Q o_L_addsUp_261 h
def k_L_addsUp_299 : List am_I := [(.iconst 0, 1, 0, 0, 0), (.ireturn, 1, 0, 0, 0)]
set_option maxRecDepth 20000 in
theorem o_L_addsUp_299 : am_okB mt_L_addsUp 299 k_L_addsUp_299 = true := by decide +kernel
theorem g_L_addsUp_299 {L : am_S} {n : Nat} {ls st : List Value} {M : am_M} {Q : am_Q} (h : am_B L mt_L_addsUp k_L_addsUp_299 n 299 ls st M Q) : am_R L mt_L_addsUp n 299 ls st M Q := am_go L mt_L_addsUp (fun h => by cases h) k_L_addsUp_299 n 299 ls st M Q o_L_addsUp_299 h
def k_L_addsUp_301 : List am_I := [(.iinc 6 1, 3, 0, 0, 0), (.goto (-97), 3, 0, 0, 0)]
set_option maxRecDepth 20000 in
theorem o_L_addsUp_301 : am_okB mt_L_addsUp 301 k_L_addsUp_301 = true := by decide +kernel
theorem g_L_addsUp_301 {L : am_S} {n : Nat} {ls st : List Value} {M : am_M} {Q : am_Q} (h : am_B L mt_L_addsUp k_L_addsUp_301 n 301 ls st M Q) : am_R L mt_L_addsUp n 301 ls st M Q := am_go L mt_L_addsUp (fun h => by cases h) k_L_addsUp_301 n 301 ls st M Q o_L_addsUp_301 h
def k_L_addsUp_307 : List am_I := [(.iload 5, 2, 0, 0, 0), (.ifCond .lt 15, 3, 0, 0, 0), (.aload_n 0, 1, 0, 0, 0), (.iload 5, 2, 0, 0, 0), (.iconst 1, 1, 0, 0, 0), (.invokevirtual 67, 3, 37, 3, 386), (.ifCond .ne 5, 3, 0, 0, 0), (.iconst 0, 1, 0, 0, 0), (.ireturn, 1, 0, 0, 0)]
set_option maxRecDepth 20000 in
theorem o_L_addsUp_307 : am_okB mt_L_addsUp 307 k_L_addsUp_307 = true := by decide +kernel
theorem g_L_addsUp_307 {L : am_S} {n : Nat} {ls st : List Value} {M : am_M} {Q : am_Q} (h : am_B L mt_L_addsUp k_L_addsUp_307 n 307 ls st M Q) : am_R L mt_L_addsUp n 307 ls st M Q := am_go L mt_L_addsUp (fun h => by cases h) k_L_addsUp_307 n 307 ls st M Q o_L_addsUp_307 h
def k_L_addsUp_324 : List am_I := [(.iinc 2 1, 3, 0, 0, 0), (.goto (-234), 3, 0, 0, 0)]
set_option maxRecDepth 20000 in
theorem o_L_addsUp_324 : am_okB mt_L_addsUp 324 k_L_addsUp_324 = true := by decide +kernel
theorem g_L_addsUp_324 {L : am_S} {n : Nat} {ls st : List Value} {M : am_M} {Q : am_Q} (h : am_B L mt_L_addsUp k_L_addsUp_324 n 324 ls st M Q) : am_R L mt_L_addsUp n 324 ls st M Q := am_go L mt_L_addsUp (fun h => by cases h) k_L_addsUp_324 n 324 ls st M Q o_L_addsUp_324 h
def k_L_addsUp_330 : List am_I := [(.aload_n 0, 1, 0, 0, 0), (.iconst 0, 1, 0, 0, 0), (.iconst 3, 1, 0, 0, 0), (.invokevirtual 77, 3, 39, 3, 409), (.aload_n 0, 1, 0, 0, 0), (.iconst 1, 1, 0, 0, 0), (.iconst 3, 1, 0, 0, 0), (.invokevirtual 77, 3, 39, 3, 409), (.iadd, 1, 0, 0, 0), (.aload_n 0, 1, 0, 0, 0), (.iconst 2, 1, 0, 0, 0), (.iconst 3, 1, 0, 0, 0), (.invokevirtual 77, 3, 39, 3, 409), (.iadd, 1, 0, 0, 0), (.istore_n 2, 1, 0, 0, 0), (.aload_n 0, 1, 0, 0, 0), (.iconst 0, 1, 0, 0, 0), (.iconst 0, 1, 0, 0, 0), (.invokevirtual 77, 3, 39, 3, 409), (.aload_n 0, 1, 0, 0, 0), (.iconst 1, 1, 0, 0, 0), (.iconst 0, 1, 0, 0, 0), (.invokevirtual 77, 3, 39, 3, 409), (.iadd, 1, 0, 0, 0), (.aload_n 0, 1, 0, 0, 0), (.iconst 2, 1, 0, 0, 0), (.iconst 0, 1, 0, 0, 0), (.invokevirtual 77, 3, 39, 3, 409), (.iadd, 1, 0, 0, 0), (.istore_n 3, 1, 0, 0, 0), (.iload_n 1, 1, 0, 0, 0), (.aload_n 0, 1, 0, 0, 0), (.iconst 4, 1, 0, 0, 0), (.invokevirtual 62, 3, 40, 2, 363), (.if_icmp .ne 60, 3, 0, 0, 0), (.aload_n 0, 1, 0, 0, 0), (.bipush 6, 2, 0, 0, 0), (.invokevirtual 62, 3, 40, 2, 363), (.iload_n 1, 1, 0, 0, 0), (.aload_n 0, 1, 0, 0, 0), (.iconst 5, 1, 0, 0, 0), (.invokevirtual 62, 3, 40, 2, 363), (.iadd, 1, 0, 0, 0), (.if_icmp .ne 44, 3, 0, 0, 0), (.aload_n 0, 1, 0, 0, 0), (.iconst 0, 1, 0, 0, 0), (.invokevirtual 62, 3, 40, 2, 363), (.aload_n 0, 1, 0, 0, 0), (.iconst 1, 1, 0, 0, 0), (.invokevirtual 62, 3, 40, 2, 363), (.bipush 24, 2, 0, 0, 0), (.irem, 1, 0, 0, 0), (.if_icmp .ne 28, 3, 0, 0, 0), (.aload_n 0, 1, 0, 0, 0), (.invokevirtual 107, 3, 45, 1, 516), (.iload_n 3, 1, 0, 0, 0), (.ifCond .ne 7, 3, 0, 0, 0), (.dconst 0, 1, 0, 0, 0), (.goto 8, 3, 0, 0, 0)]
set_option maxRecDepth 20000 in
theorem o_L_addsUp_330 : am_okB mt_L_addsUp 330 k_L_addsUp_330 = true := by decide +kernel
theorem g_L_addsUp_330 {L : am_S} {n : Nat} {ls st : List Value} {M : am_M} {Q : am_Q} (h : am_B L mt_L_addsUp k_L_addsUp_330 n 330 ls st M Q) : am_R L mt_L_addsUp n 330 ls st M Q := am_go L mt_L_addsUp (fun h => by cases h) k_L_addsUp_330 n 330 ls st M Q o_L_addsUp_330 h
def k_L_addsUp_425 : List am_I := [(.iload_n 2, 1, 0, 0, 0), (.i2d, 1, 0, 0, 0), (.iload_n 3, 1, 0, 0, 0), (.i2d, 1, 0, 0, 0), (.ddiv, 1, 0, 0, 0)]
set_option maxRecDepth 20000 in
theorem o_L_addsUp_425 : am_okB mt_L_addsUp 425 k_L_addsUp_425 = true := by decide +kernel
theorem g_L_addsUp_425 {L : am_S} {n : Nat} {ls st : List Value} {M : am_M} {Q : am_Q} (h : am_B L mt_L_addsUp k_L_addsUp_425 n 425 ls st M Q) : am_R L mt_L_addsUp n 425 ls st M Q := am_go L mt_L_addsUp (fun h => by cases h) k_L_addsUp_425 n 425 ls st M Q o_L_addsUp_425 h
def k_L_addsUp_430 : List am_I := [(.dcmp .l, 1, 0, 0, 0), (.ifCond .ne 7, 3, 0, 0, 0), (.iconst 1, 1, 0, 0, 0), (.goto 4, 3, 0, 0, 0)]
set_option maxRecDepth 20000 in
theorem o_L_addsUp_430 : am_okB mt_L_addsUp 430 k_L_addsUp_430 = true := by decide +kernel
theorem g_L_addsUp_430 {L : am_S} {n : Nat} {ls st : List Value} {M : am_M} {Q : am_Q} (h : am_B L mt_L_addsUp k_L_addsUp_430 n 430 ls st M Q) : am_R L mt_L_addsUp n 430 ls st M Q := am_go L mt_L_addsUp (fun h => by cases h) k_L_addsUp_430 n 430 ls st M Q o_L_addsUp_430 h
def k_L_addsUp_438 : List am_I := [(.iconst 0, 1, 0, 0, 0)]
set_option maxRecDepth 20000 in
theorem o_L_addsUp_438 : am_okB mt_L_addsUp 438 k_L_addsUp_438 = true := by decide +kernel
theorem g_L_addsUp_438 {L : am_S} {n : Nat} {ls st : List Value} {M : am_M} {Q : am_Q} (h : am_B L mt_L_addsUp k_L_addsUp_438 n 438 ls st M Q) : am_R L mt_L_addsUp n 438 ls st M Q := am_go L mt_L_addsUp (fun h => by cases h) k_L_addsUp_438 n 438 ls st M Q o_L_addsUp_438 h
def k_L_addsUp_439 : List am_I := [(.ireturn, 1, 0, 0, 0)]
set_option maxRecDepth 20000 in
theorem o_L_addsUp_439 : am_okB mt_L_addsUp 439 k_L_addsUp_439 = true := by decide +kernel
theorem g_L_addsUp_439 {L : am_S} {n : Nat} {ls st : List Value} {M : am_M} {Q : am_Q} (h : am_B L mt_L_addsUp k_L_addsUp_439 n 439 ls st M Q) : am_R L mt_L_addsUp n 439 ls st M Q := am_go L mt_L_addsUp (fun h => by cases h) k_L_addsUp_439 n 439 ls st M Q o_L_addsUp_439 h
def k_L_isAhead_0 : List am_I := [(.aload_n 0, 1, 0, 0, 0), (.invokestatic 111, 3, 68, 1, 358), (.lstore_n 3, 1, 0, 0, 0), (.aload_n 0, 1, 0, 0, 0), (.iload_n 2, 1, 0, 0, 0), (.invokevirtual 115, 3, 42, 2, 133), (.istore 5, 2, 0, 0, 0), (.bipush 8, 2, 0, 0, 0)]
set_option maxRecDepth 20000 in
theorem o_L_isAhead_0 : am_okB mt_L_isAhead 0 k_L_isAhead_0 = true := by decide +kernel
theorem g_L_isAhead_0 {L : am_S} (hL : L.1 < 2 ^ 31) {n : Nat} {ls st : List Value} {M : am_M} {Q : am_Q} (h : am_B L mt_L_isAhead k_L_isAhead_0 n 0 ls st M Q) : am_R L mt_L_isAhead n 0 ls st M Q := am_go L mt_L_isAhead (fun _ => hL) k_L_isAhead_0 n 0 ls st M Q o_L_isAhead_0 h
def k_L_isAhead_16 : List am_I := [(.astore 6, 2, 0, 0, 0), (.iconst 1, 1, 0, 0, 0), (.istore 7, 2, 0, 0, 0)]
set_option maxRecDepth 20000 in
theorem o_L_isAhead_16 : am_okB mt_L_isAhead 16 k_L_isAhead_16 = true := by decide +kernel
theorem g_L_isAhead_16 {L : am_S} (hL : L.1 < 2 ^ 31) {n : Nat} {ls st : List Value} {M : am_M} {Q : am_Q} (h : am_B L mt_L_isAhead k_L_isAhead_16 n 16 ls st M Q) : am_R L mt_L_isAhead n 16 ls st M Q := am_go L mt_L_isAhead (fun _ => hL) k_L_isAhead_16 n 16 ls st M Q o_L_isAhead_16 h
def k_L_isAhead_21 : List am_I := [(.iload 7, 2, 0, 0, 0), (.bipush 8, 2, 0, 0, 0), (.if_icmp .ge 22, 3, 0, 0, 0), (.aload 6, 2, 0, 0, 0), (.iload 7, 2, 0, 0, 0), (.aload_n 0, 1, 0, 0, 0), (.iload_n 1, 1, 0, 0, 0), (.iload_n 2, 1, 0, 0, 0), (.iload 7, 2, 0, 0, 0), (.invokevirtual 118, 3, 41, 4, 523), (.iastore, 1, 0, 0, 0), (.iinc 7 1, 3, 0, 0, 0), (.goto (-23), 3, 0, 0, 0)]
set_option maxRecDepth 20000 in
theorem o_L_isAhead_21 : am_okB mt_L_isAhead 21 k_L_isAhead_21 = true := by decide +kernel
theorem g_L_isAhead_21 {L : am_S} (hL : L.1 < 2 ^ 31) {n : Nat} {ls st : List Value} {M : am_M} {Q : am_Q} (h : am_B L mt_L_isAhead k_L_isAhead_21 n 21 ls st M Q) : am_R L mt_L_isAhead n 21 ls st M Q := am_go L mt_L_isAhead (fun _ => hL) k_L_isAhead_21 n 21 ls st M Q o_L_isAhead_21 h
def k_L_isAhead_47 : List am_I := [(.aload_n 0, 1, 0, 0, 0), (.invokestatic 111, 3, 68, 1, 358), (.lload_n 3, 1, 0, 0, 0), (.lcmp, 1, 0, 0, 0), (.ifCond .ne 16, 3, 0, 0, 0), (.aload_n 0, 1, 0, 0, 0), (.iconst 0, 1, 0, 0, 0), (.invokestatic 121, 3, 67, 2, 527), (.aload_n 0, 1, 0, 0, 0), (.iconst 0, 1, 0, 0, 0), (.invokevirtual 62, 3, 40, 2, 363), (.if_icmp .eq 5, 3, 0, 0, 0)]
set_option maxRecDepth 20000 in
theorem o_L_isAhead_47 : am_okB mt_L_isAhead 47 k_L_isAhead_47 = true := by decide +kernel
theorem g_L_isAhead_47 {L : am_S} (hL : L.1 < 2 ^ 31) {n : Nat} {ls st : List Value} {M : am_M} {Q : am_Q} (h : am_B L mt_L_isAhead k_L_isAhead_47 n 47 ls st M Q) : am_R L mt_L_isAhead n 47 ls st M Q := am_go L mt_L_isAhead (fun _ => hL) k_L_isAhead_47 n 47 ls st M Q o_L_isAhead_47 h
def k_L_isAhead_69 : List am_I := [(.iconst 0, 1, 0, 0, 0), (.ireturn, 1, 0, 0, 0)]
set_option maxRecDepth 20000 in
theorem o_L_isAhead_69 : am_okB mt_L_isAhead 69 k_L_isAhead_69 = true := by decide +kernel
theorem g_L_isAhead_69 {L : am_S} (hL : L.1 < 2 ^ 31) {n : Nat} {ls st : List Value} {M : am_M} {Q : am_Q} (h : am_B L mt_L_isAhead k_L_isAhead_69 n 69 ls st M Q) : am_R L mt_L_isAhead n 69 ls st M Q := am_go L mt_L_isAhead (fun _ => hL) k_L_isAhead_69 n 69 ls st M Q o_L_isAhead_69 h
def k_L_isAhead_71 : List am_I := [(.aload_n 0, 1, 0, 0, 0), (.iconst 5, 1, 0, 0, 0), (.invokevirtual 62, 3, 40, 2, 363), (.istore 7, 2, 0, 0, 0), (.aload_n 0, 1, 0, 0, 0), (.iload_n 1, 1, 0, 0, 0), (.invokestatic 105, 3, 64, 2, 505), (.aload_n 0, 1, 0, 0, 0), (.iconst 5, 1, 0, 0, 0), (.invokevirtual 62, 3, 40, 2, 363), (.iload 7, 2, 0, 0, 0), (.isub, 1, 0, 0, 0), (.if_icmp .eq 5, 3, 0, 0, 0), (.iconst 0, 1, 0, 0, 0), (.ireturn, 1, 0, 0, 0)]
set_option maxRecDepth 20000 in
theorem o_L_isAhead_71 : am_okB mt_L_isAhead 71 k_L_isAhead_71 = true := by decide +kernel
theorem g_L_isAhead_71 {L : am_S} (hL : L.1 < 2 ^ 31) {n : Nat} {ls st : List Value} {M : am_M} {Q : am_Q} (h : am_B L mt_L_isAhead k_L_isAhead_71 n 71 ls st M Q) : am_R L mt_L_isAhead n 71 ls st M Q := am_go L mt_L_isAhead (fun _ => hL) k_L_isAhead_71 n 71 ls st M Q o_L_isAhead_71 h
def k_L_isAhead_96 : List am_I := [(.iconst 1, 1, 0, 0, 0), (.istore 8, 2, 0, 0, 0)]
set_option maxRecDepth 20000 in
theorem o_L_isAhead_96 : am_okB mt_L_isAhead 96 k_L_isAhead_96 = true := by decide +kernel
theorem g_L_isAhead_96 {L : am_S} (hL : L.1 < 2 ^ 31) {n : Nat} {ls st : List Value} {M : am_M} {Q : am_Q} (h : am_B L mt_L_isAhead k_L_isAhead_96 n 96 ls st M Q) : am_R L mt_L_isAhead n 96 ls st M Q := am_go L mt_L_isAhead (fun _ => hL) k_L_isAhead_96 n 96 ls st M Q o_L_isAhead_96 h
def k_L_isAhead_99 : List am_I := [(.iload 8, 2, 0, 0, 0), (.bipush 8, 2, 0, 0, 0), (.if_icmp .ge 26, 3, 0, 0, 0), (.aload_n 0, 1, 0, 0, 0), (.iload_n 2, 1, 0, 0, 0), (.iload 8, 2, 0, 0, 0), (.invokevirtual 67, 3, 37, 3, 386), (.aload 6, 2, 0, 0, 0), (.iload 8, 2, 0, 0, 0), (.iaload, 1, 0, 0, 0), (.if_icmp .eq 5, 3, 0, 0, 0), (.iconst 0, 1, 0, 0, 0), (.ireturn, 1, 0, 0, 0)]
set_option maxRecDepth 20000 in
theorem o_L_isAhead_99 : am_okB mt_L_isAhead 99 k_L_isAhead_99 = true := by decide +kernel
theorem g_L_isAhead_99 {L : am_S} (hL : L.1 < 2 ^ 31) {n : Nat} {ls st : List Value} {M : am_M} {Q : am_Q} (h : am_B L mt_L_isAhead k_L_isAhead_99 n 99 ls st M Q) : am_R L mt_L_isAhead n 99 ls st M Q := am_go L mt_L_isAhead (fun _ => hL) k_L_isAhead_99 n 99 ls st M Q o_L_isAhead_99 h
def k_L_isAhead_123 : List am_I := [(.iinc 8 1, 3, 0, 0, 0), (.goto (-27), 3, 0, 0, 0)]
set_option maxRecDepth 20000 in
theorem o_L_isAhead_123 : am_okB mt_L_isAhead 123 k_L_isAhead_123 = true := by decide +kernel
theorem g_L_isAhead_123 {L : am_S} (hL : L.1 < 2 ^ 31) {n : Nat} {ls st : List Value} {M : am_M} {Q : am_Q} (h : am_B L mt_L_isAhead k_L_isAhead_123 n 123 ls st M Q) : am_R L mt_L_isAhead n 123 ls st M Q := am_go L mt_L_isAhead (fun _ => hL) k_L_isAhead_123 n 123 ls st M Q o_L_isAhead_123 h
def k_L_isAhead_129 : List am_I := [(.iconst 0, 1, 0, 0, 0), (.istore 8, 2, 0, 0, 0)]
set_option maxRecDepth 20000 in
theorem o_L_isAhead_129 : am_okB mt_L_isAhead 129 k_L_isAhead_129 = true := by decide +kernel
theorem g_L_isAhead_129 {L : am_S} (hL : L.1 < 2 ^ 31) {n : Nat} {ls st : List Value} {M : am_M} {Q : am_Q} (h : am_B L mt_L_isAhead k_L_isAhead_129 n 129 ls st M Q) : am_R L mt_L_isAhead n 129 ls st M Q := am_go L mt_L_isAhead (fun _ => hL) k_L_isAhead_129 n 129 ls st M Q o_L_isAhead_129 h
def k_L_isAhead_132 : List am_I := [(.iload 8, 2, 0, 0, 0), (.iconst 5, 1, 0, 0, 0), (.if_icmp .ge 45, 3, 0, 0, 0), (.iconst 2, 1, 0, 0, 0), (.istore 9, 2, 0, 0, 0)]
set_option maxRecDepth 20000 in
theorem o_L_isAhead_132 : am_okB mt_L_isAhead 132 k_L_isAhead_132 = true := by decide +kernel
theorem g_L_isAhead_132 {L : am_S} (hL : L.1 < 2 ^ 31) {n : Nat} {ls st : List Value} {M : am_M} {Q : am_Q} (h : am_B L mt_L_isAhead k_L_isAhead_132 n 132 ls st M Q) : am_R L mt_L_isAhead n 132 ls st M Q := am_go L mt_L_isAhead (fun _ => hL) k_L_isAhead_132 n 132 ls st M Q o_L_isAhead_132 h
def k_L_isAhead_141 : List am_I := [(.iload 9, 2, 0, 0, 0), (.iconst 5, 1, 0, 0, 0), (.if_icmp .ge 30, 3, 0, 0, 0), (.aload_n 0, 1, 0, 0, 0), (.iload 8, 2, 0, 0, 0), (.iload 9, 2, 0, 0, 0), (.invokevirtual 67, 3, 37, 3, 386), (.aload_n 0, 1, 0, 0, 0), (.iload 8, 2, 0, 0, 0), (.bipush 9, 2, 0, 0, 0), (.invokevirtual 67, 3, 37, 3, 386), (.if_icmp .le 5, 3, 0, 0, 0), (.iconst 0, 1, 0, 0, 0), (.ireturn, 1, 0, 0, 0)]
set_option maxRecDepth 20000 in
theorem o_L_isAhead_141 : am_okB mt_L_isAhead 141 k_L_isAhead_141 = true := by decide +kernel
theorem g_L_isAhead_141 {L : am_S} (hL : L.1 < 2 ^ 31) {n : Nat} {ls st : List Value} {M : am_M} {Q : am_Q} (h : am_B L mt_L_isAhead k_L_isAhead_141 n 141 ls st M Q) : am_R L mt_L_isAhead n 141 ls st M Q := am_go L mt_L_isAhead (fun _ => hL) k_L_isAhead_141 n 141 ls st M Q o_L_isAhead_141 h
def k_L_isAhead_168 : List am_I := [(.iinc 9 1, 3, 0, 0, 0), (.goto (-30), 3, 0, 0, 0)]
set_option maxRecDepth 20000 in
theorem o_L_isAhead_168 : am_okB mt_L_isAhead 168 k_L_isAhead_168 = true := by decide +kernel
theorem g_L_isAhead_168 {L : am_S} (hL : L.1 < 2 ^ 31) {n : Nat} {ls st : List Value} {M : am_M} {Q : am_Q} (h : am_B L mt_L_isAhead k_L_isAhead_168 n 168 ls st M Q) : am_R L mt_L_isAhead n 168 ls st M Q := am_go L mt_L_isAhead (fun _ => hL) k_L_isAhead_168 n 168 ls st M Q o_L_isAhead_168 h
def k_L_isAhead_174 : List am_I := [(.iinc 8 1, 3, 0, 0, 0), (.goto (-45), 3, 0, 0, 0)]
set_option maxRecDepth 20000 in
theorem o_L_isAhead_174 : am_okB mt_L_isAhead 174 k_L_isAhead_174 = true := by decide +kernel
theorem g_L_isAhead_174 {L : am_S} (hL : L.1 < 2 ^ 31) {n : Nat} {ls st : List Value} {M : am_M} {Q : am_Q} (h : am_B L mt_L_isAhead k_L_isAhead_174 n 174 ls st M Q) : am_R L mt_L_isAhead n 174 ls st M Q := am_go L mt_L_isAhead (fun _ => hL) k_L_isAhead_174 n 174 ls st M Q o_L_isAhead_174 h
def k_L_isAhead_180 : List am_I := [(.aload_n 0, 1, 0, 0, 0), (.iconst 0, 1, 0, 0, 0), (.invokestatic 123, 3, 65, 2, 319), (.aload_n 0, 1, 0, 0, 0), (.iconst 0, 1, 0, 0, 0), (.invokevirtual 62, 3, 40, 2, 363), (.if_icmp .ne 39, 3, 0, 0, 0), (.aload_n 0, 1, 0, 0, 0), (.invokestatic 111, 3, 68, 1, 358), (.lload_n 3, 1, 0, 0, 0), (.lcmp, 1, 0, 0, 0), (.ifCond .ne 30, 3, 0, 0, 0), (.iload 5, 2, 0, 0, 0), (.ifCond .ne 7, 3, 0, 0, 0), (.iconst 1, 1, 0, 0, 0), (.goto 4, 3, 0, 0, 0)]
set_option maxRecDepth 20000 in
theorem o_L_isAhead_180 : am_okB mt_L_isAhead 180 k_L_isAhead_180 = true := by decide +kernel
theorem g_L_isAhead_180 {L : am_S} (hL : L.1 < 2 ^ 31) {n : Nat} {ls st : List Value} {M : am_M} {Q : am_Q} (h : am_B L mt_L_isAhead k_L_isAhead_180 n 180 ls st M Q) : am_R L mt_L_isAhead n 180 ls st M Q := am_go L mt_L_isAhead (fun _ => hL) k_L_isAhead_180 n 180 ls st M Q o_L_isAhead_180 h
def k_L_isAhead_211 : List am_I := [(.iconst 0, 1, 0, 0, 0)]
set_option maxRecDepth 20000 in
theorem o_L_isAhead_211 : am_okB mt_L_isAhead 211 k_L_isAhead_211 = true := by decide +kernel
theorem g_L_isAhead_211 {L : am_S} (hL : L.1 < 2 ^ 31) {n : Nat} {ls st : List Value} {M : am_M} {Q : am_Q} (h : am_B L mt_L_isAhead k_L_isAhead_211 n 211 ls st M Q) : am_R L mt_L_isAhead n 211 ls st M Q := am_go L mt_L_isAhead (fun _ => hL) k_L_isAhead_211 n 211 ls st M Q o_L_isAhead_211 h
def k_L_isAhead_212 : List am_I := [(.aload_n 0, 1, 0, 0, 0), (.iload_n 2, 1, 0, 0, 0), (.iconst 1, 1, 0, 0, 0), (.invokevirtual 67, 3, 37, 3, 386), (.ifCond .ne 7, 3, 0, 0, 0), (.iconst 1, 1, 0, 0, 0), (.goto 4, 3, 0, 0, 0)]
set_option maxRecDepth 20000 in
theorem o_L_isAhead_212 : am_okB mt_L_isAhead 212 k_L_isAhead_212 = true := by decide +kernel
theorem g_L_isAhead_212 {L : am_S} (hL : L.1 < 2 ^ 31) {n : Nat} {ls st : List Value} {M : am_M} {Q : am_Q} (h : am_B L mt_L_isAhead k_L_isAhead_212 n 212 ls st M Q) : am_R L mt_L_isAhead n 212 ls st M Q := am_go L mt_L_isAhead (fun _ => hL) k_L_isAhead_212 n 212 ls st M Q o_L_isAhead_212 h
def k_L_isAhead_225 : List am_I := [(.iconst 0, 1, 0, 0, 0)]
set_option maxRecDepth 20000 in
theorem o_L_isAhead_225 : am_okB mt_L_isAhead 225 k_L_isAhead_225 = true := by decide +kernel
theorem g_L_isAhead_225 {L : am_S} (hL : L.1 < 2 ^ 31) {n : Nat} {ls st : List Value} {M : am_M} {Q : am_Q} (h : am_B L mt_L_isAhead k_L_isAhead_225 n 225 ls st M Q) : am_R L mt_L_isAhead n 225 ls st M Q := am_go L mt_L_isAhead (fun _ => hL) k_L_isAhead_225 n 225 ls st M Q o_L_isAhead_225 h
def k_L_isAhead_226 : List am_I := [(.if_icmp .eq 5, 3, 0, 0, 0)]
set_option maxRecDepth 20000 in
theorem o_L_isAhead_226 : am_okB mt_L_isAhead 226 k_L_isAhead_226 = true := by decide +kernel
theorem g_L_isAhead_226 {L : am_S} (hL : L.1 < 2 ^ 31) {n : Nat} {ls st : List Value} {M : am_M} {Q : am_Q} (h : am_B L mt_L_isAhead k_L_isAhead_226 n 226 ls st M Q) : am_R L mt_L_isAhead n 226 ls st M Q := am_go L mt_L_isAhead (fun _ => hL) k_L_isAhead_226 n 226 ls st M Q o_L_isAhead_226 h
def k_L_isAhead_229 : List am_I := [(.iconst 0, 1, 0, 0, 0), (.ireturn, 1, 0, 0, 0)]
set_option maxRecDepth 20000 in
theorem o_L_isAhead_229 : am_okB mt_L_isAhead 229 k_L_isAhead_229 = true := by decide +kernel
theorem g_L_isAhead_229 {L : am_S} (hL : L.1 < 2 ^ 31) {n : Nat} {ls st : List Value} {M : am_M} {Q : am_Q} (h : am_B L mt_L_isAhead k_L_isAhead_229 n 229 ls st M Q) : am_R L mt_L_isAhead n 229 ls st M Q := am_go L mt_L_isAhead (fun _ => hL) k_L_isAhead_229 n 229 ls st M Q o_L_isAhead_229 h
def k_L_isAhead_231 : List am_I := [(.iconst 1, 1, 0, 0, 0), (.istore 8, 2, 0, 0, 0)]
set_option maxRecDepth 20000 in
theorem o_L_isAhead_231 : am_okB mt_L_isAhead 231 k_L_isAhead_231 = true := by decide +kernel
theorem g_L_isAhead_231 {L : am_S} (hL : L.1 < 2 ^ 31) {n : Nat} {ls st : List Value} {M : am_M} {Q : am_Q} (h : am_B L mt_L_isAhead k_L_isAhead_231 n 231 ls st M Q) : am_R L mt_L_isAhead n 231 ls st M Q := am_go L mt_L_isAhead (fun _ => hL) k_L_isAhead_231 n 231 ls st M Q o_L_isAhead_231 h
def k_L_isAhead_234 : List am_I := [(.iload 8, 2, 0, 0, 0), (.bipush 60, 2, 0, 0, 0), (.if_icmp .ge 70, 3, 0, 0, 0), (.iload 5, 2, 0, 0, 0), (.ifCond .eq 65, 3, 0, 0, 0), (.aload_n 0, 1, 0, 0, 0), (.iconst 1, 1, 0, 0, 0), (.invokestatic 105, 3, 64, 2, 505), (.ifCond .lt 16, 3, 0, 0, 0), (.aload_n 0, 1, 0, 0, 0), (.iload_n 2, 1, 0, 0, 0), (.iconst 1, 1, 0, 0, 0), (.invokevirtual 67, 3, 37, 3, 386), (.ifCond .ne 7, 3, 0, 0, 0), (.iconst 1, 1, 0, 0, 0), (.goto 4, 3, 0, 0, 0)]
set_option maxRecDepth 20000 in
theorem o_L_isAhead_234 : am_okB mt_L_isAhead 234 k_L_isAhead_234 = true := by decide +kernel
theorem g_L_isAhead_234 {L : am_S} (hL : L.1 < 2 ^ 31) {n : Nat} {ls st : List Value} {M : am_M} {Q : am_Q} (h : am_B L mt_L_isAhead k_L_isAhead_234 n 234 ls st M Q) : am_R L mt_L_isAhead n 234 ls st M Q := am_go L mt_L_isAhead (fun _ => hL) k_L_isAhead_234 n 234 ls st M Q o_L_isAhead_234 h
def k_L_isAhead_267 : List am_I := [(.iconst 0, 1, 0, 0, 0)]
set_option maxRecDepth 20000 in
theorem o_L_isAhead_267 : am_okB mt_L_isAhead 267 k_L_isAhead_267 = true := by decide +kernel
theorem g_L_isAhead_267 {L : am_S} (hL : L.1 < 2 ^ 31) {n : Nat} {ls st : List Value} {M : am_M} {Q : am_Q} (h : am_B L mt_L_isAhead k_L_isAhead_267 n 267 ls st M Q) : am_R L mt_L_isAhead n 267 ls st M Q := am_go L mt_L_isAhead (fun _ => hL) k_L_isAhead_267 n 267 ls st M Q o_L_isAhead_267 h
def k_L_isAhead_268 : List am_I := [(.istore 9, 2, 0, 0, 0), (.iload 9, 2, 0, 0, 0), (.iload 8, 2, 0, 0, 0), (.iload 5, 2, 0, 0, 0), (.if_icmp .ne 7, 3, 0, 0, 0), (.iconst 1, 1, 0, 0, 0), (.goto 4, 3, 0, 0, 0)]
set_option maxRecDepth 20000 in
theorem o_L_isAhead_268 : am_okB mt_L_isAhead 268 k_L_isAhead_268 = true := by decide +kernel
theorem g_L_isAhead_268 {L : am_S} (hL : L.1 < 2 ^ 31) {n : Nat} {ls st : List Value} {M : am_M} {Q : am_Q} (h : am_B L mt_L_isAhead k_L_isAhead_268 n 268 ls st M Q) : am_R L mt_L_isAhead n 268 ls st M Q := am_go L mt_L_isAhead (fun _ => hL) k_L_isAhead_268 n 268 ls st M Q o_L_isAhead_268 h
def k_L_isAhead_283 : List am_I := [(.iconst 0, 1, 0, 0, 0)]
set_option maxRecDepth 20000 in
theorem o_L_isAhead_283 : am_okB mt_L_isAhead 283 k_L_isAhead_283 = true := by decide +kernel
theorem g_L_isAhead_283 {L : am_S} (hL : L.1 < 2 ^ 31) {n : Nat} {ls st : List Value} {M : am_M} {Q : am_Q} (h : am_B L mt_L_isAhead k_L_isAhead_283 n 283 ls st M Q) : am_R L mt_L_isAhead n 283 ls st M Q := am_go L mt_L_isAhead (fun _ => hL) k_L_isAhead_283 n 283 ls st M Q o_L_isAhead_283 h
def k_L_isAhead_284 : List am_I := [(.if_icmp .eq 5, 3, 0, 0, 0), (.iconst 0, 1, 0, 0, 0), (.ireturn, 1, 0, 0, 0)]
set_option maxRecDepth 20000 in
theorem o_L_isAhead_284 : am_okB mt_L_isAhead 284 k_L_isAhead_284 = true := by decide +kernel
theorem g_L_isAhead_284 {L : am_S} (hL : L.1 < 2 ^ 31) {n : Nat} {ls st : List Value} {M : am_M} {Q : am_Q} (h : am_B L mt_L_isAhead k_L_isAhead_284 n 284 ls st M Q) : am_R L mt_L_isAhead n 284 ls st M Q := am_go L mt_L_isAhead (fun _ => hL) k_L_isAhead_284 n 284 ls st M Q o_L_isAhead_284 h
def k_L_isAhead_289 : List am_I := [(.iload 9, 2, 0, 0, 0), (.ifCond .eq 7, 3, 0, 0, 0), (.iconst 0, 1, 0, 0, 0), (.goto 5, 3, 0, 0, 0)]
set_option maxRecDepth 20000 in
theorem o_L_isAhead_289 : am_okB mt_L_isAhead 289 k_L_isAhead_289 = true := by decide +kernel
theorem g_L_isAhead_289 {L : am_S} (hL : L.1 < 2 ^ 31) {n : Nat} {ls st : List Value} {M : am_M} {Q : am_Q} (h : am_B L mt_L_isAhead k_L_isAhead_289 n 289 ls st M Q) : am_R L mt_L_isAhead n 289 ls st M Q := am_go L mt_L_isAhead (fun _ => hL) k_L_isAhead_289 n 289 ls st M Q o_L_isAhead_289 h
def k_L_isAhead_298 : List am_I := [(.iload 5, 2, 0, 0, 0)]
set_option maxRecDepth 20000 in
theorem o_L_isAhead_298 : am_okB mt_L_isAhead 298 k_L_isAhead_298 = true := by decide +kernel
theorem g_L_isAhead_298 {L : am_S} (hL : L.1 < 2 ^ 31) {n : Nat} {ls st : List Value} {M : am_M} {Q : am_Q} (h : am_B L mt_L_isAhead k_L_isAhead_298 n 298 ls st M Q) : am_R L mt_L_isAhead n 298 ls st M Q := am_go L mt_L_isAhead (fun _ => hL) k_L_isAhead_298 n 298 ls st M Q o_L_isAhead_298 h
def k_L_isAhead_300 : List am_I := [(.istore 5, 2, 0, 0, 0), (.iinc 8 1, 3, 0, 0, 0), (.goto (-71), 3, 0, 0, 0)]
set_option maxRecDepth 20000 in
theorem o_L_isAhead_300 : am_okB mt_L_isAhead 300 k_L_isAhead_300 = true := by decide +kernel
theorem g_L_isAhead_300 {L : am_S} (hL : L.1 < 2 ^ 31) {n : Nat} {ls st : List Value} {M : am_M} {Q : am_Q} (h : am_B L mt_L_isAhead k_L_isAhead_300 n 300 ls st M Q) : am_R L mt_L_isAhead n 300 ls st M Q := am_go L mt_L_isAhead (fun _ => hL) k_L_isAhead_300 n 300 ls st M Q o_L_isAhead_300 h
def k_L_isAhead_308 : List am_I := [(.aload_n 0, 1, 0, 0, 0), (.iconst 0, 1, 0, 0, 0), (.invokestatic 123, 3, 65, 2, 319), (.ifCond .lt 16, 3, 0, 0, 0), (.aload_n 0, 1, 0, 0, 0), (.invokestatic 111, 3, 68, 1, 358), (.lload_n 3, 1, 0, 0, 0), (.lcmp, 1, 0, 0, 0), (.ifCond .ne 7, 3, 0, 0, 0), (.iconst 1, 1, 0, 0, 0), (.goto 4, 3, 0, 0, 0)]
set_option maxRecDepth 20000 in
theorem o_L_isAhead_308 : am_okB mt_L_isAhead 308 k_L_isAhead_308 = true := by decide +kernel
theorem g_L_isAhead_308 {L : am_S} (hL : L.1 < 2 ^ 31) {n : Nat} {ls st : List Value} {M : am_M} {Q : am_Q} (h : am_B L mt_L_isAhead k_L_isAhead_308 n 308 ls st M Q) : am_R L mt_L_isAhead n 308 ls st M Q := am_go L mt_L_isAhead (fun _ => hL) k_L_isAhead_308 n 308 ls st M Q o_L_isAhead_308 h
def k_L_isAhead_329 : List am_I := [(.iconst 0, 1, 0, 0, 0)]
set_option maxRecDepth 20000 in
theorem o_L_isAhead_329 : am_okB mt_L_isAhead 329 k_L_isAhead_329 = true := by decide +kernel
theorem g_L_isAhead_329 {L : am_S} (hL : L.1 < 2 ^ 31) {n : Nat} {ls st : List Value} {M : am_M} {Q : am_Q} (h : am_B L mt_L_isAhead k_L_isAhead_329 n 329 ls st M Q) : am_R L mt_L_isAhead n 329 ls st M Q := am_go L mt_L_isAhead (fun _ => hL) k_L_isAhead_329 n 329 ls st M Q o_L_isAhead_329 h
def k_L_isAhead_330 : List am_I := [(.ireturn, 1, 0, 0, 0)]
set_option maxRecDepth 20000 in
theorem o_L_isAhead_330 : am_okB mt_L_isAhead 330 k_L_isAhead_330 = true := by decide +kernel
theorem g_L_isAhead_330 {L : am_S} (hL : L.1 < 2 ^ 31) {n : Nat} {ls st : List Value} {M : am_M} {Q : am_Q} (h : am_B L mt_L_isAhead k_L_isAhead_330 n 330 ls st M Q) : am_R L mt_L_isAhead n 330 ls st M Q := am_go L mt_L_isAhead (fun _ => hL) k_L_isAhead_330 n 330 ls st M Q o_L_isAhead_330 h
def k_L_look_0 : List am_I := [(.iconst 0, 1, 0, 0, 0), (.istore_n 2, 1, 0, 0, 0)]
set_option maxRecDepth 20000 in
theorem o_L_look_0 : am_okB mt_L_look 0 k_L_look_0 = true := by decide +kernel
theorem g_L_look_0 {L : am_S} (hL : L.1 < 2 ^ 31) {n : Nat} {ls st : List Value} {M : am_M} {Q : am_Q} (h : am_B L mt_L_look k_L_look_0 n 0 ls st M Q) : am_R L mt_L_look n 0 ls st M Q := am_go L mt_L_look (fun _ => hL) k_L_look_0 n 0 ls st M Q o_L_look_0 h
def k_L_look_2 : List am_I := [(.iload_n 2, 1, 0, 0, 0), (.bipush 35, 2, 0, 0, 0), (.if_icmp .ge 26, 3, 0, 0, 0), (.aload_n 1, 1, 0, 0, 0), (.iload_n 2, 1, 0, 0, 0), (.aload_n 0, 1, 0, 0, 0), (.iload_n 2, 1, 0, 0, 0), (.bipush 7, 2, 0, 0, 0), (.idiv, 1, 0, 0, 0), (.iconst 1, 1, 0, 0, 0), (.iload_n 2, 1, 0, 0, 0), (.bipush 7, 2, 0, 0, 0), (.irem, 1, 0, 0, 0), (.iadd, 1, 0, 0, 0), (.invokevirtual 67, 3, 37, 3, 386), (.iastore, 1, 0, 0, 0), (.iinc 2 1, 3, 0, 0, 0), (.goto (-26), 3, 0, 0, 0)]
set_option maxRecDepth 20000 in
theorem o_L_look_2 : am_okB mt_L_look 2 k_L_look_2 = true := by decide +kernel
theorem g_L_look_2 {L : am_S} (hL : L.1 < 2 ^ 31) {n : Nat} {ls st : List Value} {M : am_M} {Q : am_Q} (h : am_B L mt_L_look k_L_look_2 n 2 ls st M Q) : am_R L mt_L_look n 2 ls st M Q := am_go L mt_L_look (fun _ => hL) k_L_look_2 n 2 ls st M Q o_L_look_2 h
def k_L_look_31 : List am_I := [(.return_, 1, 0, 0, 0)]
set_option maxRecDepth 20000 in
theorem o_L_look_31 : am_okB mt_L_look 31 k_L_look_31 = true := by decide +kernel
theorem g_L_look_31 {L : am_S} (hL : L.1 < 2 ^ 31) {n : Nat} {ls st : List Value} {M : am_M} {Q : am_Q} (h : am_B L mt_L_look k_L_look_31 n 31 ls st M Q) : am_R L mt_L_look n 31 ls st M Q := am_go L mt_L_look (fun _ => hL) k_L_look_31 n 31 ls st M Q o_L_look_31 h
def k_L_isLook_0 : List am_I := [(.iconst 1, 1, 0, 0, 0), (.istore_n 2, 1, 0, 0, 0), (.iconst 0, 1, 0, 0, 0), (.istore_n 3, 1, 0, 0, 0)]
set_option maxRecDepth 20000 in
theorem o_L_isLook_0 : am_okB mt_L_isLook 0 k_L_isLook_0 = true := by decide +kernel
theorem g_L_isLook_0 {L : am_S} (hL : L.1 < 2 ^ 31) {n : Nat} {ls st : List Value} {M : am_M} {Q : am_Q} (h : am_B L mt_L_isLook k_L_isLook_0 n 0 ls st M Q) : am_R L mt_L_isLook n 0 ls st M Q := am_go L mt_L_isLook (fun _ => hL) k_L_isLook_0 n 0 ls st M Q o_L_isLook_0 h
def k_L_isLook_4 : List am_I := [(.iload_n 3, 1, 0, 0, 0), (.bipush 35, 2, 0, 0, 0), (.if_icmp .ge 39, 3, 0, 0, 0), (.iload_n 2, 1, 0, 0, 0), (.ifCond .eq 27, 3, 0, 0, 0), (.aload_n 1, 1, 0, 0, 0), (.iload_n 3, 1, 0, 0, 0), (.iaload, 1, 0, 0, 0), (.aload_n 0, 1, 0, 0, 0), (.iload_n 3, 1, 0, 0, 0), (.bipush 7, 2, 0, 0, 0), (.idiv, 1, 0, 0, 0), (.iconst 1, 1, 0, 0, 0), (.iload_n 3, 1, 0, 0, 0), (.bipush 7, 2, 0, 0, 0), (.irem, 1, 0, 0, 0), (.iadd, 1, 0, 0, 0), (.invokevirtual 67, 3, 37, 3, 386), (.if_icmp .ne 7, 3, 0, 0, 0), (.iconst 1, 1, 0, 0, 0), (.goto 4, 3, 0, 0, 0)]
set_option maxRecDepth 20000 in
theorem o_L_isLook_4 : am_okB mt_L_isLook 4 k_L_isLook_4 = true := by decide +kernel
theorem g_L_isLook_4 {L : am_S} (hL : L.1 < 2 ^ 31) {n : Nat} {ls st : List Value} {M : am_M} {Q : am_Q} (h : am_B L mt_L_isLook k_L_isLook_4 n 4 ls st M Q) : am_R L mt_L_isLook n 4 ls st M Q := am_go L mt_L_isLook (fun _ => hL) k_L_isLook_4 n 4 ls st M Q o_L_isLook_4 h
def k_L_isLook_38 : List am_I := [(.iconst 0, 1, 0, 0, 0)]
set_option maxRecDepth 20000 in
theorem o_L_isLook_38 : am_okB mt_L_isLook 38 k_L_isLook_38 = true := by decide +kernel
theorem g_L_isLook_38 {L : am_S} (hL : L.1 < 2 ^ 31) {n : Nat} {ls st : List Value} {M : am_M} {Q : am_Q} (h : am_B L mt_L_isLook k_L_isLook_38 n 38 ls st M Q) : am_R L mt_L_isLook n 38 ls st M Q := am_go L mt_L_isLook (fun _ => hL) k_L_isLook_38 n 38 ls st M Q o_L_isLook_38 h
def k_L_isLook_39 : List am_I := [(.istore_n 2, 1, 0, 0, 0), (.iinc 3 1, 3, 0, 0, 0), (.goto (-39), 3, 0, 0, 0)]
set_option maxRecDepth 20000 in
theorem o_L_isLook_39 : am_okB mt_L_isLook 39 k_L_isLook_39 = true := by decide +kernel
theorem g_L_isLook_39 {L : am_S} (hL : L.1 < 2 ^ 31) {n : Nat} {ls st : List Value} {M : am_M} {Q : am_Q} (h : am_B L mt_L_isLook k_L_isLook_39 n 39 ls st M Q) : am_R L mt_L_isLook n 39 ls st M Q := am_go L mt_L_isLook (fun _ => hL) k_L_isLook_39 n 39 ls st M Q o_L_isLook_39 h
def k_L_isLook_46 : List am_I := [(.iload_n 2, 1, 0, 0, 0), (.ireturn, 1, 0, 0, 0)]
set_option maxRecDepth 20000 in
theorem o_L_isLook_46 : am_okB mt_L_isLook 46 k_L_isLook_46 = true := by decide +kernel
theorem g_L_isLook_46 {L : am_S} (hL : L.1 < 2 ^ 31) {n : Nat} {ls st : List Value} {M : am_M} {Q : am_Q} (h : am_B L mt_L_isLook k_L_isLook_46 n 46 ls st M Q) : am_R L mt_L_isLook n 46 ls st M Q := am_go L mt_L_isLook (fun _ => hL) k_L_isLook_46 n 46 ls st M Q o_L_isLook_46 h
def k_L_days_0 : List am_I := [(.iconst 1, 1, 0, 0, 0), (.istore_n 2, 1, 0, 0, 0), (.iconst 0, 1, 0, 0, 0), (.istore_n 3, 1, 0, 0, 0)]
set_option maxRecDepth 20000 in
theorem o_L_days_0 : am_okB mt_L_days 0 k_L_days_0 = true := by decide +kernel
theorem g_L_days_0 {L : am_S} {n : Nat} {ls st : List Value} {M : am_M} {Q : am_Q} (h : am_B L mt_L_days k_L_days_0 n 0 ls st M Q) : am_R L mt_L_days n 0 ls st M Q := am_go L mt_L_days (fun h => by cases h) k_L_days_0 n 0 ls st M Q o_L_days_0 h
def k_L_days_4 : List am_I := [(.iload_n 3, 1, 0, 0, 0), (.iload_n 1, 1, 0, 0, 0), (.if_icmp .ge 28, 3, 0, 0, 0), (.iload_n 2, 1, 0, 0, 0), (.ifCond .eq 16, 3, 0, 0, 0), (.aload_n 0, 1, 0, 0, 0), (.bipush 24, 2, 0, 0, 0), (.invokestatic 105, 3, 64, 2, 505), (.ifCond .lt 7, 3, 0, 0, 0), (.iconst 1, 1, 0, 0, 0), (.goto 4, 3, 0, 0, 0)]
set_option maxRecDepth 20000 in
theorem o_L_days_4 : am_okB mt_L_days 4 k_L_days_4 = true := by decide +kernel
theorem g_L_days_4 {L : am_S} {n : Nat} {ls st : List Value} {M : am_M} {Q : am_Q} (h : am_B L mt_L_days k_L_days_4 n 4 ls st M Q) : am_R L mt_L_days n 4 ls st M Q := am_go L mt_L_days (fun h => by cases h) k_L_days_4 n 4 ls st M Q o_L_days_4 h
def k_L_days_26 : List am_I := [(.iconst 0, 1, 0, 0, 0)]
set_option maxRecDepth 20000 in
theorem o_L_days_26 : am_okB mt_L_days 26 k_L_days_26 = true := by decide +kernel
theorem g_L_days_26 {L : am_S} {n : Nat} {ls st : List Value} {M : am_M} {Q : am_Q} (h : am_B L mt_L_days k_L_days_26 n 26 ls st M Q) : am_R L mt_L_days n 26 ls st M Q := am_go L mt_L_days (fun h => by cases h) k_L_days_26 n 26 ls st M Q o_L_days_26 h
def k_L_days_27 : List am_I := [(.istore_n 2, 1, 0, 0, 0), (.iinc 3 1, 3, 0, 0, 0), (.goto (-27), 3, 0, 0, 0)]
set_option maxRecDepth 20000 in
theorem o_L_days_27 : am_okB mt_L_days 27 k_L_days_27 = true := by decide +kernel
theorem g_L_days_27 {L : am_S} {n : Nat} {ls st : List Value} {M : am_M} {Q : am_Q} (h : am_B L mt_L_days k_L_days_27 n 27 ls st M Q) : am_R L mt_L_days n 27 ls st M Q := am_go L mt_L_days (fun h => by cases h) k_L_days_27 n 27 ls st M Q o_L_days_27 h
def k_L_days_34 : List am_I := [(.iload_n 2, 1, 0, 0, 0), (.ireturn, 1, 0, 0, 0)]
set_option maxRecDepth 20000 in
theorem o_L_days_34 : am_okB mt_L_days 34 k_L_days_34 = true := by decide +kernel
theorem g_L_days_34 {L : am_S} {n : Nat} {ls st : List Value} {M : am_M} {Q : am_Q} (h : am_B L mt_L_days k_L_days_34 n 34 ls st M Q) : am_R L mt_L_days n 34 ls st M Q := am_go L mt_L_days (fun h => by cases h) k_L_days_34 n 34 ls st M Q o_L_days_34 h
def k_L_isRound_0 : List am_I := [(.aload_n 0, 1, 0, 0, 0), (.invokestatic 111, 3, 68, 1, 358), (.lstore_n 1, 1, 0, 0, 0), (.aload_n 0, 1, 0, 0, 0), (.iconst 0, 1, 0, 0, 0), (.invokevirtual 125, 3, 43, 2, 257), (.istore_n 3, 1, 0, 0, 0), (.aload_n 0, 1, 0, 0, 0), (.iconst 1, 1, 0, 0, 0), (.invokevirtual 125, 3, 43, 2, 257), (.istore 4, 2, 0, 0, 0), (.bipush 35, 2, 0, 0, 0)]
set_option maxRecDepth 20000 in
theorem o_L_isRound_0 : am_okB mt_L_isRound 0 k_L_isRound_0 = true := by decide +kernel
theorem g_L_isRound_0 {L : am_S} (hL : L.1 < 2 ^ 31) {n : Nat} {ls st : List Value} {M : am_M} {Q : am_Q} (h : am_B L mt_L_isRound k_L_isRound_0 n 0 ls st M Q) : am_R L mt_L_isRound n 0 ls st M Q := am_go L mt_L_isRound (fun _ => hL) k_L_isRound_0 n 0 ls st M Q o_L_isRound_0 h
def k_L_isRound_22 : List am_I := [(.astore 5, 2, 0, 0, 0), (.aload_n 0, 1, 0, 0, 0), (.iconst 2, 1, 0, 0, 0), (.invokevirtual 125, 3, 43, 2, 257), (.iload_n 3, 1, 0, 0, 0), (.if_icmp .ne 61, 3, 0, 0, 0), (.aload_n 0, 1, 0, 0, 0), (.iconst 3, 1, 0, 0, 0), (.invokevirtual 125, 3, 43, 2, 257), (.iload 4, 2, 0, 0, 0), (.if_icmp .ne 51, 3, 0, 0, 0), (.iload_n 3, 1, 0, 0, 0), (.ifCond .ge 7, 3, 0, 0, 0), (.iconst 1, 1, 0, 0, 0), (.goto 4, 3, 0, 0, 0)]
set_option maxRecDepth 20000 in
theorem o_L_isRound_22 : am_okB mt_L_isRound 22 k_L_isRound_22 = true := by decide +kernel
theorem g_L_isRound_22 {L : am_S} (hL : L.1 < 2 ^ 31) {n : Nat} {ls st : List Value} {M : am_M} {Q : am_Q} (h : am_B L mt_L_isRound k_L_isRound_22 n 22 ls st M Q) : am_R L mt_L_isRound n 22 ls st M Q := am_go L mt_L_isRound (fun _ => hL) k_L_isRound_22 n 22 ls st M Q o_L_isRound_22 h
def k_L_isRound_51 : List am_I := [(.iconst 0, 1, 0, 0, 0)]
set_option maxRecDepth 20000 in
theorem o_L_isRound_51 : am_okB mt_L_isRound 51 k_L_isRound_51 = true := by decide +kernel
theorem g_L_isRound_51 {L : am_S} (hL : L.1 < 2 ^ 31) {n : Nat} {ls st : List Value} {M : am_M} {Q : am_Q} (h : am_B L mt_L_isRound k_L_isRound_51 n 51 ls st M Q) : am_R L mt_L_isRound n 51 ls st M Q := am_go L mt_L_isRound (fun _ => hL) k_L_isRound_51 n 51 ls st M Q o_L_isRound_51 h
def k_L_isRound_52 : List am_I := [(.iload 4, 2, 0, 0, 0), (.ifCond .ge 7, 3, 0, 0, 0), (.iconst 1, 1, 0, 0, 0), (.goto 4, 3, 0, 0, 0)]
set_option maxRecDepth 20000 in
theorem o_L_isRound_52 : am_okB mt_L_isRound 52 k_L_isRound_52 = true := by decide +kernel
theorem g_L_isRound_52 {L : am_S} (hL : L.1 < 2 ^ 31) {n : Nat} {ls st : List Value} {M : am_M} {Q : am_Q} (h : am_B L mt_L_isRound k_L_isRound_52 n 52 ls st M Q) : am_R L mt_L_isRound n 52 ls st M Q := am_go L mt_L_isRound (fun _ => hL) k_L_isRound_52 n 52 ls st M Q o_L_isRound_52 h
def k_L_isRound_61 : List am_I := [(.iconst 0, 1, 0, 0, 0)]
set_option maxRecDepth 20000 in
theorem o_L_isRound_61 : am_okB mt_L_isRound 61 k_L_isRound_61 = true := by decide +kernel
theorem g_L_isRound_61 {L : am_S} (hL : L.1 < 2 ^ 31) {n : Nat} {ls st : List Value} {M : am_M} {Q : am_Q} (h : am_B L mt_L_isRound k_L_isRound_61 n 61 ls st M Q) : am_R L mt_L_isRound n 61 ls st M Q := am_go L mt_L_isRound (fun _ => hL) k_L_isRound_61 n 61 ls st M Q o_L_isRound_61 h
def k_L_isRound_62 : List am_I := [(.if_icmp .ne 29, 3, 0, 0, 0), (.iload_n 3, 1, 0, 0, 0), (.ifCond .eq 25, 3, 0, 0, 0), (.iload_n 3, 1, 0, 0, 0), (.iload 4, 2, 0, 0, 0), (.iadd, 1, 0, 0, 0), (.bipush 60, 2, 0, 0, 0), (.if_icmp .gt 16, 3, 0, 0, 0), (.aload_n 0, 1, 0, 0, 0), (.iconst 1, 1, 0, 0, 0), (.invokestatic 121, 3, 67, 2, 527), (.aload_n 0, 1, 0, 0, 0), (.iconst 0, 1, 0, 0, 0), (.invokevirtual 62, 3, 40, 2, 363), (.if_icmp .eq 5, 3, 0, 0, 0)]
set_option maxRecDepth 20000 in
theorem o_L_isRound_62 : am_okB mt_L_isRound 62 k_L_isRound_62 = true := by decide +kernel
theorem g_L_isRound_62 {L : am_S} (hL : L.1 < 2 ^ 31) {n : Nat} {ls st : List Value} {M : am_M} {Q : am_Q} (h : am_B L mt_L_isRound k_L_isRound_62 n 62 ls st M Q) : am_R L mt_L_isRound n 62 ls st M Q := am_go L mt_L_isRound (fun _ => hL) k_L_isRound_62 n 62 ls st M Q o_L_isRound_62 h
def k_L_isRound_91 : List am_I := [(.iconst 0, 1, 0, 0, 0), (.ireturn, 1, 0, 0, 0)]
set_option maxRecDepth 20000 in
theorem o_L_isRound_91 : am_okB mt_L_isRound 91 k_L_isRound_91 = true := by decide +kernel
theorem g_L_isRound_91 {L : am_S} (hL : L.1 < 2 ^ 31) {n : Nat} {ls st : List Value} {M : am_M} {Q : am_Q} (h : am_B L mt_L_isRound k_L_isRound_91 n 91 ls st M Q) : am_R L mt_L_isRound n 91 ls st M Q := am_go L mt_L_isRound (fun _ => hL) k_L_isRound_91 n 91 ls st M Q o_L_isRound_91 h
def k_L_isRound_93 : List am_I := [(.iload_n 3, 1, 0, 0, 0), (.ifCond .ge 97, 3, 0, 0, 0), (.aload_n 0, 1, 0, 0, 0), (.bipush 60, 2, 0, 0, 0)]
set_option maxRecDepth 20000 in
theorem o_L_isRound_93 : am_okB mt_L_isRound 93 k_L_isRound_93 = true := by decide +kernel
theorem g_L_isRound_93 {L : am_S} (hL : L.1 < 2 ^ 31) {n : Nat} {ls st : List Value} {M : am_M} {Q : am_Q} (h : am_B L mt_L_isRound k_L_isRound_93 n 93 ls st M Q) : am_R L mt_L_isRound n 93 ls st M Q := am_go L mt_L_isRound (fun _ => hL) k_L_isRound_93 n 93 ls st M Q o_L_isRound_93 h
set_option maxRecDepth 20000 in
theorem o_L_isRound_100 : am_ckS mt_L_isRound mt_L_days 100 128 537 538 2 = true := by decide +kernel
theorem x_L_isRound_100 {L : am_S} {n : Nat} {ls st r p0 av : List Value} {M : am_M} {Q : am_Q} (hn : mt_c mt_L_days ≤ n) (hL : mt_w mt_L_days = true → L.1 = mt_x mt_L_days) (hst : st = p0 ++ r) (hav : av = p0.reverse) (hlen : av.length = 2) (hcat : am_cat r ≤ 8) (C : am_C mt_L_days av M (fun oc M' => ∃ v, oc = .inl v ∧ am_R L mt_L_isRound (if mt_g mt_L_days then n - mt_c mt_L_days else n) (100 + 3) ls (v.toList ++ r) M' Q)) : am_R L mt_L_isRound n 100 ls st M Q := am_R_special om_L_days hn (by decide) (fun h => ⟨rfl, hL h⟩) o_L_isRound_100 hst hav hlen hcat C
def k_L_isRound_103 : List am_I := [(.ifCond .ne 5, 3, 0, 0, 0), (.iconst 0, 1, 0, 0, 0), (.ireturn, 1, 0, 0, 0)]
set_option maxRecDepth 20000 in
theorem o_L_isRound_103 : am_okB mt_L_isRound 103 k_L_isRound_103 = true := by decide +kernel
theorem g_L_isRound_103 {L : am_S} (hL : L.1 < 2 ^ 31) {n : Nat} {ls st : List Value} {M : am_M} {Q : am_Q} (h : am_B L mt_L_isRound k_L_isRound_103 n 103 ls st M Q) : am_R L mt_L_isRound n 103 ls st M Q := am_go L mt_L_isRound (fun _ => hL) k_L_isRound_103 n 103 ls st M Q o_L_isRound_103 h
def k_L_isRound_108 : List am_I := [(.aload_n 0, 1, 0, 0, 0), (.aload 5, 2, 0, 0, 0)]
set_option maxRecDepth 20000 in
theorem o_L_isRound_108 : am_okB mt_L_isRound 108 k_L_isRound_108 = true := by decide +kernel
theorem g_L_isRound_108 {L : am_S} (hL : L.1 < 2 ^ 31) {n : Nat} {ls st : List Value} {M : am_M} {Q : am_Q} (h : am_B L mt_L_isRound k_L_isRound_108 n 108 ls st M Q) : am_R L mt_L_isRound n 108 ls st M Q := am_go L mt_L_isRound (fun _ => hL) k_L_isRound_108 n 108 ls st M Q o_L_isRound_108 h
set_option maxRecDepth 20000 in
theorem o_L_isRound_111 : am_ckS mt_L_isRound mt_L_look 111 132 540 541 2 = true := by decide +kernel
theorem x_L_isRound_111 {L : am_S} {n : Nat} {ls st r p0 av : List Value} {M : am_M} {Q : am_Q} (hn : mt_c mt_L_look ≤ n) (hL : mt_w mt_L_look = true → L.1 = mt_x mt_L_look) (hst : st = p0 ++ r) (hav : av = p0.reverse) (hlen : av.length = 2) (hcat : am_cat r ≤ 8) (C : am_C mt_L_look av M (fun oc M' => ∃ v, oc = .inl v ∧ am_R L mt_L_isRound (if mt_g mt_L_look then n - mt_c mt_L_look else n) (111 + 3) ls (v.toList ++ r) M' Q)) : am_R L mt_L_isRound n 111 ls st M Q := am_R_special om_L_look hn (by decide) (fun h => ⟨rfl, hL h⟩) o_L_isRound_111 hst hav hlen hcat C
def k_L_isRound_114 : List am_I := [(.aload_n 0, 1, 0, 0, 0), (.iconst 1, 1, 0, 0, 0), (.invokestatic 123, 3, 65, 2, 319), (.ifCond .ge 5, 3, 0, 0, 0), (.iconst 0, 1, 0, 0, 0), (.ireturn, 1, 0, 0, 0)]
set_option maxRecDepth 20000 in
theorem o_L_isRound_114 : am_okB mt_L_isRound 114 k_L_isRound_114 = true := by decide +kernel
theorem g_L_isRound_114 {L : am_S} (hL : L.1 < 2 ^ 31) {n : Nat} {ls st : List Value} {M : am_M} {Q : am_Q} (h : am_B L mt_L_isRound k_L_isRound_114 n 114 ls st M Q) : am_R L mt_L_isRound n 114 ls st M Q := am_go L mt_L_isRound (fun _ => hL) k_L_isRound_114 n 114 ls st M Q o_L_isRound_114 h
def k_L_isRound_124 : List am_I := [(.iconst 0, 1, 0, 0, 0), (.istore 6, 2, 0, 0, 0)]
set_option maxRecDepth 20000 in
theorem o_L_isRound_124 : am_okB mt_L_isRound 124 k_L_isRound_124 = true := by decide +kernel
theorem g_L_isRound_124 {L : am_S} (hL : L.1 < 2 ^ 31) {n : Nat} {ls st : List Value} {M : am_M} {Q : am_Q} (h : am_B L mt_L_isRound k_L_isRound_124 n 124 ls st M Q) : am_R L mt_L_isRound n 124 ls st M Q := am_go L mt_L_isRound (fun _ => hL) k_L_isRound_124 n 124 ls st M Q o_L_isRound_124 h
def k_L_isRound_127 : List am_I := [(.iload 6, 2, 0, 0, 0), (.bipush 60, 2, 0, 0, 0), (.if_icmp .ge 28, 3, 0, 0, 0), (.aload_n 0, 1, 0, 0, 0), (.aload 5, 2, 0, 0, 0)]
set_option maxRecDepth 20000 in
theorem o_L_isRound_127 : am_okB mt_L_isRound 127 k_L_isRound_127 = true := by decide +kernel
theorem g_L_isRound_127 {L : am_S} (hL : L.1 < 2 ^ 31) {n : Nat} {ls st : List Value} {M : am_M} {Q : am_Q} (h : am_B L mt_L_isRound k_L_isRound_127 n 127 ls st M Q) : am_R L mt_L_isRound n 127 ls st M Q := am_go L mt_L_isRound (fun _ => hL) k_L_isRound_127 n 127 ls st M Q o_L_isRound_127 h
set_option maxRecDepth 20000 in
theorem o_L_isRound_137 : am_ckS mt_L_isRound mt_L_isLook 137 136 543 544 2 = true := by decide +kernel
theorem x_L_isRound_137 {L : am_S} {n : Nat} {ls st r p0 av : List Value} {M : am_M} {Q : am_Q} (hn : mt_c mt_L_isLook ≤ n) (hL : mt_w mt_L_isLook = true → L.1 = mt_x mt_L_isLook) (hst : st = p0 ++ r) (hav : av = p0.reverse) (hlen : av.length = 2) (hcat : am_cat r ≤ 8) (C : am_C mt_L_isLook av M (fun oc M' => ∃ v, oc = .inl v ∧ am_R L mt_L_isRound (if mt_g mt_L_isLook then n - mt_c mt_L_isLook else n) (137 + 3) ls (v.toList ++ r) M' Q)) : am_R L mt_L_isRound n 137 ls st M Q := am_R_special om_L_isLook hn (by decide) (fun h => ⟨rfl, hL h⟩) o_L_isRound_137 hst hav hlen hcat C
def k_L_isRound_140 : List am_I := [(.ifCond .ne 11, 3, 0, 0, 0), (.aload_n 0, 1, 0, 0, 0), (.iconst 1, 1, 0, 0, 0)]
set_option maxRecDepth 20000 in
theorem o_L_isRound_140 : am_okB mt_L_isRound 140 k_L_isRound_140 = true := by decide +kernel
theorem g_L_isRound_140 {L : am_S} (hL : L.1 < 2 ^ 31) {n : Nat} {ls st : List Value} {M : am_M} {Q : am_Q} (h : am_B L mt_L_isRound k_L_isRound_140 n 140 ls st M Q) : am_R L mt_L_isRound n 140 ls st M Q := am_go L mt_L_isRound (fun _ => hL) k_L_isRound_140 n 140 ls st M Q o_L_isRound_140 h
set_option maxRecDepth 20000 in
theorem o_L_isRound_145 : am_ckS mt_L_isRound mt_L_days 145 128 537 538 2 = true := by decide +kernel
theorem x_L_isRound_145 {L : am_S} {n : Nat} {ls st r p0 av : List Value} {M : am_M} {Q : am_Q} (hn : mt_c mt_L_days ≤ n) (hL : mt_w mt_L_days = true → L.1 = mt_x mt_L_days) (hst : st = p0 ++ r) (hav : av = p0.reverse) (hlen : av.length = 2) (hcat : am_cat r ≤ 8) (C : am_C mt_L_days av M (fun oc M' => ∃ v, oc = .inl v ∧ am_R L mt_L_isRound (if mt_g mt_L_days then n - mt_c mt_L_days else n) (145 + 3) ls (v.toList ++ r) M' Q)) : am_R L mt_L_isRound n 145 ls st M Q := am_R_special om_L_days hn (by decide) (fun h => ⟨rfl, hL h⟩) o_L_isRound_145 hst hav hlen hcat C
def k_L_isRound_148 : List am_I := [(.ifCond .ne 5, 3, 0, 0, 0)]
set_option maxRecDepth 20000 in
theorem o_L_isRound_148 : am_okB mt_L_isRound 148 k_L_isRound_148 = true := by decide +kernel
theorem g_L_isRound_148 {L : am_S} (hL : L.1 < 2 ^ 31) {n : Nat} {ls st : List Value} {M : am_M} {Q : am_Q} (h : am_B L mt_L_isRound k_L_isRound_148 n 148 ls st M Q) : am_R L mt_L_isRound n 148 ls st M Q := am_go L mt_L_isRound (fun _ => hL) k_L_isRound_148 n 148 ls st M Q o_L_isRound_148 h
def k_L_isRound_151 : List am_I := [(.iconst 0, 1, 0, 0, 0), (.ireturn, 1, 0, 0, 0)]
set_option maxRecDepth 20000 in
theorem o_L_isRound_151 : am_okB mt_L_isRound 151 k_L_isRound_151 = true := by decide +kernel
theorem g_L_isRound_151 {L : am_S} (hL : L.1 < 2 ^ 31) {n : Nat} {ls st : List Value} {M : am_M} {Q : am_Q} (h : am_B L mt_L_isRound k_L_isRound_151 n 151 ls st M Q) : am_R L mt_L_isRound n 151 ls st M Q := am_go L mt_L_isRound (fun _ => hL) k_L_isRound_151 n 151 ls st M Q o_L_isRound_151 h
def k_L_isRound_153 : List am_I := [(.iinc 6 1, 3, 0, 0, 0), (.goto (-29), 3, 0, 0, 0)]
set_option maxRecDepth 20000 in
theorem o_L_isRound_153 : am_okB mt_L_isRound 153 k_L_isRound_153 = true := by decide +kernel
theorem g_L_isRound_153 {L : am_S} (hL : L.1 < 2 ^ 31) {n : Nat} {ls st : List Value} {M : am_M} {Q : am_Q} (h : am_B L mt_L_isRound k_L_isRound_153 n 153 ls st M Q) : am_R L mt_L_isRound n 153 ls st M Q := am_go L mt_L_isRound (fun _ => hL) k_L_isRound_153 n 153 ls st M Q o_L_isRound_153 h
def k_L_isRound_159 : List am_I := [(.aload_n 0, 1, 0, 0, 0), (.aload 5, 2, 0, 0, 0)]
set_option maxRecDepth 20000 in
theorem o_L_isRound_159 : am_okB mt_L_isRound 159 k_L_isRound_159 = true := by decide +kernel
theorem g_L_isRound_159 {L : am_S} (hL : L.1 < 2 ^ 31) {n : Nat} {ls st : List Value} {M : am_M} {Q : am_Q} (h : am_B L mt_L_isRound k_L_isRound_159 n 159 ls st M Q) : am_R L mt_L_isRound n 159 ls st M Q := am_go L mt_L_isRound (fun _ => hL) k_L_isRound_159 n 159 ls st M Q o_L_isRound_159 h
set_option maxRecDepth 20000 in
theorem o_L_isRound_162 : am_ckS mt_L_isRound mt_L_isLook 162 136 543 544 2 = true := by decide +kernel
theorem x_L_isRound_162 {L : am_S} {n : Nat} {ls st r p0 av : List Value} {M : am_M} {Q : am_Q} (hn : mt_c mt_L_isLook ≤ n) (hL : mt_w mt_L_isLook = true → L.1 = mt_x mt_L_isLook) (hst : st = p0 ++ r) (hav : av = p0.reverse) (hlen : av.length = 2) (hcat : am_cat r ≤ 8) (C : am_C mt_L_isLook av M (fun oc M' => ∃ v, oc = .inl v ∧ am_R L mt_L_isRound (if mt_g mt_L_isLook then n - mt_c mt_L_isLook else n) (162 + 3) ls (v.toList ++ r) M' Q)) : am_R L mt_L_isRound n 162 ls st M Q := am_R_special om_L_isLook hn (by decide) (fun h => ⟨rfl, hL h⟩) o_L_isRound_162 hst hav hlen hcat C
def k_L_isRound_165 : List am_I := [(.ifCond .eq 24, 3, 0, 0, 0), (.aload_n 0, 1, 0, 0, 0), (.iconst 1, 1, 0, 0, 0), (.invokestatic 123, 3, 65, 2, 319), (.ifCond .lt 16, 3, 0, 0, 0), (.aload_n 0, 1, 0, 0, 0), (.invokestatic 111, 3, 68, 1, 358), (.lload_n 1, 1, 0, 0, 0), (.lcmp, 1, 0, 0, 0), (.ifCond .ne 7, 3, 0, 0, 0), (.iconst 1, 1, 0, 0, 0), (.goto 4, 3, 0, 0, 0)]
set_option maxRecDepth 20000 in
theorem o_L_isRound_165 : am_okB mt_L_isRound 165 k_L_isRound_165 = true := by decide +kernel
theorem g_L_isRound_165 {L : am_S} (hL : L.1 < 2 ^ 31) {n : Nat} {ls st : List Value} {M : am_M} {Q : am_Q} (h : am_B L mt_L_isRound k_L_isRound_165 n 165 ls st M Q) : am_R L mt_L_isRound n 165 ls st M Q := am_go L mt_L_isRound (fun _ => hL) k_L_isRound_165 n 165 ls st M Q o_L_isRound_165 h
def k_L_isRound_189 : List am_I := [(.iconst 0, 1, 0, 0, 0)]
set_option maxRecDepth 20000 in
theorem o_L_isRound_189 : am_okB mt_L_isRound 189 k_L_isRound_189 = true := by decide +kernel
theorem g_L_isRound_189 {L : am_S} (hL : L.1 < 2 ^ 31) {n : Nat} {ls st : List Value} {M : am_M} {Q : am_Q} (h : am_B L mt_L_isRound k_L_isRound_189 n 189 ls st M Q) : am_R L mt_L_isRound n 189 ls st M Q := am_go L mt_L_isRound (fun _ => hL) k_L_isRound_189 n 189 ls st M Q o_L_isRound_189 h
def k_L_isRound_190 : List am_I := [(.ireturn, 1, 0, 0, 0)]
set_option maxRecDepth 20000 in
theorem o_L_isRound_190 : am_okB mt_L_isRound 190 k_L_isRound_190 = true := by decide +kernel
theorem g_L_isRound_190 {L : am_S} (hL : L.1 < 2 ^ 31) {n : Nat} {ls st : List Value} {M : am_M} {Q : am_Q} (h : am_B L mt_L_isRound k_L_isRound_190 n 190 ls st M Q) : am_R L mt_L_isRound n 190 ls st M Q := am_go L mt_L_isRound (fun _ => hL) k_L_isRound_190 n 190 ls st M Q o_L_isRound_190 h
def k_L_isRound_191 : List am_I := [(.aload_n 0, 1, 0, 0, 0), (.iload 4, 2, 0, 0, 0)]
set_option maxRecDepth 20000 in
theorem o_L_isRound_191 : am_okB mt_L_isRound 191 k_L_isRound_191 = true := by decide +kernel
theorem g_L_isRound_191 {L : am_S} (hL : L.1 < 2 ^ 31) {n : Nat} {ls st : List Value} {M : am_M} {Q : am_Q} (h : am_B L mt_L_isRound k_L_isRound_191 n 191 ls st M Q) : am_R L mt_L_isRound n 191 ls st M Q := am_go L mt_L_isRound (fun _ => hL) k_L_isRound_191 n 191 ls st M Q o_L_isRound_191 h
set_option maxRecDepth 20000 in
theorem o_L_isRound_194 : am_ckS mt_L_isRound mt_L_days 194 128 537 538 2 = true := by decide +kernel
theorem x_L_isRound_194 {L : am_S} {n : Nat} {ls st r p0 av : List Value} {M : am_M} {Q : am_Q} (hn : mt_c mt_L_days ≤ n) (hL : mt_w mt_L_days = true → L.1 = mt_x mt_L_days) (hst : st = p0 ++ r) (hav : av = p0.reverse) (hlen : av.length = 2) (hcat : am_cat r ≤ 8) (C : am_C mt_L_days av M (fun oc M' => ∃ v, oc = .inl v ∧ am_R L mt_L_isRound (if mt_g mt_L_days then n - mt_c mt_L_days else n) (194 + 3) ls (v.toList ++ r) M' Q)) : am_R L mt_L_isRound n 194 ls st M Q := am_R_special om_L_days hn (by decide) (fun h => ⟨rfl, hL h⟩) o_L_isRound_194 hst hav hlen hcat C
def k_L_isRound_197 : List am_I := [(.ifCond .ne 5, 3, 0, 0, 0), (.iconst 0, 1, 0, 0, 0), (.ireturn, 1, 0, 0, 0)]
set_option maxRecDepth 20000 in
theorem o_L_isRound_197 : am_okB mt_L_isRound 197 k_L_isRound_197 = true := by decide +kernel
theorem g_L_isRound_197 {L : am_S} (hL : L.1 < 2 ^ 31) {n : Nat} {ls st : List Value} {M : am_M} {Q : am_Q} (h : am_B L mt_L_isRound k_L_isRound_197 n 197 ls st M Q) : am_R L mt_L_isRound n 197 ls st M Q := am_go L mt_L_isRound (fun _ => hL) k_L_isRound_197 n 197 ls st M Q o_L_isRound_197 h
def k_L_isRound_202 : List am_I := [(.aload_n 0, 1, 0, 0, 0), (.aload 5, 2, 0, 0, 0)]
set_option maxRecDepth 20000 in
theorem o_L_isRound_202 : am_okB mt_L_isRound 202 k_L_isRound_202 = true := by decide +kernel
theorem g_L_isRound_202 {L : am_S} (hL : L.1 < 2 ^ 31) {n : Nat} {ls st : List Value} {M : am_M} {Q : am_Q} (h : am_B L mt_L_isRound k_L_isRound_202 n 202 ls st M Q) : am_R L mt_L_isRound n 202 ls st M Q := am_go L mt_L_isRound (fun _ => hL) k_L_isRound_202 n 202 ls st M Q o_L_isRound_202 h
set_option maxRecDepth 20000 in
theorem o_L_isRound_205 : am_ckS mt_L_isRound mt_L_look 205 132 540 541 2 = true := by decide +kernel
theorem x_L_isRound_205 {L : am_S} {n : Nat} {ls st r p0 av : List Value} {M : am_M} {Q : am_Q} (hn : mt_c mt_L_look ≤ n) (hL : mt_w mt_L_look = true → L.1 = mt_x mt_L_look) (hst : st = p0 ++ r) (hav : av = p0.reverse) (hlen : av.length = 2) (hcat : am_cat r ≤ 8) (C : am_C mt_L_look av M (fun oc M' => ∃ v, oc = .inl v ∧ am_R L mt_L_isRound (if mt_g mt_L_look then n - mt_c mt_L_look else n) (205 + 3) ls (v.toList ++ r) M' Q)) : am_R L mt_L_isRound n 205 ls st M Q := am_R_special om_L_look hn (by decide) (fun h => ⟨rfl, hL h⟩) o_L_isRound_205 hst hav hlen hcat C
def k_L_isRound_208 : List am_I := [(.iconst 1, 1, 0, 0, 0), (.istore 6, 2, 0, 0, 0)]
set_option maxRecDepth 20000 in
theorem o_L_isRound_208 : am_okB mt_L_isRound 208 k_L_isRound_208 = true := by decide +kernel
theorem g_L_isRound_208 {L : am_S} (hL : L.1 < 2 ^ 31) {n : Nat} {ls st : List Value} {M : am_M} {Q : am_Q} (h : am_B L mt_L_isRound k_L_isRound_208 n 208 ls st M Q) : am_R L mt_L_isRound n 208 ls st M Q := am_go L mt_L_isRound (fun _ => hL) k_L_isRound_208 n 208 ls st M Q o_L_isRound_208 h
def k_L_isRound_211 : List am_I := [(.iload 6, 2, 0, 0, 0), (.iload_n 3, 1, 0, 0, 0), (.if_icmp .gt 39, 3, 0, 0, 0), (.aload_n 0, 1, 0, 0, 0), (.iconst 1, 1, 0, 0, 0)]
set_option maxRecDepth 20000 in
theorem o_L_isRound_211 : am_okB mt_L_isRound 211 k_L_isRound_211 = true := by decide +kernel
theorem g_L_isRound_211 {L : am_S} (hL : L.1 < 2 ^ 31) {n : Nat} {ls st : List Value} {M : am_M} {Q : am_Q} (h : am_B L mt_L_isRound k_L_isRound_211 n 211 ls st M Q) : am_R L mt_L_isRound n 211 ls st M Q := am_go L mt_L_isRound (fun _ => hL) k_L_isRound_211 n 211 ls st M Q o_L_isRound_211 h
set_option maxRecDepth 20000 in
theorem o_L_isRound_219 : am_ckS mt_L_isRound mt_L_days 219 128 537 538 2 = true := by decide +kernel
theorem x_L_isRound_219 {L : am_S} {n : Nat} {ls st r p0 av : List Value} {M : am_M} {Q : am_Q} (hn : mt_c mt_L_days ≤ n) (hL : mt_w mt_L_days = true → L.1 = mt_x mt_L_days) (hst : st = p0 ++ r) (hav : av = p0.reverse) (hlen : av.length = 2) (hcat : am_cat r ≤ 8) (C : am_C mt_L_days av M (fun oc M' => ∃ v, oc = .inl v ∧ am_R L mt_L_isRound (if mt_g mt_L_days then n - mt_c mt_L_days else n) (219 + 3) ls (v.toList ++ r) M' Q)) : am_R L mt_L_isRound n 219 ls st M Q := am_R_special om_L_days hn (by decide) (fun h => ⟨rfl, hL h⟩) o_L_isRound_219 hst hav hlen hcat C
def k_L_isRound_222 : List am_I := [(.ifCond .eq 23, 3, 0, 0, 0), (.aload_n 0, 1, 0, 0, 0), (.aload 5, 2, 0, 0, 0)]
set_option maxRecDepth 20000 in
theorem o_L_isRound_222 : am_okB mt_L_isRound 222 k_L_isRound_222 = true := by decide +kernel
theorem g_L_isRound_222 {L : am_S} (hL : L.1 < 2 ^ 31) {n : Nat} {ls st : List Value} {M : am_M} {Q : am_Q} (h : am_B L mt_L_isRound k_L_isRound_222 n 222 ls st M Q) : am_R L mt_L_isRound n 222 ls st M Q := am_go L mt_L_isRound (fun _ => hL) k_L_isRound_222 n 222 ls st M Q o_L_isRound_222 h
set_option maxRecDepth 20000 in
theorem o_L_isRound_228 : am_ckS mt_L_isRound mt_L_isLook 228 136 543 544 2 = true := by decide +kernel
theorem x_L_isRound_228 {L : am_S} {n : Nat} {ls st r p0 av : List Value} {M : am_M} {Q : am_Q} (hn : mt_c mt_L_isLook ≤ n) (hL : mt_w mt_L_isLook = true → L.1 = mt_x mt_L_isLook) (hst : st = p0 ++ r) (hav : av = p0.reverse) (hlen : av.length = 2) (hcat : am_cat r ≤ 8) (C : am_C mt_L_isLook av M (fun oc M' => ∃ v, oc = .inl v ∧ am_R L mt_L_isRound (if mt_g mt_L_isLook then n - mt_c mt_L_isLook else n) (228 + 3) ls (v.toList ++ r) M' Q)) : am_R L mt_L_isRound n 228 ls st M Q := am_R_special om_L_isLook hn (by decide) (fun h => ⟨rfl, hL h⟩) o_L_isRound_228 hst hav hlen hcat C
def k_L_isRound_231 : List am_I := [(.iload 6, 2, 0, 0, 0), (.iload_n 3, 1, 0, 0, 0), (.if_icmp .ne 7, 3, 0, 0, 0), (.iconst 1, 1, 0, 0, 0), (.goto 4, 3, 0, 0, 0)]
set_option maxRecDepth 20000 in
theorem o_L_isRound_231 : am_okB mt_L_isRound 231 k_L_isRound_231 = true := by decide +kernel
theorem g_L_isRound_231 {L : am_S} (hL : L.1 < 2 ^ 31) {n : Nat} {ls st : List Value} {M : am_M} {Q : am_Q} (h : am_B L mt_L_isRound k_L_isRound_231 n 231 ls st M Q) : am_R L mt_L_isRound n 231 ls st M Q := am_go L mt_L_isRound (fun _ => hL) k_L_isRound_231 n 231 ls st M Q o_L_isRound_231 h
def k_L_isRound_241 : List am_I := [(.iconst 0, 1, 0, 0, 0)]
set_option maxRecDepth 20000 in
theorem o_L_isRound_241 : am_okB mt_L_isRound 241 k_L_isRound_241 = true := by decide +kernel
theorem g_L_isRound_241 {L : am_S} (hL : L.1 < 2 ^ 31) {n : Nat} {ls st : List Value} {M : am_M} {Q : am_Q} (h : am_B L mt_L_isRound k_L_isRound_241 n 241 ls st M Q) : am_R L mt_L_isRound n 241 ls st M Q := am_go L mt_L_isRound (fun _ => hL) k_L_isRound_241 n 241 ls st M Q o_L_isRound_241 h
def k_L_isRound_242 : List am_I := [(.if_icmp .eq 5, 3, 0, 0, 0)]
set_option maxRecDepth 20000 in
theorem o_L_isRound_242 : am_okB mt_L_isRound 242 k_L_isRound_242 = true := by decide +kernel
theorem g_L_isRound_242 {L : am_S} (hL : L.1 < 2 ^ 31) {n : Nat} {ls st : List Value} {M : am_M} {Q : am_Q} (h : am_B L mt_L_isRound k_L_isRound_242 n 242 ls st M Q) : am_R L mt_L_isRound n 242 ls st M Q := am_go L mt_L_isRound (fun _ => hL) k_L_isRound_242 n 242 ls st M Q o_L_isRound_242 h
def k_L_isRound_245 : List am_I := [(.iconst 0, 1, 0, 0, 0), (.ireturn, 1, 0, 0, 0)]
set_option maxRecDepth 20000 in
theorem o_L_isRound_245 : am_okB mt_L_isRound 245 k_L_isRound_245 = true := by decide +kernel
theorem g_L_isRound_245 {L : am_S} (hL : L.1 < 2 ^ 31) {n : Nat} {ls st : List Value} {M : am_M} {Q : am_Q} (h : am_B L mt_L_isRound k_L_isRound_245 n 245 ls st M Q) : am_R L mt_L_isRound n 245 ls st M Q := am_go L mt_L_isRound (fun _ => hL) k_L_isRound_245 n 245 ls st M Q o_L_isRound_245 h
def k_L_isRound_247 : List am_I := [(.iinc 6 1, 3, 0, 0, 0), (.goto (-39), 3, 0, 0, 0)]
set_option maxRecDepth 20000 in
theorem o_L_isRound_247 : am_okB mt_L_isRound 247 k_L_isRound_247 = true := by decide +kernel
theorem g_L_isRound_247 {L : am_S} (hL : L.1 < 2 ^ 31) {n : Nat} {ls st : List Value} {M : am_M} {Q : am_Q} (h : am_B L mt_L_isRound k_L_isRound_247 n 247 ls st M Q) : am_R L mt_L_isRound n 247 ls st M Q := am_go L mt_L_isRound (fun _ => hL) k_L_isRound_247 n 247 ls st M Q o_L_isRound_247 h
def k_L_isRound_253 : List am_I := [(.aload_n 0, 1, 0, 0, 0), (.iconst 1, 1, 0, 0, 0), (.invokestatic 123, 3, 65, 2, 319), (.ifCond .ge 5, 3, 0, 0, 0), (.iconst 0, 1, 0, 0, 0), (.ireturn, 1, 0, 0, 0)]
set_option maxRecDepth 20000 in
theorem o_L_isRound_253 : am_okB mt_L_isRound 253 k_L_isRound_253 = true := by decide +kernel
theorem g_L_isRound_253 {L : am_S} (hL : L.1 < 2 ^ 31) {n : Nat} {ls st : List Value} {M : am_M} {Q : am_Q} (h : am_B L mt_L_isRound k_L_isRound_253 n 253 ls st M Q) : am_R L mt_L_isRound n 253 ls st M Q := am_go L mt_L_isRound (fun _ => hL) k_L_isRound_253 n 253 ls st M Q o_L_isRound_253 h
def k_L_isRound_263 : List am_I := [(.iload 4, 2, 0, 0, 0), (.ifCond .le 49, 3, 0, 0, 0), (.aload_n 0, 1, 0, 0, 0), (.iload 4, 2, 0, 0, 0), (.iconst 1, 1, 0, 0, 0), (.isub, 1, 0, 0, 0)]
set_option maxRecDepth 20000 in
theorem o_L_isRound_263 : am_okB mt_L_isRound 263 k_L_isRound_263 = true := by decide +kernel
theorem g_L_isRound_263 {L : am_S} (hL : L.1 < 2 ^ 31) {n : Nat} {ls st : List Value} {M : am_M} {Q : am_Q} (h : am_B L mt_L_isRound k_L_isRound_263 n 263 ls st M Q) : am_R L mt_L_isRound n 263 ls st M Q := am_go L mt_L_isRound (fun _ => hL) k_L_isRound_263 n 263 ls st M Q o_L_isRound_263 h
set_option maxRecDepth 20000 in
theorem o_L_isRound_273 : am_ckS mt_L_isRound mt_L_days 273 128 537 538 2 = true := by decide +kernel
theorem x_L_isRound_273 {L : am_S} {n : Nat} {ls st r p0 av : List Value} {M : am_M} {Q : am_Q} (hn : mt_c mt_L_days ≤ n) (hL : mt_w mt_L_days = true → L.1 = mt_x mt_L_days) (hst : st = p0 ++ r) (hav : av = p0.reverse) (hlen : av.length = 2) (hcat : am_cat r ≤ 8) (C : am_C mt_L_days av M (fun oc M' => ∃ v, oc = .inl v ∧ am_R L mt_L_isRound (if mt_g mt_L_days then n - mt_c mt_L_days else n) (273 + 3) ls (v.toList ++ r) M' Q)) : am_R L mt_L_isRound n 273 ls st M Q := am_R_special om_L_days hn (by decide) (fun h => ⟨rfl, hL h⟩) o_L_isRound_273 hst hav hlen hcat C
def k_L_isRound_276 : List am_I := [(.ifCond .ne 5, 3, 0, 0, 0), (.iconst 0, 1, 0, 0, 0), (.ireturn, 1, 0, 0, 0)]
set_option maxRecDepth 20000 in
theorem o_L_isRound_276 : am_okB mt_L_isRound 276 k_L_isRound_276 = true := by decide +kernel
theorem g_L_isRound_276 {L : am_S} (hL : L.1 < 2 ^ 31) {n : Nat} {ls st : List Value} {M : am_M} {Q : am_Q} (h : am_B L mt_L_isRound k_L_isRound_276 n 276 ls st M Q) : am_R L mt_L_isRound n 276 ls st M Q := am_go L mt_L_isRound (fun _ => hL) k_L_isRound_276 n 276 ls st M Q o_L_isRound_276 h
def k_L_isRound_281 : List am_I := [(.aload_n 0, 1, 0, 0, 0), (.aload 5, 2, 0, 0, 0)]
set_option maxRecDepth 20000 in
theorem o_L_isRound_281 : am_okB mt_L_isRound 281 k_L_isRound_281 = true := by decide +kernel
theorem g_L_isRound_281 {L : am_S} (hL : L.1 < 2 ^ 31) {n : Nat} {ls st : List Value} {M : am_M} {Q : am_Q} (h : am_B L mt_L_isRound k_L_isRound_281 n 281 ls st M Q) : am_R L mt_L_isRound n 281 ls st M Q := am_go L mt_L_isRound (fun _ => hL) k_L_isRound_281 n 281 ls st M Q o_L_isRound_281 h
set_option maxRecDepth 20000 in
theorem o_L_isRound_284 : am_ckS mt_L_isRound mt_L_look 284 132 540 541 2 = true := by decide +kernel
theorem x_L_isRound_284 {L : am_S} {n : Nat} {ls st r p0 av : List Value} {M : am_M} {Q : am_Q} (hn : mt_c mt_L_look ≤ n) (hL : mt_w mt_L_look = true → L.1 = mt_x mt_L_look) (hst : st = p0 ++ r) (hav : av = p0.reverse) (hlen : av.length = 2) (hcat : am_cat r ≤ 8) (C : am_C mt_L_look av M (fun oc M' => ∃ v, oc = .inl v ∧ am_R L mt_L_isRound (if mt_g mt_L_look then n - mt_c mt_L_look else n) (284 + 3) ls (v.toList ++ r) M' Q)) : am_R L mt_L_isRound n 284 ls st M Q := am_R_special om_L_look hn (by decide) (fun h => ⟨rfl, hL h⟩) o_L_isRound_284 hst hav hlen hcat C
def k_L_isRound_287 : List am_I := [(.aload_n 0, 1, 0, 0, 0), (.iload_n 3, 1, 0, 0, 0)]
set_option maxRecDepth 20000 in
theorem o_L_isRound_287 : am_okB mt_L_isRound 287 k_L_isRound_287 = true := by decide +kernel
theorem g_L_isRound_287 {L : am_S} (hL : L.1 < 2 ^ 31) {n : Nat} {ls st : List Value} {M : am_M} {Q : am_Q} (h : am_B L mt_L_isRound k_L_isRound_287 n 287 ls st M Q) : am_R L mt_L_isRound n 287 ls st M Q := am_go L mt_L_isRound (fun _ => hL) k_L_isRound_287 n 287 ls st M Q o_L_isRound_287 h
set_option maxRecDepth 20000 in
theorem o_L_isRound_289 : am_ckS mt_L_isRound mt_L_days 289 128 537 538 2 = true := by decide +kernel
theorem x_L_isRound_289 {L : am_S} {n : Nat} {ls st r p0 av : List Value} {M : am_M} {Q : am_Q} (hn : mt_c mt_L_days ≤ n) (hL : mt_w mt_L_days = true → L.1 = mt_x mt_L_days) (hst : st = p0 ++ r) (hav : av = p0.reverse) (hlen : av.length = 2) (hcat : am_cat r ≤ 8) (C : am_C mt_L_days av M (fun oc M' => ∃ v, oc = .inl v ∧ am_R L mt_L_isRound (if mt_g mt_L_days then n - mt_c mt_L_days else n) (289 + 3) ls (v.toList ++ r) M' Q)) : am_R L mt_L_isRound n 289 ls st M Q := am_R_special om_L_days hn (by decide) (fun h => ⟨rfl, hL h⟩) o_L_isRound_289 hst hav hlen hcat C
def k_L_isRound_292 : List am_I := [(.ifCond .eq 20, 3, 0, 0, 0), (.aload_n 0, 1, 0, 0, 0), (.aload 5, 2, 0, 0, 0)]
set_option maxRecDepth 20000 in
theorem o_L_isRound_292 : am_okB mt_L_isRound 292 k_L_isRound_292 = true := by decide +kernel
theorem g_L_isRound_292 {L : am_S} (hL : L.1 < 2 ^ 31) {n : Nat} {ls st : List Value} {M : am_M} {Q : am_Q} (h : am_B L mt_L_isRound k_L_isRound_292 n 292 ls st M Q) : am_R L mt_L_isRound n 292 ls st M Q := am_go L mt_L_isRound (fun _ => hL) k_L_isRound_292 n 292 ls st M Q o_L_isRound_292 h
set_option maxRecDepth 20000 in
theorem o_L_isRound_298 : am_ckS mt_L_isRound mt_L_isLook 298 136 543 544 2 = true := by decide +kernel
theorem x_L_isRound_298 {L : am_S} {n : Nat} {ls st r p0 av : List Value} {M : am_M} {Q : am_Q} (hn : mt_c mt_L_isLook ≤ n) (hL : mt_w mt_L_isLook = true → L.1 = mt_x mt_L_isLook) (hst : st = p0 ++ r) (hav : av = p0.reverse) (hlen : av.length = 2) (hcat : am_cat r ≤ 8) (C : am_C mt_L_isLook av M (fun oc M' => ∃ v, oc = .inl v ∧ am_R L mt_L_isRound (if mt_g mt_L_isLook then n - mt_c mt_L_isLook else n) (298 + 3) ls (v.toList ++ r) M' Q)) : am_R L mt_L_isRound n 298 ls st M Q := am_R_special om_L_isLook hn (by decide) (fun h => ⟨rfl, hL h⟩) o_L_isRound_298 hst hav hlen hcat C
def k_L_isRound_301 : List am_I := [(.ifCond .ne 11, 3, 0, 0, 0), (.aload_n 0, 1, 0, 0, 0), (.iconst 1, 1, 0, 0, 0), (.invokestatic 123, 3, 65, 2, 319), (.ifCond .ge 5, 3, 0, 0, 0)]
set_option maxRecDepth 20000 in
theorem o_L_isRound_301 : am_okB mt_L_isRound 301 k_L_isRound_301 = true := by decide +kernel
theorem g_L_isRound_301 {L : am_S} (hL : L.1 < 2 ^ 31) {n : Nat} {ls st : List Value} {M : am_M} {Q : am_Q} (h : am_B L mt_L_isRound k_L_isRound_301 n 301 ls st M Q) : am_R L mt_L_isRound n 301 ls st M Q := am_go L mt_L_isRound (fun _ => hL) k_L_isRound_301 n 301 ls st M Q o_L_isRound_301 h
def k_L_isRound_312 : List am_I := [(.iconst 0, 1, 0, 0, 0), (.ireturn, 1, 0, 0, 0)]
set_option maxRecDepth 20000 in
theorem o_L_isRound_312 : am_okB mt_L_isRound 312 k_L_isRound_312 = true := by decide +kernel
theorem g_L_isRound_312 {L : am_S} (hL : L.1 < 2 ^ 31) {n : Nat} {ls st : List Value} {M : am_M} {Q : am_Q} (h : am_B L mt_L_isRound k_L_isRound_312 n 312 ls st M Q) : am_R L mt_L_isRound n 312 ls st M Q := am_go L mt_L_isRound (fun _ => hL) k_L_isRound_312 n 312 ls st M Q o_L_isRound_312 h
def k_L_isRound_314 : List am_I := [(.aload_n 0, 1, 0, 0, 0), (.invokestatic 111, 3, 68, 1, 358), (.lload_n 1, 1, 0, 0, 0), (.lcmp, 1, 0, 0, 0), (.ifCond .ne 7, 3, 0, 0, 0), (.iconst 1, 1, 0, 0, 0), (.goto 4, 3, 0, 0, 0)]
set_option maxRecDepth 20000 in
theorem o_L_isRound_314 : am_okB mt_L_isRound 314 k_L_isRound_314 = true := by decide +kernel
theorem g_L_isRound_314 {L : am_S} (hL : L.1 < 2 ^ 31) {n : Nat} {ls st : List Value} {M : am_M} {Q : am_Q} (h : am_B L mt_L_isRound k_L_isRound_314 n 314 ls st M Q) : am_R L mt_L_isRound n 314 ls st M Q := am_go L mt_L_isRound (fun _ => hL) k_L_isRound_314 n 314 ls st M Q o_L_isRound_314 h
def k_L_isRound_327 : List am_I := [(.iconst 0, 1, 0, 0, 0)]
set_option maxRecDepth 20000 in
theorem o_L_isRound_327 : am_okB mt_L_isRound 327 k_L_isRound_327 = true := by decide +kernel
theorem g_L_isRound_327 {L : am_S} (hL : L.1 < 2 ^ 31) {n : Nat} {ls st : List Value} {M : am_M} {Q : am_Q} (h : am_B L mt_L_isRound k_L_isRound_327 n 327 ls st M Q) : am_R L mt_L_isRound n 327 ls st M Q := am_go L mt_L_isRound (fun _ => hL) k_L_isRound_327 n 327 ls st M Q o_L_isRound_327 h
def k_L_isRound_328 : List am_I := [(.ireturn, 1, 0, 0, 0)]
set_option maxRecDepth 20000 in
theorem o_L_isRound_328 : am_okB mt_L_isRound 328 k_L_isRound_328 = true := by decide +kernel
theorem g_L_isRound_328 {L : am_S} (hL : L.1 < 2 ^ 31) {n : Nat} {ls st : List Value} {M : am_M} {Q : am_Q} (h : am_B L mt_L_isRound k_L_isRound_328 n 328 ls st M Q) : am_R L mt_L_isRound n 328 ls st M Q := am_go L mt_L_isRound (fun _ => hL) k_L_isRound_328 n 328 ls st M Q o_L_isRound_328 h
def k_L_isMain_0 : List am_I := [(.aload_n 0, 1, 0, 0, 0), (.invokestatic 111, 3, 68, 1, 358), (.lstore_n 1, 1, 0, 0, 0), (.aload_n 0, 1, 0, 0, 0), (.invokevirtual 140, 3, 44, 1, 303), (.istore_n 3, 1, 0, 0, 0), (.iconst (-1), 1, 0, 0, 0), (.istore 4, 2, 0, 0, 0), (.iconst 0, 1, 0, 0, 0), (.istore 5, 2, 0, 0, 0), (.aload_n 0, 1, 0, 0, 0), (.iconst 2, 1, 0, 0, 0), (.invokevirtual 62, 3, 40, 2, 363), (.istore 6, 2, 0, 0, 0), (.iconst 0, 1, 0, 0, 0), (.istore 7, 2, 0, 0, 0)]
set_option maxRecDepth 20000 in
theorem o_L_isMain_0 : am_okB mt_L_isMain 0 k_L_isMain_0 = true := by decide +kernel
theorem g_L_isMain_0 {L : am_S} {n : Nat} {ls st : List Value} {M : am_M} {Q : am_Q} (h : am_B L mt_L_isMain k_L_isMain_0 n 0 ls st M Q) : am_R L mt_L_isMain n 0 ls st M Q := am_go L mt_L_isMain (fun h => by cases h) k_L_isMain_0 n 0 ls st M Q o_L_isMain_0 h
def k_L_isMain_26 : List am_I := [(.iload 7, 2, 0, 0, 0), (.iload 6, 2, 0, 0, 0), (.if_icmp .ge 90, 3, 0, 0, 0), (.aload_n 0, 1, 0, 0, 0), (.iload 7, 2, 0, 0, 0), (.invokestatic 99, 3, 61, 2, 483), (.iload 6, 2, 0, 0, 0), (.iconst 1, 1, 0, 0, 0), (.isub, 1, 0, 0, 0), (.if_icmp .eq 5, 3, 0, 0, 0), (.iconst 0, 1, 0, 0, 0), (.ireturn, 1, 0, 0, 0)]
set_option maxRecDepth 20000 in
theorem o_L_isMain_26 : am_okB mt_L_isMain 26 k_L_isMain_26 = true := by decide +kernel
theorem g_L_isMain_26 {L : am_S} {n : Nat} {ls st : List Value} {M : am_M} {Q : am_Q} (h : am_B L mt_L_isMain k_L_isMain_26 n 26 ls st M Q) : am_R L mt_L_isMain n 26 ls st M Q := am_go L mt_L_isMain (fun h => by cases h) k_L_isMain_26 n 26 ls st M Q o_L_isMain_26 h
def k_L_isMain_48 : List am_I := [(.aload_n 0, 1, 0, 0, 0), (.bipush 24, 2, 0, 0, 0), (.invokestatic 105, 3, 64, 2, 505), (.istore 8, 2, 0, 0, 0), (.iload 8, 2, 0, 0, 0), (.ifCond .lt 17, 3, 0, 0, 0), (.aload_n 0, 1, 0, 0, 0), (.invokestatic 143, 3, 66, 1, 350), (.ifCond .lt 10, 3, 0, 0, 0), (.aload_n 0, 1, 0, 0, 0), (.invokestatic 143, 3, 66, 1, 350), (.ifCond .ge 5, 3, 0, 0, 0)]
set_option maxRecDepth 20000 in
theorem o_L_isMain_48 : am_okB mt_L_isMain 48 k_L_isMain_48 = true := by decide +kernel
theorem g_L_isMain_48 {L : am_S} {n : Nat} {ls st : List Value} {M : am_M} {Q : am_Q} (h : am_B L mt_L_isMain k_L_isMain_48 n 48 ls st M Q) : am_R L mt_L_isMain n 48 ls st M Q := am_go L mt_L_isMain (fun h => by cases h) k_L_isMain_48 n 48 ls st M Q o_L_isMain_48 h
def k_L_isMain_75 : List am_I := [(.iconst 0, 1, 0, 0, 0), (.ireturn, 1, 0, 0, 0)]
set_option maxRecDepth 20000 in
theorem o_L_isMain_75 : am_okB mt_L_isMain 75 k_L_isMain_75 = true := by decide +kernel
theorem g_L_isMain_75 {L : am_S} {n : Nat} {ls st : List Value} {M : am_M} {Q : am_Q} (h : am_B L mt_L_isMain k_L_isMain_75 n 75 ls st M Q) : am_R L mt_L_isMain n 75 ls st M Q := am_go L mt_L_isMain (fun h => by cases h) k_L_isMain_75 n 75 ls st M Q o_L_isMain_75 h
def k_L_isMain_77 : List am_I := [(.iload 4, 2, 0, 0, 0), (.ifCond .lt 10, 3, 0, 0, 0), (.iload 8, 2, 0, 0, 0), (.iload 5, 2, 0, 0, 0), (.if_icmp .ge 8, 3, 0, 0, 0)]
set_option maxRecDepth 20000 in
theorem o_L_isMain_77 : am_okB mt_L_isMain 77 k_L_isMain_77 = true := by decide +kernel
theorem g_L_isMain_77 {L : am_S} {n : Nat} {ls st : List Value} {M : am_M} {Q : am_Q} (h : am_B L mt_L_isMain k_L_isMain_77 n 77 ls st M Q) : am_R L mt_L_isMain n 77 ls st M Q := am_go L mt_L_isMain (fun h => by cases h) k_L_isMain_77 n 77 ls st M Q o_L_isMain_77 h
def k_L_isMain_89 : List am_I := [(.iload 7, 2, 0, 0, 0), (.goto 5, 3, 0, 0, 0)]
set_option maxRecDepth 20000 in
theorem o_L_isMain_89 : am_okB mt_L_isMain 89 k_L_isMain_89 = true := by decide +kernel
theorem g_L_isMain_89 {L : am_S} {n : Nat} {ls st : List Value} {M : am_M} {Q : am_Q} (h : am_B L mt_L_isMain k_L_isMain_89 n 89 ls st M Q) : am_R L mt_L_isMain n 89 ls st M Q := am_go L mt_L_isMain (fun h => by cases h) k_L_isMain_89 n 89 ls st M Q o_L_isMain_89 h
def k_L_isMain_94 : List am_I := [(.iload 4, 2, 0, 0, 0)]
set_option maxRecDepth 20000 in
theorem o_L_isMain_94 : am_okB mt_L_isMain 94 k_L_isMain_94 = true := by decide +kernel
theorem g_L_isMain_94 {L : am_S} {n : Nat} {ls st : List Value} {M : am_M} {Q : am_Q} (h : am_B L mt_L_isMain k_L_isMain_94 n 94 ls st M Q) : am_R L mt_L_isMain n 94 ls st M Q := am_go L mt_L_isMain (fun h => by cases h) k_L_isMain_94 n 94 ls st M Q o_L_isMain_94 h
def k_L_isMain_96 : List am_I := [(.istore 4, 2, 0, 0, 0), (.iload 4, 2, 0, 0, 0), (.iload 7, 2, 0, 0, 0), (.if_icmp .ne 8, 3, 0, 0, 0), (.iload 8, 2, 0, 0, 0), (.goto 5, 3, 0, 0, 0)]
set_option maxRecDepth 20000 in
theorem o_L_isMain_96 : am_okB mt_L_isMain 96 k_L_isMain_96 = true := by decide +kernel
theorem g_L_isMain_96 {L : am_S} {n : Nat} {ls st : List Value} {M : am_M} {Q : am_Q} (h : am_B L mt_L_isMain k_L_isMain_96 n 96 ls st M Q) : am_R L mt_L_isMain n 96 ls st M Q := am_go L mt_L_isMain (fun h => by cases h) k_L_isMain_96 n 96 ls st M Q o_L_isMain_96 h
def k_L_isMain_110 : List am_I := [(.iload 5, 2, 0, 0, 0)]
set_option maxRecDepth 20000 in
theorem o_L_isMain_110 : am_okB mt_L_isMain 110 k_L_isMain_110 = true := by decide +kernel
theorem g_L_isMain_110 {L : am_S} {n : Nat} {ls st : List Value} {M : am_M} {Q : am_Q} (h : am_B L mt_L_isMain k_L_isMain_110 n 110 ls st M Q) : am_R L mt_L_isMain n 110 ls st M Q := am_go L mt_L_isMain (fun h => by cases h) k_L_isMain_110 n 110 ls st M Q o_L_isMain_110 h
def k_L_isMain_112 : List am_I := [(.istore 5, 2, 0, 0, 0), (.iinc 7 1, 3, 0, 0, 0), (.goto (-91), 3, 0, 0, 0)]
set_option maxRecDepth 20000 in
theorem o_L_isMain_112 : am_okB mt_L_isMain 112 k_L_isMain_112 = true := by decide +kernel
theorem g_L_isMain_112 {L : am_S} {n : Nat} {ls st : List Value} {M : am_M} {Q : am_Q} (h : am_B L mt_L_isMain k_L_isMain_112 n 112 ls st M Q) : am_R L mt_L_isMain n 112 ls st M Q := am_go L mt_L_isMain (fun h => by cases h) k_L_isMain_112 n 112 ls st M Q o_L_isMain_112 h
def k_L_isMain_120 : List am_I := [(.iload_n 3, 1, 0, 0, 0), (.iload 4, 2, 0, 0, 0), (.if_icmp .ne 16, 3, 0, 0, 0), (.aload_n 0, 1, 0, 0, 0), (.invokestatic 111, 3, 68, 1, 358), (.lload_n 1, 1, 0, 0, 0), (.lcmp, 1, 0, 0, 0), (.ifCond .ne 7, 3, 0, 0, 0), (.iconst 1, 1, 0, 0, 0), (.goto 4, 3, 0, 0, 0)]
set_option maxRecDepth 20000 in
theorem o_L_isMain_120 : am_okB mt_L_isMain 120 k_L_isMain_120 = true := by decide +kernel
theorem g_L_isMain_120 {L : am_S} {n : Nat} {ls st : List Value} {M : am_M} {Q : am_Q} (h : am_B L mt_L_isMain k_L_isMain_120 n 120 ls st M Q) : am_R L mt_L_isMain n 120 ls st M Q := am_go L mt_L_isMain (fun h => by cases h) k_L_isMain_120 n 120 ls st M Q o_L_isMain_120 h
def k_L_isMain_139 : List am_I := [(.iconst 0, 1, 0, 0, 0)]
set_option maxRecDepth 20000 in
theorem o_L_isMain_139 : am_okB mt_L_isMain 139 k_L_isMain_139 = true := by decide +kernel
theorem g_L_isMain_139 {L : am_S} {n : Nat} {ls st : List Value} {M : am_M} {Q : am_Q} (h : am_B L mt_L_isMain k_L_isMain_139 n 139 ls st M Q) : am_R L mt_L_isMain n 139 ls st M Q := am_go L mt_L_isMain (fun h => by cases h) k_L_isMain_139 n 139 ls st M Q o_L_isMain_139 h
def k_L_isMain_140 : List am_I := [(.ireturn, 1, 0, 0, 0)]
set_option maxRecDepth 20000 in
theorem o_L_isMain_140 : am_okB mt_L_isMain 140 k_L_isMain_140 = true := by decide +kernel
theorem g_L_isMain_140 {L : am_S} {n : Nat} {ls st : List Value} {M : am_M} {Q : am_Q} (h : am_B L mt_L_isMain k_L_isMain_140 n 140 ls st M Q) : am_R L mt_L_isMain n 140 ls st M Q := am_go L mt_L_isMain (fun h => by cases h) k_L_isMain_140 n 140 ls st M Q o_L_isMain_140 h
def k_L_law_8 : List am_I := [(.aload_n 1, 1, 0, 0, 0), (.iconst 0, 1, 0, 0, 0), (.invokevirtual 125, 3, 43, 2, 257), (.iconst 1, 1, 0, 0, 0), (.if_icmp .ne 53, 3, 0, 0, 0), (.aload_n 1, 1, 0, 0, 0), (.iconst 1, 1, 0, 0, 0), (.invokevirtual 125, 3, 43, 2, 257), (.ifCond .ne 45, 3, 0, 0, 0), (.aload_n 1, 1, 0, 0, 0), (.invokevirtual 140, 3, 44, 1, 303), (.iconst (-1), 1, 0, 0, 0), (.if_icmp .ne 37, 3, 0, 0, 0), (.aload_n 1, 1, 0, 0, 0), (.iconst 0, 1, 0, 0, 0), (.invokevirtual 115, 3, 42, 2, 133), (.ifCond .ne 29, 3, 0, 0, 0), (.aload_n 1, 1, 0, 0, 0), (.invokestatic 143, 3, 66, 1, 350), (.bipush (-33), 2, 0, 0, 0), (.if_icmp .ne 20, 3, 0, 0, 0), (.aload_n 1, 1, 0, 0, 0), (.iconst 1, 1, 0, 0, 0), (.invokestatic 123, 3, 65, 2, 319), (.bipush (-33), 2, 0, 0, 0), (.if_icmp .ne 10, 3, 0, 0, 0), (.aload_n 1, 1, 0, 0, 0), (.invokestatic 147, 3, 70, 1, 513), (.ifCond .ne 5, 3, 0, 0, 0)]
set_option maxRecDepth 20000 in
theorem o_L_law_8 : am_okB mt_L_law 8 k_L_law_8 = true := by decide +kernel
theorem g_L_law_8 {L : am_S} (hL : L.1 < 2 ^ 31) {n : Nat} {ls st : List Value} {M : am_M} {Q : am_Q} (h : am_B L mt_L_law k_L_law_8 n 8 ls st M Q) : am_R L mt_L_law n 8 ls st M Q := am_go L mt_L_law (fun _ => hL) k_L_law_8 n 8 ls st M Q o_L_law_8 h
def k_L_law_67 : List am_I := [(.iconst 0, 1, 0, 0, 0), (.ireturn, 1, 0, 0, 0)]
set_option maxRecDepth 20000 in
theorem o_L_law_67 : am_okB mt_L_law 67 k_L_law_67 = true := by decide +kernel
theorem g_L_law_67 {L : am_S} (hL : L.1 < 2 ^ 31) {n : Nat} {ls st : List Value} {M : am_M} {Q : am_Q} (h : am_B L mt_L_law k_L_law_67 n 67 ls st M Q) : am_R L mt_L_law n 67 ls st M Q := am_go L mt_L_law (fun _ => hL) k_L_law_67 n 67 ls st M Q o_L_law_67 h
def k_L_law_69 : List am_I := [(.iconst 0, 1, 0, 0, 0), (.istore_n 2, 1, 0, 0, 0)]
set_option maxRecDepth 20000 in
theorem o_L_law_69 : am_okB mt_L_law 69 k_L_law_69 = true := by decide +kernel
theorem g_L_law_69 {L : am_S} (hL : L.1 < 2 ^ 31) {n : Nat} {ls st : List Value} {M : am_M} {Q : am_Q} (h : am_B L mt_L_law k_L_law_69 n 69 ls st M Q) : am_R L mt_L_law n 69 ls st M Q := am_go L mt_L_law (fun _ => hL) k_L_law_69 n 69 ls st M Q o_L_law_69 h
def k_L_law_71 : List am_I := [(.iload_n 2, 1, 0, 0, 0), (.bipush 30, 2, 0, 0, 0), (.if_icmp .ge 161, 3, 0, 0, 0), (.aload_n 0, 1, 0, 0, 0), (.iconst 2, 1, 0, 0, 0), (.iload_n 2, 1, 0, 0, 0), (.imul, 1, 0, 0, 0)]
set_option maxRecDepth 20000 in
theorem o_L_law_71 : am_okB mt_L_law 71 k_L_law_71 = true := by decide +kernel
theorem g_L_law_71 {L : am_S} (hL : L.1 < 2 ^ 31) {n : Nat} {ls st : List Value} {M : am_M} {Q : am_Q} (h : am_B L mt_L_law k_L_law_71 n 71 ls st M Q) : am_R L mt_L_law n 71 ls st M Q := am_go L mt_L_law (fun _ => hL) k_L_law_71 n 71 ls st M Q o_L_law_71 h
def k_L_law_84 : List am_I := [(.istore_n 3, 1, 0, 0, 0), (.aload_n 0, 1, 0, 0, 0), (.iconst 2, 1, 0, 0, 0), (.iload_n 2, 1, 0, 0, 0), (.imul, 1, 0, 0, 0), (.iconst 1, 1, 0, 0, 0), (.iadd, 1, 0, 0, 0)]
set_option maxRecDepth 20000 in
theorem o_L_law_84 : am_okB mt_L_law 84 k_L_law_84 = true := by decide +kernel
theorem g_L_law_84 {L : am_S} (hL : L.1 < 2 ^ 31) {n : Nat} {ls st : List Value} {M : am_M} {Q : am_Q} (h : am_B L mt_L_law k_L_law_84 n 84 ls st M Q) : am_R L mt_L_law n 84 ls st M Q := am_go L mt_L_law (fun _ => hL) k_L_law_84 n 84 ls st M Q o_L_law_84 h
def k_L_law_94 : List am_I := [(.istore 4, 2, 0, 0, 0), (.iload_n 2, 1, 0, 0, 0), (.iconst 5, 1, 0, 0, 0), (.irem, 1, 0, 0, 0), (.ifCond .ne 10, 3, 0, 0, 0), (.aload_n 1, 1, 0, 0, 0), (.invokestatic 111, 3, 68, 1, 358), (.goto 4, 3, 0, 0, 0)]
set_option maxRecDepth 20000 in
theorem o_L_law_94 : am_okB mt_L_law 94 k_L_law_94 = true := by decide +kernel
theorem g_L_law_94 {L : am_S} (hL : L.1 < 2 ^ 31) {n : Nat} {ls st : List Value} {M : am_M} {Q : am_Q} (h : am_B L mt_L_law k_L_law_94 n 94 ls st M Q) : am_R L mt_L_law n 94 ls st M Q := am_go L mt_L_law (fun _ => hL) k_L_law_94 n 94 ls st M Q o_L_law_94 h
def k_L_law_109 : List am_I := [(.lconst 0, 1, 0, 0, 0)]
set_option maxRecDepth 20000 in
theorem o_L_law_109 : am_okB mt_L_law 109 k_L_law_109 = true := by decide +kernel
theorem g_L_law_109 {L : am_S} (hL : L.1 < 2 ^ 31) {n : Nat} {ls st : List Value} {M : am_M} {Q : am_Q} (h : am_B L mt_L_law k_L_law_109 n 109 ls st M Q) : am_R L mt_L_law n 109 ls st M Q := am_go L mt_L_law (fun _ => hL) k_L_law_109 n 109 ls st M Q o_L_law_109 h
def k_L_law_110 : List am_I := [(.lstore 5, 2, 0, 0, 0), (.aload_n 1, 1, 0, 0, 0), (.iload_n 2, 1, 0, 0, 0), (.iconst 3, 1, 0, 0, 0), (.if_icmp .ge 7, 3, 0, 0, 0), (.iconst 0, 1, 0, 0, 0), (.goto 4, 3, 0, 0, 0)]
set_option maxRecDepth 20000 in
theorem o_L_law_110 : am_okB mt_L_law 110 k_L_law_110 = true := by decide +kernel
theorem g_L_law_110 {L : am_S} (hL : L.1 < 2 ^ 31) {n : Nat} {ls st : List Value} {M : am_M} {Q : am_Q} (h : am_B L mt_L_law k_L_law_110 n 110 ls st M Q) : am_R L mt_L_law n 110 ls st M Q := am_go L mt_L_law (fun _ => hL) k_L_law_110 n 110 ls st M Q o_L_law_110 h
def k_L_law_122 : List am_I := [(.iload_n 3, 1, 0, 0, 0)]
set_option maxRecDepth 20000 in
theorem o_L_law_122 : am_okB mt_L_law 122 k_L_law_122 = true := by decide +kernel
theorem g_L_law_122 {L : am_S} (hL : L.1 < 2 ^ 31) {n : Nat} {ls st : List Value} {M : am_M} {Q : am_Q} (h : am_B L mt_L_law k_L_law_122 n 122 ls st M Q) : am_R L mt_L_law n 122 ls st M Q := am_go L mt_L_law (fun _ => hL) k_L_law_122 n 122 ls st M Q o_L_law_122 h
def k_L_law_123 : List am_I := [(.iload 4, 2, 0, 0, 0), (.invokestatic 155, 3, 69, 3, 429), (.istore 7, 2, 0, 0, 0), (.iload_n 2, 1, 0, 0, 0), (.iconst 5, 1, 0, 0, 0), (.irem, 1, 0, 0, 0), (.ifCond .ne 19, 3, 0, 0, 0), (.iload 7, 2, 0, 0, 0), (.iconst (-1), 1, 0, 0, 0), (.if_icmp .ge 13, 3, 0, 0, 0), (.aload_n 1, 1, 0, 0, 0), (.invokestatic 111, 3, 68, 1, 358), (.lload 5, 2, 0, 0, 0), (.lcmp, 1, 0, 0, 0), (.ifCond .ne 10, 3, 0, 0, 0)]
set_option maxRecDepth 20000 in
theorem o_L_law_123 : am_okB mt_L_law 123 k_L_law_123 = true := by decide +kernel
theorem g_L_law_123 {L : am_S} (hL : L.1 < 2 ^ 31) {n : Nat} {ls st : List Value} {M : am_M} {Q : am_Q} (h : am_B L mt_L_law k_L_law_123 n 123 ls st M Q) : am_R L mt_L_law n 123 ls st M Q := am_go L mt_L_law (fun _ => hL) k_L_law_123 n 123 ls st M Q o_L_law_123 h
def k_L_law_152 : List am_I := [(.aload_n 1, 1, 0, 0, 0), (.invokestatic 147, 3, 70, 1, 513), (.ifCond .ne 5, 3, 0, 0, 0)]
set_option maxRecDepth 20000 in
theorem o_L_law_152 : am_okB mt_L_law 152 k_L_law_152 = true := by decide +kernel
theorem g_L_law_152 {L : am_S} (hL : L.1 < 2 ^ 31) {n : Nat} {ls st : List Value} {M : am_M} {Q : am_Q} (h : am_B L mt_L_law k_L_law_152 n 152 ls st M Q) : am_R L mt_L_law n 152 ls st M Q := am_go L mt_L_law (fun _ => hL) k_L_law_152 n 152 ls st M Q o_L_law_152 h
def k_L_law_159 : List am_I := [(.iconst 0, 1, 0, 0, 0), (.ireturn, 1, 0, 0, 0)]
set_option maxRecDepth 20000 in
theorem o_L_law_159 : am_okB mt_L_law 159 k_L_law_159 = true := by decide +kernel
theorem g_L_law_159 {L : am_S} (hL : L.1 < 2 ^ 31) {n : Nat} {ls st : List Value} {M : am_M} {Q : am_Q} (h : am_B L mt_L_law k_L_law_159 n 159 ls st M Q) : am_R L mt_L_law n 159 ls st M Q := am_go L mt_L_law (fun _ => hL) k_L_law_159 n 159 ls st M Q o_L_law_159 h
def k_L_law_161 : List am_I := [(.iload_n 2, 1, 0, 0, 0), (.bipush 6, 2, 0, 0, 0), (.irem, 1, 0, 0, 0), (.iconst 3, 1, 0, 0, 0), (.if_icmp .ne 29, 3, 0, 0, 0), (.aload_n 1, 1, 0, 0, 0), (.iconst 1, 1, 0, 0, 0), (.iload_n 3, 1, 0, 0, 0), (.iconst 5, 1, 0, 0, 0), (.ishr, 1, 0, 0, 0), (.sipush 240, 3, 0, 0, 0), (.invokestatic 80, 3, 55, 2, 315), (.iadd, 1, 0, 0, 0), (.iload_n 3, 1, 0, 0, 0), (.bipush 13, 2, 0, 0, 0), (.ishr, 1, 0, 0, 0), (.iconst 5, 1, 0, 0, 0), (.invokestatic 80, 3, 55, 2, 315)]
set_option maxRecDepth 20000 in
theorem o_L_law_161 : am_okB mt_L_law 161 k_L_law_161 = true := by decide +kernel
theorem g_L_law_161 {L : am_S} (hL : L.1 < 2 ^ 31) {n : Nat} {ls st : List Value} {M : am_M} {Q : am_Q} (h : am_B L mt_L_law k_L_law_161 n 161 ls st M Q) : am_R L mt_L_law n 161 ls st M Q := am_go L mt_L_law (fun _ => hL) k_L_law_161 n 161 ls st M Q o_L_law_161 h
set_option maxRecDepth 20000 in
theorem o_L_law_189 : am_ckS mt_L_law mt_L_isAhead 189 158 520 521 3 = true := by decide +kernel
theorem x_L_law_189 {L : am_S} {n : Nat} {ls st r p0 av : List Value} {M : am_M} {Q : am_Q} (hn : mt_c mt_L_isAhead ≤ n) (hL : mt_w mt_L_isAhead = true → L.1 = mt_x mt_L_isAhead) (hst : st = p0 ++ r) (hav : av = p0.reverse) (hlen : av.length = 3) (hcat : am_cat r ≤ 8) (C : am_C mt_L_isAhead av M (fun oc M' => ∃ v, oc = .inl v ∧ am_R L mt_L_law (if mt_g mt_L_isAhead then n - mt_c mt_L_isAhead else n) (189 + 3) ls (v.toList ++ r) M' Q)) : am_R L mt_L_law n 189 ls st M Q := am_R_special om_L_isAhead hn (by decide) (fun h => ⟨rfl, hL h⟩) o_L_law_189 hst hav hlen hcat C
def k_L_law_192 : List am_I := [(.ifCond .eq 35, 3, 0, 0, 0)]
set_option maxRecDepth 20000 in
theorem o_L_law_192 : am_okB mt_L_law 192 k_L_law_192 = true := by decide +kernel
theorem g_L_law_192 {L : am_S} (hL : L.1 < 2 ^ 31) {n : Nat} {ls st : List Value} {M : am_M} {Q : am_Q} (h : am_B L mt_L_law k_L_law_192 n 192 ls st M Q) : am_R L mt_L_law n 192 ls st M Q := am_go L mt_L_law (fun _ => hL) k_L_law_192 n 192 ls st M Q o_L_law_192 h
def k_L_law_195 : List am_I := [(.iload_n 2, 1, 0, 0, 0), (.bipush 15, 2, 0, 0, 0), (.irem, 1, 0, 0, 0), (.bipush 14, 2, 0, 0, 0), (.if_icmp .ne 10, 3, 0, 0, 0), (.aload_n 1, 1, 0, 0, 0)]
set_option maxRecDepth 20000 in
theorem o_L_law_195 : am_okB mt_L_law 195 k_L_law_195 = true := by decide +kernel
theorem g_L_law_195 {L : am_S} (hL : L.1 < 2 ^ 31) {n : Nat} {ls st : List Value} {M : am_M} {Q : am_Q} (h : am_B L mt_L_law k_L_law_195 n 195 ls st M Q) : am_R L mt_L_law n 195 ls st M Q := am_go L mt_L_law (fun _ => hL) k_L_law_195 n 195 ls st M Q o_L_law_195 h
set_option maxRecDepth 20000 in
theorem o_L_law_205 : am_ckS mt_L_law mt_L_isRound 205 162 534 535 1 = true := by decide +kernel
theorem x_L_law_205 {L : am_S} {n : Nat} {ls st r p0 av : List Value} {M : am_M} {Q : am_Q} (hn : mt_c mt_L_isRound ≤ n) (hL : mt_w mt_L_isRound = true → L.1 = mt_x mt_L_isRound) (hst : st = p0 ++ r) (hav : av = p0.reverse) (hlen : av.length = 1) (hcat : am_cat r ≤ 8) (C : am_C mt_L_isRound av M (fun oc M' => ∃ v, oc = .inl v ∧ am_R L mt_L_law (if mt_g mt_L_isRound then n - mt_c mt_L_isRound else n) (205 + 3) ls (v.toList ++ r) M' Q)) : am_R L mt_L_law n 205 ls st M Q := am_R_special om_L_isRound hn (by decide) (fun h => ⟨rfl, hL h⟩) o_L_law_205 hst hav hlen hcat C
def k_L_law_208 : List am_I := [(.ifCond .eq 19, 3, 0, 0, 0)]
set_option maxRecDepth 20000 in
theorem o_L_law_208 : am_okB mt_L_law 208 k_L_law_208 = true := by decide +kernel
theorem g_L_law_208 {L : am_S} (hL : L.1 < 2 ^ 31) {n : Nat} {ls st : List Value} {M : am_M} {Q : am_Q} (h : am_B L mt_L_law k_L_law_208 n 208 ls st M Q) : am_R L mt_L_law n 208 ls st M Q := am_go L mt_L_law (fun _ => hL) k_L_law_208 n 208 ls st M Q o_L_law_208 h
def k_L_law_211 : List am_I := [(.iload_n 2, 1, 0, 0, 0), (.bipush 8, 2, 0, 0, 0), (.irem, 1, 0, 0, 0), (.bipush 7, 2, 0, 0, 0), (.if_icmp .ne 12, 3, 0, 0, 0), (.aload_n 1, 1, 0, 0, 0)]
set_option maxRecDepth 20000 in
theorem o_L_law_211 : am_okB mt_L_law 211 k_L_law_211 = true := by decide +kernel
theorem g_L_law_211 {L : am_S} (hL : L.1 < 2 ^ 31) {n : Nat} {ls st : List Value} {M : am_M} {Q : am_Q} (h : am_B L mt_L_law k_L_law_211 n 211 ls st M Q) : am_R L mt_L_law n 211 ls st M Q := am_go L mt_L_law (fun _ => hL) k_L_law_211 n 211 ls st M Q o_L_law_211 h
set_option maxRecDepth 20000 in
theorem o_L_law_221 : am_ckS mt_L_law mt_L_isMain 221 165 546 547 1 = true := by decide +kernel
theorem x_L_law_221 {L : am_S} {n : Nat} {ls st r p0 av : List Value} {M : am_M} {Q : am_Q} (hn : mt_c mt_L_isMain ≤ n) (hL : mt_w mt_L_isMain = true → L.1 = mt_x mt_L_isMain) (hst : st = p0 ++ r) (hav : av = p0.reverse) (hlen : av.length = 1) (hcat : am_cat r ≤ 8) (C : am_C mt_L_isMain av M (fun oc M' => ∃ v, oc = .inl v ∧ am_R L mt_L_law (if mt_g mt_L_isMain then n - mt_c mt_L_isMain else n) (221 + 3) ls (v.toList ++ r) M' Q)) : am_R L mt_L_law n 221 ls st M Q := am_R_special om_L_isMain hn (by decide) (fun h => ⟨rfl, hL h⟩) o_L_law_221 hst hav hlen hcat C
def k_L_law_224 : List am_I := [(.ifCond .ne 5, 3, 0, 0, 0)]
set_option maxRecDepth 20000 in
theorem o_L_law_224 : am_okB mt_L_law 224 k_L_law_224 = true := by decide +kernel
theorem g_L_law_224 {L : am_S} (hL : L.1 < 2 ^ 31) {n : Nat} {ls st : List Value} {M : am_M} {Q : am_Q} (h : am_B L mt_L_law k_L_law_224 n 224 ls st M Q) : am_R L mt_L_law n 224 ls st M Q := am_go L mt_L_law (fun _ => hL) k_L_law_224 n 224 ls st M Q o_L_law_224 h
def k_L_law_227 : List am_I := [(.iconst 0, 1, 0, 0, 0), (.ireturn, 1, 0, 0, 0)]
set_option maxRecDepth 20000 in
theorem o_L_law_227 : am_okB mt_L_law 227 k_L_law_227 = true := by decide +kernel
theorem g_L_law_227 {L : am_S} (hL : L.1 < 2 ^ 31) {n : Nat} {ls st : List Value} {M : am_M} {Q : am_Q} (h : am_B L mt_L_law k_L_law_227 n 227 ls st M Q) : am_R L mt_L_law n 227 ls st M Q := am_go L mt_L_law (fun _ => hL) k_L_law_227 n 227 ls st M Q o_L_law_227 h
def k_L_law_229 : List am_I := [(.iinc 2 1, 3, 0, 0, 0), (.goto (-161), 3, 0, 0, 0)]
set_option maxRecDepth 20000 in
theorem o_L_law_229 : am_okB mt_L_law 229 k_L_law_229 = true := by decide +kernel
theorem g_L_law_229 {L : am_S} (hL : L.1 < 2 ^ 31) {n : Nat} {ls st : List Value} {M : am_M} {Q : am_Q} (h : am_B L mt_L_law k_L_law_229 n 229 ls st M Q) : am_R L mt_L_law n 229 ls st M Q := am_go L mt_L_law (fun _ => hL) k_L_law_229 n 229 ls st M Q o_L_law_229 h
def k_L_law_235 : List am_I := [(.iconst 1, 1, 0, 0, 0), (.ireturn, 1, 0, 0, 0)]
set_option maxRecDepth 20000 in
theorem o_L_law_235 : am_okB mt_L_law 235 k_L_law_235 = true := by decide +kernel
theorem g_L_law_235 {L : am_S} (hL : L.1 < 2 ^ 31) {n : Nat} {ls st : List Value} {M : am_M} {Q : am_Q} (h : am_B L mt_L_law k_L_law_235 n 235 ls st M Q) : am_R L mt_L_law n 235 ls st M Q := am_go L mt_L_law (fun _ => hL) k_L_law_235 n 235 ls st M Q o_L_law_235 h
